theorem wm_iadd {g : GE} {d : MD} {pc : Nat} {ls : List (Option Value)} {st : List Value} {h : HP} {Q : Option Value → HP → Prop} {x y : Int32} (pc' : Nat) (hd : decode (dB d) pc = .ok (.iadd, 1)) (hp : pc + 1 = pc') (k : Wm g d pc' ls (.int (x + y) :: st) h Q) : Wm g d pc ls (.int y :: .int x :: st) h Q := by
  subst hp
  exact wm_of (fun p e R s m args below meth c cells slots Qf X H locs lsr hR hL hV K => lv_iadd X.1 X.2.1 hd  (K H locs lsr hR hL hV)) k
theorem wm_isub {g : GE} {d : MD} {pc : Nat} {ls : List (Option Value)} {st : List Value} {h : HP} {Q : Option Value → HP → Prop} {x y : Int32} (pc' : Nat) (hd : decode (dB d) pc = .ok (.isub, 1)) (hp : pc + 1 = pc') (k : Wm g d pc' ls (.int (x - y) :: st) h Q) : Wm g d pc ls (.int y :: .int x :: st) h Q := by
  subst hp
  exact wm_of (fun p e R s m args below meth c cells slots Qf X H locs lsr hR hL hV K => lv_isub X.1 X.2.1 hd  (K H locs lsr hR hL hV)) k
theorem wm_imul {g : GE} {d : MD} {pc : Nat} {ls : List (Option Value)} {st : List Value} {h : HP} {Q : Option Value → HP → Prop} {x y : Int32} (pc' : Nat) (hd : decode (dB d) pc = .ok (.imul, 1)) (hp : pc + 1 = pc') (k : Wm g d pc' ls (.int (x * y) :: st) h Q) : Wm g d pc ls (.int y :: .int x :: st) h Q := by
  subst hp
  exact wm_of (fun p e R s m args below meth c cells slots Qf X H locs lsr hR hL hV K => lv_imul X.1 X.2.1 hd  (K H locs lsr hR hL hV)) k
theorem wm_iand {g : GE} {d : MD} {pc : Nat} {ls : List (Option Value)} {st : List Value} {h : HP} {Q : Option Value → HP → Prop} {x y : Int32} (pc' : Nat) (hd : decode (dB d) pc = .ok (.iand, 1)) (hp : pc + 1 = pc') (k : Wm g d pc' ls (.int (x &&& y) :: st) h Q) : Wm g d pc ls (.int y :: .int x :: st) h Q := by
  subst hp
  exact wm_of (fun p e R s m args below meth c cells slots Qf X H locs lsr hR hL hV K => lv_iand X.1 X.2.1 hd  (K H locs lsr hR hL hV)) k
theorem wm_ior {g : GE} {d : MD} {pc : Nat} {ls : List (Option Value)} {st : List Value} {h : HP} {Q : Option Value → HP → Prop} {x y : Int32} (pc' : Nat) (hd : decode (dB d) pc = .ok (.ior, 1)) (hp : pc + 1 = pc') (k : Wm g d pc' ls (.int (x ||| y) :: st) h Q) : Wm g d pc ls (.int y :: .int x :: st) h Q := by
  subst hp
  exact wm_of (fun p e R s m args below meth c cells slots Qf X H locs lsr hR hL hV K => lv_ior X.1 X.2.1 hd  (K H locs lsr hR hL hV)) k
theorem wm_ixor {g : GE} {d : MD} {pc : Nat} {ls : List (Option Value)} {st : List Value} {h : HP} {Q : Option Value → HP → Prop} {x y : Int32} (pc' : Nat) (hd : decode (dB d) pc = .ok (.ixor, 1)) (hp : pc + 1 = pc') (k : Wm g d pc' ls (.int (x ^^^ y) :: st) h Q) : Wm g d pc ls (.int y :: .int x :: st) h Q := by
  subst hp
  exact wm_of (fun p e R s m args below meth c cells slots Qf X H locs lsr hR hL hV K => lv_ixor X.1 X.2.1 hd  (K H locs lsr hR hL hV)) k
theorem wm_ishl {g : GE} {d : MD} {pc : Nat} {ls : List (Option Value)} {st : List Value} {h : HP} {Q : Option Value → HP → Prop} {x y : Int32} (pc' : Nat) (hd : decode (dB d) pc = .ok (.ishl, 1)) (hp : pc + 1 = pc') (k : Wm g d pc' ls (.int (x <<< (y &&& 31)) :: st) h Q) : Wm g d pc ls (.int y :: .int x :: st) h Q := by
  subst hp
  exact wm_of (fun p e R s m args below meth c cells slots Qf X H locs lsr hR hL hV K => lv_ishl X.1 X.2.1 hd  (K H locs lsr hR hL hV)) k
theorem wm_ishr {g : GE} {d : MD} {pc : Nat} {ls : List (Option Value)} {st : List Value} {h : HP} {Q : Option Value → HP → Prop} {x y : Int32} (pc' : Nat) (hd : decode (dB d) pc = .ok (.ishr, 1)) (hp : pc + 1 = pc') (k : Wm g d pc' ls (.int (x >>> (y &&& 31)) :: st) h Q) : Wm g d pc ls (.int y :: .int x :: st) h Q := by
  subst hp
  exact wm_of (fun p e R s m args below meth c cells slots Qf X H locs lsr hR hL hV K => lv_ishr X.1 X.2.1 hd  (K H locs lsr hR hL hV)) k
theorem wm_idiv {g : GE} {d : MD} {pc : Nat} {ls : List (Option Value)} {st : List Value} {h : HP} {Q : Option Value → HP → Prop} {x y : Int32} (pc' : Nat) (hd : decode (dB d) pc = .ok (.idiv, 1)) (hp : pc + 1 = pc') (hne : ¬ y = 0) (k : Wm g d pc' ls (.int (x / y) :: st) h Q) : Wm g d pc ls (.int y :: .int x :: st) h Q := by
  subst hp
  exact wm_of (fun p e R s m args below meth c cells slots Qf X H locs lsr hR hL hV K => lv_idiv X.1 X.2.1 hd hne (K H locs lsr hR hL hV)) k
theorem wm_irem {g : GE} {d : MD} {pc : Nat} {ls : List (Option Value)} {st : List Value} {h : HP} {Q : Option Value → HP → Prop} {x y : Int32} (pc' : Nat) (hd : decode (dB d) pc = .ok (.irem, 1)) (hp : pc + 1 = pc') (hne : ¬ y = 0) (k : Wm g d pc' ls (.int (x - x / y * y) :: st) h Q) : Wm g d pc ls (.int y :: .int x :: st) h Q := by
  subst hp
  exact wm_of (fun p e R s m args below meth c cells slots Qf X H locs lsr hR hL hV K => lv_irem X.1 X.2.1 hd hne (K H locs lsr hR hL hV)) k
theorem wm_ineg {g : GE} {d : MD} {pc : Nat} {ls : List (Option Value)} {st : List Value} {h : HP} {Q : Option Value → HP → Prop} {x : Int32} (pc' : Nat) (hd : decode (dB d) pc = .ok (.ineg, 1)) (hp : pc + 1 = pc') (k : Wm g d pc' ls (.int (-x) :: st) h Q) : Wm g d pc ls (.int x :: st) h Q := by
  subst hp
  exact wm_of (fun p e R s m args below meth c cells slots Qf X H locs lsr hR hL hV K => lv_ineg X.1 X.2.1 hd  (K H locs lsr hR hL hV)) k
theorem wm_ladd {g : GE} {d : MD} {pc : Nat} {ls : List (Option Value)} {st : List Value} {h : HP} {Q : Option Value → HP → Prop} {x y : Int64} (pc' : Nat) (hd : decode (dB d) pc = .ok (.ladd, 1)) (hp : pc + 1 = pc') (k : Wm g d pc' ls (.long (x + y) :: st) h Q) : Wm g d pc ls (.long y :: .long x :: st) h Q := by
  subst hp
  exact wm_of (fun p e R s m args below meth c cells slots Qf X H locs lsr hR hL hV K => lv_ladd X.1 X.2.1 hd  (K H locs lsr hR hL hV)) k
theorem wm_lsub {g : GE} {d : MD} {pc : Nat} {ls : List (Option Value)} {st : List Value} {h : HP} {Q : Option Value → HP → Prop} {x y : Int64} (pc' : Nat) (hd : decode (dB d) pc = .ok (.lsub, 1)) (hp : pc + 1 = pc') (k : Wm g d pc' ls (.long (x - y) :: st) h Q) : Wm g d pc ls (.long y :: .long x :: st) h Q := by
  subst hp
  exact wm_of (fun p e R s m args below meth c cells slots Qf X H locs lsr hR hL hV K => lv_lsub X.1 X.2.1 hd  (K H locs lsr hR hL hV)) k
theorem wm_lmul {g : GE} {d : MD} {pc : Nat} {ls : List (Option Value)} {st : List Value} {h : HP} {Q : Option Value → HP → Prop} {x y : Int64} (pc' : Nat) (hd : decode (dB d) pc = .ok (.lmul, 1)) (hp : pc + 1 = pc') (k : Wm g d pc' ls (.long (x * y) :: st) h Q) : Wm g d pc ls (.long y :: .long x :: st) h Q := by
  subst hp
  exact wm_of (fun p e R s m args below meth c cells slots Qf X H locs lsr hR hL hV K => lv_lmul X.1 X.2.1 hd  (K H locs lsr hR hL hV)) k
theorem wm_land {g : GE} {d : MD} {pc : Nat} {ls : List (Option Value)} {st : List Value} {h : HP} {Q : Option Value → HP → Prop} {x y : Int64} (pc' : Nat) (hd : decode (dB d) pc = .ok (.land, 1)) (hp : pc + 1 = pc') (k : Wm g d pc' ls (.long (x &&& y) :: st) h Q) : Wm g d pc ls (.long y :: .long x :: st) h Q := by
  subst hp
  exact wm_of (fun p e R s m args below meth c cells slots Qf X H locs lsr hR hL hV K => lv_land X.1 X.2.1 hd  (K H locs lsr hR hL hV)) k
theorem wm_lor {g : GE} {d : MD} {pc : Nat} {ls : List (Option Value)} {st : List Value} {h : HP} {Q : Option Value → HP → Prop} {x y : Int64} (pc' : Nat) (hd : decode (dB d) pc = .ok (.lor, 1)) (hp : pc + 1 = pc') (k : Wm g d pc' ls (.long (x ||| y) :: st) h Q) : Wm g d pc ls (.long y :: .long x :: st) h Q := by
  subst hp
  exact wm_of (fun p e R s m args below meth c cells slots Qf X H locs lsr hR hL hV K => lv_lor X.1 X.2.1 hd  (K H locs lsr hR hL hV)) k
theorem wm_ldiv {g : GE} {d : MD} {pc : Nat} {ls : List (Option Value)} {st : List Value} {h : HP} {Q : Option Value → HP → Prop} {x y : Int64} (pc' : Nat) (hd : decode (dB d) pc = .ok (.ldiv, 1)) (hp : pc + 1 = pc') (hne : ¬ y = 0) (k : Wm g d pc' ls (.long (x / y) :: st) h Q) : Wm g d pc ls (.long y :: .long x :: st) h Q := by
  subst hp
  exact wm_of (fun p e R s m args below meth c cells slots Qf X H locs lsr hR hL hV K => lv_ldiv X.1 X.2.1 hd hne (K H locs lsr hR hL hV)) k
theorem wm_lshl {g : GE} {d : MD} {pc : Nat} {ls : List (Option Value)} {st : List Value} {h : HP} {Q : Option Value → HP → Prop} {x : Int64} {y : Int32} (pc' : Nat) (hd : decode (dB d) pc = .ok (.lshl, 1)) (hp : pc + 1 = pc') (k : Wm g d pc' ls (.long (x <<< (y.toInt64 &&& 63)) :: st) h Q) : Wm g d pc ls (.int y :: .long x :: st) h Q := by
  subst hp
  exact wm_of (fun p e R s m args below meth c cells slots Qf X H locs lsr hR hL hV K => lv_lshl X.1 X.2.1 hd rfl (K H locs lsr hR hL hV)) k
theorem wm_lcmp {g : GE} {d : MD} {pc : Nat} {ls : List (Option Value)} {st : List Value} {h : HP} {Q : Option Value → HP → Prop} {x y : Int64} (pc' : Nat) (hd : decode (dB d) pc = .ok (.lcmp, 1)) (hp : pc + 1 = pc') (k : Wm g d pc' ls (.int (lg_cmp x y) :: st) h Q) : Wm g d pc ls (.long y :: .long x :: st) h Q := by
  subst hp
  exact wm_of (fun p e R s m args below meth c cells slots Qf X H locs lsr hR hL hV K => W.lcmp X.1 X.2.1 hd  (K H locs lsr hR hL hV)) k
theorem wm_i2l {g : GE} {d : MD} {pc : Nat} {ls : List (Option Value)} {st : List Value} {h : HP} {Q : Option Value → HP → Prop} {x : Int32} (pc' : Nat) (hd : decode (dB d) pc = .ok (.i2l, 1)) (hp : pc + 1 = pc') (k : Wm g d pc' ls (.long x.toInt64 :: st) h Q) : Wm g d pc ls (.int x :: st) h Q := by
  subst hp
  exact wm_of (fun p e R s m args below meth c cells slots Qf X H locs lsr hR hL hV K => lv_i2l X.1 X.2.1 hd rfl (K H locs lsr hR hL hV)) k
theorem wm_l2i {g : GE} {d : MD} {pc : Nat} {ls : List (Option Value)} {st : List Value} {h : HP} {Q : Option Value → HP → Prop} {x : Int64} (pc' : Nat) (hd : decode (dB d) pc = .ok (.l2i, 1)) (hp : pc + 1 = pc') (k : Wm g d pc' ls (.int x.toInt32 :: st) h Q) : Wm g d pc ls (.long x :: st) h Q := by
  subst hp
  exact wm_of (fun p e R s m args below meth c cells slots Qf X H locs lsr hR hL hV K => lv_l2i X.1 X.2.1 hd rfl (K H locs lsr hR hL hV)) k
theorem wm_i2s {g : GE} {d : MD} {pc : Nat} {ls : List (Option Value)} {st : List Value} {h : HP} {Q : Option Value → HP → Prop} {x : Int32} (pc' : Nat) (hd : decode (dB d) pc = .ok (.i2s, 1)) (hp : pc + 1 = pc') (k : Wm g d pc' ls (.int x.toInt16.toInt32 :: st) h Q) : Wm g d pc ls (.int x :: st) h Q := by
  subst hp
  exact wm_of (fun p e R s m args below meth c cells slots Qf X H locs lsr hR hL hV K => lv_i2s X.1 X.2.1 hd rfl (K H locs lsr hR hL hV)) k
theorem wm_iconst {g : GE} {d : MD} {pc : Nat} {ls : List (Option Value)} {st : List Value} {h : HP} {Q : Option Value → HP → Prop}  {n : Int} (v : Int32) (pc' : Nat) (hd : decode (dB d) pc = .ok (.iconst n, 1)) (hp : pc + 1 = pc') (hv : Int32.ofInt n = v) (k : Wm g d pc' ls (.int v :: st) h Q) : Wm g d pc ls (st) h Q := by
  subst hp
  exact wm_of (fun p e R s m args below meth c cells slots Qf X H locs lsr hR hL hV K => lv_iconst X.1 X.2.1 hd hv (K H locs lsr hR hL hV)) k
theorem wm_bipush {g : GE} {d : MD} {pc : Nat} {ls : List (Option Value)} {st : List Value} {h : HP} {Q : Option Value → HP → Prop}  {n : Int} (v : Int32) (pc' : Nat) (hd : decode (dB d) pc = .ok (.bipush n, 2)) (hp : pc + 2 = pc') (hv : (Int8.ofInt n).toInt32 = v) (k : Wm g d pc' ls (.int v :: st) h Q) : Wm g d pc ls (st) h Q := by
  subst hp
  exact wm_of (fun p e R s m args below meth c cells slots Qf X H locs lsr hR hL hV K => lv_bipush X.1 X.2.1 hd hv (K H locs lsr hR hL hV)) k
theorem wm_sipush {g : GE} {d : MD} {pc : Nat} {ls : List (Option Value)} {st : List Value} {h : HP} {Q : Option Value → HP → Prop}  {n : Int} (v : Int32) (pc' : Nat) (hd : decode (dB d) pc = .ok (.sipush n, 3)) (hp : pc + 3 = pc') (hv : (Int16.ofInt n).toInt32 = v) (k : Wm g d pc' ls (.int v :: st) h Q) : Wm g d pc ls (st) h Q := by
  subst hp
  exact wm_of (fun p e R s m args below meth c cells slots Qf X H locs lsr hR hL hV K => lv_sipush X.1 X.2.1 hd hv (K H locs lsr hR hL hV)) k
theorem wm_lconst {g : GE} {d : MD} {pc : Nat} {ls : List (Option Value)} {st : List Value} {h : HP} {Q : Option Value → HP → Prop}  {n : Fin 2} (v : Int64) (pc' : Nat) (hd : decode (dB d) pc = .ok (.lconst n, 1)) (hp : pc + 1 = pc') (hv : Int64.ofNat (n : Nat) = v) (k : Wm g d pc' ls (.long v :: st) h Q) : Wm g d pc ls (st) h Q := by
  subst hp
  exact wm_of (fun p e R s m args below meth c cells slots Qf X H locs lsr hR hL hV K => lv_lconst X.1 X.2.1 hd hv (K H locs lsr hR hL hV)) k
theorem wm_ldc {g : GE} {d : MD} {pc : Nat} {ls : List (Option Value)} {st : List Value} {h : HP} {Q : Option Value → HP → Prop} {i : Nat} (v : Int32) (pc' : Nat) (hc : Cond.constant (dO d) i v ∈ lwg) (hd : decode (dB d) pc = .ok (.ldc i, 2)) (hp : pc + 2 = pc') (k : Wm g d pc' ls (.int v :: st) h Q) : Wm g d pc ls st h Q := by
  subst hp
  exact wm_of (fun p e R s m args below meth c cells slots Qf X H locs lsr hR hL hV K => lv_ldc X.1 X.2.1 X.2.2.2.1 (X.2.2.2.2.1 _ hc) hd (K H locs lsr hR hL hV)) k
theorem wm_ldcw {g : GE} {d : MD} {pc : Nat} {ls : List (Option Value)} {st : List Value} {h : HP} {Q : Option Value → HP → Prop} {i : Nat} (v : Int32) (pc' : Nat) (hc : Cond.constant (dO d) i v ∈ lwg) (hd : decode (dB d) pc = .ok (.ldc_w i, 3)) (hp : pc + 3 = pc') (k : Wm g d pc' ls (.int v :: st) h Q) : Wm g d pc ls st h Q := by
  subst hp
  exact wm_of (fun p e R s m args below meth c cells slots Qf X H locs lsr hR hL hV K => lv_ldcw X.1 X.2.1 X.2.2.2.1 (X.2.2.2.2.1 _ hc) hd (K H locs lsr hR hL hV)) k
theorem wm_ldc2 {g : GE} {d : MD} {pc : Nat} {ls : List (Option Value)} {st : List Value} {h : HP} {Q : Option Value → HP → Prop} {i : Nat} (v : Int64) (pc' : Nat) (hc : Cond.constantLong (dO d) i v ∈ lwg) (hd : decode (dB d) pc = .ok (.ldc2_w i, 3)) (hp : pc + 3 = pc') (k : Wm g d pc' ls (.long v :: st) h Q) : Wm g d pc ls st h Q := by
  subst hp
  exact wm_of (fun p e R s m args below meth c cells slots Qf X H locs lsr hR hL hV K => lv_ldc2 X.1 X.2.1 X.2.2.2.1 (X.2.2.2.2.1 _ hc) hd (K H locs lsr hR hL hV)) k
theorem wm_dup {g : GE} {d : MD} {pc : Nat} {ls : List (Option Value)} {st : List Value} {h : HP} {Q : Option Value → HP → Prop} {v : Value} (pc' : Nat) (hd : decode (dB d) pc = .ok (.dup, 1)) (hp : pc + 1 = pc') (hv : v.category = 1) (k : Wm g d pc' ls (v :: v :: st) h Q) : Wm g d pc ls (v :: st) h Q := by
  subst hp
  exact wm_of (fun p e R s m args below meth c cells slots Qf X H locs lsr hR hL hV K => lv_dup X.1 X.2.1 hd (by rw [cv_cat]; exact hv) (K H locs lsr hR hL hV)) k
theorem wm_pop {g : GE} {d : MD} {pc : Nat} {ls : List (Option Value)} {st : List Value} {h : HP} {Q : Option Value → HP → Prop} {v : Value} (pc' : Nat) (hd : decode (dB d) pc = .ok (.pop, 1)) (hp : pc + 1 = pc') (hv : v.category = 1) (k : Wm g d pc' ls st h Q) : Wm g d pc ls (v :: st) h Q := by
  subst hp
  exact wm_of (fun p e R s m args below meth c cells slots Qf X H locs lsr hR hL hV K => lv_pop (va := cv g v) X.1 X.2.1 hd (by rw [cv_cat]; exact hv) (K H locs lsr hR hL hV)) k
theorem wm_dup2 {g : GE} {d : MD} {pc : Nat} {ls : List (Option Value)} {st : List Value} {h : HP} {Q : Option Value → HP → Prop} {v w : Value} (pc' : Nat) (hd : decode (dB d) pc = .ok (.dup2, 1)) (hp : pc + 1 = pc') (hv : v.category = 1) (hw : w.category = 1) (k : Wm g d pc' ls (v :: w :: v :: w :: st) h Q) : Wm g d pc ls (v :: w :: st) h Q := by
  subst hp
  exact wm_of (fun p e R s m args below meth c cells slots Qf X H locs lsr hR hL hV K => lv_dup2_11 X.1 X.2.1 hd (by rw [cv_cat]; exact hv) (by rw [cv_cat]; exact hw) (K H locs lsr hR hL hV)) k
theorem wm_dup2L {g : GE} {d : MD} {pc : Nat} {ls : List (Option Value)} {st : List Value} {h : HP} {Q : Option Value → HP → Prop} {v : Value} (pc' : Nat) (hd : decode (dB d) pc = .ok (.dup2, 1)) (hp : pc + 1 = pc') (hv : v.category = 2) (k : Wm g d pc' ls (v :: v :: st) h Q) : Wm g d pc ls (v :: st) h Q := by
  subst hp
  exact wm_of (fun p e R s m args below meth c cells slots Qf X H locs lsr hR hL hV K => lv_dup2_2 X.1 X.2.1 hd (by rw [cv_cat]; exact hv) (K H locs lsr hR hL hV)) k
theorem wm_iload {g : GE} {d : MD} {pc : Nat} {ls : List (Option Value)} {st : List Value} {h : HP} {Q : Option Value → HP → Prop} (i : Nat) {x : Int32} (pc' : Nat) (hd : decode (dB d) pc = .ok (.iload i, 2)) (hp : pc + 2 = pc') (hl : ls[i]? = some (some (.int x))) (k : Wm g d pc' ls (.int x :: st) h Q) : Wm g d pc ls st h Q := by
  subst hp
  exact wm_of (fun p e R s m args below meth c cells slots Qf X H locs lsr hR hL hV K => lv_iload X.1 X.2.1 hd (hV.2.2 i _ hl) (K H locs lsr hR hL hV)) k
theorem wm_iload_n {g : GE} {d : MD} {pc : Nat} {ls : List (Option Value)} {st : List Value} {h : HP} {Q : Option Value → HP → Prop} (i : Fin 4) {x : Int32} (pc' : Nat) (hd : decode (dB d) pc = .ok (.iload_n i, 1)) (hp : pc + 1 = pc') (hl : ls[(i : Nat)]? = some (some (.int x))) (k : Wm g d pc' ls (.int x :: st) h Q) : Wm g d pc ls st h Q := by
  subst hp
  exact wm_of (fun p e R s m args below meth c cells slots Qf X H locs lsr hR hL hV K => lv_iload_n X.1 X.2.1 hd rfl (hV.2.2 i _ hl) (K H locs lsr hR hL hV)) k
theorem wm_lload {g : GE} {d : MD} {pc : Nat} {ls : List (Option Value)} {st : List Value} {h : HP} {Q : Option Value → HP → Prop} (i : Nat) {x : Int64} (pc' : Nat) (hd : decode (dB d) pc = .ok (.lload i, 2)) (hp : pc + 2 = pc') (hl : ls[i]? = some (some (.long x))) (k : Wm g d pc' ls (.long x :: st) h Q) : Wm g d pc ls st h Q := by
  subst hp
  exact wm_of (fun p e R s m args below meth c cells slots Qf X H locs lsr hR hL hV K => lv_lload X.1 X.2.1 hd (hV.2.2 i _ hl) (K H locs lsr hR hL hV)) k
theorem wm_lload_n {g : GE} {d : MD} {pc : Nat} {ls : List (Option Value)} {st : List Value} {h : HP} {Q : Option Value → HP → Prop} (i : Fin 4) {x : Int64} (pc' : Nat) (hd : decode (dB d) pc = .ok (.lload_n i, 1)) (hp : pc + 1 = pc') (hl : ls[(i : Nat)]? = some (some (.long x))) (k : Wm g d pc' ls (.long x :: st) h Q) : Wm g d pc ls st h Q := by
  subst hp
  exact wm_of (fun p e R s m args below meth c cells slots Qf X H locs lsr hR hL hV K => lv_lload_n X.1 X.2.1 hd rfl (hV.2.2 i _ hl) (K H locs lsr hR hL hV)) k
theorem wm_aload {g : GE} {d : MD} {pc : Nat} {ls : List (Option Value)} {st : List Value} {h : HP} {Q : Option Value → HP → Prop} (i : Nat) {x : Nat} (pc' : Nat) (hd : decode (dB d) pc = .ok (.aload i, 2)) (hp : pc + 2 = pc') (hl : ls[i]? = some (some (.ref x))) (k : Wm g d pc' ls (.ref x :: st) h Q) : Wm g d pc ls st h Q := by
  subst hp
  exact wm_of (fun p e R s m args below meth c cells slots Qf X H locs lsr hR hL hV K => lv_aload X.1 X.2.1 hd (hV.2.2 i _ hl) (K H locs lsr hR hL hV)) k
theorem wm_aload_n {g : GE} {d : MD} {pc : Nat} {ls : List (Option Value)} {st : List Value} {h : HP} {Q : Option Value → HP → Prop} (i : Fin 4) {x : Nat} (pc' : Nat) (hd : decode (dB d) pc = .ok (.aload_n i, 1)) (hp : pc + 1 = pc') (hl : ls[(i : Nat)]? = some (some (.ref x))) (k : Wm g d pc' ls (.ref x :: st) h Q) : Wm g d pc ls st h Q := by
  subst hp
  exact wm_of (fun p e R s m args below meth c cells slots Qf X H locs lsr hR hL hV K => lv_aload_n X.1 X.2.1 hd rfl (hV.2.2 i _ hl) (K H locs lsr hR hL hV)) k
theorem wm_istore {g : GE} {d : MD} {pc : Nat} {ls : List (Option Value)} {st : List Value} {h : HP} {Q : Option Value → HP → Prop} (i : Nat) {x : Int32} (pc' : Nat) (ls' : List (Option Value)) (hd : decode (dB d) pc = .ok (.istore i, 2)) (hp : pc + 2 = pc') (hi : i < dN d) (hn : ∀ (j : Nat) (w : Value), j + 1 = i → ls[j]? = some (some w) → w.category = 1) (hs : ls.set i (some (.int x)) = ls') (k : Wm g d pc' ls' st h Q) : Wm g d pc ls (.int x :: st) h Q := by
  subst hp
  subst hs
  exact wm_of (fun p e R s m args below meth c cells slots Qf X H locs lsr hR hL hV K => lv_istore X.1 X.2.1 hd hV.has hi rfl (fun ls9 h9 => K H locs ls9 hR hL (LV.put1 (v := .int x) h9 hn))) k
theorem wm_istore_n {g : GE} {d : MD} {pc : Nat} {ls : List (Option Value)} {st : List Value} {h : HP} {Q : Option Value → HP → Prop} (i : Fin 4) {x : Int32} (pc' : Nat) (ls' : List (Option Value)) (hd : decode (dB d) pc = .ok (.istore_n i, 1)) (hp : pc + 1 = pc') (hi : (i : Nat) < dN d) (hn : ∀ (j : Nat) (w : Value), j + 1 = (i : Nat) → ls[j]? = some (some w) → w.category = 1) (hs : ls.set (i : Nat) (some (.int x)) = ls') (k : Wm g d pc' ls' st h Q) : Wm g d pc ls (.int x :: st) h Q := by
  subst hp
  subst hs
  exact wm_of (fun p e R s m args below meth c cells slots Qf X H locs lsr hR hL hV K => lv_istore_n X.1 X.2.1 hd rfl hV.has hi rfl (fun ls9 h9 => K H locs ls9 hR hL (LV.put1 (v := .int x) h9 hn))) k
theorem wm_astore {g : GE} {d : MD} {pc : Nat} {ls : List (Option Value)} {st : List Value} {h : HP} {Q : Option Value → HP → Prop} (i : Nat) {x : Nat} (pc' : Nat) (ls' : List (Option Value)) (hd : decode (dB d) pc = .ok (.astore i, 2)) (hp : pc + 2 = pc') (hi : i < dN d) (hn : ∀ (j : Nat) (w : Value), j + 1 = i → ls[j]? = some (some w) → w.category = 1) (hs : ls.set i (some (.ref x)) = ls') (k : Wm g d pc' ls' st h Q) : Wm g d pc ls (.ref x :: st) h Q := by
  subst hp
  subst hs
  exact wm_of (fun p e R s m args below meth c cells slots Qf X H locs lsr hR hL hV K => lv_astore X.1 X.2.1 hd hV.has hi rfl (fun ls9 h9 => K H locs ls9 hR hL (LV.put1 (v := .ref x) h9 hn))) k
theorem wm_astore_n {g : GE} {d : MD} {pc : Nat} {ls : List (Option Value)} {st : List Value} {h : HP} {Q : Option Value → HP → Prop} (i : Fin 4) {x : Nat} (pc' : Nat) (ls' : List (Option Value)) (hd : decode (dB d) pc = .ok (.astore_n i, 1)) (hp : pc + 1 = pc') (hi : (i : Nat) < dN d) (hn : ∀ (j : Nat) (w : Value), j + 1 = (i : Nat) → ls[j]? = some (some w) → w.category = 1) (hs : ls.set (i : Nat) (some (.ref x)) = ls') (k : Wm g d pc' ls' st h Q) : Wm g d pc ls (.ref x :: st) h Q := by
  subst hp
  subst hs
  exact wm_of (fun p e R s m args below meth c cells slots Qf X H locs lsr hR hL hV K => lv_astore_n X.1 X.2.1 hd rfl hV.has hi rfl (fun ls9 h9 => K H locs ls9 hR hL (LV.put1 (v := .ref x) h9 hn))) k
theorem wm_lstore {g : GE} {d : MD} {pc : Nat} {ls : List (Option Value)} {st : List Value} {h : HP} {Q : Option Value → HP → Prop} (i : Nat) {x : Int64} (pc' : Nat) (ls' : List (Option Value)) (hd : decode (dB d) pc = .ok (.lstore i, 2)) (hp : pc + 2 = pc') (hi : i + 1 < dN d) (hn : ∀ (j : Nat) (w : Value), j + 1 = i → ls[j]? = some (some w) → w.category = 1) (hs : (ls.set i (some (.long x))).set (i + 1) none = ls') (k : Wm g d pc' ls' st h Q) : Wm g d pc ls (.long x :: st) h Q := by
  subst hp
  subst hs
  exact wm_of (fun p e R s m args below meth c cells slots Qf X H locs lsr hR hL hV K => lv_lstore X.1 X.2.1 hd hV.has hi rfl (fun ls9 h9 => K H locs ls9 hR hL (LV.put2 (v := .long x) h9 hn))) k
theorem wm_lstore_n {g : GE} {d : MD} {pc : Nat} {ls : List (Option Value)} {st : List Value} {h : HP} {Q : Option Value → HP → Prop} (i : Fin 4) {x : Int64} (pc' : Nat) (ls' : List (Option Value)) (hd : decode (dB d) pc = .ok (.lstore_n i, 1)) (hp : pc + 1 = pc') (hi : (i : Nat) + 1 < dN d) (hn : ∀ (j : Nat) (w : Value), j + 1 = (i : Nat) → ls[j]? = some (some w) → w.category = 1) (hs : (ls.set (i : Nat) (some (.long x))).set ((i : Nat) + 1) none = ls') (k : Wm g d pc' ls' st h Q) : Wm g d pc ls (.long x :: st) h Q := by
  subst hp
  subst hs
  exact wm_of (fun p e R s m args below meth c cells slots Qf X H locs lsr hR hL hV K => lv_lstore_n X.1 X.2.1 hd rfl hV.has hi rfl (fun ls9 h9 => K H locs ls9 hR hL (LV.put2 (v := .long x) h9 hn))) k
theorem wm_iinc {g : GE} {d : MD} {pc : Nat} {ls : List (Option Value)} {st : List Value} {h : HP} {Q : Option Value → HP → Prop} (i : Nat) {n : Int} {x : Int32} (v : Int32) (pc' : Nat) (ls' : List (Option Value)) (hd : decode (dB d) pc = .ok (.iinc i n, 3)) (hp : pc + 3 = pc') (hi : i < dN d) (hl : ls[i]? = some (some (.int x))) (hv : x + Int32.ofInt n = v) (hn : ∀ (j : Nat) (w : Value), j + 1 = i → ls[j]? = some (some w) → w.category = 1) (hs : ls.set i (some (.int v)) = ls') (k : Wm g d pc' ls' st h Q) : Wm g d pc ls st h Q := by
  subst hp
  subst hs
  refine wm_of (fun p e R s m args below meth c cells slots Qf X H locs lsr hR hL hV K => ?_) k
  obtain ⟨q, hq⟩ := List.getElem?_of_mem (lm_mem (g := g).mpr ⟨_, hl, rfl⟩)
  exact lv_iinc X.1 X.2.1 hd hV.has hq hv hi rfl (fun ls9 h9 => K H locs ls9 hR hL (LV.put1 (v := .int v) h9 hn))
theorem wm_goto {g : GE} {d : MD} {pc : Nat} {ls : List (Option Value)} {st : List Value} {h : HP} {Q : Option Value → HP → Prop} {off : Int} (tgt : Nat) (hd : decode (dB d) pc = .ok (.goto off, 3)) (ht : (pc : Int) + off = (tgt : Int)) (k : Wm g d tgt ls st h Q) : Wm g d pc ls st h Q := by
  exact wm_of (fun p e R s m args below meth c cells slots Qf X H locs lsr hR hL hV K => lv_goto X.1 X.2.1 hd ht (K H locs lsr hR hL hV)) k
theorem wm_if_eq {g : GE} {d : MD} {pc : Nat} {ls : List (Option Value)} {st : List Value} {h : HP} {Q : Option Value → HP → Prop} {x : Int32} {off : Int} (pc' tgt : Nat) (hd : decode (dB d) pc = .ok (.ifCond .eq off, 3)) (ht : (pc : Int) + off = (tgt : Int)) (hp : pc + 3 = pc') (kt : x = 0 → Wm g d tgt ls st h Q) (kf : ¬ x = 0 → Wm g d pc' ls st h Q) : Wm g d pc ls (.int x :: st) h Q := by
  subst hp
  intro p e R s m args below meth c cells slots Qf X RET H locs lsr hR hL hV
  exact lv_if_eq X.1 X.2.1 hd ht (fun hx => kt hx p e R s m args below meth c cells slots Qf X RET H locs lsr hR hL hV) (fun hx => kf hx p e R s m args below meth c cells slots Qf X RET H locs lsr hR hL hV)
theorem wm_icmp_eq {g : GE} {d : MD} {pc : Nat} {ls : List (Option Value)} {st : List Value} {h : HP} {Q : Option Value → HP → Prop} {x y : Int32} {off : Int} (pc' tgt : Nat) (hd : decode (dB d) pc = .ok (.if_icmp .eq off, 3)) (ht : (pc : Int) + off = (tgt : Int)) (hp : pc + 3 = pc') (kt : x = y → Wm g d tgt ls st h Q) (kf : ¬ x = y → Wm g d pc' ls st h Q) : Wm g d pc ls (.int y :: .int x :: st) h Q := by
  subst hp
  intro p e R s m args below meth c cells slots Qf X RET H locs lsr hR hL hV
  exact lv_icmp_eq X.1 X.2.1 hd ht (fun hx => kt hx p e R s m args below meth c cells slots Qf X RET H locs lsr hR hL hV) (fun hx => kf hx p e R s m args below meth c cells slots Qf X RET H locs lsr hR hL hV)
theorem wm_if_ne {g : GE} {d : MD} {pc : Nat} {ls : List (Option Value)} {st : List Value} {h : HP} {Q : Option Value → HP → Prop} {x : Int32} {off : Int} (pc' tgt : Nat) (hd : decode (dB d) pc = .ok (.ifCond .ne off, 3)) (ht : (pc : Int) + off = (tgt : Int)) (hp : pc + 3 = pc') (kt : ¬ x = 0 → Wm g d tgt ls st h Q) (kf : x = 0 → Wm g d pc' ls st h Q) : Wm g d pc ls (.int x :: st) h Q := by
  subst hp
  intro p e R s m args below meth c cells slots Qf X RET H locs lsr hR hL hV
  exact lv_if_ne X.1 X.2.1 hd ht (fun hx => kt hx p e R s m args below meth c cells slots Qf X RET H locs lsr hR hL hV) (fun hx => kf hx p e R s m args below meth c cells slots Qf X RET H locs lsr hR hL hV)
theorem wm_icmp_ne {g : GE} {d : MD} {pc : Nat} {ls : List (Option Value)} {st : List Value} {h : HP} {Q : Option Value → HP → Prop} {x y : Int32} {off : Int} (pc' tgt : Nat) (hd : decode (dB d) pc = .ok (.if_icmp .ne off, 3)) (ht : (pc : Int) + off = (tgt : Int)) (hp : pc + 3 = pc') (kt : ¬ x = y → Wm g d tgt ls st h Q) (kf : x = y → Wm g d pc' ls st h Q) : Wm g d pc ls (.int y :: .int x :: st) h Q := by
  subst hp
  intro p e R s m args below meth c cells slots Qf X RET H locs lsr hR hL hV
  exact lv_icmp_ne X.1 X.2.1 hd ht (fun hx => kt hx p e R s m args below meth c cells slots Qf X RET H locs lsr hR hL hV) (fun hx => kf hx p e R s m args below meth c cells slots Qf X RET H locs lsr hR hL hV)
theorem wm_if_lt {g : GE} {d : MD} {pc : Nat} {ls : List (Option Value)} {st : List Value} {h : HP} {Q : Option Value → HP → Prop} {x : Int32} {off : Int} (pc' tgt : Nat) (hd : decode (dB d) pc = .ok (.ifCond .lt off, 3)) (ht : (pc : Int) + off = (tgt : Int)) (hp : pc + 3 = pc') (kt : x < 0 → Wm g d tgt ls st h Q) (kf : ¬ x < 0 → Wm g d pc' ls st h Q) : Wm g d pc ls (.int x :: st) h Q := by
  subst hp
  intro p e R s m args below meth c cells slots Qf X RET H locs lsr hR hL hV
  exact lv_if_lt X.1 X.2.1 hd ht (fun hx => kt hx p e R s m args below meth c cells slots Qf X RET H locs lsr hR hL hV) (fun hx => kf hx p e R s m args below meth c cells slots Qf X RET H locs lsr hR hL hV)
theorem wm_icmp_lt {g : GE} {d : MD} {pc : Nat} {ls : List (Option Value)} {st : List Value} {h : HP} {Q : Option Value → HP → Prop} {x y : Int32} {off : Int} (pc' tgt : Nat) (hd : decode (dB d) pc = .ok (.if_icmp .lt off, 3)) (ht : (pc : Int) + off = (tgt : Int)) (hp : pc + 3 = pc') (kt : x < y → Wm g d tgt ls st h Q) (kf : ¬ x < y → Wm g d pc' ls st h Q) : Wm g d pc ls (.int y :: .int x :: st) h Q := by
  subst hp
  intro p e R s m args below meth c cells slots Qf X RET H locs lsr hR hL hV
  exact lv_icmp_lt X.1 X.2.1 hd ht (fun hx => kt hx p e R s m args below meth c cells slots Qf X RET H locs lsr hR hL hV) (fun hx => kf hx p e R s m args below meth c cells slots Qf X RET H locs lsr hR hL hV)
theorem wm_if_ge {g : GE} {d : MD} {pc : Nat} {ls : List (Option Value)} {st : List Value} {h : HP} {Q : Option Value → HP → Prop} {x : Int32} {off : Int} (pc' tgt : Nat) (hd : decode (dB d) pc = .ok (.ifCond .ge off, 3)) (ht : (pc : Int) + off = (tgt : Int)) (hp : pc + 3 = pc') (kt : 0 ≤ x → Wm g d tgt ls st h Q) (kf : ¬ 0 ≤ x → Wm g d pc' ls st h Q) : Wm g d pc ls (.int x :: st) h Q := by
  subst hp
  intro p e R s m args below meth c cells slots Qf X RET H locs lsr hR hL hV
  exact lv_if_ge X.1 X.2.1 hd ht (fun hx => kt hx p e R s m args below meth c cells slots Qf X RET H locs lsr hR hL hV) (fun hx => kf hx p e R s m args below meth c cells slots Qf X RET H locs lsr hR hL hV)
theorem wm_icmp_ge {g : GE} {d : MD} {pc : Nat} {ls : List (Option Value)} {st : List Value} {h : HP} {Q : Option Value → HP → Prop} {x y : Int32} {off : Int} (pc' tgt : Nat) (hd : decode (dB d) pc = .ok (.if_icmp .ge off, 3)) (ht : (pc : Int) + off = (tgt : Int)) (hp : pc + 3 = pc') (kt : y ≤ x → Wm g d tgt ls st h Q) (kf : ¬ y ≤ x → Wm g d pc' ls st h Q) : Wm g d pc ls (.int y :: .int x :: st) h Q := by
  subst hp
  intro p e R s m args below meth c cells slots Qf X RET H locs lsr hR hL hV
  exact lv_icmp_ge X.1 X.2.1 hd ht (fun hx => kt hx p e R s m args below meth c cells slots Qf X RET H locs lsr hR hL hV) (fun hx => kf hx p e R s m args below meth c cells slots Qf X RET H locs lsr hR hL hV)
theorem wm_if_gt {g : GE} {d : MD} {pc : Nat} {ls : List (Option Value)} {st : List Value} {h : HP} {Q : Option Value → HP → Prop} {x : Int32} {off : Int} (pc' tgt : Nat) (hd : decode (dB d) pc = .ok (.ifCond .gt off, 3)) (ht : (pc : Int) + off = (tgt : Int)) (hp : pc + 3 = pc') (kt : 0 < x → Wm g d tgt ls st h Q) (kf : ¬ 0 < x → Wm g d pc' ls st h Q) : Wm g d pc ls (.int x :: st) h Q := by
  subst hp
  intro p e R s m args below meth c cells slots Qf X RET H locs lsr hR hL hV
  exact lv_if_gt X.1 X.2.1 hd ht (fun hx => kt hx p e R s m args below meth c cells slots Qf X RET H locs lsr hR hL hV) (fun hx => kf hx p e R s m args below meth c cells slots Qf X RET H locs lsr hR hL hV)
theorem wm_icmp_gt {g : GE} {d : MD} {pc : Nat} {ls : List (Option Value)} {st : List Value} {h : HP} {Q : Option Value → HP → Prop} {x y : Int32} {off : Int} (pc' tgt : Nat) (hd : decode (dB d) pc = .ok (.if_icmp .gt off, 3)) (ht : (pc : Int) + off = (tgt : Int)) (hp : pc + 3 = pc') (kt : y < x → Wm g d tgt ls st h Q) (kf : ¬ y < x → Wm g d pc' ls st h Q) : Wm g d pc ls (.int y :: .int x :: st) h Q := by
  subst hp
  intro p e R s m args below meth c cells slots Qf X RET H locs lsr hR hL hV
  exact lv_icmp_gt X.1 X.2.1 hd ht (fun hx => kt hx p e R s m args below meth c cells slots Qf X RET H locs lsr hR hL hV) (fun hx => kf hx p e R s m args below meth c cells slots Qf X RET H locs lsr hR hL hV)
theorem wm_if_le {g : GE} {d : MD} {pc : Nat} {ls : List (Option Value)} {st : List Value} {h : HP} {Q : Option Value → HP → Prop} {x : Int32} {off : Int} (pc' tgt : Nat) (hd : decode (dB d) pc = .ok (.ifCond .le off, 3)) (ht : (pc : Int) + off = (tgt : Int)) (hp : pc + 3 = pc') (kt : x ≤ 0 → Wm g d tgt ls st h Q) (kf : ¬ x ≤ 0 → Wm g d pc' ls st h Q) : Wm g d pc ls (.int x :: st) h Q := by
  subst hp
  intro p e R s m args below meth c cells slots Qf X RET H locs lsr hR hL hV
  exact lv_if_le X.1 X.2.1 hd ht (fun hx => kt hx p e R s m args below meth c cells slots Qf X RET H locs lsr hR hL hV) (fun hx => kf hx p e R s m args below meth c cells slots Qf X RET H locs lsr hR hL hV)
theorem wm_icmp_le {g : GE} {d : MD} {pc : Nat} {ls : List (Option Value)} {st : List Value} {h : HP} {Q : Option Value → HP → Prop} {x y : Int32} {off : Int} (pc' tgt : Nat) (hd : decode (dB d) pc = .ok (.if_icmp .le off, 3)) (ht : (pc : Int) + off = (tgt : Int)) (hp : pc + 3 = pc') (kt : x ≤ y → Wm g d tgt ls st h Q) (kf : ¬ x ≤ y → Wm g d pc' ls st h Q) : Wm g d pc ls (.int y :: .int x :: st) h Q := by
  subst hp
  intro p e R s m args below meth c cells slots Qf X RET H locs lsr hR hL hV
  exact lv_icmp_le X.1 X.2.1 hd ht (fun hx => kt hx p e R s m args below meth c cells slots Qf X RET H locs lsr hR hL hV) (fun hx => kf hx p e R s m args below meth c cells slots Qf X RET H locs lsr hR hL hV)
theorem wm_tin {g : GE} {d : MD} {pc : Nat} {ls : List (Option Value)} {st : List Value} {h : HP} {Q : Option Value → HP → Prop} {x : Int32} {dflt lo hi off : Int} {offs : Array Int} {len : Nat} (v : Int32) (tgt : Nat) (hx : x = v) (hd : decode (dB d) pc = .ok (.tableswitch dflt lo hi offs, len)) (h1 : ¬ v.toInt < lo) (h2 : ¬ hi < v.toInt) (ho : offs[(v.toInt - lo).toNat]? = some off) (ht : (pc : Int) + off = (tgt : Int)) (k : Wm g d tgt ls st h Q) : Wm g d pc ls (.int x :: st) h Q := by
  subst hx
  intro p e R s m args below meth c cells slots Qf X RET H locs lsr hR hL hV
  exact lv_tableIn X.1 X.2.1 hd h1 h2 ho ht (k p e R s m args below meth c cells slots Qf X RET H locs lsr hR hL hV)
theorem wm_tout {g : GE} {d : MD} {pc : Nat} {ls : List (Option Value)} {st : List Value} {h : HP} {Q : Option Value → HP → Prop} {x : Int32} {dflt lo hi : Int} {offs : Array Int} {len : Nat} (tgt : Nat) (hd : decode (dB d) pc = .ok (.tableswitch dflt lo hi offs, len)) (hx : x.toInt < lo ∨ hi < x.toInt) (ht : (pc : Int) + dflt = (tgt : Int)) (k : Wm g d tgt ls st h Q) : Wm g d pc ls (.int x :: st) h Q := by
  intro p e R s m args below meth c cells slots Qf X RET H locs lsr hR hL hV
  exact lv_tableOut X.1 X.2.1 hd hx ht (k p e R s m args below meth c cells slots Qf X RET H locs lsr hR hL hV)
theorem wm_look {g : GE} {d : MD} {pc : Nat} {ls : List (Option Value)} {st : List Value} {h : HP} {Q : Option Value → HP → Prop} {x : Int32} {dflt off : Int} {ps : Array (Int × Int)} {len : Nat} (tgt : Nat) (hd : decode (dB d) pc = .ok (.lookupswitch dflt ps, len)) (hq : (ps.toList.zip (ps.toList.drop 1)).all (fun (a, next) => a.1 < next.1) = true) (ho : Op.lookupswitch.offset ps.toList dflt x.toInt = off) (ht : (pc : Int) + off = (tgt : Int)) (k : Wm g d tgt ls st h Q) : Wm g d pc ls (.int x :: st) h Q := by
  intro p e R s m args below meth c cells slots Qf X RET H locs lsr hR hL hV
  exact lv_lookup X.1 X.2.1 hd hq ho ht (k p e R s m args below meth c cells slots Qf X RET H locs lsr hR hL hV)
theorem ne_toInt {x v : Int32} (n : Int) (hv : v.toInt = n) (hx : ¬ x = v) : ¬ x.toInt = n := fun q => hx (Int32.toInt_inj.mp (q.trans hv.symm))