section RULES
variable {Ω : Om} {Γ : Ga} {y : Mt} {d mc ms nL pc : Nat} {lv : List (Nat × Value)} {st : List Value} {S : Sl} {h : Hp} {cells slots : Nat}
theorem r_iconst (hG : Good Ω Γ y d mc ms) {n : Int} {v : Int32} (hd : decode y.2.1 pc = .ok (.iconst n, 1)) (hv : Int32.ofInt n = v) (k : AW Ω Γ nL (pc + 1) lv (.int v :: st) S h cells slots) : AW Ω Γ nL pc lv st S h cells slots := fun ls H locs h1 h2 h3 h4 => lv_iconst hG.1 hG.2.1 hd hv (k ls H locs h1 h2 h3 h4)
theorem r_bipush (hG : Good Ω Γ y d mc ms) {n : Int} {v : Int32} (hd : decode y.2.1 pc = .ok (.bipush n, 2)) (hv : (Int8.ofInt n).toInt32 = v) (k : AW Ω Γ nL (pc + 2) lv (.int v :: st) S h cells slots) : AW Ω Γ nL pc lv st S h cells slots := fun ls H locs h1 h2 h3 h4 => lv_bipush hG.1 hG.2.1 hd hv (k ls H locs h1 h2 h3 h4)
theorem r_sipush (hG : Good Ω Γ y d mc ms) {n : Int} {v : Int32} (hd : decode y.2.1 pc = .ok (.sipush n, 3)) (hv : (Int16.ofInt n).toInt32 = v) (k : AW Ω Γ nL (pc + 3) lv (.int v :: st) S h cells slots) : AW Ω Γ nL pc lv st S h cells slots := fun ls H locs h1 h2 h3 h4 => lv_sipush hG.1 hG.2.1 hd hv (k ls H locs h1 h2 h3 h4)
theorem r_lconst (hG : Good Ω Γ y d mc ms) {n : Fin 2} {v : Int64} (hd : decode y.2.1 pc = .ok (.lconst n, 1)) (hv : Int64.ofNat (n : Nat) = v) (k : AW Ω Γ nL (pc + 1) lv (.long v :: st) S h cells slots) : AW Ω Γ nL pc lv st S h cells slots := fun ls H locs h1 h2 h3 h4 => lv_lconst hG.1 hG.2.1 hd hv (k ls H locs h1 h2 h3 h4)
theorem r_iadd (hG : Good Ω Γ y d mc ms) {x z : Int32} (hd : decode y.2.1 pc = .ok (.iadd, 1))  (k : AW Ω Γ nL (pc + 1) lv (.int (x + z) :: st) S h cells slots) : AW Ω Γ nL pc lv (.int z :: .int x :: st) S h cells slots := fun ls H locs h1 h2 h3 h4 => lv_iadd hG.1 hG.2.1 hd  (k ls H locs h1 h2 h3 h4)
theorem r_isub (hG : Good Ω Γ y d mc ms) {x z : Int32} (hd : decode y.2.1 pc = .ok (.isub, 1))  (k : AW Ω Γ nL (pc + 1) lv (.int (x - z) :: st) S h cells slots) : AW Ω Γ nL pc lv (.int z :: .int x :: st) S h cells slots := fun ls H locs h1 h2 h3 h4 => lv_isub hG.1 hG.2.1 hd  (k ls H locs h1 h2 h3 h4)
theorem r_imul (hG : Good Ω Γ y d mc ms) {x z : Int32} (hd : decode y.2.1 pc = .ok (.imul, 1))  (k : AW Ω Γ nL (pc + 1) lv (.int (x * z) :: st) S h cells slots) : AW Ω Γ nL pc lv (.int z :: .int x :: st) S h cells slots := fun ls H locs h1 h2 h3 h4 => lv_imul hG.1 hG.2.1 hd  (k ls H locs h1 h2 h3 h4)
theorem r_iand (hG : Good Ω Γ y d mc ms) {x z : Int32} (hd : decode y.2.1 pc = .ok (.iand, 1))  (k : AW Ω Γ nL (pc + 1) lv (.int (x &&& z) :: st) S h cells slots) : AW Ω Γ nL pc lv (.int z :: .int x :: st) S h cells slots := fun ls H locs h1 h2 h3 h4 => lv_iand hG.1 hG.2.1 hd  (k ls H locs h1 h2 h3 h4)
theorem r_ior (hG : Good Ω Γ y d mc ms) {x z : Int32} (hd : decode y.2.1 pc = .ok (.ior, 1))  (k : AW Ω Γ nL (pc + 1) lv (.int (x ||| z) :: st) S h cells slots) : AW Ω Γ nL pc lv (.int z :: .int x :: st) S h cells slots := fun ls H locs h1 h2 h3 h4 => lv_ior hG.1 hG.2.1 hd  (k ls H locs h1 h2 h3 h4)
theorem r_ixor (hG : Good Ω Γ y d mc ms) {x z : Int32} (hd : decode y.2.1 pc = .ok (.ixor, 1))  (k : AW Ω Γ nL (pc + 1) lv (.int (x ^^^ z) :: st) S h cells slots) : AW Ω Γ nL pc lv (.int z :: .int x :: st) S h cells slots := fun ls H locs h1 h2 h3 h4 => lv_ixor hG.1 hG.2.1 hd  (k ls H locs h1 h2 h3 h4)
theorem r_ladd (hG : Good Ω Γ y d mc ms) {x z : Int64} (hd : decode y.2.1 pc = .ok (.ladd, 1))  (k : AW Ω Γ nL (pc + 1) lv (.long (x + z) :: st) S h cells slots) : AW Ω Γ nL pc lv (.long z :: .long x :: st) S h cells slots := fun ls H locs h1 h2 h3 h4 => lv_ladd hG.1 hG.2.1 hd  (k ls H locs h1 h2 h3 h4)
theorem r_lsub (hG : Good Ω Γ y d mc ms) {x z : Int64} (hd : decode y.2.1 pc = .ok (.lsub, 1))  (k : AW Ω Γ nL (pc + 1) lv (.long (x - z) :: st) S h cells slots) : AW Ω Γ nL pc lv (.long z :: .long x :: st) S h cells slots := fun ls H locs h1 h2 h3 h4 => lv_lsub hG.1 hG.2.1 hd  (k ls H locs h1 h2 h3 h4)
theorem r_lmul (hG : Good Ω Γ y d mc ms) {x z : Int64} (hd : decode y.2.1 pc = .ok (.lmul, 1))  (k : AW Ω Γ nL (pc + 1) lv (.long (x * z) :: st) S h cells slots) : AW Ω Γ nL pc lv (.long z :: .long x :: st) S h cells slots := fun ls H locs h1 h2 h3 h4 => lv_lmul hG.1 hG.2.1 hd  (k ls H locs h1 h2 h3 h4)
theorem r_land (hG : Good Ω Γ y d mc ms) {x z : Int64} (hd : decode y.2.1 pc = .ok (.land, 1))  (k : AW Ω Γ nL (pc + 1) lv (.long (x &&& z) :: st) S h cells slots) : AW Ω Γ nL pc lv (.long z :: .long x :: st) S h cells slots := fun ls H locs h1 h2 h3 h4 => lv_land hG.1 hG.2.1 hd  (k ls H locs h1 h2 h3 h4)
theorem r_lor (hG : Good Ω Γ y d mc ms) {x z : Int64} (hd : decode y.2.1 pc = .ok (.lor, 1))  (k : AW Ω Γ nL (pc + 1) lv (.long (x ||| z) :: st) S h cells slots) : AW Ω Γ nL pc lv (.long z :: .long x :: st) S h cells slots := fun ls H locs h1 h2 h3 h4 => lv_lor hG.1 hG.2.1 hd  (k ls H locs h1 h2 h3 h4)
theorem r_lxor (hG : Good Ω Γ y d mc ms) {x z : Int64} (hd : decode y.2.1 pc = .ok (.lxor, 1))  (k : AW Ω Γ nL (pc + 1) lv (.long (x ^^^ z) :: st) S h cells slots) : AW Ω Γ nL pc lv (.long z :: .long x :: st) S h cells slots := fun ls H locs h1 h2 h3 h4 => lv_lxor hG.1 hG.2.1 hd  (k ls H locs h1 h2 h3 h4)
theorem r_idiv (hG : Good Ω Γ y d mc ms) {x z : Int32} (hd : decode y.2.1 pc = .ok (.idiv, 1)) (hne : ¬ z = 0) (k : AW Ω Γ nL (pc + 1) lv (.int (x / z) :: st) S h cells slots) : AW Ω Γ nL pc lv (.int z :: .int x :: st) S h cells slots := fun ls H locs h1 h2 h3 h4 => lv_idiv hG.1 hG.2.1 hd hne (k ls H locs h1 h2 h3 h4)
theorem r_irem (hG : Good Ω Γ y d mc ms) {x z : Int32} (hd : decode y.2.1 pc = .ok (.irem, 1)) (hne : ¬ z = 0) (k : AW Ω Γ nL (pc + 1) lv (.int (x - x / z * z) :: st) S h cells slots) : AW Ω Γ nL pc lv (.int z :: .int x :: st) S h cells slots := fun ls H locs h1 h2 h3 h4 => lv_irem hG.1 hG.2.1 hd hne (k ls H locs h1 h2 h3 h4)
theorem r_ineg (hG : Good Ω Γ y d mc ms) {x : Int32} (hd : decode y.2.1 pc = .ok (.ineg, 1))  (k : AW Ω Γ nL (pc + 1) lv (.int (-x) :: st) S h cells slots) : AW Ω Γ nL pc lv (.int x :: st) S h cells slots := fun ls H locs h1 h2 h3 h4 => lv_ineg hG.1 hG.2.1 hd  (k ls H locs h1 h2 h3 h4)
theorem r_ldiv (hG : Good Ω Γ y d mc ms) {x z : Int64} (hd : decode y.2.1 pc = .ok (.ldiv, 1)) (hne : ¬ z = 0) (k : AW Ω Γ nL (pc + 1) lv (.long (x / z) :: st) S h cells slots) : AW Ω Γ nL pc lv (.long z :: .long x :: st) S h cells slots := fun ls H locs h1 h2 h3 h4 => lv_ldiv hG.1 hG.2.1 hd hne (k ls H locs h1 h2 h3 h4)
theorem r_lrem (hG : Good Ω Γ y d mc ms) {x z : Int64} (hd : decode y.2.1 pc = .ok (.lrem, 1)) (hne : ¬ z = 0) (k : AW Ω Γ nL (pc + 1) lv (.long (x - x / z * z) :: st) S h cells slots) : AW Ω Γ nL pc lv (.long z :: .long x :: st) S h cells slots := fun ls H locs h1 h2 h3 h4 => lv_lrem hG.1 hG.2.1 hd hne (k ls H locs h1 h2 h3 h4)
theorem r_ishl (hG : Good Ω Γ y d mc ms) {x z : Int32} (hd : decode y.2.1 pc = .ok (.ishl, 1))  (k : AW Ω Γ nL (pc + 1) lv (.int (x <<< (z &&& 31)) :: st) S h cells slots) : AW Ω Γ nL pc lv (.int z :: .int x :: st) S h cells slots := fun ls H locs h1 h2 h3 h4 => lv_ishl hG.1 hG.2.1 hd  (k ls H locs h1 h2 h3 h4)
theorem r_ishr (hG : Good Ω Γ y d mc ms) {x z : Int32} (hd : decode y.2.1 pc = .ok (.ishr, 1))  (k : AW Ω Γ nL (pc + 1) lv (.int (x >>> (z &&& 31)) :: st) S h cells slots) : AW Ω Γ nL pc lv (.int z :: .int x :: st) S h cells slots := fun ls H locs h1 h2 h3 h4 => lv_ishr hG.1 hG.2.1 hd  (k ls H locs h1 h2 h3 h4)
theorem r_iushr (hG : Good Ω Γ y d mc ms) {x z : Int32} (hd : decode y.2.1 pc = .ok (.iushr, 1))  (k : AW Ω Γ nL (pc + 1) lv (.int ((x.toUInt32 >>> (z.toUInt32 &&& Int32.toUInt32 31)).toInt32) :: st) S h cells slots) : AW Ω Γ nL pc lv (.int z :: .int x :: st) S h cells slots := fun ls H locs h1 h2 h3 h4 => lv_iushr hG.1 hG.2.1 hd rfl (k ls H locs h1 h2 h3 h4)
theorem r_lushr (hG : Good Ω Γ y d mc ms) {x : Int64} {z : Int32} (hd : decode y.2.1 pc = .ok (.lushr, 1))  (k : AW Ω Γ nL (pc + 1) lv (.long ((x.toUInt64 >>> (z.toInt64.toUInt64 &&& Int64.toUInt64 63)).toInt64) :: st) S h cells slots) : AW Ω Γ nL pc lv (.int z :: .long x :: st) S h cells slots := fun ls H locs h1 h2 h3 h4 => lv_lushr hG.1 hG.2.1 hd rfl (k ls H locs h1 h2 h3 h4)
theorem r_lshl (hG : Good Ω Γ y d mc ms) {x : Int64} {z : Int32} (hd : decode y.2.1 pc = .ok (.lshl, 1))  (k : AW Ω Γ nL (pc + 1) lv (.long (x <<< (z.toInt64 &&& 63)) :: st) S h cells slots) : AW Ω Γ nL pc lv (.int z :: .long x :: st) S h cells slots := fun ls H locs h1 h2 h3 h4 => lv_lshl hG.1 hG.2.1 hd rfl (k ls H locs h1 h2 h3 h4)
theorem r_i2l (hG : Good Ω Γ y d mc ms) {x : Int32} (hd : decode y.2.1 pc = .ok (.i2l, 1))  (k : AW Ω Γ nL (pc + 1) lv (.long x.toInt64 :: st) S h cells slots) : AW Ω Γ nL pc lv (.int x :: st) S h cells slots := fun ls H locs h1 h2 h3 h4 => lv_i2l hG.1 hG.2.1 hd rfl (k ls H locs h1 h2 h3 h4)
theorem r_l2i (hG : Good Ω Γ y d mc ms) {x : Int64} (hd : decode y.2.1 pc = .ok (.l2i, 1))  (k : AW Ω Γ nL (pc + 1) lv (.int x.toInt32 :: st) S h cells slots) : AW Ω Γ nL pc lv (.long x :: st) S h cells slots := fun ls H locs h1 h2 h3 h4 => lv_l2i hG.1 hG.2.1 hd rfl (k ls H locs h1 h2 h3 h4)
theorem r_i2b (hG : Good Ω Γ y d mc ms) {x : Int32} (hd : decode y.2.1 pc = .ok (.i2b, 1))  (k : AW Ω Γ nL (pc + 1) lv (.int x.toInt8.toInt32 :: st) S h cells slots) : AW Ω Γ nL pc lv (.int x :: st) S h cells slots := fun ls H locs h1 h2 h3 h4 => lv_i2b hG.1 hG.2.1 hd rfl (k ls H locs h1 h2 h3 h4)
theorem r_i2c (hG : Good Ω Γ y d mc ms) {x : Int32} (hd : decode y.2.1 pc = .ok (.i2c, 1))  (k : AW Ω Γ nL (pc + 1) lv (.int (x.toUInt32 % 65536).toInt32 :: st) S h cells slots) : AW Ω Γ nL pc lv (.int x :: st) S h cells slots := fun ls H locs h1 h2 h3 h4 => lv_i2c hG.1 hG.2.1 hd rfl (k ls H locs h1 h2 h3 h4)
theorem r_dup (hG : Good Ω Γ y d mc ms) {va : Value} (hd : decode y.2.1 pc = .ok (.dup, 1)) (hva : va.category = 1) (k : AW Ω Γ nL (pc + 1) lv (va :: va :: st) S h cells slots) : AW Ω Γ nL pc lv (va :: st) S h cells slots := fun ls H locs h1 h2 h3 h4 => lv_dup hG.1 hG.2.1 hd hva (k ls H locs h1 h2 h3 h4)
theorem r_pop (hG : Good Ω Γ y d mc ms) {va : Value} (hd : decode y.2.1 pc = .ok (.pop, 1)) (hva : va.category = 1) (k : AW Ω Γ nL (pc + 1) lv st S h cells slots) : AW Ω Γ nL pc lv (va :: st) S h cells slots := fun ls H locs h1 h2 h3 h4 => lv_pop hG.1 hG.2.1 hd hva (k ls H locs h1 h2 h3 h4)
theorem r_dup_x1 (hG : Good Ω Γ y d mc ms) {va vb : Value} (hd : decode y.2.1 pc = .ok (.dup_x1, 1)) (hva : va.category = 1) (hvb : vb.category = 1) (k : AW Ω Γ nL (pc + 1) lv (va :: vb :: va :: st) S h cells slots) : AW Ω Γ nL pc lv (va :: vb :: st) S h cells slots := fun ls H locs h1 h2 h3 h4 => lv_dup_x1 hG.1 hG.2.1 hd hva hvb (k ls H locs h1 h2 h3 h4)
theorem r_dup2 (hG : Good Ω Γ y d mc ms) {va vb : Value} (hd : decode y.2.1 pc = .ok (.dup2, 1)) (hva : va.category = 1) (hvb : vb.category = 1) (k : AW Ω Γ nL (pc + 1) lv (va :: vb :: va :: vb :: st) S h cells slots) : AW Ω Γ nL pc lv (va :: vb :: st) S h cells slots := fun ls H locs h1 h2 h3 h4 => lv_dup2_11 hG.1 hG.2.1 hd hva hvb (k ls H locs h1 h2 h3 h4)
theorem r_lcmp (hG : Good Ω Γ y d mc ms) {x z : Int64} (hd : decode y.2.1 pc = .ok (.lcmp, 1))  (k : AW Ω Γ nL (pc + 1) lv (.int (lg_cmp x z) :: st) S h cells slots) : AW Ω Γ nL pc lv (.long z :: .long x :: st) S h cells slots := fun ls H locs h1 h2 h3 h4 => W.lcmp hG.1 hG.2.1 hd  (k ls H locs h1 h2 h3 h4)
theorem r_iload_n (hG : Good Ω Γ y d mc ms) {n : Fin 4} {x : Int32} (hd : decode y.2.1 pc = .ok (.iload_n n, 1)) (hx : lvg lv (n : Nat) = some (.int x)) (k : AW Ω Γ nL (pc + 1) lv (.int x :: st) S h cells slots) : AW Ω Γ nL pc lv st S h cells slots := fun ls H locs h1 h2 h3 h4 => lv_iload_n hG.1 hG.2.1 hd rfl (lvg_at h1 hx) (k ls H locs h1 h2 h3 h4)
theorem r_iload (hG : Good Ω Γ y d mc ms) {i : Nat} {x : Int32} (hd : decode y.2.1 pc = .ok (.iload i, 2)) (hx : lvg lv i = some (.int x)) (k : AW Ω Γ nL (pc + 2) lv (.int x :: st) S h cells slots) : AW Ω Γ nL pc lv st S h cells slots := fun ls H locs h1 h2 h3 h4 => lv_iload hG.1 hG.2.1 hd (lvg_at h1 hx) (k ls H locs h1 h2 h3 h4)
theorem r_istore_n (hG : Good Ω Γ y d mc ms) {n : Fin 4} {x : Int32} (hd : decode y.2.1 pc = .ok (.istore_n n, 1)) (hn : (n : Nat) < nL) (k : AW Ω Γ nL (pc + 1) (lvs1 (n : Nat) (.int x) lv) st S h cells slots) : AW Ω Γ nL pc lv (.int x :: st) S h cells slots := fun ls H locs h1 h2 h3 h4 => lv_istore_n hG.1 hG.2.1 hd rfl h1 hn rfl (fun ls h1 => k ls H locs h1 h2 h3 h4)
theorem r_istore (hG : Good Ω Γ y d mc ms) {i : Nat} {x : Int32} (hd : decode y.2.1 pc = .ok (.istore i, 2)) (hn : i < nL) (k : AW Ω Γ nL (pc + 2) (lvs1 i (.int x) lv) st S h cells slots) : AW Ω Γ nL pc lv (.int x :: st) S h cells slots := fun ls H locs h1 h2 h3 h4 => lv_istore hG.1 hG.2.1 hd h1 hn rfl (fun ls h1 => k ls H locs h1 h2 h3 h4)
theorem r_lload_n (hG : Good Ω Γ y d mc ms) {n : Fin 4} {x : Int64} (hd : decode y.2.1 pc = .ok (.lload_n n, 1)) (hx : lvg lv (n : Nat) = some (.long x)) (k : AW Ω Γ nL (pc + 1) lv (.long x :: st) S h cells slots) : AW Ω Γ nL pc lv st S h cells slots := fun ls H locs h1 h2 h3 h4 => lv_lload_n hG.1 hG.2.1 hd rfl (lvg_at h1 hx) (k ls H locs h1 h2 h3 h4)
theorem r_lload (hG : Good Ω Γ y d mc ms) {i : Nat} {x : Int64} (hd : decode y.2.1 pc = .ok (.lload i, 2)) (hx : lvg lv i = some (.long x)) (k : AW Ω Γ nL (pc + 2) lv (.long x :: st) S h cells slots) : AW Ω Γ nL pc lv st S h cells slots := fun ls H locs h1 h2 h3 h4 => lv_lload hG.1 hG.2.1 hd (lvg_at h1 hx) (k ls H locs h1 h2 h3 h4)
theorem r_lstore_n (hG : Good Ω Γ y d mc ms) {n : Fin 4} {x : Int64} (hd : decode y.2.1 pc = .ok (.lstore_n n, 1)) (hn : (n : Nat) + 1 < nL) (k : AW Ω Γ nL (pc + 1) (lvs2 (n : Nat) (.long x) lv) st S h cells slots) : AW Ω Γ nL pc lv (.long x :: st) S h cells slots := fun ls H locs h1 h2 h3 h4 => lv_lstore_n hG.1 hG.2.1 hd rfl h1 hn rfl (fun ls h1 => k ls H locs h1 h2 h3 h4)
theorem r_lstore (hG : Good Ω Γ y d mc ms) {i : Nat} {x : Int64} (hd : decode y.2.1 pc = .ok (.lstore i, 2)) (hn : i + 1 < nL) (k : AW Ω Γ nL (pc + 2) (lvs2 i (.long x) lv) st S h cells slots) : AW Ω Γ nL pc lv (.long x :: st) S h cells slots := fun ls H locs h1 h2 h3 h4 => lv_lstore hG.1 hG.2.1 hd h1 hn rfl (fun ls h1 => k ls H locs h1 h2 h3 h4)
theorem r_aload_n (hG : Good Ω Γ y d mc ms) {n : Fin 4} {x : Nat} (hd : decode y.2.1 pc = .ok (.aload_n n, 1)) (hx : lvg lv (n : Nat) = some (.ref x)) (k : AW Ω Γ nL (pc + 1) lv (.ref x :: st) S h cells slots) : AW Ω Γ nL pc lv st S h cells slots := fun ls H locs h1 h2 h3 h4 => lv_aload_n hG.1 hG.2.1 hd rfl (lvg_at h1 hx) (k ls H locs h1 h2 h3 h4)
theorem r_aload (hG : Good Ω Γ y d mc ms) {i : Nat} {x : Nat} (hd : decode y.2.1 pc = .ok (.aload i, 2)) (hx : lvg lv i = some (.ref x)) (k : AW Ω Γ nL (pc + 2) lv (.ref x :: st) S h cells slots) : AW Ω Γ nL pc lv st S h cells slots := fun ls H locs h1 h2 h3 h4 => lv_aload hG.1 hG.2.1 hd (lvg_at h1 hx) (k ls H locs h1 h2 h3 h4)
theorem r_astore_n (hG : Good Ω Γ y d mc ms) {n : Fin 4} {x : Nat} (hd : decode y.2.1 pc = .ok (.astore_n n, 1)) (hn : (n : Nat) < nL) (k : AW Ω Γ nL (pc + 1) (lvs1 (n : Nat) (.ref x) lv) st S h cells slots) : AW Ω Γ nL pc lv (.ref x :: st) S h cells slots := fun ls H locs h1 h2 h3 h4 => lv_astore_n hG.1 hG.2.1 hd rfl h1 hn rfl (fun ls h1 => k ls H locs h1 h2 h3 h4)
theorem r_astore (hG : Good Ω Γ y d mc ms) {i : Nat} {x : Nat} (hd : decode y.2.1 pc = .ok (.astore i, 2)) (hn : i < nL) (k : AW Ω Γ nL (pc + 2) (lvs1 i (.ref x) lv) st S h cells slots) : AW Ω Γ nL pc lv (.ref x :: st) S h cells slots := fun ls H locs h1 h2 h3 h4 => lv_astore hG.1 hG.2.1 hd h1 hn rfl (fun ls h1 => k ls H locs h1 h2 h3 h4)
theorem lvg_pos : ∀ {l : List (Nat × Value)} {i : Nat} {v : Value}, lvg l i = some v → ∃ k : Nat, l[k]? = some (i, v) := fun h => List.getElem?_of_mem (lvg_mem h)
theorem r_iinc (hG : Good Ω Γ y d mc ms) {i : Nat} {n : Int} {x : Int32} (hd : decode y.2.1 pc = .ok (.iinc i n, 3)) (hx : lvg lv i = some (.int x)) (hn : i < nL) (k : AW Ω Γ nL (pc + 3) (lvs1 i (.int (x + Int32.ofInt n)) lv) st S h cells slots) : AW Ω Γ nL pc lv st S h cells slots := fun ls H locs h1 h2 h3 h4 => by
  obtain ⟨q, hq⟩ := lvg_pos hx
  exact lv_iinc hG.1 hG.2.1 hd h1 hq rfl hn rfl (fun ls h1 => k ls H locs h1 h2 h3 h4)
theorem r_if_eq (hG : Good Ω Γ y d mc ms) {x : Int32} {off : Int} (tgt : Nat) (hd : decode y.2.1 pc = .ok (.ifCond .eq off, 3)) (ht : (pc : Int) + off = (tgt : Int)) (kt : x = 0 → AW Ω Γ nL tgt lv st S h cells slots) (kf : ¬ x = 0 → AW Ω Γ nL (pc + 3) lv st S h cells slots) : AW Ω Γ nL pc lv (.int x :: st) S h cells slots := fun ls H locs h1 h2 h3 h4 => lv_if_eq hG.1 hG.2.1 hd ht (fun q => kt q ls H locs h1 h2 h3 h4) (fun q => kf q ls H locs h1 h2 h3 h4)
theorem r_icmp_eq (hG : Good Ω Γ y d mc ms) {x z : Int32} {off : Int} (tgt : Nat) (hd : decode y.2.1 pc = .ok (.if_icmp .eq off, 3)) (ht : (pc : Int) + off = (tgt : Int)) (kt : x = z → AW Ω Γ nL tgt lv st S h cells slots) (kf : ¬ x = z → AW Ω Γ nL (pc + 3) lv st S h cells slots) : AW Ω Γ nL pc lv (.int z :: .int x :: st) S h cells slots := fun ls H locs h1 h2 h3 h4 => lv_icmp_eq hG.1 hG.2.1 hd ht (fun q => kt q ls H locs h1 h2 h3 h4) (fun q => kf q ls H locs h1 h2 h3 h4)
theorem r_if_ne (hG : Good Ω Γ y d mc ms) {x : Int32} {off : Int} (tgt : Nat) (hd : decode y.2.1 pc = .ok (.ifCond .ne off, 3)) (ht : (pc : Int) + off = (tgt : Int)) (kt : ¬ x = 0 → AW Ω Γ nL tgt lv st S h cells slots) (kf : x = 0 → AW Ω Γ nL (pc + 3) lv st S h cells slots) : AW Ω Γ nL pc lv (.int x :: st) S h cells slots := fun ls H locs h1 h2 h3 h4 => lv_if_ne hG.1 hG.2.1 hd ht (fun q => kt q ls H locs h1 h2 h3 h4) (fun q => kf q ls H locs h1 h2 h3 h4)
theorem r_icmp_ne (hG : Good Ω Γ y d mc ms) {x z : Int32} {off : Int} (tgt : Nat) (hd : decode y.2.1 pc = .ok (.if_icmp .ne off, 3)) (ht : (pc : Int) + off = (tgt : Int)) (kt : ¬ x = z → AW Ω Γ nL tgt lv st S h cells slots) (kf : x = z → AW Ω Γ nL (pc + 3) lv st S h cells slots) : AW Ω Γ nL pc lv (.int z :: .int x :: st) S h cells slots := fun ls H locs h1 h2 h3 h4 => lv_icmp_ne hG.1 hG.2.1 hd ht (fun q => kt q ls H locs h1 h2 h3 h4) (fun q => kf q ls H locs h1 h2 h3 h4)
theorem r_if_lt (hG : Good Ω Γ y d mc ms) {x : Int32} {off : Int} (tgt : Nat) (hd : decode y.2.1 pc = .ok (.ifCond .lt off, 3)) (ht : (pc : Int) + off = (tgt : Int)) (kt : x < 0 → AW Ω Γ nL tgt lv st S h cells slots) (kf : ¬ x < 0 → AW Ω Γ nL (pc + 3) lv st S h cells slots) : AW Ω Γ nL pc lv (.int x :: st) S h cells slots := fun ls H locs h1 h2 h3 h4 => lv_if_lt hG.1 hG.2.1 hd ht (fun q => kt q ls H locs h1 h2 h3 h4) (fun q => kf q ls H locs h1 h2 h3 h4)
theorem r_icmp_lt (hG : Good Ω Γ y d mc ms) {x z : Int32} {off : Int} (tgt : Nat) (hd : decode y.2.1 pc = .ok (.if_icmp .lt off, 3)) (ht : (pc : Int) + off = (tgt : Int)) (kt : x < z → AW Ω Γ nL tgt lv st S h cells slots) (kf : ¬ x < z → AW Ω Γ nL (pc + 3) lv st S h cells slots) : AW Ω Γ nL pc lv (.int z :: .int x :: st) S h cells slots := fun ls H locs h1 h2 h3 h4 => lv_icmp_lt hG.1 hG.2.1 hd ht (fun q => kt q ls H locs h1 h2 h3 h4) (fun q => kf q ls H locs h1 h2 h3 h4)
theorem r_if_ge (hG : Good Ω Γ y d mc ms) {x : Int32} {off : Int} (tgt : Nat) (hd : decode y.2.1 pc = .ok (.ifCond .ge off, 3)) (ht : (pc : Int) + off = (tgt : Int)) (kt : 0 ≤ x → AW Ω Γ nL tgt lv st S h cells slots) (kf : ¬ 0 ≤ x → AW Ω Γ nL (pc + 3) lv st S h cells slots) : AW Ω Γ nL pc lv (.int x :: st) S h cells slots := fun ls H locs h1 h2 h3 h4 => lv_if_ge hG.1 hG.2.1 hd ht (fun q => kt q ls H locs h1 h2 h3 h4) (fun q => kf q ls H locs h1 h2 h3 h4)
theorem r_icmp_ge (hG : Good Ω Γ y d mc ms) {x z : Int32} {off : Int} (tgt : Nat) (hd : decode y.2.1 pc = .ok (.if_icmp .ge off, 3)) (ht : (pc : Int) + off = (tgt : Int)) (kt : z ≤ x → AW Ω Γ nL tgt lv st S h cells slots) (kf : ¬ z ≤ x → AW Ω Γ nL (pc + 3) lv st S h cells slots) : AW Ω Γ nL pc lv (.int z :: .int x :: st) S h cells slots := fun ls H locs h1 h2 h3 h4 => lv_icmp_ge hG.1 hG.2.1 hd ht (fun q => kt q ls H locs h1 h2 h3 h4) (fun q => kf q ls H locs h1 h2 h3 h4)
theorem r_if_gt (hG : Good Ω Γ y d mc ms) {x : Int32} {off : Int} (tgt : Nat) (hd : decode y.2.1 pc = .ok (.ifCond .gt off, 3)) (ht : (pc : Int) + off = (tgt : Int)) (kt : 0 < x → AW Ω Γ nL tgt lv st S h cells slots) (kf : ¬ 0 < x → AW Ω Γ nL (pc + 3) lv st S h cells slots) : AW Ω Γ nL pc lv (.int x :: st) S h cells slots := fun ls H locs h1 h2 h3 h4 => lv_if_gt hG.1 hG.2.1 hd ht (fun q => kt q ls H locs h1 h2 h3 h4) (fun q => kf q ls H locs h1 h2 h3 h4)
theorem r_icmp_gt (hG : Good Ω Γ y d mc ms) {x z : Int32} {off : Int} (tgt : Nat) (hd : decode y.2.1 pc = .ok (.if_icmp .gt off, 3)) (ht : (pc : Int) + off = (tgt : Int)) (kt : z < x → AW Ω Γ nL tgt lv st S h cells slots) (kf : ¬ z < x → AW Ω Γ nL (pc + 3) lv st S h cells slots) : AW Ω Γ nL pc lv (.int z :: .int x :: st) S h cells slots := fun ls H locs h1 h2 h3 h4 => lv_icmp_gt hG.1 hG.2.1 hd ht (fun q => kt q ls H locs h1 h2 h3 h4) (fun q => kf q ls H locs h1 h2 h3 h4)
theorem r_if_le (hG : Good Ω Γ y d mc ms) {x : Int32} {off : Int} (tgt : Nat) (hd : decode y.2.1 pc = .ok (.ifCond .le off, 3)) (ht : (pc : Int) + off = (tgt : Int)) (kt : x ≤ 0 → AW Ω Γ nL tgt lv st S h cells slots) (kf : ¬ x ≤ 0 → AW Ω Γ nL (pc + 3) lv st S h cells slots) : AW Ω Γ nL pc lv (.int x :: st) S h cells slots := fun ls H locs h1 h2 h3 h4 => lv_if_le hG.1 hG.2.1 hd ht (fun q => kt q ls H locs h1 h2 h3 h4) (fun q => kf q ls H locs h1 h2 h3 h4)
theorem r_icmp_le (hG : Good Ω Γ y d mc ms) {x z : Int32} {off : Int} (tgt : Nat) (hd : decode y.2.1 pc = .ok (.if_icmp .le off, 3)) (ht : (pc : Int) + off = (tgt : Int)) (kt : x ≤ z → AW Ω Γ nL tgt lv st S h cells slots) (kf : ¬ x ≤ z → AW Ω Γ nL (pc + 3) lv st S h cells slots) : AW Ω Γ nL pc lv (.int z :: .int x :: st) S h cells slots := fun ls H locs h1 h2 h3 h4 => lv_icmp_le hG.1 hG.2.1 hd ht (fun q => kt q ls H locs h1 h2 h3 h4) (fun q => kf q ls H locs h1 h2 h3 h4)
theorem r_goto (hG : Good Ω Γ y d mc ms) {off : Int} (tgt : Nat) (hd : decode y.2.1 pc = .ok (.goto off, 3)) (ht : (pc : Int) + off = (tgt : Int)) (k : AW Ω Γ nL tgt lv st S h cells slots) : AW Ω Γ nL pc lv st S h cells slots := fun ls H locs h1 h2 h3 h4 => lv_goto hG.1 hG.2.1 hd ht (k ls H locs h1 h2 h3 h4)
theorem r_tabOut (hG : Good Ω Γ y d mc ms) {dflt lo hi : Int} {offs : Array Int} {len : Nat} {x : Int32} (tgt : Nat) (hd : decode y.2.1 pc = .ok (.tableswitch dflt lo hi offs, len)) (hx : x.toInt < lo ∨ hi < x.toInt) (ht : (pc : Int) + dflt = (tgt : Int)) (k : AW Ω Γ nL tgt lv st S h cells slots) : AW Ω Γ nL pc lv (.int x :: st) S h cells slots := fun ls H locs h1 h2 h3 h4 => lv_tableOut hG.1 hG.2.1 hd hx ht (k ls H locs h1 h2 h3 h4)
theorem r_tabIn (hG : Good Ω Γ y d mc ms) {dflt lo hi : Int} {offs : Array Int} {len : Nat} {x : Int32} {off : Int} (tgt : Nat) (hd : decode y.2.1 pc = .ok (.tableswitch dflt lo hi offs, len)) (hx1 : ¬ x.toInt < lo) (hx2 : ¬ hi < x.toInt) (ho : offs[(x.toInt - lo).toNat]? = some off) (ht : (pc : Int) + off = (tgt : Int)) (k : AW Ω Γ nL tgt lv st S h cells slots) : AW Ω Γ nL pc lv (.int x :: st) S h cells slots := fun ls H locs h1 h2 h3 h4 => lv_tableIn hG.1 hG.2.1 hd hx1 hx2 ho ht (k ls H locs h1 h2 h3 h4)
theorem r_lookup (hG : Good Ω Γ y d mc ms) {dflt : Int} {ps : Array (Int × Int)} {len : Nat} {x : Int32} {off : Int} (tgt : Nat) (hd : decode y.2.1 pc = .ok (.lookupswitch dflt ps, len)) (hp : (ps.toList.zip (ps.toList.drop 1)).all (fun (a, next) => a.1 < next.1) = true) (ho : Op.lookupswitch.offset ps.toList dflt x.toInt = off) (ht : (pc : Int) + off = (tgt : Int)) (k : AW Ω Γ nL tgt lv st S h cells slots) : AW Ω Γ nL pc lv (.int x :: st) S h cells slots := fun ls H locs h1 h2 h3 h4 => lv_lookup hG.1 hG.2.1 hd hp ho ht (k ls H locs h1 h2 h3 h4)
theorem r_lv (hG : Good Ω Γ y d mc ms) {lv' : List (Nat × Value)} (hl : lvall lv' lv) (k : AW Ω Γ nL pc lv' st S h cells slots) : AW Ω Γ nL pc lv st S h cells slots := fun ls H locs h1 h2 h3 h4 => k ls H locs (lvall_has h1 hl) h2 h3 h4
theorem r_top {a b : Int32} (e : a = b) (k : AW Ω Γ nL pc lv (.int b :: st) S h cells slots) : AW Ω Γ nL pc lv (.int a :: st) S h cells slots := e ▸ k
theorem cls_at : ∀ {c : Nat}, c < 13 → classes[c]? = some (fN c, fT c, nfl c)
  | 0, _ => rfl
  | 1, _ => rfl
  | 2, _ => rfl
  | 3, _ => rfl
  | 4, _ => rfl
  | 5, _ => rfl
  | 6, _ => rfl
  | 7, _ => rfl
  | 8, _ => rfl
  | 9, _ => rfl
  | 10, _ => rfl
  | 11, _ => rfl
  | 12, _ => rfl
  | n + 13, h => absurd h (by omega)
theorem fty_ok : ∀ {c : Nat}, c < 13 → ∀ k, k < nfl c → parseFieldDescriptor (fT c k).2.2.1 = some (fty c k)
  | 0, _ => cYok0
  | 1, _ => cYok1
  | 2, _ => cYok2
  | 3, _ => cYok3
  | 4, _ => cYok4
  | 5, _ => cYok5
  | 6, _ => cYok6
  | 7, _ => cYok7
  | 8, _ => cYok8
  | 9, _ => cYok9
  | 10, _ => cYok10
  | 11, _ => cYok11
  | 12, _ => cYok12
  | n + 13, h => absurd h (by omega)
theorem fnm_ok : ∀ {c : Nat}, c < 13 → ∀ a, a < nfl c → ∀ b, b < nfl c → a ≠ b → (fT c a).2.1 ≠ (fT c b).2.1
  | 0, _ => cNm0
  | 1, _ => cNm1
  | 2, _ => cNm2
  | 3, _ => cNm3
  | 4, _ => cNm4
  | 5, _ => cNm5
  | 6, _ => cNm6
  | 7, _ => cNm7
  | 8, _ => cNm8
  | 9, _ => cNm9
  | 10, _ => cNm10
  | 11, _ => cNm11
  | 12, _ => cNm12
  | n + 13, h => absurd h (by omega)
def FLink (own : String) (idx c k : Nat) : Prop := Cond.fieldLink own idx (fT c k).1 (fT c k).2.1 (fT c k).2.2.1 ∈ T0 ∧ k < nfl c ∧ c < 13
theorem r_get (hG : Good Ω Γ y d mc ms) {a c j idx : Nat} (hk : Kd S a (.inl c)) (hF : FLink y.1.cls idx c j) {v : Value} (hv : fval (fty c j) (h a j) (S.2.1 a j) (S.2.2.1 a j) = v) (hd : decode y.2.1 pc = .ok (.getfield idx, 3)) (k : AW Ω Γ nL (pc + 3) lv (v :: st) S h cells slots) : AW Ω Γ nL pc lv (.ref (oB Ω + a) :: st) S h cells slots := fun ls H locs h1 h2 h3 h4 =>
  va_get (D := oD Ω) (ci := c) (v := v) (C := fN c) (T := fT c) (N := nfl c) hG.1 hG.2.1 hG.2.2.2.2.1 (lays_ok c hF.2.2) hG.2.2.2.1 hG.2.2.2.2.2.1 h2 a (ws_obj hk) (cls_at hF.2.2) j hF.2.1 (hG.2.2.2.2.1 _ hF.1) (fun _ h9 => h9) (by rw [fls_at hF.2.1, hv]) hd (k ls H locs h1 h2 h3 h4)
theorem r_getI (hG : Good Ω Γ y d mc ms) {a c j idx : Nat} (hk : Kd S a (.inl c)) (hF : FLink y.1.cls idx c j) (hv : fval (fty c j) = fun i _ _ => .int i) (hd : decode y.2.1 pc = .ok (.getfield idx, 3)) (k : AW Ω Γ nL (pc + 3) lv (.int (h a j) :: st) S h cells slots) : AW Ω Γ nL pc lv (.ref (oB Ω + a) :: st) S h cells slots := r_get hG hk hF (by rw [hv]) hd k
theorem r_getL (hG : Good Ω Γ y d mc ms) {a c j idx : Nat} (hk : Kd S a (.inl c)) (hF : FLink y.1.cls idx c j) (hv : fval (fty c j) = fun _ g _ => .long g) (hd : decode y.2.1 pc = .ok (.getfield idx, 3)) (k : AW Ω Γ nL (pc + 3) lv (.long (S.2.1 a j) :: st) S h cells slots) : AW Ω Γ nL pc lv (.ref (oB Ω + a) :: st) S h cells slots := r_get hG hk hF (by rw [hv]) hd k
theorem r_getR (hG : Good Ω Γ y d mc ms) {a c j idx q : Nat} (hk : Kd S a (.inl c)) (hF : FLink y.1.cls idx c j) (hv : fval (fty c j) = fun _ _ r => va_rf r) (hq : S.2.2.1 a j = some q) (hd : decode y.2.1 pc = .ok (.getfield idx, 3)) (k : AW Ω Γ nL (pc + 3) lv (.ref q :: st) S h cells slots) : AW Ω Γ nL pc lv (.ref (oB Ω + a) :: st) S h cells slots := r_get hG hk hF (by rw [hv, hq]; rfl) hd k
theorem r_getN (hG : Good Ω Γ y d mc ms) {a c j idx : Nat} (hk : Kd S a (.inl c)) (hF : FLink y.1.cls idx c j) (hv : fval (fty c j) = fun _ _ r => va_rf r) (hq : S.2.2.1 a j = none) (hd : decode y.2.1 pc = .ok (.getfield idx, 3)) (k : AW Ω Γ nL (pc + 3) lv (.null :: st) S h cells slots) : AW Ω Γ nL pc lv (.ref (oB Ω + a) :: st) S h cells slots := r_get hG hk hF (by rw [hv, hq]; rfl) hd k
theorem r_putI (hG : Good Ω Γ y d mc ms) {a c j idx : Nat} {x : Int32} (hk : Kd S a (.inl c)) (hF : FLink y.1.cls idx c j) (hfin : (fT c j).2.2.2 = false)  (hv : fval (fty c j) = fun i _ _ => .int i) (hn : narrow (fty c j) (.int x) = .int x) (hfit : fits (fty c j) (.int x) = true) (hd : decode y.2.1 pc = .ok (.putfield idx, 3)) (k : AW Ω Γ nL (pc + 3) lv st S (up2 h a j x) cells slots) : AW Ω Γ nL pc lv (.int x :: .ref (oB Ω + a) :: st) S h cells slots := fun ls H locs h1 h2 h3 h4 => by
  refine va_put (D := oD Ω) (ci := c) (v := .int x) (ty := fty c j) (C := fN c) (T := fT c) (N := nfl c) hG.1 hG.2.1 hG.2.2.2.2.1 (lays_ok c hF.2.2) (fty c) (fty_ok hF.2.2) (fnm_ok hF.2.2) hG.2.2.2.1 hG.2.2.2.2.2.1 h2 (ws_D Ω S h) h4 a (ws_obj hk) (cls_at hF.2.2) j hF.2.1 (hG.2.2.2.2.1 _ hF.1) (fun _ h9 => h9) hfin  (fty_ok hF.2.2 j hF.2.1) hn hfit (by rw [fls_len]; exact hF.2.1) hd (fun H1 locs1 hP hD hS => ?_)
  have e : (wsM Ω S h).set a (oB Ω + a, .inr (c, (fls c (h a) (S.2.1 a) (S.2.2.1 a)).set j (.int x))) = wsM Ω S (up2 h a j x) := by
    have e2 : En Ω S (up2 h a j x) a = .inr (c, (fls c (h a) (S.2.1 a) (S.2.2.1 a)).set j (.int x)) := by
      have h5 := fls_set (c := c) (k := j) (f := h a) (g := S.2.1 a) (r := S.2.2.1 a) (f' := (up2 h a j x) a) (g' := (S : Sl).2.1 a) (r' := (S : Sl).2.2.1 a) hF.2.1 (fun i hi hne => by simp [up2, hne])
      have h6 : fval (fty c j) ((up2 h a j x) a j) ((S : Sl).2.1 a j) ((S : Sl).2.2.1 a j) = .int x := by rw [hv]; simp [up2, va_rf]
      rw [h6] at h5
      rw [h5]
      show (match S.1 a with | .inl c => _ | .inr q => _) = _
      rw [hk.1]
    rw [← e2]
    exact ws_set rfl en_h
  rw [e] at hP
  exact aw_sz k (Nat.lt_of_le_of_lt (Nat.zero_le a) hk.2) h1 hP h3.2 hS
theorem r_putL (hG : Good Ω Γ y d mc ms) {a c j idx : Nat} {x : Int64} (hk : Kd S a (.inl c)) (hF : FLink y.1.cls idx c j) (hfin : (fT c j).2.2.2 = false)  (hv : fval (fty c j) = fun _ g _ => .long g) (hn : narrow (fty c j) (.long x) = .long x) (hfit : fits (fty c j) (.long x) = true) (hd : decode y.2.1 pc = .ok (.putfield idx, 3)) (k : AW Ω Γ nL (pc + 3) lv st (S.1, up2 S.2.1 a j x, S.2.2) h cells slots) : AW Ω Γ nL pc lv (.long x :: .ref (oB Ω + a) :: st) S h cells slots := fun ls H locs h1 h2 h3 h4 => by
  refine va_put (D := oD Ω) (ci := c) (v := .long x) (ty := fty c j) (C := fN c) (T := fT c) (N := nfl c) hG.1 hG.2.1 hG.2.2.2.2.1 (lays_ok c hF.2.2) (fty c) (fty_ok hF.2.2) (fnm_ok hF.2.2) hG.2.2.2.1 hG.2.2.2.2.2.1 h2 (ws_D Ω S h) h4 a (ws_obj hk) (cls_at hF.2.2) j hF.2.1 (hG.2.2.2.2.1 _ hF.1) (fun _ h9 => h9) hfin  (fty_ok hF.2.2 j hF.2.1) hn hfit (by rw [fls_len]; exact hF.2.1) hd (fun H1 locs1 hP hD hS => ?_)
  have e : (wsM Ω S h).set a (oB Ω + a, .inr (c, (fls c (h a) (S.2.1 a) (S.2.2.1 a)).set j (.long x))) = wsM Ω (S.1, up2 S.2.1 a j x, S.2.2) h := by
    have e2 : En Ω (S.1, up2 S.2.1 a j x, S.2.2) h a = .inr (c, (fls c (h a) (S.2.1 a) (S.2.2.1 a)).set j (.long x)) := by
      have h5 := fls_set (c := c) (k := j) (f := h a) (g := S.2.1 a) (r := S.2.2.1 a) (f' := h a) (g' := ((S.1, up2 S.2.1 a j x, S.2.2) : Sl).2.1 a) (r' := ((S.1, up2 S.2.1 a j x, S.2.2) : Sl).2.2.1 a) hF.2.1 (fun i hi hne => by simp [up2, hne])
      have h6 : fval (fty c j) (h a j) (((S.1, up2 S.2.1 a j x, S.2.2) : Sl).2.1 a j) (((S.1, up2 S.2.1 a j x, S.2.2) : Sl).2.2.1 a j) = .long x := by rw [hv]; simp [up2, va_rf]
      rw [h6] at h5
      rw [h5]
      show (match S.1 a with | .inl c => _ | .inr q => _) = _
      rw [hk.1]
    rw [← e2]
    exact ws_set rfl en_l
  rw [e] at hP
  exact aw_sz k (Nat.lt_of_le_of_lt (Nat.zero_le a) hk.2) h1 hP h3.2 hS
theorem r_putR (hG : Good Ω Γ y d mc ms) {a c j idx : Nat} {x : Nat} (hk : Kd S a (.inl c)) (hF : FLink y.1.cls idx c j) (hfin : (fT c j).2.2.2 = false)  (hv : fval (fty c j) = fun _ _ r => va_rf r) (hn : narrow (fty c j) (.ref x) = .ref x) (hfit : fits (fty c j) (.ref x) = true) (hd : decode y.2.1 pc = .ok (.putfield idx, 3)) (k : AW Ω Γ nL (pc + 3) lv st (S.1, S.2.1, up2 S.2.2.1 a j (some x), S.2.2.2) h cells slots) : AW Ω Γ nL pc lv (.ref x :: .ref (oB Ω + a) :: st) S h cells slots := fun ls H locs h1 h2 h3 h4 => by
  refine va_put (D := oD Ω) (ci := c) (v := .ref x) (ty := fty c j) (C := fN c) (T := fT c) (N := nfl c) hG.1 hG.2.1 hG.2.2.2.2.1 (lays_ok c hF.2.2) (fty c) (fty_ok hF.2.2) (fnm_ok hF.2.2) hG.2.2.2.1 hG.2.2.2.2.2.1 h2 (ws_D Ω S h) h4 a (ws_obj hk) (cls_at hF.2.2) j hF.2.1 (hG.2.2.2.2.1 _ hF.1) (fun _ h9 => h9) hfin  (fty_ok hF.2.2 j hF.2.1) hn hfit (by rw [fls_len]; exact hF.2.1) hd (fun H1 locs1 hP hD hS => ?_)
  have e : (wsM Ω S h).set a (oB Ω + a, .inr (c, (fls c (h a) (S.2.1 a) (S.2.2.1 a)).set j (.ref x))) = wsM Ω (S.1, S.2.1, up2 S.2.2.1 a j (some x), S.2.2.2) h := by
    have e2 : En Ω (S.1, S.2.1, up2 S.2.2.1 a j (some x), S.2.2.2) h a = .inr (c, (fls c (h a) (S.2.1 a) (S.2.2.1 a)).set j (.ref x)) := by
      have h5 := fls_set (c := c) (k := j) (f := h a) (g := S.2.1 a) (r := S.2.2.1 a) (f' := h a) (g' := ((S.1, S.2.1, up2 S.2.2.1 a j (some x), S.2.2.2) : Sl).2.1 a) (r' := ((S.1, S.2.1, up2 S.2.2.1 a j (some x), S.2.2.2) : Sl).2.2.1 a) hF.2.1 (fun i hi hne => by simp [up2, hne])
      have h6 : fval (fty c j) (h a j) (((S.1, S.2.1, up2 S.2.2.1 a j (some x), S.2.2.2) : Sl).2.1 a j) (((S.1, S.2.1, up2 S.2.2.1 a j (some x), S.2.2.2) : Sl).2.2.1 a j) = .ref x := by rw [hv]; simp [up2, va_rf]
      rw [h6] at h5
      rw [h5]
      show (match S.1 a with | .inl c => _ | .inr q => _) = _
      rw [hk.1]
    rw [← e2]
    exact ws_set rfl en_r
  rw [e] at hP
  exact aw_sz k (Nat.lt_of_le_of_lt (Nat.zero_le a) hk.2) h1 hP h3.2 hS
theorem r_putN (hG : Good Ω Γ y d mc ms) {a c j idx : Nat}  (hk : Kd S a (.inl c)) (hF : FLink y.1.cls idx c j) (hfin : (fT c j).2.2.2 = false)  (hv : fval (fty c j) = fun _ _ r => va_rf r) (hn : narrow (fty c j) (.null) = .null) (hfit : fits (fty c j) (.null) = true) (hd : decode y.2.1 pc = .ok (.putfield idx, 3)) (k : AW Ω Γ nL (pc + 3) lv st (S.1, S.2.1, up2 S.2.2.1 a j none, S.2.2.2) h cells slots) : AW Ω Γ nL pc lv (.null :: .ref (oB Ω + a) :: st) S h cells slots := fun ls H locs h1 h2 h3 h4 => by
  refine va_put (D := oD Ω) (ci := c) (v := .null) (ty := fty c j) (C := fN c) (T := fT c) (N := nfl c) hG.1 hG.2.1 hG.2.2.2.2.1 (lays_ok c hF.2.2) (fty c) (fty_ok hF.2.2) (fnm_ok hF.2.2) hG.2.2.2.1 hG.2.2.2.2.2.1 h2 (ws_D Ω S h) h4 a (ws_obj hk) (cls_at hF.2.2) j hF.2.1 (hG.2.2.2.2.1 _ hF.1) (fun _ h9 => h9) hfin  (fty_ok hF.2.2 j hF.2.1) hn hfit (by rw [fls_len]; exact hF.2.1) hd (fun H1 locs1 hP hD hS => ?_)
  have e : (wsM Ω S h).set a (oB Ω + a, .inr (c, (fls c (h a) (S.2.1 a) (S.2.2.1 a)).set j (.null))) = wsM Ω (S.1, S.2.1, up2 S.2.2.1 a j none, S.2.2.2) h := by
    have e2 : En Ω (S.1, S.2.1, up2 S.2.2.1 a j none, S.2.2.2) h a = .inr (c, (fls c (h a) (S.2.1 a) (S.2.2.1 a)).set j (.null)) := by
      have h5 := fls_set (c := c) (k := j) (f := h a) (g := S.2.1 a) (r := S.2.2.1 a) (f' := h a) (g' := ((S.1, S.2.1, up2 S.2.2.1 a j none, S.2.2.2) : Sl).2.1 a) (r' := ((S.1, S.2.1, up2 S.2.2.1 a j none, S.2.2.2) : Sl).2.2.1 a) hF.2.1 (fun i hi hne => by simp [up2, hne])
      have h6 : fval (fty c j) (h a j) (((S.1, S.2.1, up2 S.2.2.1 a j none, S.2.2.2) : Sl).2.1 a j) (((S.1, S.2.1, up2 S.2.2.1 a j none, S.2.2.2) : Sl).2.2.1 a j) = .null := by rw [hv]; simp [up2, va_rf]
      rw [h6] at h5
      rw [h5]
      show (match S.1 a with | .inl c => _ | .inr q => _) = _
      rw [hk.1]
    rw [← e2]
    exact ws_set rfl en_r
  rw [e] at hP
  exact aw_sz k (Nat.lt_of_le_of_lt (Nat.zero_le a) hk.2) h1 hP h3.2 hS
theorem r_putIF (hG : Good Ω Γ y d mc ms) {a c j idx : Nat} {x : Int32} (hk : Kd S a (.inl c)) (hF : FLink y.1.cls idx c j) (hfin : (fT c j).2.2.2 = true) (hini : y.1.name = "<init>") (hown : (fT c j).1 = y.1.cls) (hv : fval (fty c j) = fun i _ _ => .int i) (hn : narrow (fty c j) (.int x) = .int x) (hfit : fits (fty c j) (.int x) = true) (hd : decode y.2.1 pc = .ok (.putfield idx, 3)) (k : AW Ω Γ nL (pc + 3) lv st S (up2 h a j x) cells slots) : AW Ω Γ nL pc lv (.int x :: .ref (oB Ω + a) :: st) S h cells slots := fun ls H locs h1 h2 h3 h4 => by
  refine va_putF (D := oD Ω) (ci := c) (v := .int x) (ty := fty c j) (C := fN c) (T := fT c) (N := nfl c) hG.1 hG.2.1 hG.2.2.2.2.1 (lays_ok c hF.2.2) (fty c) (fty_ok hF.2.2) (fnm_ok hF.2.2) hG.2.2.2.1 hG.2.2.2.2.2.1 h2 (ws_D Ω S h) h4 a (ws_obj hk) (cls_at hF.2.2) j hF.2.1 (hG.2.2.2.2.1 _ hF.1) (fun _ h9 => h9) hfin (by rw [hG.2.2.2.2.2.2.2.2.2.2.1]; exact hini) hown (fty_ok hF.2.2 j hF.2.1) hn hfit (by rw [fls_len]; exact hF.2.1) hd (fun H1 locs1 hP hD hS => ?_)
  have e : (wsM Ω S h).set a (oB Ω + a, .inr (c, (fls c (h a) (S.2.1 a) (S.2.2.1 a)).set j (.int x))) = wsM Ω S (up2 h a j x) := by
    have e2 : En Ω S (up2 h a j x) a = .inr (c, (fls c (h a) (S.2.1 a) (S.2.2.1 a)).set j (.int x)) := by
      have h5 := fls_set (c := c) (k := j) (f := h a) (g := S.2.1 a) (r := S.2.2.1 a) (f' := (up2 h a j x) a) (g' := (S : Sl).2.1 a) (r' := (S : Sl).2.2.1 a) hF.2.1 (fun i hi hne => by simp [up2, hne])
      have h6 : fval (fty c j) ((up2 h a j x) a j) ((S : Sl).2.1 a j) ((S : Sl).2.2.1 a j) = .int x := by rw [hv]; simp [up2, va_rf]
      rw [h6] at h5
      rw [h5]
      show (match S.1 a with | .inl c => _ | .inr q => _) = _
      rw [hk.1]
    rw [← e2]
    exact ws_set rfl en_h
  rw [e] at hP
  exact aw_sz k (Nat.lt_of_le_of_lt (Nat.zero_le a) hk.2) h1 hP h3.2 hS
theorem r_putRF (hG : Good Ω Γ y d mc ms) {a c j idx : Nat} {x : Nat} (hk : Kd S a (.inl c)) (hF : FLink y.1.cls idx c j) (hfin : (fT c j).2.2.2 = true) (hini : y.1.name = "<init>") (hown : (fT c j).1 = y.1.cls) (hv : fval (fty c j) = fun _ _ r => va_rf r) (hn : narrow (fty c j) (.ref x) = .ref x) (hfit : fits (fty c j) (.ref x) = true) (hd : decode y.2.1 pc = .ok (.putfield idx, 3)) (k : AW Ω Γ nL (pc + 3) lv st (S.1, S.2.1, up2 S.2.2.1 a j (some x), S.2.2.2) h cells slots) : AW Ω Γ nL pc lv (.ref x :: .ref (oB Ω + a) :: st) S h cells slots := fun ls H locs h1 h2 h3 h4 => by
  refine va_putF (D := oD Ω) (ci := c) (v := .ref x) (ty := fty c j) (C := fN c) (T := fT c) (N := nfl c) hG.1 hG.2.1 hG.2.2.2.2.1 (lays_ok c hF.2.2) (fty c) (fty_ok hF.2.2) (fnm_ok hF.2.2) hG.2.2.2.1 hG.2.2.2.2.2.1 h2 (ws_D Ω S h) h4 a (ws_obj hk) (cls_at hF.2.2) j hF.2.1 (hG.2.2.2.2.1 _ hF.1) (fun _ h9 => h9) hfin (by rw [hG.2.2.2.2.2.2.2.2.2.2.1]; exact hini) hown (fty_ok hF.2.2 j hF.2.1) hn hfit (by rw [fls_len]; exact hF.2.1) hd (fun H1 locs1 hP hD hS => ?_)
  have e : (wsM Ω S h).set a (oB Ω + a, .inr (c, (fls c (h a) (S.2.1 a) (S.2.2.1 a)).set j (.ref x))) = wsM Ω (S.1, S.2.1, up2 S.2.2.1 a j (some x), S.2.2.2) h := by
    have e2 : En Ω (S.1, S.2.1, up2 S.2.2.1 a j (some x), S.2.2.2) h a = .inr (c, (fls c (h a) (S.2.1 a) (S.2.2.1 a)).set j (.ref x)) := by
      have h5 := fls_set (c := c) (k := j) (f := h a) (g := S.2.1 a) (r := S.2.2.1 a) (f' := h a) (g' := ((S.1, S.2.1, up2 S.2.2.1 a j (some x), S.2.2.2) : Sl).2.1 a) (r' := ((S.1, S.2.1, up2 S.2.2.1 a j (some x), S.2.2.2) : Sl).2.2.1 a) hF.2.1 (fun i hi hne => by simp [up2, hne])
      have h6 : fval (fty c j) (h a j) (((S.1, S.2.1, up2 S.2.2.1 a j (some x), S.2.2.2) : Sl).2.1 a j) (((S.1, S.2.1, up2 S.2.2.1 a j (some x), S.2.2.2) : Sl).2.2.1 a j) = .ref x := by rw [hv]; simp [up2, va_rf]
      rw [h6] at h5
      rw [h5]
      show (match S.1 a with | .inl c => _ | .inr q => _) = _
      rw [hk.1]
    rw [← e2]
    exact ws_set rfl en_r
  rw [e] at hP
  exact aw_sz k (Nat.lt_of_le_of_lt (Nat.zero_le a) hk.2) h1 hP h3.2 hS
theorem r_iald (hG : Good Ω Γ y d mc ms) {a n j : Nat} {i : Int32} (hk : Kd S a (.inr (.int, n))) (hi : i = nI j) (hj : j < n) (hn : n < 2 ^ 31) (hd : decode y.2.1 pc = .ok (.iaload, 1)) (k : AW Ω Γ nL (pc + 1) lv (.int (h a j) :: st) S h cells slots) : AW Ω Γ nL pc lv (.int i :: .ref (oB Ω + a) :: st) S h cells slots := fun ls H locs h1 h2 h3 h4 => by
  obtain ⟨c1, c2⟩ := nI_cl hi hj hn
  refine va_iald hG.1 hG.2.1 hG.2.2.2.2.2.1 h2 a 0 (ws_arr hk) rfl c1 hd ?_
  rw [c2]
  exact k ls H locs h1 h2 h3 h4
theorem r_bald (hG : Good Ω Γ y d mc ms) {a n j : Nat} {i : Int32} (hk : Kd S a (.inr (.byte, n))) (hi : i = nI j) (hj : j < n) (hn : n < 2 ^ 31) (hd : decode y.2.1 pc = .ok (.baload, 1)) (k : AW Ω Γ nL (pc + 1) lv (.int (h a j) :: st) S h cells slots) : AW Ω Γ nL pc lv (.int i :: .ref (oB Ω + a) :: st) S h cells slots := fun ls H locs h1 h2 h3 h4 => by
  obtain ⟨c1, c2⟩ := nI_cl hi hj hn
  refine va_bald hG.1 hG.2.1 hG.2.2.2.2.2.1 h2 a 1 (ws_arr hk) rfl c1 hd ?_
  rw [c2]
  exact k ls H locs h1 h2 h3 h4
theorem r_zald (hG : Good Ω Γ y d mc ms) {a n j : Nat} {i : Int32} (hk : Kd S a (.inr (.boolean, n))) (hi : i = nI j) (hj : j < n) (hn : n < 2 ^ 31) (hd : decode y.2.1 pc = .ok (.baload, 1)) (k : AW Ω Γ nL (pc + 1) lv (.int (h a j) :: st) S h cells slots) : AW Ω Γ nL pc lv (.int i :: .ref (oB Ω + a) :: st) S h cells slots := fun ls H locs h1 h2 h3 h4 => by
  obtain ⟨c1, c2⟩ := nI_cl hi hj hn
  refine va_zald hG.1 hG.2.1 hG.2.2.2.2.2.1 h2 a 2 (ws_arr hk) rfl c1 hd ?_
  rw [c2]
  exact k ls H locs h1 h2 h3 h4
theorem r_lald (hG : Good Ω Γ y d mc ms) {a n j : Nat} {i : Int32} (hk : Kd S a (.inr (.long, n))) (hi : i = nI j) (hj : j < n) (hn : n < 2 ^ 31) (hd : decode y.2.1 pc = .ok (.laload, 1)) (k : AW Ω Γ nL (pc + 1) lv (.long (S.2.1 a j) :: st) S h cells slots) : AW Ω Γ nL pc lv (.int i :: .ref (oB Ω + a) :: st) S h cells slots := fun ls H locs h1 h2 h3 h4 => by
  obtain ⟨c1, c2⟩ := nI_cl hi hj hn
  refine va_lald hG.1 hG.2.1 hG.2.2.2.2.2.1 h2 a 3 (ws_arr hk) rfl c1 hd ?_
  rw [c2]
  exact k ls H locs h1 h2 h3 h4
theorem r_iast (hG : Good Ω Γ y d mc ms) {a n j : Nat} {i : Int32} {x : Int32} (hk : Kd S a (.inr (.int, n))) (hi : i = nI j) (hj : j < n) (hn : n < 2 ^ 31) (hd : decode y.2.1 pc = .ok (.iastore, 1)) (k : AW Ω Γ nL (pc + 1) lv st S (up2 h a j x) cells slots) : AW Ω Γ nL pc lv (.int x :: .int i :: .ref (oB Ω + a) :: st) S h cells slots := fun ls H locs h1 h2 h3 h4 => by
  obtain ⟨c1, c2⟩ := nI_cl hi hj hn
  refine va_iast hG.1 hG.2.1 hG.2.2.2.2.2.1 h2 (ws_D Ω S h) h4 a 0 (ws_arr hk) rfl c1 hd (fun H1 locs1 hP hD hS => ?_)
  rw [c2] at hP
  have e2 : ∀ v, En Ω S (up2 h a j x) a = v → (wsM Ω S h).set a (oB Ω + a, v) = wsM Ω S (up2 h a j x) := fun v hv => by
    rw [← hv]
    exact ws_set rfl en_h
  rw [e2 _ (by
    show (match S.1 a with | .inl c => _ | .inr q => _) = _
    rw [hk.1]
    show Sum.inl (_, _, _) = Sum.inl (_, _, _)
    congr 3
    show acon _ _ _ _ = _
    simp only [acon]
    congr 1
    
    funext q
    simp [up2, upd, vp_updL])] at hP
  exact aw_sz k (Nat.lt_of_le_of_lt (Nat.zero_le a) hk.2) h1 hP h3.2 hS
theorem r_bast (hG : Good Ω Γ y d mc ms) {a n j : Nat} {i : Int32} {x : Int32} (hk : Kd S a (.inr (.byte, n))) (hi : i = nI j) (hj : j < n) (hn : n < 2 ^ 31) (hd : decode y.2.1 pc = .ok (.bastore, 1)) (k : AW Ω Γ nL (pc + 1) lv st S (up2 h a j (vp_nar .byte x)) cells slots) : AW Ω Γ nL pc lv (.int x :: .int i :: .ref (oB Ω + a) :: st) S h cells slots := fun ls H locs h1 h2 h3 h4 => by
  obtain ⟨c1, c2⟩ := nI_cl hi hj hn
  refine va_bast hG.1 hG.2.1 hG.2.2.2.2.2.1 h2 (ws_D Ω S h) h4 a 1 (ws_arr hk) rfl c1 hd (fun H1 locs1 hP hD hS => ?_)
  rw [c2] at hP
  have e2 : ∀ v, En Ω S (up2 h a j (vp_nar .byte x)) a = v → (wsM Ω S h).set a (oB Ω + a, v) = wsM Ω S (up2 h a j (vp_nar .byte x)) := fun v hv => by
    rw [← hv]
    exact ws_set rfl en_h
  rw [e2 _ (by
    show (match S.1 a with | .inl c => _ | .inr q => _) = _
    rw [hk.1]
    show Sum.inl (_, _, _) = Sum.inl (_, _, _)
    congr 3
    show acon _ _ _ _ = _
    simp only [acon]
    congr 1
    
    funext q
    simp [up2, upd, vp_updL])] at hP
  exact aw_sz k (Nat.lt_of_le_of_lt (Nat.zero_le a) hk.2) h1 hP h3.2 hS
theorem r_zast (hG : Good Ω Γ y d mc ms) {a n j : Nat} {i : Int32} {x : Int32} (hk : Kd S a (.inr (.boolean, n))) (hi : i = nI j) (hj : j < n) (hn : n < 2 ^ 31) (hd : decode y.2.1 pc = .ok (.bastore, 1)) (k : AW Ω Γ nL (pc + 1) lv st S (up2 h a j (vp_nar .boolean x)) cells slots) : AW Ω Γ nL pc lv (.int x :: .int i :: .ref (oB Ω + a) :: st) S h cells slots := fun ls H locs h1 h2 h3 h4 => by
  obtain ⟨c1, c2⟩ := nI_cl hi hj hn
  refine va_zast hG.1 hG.2.1 hG.2.2.2.2.2.1 h2 (ws_D Ω S h) h4 a 2 (ws_arr hk) rfl c1 hd (fun H1 locs1 hP hD hS => ?_)
  rw [c2] at hP
  have e2 : ∀ v, En Ω S (up2 h a j (vp_nar .boolean x)) a = v → (wsM Ω S h).set a (oB Ω + a, v) = wsM Ω S (up2 h a j (vp_nar .boolean x)) := fun v hv => by
    rw [← hv]
    exact ws_set rfl en_h
  rw [e2 _ (by
    show (match S.1 a with | .inl c => _ | .inr q => _) = _
    rw [hk.1]
    show Sum.inl (_, _, _) = Sum.inl (_, _, _)
    congr 3
    show acon _ _ _ _ = _
    simp only [acon]
    congr 1
    
    funext q
    simp [up2, upd, vp_updL])] at hP
  exact aw_sz k (Nat.lt_of_le_of_lt (Nat.zero_le a) hk.2) h1 hP h3.2 hS
theorem r_last (hG : Good Ω Γ y d mc ms) {a n j : Nat} {i : Int32} {x : Int64} (hk : Kd S a (.inr (.long, n))) (hi : i = nI j) (hj : j < n) (hn : n < 2 ^ 31) (hd : decode y.2.1 pc = .ok (.lastore, 1)) (k : AW Ω Γ nL (pc + 1) lv st (S.1, up2 S.2.1 a j x, S.2.2) h cells slots) : AW Ω Γ nL pc lv (.long x :: .int i :: .ref (oB Ω + a) :: st) S h cells slots := fun ls H locs h1 h2 h3 h4 => by
  obtain ⟨c1, c2⟩ := nI_cl hi hj hn
  refine va_last hG.1 hG.2.1 hG.2.2.2.2.2.1 h2 (ws_D Ω S h) h4 a 3 (ws_arr hk) rfl c1 hd (fun H1 locs1 hP hD hS => ?_)
  rw [c2] at hP
  have e2 : ∀ v, En Ω (S.1, up2 S.2.1 a j x, S.2.2) h a = v → (wsM Ω S h).set a (oB Ω + a, v) = wsM Ω (S.1, up2 S.2.1 a j x, S.2.2) h := fun v hv => by
    rw [← hv]
    exact ws_set rfl en_l
  rw [e2 _ (by
    show (match S.1 a with | .inl c => _ | .inr q => _) = _
    rw [hk.1]
    show Sum.inl (_, _, _) = Sum.inl (_, _, _)
    congr 3
    show acon _ _ _ _ = _
    simp only [acon]
    congr 1
    congr 1
    funext q
    simp [up2, upd, vp_updL])] at hP
  exact aw_sz k (Nat.lt_of_le_of_lt (Nat.zero_le a) hk.2) h1 hP h3.2 hS
theorem r_alen (hG : Good Ω Γ y d mc ms) {a n : Nat} {ty : FieldType} (hk : Kd S a (.inr (ty, n))) (t0 : Nat) (ht : (tysM Ω)[t0]? = some (oC Ω ty, ty)) (hd : decode y.2.1 pc = .ok (.arraylength, 1)) (k : AW Ω Γ nL (pc + 1) lv (.int (nI n) :: st) S h cells slots) : AW Ω Γ nL pc lv (.ref (oB Ω + a) :: st) S h cells slots := fun ls H locs h1 h2 h3 h4 => va_alen hG.1 hG.2.1 hG.2.2.2.2.2.1 h2 a t0 (ws_arr hk) ht rfl hd (k ls H locs h1 h2 h3 h4)
theorem r_iret (hG : Good Ω Γ y d mc ms) {r : Option Value} {S' : Sl} {h' : Hp} {v : Int32} {ty : FieldType} (hE : Ends Ω Γ mc ms r S' h') (hd : decode y.2.1 pc = .ok (.ireturn, 1)) (hr : y.2.2.2 = some ty) (hn : narrow ty (.int v) = .int v) (e1 : some (.int v) = r) (e2 : S = S') (e3 : h = h') (hc : cells ≤ mc) (hs : slots ≤ ms) : AW Ω Γ nL pc lv [.int v] S h cells slots := fun ls H locs h1 h2 h3 h4 => by
  subst e1; subst e2; subst e3
  refine W.widen (k := mc) (n := ms) hc hs ?_
  have hE : gQ Γ = _ := hE
  rw [hE]
  exact W.zret hG.1 hG.2.1 (hG.2.2.2.2.2.2.2.2.1.trans hr) hn (fun t ht hW => ⟨rfl, by rw [ht]; exact h2, by rw [ht]; exact h3.1, h4.F ht⟩) h4.2.2 hd (hlocks := hG.2.2.2.2.2.2.2.2.2.1)
theorem r_lret (hG : Good Ω Γ y d mc ms) {r : Option Value} {S' : Sl} {h' : Hp} {v : Int64} (hE : Ends Ω Γ mc ms r S' h') (hd : decode y.2.1 pc = .ok (.lreturn, 1)) (hr : y.2.2.2 = some .long) (e1 : some (.long v) = r) (e2 : S = S') (e3 : h = h') (hc : cells ≤ mc) (hs : slots ≤ ms) : AW Ω Γ nL pc lv [.long v] S h cells slots := fun ls H locs h1 h2 h3 h4 => by
  subst e1; subst e2; subst e3
  refine W.widen (k := mc) (n := ms) hc hs ?_
  have hE : gQ Γ = _ := hE
  rw [hE]
  exact W.lret hG.1 hG.2.1 (hG.2.2.2.2.2.2.2.2.1.trans hr) (fun t ht hW => ⟨rfl, by rw [ht]; exact h2, by rw [ht]; exact h3.1, h4.F ht⟩) h4.2.2 hd (hlocks := hG.2.2.2.2.2.2.2.2.2.1)
theorem r_vret (hG : Good Ω Γ y d mc ms) {r : Option Value} {S' : Sl} {h' : Hp}  (hE : Ends Ω Γ mc ms r S' h') (hd : decode y.2.1 pc = .ok (.return_, 1)) (hr : y.2.2.2 = none) (e1 : none = r) (e2 : S = S') (e3 : h = h') (hc : cells ≤ mc) (hs : slots ≤ ms) : AW Ω Γ nL pc lv [] S h cells slots := fun ls H locs h1 h2 h3 h4 => by
  subst e1; subst e2; subst e3
  refine W.widen (k := mc) (n := ms) hc hs ?_
  have hE : gQ Γ = _ := hE
  rw [hE]
  exact W.vret hG.1 hG.2.1 (hG.2.2.2.2.2.2.2.2.1.trans hr) (fun t ht hW => ⟨rfl, by rw [ht]; exact h2, by rw [ht]; exact h3.1, h4.F ht⟩) h4.2.2 hd (hlocks := hG.2.2.2.2.2.2.2.2.2.1)
theorem r_aret (hG : Good Ω Γ y d mc ms) {r : Option Value} {S' : Sl} {h' : Hp} {v : Value} {rt : FieldType} (hE : Ends Ω Γ mc ms r S' h') (hd : decode y.2.1 pc = .ok (.areturn, 1)) (hr : y.2.2.2 = some rt) (hrt : (∃ n, rt = .object n) ∨ ∃ t, rt = .array t) (hv : v = .null ∨ ∃ a, v = .ref a) (e1 : some v = r) (e2 : S = S') (e3 : h = h') (hc : cells ≤ mc) (hs : slots ≤ ms) : AW Ω Γ nL pc lv [v] S h cells slots := fun ls H locs h1 h2 h3 h4 => by
  subst e1; subst e2; subst e3
  refine W.widen (k := mc) (n := ms) hc hs ?_
  have hE : gQ Γ = _ := hE
  rw [hE]
  exact W.aret hG.1 hG.2.1 (hG.2.2.2.2.2.2.2.2.1.trans hr) hrt hv (fun t ht hW => ⟨rfl, by rw [ht]; exact h2, by rw [ht]; exact h3.1, h4.F ht⟩) h4.2.2 hd (hlocks := hG.2.2.2.2.2.2.2.2.2.1)
end RULES
