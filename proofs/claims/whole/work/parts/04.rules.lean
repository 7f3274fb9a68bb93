/-! primitives -/
def dr (σ : Me) (r : Option Nat) (k : Kn) : Option Nat := match r with
  | none => none
  | some a => if mk σ a = k ∧ a < mz σ ∧ a < 1000000 then some a else none
theorem dr_spec {σ : Me} {r : Option Nat} {k : Kn} {a : Nat} (h : dr σ r k = some a) : r = some a ∧ Kd σ a k := by
  unfold dr at h
  cases r with
  | none => cases h
  | some b =>
    simp only at h
    split at h
    · rename_i hc
      cases h
      exact ⟨rfl, hc⟩
    · cases h
theorem dr_ok {σ : Me} {k : Kn} {a : Nat} (h : Kd σ a k) : dr σ (some a) k = some a := by
  unfold dr; exact if_pos h
def qI (σ : Me) (c j : Nat) (r : Option Nat) : Option Int32 := (dr σ r (.inl c)).bind fun a => some (mi σ a j)
def qL (σ : Me) (c j : Nat) (r : Option Nat) : Option Int64 := (dr σ r (.inl c)).bind fun a => some (ml σ a j)
def qR (σ : Me) (c j : Nat) (r : Option Nat) : Option (Option Nat) := (dr σ r (.inl c)).bind fun a => some (mr σ a j)
def pI (σ : Me) (c j : Nat) (r : Option Nat) (x : Int32) : Option Me := (dr σ r (.inl c)).bind fun a => some (setI σ a j x)
def pZ (σ : Me) (c j : Nat) (r : Option Nat) (x : Int32) : Option Me := if x = 0 ∨ x = 1 then (dr σ r (.inl c)).bind fun a => some (setI σ a j x) else none
def pL (σ : Me) (c j : Nat) (r : Option Nat) (x : Int64) : Option Me := (dr σ r (.inl c)).bind fun a => some (setL σ a j x)
def pR (σ : Me) (c j : Nat) (r : Option Nat) (x : Option Nat) : Option Me := (dr σ r (.inl c)).bind fun a => some (setR σ a j x)
/-- the array, if it is of that type and the index is within -/
def arr (σ : Me) (ty : FieldType) (r : Option Nat) (i : Int32) : Option Nat := match r with
  | none => none
  | some a => match mk σ a with
    | .inr (t, n) => if t = ty ∧ a < mz σ ∧ a < 1000000 ∧ ¬ i < 0 ∧ i.toNatClampNeg < n then some a else none
    | _ => none
theorem arr_spec {σ : Me} {ty : FieldType} {r : Option Nat} {i : Int32} {a : Nat} (h : arr σ ty r i = some a) : r = some a ∧ ∃ n, Kd σ a (.inr (ty, n)) ∧ vp_in i n := by
  unfold arr at h
  cases r with
  | none => cases h
  | some b =>
    simp only at h
    split at h
    · rename_i t n hk
      split at h
      · rename_i hc
        cases h
        obtain ⟨rfl, h1, h2, h3, h4⟩ := hc
        exact ⟨rfl, n, ⟨hk, h1, h2⟩, nI_cl h3 h4⟩
      · cases h
    · cases h
theorem arr_ok {σ : Me} {ty : FieldType} {a n : Nat} {i : Int32} (h : Kd σ a (.inr (ty, n))) (h1 : ¬ i < 0) (h2 : i.toNatClampNeg < n) : arr σ ty (some a) i = some a := by
  unfold arr; simp only; rw [h.1]; exact if_pos ⟨rfl, h.2.1, h.2.2, h1, h2⟩
/-- a static array's place -/
def sld (a : Nat) (i : Int32) : Option Int32 := if a < 1000006 ∧ ¬ i < 0 ∧ i.toNatClampNeg < (sLs (a - 1000000)).length then some ((sLs (a - 1000000)).getD i.toNatClampNeg 0) else none
def ldI (σ : Me) (r : Option Nat) (i : Int32) : Option Int32 := match r with
  | none => none
  | some a => if a < 1000000 then (arr σ .int (some a) i).bind fun a => some (mi σ a i.toNatClampNeg) else sld a i
/-- a string's byte -/
def sldB (a : Nat) (i : Int32) : Option Int32 := if (1000040 ≤ a ∧ a < 1000049) ∧ ¬ i < 0 ∧ i.toNatClampNeg < kLn.getD (a - 1000040) 0 then some ((kBy.getD (a - 1000040) []).getD i.toNatClampNeg 0) else none
def ldB (σ : Me) (r : Option Nat) (i : Int32) : Option Int32 := match r with
  | none => none
  | some a => if a < 1000000 then (arr σ .byte (some a) i).bind fun a => some (mi σ a i.toNatClampNeg) else sldB a i
def ldZ (σ : Me) (r : Option Nat) (i : Int32) : Option Int32 := (arr σ .boolean r i).bind fun a => some (mi σ a i.toNatClampNeg)
def ldL (σ : Me) (r : Option Nat) (i : Int32) : Option Int64 := (arr σ .long r i).bind fun a => some (ml σ a i.toNatClampNeg)
def stI (σ : Me) (r : Option Nat) (i x : Int32) : Option Me := (arr σ .int r i).bind fun a => some (setI σ a i.toNatClampNeg x)
def stB (σ : Me) (r : Option Nat) (i x : Int32) : Option Me := (arr σ .byte r i).bind fun a => some (setI σ a i.toNatClampNeg (vp_nar .byte x))
def stZ (σ : Me) (r : Option Nat) (i x : Int32) : Option Me := (arr σ .boolean r i).bind fun a => some (setI σ a i.toNatClampNeg (vp_nar .boolean x))
def stL (σ : Me) (r : Option Nat) (i : Int32) (x : Int64) : Option Me := (arr σ .long r i).bind fun a => some (setL σ a i.toNatClampNeg x)
def ldR (σ : Me) (C : String) (r : Option Nat) (i : Int32) : Option (Option Nat) := (arr σ (.object C) r i).bind fun a => some (mr σ a i.toNatClampNeg)
def aLn (σ : Me) (ty : FieldType) (r : Option Nat) : Option Int32 := match r with
  | none => none
  | some a => if a < 1000000 then (match mk σ a with
      | .inr (t, n) => if t = ty ∧ a < mz σ then some (nI n) else none
      | _ => none) else if ty = .int ∧ a < 1000006 then some (nI (sLs (a - 1000000)).length) else if ty = .byte ∧ 1000040 ≤ a ∧ a < 1000049 then some (nI (kLn.getD (a - 1000040) 0)) else none
def dvI (x z : Int32) : Option Int32 := if z = 0 then none else some (x / z)
def rmI (x z : Int32) : Option Int32 := if z = 0 then none else some (x - x / z * z)
def dvL (x z : Int64) : Option Int64 := if z = 0 then none else some (x / z)
def rmL (x z : Int64) : Option Int64 := if z = 0 then none else some (x - x / z * z)
abbrev ιI : Int32 → Option AV := fun x => some (vI x)
abbrev ιL : Int64 → Option AV := fun x => some (vL x)
abbrev ιR : Option Nat → Option AV := fun x => some (vR x)
abbrev ιV : Unit → Option AV := fun _ => none
theorem rv_by {Ω : Om} {b : Nat} (h : 1000040 ≤ b ∧ b < 1000049) : rv Ω (some b) = .ref (oV Ω (b - 1000040)) := by
  have a1 : ¬ b < 1000000 := by omega
  have a2 : ¬ b < 1000006 := by omega
  have a3 : ¬ b = 1000006 := by omega
  have a4 : ¬ b < 1000040 := by omega
  simp only [rv, va_rf, Option.map_some, ad, if_neg a1, if_neg a2, if_neg a3, if_neg a4]
theorem rv_st {Ω : Om} {b : Nat} (h : 1000020 ≤ b ∧ b < 1000029) : rv Ω (some b) = .ref (oK Ω (b - 1000020)) := by
  have a1 : ¬ b < 1000000 := by omega
  have a2 : ¬ b < 1000006 := by omega
  have a3 : ¬ b = 1000006 := by omega
  have a4 : b < 1000040 := by omega
  simp only [rv, va_rf, Option.map_some, ad, if_neg a1, if_neg a2, if_neg a3, if_pos a4]
/-- a string -/
def drS (r : Option Nat) : Option Nat := match r with
  | none => none
  | some a => if 1000020 ≤ a ∧ a < 1000029 then some a else none
theorem drS_spec {r : Option Nat} {a : Nat} (h : drS r = some a) : r = some a ∧ 1000020 ≤ a ∧ a < 1000029 := by
  unfold drS at h
  cases r with
  | none => cases h
  | some b =>
    simp only at h
    split at h
    · rename_i hc
      cases h
      exact ⟨rfl, hc⟩
    · cases h
def sVl (r : Option Nat) : Option (Option Nat) := (drS r).bind fun a => some (some (a + 20))
def sCd (r : Option Nat) : Option Int32 := (drS r).bind fun _ => some 0
section RULES
variable {ρ : Type} {Ω : Om} {Γ : Ga} {y : Mt} {d mc ms nL pc : Nat} {ι : ρ → Option AV} {lv : Lv} {st : List AV} {σ : Me} {c s : Nat} {o : Option (ρ × Me)}
theorem s_iconst (hG : Good Ω Γ y d mc ms) {n : Int} {v : Int32} (hd : decode y.2.1 pc = .ok (.iconst n, 1)) (hv : Int32.ofInt n = v) (k : Sim Ω Γ mc ms ι nL (pc + 1) lv (vI v :: st) σ c s o) : Sim Ω Γ mc ms ι nL pc lv st σ c s o := fun r σ' e hE ls H locs hy => lv_iconst hG.1 hG.2.1 hd hv (k r σ' e hE ls H locs hy)
theorem s_bipush (hG : Good Ω Γ y d mc ms) {n : Int} {v : Int32} (hd : decode y.2.1 pc = .ok (.bipush n, 2)) (hv : (Int8.ofInt n).toInt32 = v) (k : Sim Ω Γ mc ms ι nL (pc + 2) lv (vI v :: st) σ c s o) : Sim Ω Γ mc ms ι nL pc lv st σ c s o := fun r σ' e hE ls H locs hy => lv_bipush hG.1 hG.2.1 hd hv (k r σ' e hE ls H locs hy)
theorem s_sipush (hG : Good Ω Γ y d mc ms) {n : Int} {v : Int32} (hd : decode y.2.1 pc = .ok (.sipush n, 3)) (hv : (Int16.ofInt n).toInt32 = v) (k : Sim Ω Γ mc ms ι nL (pc + 3) lv (vI v :: st) σ c s o) : Sim Ω Γ mc ms ι nL pc lv st σ c s o := fun r σ' e hE ls H locs hy => lv_sipush hG.1 hG.2.1 hd hv (k r σ' e hE ls H locs hy)
theorem s_lconst (hG : Good Ω Γ y d mc ms) {n : Fin 2} {v : Int64} (hd : decode y.2.1 pc = .ok (.lconst n, 1)) (hv : Int64.ofNat (n : Nat) = v) (k : Sim Ω Γ mc ms ι nL (pc + 1) lv (vL v :: st) σ c s o) : Sim Ω Γ mc ms ι nL pc lv st σ c s o := fun r σ' e hE ls H locs hy => lv_lconst hG.1 hG.2.1 hd hv (k r σ' e hE ls H locs hy)
theorem s_ldc (hG : Good Ω Γ y d mc ms) {v : Int32} {i : Nat} (hd : decode y.2.1 pc = .ok (.ldc i, 2)) (hc : Cond.constant y.1.cls i v ∈ T0) (k : Sim Ω Γ mc ms ι nL (pc + 2) lv (vI v :: st) σ c s o) : Sim Ω Γ mc ms ι nL pc lv st σ c s o := fun r σ' e hE ls H locs hy => lv_ldc hG.1 hG.2.1 hG.2.2.2.1 (hG.2.2.2.2.1 _ hc) hd (k r σ' e hE ls H locs hy)
theorem s_ldcw (hG : Good Ω Γ y d mc ms) {v : Int32} {i : Nat} (hd : decode y.2.1 pc = .ok (.ldc_w i, 3)) (hc : Cond.constant y.1.cls i v ∈ T0) (k : Sim Ω Γ mc ms ι nL (pc + 3) lv (vI v :: st) σ c s o) : Sim Ω Γ mc ms ι nL pc lv st σ c s o := fun r σ' e hE ls H locs hy => lv_ldcw hG.1 hG.2.1 hG.2.2.2.1 (hG.2.2.2.2.1 _ hc) hd (k r σ' e hE ls H locs hy)
theorem s_ldc2 (hG : Good Ω Γ y d mc ms) {v : Int64} {i : Nat} (hd : decode y.2.1 pc = .ok (.ldc2_w i, 3)) (hc : Cond.constantLong y.1.cls i v ∈ T0) (k : Sim Ω Γ mc ms ι nL (pc + 3) lv (vL v :: st) σ c s o) : Sim Ω Γ mc ms ι nL pc lv st σ c s o := fun r σ' e hE ls H locs hy => lv_ldc2 hG.1 hG.2.1 hG.2.2.2.1 (hG.2.2.2.2.1 _ hc) hd (k r σ' e hE ls H locs hy)
theorem s_iadd (hG : Good Ω Γ y d mc ms) {x z : Int32} (hd : decode y.2.1 pc = .ok (.iadd, 1))  (k : Sim Ω Γ mc ms ι nL (pc + 1) lv (vI (x + z) :: st) σ c s o) : Sim Ω Γ mc ms ι nL pc lv (vI z :: vI x :: st) σ c s o := fun r σ' e hE ls H locs hy => lv_iadd hG.1 hG.2.1 hd  (k r σ' e hE ls H locs hy)
theorem s_isub (hG : Good Ω Γ y d mc ms) {x z : Int32} (hd : decode y.2.1 pc = .ok (.isub, 1))  (k : Sim Ω Γ mc ms ι nL (pc + 1) lv (vI (x - z) :: st) σ c s o) : Sim Ω Γ mc ms ι nL pc lv (vI z :: vI x :: st) σ c s o := fun r σ' e hE ls H locs hy => lv_isub hG.1 hG.2.1 hd  (k r σ' e hE ls H locs hy)
theorem s_imul (hG : Good Ω Γ y d mc ms) {x z : Int32} (hd : decode y.2.1 pc = .ok (.imul, 1))  (k : Sim Ω Γ mc ms ι nL (pc + 1) lv (vI (x * z) :: st) σ c s o) : Sim Ω Γ mc ms ι nL pc lv (vI z :: vI x :: st) σ c s o := fun r σ' e hE ls H locs hy => lv_imul hG.1 hG.2.1 hd  (k r σ' e hE ls H locs hy)
theorem s_iand (hG : Good Ω Γ y d mc ms) {x z : Int32} (hd : decode y.2.1 pc = .ok (.iand, 1))  (k : Sim Ω Γ mc ms ι nL (pc + 1) lv (vI (x &&& z) :: st) σ c s o) : Sim Ω Γ mc ms ι nL pc lv (vI z :: vI x :: st) σ c s o := fun r σ' e hE ls H locs hy => lv_iand hG.1 hG.2.1 hd  (k r σ' e hE ls H locs hy)
theorem s_ior (hG : Good Ω Γ y d mc ms) {x z : Int32} (hd : decode y.2.1 pc = .ok (.ior, 1))  (k : Sim Ω Γ mc ms ι nL (pc + 1) lv (vI (x ||| z) :: st) σ c s o) : Sim Ω Γ mc ms ι nL pc lv (vI z :: vI x :: st) σ c s o := fun r σ' e hE ls H locs hy => lv_ior hG.1 hG.2.1 hd  (k r σ' e hE ls H locs hy)
theorem s_ixor (hG : Good Ω Γ y d mc ms) {x z : Int32} (hd : decode y.2.1 pc = .ok (.ixor, 1))  (k : Sim Ω Γ mc ms ι nL (pc + 1) lv (vI (x ^^^ z) :: st) σ c s o) : Sim Ω Γ mc ms ι nL pc lv (vI z :: vI x :: st) σ c s o := fun r σ' e hE ls H locs hy => lv_ixor hG.1 hG.2.1 hd  (k r σ' e hE ls H locs hy)
theorem s_ladd (hG : Good Ω Γ y d mc ms) {x z : Int64} (hd : decode y.2.1 pc = .ok (.ladd, 1))  (k : Sim Ω Γ mc ms ι nL (pc + 1) lv (vL (x + z) :: st) σ c s o) : Sim Ω Γ mc ms ι nL pc lv (vL z :: vL x :: st) σ c s o := fun r σ' e hE ls H locs hy => lv_ladd hG.1 hG.2.1 hd  (k r σ' e hE ls H locs hy)
theorem s_lsub (hG : Good Ω Γ y d mc ms) {x z : Int64} (hd : decode y.2.1 pc = .ok (.lsub, 1))  (k : Sim Ω Γ mc ms ι nL (pc + 1) lv (vL (x - z) :: st) σ c s o) : Sim Ω Γ mc ms ι nL pc lv (vL z :: vL x :: st) σ c s o := fun r σ' e hE ls H locs hy => lv_lsub hG.1 hG.2.1 hd  (k r σ' e hE ls H locs hy)
theorem s_lmul (hG : Good Ω Γ y d mc ms) {x z : Int64} (hd : decode y.2.1 pc = .ok (.lmul, 1))  (k : Sim Ω Γ mc ms ι nL (pc + 1) lv (vL (x * z) :: st) σ c s o) : Sim Ω Γ mc ms ι nL pc lv (vL z :: vL x :: st) σ c s o := fun r σ' e hE ls H locs hy => lv_lmul hG.1 hG.2.1 hd  (k r σ' e hE ls H locs hy)
theorem s_land (hG : Good Ω Γ y d mc ms) {x z : Int64} (hd : decode y.2.1 pc = .ok (.land, 1))  (k : Sim Ω Γ mc ms ι nL (pc + 1) lv (vL (x &&& z) :: st) σ c s o) : Sim Ω Γ mc ms ι nL pc lv (vL z :: vL x :: st) σ c s o := fun r σ' e hE ls H locs hy => lv_land hG.1 hG.2.1 hd  (k r σ' e hE ls H locs hy)
theorem s_lor (hG : Good Ω Γ y d mc ms) {x z : Int64} (hd : decode y.2.1 pc = .ok (.lor, 1))  (k : Sim Ω Γ mc ms ι nL (pc + 1) lv (vL (x ||| z) :: st) σ c s o) : Sim Ω Γ mc ms ι nL pc lv (vL z :: vL x :: st) σ c s o := fun r σ' e hE ls H locs hy => lv_lor hG.1 hG.2.1 hd  (k r σ' e hE ls H locs hy)
theorem s_lxor (hG : Good Ω Γ y d mc ms) {x z : Int64} (hd : decode y.2.1 pc = .ok (.lxor, 1))  (k : Sim Ω Γ mc ms ι nL (pc + 1) lv (vL (x ^^^ z) :: st) σ c s o) : Sim Ω Γ mc ms ι nL pc lv (vL z :: vL x :: st) σ c s o := fun r σ' e hE ls H locs hy => lv_lxor hG.1 hG.2.1 hd  (k r σ' e hE ls H locs hy)
theorem s_ineg (hG : Good Ω Γ y d mc ms) {x : Int32} (hd : decode y.2.1 pc = .ok (.ineg, 1))  (k : Sim Ω Γ mc ms ι nL (pc + 1) lv (vI (-x) :: st) σ c s o) : Sim Ω Γ mc ms ι nL pc lv (vI x :: st) σ c s o := fun r σ' e hE ls H locs hy => lv_ineg hG.1 hG.2.1 hd  (k r σ' e hE ls H locs hy)
theorem s_ishl (hG : Good Ω Γ y d mc ms) {x z : Int32} (hd : decode y.2.1 pc = .ok (.ishl, 1))  (k : Sim Ω Γ mc ms ι nL (pc + 1) lv (vI (x <<< (z &&& 31)) :: st) σ c s o) : Sim Ω Γ mc ms ι nL pc lv (vI z :: vI x :: st) σ c s o := fun r σ' e hE ls H locs hy => lv_ishl hG.1 hG.2.1 hd  (k r σ' e hE ls H locs hy)
theorem s_ishr (hG : Good Ω Γ y d mc ms) {x z : Int32} (hd : decode y.2.1 pc = .ok (.ishr, 1))  (k : Sim Ω Γ mc ms ι nL (pc + 1) lv (vI (x >>> (z &&& 31)) :: st) σ c s o) : Sim Ω Γ mc ms ι nL pc lv (vI z :: vI x :: st) σ c s o := fun r σ' e hE ls H locs hy => lv_ishr hG.1 hG.2.1 hd  (k r σ' e hE ls H locs hy)
theorem s_iushr (hG : Good Ω Γ y d mc ms) {x z : Int32} (hd : decode y.2.1 pc = .ok (.iushr, 1))  (k : Sim Ω Γ mc ms ι nL (pc + 1) lv (vI ((x.toUInt32 >>> (z.toUInt32 &&& Int32.toUInt32 31)).toInt32) :: st) σ c s o) : Sim Ω Γ mc ms ι nL pc lv (vI z :: vI x :: st) σ c s o := fun r σ' e hE ls H locs hy => lv_iushr hG.1 hG.2.1 hd rfl (k r σ' e hE ls H locs hy)
theorem s_lushr (hG : Good Ω Γ y d mc ms) {x : Int64} {z : Int32} (hd : decode y.2.1 pc = .ok (.lushr, 1))  (k : Sim Ω Γ mc ms ι nL (pc + 1) lv (vL ((x.toUInt64 >>> (z.toInt64.toUInt64 &&& Int64.toUInt64 63)).toInt64) :: st) σ c s o) : Sim Ω Γ mc ms ι nL pc lv (vI z :: vL x :: st) σ c s o := fun r σ' e hE ls H locs hy => lv_lushr hG.1 hG.2.1 hd rfl (k r σ' e hE ls H locs hy)
theorem s_lshl (hG : Good Ω Γ y d mc ms) {x : Int64} {z : Int32} (hd : decode y.2.1 pc = .ok (.lshl, 1))  (k : Sim Ω Γ mc ms ι nL (pc + 1) lv (vL (x <<< (z.toInt64 &&& 63)) :: st) σ c s o) : Sim Ω Γ mc ms ι nL pc lv (vI z :: vL x :: st) σ c s o := fun r σ' e hE ls H locs hy => lv_lshl hG.1 hG.2.1 hd rfl (k r σ' e hE ls H locs hy)
theorem s_i2l (hG : Good Ω Γ y d mc ms) {x : Int32} (hd : decode y.2.1 pc = .ok (.i2l, 1))  (k : Sim Ω Γ mc ms ι nL (pc + 1) lv (vL x.toInt64 :: st) σ c s o) : Sim Ω Γ mc ms ι nL pc lv (vI x :: st) σ c s o := fun r σ' e hE ls H locs hy => lv_i2l hG.1 hG.2.1 hd rfl (k r σ' e hE ls H locs hy)
theorem s_l2i (hG : Good Ω Γ y d mc ms) {x : Int64} (hd : decode y.2.1 pc = .ok (.l2i, 1))  (k : Sim Ω Γ mc ms ι nL (pc + 1) lv (vI x.toInt32 :: st) σ c s o) : Sim Ω Γ mc ms ι nL pc lv (vL x :: st) σ c s o := fun r σ' e hE ls H locs hy => lv_l2i hG.1 hG.2.1 hd rfl (k r σ' e hE ls H locs hy)
theorem s_i2b (hG : Good Ω Γ y d mc ms) {x : Int32} (hd : decode y.2.1 pc = .ok (.i2b, 1))  (k : Sim Ω Γ mc ms ι nL (pc + 1) lv (vI x.toInt8.toInt32 :: st) σ c s o) : Sim Ω Γ mc ms ι nL pc lv (vI x :: st) σ c s o := fun r σ' e hE ls H locs hy => lv_i2b hG.1 hG.2.1 hd rfl (k r σ' e hE ls H locs hy)
theorem s_i2c (hG : Good Ω Γ y d mc ms) {x : Int32} (hd : decode y.2.1 pc = .ok (.i2c, 1))  (k : Sim Ω Γ mc ms ι nL (pc + 1) lv (vI (x.toUInt32 % 65536).toInt32 :: st) σ c s o) : Sim Ω Γ mc ms ι nL pc lv (vI x :: st) σ c s o := fun r σ' e hE ls H locs hy => lv_i2c hG.1 hG.2.1 hd rfl (k r σ' e hE ls H locs hy)
theorem s_dup (hG : Good Ω Γ y d mc ms) {va : AV} (hd : decode y.2.1 pc = .ok (.dup, 1)) (hva : isL va = false) (k : Sim Ω Γ mc ms ι nL (pc + 1) lv (va :: va :: st) σ c s o) : Sim Ω Γ mc ms ι nL pc lv (va :: st) σ c s o := fun r σ' e hE ls H locs hy => lv_dup hG.1 hG.2.1 hd (by rw [tv_cat, hva]; rfl) (k r σ' e hE ls H locs hy)
theorem s_pop (hG : Good Ω Γ y d mc ms) {va : AV} (hd : decode y.2.1 pc = .ok (.pop, 1)) (hva : isL va = false) (k : Sim Ω Γ mc ms ι nL (pc + 1) lv st σ c s o) : Sim Ω Γ mc ms ι nL pc lv (va :: st) σ c s o := fun r σ' e hE ls H locs hy => lv_pop hG.1 hG.2.1 hd (by rw [tv_cat, hva]; rfl) (k r σ' e hE ls H locs hy)
theorem s_dup_x1 (hG : Good Ω Γ y d mc ms) {va vb : AV} (hd : decode y.2.1 pc = .ok (.dup_x1, 1)) (hva : isL va = false) (hvb : isL vb = false) (k : Sim Ω Γ mc ms ι nL (pc + 1) lv (va :: vb :: va :: st) σ c s o) : Sim Ω Γ mc ms ι nL pc lv (va :: vb :: st) σ c s o := fun r σ' e hE ls H locs hy => lv_dup_x1 hG.1 hG.2.1 hd (by rw [tv_cat, hva]; rfl) (by rw [tv_cat, hvb]; rfl) (k r σ' e hE ls H locs hy)
theorem s_dup_x2 (hG : Good Ω Γ y d mc ms) {va vb vc : AV} (hd : decode y.2.1 pc = .ok (.dup_x2, 1)) (hva : isL va = false) (hvb : isL vb = false) (hvc : isL vc = false) (k : Sim Ω Γ mc ms ι nL (pc + 1) lv (va :: vb :: vc :: va :: st) σ c s o) : Sim Ω Γ mc ms ι nL pc lv (va :: vb :: vc :: st) σ c s o := fun r σ' e hE ls H locs hy => lv_dup_x2 hG.1 hG.2.1 hd (by rw [tv_cat, hva]; rfl) (by rw [tv_cat, hvb]; rfl) (by rw [tv_cat, hvc]; rfl) (k r σ' e hE ls H locs hy)
theorem s_dup2 (hG : Good Ω Γ y d mc ms) {va vb : AV} (hd : decode y.2.1 pc = .ok (.dup2, 1)) (hva : isL va = false) (hvb : isL vb = false) (k : Sim Ω Γ mc ms ι nL (pc + 1) lv (va :: vb :: va :: vb :: st) σ c s o) : Sim Ω Γ mc ms ι nL pc lv (va :: vb :: st) σ c s o := fun r σ' e hE ls H locs hy => lv_dup2_11 hG.1 hG.2.1 hd (by rw [tv_cat, hva]; rfl) (by rw [tv_cat, hvb]; rfl) (k r σ' e hE ls H locs hy)
theorem s_lcmp (hG : Good Ω Γ y d mc ms) {x z : Int64} (hd : decode y.2.1 pc = .ok (.lcmp, 1))  (k : Sim Ω Γ mc ms ι nL (pc + 1) lv (vI (lg_cmp x z) :: st) σ c s o) : Sim Ω Γ mc ms ι nL pc lv (vL z :: vL x :: st) σ c s o := fun r σ' e hE ls H locs hy => W.lcmp hG.1 hG.2.1 hd  (k r σ' e hE ls H locs hy)
theorem s_null (hG : Good Ω Γ y d mc ms)  (hd : decode y.2.1 pc = .ok (.aconst_null, 1))  (k : Sim Ω Γ mc ms ι nL (pc + 1) lv (vR none :: st) σ c s o) : Sim Ω Γ mc ms ι nL pc lv st σ c s o := fun r σ' e hE ls H locs hy => lv_null hG.1 hG.2.1 hd  (k r σ' e hE ls H locs hy)
theorem s_iload_n (hG : Good Ω Γ y d mc ms) {n : Fin 4} {x : Int32} (hd : decode y.2.1 pc = .ok (.iload_n n, 1)) (hx : lvg lv (n : Nat) = some (vI x)) (k : Sim Ω Γ mc ms ι nL (pc + 1) lv (vI x :: st) σ c s o) : Sim Ω Γ mc ms ι nL pc lv st σ c s o := fun r σ' e hE ls H locs hy => lv_iload_n hG.1 hG.2.1 hd rfl (lvg_at hy.1 hx) (k r σ' e hE ls H locs hy)
theorem s_iload (hG : Good Ω Γ y d mc ms) {i : Nat} {x : Int32} (hd : decode y.2.1 pc = .ok (.iload i, 2)) (hx : lvg lv i = some (vI x)) (k : Sim Ω Γ mc ms ι nL (pc + 2) lv (vI x :: st) σ c s o) : Sim Ω Γ mc ms ι nL pc lv st σ c s o := fun r σ' e hE ls H locs hy => lv_iload hG.1 hG.2.1 hd (lvg_at hy.1 hx) (k r σ' e hE ls H locs hy)
theorem s_istore_n (hG : Good Ω Γ y d mc ms) {n : Fin 4} {x : Int32} (hd : decode y.2.1 pc = .ok (.istore_n n, 1)) (hn : (n : Nat) < nL) (k : Sim Ω Γ mc ms ι nL (pc + 1) (lvs (n : Nat) (vI x) lv) st σ c s o) : Sim Ω Γ mc ms ι nL pc lv (vI x :: st) σ c s o := fun r σ' e hE ls H locs hy => lv_istore_n hG.1 hG.2.1 hd rfl hy.1 hn (lvs_1 (v := vI x) rfl) (fun ls h1 => k r σ' e hE ls H locs ⟨h1, hy.2⟩)
theorem s_istore (hG : Good Ω Γ y d mc ms) {i : Nat} {x : Int32} (hd : decode y.2.1 pc = .ok (.istore i, 2)) (hn : i < nL) (k : Sim Ω Γ mc ms ι nL (pc + 2) (lvs i (vI x) lv) st σ c s o) : Sim Ω Γ mc ms ι nL pc lv (vI x :: st) σ c s o := fun r σ' e hE ls H locs hy => lv_istore hG.1 hG.2.1 hd hy.1 hn (lvs_1 (v := vI x) rfl) (fun ls h1 => k r σ' e hE ls H locs ⟨h1, hy.2⟩)
theorem s_lload_n (hG : Good Ω Γ y d mc ms) {n : Fin 4} {x : Int64} (hd : decode y.2.1 pc = .ok (.lload_n n, 1)) (hx : lvg lv (n : Nat) = some (vL x)) (k : Sim Ω Γ mc ms ι nL (pc + 1) lv (vL x :: st) σ c s o) : Sim Ω Γ mc ms ι nL pc lv st σ c s o := fun r σ' e hE ls H locs hy => lv_lload_n hG.1 hG.2.1 hd rfl (lvg_at hy.1 hx) (k r σ' e hE ls H locs hy)
theorem s_lload (hG : Good Ω Γ y d mc ms) {i : Nat} {x : Int64} (hd : decode y.2.1 pc = .ok (.lload i, 2)) (hx : lvg lv i = some (vL x)) (k : Sim Ω Γ mc ms ι nL (pc + 2) lv (vL x :: st) σ c s o) : Sim Ω Γ mc ms ι nL pc lv st σ c s o := fun r σ' e hE ls H locs hy => lv_lload hG.1 hG.2.1 hd (lvg_at hy.1 hx) (k r σ' e hE ls H locs hy)
theorem s_lstore_n (hG : Good Ω Γ y d mc ms) {n : Fin 4} {x : Int64} (hd : decode y.2.1 pc = .ok (.lstore_n n, 1)) (hn : (n : Nat) + 1 < nL) (k : Sim Ω Γ mc ms ι nL (pc + 1) (lvs (n : Nat) (vL x) lv) st σ c s o) : Sim Ω Γ mc ms ι nL pc lv (vL x :: st) σ c s o := fun r σ' e hE ls H locs hy => lv_lstore_n hG.1 hG.2.1 hd rfl hy.1 hn (lvs_2 (v := vL x) rfl) (fun ls h1 => k r σ' e hE ls H locs ⟨h1, hy.2⟩)
theorem s_lstore (hG : Good Ω Γ y d mc ms) {i : Nat} {x : Int64} (hd : decode y.2.1 pc = .ok (.lstore i, 2)) (hn : i + 1 < nL) (k : Sim Ω Γ mc ms ι nL (pc + 2) (lvs i (vL x) lv) st σ c s o) : Sim Ω Γ mc ms ι nL pc lv (vL x :: st) σ c s o := fun r σ' e hE ls H locs hy => lv_lstore hG.1 hG.2.1 hd hy.1 hn (lvs_2 (v := vL x) rfl) (fun ls h1 => k r σ' e hE ls H locs ⟨h1, hy.2⟩)
theorem s_aload_n (hG : Good Ω Γ y d mc ms) {n : Fin 4} {x : Option Nat} (hd : decode y.2.1 pc = .ok (.aload_n n, 1)) (hx : lvg lv (n : Nat) = some (vR x)) (k : Sim Ω Γ mc ms ι nL (pc + 1) lv (vR x :: st) σ c s o) : Sim Ω Γ mc ms ι nL pc lv st σ c s o := fun r σ' e hE ls H locs hy => by
  have k := k r σ' e hE ls H locs hy
  have h1 := lvg_at hy.1 hx
  cases x with
  | none => exact lv_aload_nN hG.1 hG.2.1 hd rfl h1 k
  | some a => exact lv_aload_n hG.1 hG.2.1 hd rfl h1 k
theorem s_astore_n (hG : Good Ω Γ y d mc ms) {n : Fin 4} {x : Option Nat} (hd : decode y.2.1 pc = .ok (.astore_n n, 1)) (hn : (n : Nat) < nL) (k : Sim Ω Γ mc ms ι nL (pc + 1) (lvs (n : Nat) (vR x) lv) st σ c s o) : Sim Ω Γ mc ms ι nL pc lv (vR x :: st) σ c s o := fun r σ' e hE ls H locs hy => by
  have k := k r σ' e hE
  cases x with
  | none => exact lv_astore_nN hG.1 hG.2.1 hd rfl hy.1 hn (lvs_1 (v := vR none) rfl) (fun ls h1 => k ls H locs ⟨h1, hy.2⟩)
  | some a => exact lv_astore_n hG.1 hG.2.1 hd rfl hy.1 hn (lvs_1 (v := vR (some a)) rfl) (fun ls h1 => k ls H locs ⟨h1, hy.2⟩)
theorem s_aload (hG : Good Ω Γ y d mc ms) {i : Nat} {x : Option Nat} (hd : decode y.2.1 pc = .ok (.aload i, 2)) (hx : lvg lv i = some (vR x)) (k : Sim Ω Γ mc ms ι nL (pc + 2) lv (vR x :: st) σ c s o) : Sim Ω Γ mc ms ι nL pc lv st σ c s o := fun r σ' e hE ls H locs hy => by
  have k := k r σ' e hE ls H locs hy
  have h1 := lvg_at hy.1 hx
  cases x with
  | none => exact lv_aloadN hG.1 hG.2.1 hd h1 k
  | some a => exact lv_aload hG.1 hG.2.1 hd h1 k
theorem s_astore (hG : Good Ω Γ y d mc ms) {i : Nat} {x : Option Nat} (hd : decode y.2.1 pc = .ok (.astore i, 2)) (hn : i < nL) (k : Sim Ω Γ mc ms ι nL (pc + 2) (lvs i (vR x) lv) st σ c s o) : Sim Ω Γ mc ms ι nL pc lv (vR x :: st) σ c s o := fun r σ' e hE ls H locs hy => by
  have k := k r σ' e hE
  cases x with
  | none => exact lv_astoreN hG.1 hG.2.1 hd hy.1 hn (lvs_1 (v := vR none) rfl) (fun ls h1 => k ls H locs ⟨h1, hy.2⟩)
  | some a => exact lv_astore hG.1 hG.2.1 hd hy.1 hn (lvs_1 (v := vR (some a)) rfl) (fun ls h1 => k ls H locs ⟨h1, hy.2⟩)
theorem s_iinc (hG : Good Ω Γ y d mc ms) {i : Nat} {n : Int} {x v : Int32} (hd : decode y.2.1 pc = .ok (.iinc i n, 3)) (hx : lvg lv i = some (vI x)) (hn : i < nL) (hv : Int32.ofInt n = v) (k : Sim Ω Γ mc ms ι nL (pc + 3) (lvs i (vI (x + v)) lv) st σ c s o) : Sim Ω Γ mc ms ι nL pc lv st σ c s o := fun r σ' e hE ls H locs hy => by
  subst hv
  obtain ⟨q, hq⟩ := lvg_pos (Ω := Ω) hx
  exact lv_iinc hG.1 hG.2.1 hd hy.1 hq rfl hn (lvs_1 (v := vI (x + Int32.ofInt n)) rfl) (fun ls h1 => k r σ' e hE ls H locs ⟨h1, hy.2⟩)
theorem s_if_eq (hG : Good Ω Γ y d mc ms) {x : Int32} {off : Int} {o1 o2 : Option (ρ × Me)} (tgt : Nat) (hd : decode y.2.1 pc = .ok (.ifCond .eq off, 3)) (ht : (pc : Int) + off = (tgt : Int)) (kt : Sim Ω Γ mc ms ι nL tgt lv st σ c s o1) (kf : Sim Ω Γ mc ms ι nL (pc + 3) lv st σ c s o2) : Sim Ω Γ mc ms ι nL pc lv (vI x :: st) σ c s (if x = 0 then o1 else o2) := fun r σ' e hE ls H locs hy =>
  lv_if_eq hG.1 hG.2.1 hd ht (fun q => kt r σ' (by rw [if_pos q] at e; exact e) hE ls H locs hy) (fun q => kf r σ' (by rw [if_neg q] at e; exact e) hE ls H locs hy)
theorem s_icmp_eq (hG : Good Ω Γ y d mc ms) {x z : Int32} {off : Int} {o1 o2 : Option (ρ × Me)} (tgt : Nat) (hd : decode y.2.1 pc = .ok (.if_icmp .eq off, 3)) (ht : (pc : Int) + off = (tgt : Int)) (kt : Sim Ω Γ mc ms ι nL tgt lv st σ c s o1) (kf : Sim Ω Γ mc ms ι nL (pc + 3) lv st σ c s o2) : Sim Ω Γ mc ms ι nL pc lv (vI z :: vI x :: st) σ c s (if x = z then o1 else o2) := fun r σ' e hE ls H locs hy =>
  lv_icmp_eq hG.1 hG.2.1 hd ht (fun q => kt r σ' (by rw [if_pos q] at e; exact e) hE ls H locs hy) (fun q => kf r σ' (by rw [if_neg q] at e; exact e) hE ls H locs hy)
theorem s_if_ne (hG : Good Ω Γ y d mc ms) {x : Int32} {off : Int} {o1 o2 : Option (ρ × Me)} (tgt : Nat) (hd : decode y.2.1 pc = .ok (.ifCond .ne off, 3)) (ht : (pc : Int) + off = (tgt : Int)) (kt : Sim Ω Γ mc ms ι nL tgt lv st σ c s o1) (kf : Sim Ω Γ mc ms ι nL (pc + 3) lv st σ c s o2) : Sim Ω Γ mc ms ι nL pc lv (vI x :: st) σ c s (if x = 0 then o2 else o1) := fun r σ' e hE ls H locs hy =>
  lv_if_ne hG.1 hG.2.1 hd ht (fun q => kt r σ' (by rw [if_neg q] at e; exact e) hE ls H locs hy) (fun q => kf r σ' (by rw [if_pos q] at e; exact e) hE ls H locs hy)
theorem s_icmp_ne (hG : Good Ω Γ y d mc ms) {x z : Int32} {off : Int} {o1 o2 : Option (ρ × Me)} (tgt : Nat) (hd : decode y.2.1 pc = .ok (.if_icmp .ne off, 3)) (ht : (pc : Int) + off = (tgt : Int)) (kt : Sim Ω Γ mc ms ι nL tgt lv st σ c s o1) (kf : Sim Ω Γ mc ms ι nL (pc + 3) lv st σ c s o2) : Sim Ω Γ mc ms ι nL pc lv (vI z :: vI x :: st) σ c s (if x = z then o2 else o1) := fun r σ' e hE ls H locs hy =>
  lv_icmp_ne hG.1 hG.2.1 hd ht (fun q => kt r σ' (by rw [if_neg q] at e; exact e) hE ls H locs hy) (fun q => kf r σ' (by rw [if_pos q] at e; exact e) hE ls H locs hy)
theorem s_if_lt (hG : Good Ω Γ y d mc ms) {x : Int32} {off : Int} {o1 o2 : Option (ρ × Me)} (tgt : Nat) (hd : decode y.2.1 pc = .ok (.ifCond .lt off, 3)) (ht : (pc : Int) + off = (tgt : Int)) (kt : Sim Ω Γ mc ms ι nL tgt lv st σ c s o1) (kf : Sim Ω Γ mc ms ι nL (pc + 3) lv st σ c s o2) : Sim Ω Γ mc ms ι nL pc lv (vI x :: st) σ c s (if x < 0 then o1 else o2) := fun r σ' e hE ls H locs hy =>
  lv_if_lt hG.1 hG.2.1 hd ht (fun q => kt r σ' (by rw [if_pos q] at e; exact e) hE ls H locs hy) (fun q => kf r σ' (by rw [if_neg q] at e; exact e) hE ls H locs hy)
theorem s_icmp_lt (hG : Good Ω Γ y d mc ms) {x z : Int32} {off : Int} {o1 o2 : Option (ρ × Me)} (tgt : Nat) (hd : decode y.2.1 pc = .ok (.if_icmp .lt off, 3)) (ht : (pc : Int) + off = (tgt : Int)) (kt : Sim Ω Γ mc ms ι nL tgt lv st σ c s o1) (kf : Sim Ω Γ mc ms ι nL (pc + 3) lv st σ c s o2) : Sim Ω Γ mc ms ι nL pc lv (vI z :: vI x :: st) σ c s (if x < z then o1 else o2) := fun r σ' e hE ls H locs hy =>
  lv_icmp_lt hG.1 hG.2.1 hd ht (fun q => kt r σ' (by rw [if_pos q] at e; exact e) hE ls H locs hy) (fun q => kf r σ' (by rw [if_neg q] at e; exact e) hE ls H locs hy)
theorem s_if_ge (hG : Good Ω Γ y d mc ms) {x : Int32} {off : Int} {o1 o2 : Option (ρ × Me)} (tgt : Nat) (hd : decode y.2.1 pc = .ok (.ifCond .ge off, 3)) (ht : (pc : Int) + off = (tgt : Int)) (kt : Sim Ω Γ mc ms ι nL tgt lv st σ c s o1) (kf : Sim Ω Γ mc ms ι nL (pc + 3) lv st σ c s o2) : Sim Ω Γ mc ms ι nL pc lv (vI x :: st) σ c s (if 0 ≤ x then o1 else o2) := fun r σ' e hE ls H locs hy =>
  lv_if_ge hG.1 hG.2.1 hd ht (fun q => kt r σ' (by rw [if_pos q] at e; exact e) hE ls H locs hy) (fun q => kf r σ' (by rw [if_neg q] at e; exact e) hE ls H locs hy)
theorem s_icmp_ge (hG : Good Ω Γ y d mc ms) {x z : Int32} {off : Int} {o1 o2 : Option (ρ × Me)} (tgt : Nat) (hd : decode y.2.1 pc = .ok (.if_icmp .ge off, 3)) (ht : (pc : Int) + off = (tgt : Int)) (kt : Sim Ω Γ mc ms ι nL tgt lv st σ c s o1) (kf : Sim Ω Γ mc ms ι nL (pc + 3) lv st σ c s o2) : Sim Ω Γ mc ms ι nL pc lv (vI z :: vI x :: st) σ c s (if z ≤ x then o1 else o2) := fun r σ' e hE ls H locs hy =>
  lv_icmp_ge hG.1 hG.2.1 hd ht (fun q => kt r σ' (by rw [if_pos q] at e; exact e) hE ls H locs hy) (fun q => kf r σ' (by rw [if_neg q] at e; exact e) hE ls H locs hy)
theorem s_if_gt (hG : Good Ω Γ y d mc ms) {x : Int32} {off : Int} {o1 o2 : Option (ρ × Me)} (tgt : Nat) (hd : decode y.2.1 pc = .ok (.ifCond .gt off, 3)) (ht : (pc : Int) + off = (tgt : Int)) (kt : Sim Ω Γ mc ms ι nL tgt lv st σ c s o1) (kf : Sim Ω Γ mc ms ι nL (pc + 3) lv st σ c s o2) : Sim Ω Γ mc ms ι nL pc lv (vI x :: st) σ c s (if 0 < x then o1 else o2) := fun r σ' e hE ls H locs hy =>
  lv_if_gt hG.1 hG.2.1 hd ht (fun q => kt r σ' (by rw [if_pos q] at e; exact e) hE ls H locs hy) (fun q => kf r σ' (by rw [if_neg q] at e; exact e) hE ls H locs hy)
theorem s_icmp_gt (hG : Good Ω Γ y d mc ms) {x z : Int32} {off : Int} {o1 o2 : Option (ρ × Me)} (tgt : Nat) (hd : decode y.2.1 pc = .ok (.if_icmp .gt off, 3)) (ht : (pc : Int) + off = (tgt : Int)) (kt : Sim Ω Γ mc ms ι nL tgt lv st σ c s o1) (kf : Sim Ω Γ mc ms ι nL (pc + 3) lv st σ c s o2) : Sim Ω Γ mc ms ι nL pc lv (vI z :: vI x :: st) σ c s (if z < x then o1 else o2) := fun r σ' e hE ls H locs hy =>
  lv_icmp_gt hG.1 hG.2.1 hd ht (fun q => kt r σ' (by rw [if_pos q] at e; exact e) hE ls H locs hy) (fun q => kf r σ' (by rw [if_neg q] at e; exact e) hE ls H locs hy)
theorem s_if_le (hG : Good Ω Γ y d mc ms) {x : Int32} {off : Int} {o1 o2 : Option (ρ × Me)} (tgt : Nat) (hd : decode y.2.1 pc = .ok (.ifCond .le off, 3)) (ht : (pc : Int) + off = (tgt : Int)) (kt : Sim Ω Γ mc ms ι nL tgt lv st σ c s o1) (kf : Sim Ω Γ mc ms ι nL (pc + 3) lv st σ c s o2) : Sim Ω Γ mc ms ι nL pc lv (vI x :: st) σ c s (if x ≤ 0 then o1 else o2) := fun r σ' e hE ls H locs hy =>
  lv_if_le hG.1 hG.2.1 hd ht (fun q => kt r σ' (by rw [if_pos q] at e; exact e) hE ls H locs hy) (fun q => kf r σ' (by rw [if_neg q] at e; exact e) hE ls H locs hy)
theorem s_icmp_le (hG : Good Ω Γ y d mc ms) {x z : Int32} {off : Int} {o1 o2 : Option (ρ × Me)} (tgt : Nat) (hd : decode y.2.1 pc = .ok (.if_icmp .le off, 3)) (ht : (pc : Int) + off = (tgt : Int)) (kt : Sim Ω Γ mc ms ι nL tgt lv st σ c s o1) (kf : Sim Ω Γ mc ms ι nL (pc + 3) lv st σ c s o2) : Sim Ω Γ mc ms ι nL pc lv (vI z :: vI x :: st) σ c s (if x ≤ z then o1 else o2) := fun r σ' e hE ls H locs hy =>
  lv_icmp_le hG.1 hG.2.1 hd ht (fun q => kt r σ' (by rw [if_pos q] at e; exact e) hE ls H locs hy) (fun q => kf r σ' (by rw [if_neg q] at e; exact e) hE ls H locs hy)
theorem s_goto (hG : Good Ω Γ y d mc ms) {off : Int} (tgt : Nat) (hd : decode y.2.1 pc = .ok (.goto off, 3)) (ht : (pc : Int) + off = (tgt : Int)) (k : Sim Ω Γ mc ms ι nL tgt lv st σ c s o) : Sim Ω Γ mc ms ι nL pc lv st σ c s o := fun r σ' e hE ls H locs hy => lv_goto hG.1 hG.2.1 hd ht (k r σ' e hE ls H locs hy)
theorem s_ifnull (hG : Good Ω Γ y d mc ms) {off : Int} {x : Option Nat} {o1 o2 : Option (ρ × Me)} (tgt : Nat) (hd : decode y.2.1 pc = .ok (.ifnull off, 3)) (ht : (pc : Int) + off = (tgt : Int)) (kt : Sim Ω Γ mc ms ι nL tgt lv st σ c s o1) (kf : Sim Ω Γ mc ms ι nL (pc + 3) lv st σ c s o2) : Sim Ω Γ mc ms ι nL pc lv (vR x :: st) σ c s (if x = none then o1 else o2) := fun r σ' e hE ls H locs hy => by
  cases x with
  | none => exact lv_ifnullN hG.1 hG.2.1 hd ht (kt r σ' (by simpa using e) hE ls H locs hy)
  | some a => exact lv_ifnull hG.1 hG.2.1 hd (kf r σ' (by simpa using e) hE ls H locs hy)
theorem s_ifnonnull (hG : Good Ω Γ y d mc ms) {off : Int} {x : Option Nat} {o1 o2 : Option (ρ × Me)} (tgt : Nat) (hd : decode y.2.1 pc = .ok (.ifnonnull off, 3)) (ht : (pc : Int) + off = (tgt : Int)) (kt : Sim Ω Γ mc ms ι nL tgt lv st σ c s o1) (kf : Sim Ω Γ mc ms ι nL (pc + 3) lv st σ c s o2) : Sim Ω Γ mc ms ι nL pc lv (vR x :: st) σ c s (if x = none then o2 else o1) := fun r σ' e hE ls H locs hy => by
  cases x with
  | none => exact lv_ifnonnullN hG.1 hG.2.1 hd (kf r σ' (by simpa using e) hE ls H locs hy)
  | some a => exact lv_ifnonnull hG.1 hG.2.1 hd ht (kt r σ' (by simpa using e) hE ls H locs hy)
theorem s_tabOut (hG : Good Ω Γ y d mc ms) {dflt lo hi : Int} {offs : Array Int} {len : Nat} {x : Int32} (tgt : Nat) (hd : decode y.2.1 pc = .ok (.tableswitch dflt lo hi offs, len)) (hx : x.toInt < lo ∨ hi < x.toInt) (ht : (pc : Int) + dflt = (tgt : Int)) (k : Sim Ω Γ mc ms ι nL tgt lv st σ c s o) : Sim Ω Γ mc ms ι nL pc lv (vI x :: st) σ c s o := fun r σ' e hE ls H locs hy => lv_tableOut hG.1 hG.2.1 hd hx ht (k r σ' e hE ls H locs hy)
theorem s_tabIn (hG : Good Ω Γ y d mc ms) {dflt lo hi : Int} {offs : Array Int} {len : Nat} {x : Int32} {off : Int} (tgt : Nat) (hd : decode y.2.1 pc = .ok (.tableswitch dflt lo hi offs, len)) (hx1 : ¬ x.toInt < lo) (hx2 : ¬ hi < x.toInt) (ho : offs[(x.toInt - lo).toNat]? = some off) (ht : (pc : Int) + off = (tgt : Int)) (k : Sim Ω Γ mc ms ι nL tgt lv st σ c s o) : Sim Ω Γ mc ms ι nL pc lv (vI x :: st) σ c s o := fun r σ' e hE ls H locs hy => lv_tableIn hG.1 hG.2.1 hd hx1 hx2 ho ht (k r σ' e hE ls H locs hy)
theorem s_lookup (hG : Good Ω Γ y d mc ms) {dflt : Int} {ps : Array (Int × Int)} {len : Nat} {x : Int32} {off : Int} (tgt : Nat) (hd : decode y.2.1 pc = .ok (.lookupswitch dflt ps, len)) (hp : (ps.toList.zip (ps.toList.drop 1)).all (fun (a, next) => a.1 < next.1) = true) (ho : Op.lookupswitch.offset ps.toList dflt x.toInt = off) (ht : (pc : Int) + off = (tgt : Int)) (k : Sim Ω Γ mc ms ι nL tgt lv st σ c s o) : Sim Ω Γ mc ms ι nL pc lv (vI x :: st) σ c s o := fun r σ' e hE ls H locs hy => lv_lookup hG.1 hG.2.1 hd hp ho ht (k r σ' e hE ls H locs hy)
theorem s_split {q : Prop} {o1 o2 : Option (ρ × Me)} (dq : Decidable q) (kt : q → Sim Ω Γ mc ms ι nL pc lv st σ c s o1) (kf : ¬ q → Sim Ω Γ mc ms ι nL pc lv st σ c s o2) : Sim Ω Γ mc ms ι nL pc lv st σ c s (if q then o1 else o2) := fun r σ' e hE => by
  by_cases h : q
  · exact kt h r σ' (by rw [if_pos h] at e; exact e) hE
  · exact kf h r σ' (by rw [if_neg h] at e; exact e) hE
theorem s_lv {lv' : Lv} (hl : lvall lv' lv) (k : Sim Ω Γ mc ms ι nL pc lv' st σ c s o) : Sim Ω Γ mc ms ι nL pc lv st σ c s o := fun r σ' e hE ls H locs hy => k r σ' e hE ls H locs ⟨lvall_has hy.1 hl, hy.2⟩
theorem lc {q : Nat × AV} {r l : Lv} (h1 : lvg l q.1 = some q.2) (h2 : lvall r l) : lvall (q :: r) l := ⟨h1, h2⟩
theorem ln {l : Lv} : lvall [] l := trivial
theorem s_none : Sim Ω Γ mc ms ι nL pc lv st σ c s none := fun r σ' e => by cases e
theorem tab_out {x : Int32} {lo : Int} {n : Nat} (hl : -2147483648 ≤ lo) (hh : lo + n ≤ 2147483647) (h : ∀ q ∈ (List.range (n + 1)).map (fun k : Nat => Int32.ofInt (lo + k)), ¬ x = q) : x.toInt < lo ∨ lo + n < x.toInt := by
  rcases Int.lt_or_le x.toInt lo with h1 | h1
  · exact Or.inl h1
  · rcases Int.lt_or_le (lo + n) x.toInt with h2 | h2
    · exact Or.inr h2
    · exfalso
      refine h (Int32.ofInt (lo + ((x.toInt - lo).toNat : Nat))) (List.mem_map.mpr ⟨(x.toInt - lo).toNat, List.mem_range.mpr (by omega), rfl⟩) ?_
      rw [show lo + (((x.toInt - lo).toNat : Nat) : Int) = x.toInt by omega]
      exact (Int32.ofInt_toInt x).symm
theorem s_idiv (hG : Good Ω Γ y d mc ms) {x z : Int32} {F : Int32 → Option (ρ × Me)} (hd : decode y.2.1 pc = .ok (.idiv, 1)) (k : ∀ v, Sim Ω Γ mc ms ι nL (pc + 1) lv (vI v :: st) σ c s (F v)) : Sim Ω Γ mc ms ι nL pc lv (vI z :: vI x :: st) σ c s ((dvI x z).bind F) := fun r σ' e hE ls H locs hy => by
  unfold dvI at e
  by_cases hz : z = 0
  · rw [if_pos hz] at e; cases e
  · rw [if_neg hz] at e
    exact lv_idiv hG.1 hG.2.1 hd hz (k _ r σ' e hE ls H locs hy)
theorem s_irem (hG : Good Ω Γ y d mc ms) {x z : Int32} {F : Int32 → Option (ρ × Me)} (hd : decode y.2.1 pc = .ok (.irem, 1)) (k : ∀ v, Sim Ω Γ mc ms ι nL (pc + 1) lv (vI v :: st) σ c s (F v)) : Sim Ω Γ mc ms ι nL pc lv (vI z :: vI x :: st) σ c s ((rmI x z).bind F) := fun r σ' e hE ls H locs hy => by
  unfold rmI at e
  by_cases hz : z = 0
  · rw [if_pos hz] at e; cases e
  · rw [if_neg hz] at e
    exact lv_irem hG.1 hG.2.1 hd hz (k _ r σ' e hE ls H locs hy)
theorem s_ldiv (hG : Good Ω Γ y d mc ms) {x z : Int64} {F : Int64 → Option (ρ × Me)} (hd : decode y.2.1 pc = .ok (.ldiv, 1)) (k : ∀ v, Sim Ω Γ mc ms ι nL (pc + 1) lv (vL v :: st) σ c s (F v)) : Sim Ω Γ mc ms ι nL pc lv (vL z :: vL x :: st) σ c s ((dvL x z).bind F) := fun r σ' e hE ls H locs hy => by
  unfold dvL at e
  by_cases hz : z = 0
  · rw [if_pos hz] at e; cases e
  · rw [if_neg hz] at e
    exact lv_ldiv hG.1 hG.2.1 hd hz (k _ r σ' e hE ls H locs hy)
theorem s_lrem (hG : Good Ω Γ y d mc ms) {x z : Int64} {F : Int64 → Option (ρ × Me)} (hd : decode y.2.1 pc = .ok (.lrem, 1)) (k : ∀ v, Sim Ω Γ mc ms ι nL (pc + 1) lv (vL v :: st) σ c s (F v)) : Sim Ω Γ mc ms ι nL pc lv (vL z :: vL x :: st) σ c s ((rmL x z).bind F) := fun r σ' e hE ls H locs hy => by
  unfold rmL at e
  by_cases hz : z = 0
  · rw [if_pos hz] at e; cases e
  · rw [if_neg hz] at e
    exact lv_lrem hG.1 hG.2.1 hd hz (k _ r σ' e hE ls H locs hy)
theorem cls_at : ∀ {c : Nat}, c < 13 → classes[c]? = some (fN c, fT c, nfl c)
  | 0, _ => rfl
  | 1, _ => rfl
  | 2, _ => rfl
  | 3, _ => rfl
  | 4, _ => rfl
  | 5, _ => rfl
  | 6, _ => rfl
  | 7, _ => rfl
  | 8, _ => rfl
  | 9, _ => rfl
  | 10, _ => rfl
  | 11, _ => rfl
  | 12, _ => rfl
  | n + 13, h => absurd h (by omega)
theorem fty_ok : ∀ {c : Nat}, c < 13 → ∀ k, k < nfl c → parseFieldDescriptor (fT c k).2.2.1 = some (fty c k)
  | 0, _ => cYok0
  | 1, _ => cYok1
  | 2, _ => cYok2
  | 3, _ => cYok3
  | 4, _ => cYok4
  | 5, _ => cYok5
  | 6, _ => cYok6
  | 7, _ => cYok7
  | 8, _ => cYok8
  | 9, _ => cYok9
  | 10, _ => cYok10
  | 11, _ => cYok11
  | 12, _ => cYok12
  | n + 13, h => absurd h (by omega)
theorem fnm_ok : ∀ {c : Nat}, c < 13 → ∀ a, a < nfl c → ∀ b, b < nfl c → a ≠ b → (fT c a).2.1 ≠ (fT c b).2.1
  | 0, _ => cNm0
  | 1, _ => cNm1
  | 2, _ => cNm2
  | 3, _ => cNm3
  | 4, _ => cNm4
  | 5, _ => cNm5
  | 6, _ => cNm6
  | 7, _ => cNm7
  | 8, _ => cNm8
  | 9, _ => cNm9
  | 10, _ => cNm10
  | 11, _ => cNm11
  | 12, _ => cNm12
  | n + 13, h => absurd h (by omega)
def FLink (own : String) (idx c k : Nat) : Prop := Cond.fieldLink own idx (fT c k).1 (fT c k).2.1 (fT c k).2.2.1 ∈ T0 ∧ k < nfl c ∧ c < 13
theorem e_none {α : Type} {F : α → Option (ρ × Me)} {q : Option α} {p : ρ × Me} (hq : q = none) (e : q.bind F = some p) {P : Prop} : P := by rw [hq] at e; cases e
theorem e_some {α : Type} {F : α → Option (ρ × Me)} {q : Option α} {p : ρ × Me} {v : α} (hq : q = some v) (e : q.bind F = some p) : F v = some p := by rw [hq] at e; exact e
theorem s_getI (hG : Good Ω Γ y d mc ms) {cc j idx : Nat} {x : Option Nat} {F : Int32 → Option (ρ × Me)} (hF : FLink y.1.cls idx cc j) (hv : fval (fty cc j) = fun i _ _ => .int i) (hd : decode y.2.1 pc = .ok (.getfield idx, 3)) (k : ∀ v, Sim Ω Γ mc ms ι nL (pc + 3) lv (vI v :: st) σ c s (F v)) : Sim Ω Γ mc ms ι nL pc lv (vR x :: st) σ c s ((qI σ cc j x).bind F) := fun r σ' e hE ls H locs hy => by
  cases hq : dr σ x (.inl cc) with
  | none => exact e_none (by unfold qI; rw [hq]; rfl) e
  | some a =>
    obtain ⟨rfl, hk⟩ := dr_spec hq
    have e := e_some (v := mi σ a j) (by unfold qI; rw [hq]; rfl) e
    have k := k _ r σ' e hE ls H locs hy
    show WW Ω Γ H locs c s (F0 (gM Γ) pc ls (rv Ω (some a) :: st.map (tv Ω)))
    rw [rv_lo hk.2.2]
    exact va_get (D := oD Ω) (ci := cc) (C := fN cc) (T := fT cc) (N := nfl cc) hG.1 hG.2.1 hG.2.2.2.2.1 (lays_ok cc hF.2.2) hG.2.2.2.1 hG.2.2.2.2.2.1 hy.2.1 a (ws_obj hk) (cls_at hF.2.2) j hF.2.1 (hG.2.2.2.2.1 _ hF.1) (fun _ h9 => h9) (by rw [fls_at hF.2.1, hv]; rfl) hd k
theorem s_getL (hG : Good Ω Γ y d mc ms) {cc j idx : Nat} {x : Option Nat} {F : Int64 → Option (ρ × Me)} (hF : FLink y.1.cls idx cc j) (hv : fval (fty cc j) = fun _ g _ => .long g) (hd : decode y.2.1 pc = .ok (.getfield idx, 3)) (k : ∀ v, Sim Ω Γ mc ms ι nL (pc + 3) lv (vL v :: st) σ c s (F v)) : Sim Ω Γ mc ms ι nL pc lv (vR x :: st) σ c s ((qL σ cc j x).bind F) := fun r σ' e hE ls H locs hy => by
  cases hq : dr σ x (.inl cc) with
  | none => exact e_none (by unfold qL; rw [hq]; rfl) e
  | some a =>
    obtain ⟨rfl, hk⟩ := dr_spec hq
    have e := e_some (v := ml σ a j) (by unfold qL; rw [hq]; rfl) e
    have k := k _ r σ' e hE ls H locs hy
    show WW Ω Γ H locs c s (F0 (gM Γ) pc ls (rv Ω (some a) :: st.map (tv Ω)))
    rw [rv_lo hk.2.2]
    exact va_get (D := oD Ω) (ci := cc) (C := fN cc) (T := fT cc) (N := nfl cc) hG.1 hG.2.1 hG.2.2.2.2.1 (lays_ok cc hF.2.2) hG.2.2.2.1 hG.2.2.2.2.2.1 hy.2.1 a (ws_obj hk) (cls_at hF.2.2) j hF.2.1 (hG.2.2.2.2.1 _ hF.1) (fun _ h9 => h9) (by rw [fls_at hF.2.1, hv]; rfl) hd k
theorem s_getR (hG : Good Ω Γ y d mc ms) {cc j idx : Nat} {x : Option Nat} {F : Option Nat → Option (ρ × Me)} (hF : FLink y.1.cls idx cc j) (hv : fval (fty cc j) = fun _ _ r => r) (hd : decode y.2.1 pc = .ok (.getfield idx, 3)) (k : ∀ v, Sim Ω Γ mc ms ι nL (pc + 3) lv (vR v :: st) σ c s (F v)) : Sim Ω Γ mc ms ι nL pc lv (vR x :: st) σ c s ((qR σ cc j x).bind F) := fun r σ' e hE ls H locs hy => by
  cases hq : dr σ x (.inl cc) with
  | none => exact e_none (by unfold qR; rw [hq]; rfl) e
  | some a =>
    obtain ⟨rfl, hk⟩ := dr_spec hq
    have e := e_some (v := mr σ a j) (by unfold qR; rw [hq]; rfl) e
    have k := k _ r σ' e hE ls H locs hy
    show WW Ω Γ H locs c s (F0 (gM Γ) pc ls (rv Ω (some a) :: st.map (tv Ω)))
    rw [rv_lo hk.2.2]
    exact va_get (D := oD Ω) (ci := cc) (C := fN cc) (T := fT cc) (N := nfl cc) hG.1 hG.2.1 hG.2.2.2.2.1 (lays_ok cc hF.2.2) hG.2.2.2.1 hG.2.2.2.2.2.1 hy.2.1 a (ws_obj hk) (cls_at hF.2.2) j hF.2.1 (hG.2.2.2.2.1 _ hF.1) (fun _ h9 => h9) (by rw [fls_at hF.2.1, hv]; rfl) hd k
/-- a field is written: the cell, the sizes, the rest -/
theorem w_put (hG : Good Ω Γ y d mc ms) {fin : Bool} {cc j idx a : Nat} {v : Value} {σ2 : Me} {ls : Array Slot} {H : Heap} {locs : List Loc} {rest : List Value} (hk : Kd σ a (.inl cc)) (hF : FLink y.1.cls idx cc j) (hfin : (fT cc j).2.2.2 = fin) (hini : fin = true → y.1.name = "<init>" ∧ (fT cc j).1 = y.1.cls)
    (hn : narrow (fty cc j) v = v) (hfit : fits (fty cc j) v = true) (hz : mz σ2 = mz σ) (hk2 : mk σ2 a = .inl cc) (ho : ∀ b, b ≠ a → En Ω σ2 b = En Ω σ b)
    (hf : ∀ i, i < nfl cc → vp_V (fls Ω cc (mi σ2 a) (ml σ2 a) (mr σ2 a)) i = updV (vp_V (fls Ω cc (mi σ a) (ml σ a) (mr σ a))) j v i) (hy : Hy Ω Γ nL lv σ ls H locs) (hd : decode y.2.1 pc = .ok (.putfield idx, 3))
    (k : ∀ (H1 : Heap) (locs1 : List Loc), Hy Ω Γ nL lv σ2 ls H1 locs1 → WW Ω Γ H1 locs1 c s (F0 (gM Γ) (pc + 3) ls rest)) : WW Ω Γ H locs c s (F0 (gM Γ) pc ls (v :: .ref (oB Ω + a) :: rest)) := by
  have hc := cls_at hF.2.2
  have hts := hG.2.2.2.2.1
  have hin := lays_ok cc hF.2.2
  have hap := va_apart (own := y.1.cls) hts hin (fty cc) (fty_ok hF.2.2) (fnm_ok hF.2.2) hG.2.2.2.2.2.1 hc
  obtain ⟨q, hq, cell, q1, q2, q3, q4⟩ := hy.2.1 a _ (ws_obj hk)
  have hr : q = (fN cc, fT cc, nfl cc) := Option.some.inj (hq.symm.trans hc)
  subst hr
  obtain ⟨hSl, hfc, kC, hkC, hkind⟩ := hG.2.2.2.2.2.1.1 cc _ hc
  obtain ⟨cf, kf, fi, f, hi, hsl⟩ := hSl j hF.2.1
  have hst := (u_facts hfc hkC (u_lays hts hin hF.2.1) hi).1
  have hlay := hts _ (hin _ (u_in_lay hF.2.1))
  unfold u_lay at hlay
  have fin_ : ∀ H1 : Heap, H1[oB Ω + a]? = some (cell.setSlot (oD Ω |>.2 cc j) v) → H1.size = H.size → (∀ z, z ≠ oB Ω + a → H1[z]? = H[z]?) → ∀ locs1, va_S (oF Ω) (gS Γ).heap H1 locs1 → Hy Ω Γ nL lv σ2 ls H1 locs1 := by
    intro H1 e1 e2 e3 locs1 e4
    refine ⟨hy.1, ws_put hy.2.1 hz ho ?_ e3, by rw [e2, hz]; exact hy.2.2.1, e4⟩
    rw [en_obj hk2]
    exact ⟨_, hc, t_OB.to (V := updV (vp_V (fls Ω cc (mi σ a) (ml σ a) (mr σ a))) j v) ⟨_, e1, q2, q3, t_set q4 hap hF.2.1 v⟩ (fun i hi => (hf i hi).symm)⟩
  cases fin with
  | false =>
    rw [if_neg (by rw [hfin]; decide)] at hlay
    have h6 := u_store hfc hkC hkind hlay hi (fty_ok hF.2.2 j hF.2.1) hn hfit
    refine W.putK hG.1 hG.2.1 (f := f) ⟨hG.2.2.2.1, hts _ hF.1, ⟨_, _, _, hi⟩, hst⟩ (by rw [q2]; exact h6) q1 q3 (by rw [hsl]; exact k2_hasslot (q4 j hF.2.1)) rfl rfl hd fun H1 e1 e2 e3 => ?_
    rw [hsl] at e1 ⊢
    exact k H1 _ (fin_ H1 e1 e2 e3 _ (hy.2.2.2.put e2 e3 (Nat.le_add_right _ _)))
  | true =>
    rw [if_pos hfin] at hlay
    obtain ⟨i1, i2⟩ := hini rfl
    have hcf : (gM Γ).cls = cf := by
      obtain ⟨_, _, c', _, _, _, -, -, hf', -, -, -, hown2, -⟩ := Cond.laysFinal_spec hlay
      have e1 : c' = cf := by have := hi.symm.trans hf'; simp at this; exact this.1.symm
      rw [i2] at hown2
      rw [← e1]; exact Option.some.inj (hG.2.2.2.1.symm.trans hown2)
    have h6 := u_fits hfc hkC hkind (Or.inr hlay) hi (fty_ok hF.2.2 j hF.2.1) hn hfit
    refine W.putFinK hG.1 hG.2.1 hG.2.2.2.1 (hts _ hF.1) hi hst hcf (hG.2.2.2.2.2.2.2.2.2.2.1 i1) (by rw [q2]; exact h6) q1 q3 (by rw [hsl]; exact k2_hasslot (q4 j hF.2.1)) rfl rfl hd fun H1 e1 e2 e3 => ?_
    rw [hsl] at e1 ⊢
    exact k H1 _ (fin_ H1 e1 e2 e3 _ (hy.2.2.2.put e2 e3 (Nat.le_add_right _ _)))
theorem s_putI (hG : Good Ω Γ y d mc ms) {fin : Bool} {cc j idx : Nat} {x : Option Nat} {x2 : Int32} {F : Me → Option (ρ × Me)} (hF : FLink y.1.cls idx cc j) (hfin : (fT cc j).2.2.2 = fin) (hini : fin = true → y.1.name = "<init>" ∧ (fT cc j).1 = y.1.cls) (hv : fval (fty cc j) = fun i _ _ => .int i) (hn : ∀ v, narrow (fty cc j) (.int v) = .int v) (hfit : ∀ v, fits (fty cc j) (.int v) = true) (hd : decode y.2.1 pc = .ok (.putfield idx, 3)) (k : ∀ v, Sim Ω Γ mc ms ι nL (pc + 3) lv st v c s (F v)) : Sim Ω Γ mc ms ι nL pc lv (vI x2 :: vR x :: st) σ c s ((pI σ cc j x x2).bind F) := fun r σ' e hE ls H locs hy => by
  cases hq : dr σ x (.inl cc) with
  | none => exact e_none (by unfold pI; rw [hq]; rfl) e
  | some a =>
    obtain ⟨rfl, hk⟩ := dr_spec hq
    have e := e_some (v := setI σ a j x2) (by unfold pI; rw [hq]; rfl) e
    have k := k _ r σ' e hE
    show WW Ω Γ H locs c s (F0 (gM Γ) pc ls (.int x2 :: rv Ω (some a) :: st.map (tv Ω)))
    rw [rv_lo hk.2.2]
    refine w_put (σ2 := setI σ a j x2) hG hk hF hfin hini (hn _) (hfit _) rfl hk.1 en_setI (fun i hi => ?_) hy hd (fun H1 locs1 hy1 => k ls H1 locs1 hy1)
    rw [fls_V hi]
    by_cases hij : i = j
    · subst hij
      rw [hv]
      simp [updV, mi_setI, ml_setI, mr_setI, up2]
    · simp only [updV, if_neg hij]
      rw [fls_V hi]
      simp [mi_setI, ml_setI, mr_setI, up2, hij]
theorem s_putL (hG : Good Ω Γ y d mc ms) {fin : Bool} {cc j idx : Nat} {x : Option Nat} {x2 : Int64} {F : Me → Option (ρ × Me)} (hF : FLink y.1.cls idx cc j) (hfin : (fT cc j).2.2.2 = fin) (hini : fin = true → y.1.name = "<init>" ∧ (fT cc j).1 = y.1.cls) (hv : fval (fty cc j) = fun _ g _ => .long g) (hn : ∀ v, narrow (fty cc j) (.long v) = .long v) (hfit : ∀ v, fits (fty cc j) (.long v) = true) (hd : decode y.2.1 pc = .ok (.putfield idx, 3)) (k : ∀ v, Sim Ω Γ mc ms ι nL (pc + 3) lv st v c s (F v)) : Sim Ω Γ mc ms ι nL pc lv (vL x2 :: vR x :: st) σ c s ((pL σ cc j x x2).bind F) := fun r σ' e hE ls H locs hy => by
  cases hq : dr σ x (.inl cc) with
  | none => exact e_none (by unfold pL; rw [hq]; rfl) e
  | some a =>
    obtain ⟨rfl, hk⟩ := dr_spec hq
    have e := e_some (v := setL σ a j x2) (by unfold pL; rw [hq]; rfl) e
    have k := k _ r σ' e hE
    show WW Ω Γ H locs c s (F0 (gM Γ) pc ls (.long x2 :: rv Ω (some a) :: st.map (tv Ω)))
    rw [rv_lo hk.2.2]
    refine w_put (σ2 := setL σ a j x2) hG hk hF hfin hini (hn _) (hfit _) rfl hk.1 en_setL (fun i hi => ?_) hy hd (fun H1 locs1 hy1 => k ls H1 locs1 hy1)
    rw [fls_V hi]
    by_cases hij : i = j
    · subst hij
      rw [hv]
      simp [updV, mi_setL, ml_setL, mr_setL, up2]
    · simp only [updV, if_neg hij]
      rw [fls_V hi]
      simp [mi_setL, ml_setL, mr_setL, up2, hij]
theorem s_putR (hG : Good Ω Γ y d mc ms) {fin : Bool} {cc j idx : Nat} {x : Option Nat} {x2 : Option Nat} {F : Me → Option (ρ × Me)} (hF : FLink y.1.cls idx cc j) (hfin : (fT cc j).2.2.2 = fin) (hini : fin = true → y.1.name = "<init>" ∧ (fT cc j).1 = y.1.cls) (hv : fval (fty cc j) = fun _ _ r => r) (hn : ∀ v, narrow (fty cc j) (va_rf v) = va_rf v) (hfit : ∀ v, fits (fty cc j) (va_rf v) = true) (hd : decode y.2.1 pc = .ok (.putfield idx, 3)) (k : ∀ v, Sim Ω Γ mc ms ι nL (pc + 3) lv st v c s (F v)) : Sim Ω Γ mc ms ι nL pc lv (vR x2 :: vR x :: st) σ c s ((pR σ cc j x x2).bind F) := fun r σ' e hE ls H locs hy => by
  cases hq : dr σ x (.inl cc) with
  | none => exact e_none (by unfold pR; rw [hq]; rfl) e
  | some a =>
    obtain ⟨rfl, hk⟩ := dr_spec hq
    have e := e_some (v := setR σ a j x2) (by unfold pR; rw [hq]; rfl) e
    have k := k _ r σ' e hE
    show WW Ω Γ H locs c s (F0 (gM Γ) pc ls (rv Ω x2 :: rv Ω (some a) :: st.map (tv Ω)))
    rw [rv_lo hk.2.2]
    refine w_put (σ2 := setR σ a j x2) hG hk hF hfin hini (hn _) (hfit _) rfl hk.1 en_setR (fun i hi => ?_) hy hd (fun H1 locs1 hy1 => k ls H1 locs1 hy1)
    rw [fls_V hi]
    by_cases hij : i = j
    · subst hij
      rw [hv]
      simp [updV, mi_setR, ml_setR, mr_setR, up2]
    · simp only [updV, if_neg hij]
      rw [fls_V hi]
      simp [mi_setR, ml_setR, mr_setR, up2, hij]
theorem s_putZ (hG : Good Ω Γ y d mc ms) {cc j idx : Nat} {x : Option Nat} {x2 : Int32} {F : Me → Option (ρ × Me)} (hF : FLink y.1.cls idx cc j) (hfin : (fT cc j).2.2.2 = false) (hv : fty cc j = .boolean) (hd : decode y.2.1 pc = .ok (.putfield idx, 3)) (k : ∀ v, Sim Ω Γ mc ms ι nL (pc + 3) lv st v c s (F v)) : Sim Ω Γ mc ms ι nL pc lv (vI x2 :: vR x :: st) σ c s ((pZ σ cc j x x2).bind F) := fun r σ' e hE ls H locs hy => by
  unfold pZ at e
  by_cases h01 : x2 = 0 ∨ x2 = 1
  · rw [if_pos h01] at e
    cases hq : dr σ x (.inl cc) with
    | none => rw [hq] at e; cases e
    | some a =>
      obtain ⟨rfl, hk⟩ := dr_spec hq
      rw [hq] at e
      have k := k _ r σ' e hE
      show WW Ω Γ H locs c s (F0 (gM Γ) pc ls (.int x2 :: rv Ω (some a) :: st.map (tv Ω)))
      rw [rv_lo hk.2.2]
      refine w_put (σ2 := setI σ a j x2) hG hk hF hfin (fun h => by cases h) ?_ ?_ rfl hk.1 en_setI (fun i hi => ?_) hy hd (fun H1 locs1 hy1 => k ls H1 locs1 hy1)
      · rw [hv]; rcases h01 with rfl | rfl <;> rfl
      · rw [hv]; rcases h01 with rfl | rfl <;> rfl
      · rw [fls_V hi]
        by_cases hij : i = j
        · subst hij
          rw [hv]
          simp [updV, mi_setI, up2, fval]
        · simp only [updV, if_neg hij]
          rw [fls_V hi]
          simp [mi_setI, ml_setI, mr_setI, up2, hij]
  · rw [if_neg h01] at e; cases e
theorem s_zald (hG : Good Ω Γ y d mc ms) {x : Option Nat} {i : Int32} {F : Int32 → Option (ρ × Me)} (hd : decode y.2.1 pc = .ok (.baload, 1)) (k : ∀ v, Sim Ω Γ mc ms ι nL (pc + 1) lv (vI v :: st) σ c s (F v)) : Sim Ω Γ mc ms ι nL pc lv (vI i :: vR x :: st) σ c s ((ldZ σ x i).bind F) := fun r σ' e hE ls H locs hy => by
  cases hq : arr σ .boolean x i with
  | none => exact e_none (by unfold ldZ; rw [hq]; rfl) e
  | some a =>
    obtain ⟨rfl, n, hk, hin⟩ := arr_spec hq
    have e := e_some (v := mi σ a i.toNatClampNeg) (by unfold ldZ; rw [hq]; rfl) e
    have k := k _ r σ' e hE ls H locs hy
    show WW Ω Γ H locs c s (F0 (gM Γ) pc ls (.int i :: rv Ω (some a) :: st.map (tv Ω)))
    rw [rv_lo hk.2.2]
    exact va_zald hG.1 hG.2.1 hG.2.2.2.2.2.1 hy.2.1 a 2 (ws_arr hk) rfl hin hd k
theorem s_lald (hG : Good Ω Γ y d mc ms) {x : Option Nat} {i : Int32} {F : Int64 → Option (ρ × Me)} (hd : decode y.2.1 pc = .ok (.laload, 1)) (k : ∀ v, Sim Ω Γ mc ms ι nL (pc + 1) lv (vL v :: st) σ c s (F v)) : Sim Ω Γ mc ms ι nL pc lv (vI i :: vR x :: st) σ c s ((ldL σ x i).bind F) := fun r σ' e hE ls H locs hy => by
  cases hq : arr σ .long x i with
  | none => exact e_none (by unfold ldL; rw [hq]; rfl) e
  | some a =>
    obtain ⟨rfl, n, hk, hin⟩ := arr_spec hq
    have e := e_some (v := ml σ a i.toNatClampNeg) (by unfold ldL; rw [hq]; rfl) e
    have k := k _ r σ' e hE ls H locs hy
    show WW Ω Γ H locs c s (F0 (gM Γ) pc ls (.int i :: rv Ω (some a) :: st.map (tv Ω)))
    rw [rv_lo hk.2.2]
    exact va_lald hG.1 hG.2.1 hG.2.2.2.2.2.1 hy.2.1 a 3 (ws_arr hk) rfl hin hd k
theorem s_bald (hG : Good Ω Γ y d mc ms) {x : Option Nat} {i : Int32} {F : Int32 → Option (ρ × Me)} (hd : decode y.2.1 pc = .ok (.baload, 1)) (k : ∀ v, Sim Ω Γ mc ms ι nL (pc + 1) lv (vI v :: st) σ c s (F v)) : Sim Ω Γ mc ms ι nL pc lv (vI i :: vR x :: st) σ c s ((ldB σ x i).bind F) := fun r σ' e hE ls H locs hy => by
  cases x with
  | none => exact e_none rfl e
  | some b =>
    by_cases hb : b < 1000000
    · cases hq : arr σ .byte (some b) i with
      | none => exact e_none (by unfold ldB; simp only; rw [if_pos hb, hq]; rfl) e
      | some a =>
        obtain ⟨hba, n, hk, hin⟩ := arr_spec hq
        have e := e_some (v := mi σ a i.toNatClampNeg) (by unfold ldB; simp only; rw [if_pos hb, hq]; rfl) e
        cases hba
        have k := k _ r σ' e hE ls H locs hy
        show WW Ω Γ H locs c s (F0 (gM Γ) pc ls (.int i :: rv Ω (some b) :: st.map (tv Ω)))
        rw [rv_lo hk.2.2]
        exact va_bald hG.1 hG.2.1 hG.2.2.2.2.2.1 hy.2.1 b 1 (ws_arr hk) rfl hin hd k
    · have e1 : ldB σ (some b) i = sldB b i := by unfold ldB; simp only; rw [if_neg hb]
      rw [e1] at e
      unfold sldB at e
      by_cases hs : (1000040 ≤ b ∧ b < 1000049) ∧ ¬ i < 0 ∧ i.toNatClampNeg < kLn.getD (b - 1000040) 0
      · rw [if_pos hs] at e
        have k := k _ r σ' e hE ls H locs hy
        have hT := hG.2.2.2.2.2.2.1.by_ (b - 1000040) (by omega)
        show WW Ω Γ H locs c s (F0 (gM Γ) pc ls (.int i :: rv Ω (some b) :: st.map (tv Ω)))
        rw [rv_by hs.1]
        exact va_tb hG.1 hG.2.1 hT hy.2.2.2 (nI_cl hs.2.1 hs.2.2) rfl hd k
      · rw [if_neg hs] at e; cases e
theorem s_iald (hG : Good Ω Γ y d mc ms) {x : Option Nat} {i : Int32} {F : Int32 → Option (ρ × Me)} (hd : decode y.2.1 pc = .ok (.iaload, 1)) (k : ∀ v, Sim Ω Γ mc ms ι nL (pc + 1) lv (vI v :: st) σ c s (F v)) : Sim Ω Γ mc ms ι nL pc lv (vI i :: vR x :: st) σ c s ((ldI σ x i).bind F) := fun r σ' e hE ls H locs hy => by
  cases x with
  | none => exact e_none rfl e
  | some b =>
    by_cases hb : b < 1000000
    · cases hq : arr σ .int (some b) i with
      | none => exact e_none (by unfold ldI; simp only; rw [if_pos hb, hq]; rfl) e
      | some a =>
        obtain ⟨hba, n, hk, hin⟩ := arr_spec hq
        have e := e_some (v := mi σ a i.toNatClampNeg) (by unfold ldI; simp only; rw [if_pos hb, hq]; rfl) e
        cases hba
        have k := k _ r σ' e hE ls H locs hy
        show WW Ω Γ H locs c s (F0 (gM Γ) pc ls (.int i :: rv Ω (some b) :: st.map (tv Ω)))
        rw [rv_lo hk.2.2]
        exact va_iald hG.1 hG.2.1 hG.2.2.2.2.2.1 hy.2.1 b 0 (ws_arr hk) rfl hin hd k
    · have e1 : ldI σ (some b) i = sld b i := by unfold ldI; simp only; rw [if_neg hb]
      rw [e1] at e
      unfold sld at e
      by_cases hs : b < 1000006 ∧ ¬ i < 0 ∧ i.toNatClampNeg < (sLs (b - 1000000)).length
      · rw [if_pos hs] at e
        have k := k _ r σ' e hE ls H locs hy
        have hT := (hG.2.2.2.2.2.2.1.1 (b - 1000000) (by omega)).2
        show WW Ω Γ H locs c s (F0 (gM Γ) pc ls (.int i :: rv Ω (some b) :: st.map (tv Ω)))
        rw [show rv Ω (some b) = .ref (oA Ω (b - 1000000)) by simp [rv, va_rf, ad, hb, hs.1]]
        exact va_ti hG.1 hG.2.1 hT hy.2.2.2 (nI_cl hs.2.1 hs.2.2) rfl hd k
      · rw [if_neg hs] at e; cases e
theorem s_iast (hG : Good Ω Γ y d mc ms) {x : Option Nat} {i : Int32} {x2 : Int32} {F : Me → Option (ρ × Me)} (hd : decode y.2.1 pc = .ok (.iastore, 1)) (k : ∀ v, Sim Ω Γ mc ms ι nL (pc + 1) lv st v c s (F v)) : Sim Ω Γ mc ms ι nL pc lv (vI x2 :: vI i :: vR x :: st) σ c s ((stI σ x i x2).bind F) := fun r σ' e hE ls H locs hy => by
  cases hq : arr σ .int x i with
  | none => exact e_none (by unfold stI; rw [hq]; rfl) e
  | some a =>
    obtain ⟨rfl, n, hk, hin⟩ := arr_spec hq
    have e := e_some (v := setI σ a i.toNatClampNeg x2) (by unfold stI; rw [hq]; rfl) e
    have k := k _ r σ' e hE
    show WW Ω Γ H locs c s (F0 (gM Γ) pc ls (.int x2 :: .int i :: rv Ω (some a) :: st.map (tv Ω)))
    rw [rv_lo hk.2.2]
    refine W.iast hG.1 hG.2.1 (hy.2.1 a _ (ws_arr hk)) ((hG.2.2.2.2.2.1.2 0 (oC Ω .int, .int) rfl).1 n (fun j => .int (mi σ a j))) (fun q => by cases q) (by show ¬ (i < 0 ∨ (arrV _ _ _).slots.size ≤ _); rw [arrV_size]; exact hin) rfl rfl hd fun H1 e1 z oq => ?_
    refine k ls H1 _ ⟨hy.1, ws_put hy.2.1 rfl en_setI ?_ oq, by rw [z]; exact hy.2.2.1, hy.2.2.2.put z oq (Nat.le_add_right _ _)⟩
    rw [en_arr (ty := .int) (n := n) (show mk (setI σ a i.toNatClampNeg x2) a = _ from hk.1)]
    show H1[oB Ω + a]? = some (vp_cell _ _)
    rw [e1]
    show some ((vp_cell _ _).setSlot _ _) = some (vp_cell _ (_, _))
    simp only [acon]
    rw [vp_cell_i, vp_cell_i, arrV_store]
    congr 2
    funext q
    by_cases hq : q = i.toNatClampNeg
    · subst hq
      simp [updV, mi_setI, up2, vp_nar]
      try rfl
    · simp [updV, mi_setI, up2, hq]
theorem s_bast (hG : Good Ω Γ y d mc ms) {x : Option Nat} {i : Int32} {x2 : Int32} {F : Me → Option (ρ × Me)} (hd : decode y.2.1 pc = .ok (.bastore, 1)) (k : ∀ v, Sim Ω Γ mc ms ι nL (pc + 1) lv st v c s (F v)) : Sim Ω Γ mc ms ι nL pc lv (vI x2 :: vI i :: vR x :: st) σ c s ((stB σ x i x2).bind F) := fun r σ' e hE ls H locs hy => by
  cases hq : arr σ .byte x i with
  | none => exact e_none (by unfold stB; rw [hq]; rfl) e
  | some a =>
    obtain ⟨rfl, n, hk, hin⟩ := arr_spec hq
    have e := e_some (v := setI σ a i.toNatClampNeg (vp_nar .byte x2)) (by unfold stB; rw [hq]; rfl) e
    have k := k _ r σ' e hE
    show WW Ω Γ H locs c s (F0 (gM Γ) pc ls (.int x2 :: .int i :: rv Ω (some a) :: st.map (tv Ω)))
    rw [rv_lo hk.2.2]
    refine W.bast hG.1 hG.2.1 (hy.2.1 a _ (ws_arr hk)) ((hG.2.2.2.2.2.1.2 1 (oC Ω .byte, .byte) rfl).1 n (fun j => .int (mi σ a j))) (fun q => by cases q) (by show ¬ (i < 0 ∨ (arrV _ _ _).slots.size ≤ _); rw [arrV_size]; exact hin) rfl rfl hd fun H1 e1 z oq => ?_
    refine k ls H1 _ ⟨hy.1, ws_put hy.2.1 rfl en_setI ?_ oq, by rw [z]; exact hy.2.2.1, hy.2.2.2.put z oq (Nat.le_add_right _ _)⟩
    rw [en_arr (ty := .byte) (n := n) (show mk (setI σ a i.toNatClampNeg (vp_nar .byte x2)) a = _ from hk.1)]
    show H1[oB Ω + a]? = some (vp_cell _ _)
    rw [e1]
    show some ((vp_cell _ _).setSlot _ _) = some (vp_cell _ (_, _))
    simp only [acon]
    rw [vp_cell_i, vp_cell_i, arrV_store]
    congr 2
    funext q
    by_cases hq : q = i.toNatClampNeg
    · subst hq
      simp [updV, mi_setI, up2, vp_nar]
      try rfl
    · simp [updV, mi_setI, up2, hq]
theorem s_zast (hG : Good Ω Γ y d mc ms) {x : Option Nat} {i : Int32} {x2 : Int32} {F : Me → Option (ρ × Me)} (hd : decode y.2.1 pc = .ok (.bastore, 1)) (k : ∀ v, Sim Ω Γ mc ms ι nL (pc + 1) lv st v c s (F v)) : Sim Ω Γ mc ms ι nL pc lv (vI x2 :: vI i :: vR x :: st) σ c s ((stZ σ x i x2).bind F) := fun r σ' e hE ls H locs hy => by
  cases hq : arr σ .boolean x i with
  | none => exact e_none (by unfold stZ; rw [hq]; rfl) e
  | some a =>
    obtain ⟨rfl, n, hk, hin⟩ := arr_spec hq
    have e := e_some (v := setI σ a i.toNatClampNeg (vp_nar .boolean x2)) (by unfold stZ; rw [hq]; rfl) e
    have k := k _ r σ' e hE
    show WW Ω Γ H locs c s (F0 (gM Γ) pc ls (.int x2 :: .int i :: rv Ω (some a) :: st.map (tv Ω)))
    rw [rv_lo hk.2.2]
    refine W.zast hG.1 hG.2.1 (hy.2.1 a _ (ws_arr hk)) ((hG.2.2.2.2.2.1.2 2 (oC Ω .boolean, .boolean) rfl).1 n (fun j => .int (mi σ a j))) (fun q => by cases q) (by show ¬ (i < 0 ∨ (arrV _ _ _).slots.size ≤ _); rw [arrV_size]; exact hin) rfl rfl hd fun H1 e1 z oq => ?_
    refine k ls H1 _ ⟨hy.1, ws_put hy.2.1 rfl en_setI ?_ oq, by rw [z]; exact hy.2.2.1, hy.2.2.2.put z oq (Nat.le_add_right _ _)⟩
    rw [en_arr (ty := .boolean) (n := n) (show mk (setI σ a i.toNatClampNeg (vp_nar .boolean x2)) a = _ from hk.1)]
    show H1[oB Ω + a]? = some (vp_cell _ _)
    rw [e1]
    show some ((vp_cell _ _).setSlot _ _) = some (vp_cell _ (_, _))
    simp only [acon]
    rw [vp_cell_i, vp_cell_i, arrV_store]
    congr 2
    funext q
    by_cases hq : q = i.toNatClampNeg
    · subst hq
      simp [updV, mi_setI, up2, vp_nar]
      try rfl
    · simp [updV, mi_setI, up2, hq]
theorem s_last (hG : Good Ω Γ y d mc ms) {x : Option Nat} {i : Int32} {x2 : Int64} {F : Me → Option (ρ × Me)} (hd : decode y.2.1 pc = .ok (.lastore, 1)) (k : ∀ v, Sim Ω Γ mc ms ι nL (pc + 1) lv st v c s (F v)) : Sim Ω Γ mc ms ι nL pc lv (vL x2 :: vI i :: vR x :: st) σ c s ((stL σ x i x2).bind F) := fun r σ' e hE ls H locs hy => by
  cases hq : arr σ .long x i with
  | none => exact e_none (by unfold stL; rw [hq]; rfl) e
  | some a =>
    obtain ⟨rfl, n, hk, hin⟩ := arr_spec hq
    have e := e_some (v := setL σ a i.toNatClampNeg x2) (by unfold stL; rw [hq]; rfl) e
    have k := k _ r σ' e hE
    show WW Ω Γ H locs c s (F0 (gM Γ) pc ls (.long x2 :: .int i :: rv Ω (some a) :: st.map (tv Ω)))
    rw [rv_lo hk.2.2]
    refine W.last hG.1 hG.2.1 (hy.2.1 a _ (ws_arr hk)) ((hG.2.2.2.2.2.1.2 3 (oC Ω .long, .long) rfl).1 n (fun j => .long (ml σ a j))) (fun q => by cases q) (by show ¬ (i < 0 ∨ (arrV _ _ _).slots.size ≤ _); rw [arrV_size]; exact hin) rfl rfl hd fun H1 e1 z oq => ?_
    refine k ls H1 _ ⟨hy.1, ws_put hy.2.1 rfl en_setL ?_ oq, by rw [z]; exact hy.2.2.1, hy.2.2.2.put z oq (Nat.le_add_right _ _)⟩
    rw [en_arr (ty := .long) (n := n) (show mk (setL σ a i.toNatClampNeg x2) a = _ from hk.1)]
    show H1[oB Ω + a]? = some (vp_cell _ _)
    rw [e1]
    show some ((vp_cell _ _).setSlot _ _) = some (vp_cell _ (_, _))
    simp only [acon]
    rw [vp_cell_l, vp_cell_l, arrV_store]
    congr 2
    funext q
    by_cases hq : q = i.toNatClampNeg
    · subst hq
      simp [updV, ml_setL, up2, vp_nar]
      try rfl
    · simp [updV, ml_setL, up2, hq]
theorem s_iret (hG : Good Ω Γ y d mc ms) {v : Int32} (hd : decode y.2.1 pc = .ok (.ireturn, 1)) (hr : y.2.2.2 = some .int) (hc : c ≤ mc) (hs : s ≤ ms) : Sim Ω Γ mc ms ιI nL pc lv [vI v] σ c s (some (v, σ)) := fun r σ' e hE ls H locs hy => by
  cases e
  have hE : gQ Γ = _ := hE.resolve_right (fun h => by cases h)
  show W (gP Γ) (oL Ω) (gE Γ) (gR Γ) (gS Γ) (gM Γ) (gA Γ) (gB Γ) (gH Γ) (gC Γ) H locs c s (gQ Γ) _
  refine W.widen (k := mc) (n := ms) hc hs ?_
  rw [hE]
  exact W.iret hG.1 hG.2.1 (hG.2.2.2.2.2.2.2.2.1.trans hr) (fun t ht hW => ⟨rfl, by rw [ht]; exact hy.2.1, by rw [ht]; exact hy.2.2.1, hy.2.2.2.F ht⟩) hy.2.2.2.2.2 hd (hlocks := hG.2.2.2.2.2.2.2.2.2.1)
theorem s_lret (hG : Good Ω Γ y d mc ms) {v : Int64} (hd : decode y.2.1 pc = .ok (.lreturn, 1)) (hr : y.2.2.2 = some .long) (hc : c ≤ mc) (hs : s ≤ ms) : Sim Ω Γ mc ms ιL nL pc lv [vL v] σ c s (some (v, σ)) := fun r σ' e hE ls H locs hy => by
  cases e
  have hE : gQ Γ = _ := hE.resolve_right (fun h => by cases h)
  show W (gP Γ) (oL Ω) (gE Γ) (gR Γ) (gS Γ) (gM Γ) (gA Γ) (gB Γ) (gH Γ) (gC Γ) H locs c s (gQ Γ) _
  refine W.widen (k := mc) (n := ms) hc hs ?_
  rw [hE]
  exact W.lret hG.1 hG.2.1 (hG.2.2.2.2.2.2.2.2.1.trans hr) (fun t ht hW => ⟨rfl, by rw [ht]; exact hy.2.1, by rw [ht]; exact hy.2.2.1, hy.2.2.2.F ht⟩) hy.2.2.2.2.2 hd (hlocks := hG.2.2.2.2.2.2.2.2.2.1)
theorem s_vret (hG : Good Ω Γ y d mc ms)  (hd : decode y.2.1 pc = .ok (.return_, 1)) (hr : y.2.2.2 = none) (hc : c ≤ mc) (hs : s ≤ ms) : Sim Ω Γ mc ms ιV nL pc lv [] σ c s (some ((), σ)) := fun r σ' e hE ls H locs hy => by
  cases e
  have hE : gQ Γ = _ := hE.resolve_right (fun h => by cases h)
  show W (gP Γ) (oL Ω) (gE Γ) (gR Γ) (gS Γ) (gM Γ) (gA Γ) (gB Γ) (gH Γ) (gC Γ) H locs c s (gQ Γ) _
  refine W.widen (k := mc) (n := ms) hc hs ?_
  rw [hE]
  exact W.vret hG.1 hG.2.1 (hG.2.2.2.2.2.2.2.2.1.trans hr) (fun t ht hW => ⟨rfl, by rw [ht]; exact hy.2.1, by rw [ht]; exact hy.2.2.1, hy.2.2.2.F ht⟩) hy.2.2.2.2.2 hd (hlocks := hG.2.2.2.2.2.2.2.2.2.1)
def retN (ty : FieldType) (v : Int32) (σ : Me) : Option (Int32 × Me) := if narrow ty (.int v) = .int v then some (v, σ) else none
theorem s_nret (hG : Good Ω Γ y d mc ms) {v : Int32} {ty : FieldType} (hd : decode y.2.1 pc = .ok (.ireturn, 1)) (hr : y.2.2.2 = some ty) (hc : c ≤ mc) (hs : s ≤ ms) : Sim Ω Γ mc ms ιI nL pc lv [vI v] σ c s (retN ty v σ) := fun r σ' e hE ls H locs hy => by
  unfold retN at e
  have h01 : narrow ty (.int v) = .int v := by
    apply Classical.byContradiction
    intro h01
    rw [if_neg h01] at e
    cases e
  rw [if_pos h01] at e
  cases e
  have hE : gQ Γ = _ := hE.resolve_right (fun h => by cases h)
  show W (gP Γ) (oL Ω) (gE Γ) (gR Γ) (gS Γ) (gM Γ) (gA Γ) (gB Γ) (gH Γ) (gC Γ) H locs c s (gQ Γ) _
  refine W.widen (k := mc) (n := ms) hc hs ?_
  rw [hE]
  exact W.zret hG.1 hG.2.1 (hG.2.2.2.2.2.2.2.2.1.trans hr) h01 (fun t ht hW => ⟨rfl, by rw [ht]; exact hy.2.1, by rw [ht]; exact hy.2.2.1, hy.2.2.2.F ht⟩) hy.2.2.2.2.2 hd (hlocks := hG.2.2.2.2.2.2.2.2.2.1)
def retZ (v : Int32) (σ : Me) : Option (Int32 × Me) := if v = 0 ∨ v = 1 then some (v, σ) else none
theorem s_zret (hG : Good Ω Γ y d mc ms) {v : Int32} (hd : decode y.2.1 pc = .ok (.ireturn, 1)) (hr : y.2.2.2 = some .boolean) (hc : c ≤ mc) (hs : s ≤ ms) : Sim Ω Γ mc ms ιI nL pc lv [vI v] σ c s (retZ v σ) := fun r σ' e hE ls H locs hy => by
  unfold retZ at e
  have h01 : v = 0 ∨ v = 1 := by
    apply Classical.byContradiction
    intro h01
    rw [if_neg h01] at e
    cases e
  rw [if_pos h01] at e
  cases e
  have hE : gQ Γ = _ := hE.resolve_right (fun h => by cases h)
  show W (gP Γ) (oL Ω) (gE Γ) (gR Γ) (gS Γ) (gM Γ) (gA Γ) (gB Γ) (gH Γ) (gC Γ) H locs c s (gQ Γ) _
  refine W.widen (k := mc) (n := ms) hc hs ?_
  rw [hE]
  exact W.zret hG.1 hG.2.1 (hG.2.2.2.2.2.2.2.2.1.trans hr) (by rcases h01 with rfl | rfl <;> rfl) (fun t ht hW => ⟨rfl, by rw [ht]; exact hy.2.1, by rw [ht]; exact hy.2.2.1, hy.2.2.2.F ht⟩) hy.2.2.2.2.2 hd (hlocks := hG.2.2.2.2.2.2.2.2.2.1)
theorem s_aret (hG : Good Ω Γ y d mc ms) {v : Option Nat} {rt : FieldType} (hd : decode y.2.1 pc = .ok (.areturn, 1)) (hr : y.2.2.2 = some rt) (hrt : (∃ n, rt = .object n) ∨ ∃ t, rt = .array t) (hc : c ≤ mc) (hs : s ≤ ms) : Sim Ω Γ mc ms ιR nL pc lv [vR v] σ c s (some (v, σ)) := fun r σ' e hE ls H locs hy => by
  cases e
  have hE : gQ Γ = _ := hE.resolve_right (fun h => by cases h)
  show W (gP Γ) (oL Ω) (gE Γ) (gR Γ) (gS Γ) (gM Γ) (gA Γ) (gB Γ) (gH Γ) (gC Γ) H locs c s (gQ Γ) _
  refine W.widen (k := mc) (n := ms) hc hs ?_
  rw [hE]
  exact W.aret hG.1 hG.2.1 (hG.2.2.2.2.2.2.2.2.1.trans hr) hrt (by cases v with | none => exact Or.inl rfl | some a => exact Or.inr ⟨_, rfl⟩) (fun t ht hW => ⟨rfl, by rw [ht]; exact hy.2.1, by rw [ht]; exact hy.2.2.1, hy.2.2.2.F ht⟩) hy.2.2.2.2.2 hd (hlocks := hG.2.2.2.2.2.2.2.2.2.1)
end RULES
