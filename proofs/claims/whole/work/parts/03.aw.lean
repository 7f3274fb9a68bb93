/-! the world's fixed numbers: launch, classes, first new cell, array classes, static arrays, strings, their bytes, the script -/
abbrev Om : Type := Launch × va_G × Nat × (FieldType → ClassId) × (Nat → Nat) × (Nat → Nat) × (Nat → Nat) × (Nat × Nat × (Nat → Int32)) × Option Nat
abbrev oL (Ω : Om) : Launch := Ω.1
abbrev oD (Ω : Om) : va_G := Ω.2.1
abbrev oB (Ω : Om) : Nat := Ω.2.2.1
abbrev oC (Ω : Om) : FieldType → ClassId := Ω.2.2.2.1
abbrev oA (Ω : Om) : Nat → Nat := Ω.2.2.2.2.1
abbrev oK (Ω : Om) : Nat → Nat := Ω.2.2.2.2.2.1
abbrev oV (Ω : Om) : Nat → Nat := Ω.2.2.2.2.2.2.1
abbrev oX (Ω : Om) : Nat × Nat × (Nat → Int32) := Ω.2.2.2.2.2.2.2.1
abbrev oQ (Ω : Om) : Option Nat := Ω.2.2.2.2.2.2.2.2
/-- what a cell is: an object of a class, or an array of a type and length -/
abbrev Kn : Type := Nat ⊕ (FieldType × Nat)
/-- memory: kinds, ints, longs, references, number of cells, number of slots -/
abbrev Me : Type := (Nat → Kn) × (Nat → Nat → Int32) × (Nat → Nat → Int64) × (Nat → Nat → Option Nat) × Nat × Nat
abbrev mk (σ : Me) : Nat → Kn := σ.1
abbrev mi (σ : Me) : Nat → Nat → Int32 := σ.2.1
abbrev ml (σ : Me) : Nat → Nat → Int64 := σ.2.2.1
abbrev mr (σ : Me) : Nat → Nat → Option Nat := σ.2.2.2.1
abbrev mz (σ : Me) : Nat := σ.2.2.2.2.1
abbrev mn (σ : Me) : Nat := σ.2.2.2.2.2
def up2 {α : Type} (h : Nat → Nat → α) (a i : Nat) (v : α) : Nat → Nat → α := fun b j => if b = a ∧ j = i then v else h b j
theorem up2_ne {α : Type} (h : Nat → Nat → α) {a b : Nat} (i : Nat) (v : α) (hb : b ≠ a) : up2 h a i v b = h b := by funext j; simp [up2, hb]
def setI (σ : Me) (a i : Nat) (v : Int32) : Me := (σ.1, up2 σ.2.1 a i v, σ.2.2)
def setL (σ : Me) (a i : Nat) (v : Int64) : Me := (σ.1, σ.2.1, up2 σ.2.2.1 a i v, σ.2.2.2)
def setR (σ : Me) (a i : Nat) (v : Option Nat) : Me := (σ.1, σ.2.1, σ.2.2.1, up2 σ.2.2.2.1 a i v, σ.2.2.2.2)
theorem mk_setI (σ : Me) (a i : Nat) (v : Int32) : mk (setI σ a i v) = mk σ := rfl
theorem mi_setI (σ : Me) (a i : Nat) (v : Int32) : mi (setI σ a i v) = up2 (mi σ) a i v := rfl
theorem ml_setI (σ : Me) (a i : Nat) (v : Int32) : ml (setI σ a i v) = ml σ := rfl
theorem mr_setI (σ : Me) (a i : Nat) (v : Int32) : mr (setI σ a i v) = mr σ := rfl
theorem mz_setI (σ : Me) (a i : Nat) (v : Int32) : mz (setI σ a i v) = mz σ := rfl
theorem mn_setI (σ : Me) (a i : Nat) (v : Int32) : mn (setI σ a i v) = mn σ := rfl
theorem mk_setL (σ : Me) (a i : Nat) (v : Int64) : mk (setL σ a i v) = mk σ := rfl
theorem mi_setL (σ : Me) (a i : Nat) (v : Int64) : mi (setL σ a i v) = mi σ := rfl
theorem ml_setL (σ : Me) (a i : Nat) (v : Int64) : ml (setL σ a i v) = up2 (ml σ) a i v := rfl
theorem mr_setL (σ : Me) (a i : Nat) (v : Int64) : mr (setL σ a i v) = mr σ := rfl
theorem mz_setL (σ : Me) (a i : Nat) (v : Int64) : mz (setL σ a i v) = mz σ := rfl
theorem mn_setL (σ : Me) (a i : Nat) (v : Int64) : mn (setL σ a i v) = mn σ := rfl
theorem mk_setR (σ : Me) (a i : Nat) (v : Option Nat) : mk (setR σ a i v) = mk σ := rfl
theorem mi_setR (σ : Me) (a i : Nat) (v : Option Nat) : mi (setR σ a i v) = mi σ := rfl
theorem ml_setR (σ : Me) (a i : Nat) (v : Option Nat) : ml (setR σ a i v) = ml σ := rfl
theorem mr_setR (σ : Me) (a i : Nat) (v : Option Nat) : mr (setR σ a i v) = up2 (mr σ) a i v := rfl
theorem mz_setR (σ : Me) (a i : Nat) (v : Option Nat) : mz (setR σ a i v) = mz σ := rfl
theorem mn_setR (σ : Me) (a i : Nat) (v : Option Nat) : mn (setR σ a i v) = mn σ := rfl
/-- a new cell of that kind with w slots -/
def newC (σ : Me) (k : Kn) (w : Nat) : Me := (fun a => if a = mz σ then k else mk σ a, fun a => if a = mz σ then fun _ => 0 else mi σ a, fun a => if a = mz σ then fun _ => 0 else ml σ a, fun a => if a = mz σ then fun _ => none else mr σ a, mz σ + 1, mn σ + w)
/-- values: int, long, reference -/
abbrev AV : Type := Int32 ⊕ Int64 ⊕ (Option Nat ⊕ Unit)
abbrev vI (x : Int32) : AV := .inl x
abbrev vL (x : Int64) : AV := .inr (.inl x)
abbrev vR (x : Option Nat) : AV := .inr (.inr (.inl x))
/-- a static's value of which nothing is known -/
abbrev vQ (x : Unit) : AV := .inr (.inr (.inr x))
/-- static cells have numbers from a million on -/
def ad (Ω : Om) (a : Nat) : Nat := if a < 1000000 then oB Ω + a else if a < 1000006 then oA Ω (a - 1000000) else if a = 1000006 then (oX Ω).1 else if a < 1000040 then oK Ω (a - 1000020) else oV Ω (a - 1000040)
def rv (Ω : Om) (r : Option Nat) : Value := va_rf (r.map (ad Ω))
def tv (Ω : Om) : AV → Value
  | .inl x => .int x
  | .inr (.inl x) => .long x
  | .inr (.inr (.inl r)) => rv Ω r
  | .inr (.inr (.inr _)) => va_rf (oQ Ω)
def isL : AV → Bool
  | .inr (.inl _) => true
  | _ => false
theorem rv_cat (Ω : Om) (r : Option Nat) : (rv Ω r).category = 1 := by cases r <;> rfl
theorem tv_cat (Ω : Om) (v : AV) : (tv Ω v).category = if isL v then 2 else 1 := by
  rcases v with x | x | r | q
  · rfl
  · rfl
  · exact rv_cat Ω r
  · show (va_rf (oQ Ω)).category = 1
    cases oQ Ω <;> rfl
def fval (ty : FieldType) (i : Int32) (g : Int64) (r : Value) : Value := match ty with
  | .long => .long g
  | .object _ => r
  | .array _ => r
  | _ => .int i
def acon (ty : FieldType) (f : Nat → Int32) (g : Nat → Int64) (r : Nat → Option Nat) : (Nat → Int32) ⊕ (Nat → Int64) ⊕ (Nat → UInt32) ⊕ (Nat → UInt64) ⊕ (Nat → Option Nat) := match ty with
  | .long => .inr (.inl g)
  | .object _ => .inr (.inr (.inr (.inr r)))
  | .array _ => .inr (.inr (.inr (.inr r)))
  | _ => .inl f
def fls (Ω : Om) (c : Nat) (f : Nat → Int32) (g : Nat → Int64) (r : Nat → Option Nat) : List Value := (List.range (nfl c)).map (fun j => fval (fty c j) (f j) (g j) (rv Ω (r j)))
def En (Ω : Om) (σ : Me) (a : Nat) : va_E := match mk σ a with
  | .inl c => .inr (c, fls Ω c (mi σ a) (ml σ a) (mr σ a))
  | .inr q => .inl (oC Ω q.1, q.2, acon q.1 (mi σ a) (ml σ a) (fun j => (mr σ a j).map (ad Ω)))
def wsM (Ω : Om) (σ : Me) : va_W := (List.range (mz σ)).map (fun a => (oB Ω + a, En Ω σ a))
abbrev oF (Ω : Om) : Nat → Prop := fun q => oB Ω ≤ q
def tysM (Ω : Om) : List (ClassId × FieldType) := [(oC Ω .int, .int), (oC Ω .byte, .byte), (oC Ω .boolean, .boolean), (oC Ω .long, .long), (oC Ω (.object "RainOwed$Law"), .object "RainOwed$Law"), (oC Ω (.object "RainOwed$Plan"), .object "RainOwed$Plan")]
def sNm : Nat → String := fun i => match i with
  | 0 => "RULES_WITHOUT"
  | 1 => "ITEMS_WITHOUT"
  | 2 => "LEAST_RULES"
  | 3 => "MOST_RULES"
  | 4 => "LEAST_ITEMS"
  | _ => "MOST_ITEMS"
def sLs : Nat → List Int32 := fun i => match i with
  | 0 => [1, 30, 2]
  | 1 => [0, 6, 5, 3, 20]
  | 2 => [0, 1, 0]
  | 3 => [9, 99, 30]
  | 4 => [0, 0, 0, 0, 0]
  | _ => [99, 20, 30, 9, 99]
def kOw : Nat → String × Nat × String := fun i => match i with
  | 0 => ("RainOwed$PlainReader", 67, "idp")
  | 1 => ("RainOwed$PlainReader", 79, "onwvc")
  | 2 => ("RainOwed$LawReader", 88, "onwvst")
  | 3 => ("RainOwed$PlanReader", 50, "ymhk")
  | 4 => ("RainOwedModel", 26, "y")
  | 5 => ("RainOwedModel", 32, "onwvst")
  | 6 => ("RainOwedModel", 252, "idp")
  | 7 => ("RainOwedModel", 258, "onwvc")
  | _ => ("RainOwedModel", 263, "ymhk")
def kLn : List Nat := [3, 5, 6, 4, 1, 6, 3, 5, 4]
def kBy : List (List Int32) := [[105, 100, 112], [111, 110, 119, 118, 99], [111, 110, 119, 118, 115, 116], [121, 109, 104, 107], [121], [111, 110, 119, 118, 115, 116], [105, 100, 112], [111, 110, 119, 118, 99], [121, 109, 104, 107]]
def nLk : List (String × Nat × MethodName × String) := [("RainOwed", 9, ⟨"RainOwed$Tape", "<init>", "()V"⟩, "RainOwed"), ("RainOwed$PlainReader", 20, ⟨"RainOwed$Land", "<init>", "()V"⟩, "RainOwed"), ("RainOwed", 57, ⟨"RainOwed$Land", "<init>", "()V"⟩, "RainOwed"), ("RainOwed", 67, ⟨"RainOwed$Sky", "<init>", "()V"⟩, "RainOwed"), ("RainOwed", 74, ⟨"RainOwed$Chronicle", "<init>", "()V"⟩, "RainOwed"), ("RainOwed", 81, ⟨"RainOwed$Past", "<init>", "()V"⟩, "RainOwed"), ("RainOwed$Past", 20, ⟨"RainOwed$Chronicle", "<init>", "()V"⟩, "RainOwed"), ("RainOwed", 88, ⟨"RainOwed$Facts", "<init>", "()V"⟩, "RainOwed"), ("RainOwed$Sky", 90, ⟨"RainOwed", "held", "(III)I"⟩, "RainOwed"), ("RainOwed$Land", 59, ⟨"RainOwed", "isSomeAtOnce", "(I)Z"⟩, "RainOwed")]
/-- what nobody writes: static arrays, the script, strings -/
def Stat (Ω : Om) (U : State) (H : Heap) : Prop :=
  (∀ i, i < 6 → va_Z "RainOwed$PlainReader" (sNm i) "[I" (.ref (oA Ω i)) (oF Ω) U H ∧ va_T .int (oA Ω i) (sLs i).length (fun j => .int ((sLs i).getD j 0)) (oF Ω) U H) ∧
  va_T .int (oX Ω).1 (oX Ω).2.1 (fun j => .int ((oX Ω).2.2 j)) (oF Ω) U H ∧
  (∀ i, i < 9 → vk_R (kOw i).1 (kOw i).2.1 (kOw i).2.2 (oK Ω i) U) ∧ (∀ i, i < 9 → vk_S 1 [kLn.getD i 0] [kBy.getD i []] (fun _ => oK Ω i) (fun _ => oV Ω i) (oF Ω) U H) ∧
  va_Z "java/lang/String" "COMPACT_STRINGS" "Z" (.int 1) (oF Ω) U H ∧
  (∀ q ∈ nLk, va_Nw (.methodLinkNest q.1 q.2.1 q.2.2.1 q.2.2.2) U) ∧ va_AO "RainOwed$Law" U ∧ va_AO "RainOwed$Plan" U ∧
  va_Z "jdk/internal/util/Preconditions" "SIOOBE_FORMATTER" "Ljava/util/function/BiFunction;" (va_rf (oQ Ω)) (oF Ω) U H ∧ va_Nw (.castable "[I" "java/lang/Cloneable") U
theorem Stat.go {Ω : Om} {s U : State} {H H1 : Heap} (hW : s.WarmedH U.vm) (hq : ∀ a : Nat, a < H.size → ¬ oF Ω a → H1[a]? = H[a]?) (h : Stat Ω s H) : Stat Ω U H1 :=
  ⟨fun i hi => ⟨((h.1 i hi).1.kept hq).moved hW.alike, ((h.1 i hi).2.kept hq).moved hW.alike⟩, (h.2.1.kept hq).moved hW.alike, fun i hi => (h.2.2.1 i hi).warm hW, fun i hi => ((h.2.2.2.1 i hi).kept hq).moved hW.alike, (h.2.2.2.2.1.kept hq).moved hW.alike, fun q hm => (h.2.2.2.2.2.1 q hm).warmM hW, h.2.2.2.2.2.2.1.moved hW.alike, h.2.2.2.2.2.2.2.1.moved hW.alike, (h.2.2.2.2.2.2.2.2.1.kept hq).moved hW.alike, h.2.2.2.2.2.2.2.2.2.warmC hW⟩
theorem Stat.same {Ω : Om} {u U : State} {H : Heap} (hv : U.vm = u.vm) (h : Stat Ω u H) : Stat Ω U H := by
  have ha : u.vm.Alike U.vm := by rw [hv]; exact Vm.Alike.refl _
  exact ⟨fun i hi => ⟨(h.1 i hi).1.moved ha, (h.1 i hi).2.moved ha⟩, h.2.1.moved ha, fun i hi => (h.2.2.1 i hi).same hv, fun i hi => (h.2.2.2.1 i hi).moved ha, h.2.2.2.2.1.moved ha, fun q hm => (h.2.2.2.2.2.1 q hm).same rfl hv.symm, h.2.2.2.2.2.2.1.moved ha, h.2.2.2.2.2.2.2.1.moved ha, h.2.2.2.2.2.2.2.2.1.moved ha, h.2.2.2.2.2.2.2.2.2.same rfl hv.symm⟩
theorem Stat.co {Ω : Om} {U : State} {H : Heap} (h : Stat Ω U H) (i : Nat) (hi : i < 9) : va_OF "java/lang/String" "coder" "B" (.int 0) (oK Ω i) (oF Ω) U H := ((h.2.2.2.1 i hi).1 0 (by decide)).2.1
theorem Stat.vl {Ω : Om} {U : State} {H : Heap} (h : Stat Ω U H) (i : Nat) (hi : i < 9) : va_OF "java/lang/String" "value" "[B" (.ref (oV Ω i)) (oK Ω i) (oF Ω) U H := ((h.2.2.2.1 i hi).1 0 (by decide)).2.2.1
theorem Stat.by_ {Ω : Om} {U : State} {H : Heap} (h : Stat Ω U H) (i : Nat) (hi : i < 9) : va_T .byte (oV Ω i) (kLn.getD i 0) (fun j => .int ((kBy.getD i []).getD j 0)) (oF Ω) U H := ((h.2.2.2.1 i hi).1 0 (by decide)).2.2.2
theorem Stat.rc {Ω : Om} {s : State} {H : Heap} {locs : List Loc} (h : Stat Ω s s.heap) (i : Nat) (hi : i < 9) (hS : va_S (oF Ω) s.heap H locs) : ∃ cell : Cell, H[oK Ω i]? = some cell ∧ cell.vm.isStatics = false ∧ s.vm.findClass "java/lang/String" = some cell.cls := vk_recv (i := 0) (h.2.2.2.1 i hi) (by decide) hS
/-- a method's own numbers: machine, room, its start, its frame, its code, its end -/
abbrev Ga : Type := Program × Env × Room × State × MethodId × Array Value × List Frame × Method × Code × (State → Prop)
abbrev gP (Γ : Ga) : Program := Γ.1
abbrev gE (Γ : Ga) : Env := Γ.2.1
abbrev gR (Γ : Ga) : Room := Γ.2.2.1
abbrev gS (Γ : Ga) : State := Γ.2.2.2.1
abbrev gM (Γ : Ga) : MethodId := Γ.2.2.2.2.1
abbrev gA (Γ : Ga) : Array Value := Γ.2.2.2.2.2.1
abbrev gB (Γ : Ga) : List Frame := Γ.2.2.2.2.2.2.1
abbrev gH (Γ : Ga) : Method := Γ.2.2.2.2.2.2.2.1
abbrev gC (Γ : Ga) : Code := Γ.2.2.2.2.2.2.2.2.1
abbrev gQ (Γ : Ga) : State → Prop := Γ.2.2.2.2.2.2.2.2.2
abbrev Lv : Type := List (Nat × AV)
def lvm (Ω : Om) (lv : Lv) : List (Nat × Value) := lv.map (fun q => (q.1, tv Ω q.2))
/-- how the machine stands to the memory -/
def Hy (Ω : Om) (Γ : Ga) (nL : Nat) (lv : Lv) (σ : Me) (ls : Array Slot) (H : Heap) (locs : List Loc) : Prop :=
  lv_has ls nL (lvm Ω lv) ∧ va_P (oD Ω) classes (wsM Ω σ) H ∧ H.size = oB Ω + mz σ ∧ va_S (oF Ω) (gS Γ).heap H locs
abbrev WW (Ω : Om) (Γ : Ga) (H : Heap) (locs : List Loc) (c s : Nat) (f : JFrame) : Prop := W (gP Γ) (oL Ω) (gE Γ) (gR Γ) (gS Γ) (gM Γ) (gA Γ) (gB Γ) (gH Γ) (gC Γ) H locs c s (gQ Γ) f
def AW (Ω : Om) (Γ : Ga) (nL pc : Nat) (lv : Lv) (st : List AV) (σ : Me) (c s : Nat) : Prop :=
  ∀ (ls : Array Slot) (H : Heap) (locs : List Loc), Hy Ω Γ nL lv σ ls H locs → WW Ω Γ H locs c s (F0 (gM Γ) pc ls (st.map (tv Ω)))
def Good (Ω : Om) (Γ : Ga) (y : Mt) (d mc ms : Nat) : Prop :=
  (gP Γ).tables.exec = Jvm.exec ∧ (gC Γ).code = y.2.1 ∧ (gC Γ).maxLocals = y.2.2.1 ∧ (gS Γ).vm.findClass y.1.cls = some (gM Γ).cls ∧ (∀ w ∈ T0, w.before (gA Γ) (gS Γ) = true) ∧ va_K (oD Ω) classes (tysM Ω) (gS Γ) ∧ Stat Ω (gS Γ) (gS Γ).heap ∧
  (d ≤ (gR Γ).frames ∧ 64 * d ≤ (gR Γ).locals ∧ (gR Γ).cells = mc ∧ (gR Γ).slots = ms) ∧ (gH Γ).sig.returnType = y.2.2.2 ∧ (gH Γ).locks = false ∧ (y.1.name = "<init>" → (gH Γ).name = "<init>") ∧ oB Ω ≤ (gS Γ).heap.size
def QcM (Ω : Om) (r : Option AV) (σ : Me) : Array Value → State → Outcome → State → Prop := fun _ st o t => o = .returned (r.map (tv Ω)) ∧ va_P (oD Ω) classes (wsM Ω σ) t.heap ∧ t.heap.size = oB Ω + mz σ ∧ va_F (oF Ω) st t
def Ends (Ω : Om) (Γ : Ga) (mc ms : Nat) (r : Option AV) (σ : Me) : Prop := gQ Γ = MQ (gB Γ) (QcM Ω r σ) (gA Γ) (gS Γ) mc ms (oF Ω) ∨ r = some (vQ ())
def rmD (d mc ms : Nat) : Room := { frames := d, cells := mc, slots := ms, locals := 64 * d }
def Wd (Ω : Om) (σ : Me) (U : State) : Prop := va_P (oD Ω) classes (wsM Ω σ) U.heap ∧ U.heap.size = oB Ω + mz σ ∧ va_K (oD Ω) classes (tysM Ω) U ∧ Stat Ω U U.heap
/-- called with these values in this world the method returns r and leaves that one -/
def Spec (Ω : Om) (y : Mt) (d mc ms : Nat) (as : List AV) (σ : Me) (r : Option AV) (σ' : Me) : Prop :=
  Met (oL Ω) y.1 (Cond.code y.1 y.2.1 y.2.2.1 y.2.2.2 :: T0) (rmD d mc ms) (va_Pc (as.map (tv Ω)) (Wd Ω σ)) (QcM Ω r σ') mc ms (oF Ω)
/-- if the function ends so, the machine comes there -/
def Sim {ρ : Type} (Ω : Om) (Γ : Ga) (mc ms : Nat) (ι : ρ → Option AV) (nL pc : Nat) (lv : Lv) (st : List AV) (σ : Me) (c s : Nat) (o : Option (ρ × Me)) : Prop :=
  ∀ (r : ρ) (σ' : Me), o = some (r, σ') → Ends Ω Γ mc ms (ι r) σ' → AW Ω Γ nL pc lv st σ c s
/-- what a method's function says of the method -/
def Cor {ρ : Type} (Ω : Om) (y : Mt) (d mc ms : Nat) (as : List AV) (σ : Me) (ι : ρ → Option AV) (o : Option (ρ × Me)) : Prop :=
  ∀ (r : ρ) (σ' : Me), o = some (r, σ') → Spec Ω y d mc ms as σ (ι r) σ'
def lva : Nat → List AV → Lv
  | _, [] => []
  | i, v :: vs => (i, v) :: lva (if isL v then i + 2 else i + 1) vs
def wdt : List AV → Nat
  | [] => 0
  | v :: vs => (if isL v then 2 else 1) + wdt vs
theorem lva_args (Ω : Om) : ∀ (as : List AV) (i : Nat), lv_args i (as.map (tv Ω)) = lvm Ω (lva i as)
  | [], _ => rfl
  | v :: vs, i => by
    show (i, tv Ω v) :: lv_args (if (tv Ω v).category = 2 then i + 2 else i + 1) (vs.map (tv Ω)) = (i, tv Ω v) :: lvm Ω (lva (if isL v then i + 2 else i + 1) vs)
    rw [lva_args Ω vs, tv_cat]
    cases isL v <;> rfl
theorem lva_len (Ω : Om) : ∀ (as : List AV), (lg_sl (as.map (tv Ω))).length = wdt as
  | [] => rfl
  | v :: vs => by
    have ih := lva_len Ω vs
    unfold lg_sl at ih ⊢
    simp only [List.map_cons, List.flatMap_cons, List.length_append, ih, wdt, tv_cat]
    cases isL v <;> rfl
theorem met_ofW {l : Launch} {y : MethodName} {ws ws' : List Cond} {rm : Room} {Pc : Array Value → State → Prop} {Qc : Array Value → State → Outcome → State → Prop} {mc ms : Nat} {free : Addr → Prop} {cc : ByteArray} {maxL : Nat} {ret : Option FieldType}
    (hy : plainFor y = true) (hw : ws = Cond.code y cc maxL ret :: ws')
    (body : ∀ p e s m args below meth c s₁, BodyLoose p l y (headSpec ws rm) cc maxL ret e s m args below meth c s₁ → c.maxLocals = maxL → Pc args s →
      W p l e (headSpec ws rm).room s m args below meth c s.heap [] 0 0 (MQ below Qc args s mc ms free) (entryFrame m args maxL)) : Met l y ws rm Pc Qc mc ms free := by
  refine MetFree.of_bodySF (code := cc) (maxLocals := maxL) (ret := ret) hy ?_ ?_
  · intro args s m h hn
    obtain ⟨meth, c, h1, h2, h3, h4, h5, h6, -, -⟩ := Cond.code_spec hn (atoms_spec (ws := ws) h _ (by rw [hw]; exact List.mem_cons_self))
    exact ⟨meth, c, h1, h2, h3, h4, h5, h6⟩
  · intro p e s m args below meth c s₁ B hml hP _
    obtain ⟨t, a1, o, b1, b2, b3⟩ := body p e s m args below meth c s₁ B hml hP s₁ (by rw [B.state]; rfl) (Stand.of_body B)
    exact ⟨t, o, a1, b1, b2, ⟨b3.1, b3.2⟩⟩
theorem Cor.of {ρ : Type} {Ω : Om} {y : Mt} {d mc ms : Nat} {as : List AV} {σ : Me} {ι : ρ → Option AV} {o : Option (ρ × Me)} (hn : plainFor y.1 = true) (ha : wdt as ≤ y.2.2.1)
    (k : ∀ Γ : Ga, Good Ω Γ y d mc ms → Sim Ω Γ mc ms ι y.2.2.1 0 (lva 0 as) [] σ 0 0 o) : Cor Ω y d mc ms as σ ι o := by
  intro r σ' ho
  refine met_ofW (cc := y.2.1) (maxL := y.2.2.1) (ret := y.2.2.2) hn rfl ?_
  intro p e s m args below meth c s₁ B hml hv
  obtain ⟨rfl, hP, hz, hK, hSt⟩ := hv
  have hts := atoms_spec (ws := Cond.code y.1 y.2.1 y.2.2.1 y.2.2.2 :: T0) B.pre
  have hl := lv_entry (as.map (tv Ω)) (n := y.2.2.1) (by rw [lva_len]; exact ha)
  rw [lva_args] at hl
  rw [lg_entry_eq]
  exact k (p, e, (headSpec (Cond.code y.1 y.2.1 y.2.2.1 y.2.2.2 :: T0) (rmD d mc ms)).room, s, m, (as.map (tv Ω)).toArray, below, meth, c, MQ below (QcM Ω (ι r) σ') (as.map (tv Ω)).toArray s mc ms (oF Ω))
    ⟨B.exec, B.bytes, hml, findClass_of_methodNamed B.named, fun w hw => hts w (List.mem_cons_of_mem _ hw), hK, hSt, ⟨Nat.le_refl _, Nat.le_refl _, rfl, rfl⟩, B.returns, B.notSynchronized, fun h => (name_of_methodNamed B.named B.method).1.trans h, by rw [hz]; exact Nat.le_add_right _ _⟩ r σ' ho (.inl rfl) _ _ _ ⟨hl, hP, hz, va_S.rf⟩
def lvg : Lv → Nat → Option AV
  | [], _ => none
  | q :: r, i => if q.1 = i then some q.2 else lvg r i
theorem lvg_mem : ∀ {l : Lv} {i : Nat} {v : AV}, lvg l i = some v → (i, v) ∈ l
  | [], i, v, h => by simp [lvg] at h
  | q :: r, i, v, h => by
    unfold lvg at h
    split at h
    · rename_i e
      cases h
      rw [← e]
      exact List.mem_cons_self
    · exact List.mem_cons_of_mem _ (lvg_mem h)
theorem lvg_at {Ω : Om} {ls : Array Slot} {nL : Nat} {l : Lv} (h : lv_has ls nL (lvm Ω l)) {i : Nat} {v : AV} (hk : lvg l i = some v) : ls[i]? = some (.val (tv Ω v)) := h.2.2 (i, tv Ω v) (List.mem_map.mpr ⟨(i, v), lvg_mem hk, rfl⟩)
theorem lvg_pos {Ω : Om} {l : Lv} {i : Nat} {v : AV} (h : lvg l i = some v) : ∃ k : Nat, (lvm Ω l)[k]? = some (i, tv Ω v) := List.getElem?_of_mem (List.mem_map.mpr ⟨(i, v), lvg_mem h, rfl⟩)
def lvs (i : Nat) (v : AV) (l : Lv) : Lv := (i, v) :: l.filter (fun q => !(q.1 == i) && (!(isL v && q.1 == i + 1) && !(q.1 + 1 == i && isL q.2)))
theorem lvs_1 {Ω : Om} {i : Nat} {v : AV} {l : Lv} (hv : isL v = false) : (i, tv Ω v) :: (lvm Ω l).filter (fun q => !(q.1 == i) && !(q.1 + 1 == i && q.2.category == 2)) = lvm Ω (lvs i v l) := by
  unfold lvm lvs
  rw [List.filter_map, List.map_cons]
  congr 3
  funext q
  simp only [Function.comp, hv, tv_cat, Bool.false_and, Bool.not_false, Bool.true_and]
  cases isL q.2 <;> simp
theorem lvs_2 {Ω : Om} {i : Nat} {v : AV} {l : Lv} (hv : isL v = true) : (i, tv Ω v) :: (lvm Ω l).filter (fun q => !(q.1 == i) && (!(q.1 == i + 1) && !(q.1 + 1 == i && q.2.category == 2))) = lvm Ω (lvs i v l) := by
  unfold lvm lvs
  rw [List.filter_map, List.map_cons]
  congr 3
  funext q
  simp only [Function.comp, hv, tv_cat, Bool.true_and]
  cases isL q.2 <;> simp
def lvall : Lv → Lv → Prop
  | [], _ => True
  | q :: r, l => lvg l q.1 = some q.2 ∧ lvall r l
theorem lvall_has {Ω : Om} {ls : Array Slot} {nL : Nat} {l : Lv} (h : lv_has ls nL (lvm Ω l)) : ∀ {l' : Lv}, lvall l' l → lv_has ls nL (lvm Ω l')
  | [], _ => ⟨h.1, h.2.1, fun q hq => by simp [lvm] at hq⟩
  | q :: r, hr => ⟨h.1, h.2.1, fun z hz => by
      rcases List.mem_cons.mp hz with rfl | hz
      · exact lvg_at h hr.1
      · exact (lvall_has h hr.2).2.2 z hz⟩
/-- a cell of the program, of that kind -/
def Kd (σ : Me) (a : Nat) (k : Kn) : Prop := mk σ a = k ∧ a < mz σ ∧ a < 1000000
theorem ad_lo {Ω : Om} {a : Nat} (h : a < 1000000) : ad Ω a = oB Ω + a := by simp [ad, h]
theorem rv_lo {Ω : Om} {a : Nat} (h : a < 1000000) : rv Ω (some a) = .ref (oB Ω + a) := by simp [rv, va_rf, ad_lo h]
theorem ws_at {Ω : Om} {σ : Me} {a : Nat} (ha : a < mz σ) : (wsM Ω σ)[a]? = some (oB Ω + a, En Ω σ a) := by
  simp [wsM, ha]
theorem en_obj {Ω : Om} {σ : Me} {a ci : Nat} (hk : mk σ a = .inl ci) : En Ω σ a = .inr (ci, fls Ω ci (mi σ a) (ml σ a) (mr σ a)) := by unfold En; rw [hk]
theorem en_arr {Ω : Om} {σ : Me} {a n : Nat} {ty : FieldType} (hk : mk σ a = .inr (ty, n)) : En Ω σ a = .inl (oC Ω ty, n, acon ty (mi σ a) (ml σ a) (fun j => (mr σ a j).map (ad Ω))) := by unfold En; rw [hk]
theorem ws_obj {Ω : Om} {σ : Me} {a ci : Nat} (hk : Kd σ a (.inl ci)) : (wsM Ω σ)[a]? = some (oB Ω + a, .inr (ci, fls Ω ci (mi σ a) (ml σ a) (mr σ a))) := by
  rw [ws_at hk.2.1, en_obj hk.1]
theorem ws_arr {Ω : Om} {σ : Me} {a n : Nat} {ty : FieldType} (hk : Kd σ a (.inr (ty, n))) : (wsM Ω σ)[a]? = some (oB Ω + a, .inl (oC Ω ty, n, acon ty (mi σ a) (ml σ a) (fun j => (mr σ a j).map (ad Ω)))) := by
  rw [ws_at hk.2.1, en_arr hk.1]
theorem ws_key {Ω : Om} {σ : Me} {k : Nat} {q : Nat × va_E} (hk : (wsM Ω σ)[k]? = some q) : q = (oB Ω + k, En Ω σ k) ∧ k < mz σ := by
  unfold wsM at hk
  rw [List.getElem?_map] at hk
  cases hr : (List.range (mz σ))[k]? with
  | none => rw [hr] at hk; cases hk
  | some a =>
    rw [hr] at hk
    obtain ⟨h1, h2⟩ := List.getElem?_eq_some_iff.mp hr
    have e : a = k := by simpa using h2.symm
    subst e
    cases hk
    exact ⟨rfl, by simpa using h1⟩
theorem ws_D (Ω : Om) (σ : Me) : va_D (oF Ω) (wsM Ω σ) :=
  ⟨fun i j p q hi hj e => by
    have h1 := (ws_key hi).1
    have h2 := (ws_key hj).1
    subst h1; subst h2
    have e : oB Ω + i = oB Ω + j := e
    omega, fun k q hk => by rw [(ws_key hk).1]; exact Nat.le_add_right _ _⟩
/-- one cell is written -/
theorem ws_put {Ω : Om} {σ σ' : Me} {a : Nat} {H H1 : Heap} (hP : va_P (oD Ω) classes (wsM Ω σ) H) (hz : mz σ' = mz σ) (ho : ∀ b, b ≠ a → En Ω σ' b = En Ω σ b) (he : va_at (oD Ω) classes (oB Ω + a, En Ω σ' a) H1) (oq : ∀ q : Nat, q ≠ oB Ω + a → H1[q]? = H[q]?) : va_P (oD Ω) classes (wsM Ω σ') H1 := by
  intro k q hk
  obtain ⟨e1, e2⟩ := ws_key hk
  subst e1
  by_cases hka : k = a
  · subst hka; exact he
  · rw [ho k hka]
    exact (hP k _ (ws_at (by rw [← hz]; exact e2))).kept (oq _ (by omega))
theorem en_setI {Ω : Om} {σ : Me} {a i : Nat} {v : Int32} : ∀ b, b ≠ a → En Ω (setI σ a i v) b = En Ω σ b := fun b hb => by
  unfold En; rw [show mi (setI σ a i v) b = mi σ b from up2_ne _ i v hb]; rfl
theorem en_setL {Ω : Om} {σ : Me} {a i : Nat} {v : Int64} : ∀ b, b ≠ a → En Ω (setL σ a i v) b = En Ω σ b := fun b hb => by
  unfold En; rw [show ml (setL σ a i v) b = ml σ b from up2_ne _ i v hb]; rfl
theorem en_setR {Ω : Om} {σ : Me} {a i : Nat} {v : Option Nat} : ∀ b, b ≠ a → En Ω (setR σ a i v) b = En Ω σ b := fun b hb => by
  unfold En; rw [show mr (setR σ a i v) b = mr σ b from up2_ne _ i v hb]; rfl
theorem fls_at {Ω : Om} {c k : Nat} {f : Nat → Int32} {g : Nat → Int64} {r : Nat → Option Nat} (hk : k < nfl c) : (fls Ω c f g r)[k]? = some (fval (fty c k) (f k) (g k) (rv Ω (r k))) := by simp [fls, hk]
theorem fls_V {Ω : Om} {c k : Nat} {f : Nat → Int32} {g : Nat → Int64} {r : Nat → Option Nat} (hk : k < nfl c) : vp_V (fls Ω c f g r) k = fval (fty c k) (f k) (g k) (rv Ω (r k)) := by simp [vp_V, fls, hk]
theorem nI_cl {i : Int32} {n : Nat} (hj : ¬ i < 0) (h2 : i.toNatClampNeg < n) : vp_in i n := fun h => by
  rcases h with h | h
  · exact hj h
  · omega
