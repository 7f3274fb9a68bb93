/-! the world's fixed numbers: launch, classes, first new cell, array classes, static arrays, strings, their bytes, the script -/
abbrev Om : Type := Launch × va_G × Nat × (FieldType → ClassId) × (Nat → Nat) × (Nat → Nat) × (Nat → Nat) × (Nat × Nat × (Nat → Int32))
abbrev oL (Ω : Om) : Launch := Ω.1
abbrev oD (Ω : Om) : va_G := Ω.2.1
abbrev oB (Ω : Om) : Nat := Ω.2.2.1
abbrev oC (Ω : Om) : FieldType → ClassId := Ω.2.2.2.1
abbrev oA (Ω : Om) : Nat → Nat := Ω.2.2.2.2.1
abbrev oK (Ω : Om) : Nat → Nat := Ω.2.2.2.2.2.1
abbrev oV (Ω : Om) : Nat → Nat := Ω.2.2.2.2.2.2.1
abbrev oX (Ω : Om) : Nat × Nat × (Nat → Int32) := Ω.2.2.2.2.2.2.2
/-- kinds (class, or array type and length), longs, references, number of cells -/
abbrev Sl : Type := (Nat → Nat ⊕ (FieldType × Nat)) × (Nat → Nat → Int64) × (Nat → Nat → Option Nat) × Nat
abbrev Hp : Type := Nat → Nat → Int32
def up2 {α : Type} (h : Nat → Nat → α) (a i : Nat) (v : α) : Nat → Nat → α := fun b j => if b = a ∧ j = i then v else h b j
theorem up2_row {α : Type} (h : Nat → Nat → α) (a i : Nat) (v : α) (j : Nat) : up2 h a i v a j = if j = i then v else h a j := by simp [up2]
theorem up2_ne {α : Type} (h : Nat → Nat → α) {a b : Nat} (i : Nat) (v : α) (hb : b ≠ a) : up2 h a i v b = h b := by funext j; simp [up2, hb]
theorem up2_self {α : Type} (h : Nat → Nat → α) (a i : Nat) (v : α) : up2 h a i v a i = v := by simp [up2]
theorem up2_far {α : Type} (h : Nat → Nat → α) {a b i j : Nat} (v : α) (hb : ¬ (b = a ∧ j = i)) : up2 h a i v b j = h b j := by simp [up2, hb]
def fval (ty : FieldType) (i : Int32) (g : Int64) (r : Option Nat) : Value := match ty with
  | .long => .long g
  | .object _ => va_rf r
  | .array _ => va_rf r
  | _ => .int i
def acon (ty : FieldType) (f : Nat → Int32) (g : Nat → Int64) (r : Nat → Option Nat) : (Nat → Int32) ⊕ (Nat → Int64) ⊕ (Nat → UInt32) ⊕ (Nat → UInt64) ⊕ (Nat → Option Nat) := match ty with
  | .long => .inr (.inl g)
  | .object _ => .inr (.inr (.inr (.inr r)))
  | .array _ => .inr (.inr (.inr (.inr r)))
  | _ => .inl f
def fls (c : Nat) (f : Nat → Int32) (g : Nat → Int64) (r : Nat → Option Nat) : List Value := (List.range (nfl c)).map (fun j => fval (fty c j) (f j) (g j) (r j))
def En (Ω : Om) (S : Sl) (h : Hp) (a : Nat) : va_E := match S.1 a with
  | .inl c => .inr (c, fls c (h a) (S.2.1 a) (S.2.2.1 a))
  | .inr q => .inl (oC Ω q.1, q.2, acon q.1 (h a) (S.2.1 a) (S.2.2.1 a))
def wsM (Ω : Om) (S : Sl) (h : Hp) : va_W := (List.range S.2.2.2).map (fun a => (oB Ω + a, En Ω S h a))
abbrev oF (Ω : Om) : Nat → Prop := fun q => oB Ω ≤ q
def tysM (Ω : Om) : List (ClassId × FieldType) := [(oC Ω .int, .int), (oC Ω .byte, .byte), (oC Ω .boolean, .boolean), (oC Ω .long, .long), (oC Ω (.object "RainOwed$Law"), .object "RainOwed$Law"), (oC Ω (.object "RainOwed$Plan"), .object "RainOwed$Plan")]
def sNm : Nat → String := fun i => match i with
  | 0 => "RULES_WITHOUT"
  | 1 => "ITEMS_WITHOUT"
  | 2 => "LEAST_RULES"
  | 3 => "MOST_RULES"
  | 4 => "LEAST_ITEMS"
  | _ => "MOST_ITEMS"
def sLs : Nat → List Int32 := fun i => match i with
  | 0 => [1, 30, 2]
  | 1 => [0, 6, 5, 3, 20]
  | 2 => [0, 1, 0]
  | 3 => [9, 99, 30]
  | 4 => [0, 0, 0, 0, 0]
  | _ => [99, 20, 30, 9, 99]
def kOw : Nat → String × Nat × String := fun i => match i with
  | 0 => ("RainOwed$PlainReader", 67, "idp")
  | 1 => ("RainOwed$PlainReader", 79, "onwvc")
  | 2 => ("RainOwed$LawReader", 88, "onwvst")
  | 3 => ("RainOwed$PlanReader", 50, "ymhk")
  | 4 => ("RainOwedModel", 26, "y")
  | 5 => ("RainOwedModel", 32, "onwvst")
  | 6 => ("RainOwedModel", 252, "idp")
  | 7 => ("RainOwedModel", 258, "onwvc")
  | _ => ("RainOwedModel", 263, "ymhk")
def kLn : List Nat := [3, 5, 6, 4, 1, 6, 3, 5, 4]
def kBy : List (List Int32) := [[105, 100, 112], [111, 110, 119, 118, 99], [111, 110, 119, 118, 115, 116], [121, 109, 104, 107], [121], [111, 110, 119, 118, 115, 116], [105, 100, 112], [111, 110, 119, 118, 99], [121, 109, 104, 107]]
def nLk : List (String × Nat × MethodName × String) := [("RainOwed", 9, ⟨"RainOwed$Tape", "<init>", "()V"⟩, "RainOwed"), ("RainOwed$PlainReader", 20, ⟨"RainOwed$Land", "<init>", "()V"⟩, "RainOwed"), ("RainOwed", 57, ⟨"RainOwed$Land", "<init>", "()V"⟩, "RainOwed"), ("RainOwed", 67, ⟨"RainOwed$Sky", "<init>", "()V"⟩, "RainOwed"), ("RainOwed", 74, ⟨"RainOwed$Chronicle", "<init>", "()V"⟩, "RainOwed"), ("RainOwed", 81, ⟨"RainOwed$Past", "<init>", "()V"⟩, "RainOwed"), ("RainOwed$Past", 20, ⟨"RainOwed$Chronicle", "<init>", "()V"⟩, "RainOwed"), ("RainOwed", 88, ⟨"RainOwed$Facts", "<init>", "()V"⟩, "RainOwed"), ("RainOwed$Sky", 90, ⟨"RainOwed", "held", "(III)I"⟩, "RainOwed"), ("RainOwed$Land", 59, ⟨"RainOwed", "isSomeAtOnce", "(I)Z"⟩, "RainOwed")]
/-- what nobody writes: static arrays, the script, strings -/
def Stat (Ω : Om) (U : State) (H : Heap) : Prop :=
  (∀ i, i < 6 → va_Z "RainOwed$PlainReader" (sNm i) "[I" (.ref (oA Ω i)) (oF Ω) U H ∧ va_T .int (oA Ω i) (sLs i).length (fun j => .int ((sLs i).getD j 0)) (oF Ω) U H) ∧
  va_T .int (oX Ω).1 (oX Ω).2.1 (fun j => .int ((oX Ω).2.2 j)) (oF Ω) U H ∧
  (∀ i, i < 9 → vk_R (kOw i).1 (kOw i).2.1 (kOw i).2.2 (oK Ω i) U) ∧ vk_S 9 kLn kBy (oK Ω) (oV Ω) (oF Ω) U H ∧
  va_Z "java/lang/String" "COMPACT_STRINGS" "Z" (.int 1) (oF Ω) U H ∧
  (∀ q ∈ nLk, va_Nw (.methodLinkNest q.1 q.2.1 q.2.2.1 q.2.2.2) U)
theorem Stat.go {Ω : Om} {s U : State} {H H1 : Heap} (hW : s.WarmedH U.vm) (hq : ∀ a : Nat, a < H.size → ¬ oF Ω a → H1[a]? = H[a]?) (h : Stat Ω s H) : Stat Ω U H1 :=
  ⟨fun i hi => ⟨((h.1 i hi).1.kept hq).moved hW.alike, ((h.1 i hi).2.kept hq).moved hW.alike⟩, (h.2.1.kept hq).moved hW.alike, fun i hi => (h.2.2.1 i hi).warm hW, (h.2.2.2.1.kept hq).moved hW.alike, (h.2.2.2.2.1.kept hq).moved hW.alike, fun q hm => (h.2.2.2.2.2 q hm).warmM hW⟩
theorem Stat.same {Ω : Om} {u U : State} {H : Heap} (hv : U.vm = u.vm) (h : Stat Ω u H) : Stat Ω U H := by
  have ha : u.vm.Alike U.vm := by rw [hv]; exact Vm.Alike.refl _
  exact ⟨fun i hi => ⟨(h.1 i hi).1.moved ha, (h.1 i hi).2.moved ha⟩, h.2.1.moved ha, fun i hi => (h.2.2.1 i hi).same hv, h.2.2.2.1.moved ha, h.2.2.2.2.1.moved ha, fun q hm => (h.2.2.2.2.2 q hm).same rfl hv.symm⟩
/-- a method's own numbers: machine, room, its start, its frame, its code, its end -/
abbrev Ga : Type := Program × Env × Room × State × MethodId × Array Value × List Frame × Method × Code × (State → Prop)
abbrev gP (Γ : Ga) : Program := Γ.1
abbrev gE (Γ : Ga) : Env := Γ.2.1
abbrev gR (Γ : Ga) : Room := Γ.2.2.1
abbrev gS (Γ : Ga) : State := Γ.2.2.2.1
abbrev gM (Γ : Ga) : MethodId := Γ.2.2.2.2.1
abbrev gA (Γ : Ga) : Array Value := Γ.2.2.2.2.2.1
abbrev gB (Γ : Ga) : List Frame := Γ.2.2.2.2.2.2.1
abbrev gH (Γ : Ga) : Method := Γ.2.2.2.2.2.2.2.1
abbrev gC (Γ : Ga) : Code := Γ.2.2.2.2.2.2.2.2.1
abbrev gQ (Γ : Ga) : State → Prop := Γ.2.2.2.2.2.2.2.2.2
def AW (Ω : Om) (Γ : Ga) (nL pc : Nat) (lv : List (Nat × Value)) (st : List Value) (S : Sl) (h : Hp) (cells slots : Nat) : Prop :=
  ∀ (ls : Array Slot) (H : Heap) (locs : List Loc), lv_has ls nL lv → va_P (oD Ω) classes (wsM Ω S h) H → (H.size = oB Ω + S.2.2.2 ∧ (gS Γ).heap.size + cells = oB Ω + S.2.2.2) → va_S (oF Ω) (gS Γ).heap H locs → W (gP Γ) (oL Ω) (gE Γ) (gR Γ) (gS Γ) (gM Γ) (gA Γ) (gB Γ) (gH Γ) (gC Γ) H locs cells slots (gQ Γ) (F0 (gM Γ) pc ls st)
def Good (Ω : Om) (Γ : Ga) (y : Mt) (d mc ms : Nat) : Prop :=
  (gP Γ).tables.exec = Jvm.exec ∧ (gC Γ).code = y.2.1 ∧ (gC Γ).maxLocals = y.2.2.1 ∧ (gS Γ).vm.findClass y.1.cls = some (gM Γ).cls ∧ (∀ w ∈ T0, w.before (gA Γ) (gS Γ) = true) ∧ va_K (oD Ω) classes (tysM Ω) (gS Γ) ∧ Stat Ω (gS Γ) (gS Γ).heap ∧
  (d ≤ (gR Γ).frames ∧ 64 * d ≤ (gR Γ).locals ∧ (gR Γ).cells = mc ∧ (gR Γ).slots = ms) ∧ (gH Γ).sig.returnType = y.2.2.2 ∧ (gH Γ).locks = false ∧ (gH Γ).name = y.1.name ∧ oB Ω ≤ (gS Γ).heap.size
def QcM (Ω : Om) (r : Option Value) (S : Sl) (h : Hp) : Array Value → State → Outcome → State → Prop := fun _ st o t => o = .returned r ∧ va_P (oD Ω) classes (wsM Ω S h) t.heap ∧ t.heap.size = oB Ω + S.2.2.2 ∧ va_F (oF Ω) st t
def Ends (Ω : Om) (Γ : Ga) (mc ms : Nat) (r : Option Value) (S : Sl) (h : Hp) : Prop := gQ Γ = MQ (gB Γ) (QcM Ω r S h) (gA Γ) (gS Γ) mc ms (oF Ω)
def rmD (d mc ms : Nat) : Room := { frames := d, cells := mc, slots := ms, locals := 64 * d }
def Wd (Ω : Om) (S : Sl) (h : Hp) (U : State) : Prop := va_P (oD Ω) classes (wsM Ω S h) U.heap ∧ U.heap.size = oB Ω + S.2.2.2 ∧ va_K (oD Ω) classes (tysM Ω) U ∧ Stat Ω U U.heap
/-- called with these values in this world the method returns r and leaves that one -/
def Spec (Ω : Om) (y : Mt) (d mc ms : Nat) (as : List Value) (S : Sl) (h : Hp) (r : Option Value) (S' : Sl) (h' : Hp) : Prop :=
  Met (oL Ω) y.1 (Cond.code y.1 y.2.1 y.2.2.1 y.2.2.2 :: T0) (rmD d mc ms) (va_Pc as (Wd Ω S h)) (QcM Ω r S' h') mc ms (oF Ω)
theorem Spec.of {Ω : Om} {y : Mt} {d mc ms : Nat} {as : List Value} {S : Sl} {h : Hp} {r : Option Value} {S' : Sl} {h' : Hp} (hn : plainName y.1.cls = true) (ha : (lg_sl as).length ≤ y.2.2.1)
    (k : ∀ Γ : Ga, Good Ω Γ y d mc ms → Ends Ω Γ mc ms r S' h' → AW Ω Γ y.2.2.1 0 (lv_args 0 as) [] S h 0 0) : Spec Ω y d mc ms as S h r S' h' := by
  refine Met.ofW (cc := y.2.1) (maxL := y.2.2.1) (ret := y.2.2.2) hn rfl ?_
  intro p e s m args below meth c s₁ B hml hv
  obtain ⟨rfl, hP, hz, hK, hSt⟩ := hv
  have hts := atoms_spec (ws := Cond.code y.1 y.2.1 y.2.2.1 y.2.2.2 :: T0) B.pre
  have hl := lv_entry as ha
  rw [lg_entry_eq]
  exact k (p, e, (headSpec (Cond.code y.1 y.2.1 y.2.2.1 y.2.2.2 :: T0) (rmD d mc ms)).room, s, m, as.toArray, below, meth, c, MQ below (QcM Ω r S' h') as.toArray s mc ms (oF Ω))
    ⟨B.exec, B.bytes, hml, findClass_of_methodNamed B.named, fun w hw => hts w (List.mem_cons_of_mem _ hw), hK, hSt, ⟨Nat.le_refl _, Nat.le_refl _, rfl, rfl⟩, B.returns, B.notSynchronized, (name_of_methodNamed B.named B.method).1, by rw [hz]; exact Nat.le_add_right _ _⟩ rfl _ _ _ hl hP ⟨hz, hz⟩ va_S.rf
def lvg : List (Nat × Value) → Nat → Option Value
  | [], _ => none
  | q :: r, i => if q.1 = i then some q.2 else lvg r i
theorem lvg_mem : ∀ {l : List (Nat × Value)} {i : Nat} {v : Value}, lvg l i = some v → (i, v) ∈ l
  | [], i, v, h => by simp [lvg] at h
  | q :: r, i, v, h => by
    unfold lvg at h
    split at h
    · rename_i e
      cases h
      rw [← e]
      exact List.mem_cons_self
    · exact List.mem_cons_of_mem _ (lvg_mem h)
theorem lvg_at {ls : Array Slot} {nL : Nat} {l : List (Nat × Value)} (h : lv_has ls nL l) {i : Nat} {v : Value} (hk : lvg l i = some v) : ls[i]? = some (.val v) := h.2.2 (i, v) (lvg_mem hk)
def lvs1 (i : Nat) (v : Value) (l : List (Nat × Value)) : List (Nat × Value) := (i, v) :: l.filter (fun q => !(q.1 == i) && !(q.1 + 1 == i && q.2.category == 2))
def lvs2 (i : Nat) (v : Value) (l : List (Nat × Value)) : List (Nat × Value) := (i, v) :: l.filter (fun q => !(q.1 == i) && (!(q.1 == i + 1) && !(q.1 + 1 == i && q.2.category == 2)))
def lvall : List (Nat × Value) → List (Nat × Value) → Prop
  | [], _ => True
  | q :: r, l => lvg l q.1 = some q.2 ∧ lvall r l
theorem lvall_has {ls : Array Slot} {nL : Nat} {l : List (Nat × Value)} (h : lv_has ls nL l) : ∀ {l' : List (Nat × Value)}, lvall l' l → lv_has ls nL l'
  | [], _ => ⟨h.1, h.2.1, fun q hq => by simp at hq⟩
  | q :: r, hr => ⟨h.1, h.2.1, fun z hz => by
      rcases List.mem_cons.mp hz with rfl | hz
      · exact lvg_at h hr.1
      · exact (lvall_has h hr.2).2.2 z hz⟩
def Kd (S : Sl) (a : Nat) (k : Nat ⊕ (FieldType × Nat)) : Prop := S.1 a = k ∧ a < S.2.2.2
theorem ws_at {Ω : Om} {S : Sl} {h : Hp} {a : Nat} (ha : a < S.2.2.2) : (wsM Ω S h)[a]? = some (oB Ω + a, En Ω S h a) := by
  simp [wsM, ha]
theorem ws_obj {Ω : Om} {S : Sl} {h : Hp} {a ci : Nat} (hk : Kd S a (.inl ci)) : (wsM Ω S h)[a]? = some (oB Ω + a, .inr (ci, fls ci (h a) (S.2.1 a) (S.2.2.1 a))) := by
  rw [ws_at hk.2]; simp [En, hk.1]
theorem ws_arr {Ω : Om} {S : Sl} {h : Hp} {a n : Nat} {ty : FieldType} (hk : Kd S a (.inr (ty, n))) : (wsM Ω S h)[a]? = some (oB Ω + a, .inl (oC Ω ty, n, acon ty (h a) (S.2.1 a) (S.2.2.1 a))) := by
  rw [ws_at hk.2]; simp [En, hk.1]
theorem ws_D (Ω : Om) (S : Sl) (h : Hp) : va_D (oF Ω) (wsM Ω S h) := by
  have key : ∀ (k : Nat) (q : Nat × va_E), (wsM Ω S h)[k]? = some q → q.1 = oB Ω + k := by
    intro k q hk
    unfold wsM at hk
    rw [List.getElem?_map] at hk
    cases hr : (List.range S.2.2.2)[k]? with
    | none => rw [hr] at hk; cases hk
    | some a =>
      rw [hr] at hk
      have : a = k := by
        obtain ⟨h1, h2⟩ := List.getElem?_eq_some_iff.mp hr
        simpa using h2.symm
      subst this
      cases hk
      rfl
  exact ⟨fun i j p q hi hj e => by have := key i p hi; have := key j q hj; omega, fun k q hk => by rw [key k q hk]; exact Nat.le_add_right _ _⟩
theorem ws_set {Ω : Om} {S S' : Sl} {h h' : Hp} {a : Nat} (hz : S'.2.2.2 = S.2.2.2) (ho : ∀ b, b ≠ a → En Ω S' h' b = En Ω S h b) : (wsM Ω S h).set a (oB Ω + a, En Ω S' h' a) = wsM Ω S' h' := by
  apply List.ext_getElem?
  intro k
  by_cases hk : k = a
  · subst hk
    by_cases hl : k < S.2.2.2
    · rw [ws_at (by rw [hz]; exact hl)]
      rw [List.getElem?_set_self (by simp [wsM, hl])]
    · rw [List.getElem?_eq_none (by simp [wsM]; omega), List.getElem?_eq_none (by simp [wsM]; omega)]
  · rw [List.getElem?_set_ne (Ne.symm hk)]
    by_cases hl : k < S.2.2.2
    · rw [ws_at hl, ws_at (by rw [hz]; exact hl), ho k hk]
    · rw [List.getElem?_eq_none (by simp [wsM]; omega), List.getElem?_eq_none (by simp [wsM]; omega)]
theorem en_h {Ω : Om} {S : Sl} {h : Hp} {a i : Nat} {v : Int32} : ∀ b, b ≠ a → En Ω S (up2 h a i v) b = En Ω S h b := fun b hb => by
  unfold En; rw [up2_ne h i v hb]
theorem en_l {Ω : Om} {S : Sl} {h : Hp} {a i : Nat} {v : Int64} : ∀ b, b ≠ a → En Ω (S.1, up2 S.2.1 a i v, S.2.2) h b = En Ω S h b := fun b hb => by
  unfold En; show (match S.1 b with | .inl c => _ | .inr q => _) = _; simp only [up2_ne S.2.1 i v hb]
theorem en_r {Ω : Om} {S : Sl} {h : Hp} {a i : Nat} {v : Option Nat} : ∀ b, b ≠ a → En Ω (S.1, S.2.1, up2 S.2.2.1 a i v, S.2.2.2) h b = En Ω S h b := fun b hb => by
  unfold En; show (match S.1 b with | .inl c => _ | .inr q => _) = _; simp only [up2_ne S.2.2.1 i v hb]
theorem fls_at {c k : Nat} {f : Nat → Int32} {g : Nat → Int64} {r : Nat → Option Nat} (hk : k < nfl c) : (fls c f g r)[k]? = some (fval (fty c k) (f k) (g k) (r k)) := by simp [fls, hk]
theorem fls_len {c : Nat} {f : Nat → Int32} {g : Nat → Int64} {r : Nat → Option Nat} : (fls c f g r).length = nfl c := by simp [fls]
theorem fls_set {c k : Nat} {f f' : Nat → Int32} {g g' : Nat → Int64} {r r' : Nat → Option Nat} (hk : k < nfl c) (ho : ∀ j, j < nfl c → j ≠ k → fval (fty c j) (f' j) (g' j) (r' j) = fval (fty c j) (f j) (g j) (r j)) : (fls c f g r).set k (fval (fty c k) (f' k) (g' k) (r' k)) = fls c f' g' r' := by
  apply List.ext_getElem?
  intro j
  by_cases hj : j = k
  · subst hj
    rw [List.getElem?_set_self (by rw [fls_len]; exact hk), fls_at hk]
  · rw [List.getElem?_set_ne (Ne.symm hj)]
    by_cases hl : j < nfl c
    · rw [fls_at hl, fls_at hl, ho j hl hj]
    · rw [List.getElem?_eq_none (by rw [fls_len]; omega), List.getElem?_eq_none (by rw [fls_len]; omega)]
theorem sz_ge {Ω : Om} {S : Sl} {h : Hp} {H : Heap} (hP : va_P (oD Ω) classes (wsM Ω S h) H) (h0 : 0 < S.2.2.2) : oB Ω + S.2.2.2 ≤ H.size := by
  have h1 := (hP (S.2.2.2 - 1) _ (ws_at (by omega))).lt
  have h2 : oB Ω + (S.2.2.2 - 1) < H.size := h1
  omega
theorem aw_sz {Ω : Om} {Γ : Ga} {nL pc : Nat} {lv : List (Nat × Value)} {st : List Value} {S : Sl} {h : Hp} {cells slots : Nat} (k : AW Ω Γ nL pc lv st S h cells slots) (h0 : 0 < S.2.2.2) {ls : Array Slot} {H : Heap} {locs : List Loc} (h1 : lv_has ls nL lv) (hP : va_P (oD Ω) classes (wsM Ω S h) H) (h3 : (gS Γ).heap.size + cells = oB Ω + S.2.2.2) (hS : va_S (oF Ω) (gS Γ).heap H locs) : W (gP Γ) (oL Ω) (gE Γ) (gR Γ) (gS Γ) (gM Γ) (gA Γ) (gB Γ) (gH Γ) (gC Γ) H locs cells slots (gQ Γ) (F0 (gM Γ) pc ls st) := by
  intro T hT X
  have e1 := X.heapSize
  rw [hT] at e1
  have e2 := sz_ge hP h0
  exact k ls H locs h1 hP ⟨by omega, h3⟩ hS T hT X
theorem nI_cl {i : Int32} {j n : Nat} (hi : i = nI j) (hj : j < n) (hn : n < 2 ^ 31) : vp_in i n ∧ i.toNatClampNeg = j := by
  subst hi; exact ⟨vp_in_nI hj hn, nI_clamp (by omega)⟩
