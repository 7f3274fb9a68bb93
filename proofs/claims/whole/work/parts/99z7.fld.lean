/-! the law's question for a field: its throw and its catching -/
section FLA
variable {p : Program} {l : Launch} {e : Env} {R : Room} {s : State} {m : MethodId} {args : Array Value} {below : List Frame} {meth : Method} {c : Code} {H : Heap} {locs : List Loc} {cells slots : Nat} {Q : State → Prop}
theorem fd_go {Qh : Handler → Pre} {E : CtlPost} {d : Bool} {acts : List Action} {u : State} {f : JFrame} {a : Addr} {x : ExceptionTableEntry} {t : List ExceptionTableEntry} {k : ClassId} {cell : Cell} (hx : covers x f.pc = true) (h0 : x.catchType ≠ 0)
    (hl : u.vm.ClassLinks e.platform f.method.cls x.catchType k) (hcell : u.heap[a]? = some cell) (hobj : ∀ z, cell.vm ≠ .statics z) (hk : ∃ z, u.vm.classes[cell.cls]? = some z) (hc : ∃ z, u.vm.classes[k]? = some z) (hfit : u.vm.assignable cell.cls k = true) :
    wp (findHandler.go f a (x :: t)) Qh E e d acts u ↔ Qh (.found x.handlerPc) d acts (u.setVm (u.vm.noted f.method.cls x.catchType (.cls k))) := by
  simp only [covers] at hx
  obtain ⟨ha, ht⟩ := (resolveClass_links e.toSetting hl).op (op := VmOp.resolveClass f.method.cls x.catchType) rfl
  have hal : u.vm.Alike (u.vm.noted f.method.cls x.catchType (.cls k)) := (Vm.Alike.refl u.vm).noted _ _ _
  obtain ⟨k1, hk1⟩ := hk
  obtain ⟨k2, hk2⟩ := hc
  obtain ⟨k1', hk1', -⟩ := hal.2.2 _ _ hk1
  obtain ⟨k2', hk2', -⟩ := hal.2.2 _ _ hk2
  have hfit' : (u.vm.noted f.method.cls x.catchType (.cls k)).assignable cell.cls k = true := by rw [hal.assignable]; exact hfit
  simp [findHandler.go, hx, h0, ha, ht, hcell, hobj, hk1', hk2', hfit', VmOp.dirties, VmOp.acts]
theorem fd_step {u : State} {a : Addr} {f : JFrame} {r : List Frame} {pc : Nat} {vm' : Vm} (hfind : ∀ (Qh : Handler → Pre) (E : CtlPost) (d : Bool) (acts : List Action), wp (findHandler f a) Qh E e d acts u ↔ Qh (.found pc) d acts (u.setVm vm')) :
    (stepThrowing e u a (.java f :: r)).Is ((u.setVm vm').setFrames (.java { f with pc := pc, stack := [.ref a] } :: r)) [] := by
  simp only [stepThrowing, searchFrame, vmDo]
  generalize hr : Sem.go _ e false [] u = res
  obtain ⟨as, rfl, ha⟩ := Sem.eq_ok_of hr (a := Handler.found pc) (s' := u.setVm vm') (acts' := []) (by simp [hfind _ _ _ _])
  exact ⟨rfl, ha⟩
theorem fd_catch {own name E : String} {ce : Cell} {q : Addr} {pc : Nat} {ls : Array Slot} {rest : List Value} (hown : s.vm.findClass own = some m.cls) (x : ExceptionTableEntry) (htab : c.exceptionTable.toList = [x]) (hx : covers x pc = true) (h0 : x.catchType ≠ 0)
    (hlink : (Cond.classLink own x.catchType name).before args s = true) (hcast : (Cond.castable E name).before args s = true) (hcell : H[q]? = some ce) (hv : ce.vm = .none) (hcl : s.vm.findClass E = some ce.cls)
    (kk : W p l e R s m args below meth c H locs cells slots Q (F0 m x.handlerPc ls [.ref q])) : vx_W p l e R s m args below meth c H locs cells slots Q (F0 m pc ls rest) q := by
  intro T hT X
  have hpl : e.platform.magicAccessors = ({} : Platform).magicAccessors := by rw [X.admits.platform]
  obtain ⟨c3, c4, hc3, hc4, hasg⟩ := Cond.castable_spec hcast
  cases Option.some.inj (hc3.symm.trans hcl)
  obtain ⟨c5, hc5, hcl5⟩ := Cond.classLink_spec hown hlink e.platform hpl
  cases Option.some.inj (hc4.symm.trans hc5)
  obtain ⟨dk, _, _, kt, hd, _, _, _, _, hkt, _, hopen⟩ := hcl5.here
  have hW' : s.WarmedH (T.vm.noted m.cls x.catchType (.cls c4)) := X.warmed.noted hd hopen (State.rightAt_cls hcl5)
  obtain ⟨k9, h9, -⟩ := Vm.findClass_spec hcl
  obtain ⟨k9', h9', -⟩ := X.warmed.alike.2.2 _ _ h9
  obtain ⟨kt', hkt', -⟩ := X.warmed.alike.2.2 _ _ hkt
  obtain ⟨t, a1, b1⟩ := kk (T.setVm (T.vm.noted m.cls x.catchType (.cls c4))) hT (X.noted hW')
  refine ⟨t, ?_, b1⟩
  have hA : At T (F0 m pc ls rest).method c below := X.here
  obtain ⟨hgo, hw⟩ := hA.throwing q
  refine Steps.head hgo hw ?_
  have hfind : ∀ (Qh : Handler → Pre) (E : CtlPost) (d : Bool) (acts : List Action), wp (findHandler (F0 m pc ls rest) q) Qh E e d acts ((T.setTop (F0 m pc ls rest)).pushFrame (.throwing q)) ↔ Qh (.found x.handlerPc) d acts (((T.setTop (F0 m pc ls rest)).pushFrame (.throwing q)).setVm (T.vm.noted m.cls x.catchType (.cls c4))) := by
    intro Qh E d acts
    rw [Jvm.W.findHandler_eq (meth := meth) (code := c) X.method' X.code, htab]
    exact fd_go (f := F0 m pc ls rest) hx h0 (X.warmed.classLinks hcl5) (by rw [← hT] at hcell; exact hcell) (fun z h => by rw [hv] at h; cases h) ⟨k9', h9'⟩ ⟨kt', hkt'⟩ (by rw [show ((T.setTop (F0 m pc ls rest)).pushFrame (.throwing q)).vm = T.vm from rfl, X.warmed.alike.assignable]; exact hasg)
  rw [stepThread_throwing (frames_entered hA.top _), (fd_step (u := (T.setTop (F0 m pc ls rest)).pushFrame (.throwing q)) hfind).1]
  obtain ⟨g₀, hg⟩ := Option.isSome_iff_exists.mp hA.top
  obtain ⟨r, hr⟩ := State.topJava?_eq_some.mp hg
  have hr' : (T.setVm (T.vm.noted m.cls x.catchType (.cls c4))).frames = .java g₀ :: r := hr
  rw [State.setTop_of_frames _ hr'] at a1
  have e1 : ∀ (u : State) (v : Vm) (F G : List Frame), ((u.setFrames F).setVm v).setFrames G = (u.setVm v).setFrames G := fun u v F G => by
    rw [show (u.setFrames F).setVm v = (u.setVm v).setFrames F from rfl, State.setFrames_setFrames]
  rw [hr, List.tail_cons, State.pushFrame, e1, State.setTop_of_frames _ hr, e1]
  exact a1
end FLA
section FLB
abbrev eN : String := "java/util/NoSuchElementException"
abbrev iN (k : String) : MethodName := ⟨k, "<init>", "()V"⟩
/-- what a throw needs beside the world -/
def Xs (Ω : Om) (U : State) (H : Heap) : Prop := vx_Zq Bundle.tN "UNASSIGNED_STACK" Bundle.steD (oF Ω) U H ∧ vx_Zq Bundle.tN "SUPPRESSED_SENTINEL" Bundle.listD (oF Ω) U H ∧ va_Nw (.castable eN eN) U ∧ va_Nw (.declares (iN "java/lang/RuntimeException")) U ∧ va_Nw (.declares (iN "java/lang/Exception")) U ∧ va_Nw (.declares (iN "java/lang/Throwable")) U
theorem Xs.go {Ω : Om} {s U : State} {H H1 : Heap} (hW : s.WarmedH U.vm) (hq : ∀ a : Nat, a < H.size → ¬ oF Ω a → H1[a]? = H[a]?) (h : Xs Ω s H) : Xs Ω U H1 :=
  ⟨(h.1.kept hq).moved hW.alike, (h.2.1.kept hq).moved hW.alike, h.2.2.1.warmC hW, h.2.2.2.1.warmD hW, h.2.2.2.2.1.warmD hW, h.2.2.2.2.2.warmD hW⟩
theorem Xs.same {Ω : Om} {u U : State} {H : Heap} (hv : U.vm = u.vm) (h : Xs Ω u H) : Xs Ω U H := by
  have ha : u.vm.Alike U.vm := by rw [hv]; exact Vm.Alike.refl _
  exact ⟨h.1.moved ha, h.2.1.moved ha, h.2.2.1.same rfl hv.symm, h.2.2.2.1.same rfl hv.symm, h.2.2.2.2.1.same rfl hv.symm, h.2.2.2.2.2.same rfl hv.symm⟩
def Wx (Ω : Om) (σ : Me) (U : State) : Prop := Wd Ω σ U ∧ Xs Ω U U.heap
theorem wx_blind (Ω : Om) (as : List Value) (σ : Me) : FrameBlind (va_Pc as (Wx Ω σ)) := fun a U g mk q => ⟨q.1, ⟨q.2.1.1, q.2.1.2.1, va_K.moved (u := U) (U := U.calling g mk a) (Vm.Alike.refl U.vm) q.2.1.2.2.1, Stat.same (u := U) (U := U.calling g mk a) rfl q.2.1.2.2.2⟩, Xs.same (u := U) (U := U.calling g mk a) rfl q.2.2⟩
abbrev nmE : List String := ["java/lang/RuntimeException", "java/lang/Exception"]
abbrev atE : List Cond := vx_at0 "RainOwed" 185 eN nmE
theorem atE_good : atE.filter goodWord = [22, 1149, 1158, 1160, 1163, 1165, 1150, 1151, 33, 34, 1152, 1157, 1161, 1177, 1139, 1178, 1141, 1179, 1143, 1153, 1155, 1145, 1167, 1168, 1169, 1170, 1170, 1171, 1172, 1173, 1173, 1174, 1175, 1150, 1166, 1128, 1136, 1137, 1138, 1140, 1142, 1144, 1148, 1147, 1146].filterMap (fun i => tables_1[i]?) := by decide +kernel
theorem atE_in {w : Cond} (h : w ∈ atE.filter goodWord) : w ∈ T0 := by
  have g := (List.mem_filter.mp h).2
  rw [atE_good] at h
  obtain ⟨i, -, hi⟩ := List.mem_filterMap.mp h
  exact in_T0 (List.mem_of_getElem? hi) g
abbrev bdE : List Cond := [.castable eN eN, .declares (iN "java/lang/RuntimeException"), .declares (iN "java/lang/Exception"), .declares (iN "java/lang/Throwable")]
theorem atE_bad : ∀ w ∈ atE.filter (fun w => !goodWord w), w ∈ bdE := by decide +kernel
theorem atE_ot : ∀ w ∈ Cond.classLink "RainOwed" 183 eN :: Cond.initialized eN :: atE, vx_ot w = true := by decide +kernel
theorem kE1 : Cond.classLink "RainOwed" 183 eN ∈ T0 := in_T0 (inT5 (List.mem_of_getElem? (i := 167) rfl)) rfl
theorem kE2 : Cond.initialized eN ∈ T0 := in_T0 (inT1 (List.mem_of_getElem? (i := 25) rfl)) rfl
/-- how the throw leaves things -/
def XcF (Ω : Om) (σ' : Me) : String → State → State → Prop := fun E st t => E = eN ∧ va_P (oD Ω) classes (wsM Ω σ') t.heap ∧ t.heap.size = oB Ω + mz σ' ∧ va_F (oF Ω) st t
theorem fd_thr {Ω : Om} {Γ : Ga} {d mc ms c s : Nat} {σ : Me} {lv : Lv} {Qc : Array Value → State → Outcome → State → Prop} (hG : Good Ω Γ tc11_field d mc ms) (hd : 6 ≤ d) (hX : Xs Ω (gS Γ) (gS Γ).heap) (hl : (oL Ω).stackTraces = false) (ht : ∀ x ∈ (gC Γ).exceptionTable.toList, False)
    (hQ : gQ Γ = vx_MQ (gB Γ) Qc (XcF Ω (excC σ)) (gA Γ) (gS Γ) mc ms (oF Ω)) (hc : c + 1 ≤ mc) (hs : s + 6 ≤ ms) : AW Ω Γ 3 20 lv [] σ c s := fun ls H locs hy => by
  have hR := hG.2.2.2.2.2.2.2.1
  have hT := hG.2.2.2.2.1
  have hat : ∀ w ∈ atE, w.before (gA Γ) (gS Γ) = true := vx_hat (B := bdE) (fun w hw => hT w (atE_in hw)) atE_bad (vx_c (hX.2.2.1.use rfl) (vx_c (hX.2.2.2.1.use rfl) (vx_c (hX.2.2.2.2.1.use rfl) (vx_c (hX.2.2.2.2.2.use rfl) vx_n))))
  show W (gP Γ) (oL Ω) (gE Γ) (gR Γ) (gS Γ) (gM Γ) (gA Γ) (gB Γ) (gH Γ) (gC Γ) H locs c s (gQ Γ) _
  rw [hQ]
  refine vx_throw0 (cc := tc11_field.2.1) (own := "RainOwed") (cls := eN) (names := nmE) (ik := 183) (ic := 185) (A := oF Ω) hG.1 hG.2.1 hl hG.2.2.2.1 (by decide +kernel) (by decide +kernel) (hT _ kE1) (hT _ kE2) hat atE_ot hX.1 hX.2.1 hy.2.2.2 (by rw [hG.2.2.1]; exact hy.1.1) dc11_field_20 dc11_field_23 dc11_field_24 dc11_field_27 (fun x hx => (ht x hx).elim) (by show 2 + 3 < _; omega) (by show 0 + (13 * (2 + 1) + 42) ≤ _; omega) (by rw [hR.2.2.1]; exact hc) (by rw [hR.2.2.2]; exact hs) hG.2.2.2.2.2.2.2.2.2.1 ?_ hy.2.2.2.2.2 hc hs
  intro t _ hz hq hz1 hce
  obtain ⟨ce, h1, h2, h3⟩ := hce
  have hcl : (gS Γ).vm.findClass eN = some ((oD Ω).1 13) := (hG.2.2.2.2.2.1.1 13 (eN, cT0, 0) rfl).2.1
  have hcc : ce.cls = (oD Ω).1 13 := Option.some.inj (h3.symm.trans hcl)
  refine ⟨rfl, ws_new hy.2.1 ?_ (fun q h => hq q (by rw [hy.2.2.1]; exact h)), by rw [hz1, hy.2.2.1]; rfl, Nat.le_trans hy.2.2.2.1 hz, fun q g1 g2 => by rw [hq q (Nat.lt_of_lt_of_le g1 hy.2.2.2.1)]; exact hy.2.2.2.2.1 q g1 g2⟩
  rw [en_obj (show mk (newC σ (.inl 13) 0) (mz σ) = .inl 13 from if_pos rfl)]
  exact ⟨(eN, cT0, 0), rfl, ce, by rw [← hy.2.2.1]; exact h1, hcc, h2, fun k hk => absurd hk (Nat.not_lt_zero k)⟩
end FLB
section FLC
abbrev ιQ : Unit → Option AV := fun _ => some (vQ ())
noncomputable def ttF (σ σ9 : Me) : Option (Unit × Me) := @ite _ (σ9 = σ) (Classical.propDecidable _) (some ((), σ9)) none
theorem ttF_s (σ : Me) : ttF σ σ = some ((), σ) := @if_pos _ (Classical.propDecidable _) rfl _ _ _
/-- the road to the throw -/
noncomputable def wkF (N a : Nat) (p0 p1 : Int32) (σ : Me) : Option (Unit × Me) :=
  (qR σ 11 10 (some a)).bind fun v1 =>
  (dr σ v1 (.inl 2)).bind fun a1 =>
  (fc2_has N a1 p0 σ).bind fun p5 =>
  if p5.1 = 0 then ttF σ p5.2 else
  if p1 < 0 then ttF σ p5.2 else
  if p1 ≤ 4 then none else ttF σ p5.2
theorem has_s {N a : Nat} {x : Int32} {σ : Me} {q : Int32 × Me} (h : fc2_has N a x σ = some q) : q.2 = σ := by
  have r : ∀ {v : Int32} {q : Int32 × Me}, retZ v σ = some q → q.2 = σ := fun {v q} h => by
    unfold retZ at h
    split at h
    · cases h; rfl
    · cases h
  unfold fc2_has at h
  split at h
  · exact r h
  · cases e : qI σ 2 5 (some a) with
    | none => rw [e] at h; cases h
    | some v =>
      rw [e, Option.bind_some] at h
      split at h
      · exact r h
      · exact r h
theorem wkF_of {N a : Nat} {p0 p1 : Int32} {σ : Me} (h : thr N a p0 p1 σ = some true) : wkF N a p0 p1 σ = some ((), σ) := by
  unfold thr at h
  unfold wkF
  cases e1 : qR σ 11 10 (some a) with
  | none => rw [e1] at h; cases h
  | some l =>
    rw [e1, Option.bind_some] at h
    rw [Option.bind_some]
    cases e2 : dr σ l (.inl 2) with
    | none => rw [e2] at h; cases h
    | some b =>
      rw [e2, Option.bind_some] at h
      rw [Option.bind_some]
      cases e3 : fc2_has N b p0 σ with
      | none => rw [e3] at h; cases h
      | some p =>
        rw [e3, Option.bind_some] at h
        rw [Option.bind_some]
        have h := of_decide_eq_true (Option.some.inj h)
        have e4 := has_s e3
        rw [e4, ttF_s]
        by_cases c1 : p.1 = 0
        · rw [if_pos c1]
        · rw [if_neg c1]
          by_cases c2 : p1 < 0
          · rw [if_pos c2]
          · rw [if_neg c2]
            have h3 : 4 < p1 := (h.resolve_left c1).resolve_left c2
            rw [if_neg (fun h4 => by
              rw [Int32.le_iff_toInt_le] at h4
              rw [Int32.lt_iff_toInt_lt] at h3
              omega)]
theorem fd_throws {Ω : Om} {N a : Nat} {p0 p1 : Int32} {σ : Me} (hl : (oL Ω).stackTraces = false) (h : thr N a p0 p1 σ = some true) :
    vx_Met (oL Ω) tc11_field.1 (Cond.code tc11_field.1 tc11_field.2.1 tc11_field.2.2.1 tc11_field.2.2.2 :: T0) (rmD 6 1 6) (va_Pc ([vR (some a), vI p0, vI p1].map (tv Ω)) (Wx Ω σ)) (fun _ _ _ _ => False) (XcF Ω (excC σ)) 1 6 (oF Ω) := by
  refine vx_ofW (cc := tc11_field.2.1) (maxL := tc11_field.2.2.1) (ret := tc11_field.2.2.2) (by decide +kernel) rfl ?_
  intro p e s m args below meth c s₁ B hml ht hv
  obtain ⟨rfl, ⟨hP, hz, hK, hSt⟩, hX⟩ := hv
  have hts := atoms_spec (ws := Cond.code tc11_field.1 tc11_field.2.1 tc11_field.2.2.1 tc11_field.2.2.2 :: T0) B.pre
  have hlv := lv_entry ([vR (some a), vI p0, vI p1].map (tv Ω)) (n := tc11_field.2.2.1) (by rw [lva_len]; exact Nat.le_of_ble_eq_true rfl)
  rw [lva_args] at hlv
  rw [lg_entry_eq]
  have hG : Good Ω (p, e, (headSpec (Cond.code tc11_field.1 tc11_field.2.1 tc11_field.2.2.1 tc11_field.2.2.2 :: T0) (rmD 6 1 6)).room, s, m, ([vR (some a), vI p0, vI p1].map (tv Ω)).toArray, below, meth, c, vx_MQ below (fun _ _ _ _ => False) (XcF Ω (excC σ)) ([vR (some a), vI p0, vI p1].map (tv Ω)).toArray s 1 6 (oF Ω)) tc11_field 6 1 6 :=
    ⟨B.exec, B.bytes, hml, findClass_of_methodNamed B.named, fun w hw => hts w (List.mem_cons_of_mem _ hw), hK, hSt, ⟨Nat.le_refl _, Nat.le_refl _, rfl, rfl⟩, B.returns, B.notSynchronized, fun h => (name_of_methodNamed B.named B.method).1.trans h, by rw [hz]; exact Nat.le_add_right _ _⟩
  have fin : ∀ σ9 : Me, Sim Ω (p, e, (headSpec (Cond.code tc11_field.1 tc11_field.2.1 tc11_field.2.2.1 tc11_field.2.2.2 :: T0) (rmD 6 1 6)).room, s, m, ([vR (some a), vI p0, vI p1].map (tv Ω)).toArray, below, meth, c, vx_MQ below (fun _ _ _ _ => False) (XcF Ω (excC σ)) ([vR (some a), vI p0, vI p1].map (tv Ω)).toArray s 1 6 (oF Ω)) 1 6 ιQ 3 20 [(0, vR (some a)), (1, vI p0), (2, vI p1)] [] σ9 0 0 (ttF σ σ9) := fun σ9 => by
    unfold ttF
    refine s_split _ (fun e9 => ?_) (fun _ => s_none)
    intro r σ' _ _
    rw [e9]
    exact fd_thr hG (Nat.le_refl _) hX hl ht rfl (Nat.le_refl _) (Nat.le_refl _)
  have wk : Sim Ω (p, e, (headSpec (Cond.code tc11_field.1 tc11_field.2.1 tc11_field.2.2.1 tc11_field.2.2.2 :: T0) (rmD 6 1 6)).room, s, m, ([vR (some a), vI p0, vI p1].map (tv Ω)).toArray, below, meth, c, vx_MQ below (fun _ _ _ _ => False) (XcF Ω (excC σ)) ([vR (some a), vI p0, vI p1].map (tv Ω)).toArray s 1 6 (oF Ω)) 1 6 ιQ 3 0 [(0, vR (some a)), (1, vI p0), (2, vI p1)] [] σ 0 0 (some ((), σ)) := by
    have h2 := wkF_of h
    unfold wkF at h2
    rw [← h2]
    refine s_aload_n hG dc11_field_0 rfl ?_
    refine s_getR hG kFc11_58 rfl dc11_field_1 (fun v1 => ?_)
    refine s_iload_n hG dc11_field_4 rfl ?_
    refine s_callVi hG kMc11_180 (fun a => corc2_has N a _ _) ⟨by decide, rfl⟩ rfl (by first | decide | omega) dc11_field_5 rfl rfl (Nat.le_of_ble_eq_true rfl) ⟨Nat.le_of_ble_eq_true rfl, Nat.le_of_ble_eq_true rfl⟩ (fun p5 => ?_)
    refine s_if_eq hG 20 dc11_field_8 (by decide) (fin _) ?_
    refine s_iload_n hG dc11_field_11 rfl ?_
    refine s_if_lt hG 20 dc11_field_12 (by decide) (fin _) ?_
    refine s_iload_n hG dc11_field_15 rfl ?_
    refine s_iconst (v := 4) hG dc11_field_16 (by decide) ?_
    exact s_icmp_le hG 28 dc11_field_17 (by decide) s_none (fin _)
  exact wk () σ rfl (.inr rfl) _ _ _ ⟨hlv, hP, hz, va_S.rf⟩
end FLC
section FLD
abbrev hhF : List (Nat × Nat × Nat × Nat) := [(0, 10, 13, 13)]
abbrev xrF : ExceptionTableEntry := { startPc := 0, endPc := 10, handlerPc := 13, catchType := 13 }
theorem dF_0 : decode method_3_code 0 = .ok (.aload_n 3, 1) := by decide +kernel
theorem dF_1 : decode method_3_code 1 = .ok (.iconst 0, 1) := by decide +kernel
theorem dF_2 : decode method_3_code 2 = .ok (.aload_n 0, 1) := by decide +kernel
theorem dF_3 : decode method_3_code 3 = .ok (.iload_n 1, 1) := by decide +kernel
theorem dF_4 : decode method_3_code 4 = .ok (.iload_n 2, 1) := by decide +kernel
theorem dF_5 : decode method_3_code 5 = .ok (.invokevirtual 7, 3) := by decide +kernel
theorem dF_8 : decode method_3_code 8 = .ok (.i2l, 1) := by decide +kernel
theorem dF_9 : decode method_3_code 9 = .ok (.lastore, 1) := by decide +kernel
theorem dF_10 : decode method_3_code 10 = .ok (.goto 7, 3) := by decide +kernel
theorem dF_13 : decode method_3_code 13 = .ok (.astore 4, 2) := by decide +kernel
theorem dF_15 : decode method_3_code 15 = .ok (.iconst 1, 1) := by decide +kernel
theorem dF_16 : decode method_3_code 16 = .ok (.ireturn, 1) := by decide +kernel
theorem dF_17 : decode method_3_code 17 = .ok (.iconst 0, 1) := by decide +kernel
theorem dF_18 : decode method_3_code 18 = .ok (.ireturn, 1) := by decide +kernel
theorem kF13 : Cond.classLink "RainOwedLaw" 13 eN ∈ T0 := in_T0 (inT5 (List.mem_of_getElem? (i := 162) rfl)) rfl
/-- the call that throws, and the handler behind it -/
theorem fd_call {Ω : Om} {Γ : Ga} {N a c s : Nat} {p0 p1 : Int32} {σ : Me} {lv : Lv} {rest : List AV} (hG : Good Ω Γ tL_field 8 1 10) (hX : Xs Ω (gS Γ) (gS Γ).heap) (hl : (oL Ω).stackTraces = false) (htab : (gC Γ).exceptionTable.toList = [xrF]) (hk : Kd σ a (.inl 11)) (ht : thr N a p0 p1 σ = some true) (hw : wdt rest ≤ 8) (hc : c + 1 ≤ 1 ∧ s + 6 ≤ 10)
    (k : ∀ (q : Nat) (ls : Array Slot) (H : Heap) (locs : List Loc), Hy Ω Γ 5 lv (excC σ) ls H locs → WW Ω Γ H locs (c + 1) (s + 6) (F0 (gM Γ) 13 ls [.ref q])) : AW Ω Γ 5 5 lv (vI p1 :: vI p0 :: vR (some a) :: rest) σ c s := fun ls H locs hy => by
  intro T hT X
  have hM := fd_throws (Ω := Ω) hl ht
  have hM : vx_Met (oL Ω) tc11_field.1 (Cond.code tc11_field.1 tc11_field.2.1 tc11_field.2.2.1 tc11_field.2.2.2 :: T0) (rmD 6 1 6) (va_Pc (rv Ω (some a) :: [vI p0, vI p1].map (tv Ω)) (Wx Ω σ)) (fun _ _ _ _ => False) (XcF Ω (excC σ)) 1 6 (oF Ω) := hM
  rw [rv_lo hk.2.2] at hM
  have hst : (vI p1 :: vI p0 :: vR (some a) :: rest).map (tv Ω) = ([vI p0, vI p1].map (tv Ω)).reverse ++ Value.ref (oB Ω + a) :: rest.map (tv Ω) := by
    show Value.int p1 :: Value.int p0 :: rv Ω (some a) :: rest.map (tv Ω) = _
    rw [rv_lo hk.2.2]; rfl
  rw [hst] at *
  have hrun := vx_runV (p := gP Γ) (l := oL Ω) (e := gE Γ) (R := gR Γ) (s := gS Γ) (m := gM Γ) (args := gA Γ) (below := gB Γ) (meth := gH Γ) (c := gC Γ) (H := H) (locs := locs) (cells := c) (slots := s) (g := F0 (gM Γ) 5 ls (([vI p0, vI p1].map (tv Ω)).reverse ++ Value.ref (oB Ω + a) :: rest.map (tv Ω))) (rest := rest.map (tv Ω)) (As := [vI p0, vI p1].map (tv Ω)) (b := oB Ω + a) (Ts := T0) (nL := 5) (cc := method_3_code) (own := "RainOwedLaw") (index := 7) (n := 2) (bytes := tc11_field.2.1) (maxL := tc11_field.2.2.1) (ret := tc11_field.2.2.2) (C := tc11_field.1.cls)
    ⟨hG.1, hG.2.1, hG.2.2.1, hG.2.2.2.1, hG.2.2.2.2.1⟩ hM ⟨cb_of hG kML_7.1 kML_7.2.1 (by decide), hG.2.2.2.2.1 _ kML_7.2.2.1, hG.2.2.2.2.1 _ kML_7.2.2.2⟩ ⟨wx_blind _ _ _, ?_, fun U hU hW => ⟨rfl, wd_go hG hy hU hW, by rw [hU]; exact hX.go hW (fun q g1 g2 => hy.2.2.2.2.1 q g1 g2)⟩⟩ rfl rfl hy.1.1 rfl (lv_room (rest_ok hw)) dF_5 (hf_ok hG hc)
  · rcases hrun T hT X with ⟨v, st₀, t, T', L, h0, X', hL, e1, e2, hF, st⟩ | ⟨q, st₀, t, T', L, E, ce, h0, X', hL, e1, e2, ⟨rfl, hP, hz, hF⟩, hce, hcv, hcl, st⟩
    · exact hF.elim
    · have hy' : Hy Ω Γ 5 lv (excC σ) ls T'.heap (locs ++ L) := ⟨hy.1, by rw [e1]; exact hP, by rw [e1]; exact hz,
        Nat.le_trans hy.2.2.2.1 (by rw [e1, ← h0]; exact hF.1), fun q g1 g2 => by rw [e1, hF.2 q (by rw [h0]; exact Nat.lt_of_lt_of_le g1 hy.2.2.2.1) g2, h0]; exact hy.2.2.2.2.1 q g1 g2, fun q hq => by
          rcases List.mem_append.mp hq with g | g
          · exact hy.2.2.2.2.2 q g
          · exact hL q g⟩
      obtain ⟨t2, a1, b1⟩ := fd_catch (own := "RainOwedLaw") (name := eN) (E := eN) (pc := 5) (ls := ls) (rest := rest.map (tv Ω)) hG.2.2.2.1 xrF htab rfl (by decide) (hG.2.2.2.2.1 _ kF13) (hX.2.2.1.use rfl) (by rw [e1]; exact hce) hcv hcl (k q ls T'.heap (locs ++ L) hy') T' rfl X'
      exact ⟨t2, st.trans a1, b1⟩
  · have := va_recv hG.2.2.2.2.2.1 hy.2.1 (cls_at (c := 11) (by decide)) (ws_obj hk)
    exact this
theorem fd_met {Ω : Om} {N : Nat} {x out : Option Nat} {p0 p1 r : Int32} {σ σ' : Me} (hl : (oL Ω).stackTraces = false) (h : fL_field N x p0 p1 out σ = some (r, σ')) :
    Met (oL Ω) yL_field (Cond.codeWith yL_field method_3_code 5 (some .int) hhF :: T0) (rmD 8 1 10) (va_Pc ([vR x, vI p0, vI p1, vR out].map (tv Ω)) (Wx Ω σ)) (QcM Ω (some (vI r)) σ') 1 10 (oF Ω) := by
  refine MetFree.of_bodySF (code := method_3_code) (maxLocals := 5) (ret := some .int) (by decide +kernel) ?_ ?_
  · intro args s m h hn
    obtain ⟨m9, meth, c, hn9, h1, h2, h3, h4, -, h5, h6, -⟩ := Cond.codeWith_spec (atoms_spec (ws := Cond.codeWith yL_field method_3_code 5 (some .int) hhF :: T0) h _ List.mem_cons_self)
    cases hn.symm.trans hn9
    exact ⟨meth, c, h1, h2, h3, h4, h5, h6⟩
  · intro p e s m args below meth c s₁ B hml hv _
    obtain ⟨rfl, ⟨hP, hz, hK, hSt⟩, hX⟩ := hv
    have hts := atoms_spec (ws := Cond.codeWith yL_field method_3_code 5 (some .int) hhF :: T0) B.pre
    have htab : c.exceptionTable.toList = [xrF] := (vx_table (x := yL_field) B (hts _ List.mem_cons_self)).trans rfl
    have hlv := lv_entry ([vR x, vI p0, vI p1, vR out].map (tv Ω)) (n := 5) (by rw [lva_len]; exact Nat.le_of_ble_eq_true rfl)
    rw [lva_args] at hlv
    have hG : Good Ω (p, e, (headSpec (Cond.codeWith yL_field method_3_code 5 (some .int) hhF :: T0) (rmD 8 1 10)).room, s, m, ([vR x, vI p0, vI p1, vR out].map (tv Ω)).toArray, below, meth, c, MQ below (QcM Ω (some (vI r)) σ') ([vR x, vI p0, vI p1, vR out].map (tv Ω)).toArray s 1 10 (oF Ω)) tL_field 8 1 10 :=
      ⟨B.exec, B.bytes, hml, findClass_of_methodNamed B.named, fun w hw => hts w (List.mem_cons_of_mem _ hw), hK, hSt, ⟨Nat.le_refl _, Nat.le_refl _, rfl, rfl⟩, B.returns, B.notSynchronized, fun h => (name_of_methodNamed B.named B.method).1.trans h, by rw [hz]; exact Nat.le_add_right _ _⟩
    have wk : Sim Ω (p, e, (headSpec (Cond.codeWith yL_field method_3_code 5 (some .int) hhF :: T0) (rmD 8 1 10)).room, s, m, ([vR x, vI p0, vI p1, vR out].map (tv Ω)).toArray, below, meth, c, MQ below (QcM Ω (some (vI r)) σ') ([vR x, vI p0, vI p1, vR out].map (tv Ω)).toArray s 1 10 (oF Ω)) 1 10 ιI 5 0 [(0, vR x), (1, vI p0), (2, vI p1), (3, vR out)] [] σ 0 0 (some (r, σ')) := by
      unfold fL_field at h
      cases e1 : dr σ x (.inl 11) with
      | none => rw [e1] at h; cases h
      | some a =>
        rw [e1, Option.bind_some] at h
        cases e2 : thr N a p0 p1 σ with
        | none => rw [e2] at h; cases h
        | some t =>
          rw [e2, Option.bind_some] at h
          by_cases c1 : t = true
          · rw [if_pos c1] at h
            by_cases c2 : mz σ < 1000000
            · rw [if_pos c2] at h
              cases h
              obtain ⟨rfl, hk⟩ := dr_spec e1
              rw [c1] at e2
              refine s_aload_n hG dF_0 rfl ?_
              refine s_iconst (v := 0) hG dF_1 (by decide) ?_
              refine s_aload_n hG dF_2 rfl ?_
              refine s_iload_n hG dF_3 rfl ?_
              refine s_iload_n hG dF_4 rfl ?_
              intro r9 σ9 e9 hE9
              refine fd_call hG hX hl htab hk e2 (Nat.le_of_ble_eq_true rfl) ⟨Nat.le_refl _, by decide⟩ (fun q ls H locs hy => ?_)
              refine lv_astore (nL := 5) hG.1 hG.2.1 dF_13 hy.1 (by decide) rfl (fun ls2 h2 => ?_)
              have hy2 : Hy Ω _ 5 [] (excC σ) ls2 H locs := ⟨⟨h2.1, h2.2.1, fun q hq => nomatch hq⟩, hy.2⟩
              refine (s_iconst (v := 1) hG dF_15 (by decide) ?_ : Sim Ω _ 1 10 ιI 5 15 [] [] (excC σ) 1 6 (some (1, excC σ))) 1 (excC σ) rfl ?_ ls2 H locs hy2
              · exact s_iret hG dF_16 rfl (by decide) (by decide)
              · cases e9; exact hE9
            · rw [if_neg c2] at h; cases h
          · rw [if_neg c1] at h
            have h3 : (dr σ x (.inl 11)).bind (fun a => (fc11_field N a p0 p1 σ).bind fun p => (stL p.2 out 0 p.1.toInt64).bind fun σ2 => some ((0 : Int32), σ2)) = some (r, σ') := by rw [e1, Option.bind_some]; exact h
            rw [← h3]
            refine s_aload_n hG dF_0 rfl ?_
            refine s_iconst (v := 0) hG dF_1 (by decide) ?_
            refine s_aload_n hG dF_2 rfl ?_
            refine s_iload_n hG dF_3 rfl ?_
            refine s_iload_n hG dF_4 rfl ?_
            refine s_callVi hG kML_7 (fun a => corc11_field N a _ _ _) ⟨by decide, rfl⟩ rfl (by decide) dF_5 rfl rfl (Nat.le_of_ble_eq_true rfl) ⟨Nat.le_of_ble_eq_true rfl, Nat.le_of_ble_eq_true rfl⟩ (fun p5 => ?_)
            refine s_i2l hG dF_8 ?_
            refine s_last hG dF_9 (fun σ2 => ?_)
            refine s_goto hG 17 dF_10 (by decide) ?_
            refine s_iconst (v := 0) hG dF_17 (by decide) ?_
            exact s_iret hG dF_18 rfl (by decide) (by decide)
    have w : W p (oL Ω) e (headSpec (Cond.codeWith yL_field method_3_code 5 (some .int) hhF :: T0) (rmD 8 1 10)).room s m ([vR x, vI p0, vI p1, vR out].map (tv Ω)).toArray below meth c s.heap [] 0 0 (MQ below (QcM Ω (some (vI r)) σ') ([vR x, vI p0, vI p1, vR out].map (tv Ω)).toArray s 1 10 (oF Ω)) (entryFrame m ([vR x, vI p0, vI p1, vR out].map (tv Ω)).toArray 5) := by
      rw [lg_entry_eq]
      exact wk r σ' rfl (.inl rfl) _ _ _ ⟨hlv, hP, hz, va_S.rf⟩
    obtain ⟨t, a1, o, b1, b2, b3⟩ := w s₁ (by rw [B.state]; rfl) (Stand.of_body B)
    exact ⟨t, o, a1, b1, b2, ⟨b3.1, b3.2⟩⟩
end FLD
section FLE
theorem kF42 : ∀ w ∈ va_wsS "RainOwedLaw" 42 yL_field (Cond.codeWith yL_field method_3_code 5 (some .int) hhF :: T0), w ∈ T0 := by
  have i1 : Cond.methodLink "RainOwedLaw" 42 yL_field ∈ T0 := in_T0 (inT5 (List.mem_of_getElem? (i := 159) rfl)) rfl
  have i2 : Cond.static yL_field ∈ T0 := in_T0 (inT5 (List.mem_of_getElem? (i := 160) rfl)) rfl
  have i3 : Cond.codeWith yL_field method_3_code 5 (some .int) hhF ∈ T0 := in_T0 (inT5 (List.mem_of_getElem? (i := 161) rfl)) rfl
  have i4 : Cond.initialized yL_field.cls ∈ T0 := in_T0 (inT1 (List.mem_of_getElem? (i := 0) rfl)) rfl
  intro w hw
  simp only [va_wsS, List.cons_append, List.nil_append, List.mem_cons, List.mem_append, List.not_mem_nil, or_false] at hw
  rcases hw with rfl | rfl | rfl | rfl | hw
  all_goals first | exact i1 | exact i2 | exact i3 | exact i4 | exact hw
theorem hfld {Ω : Om} {Γ : Ga} (hG : Good Ω Γ tL_law 145 601024 7293034) (hX : Xs Ω (gS Γ) (gS Γ).heap) (hl : (oL Ω).stackTraces = false) : LFld Ω Γ 10000 := by
  intro pc lv σ c s x out p0 p1 F hdec hcs k r σ' e hE ls H locs hy
  cases hp : fL_field 10000 x p0 p1 out σ with
  | none => exact e_none hp e
  | some p =>
    have e := e_some hp e
    have hM := fd_met (Ω := Ω) (r := p.1) (σ' := p.2) hl hp
    have hR := hG.2.2.2.2.2.2.2.1
    refine aw_run (r := some (vI p.1)) (rest := []) (mc' := 1) (ms' := 10) (a0 := ([vR x, vI p0, vI p1, vR out].map (tv Ω)).toArray) hy ?_ (k p r σ' e hE)
    exact vx_runSW (Ts := T0) (nL := 7) (cc := code) (own := "RainOwedLaw") (As := [vR x, vI p0, vI p1, vR out].map (tv Ω)) (rest := ([] : List AV).map (tv Ω)) (bytes := method_3_code) (maxL := 5) (ret := some .int) (hh := hhF) (index := 42) (n := 4) ⟨hG.1, hG.2.1, hG.2.2.1, hG.2.2.2.1, hG.2.2.2.2.1⟩ hM
      (vx_cwSW (Ts := T0) 4 hG.2.2.2.2.1 (T0_in _ kF42) rfl rfl rfl ⟨by decide, by decide, by decide +kernel⟩ ⟨by show 8 + 1 ≤ _; omega, by show 8 + (5 + 11) + 64 * 8 ≤ _; omega⟩)
      ⟨wx_blind _ _ _, fun U hU hW => ⟨rfl, wd_go hG hy hU hW, by rw [hU]; exact hX.go hW (fun q g1 g2 => hy.2.2.2.2.1 q g1 g2)⟩⟩ rfl rfl hy.1.1 rfl (lv_room (rest_ok (Nat.le_of_ble_eq_true rfl))) hdec (hf_ok hG hcs)
end FLE
