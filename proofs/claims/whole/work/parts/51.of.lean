def R_law : String := "RainOwedLaw"
def lw_P (b : Addr) (xs : List Int32) (args : Array Value) (s : State) : Prop := args = #[.ref b] ∧ s.IntsAt b xs ∧ xs.length ≤ 3584 ∧ (Jvm.Cond.and given_1 narrow_1).before args s = true
def lw_Q (_ : Array Value) (s : State) (o : Outcome) (t : State) : Prop := o = .returned (some (.int 1)) ∧ Framed s o t [] 601024 7293034
def lw_Z (below : List Frame) (a : Array Value) (s : State) : State → Prop := fun t => ∃ o, t.status = .running ∧ Ended t below o ∧ lw_Q a s o t
/-- the law's own end, with 1 on the stack, nothing written that was there before, its room as the claim has it -/
theorem lw_ret {p : Program} {l : Launch} {e : Env} {s : State} {m : MethodId} {below : List Frame} {meth : Method} {c : Code} {b : Nat} (hx : p.tables.exec = Jvm.exec) (hb : c.code = code) (hr : meth.sig.returnType = ret) (hlocks : meth.locks = false) {pc : Nat} {H : Heap} {ls : Array Slot} (hdg : decode code pc = .ok (.ireturn, 1)) : W p l e room_1 s m #[Value.ref b] below meth c H [] 601024 7293034 (lw_Z below #[Value.ref b] s) (F0 m pc ls [.int 1]) := by
  intro T hT X
  obtain ⟨fs, hret, hrun, hended, hW, hframe⟩ := X.leave (v := some (.int 1)) (hlocks := hlocks) (fun h => by rw [hr] at h; cases h)
  have hmeth' : T.vm.method? m = some meth := X.method'
  refine ⟨T.setFrames fs, ?_, .returned (some (.int 1)), hrun, hended, rfl, ⟨_, rfl⟩, hW, hframe⟩
  jvm_step X.here [X.here.top, hx, hb, hdg, hmeth', hr, ret, narrow_b1]
  (try refine ⟨rfl, ?_⟩); (try refine ⟨rfl, ?_⟩)
  first | (intro acts; rw [hret _ acts rfl rfl rfl]) | rw [hret _ _ rfl rfl rfl]
  exact Steps.refl _
/-- what holds at the law's entry: the machine, the code, the tables' words (any of lw_tbl by 'hts w (by decide +kernel)'), the script of L ints xs at the cell b, what the Statement gives of the start (any of its parts by flat_of_before) -/
def lw_At (p : Program) (s : State) (m : MethodId) (meth : Method) (c : Code) (b L : Nat) (xs : Nat → Int32) : Prop :=
  p.tables.exec = Jvm.exec ∧ c.code = code ∧ meth.sig.returnType = ret ∧ c.maxLocals = 7 ∧ s.vm.findClass R_law = some m.cls ∧ (∀ w ∈ lw_tbl, w.before #[Value.ref b] s = true) ∧ va_X b L xs s s.heap ∧ b < s.heap.size ∧ meth.locks = false ∧ (Jvm.Cond.and given_1 narrow_1).before #[Value.ref b] s = true
def σ0 : Me := (fun _ => .inl 99, fun _ _ => 0, fun _ _ => 0, fun _ _ => none, 0, 0)
set_option maxHeartbeats 4000000 in
set_option maxRecDepth 20000 in
/-- the machine's half is over: what is left is the function -/
theorem whole_of (hpure : ∀ (L : Nat) (xs : Nat → Int32), L ≤ 3584 → ∃ σ', fL_law 10000 L xs σ0 = some (1, σ')) (hfld : ∀ (Ω : Om) (Γ : Ga), Good Ω Γ tL_law 145 601024 7293034 → LFld Ω Γ 10000)
    {p : Program} {e : Env} {s : State} {m : MethodId} {below : List Frame} {meth : Method} {c : Code} (l : Launch) {b L : Nat} {xs : Nat → Int32} (hL : L ≤ 3584) (C0 : lw_At p s m meth c b L xs) : W p l e room_1 s m #[Value.ref b] below meth c s.heap [] 0 0 (lw_Z below #[Value.ref b] s) (entryFrame m ([Value.ref b] : List Value).toArray 7) := by
  obtain ⟨hx, hb, hr, hml, hown, hts, hX, hbl, hlocks, hgv⟩ := C0
  have hs := flat_of_before _ hgv
  obtain ⟨Ω, e1, e2, e3, hK, hSt⟩ := st_world l hts hs hX hbl (by omega)
  obtain ⟨σ', hσ⟩ := hpure L xs hL
  have hG : Good Ω (p, e, room_1, s, m, #[Value.ref b], below, meth, c, MQ below (QcM Ω (some (vI 1)) σ') #[Value.ref b] s 601024 7293034 (oF Ω)) tL_law 145 601024 7293034 :=
    ⟨hx, hb, hml, hown, fun w hw => hts w (List.mem_filter.mp hw).1, hK, hSt, ⟨(show 145 ≤ 2048 by decide), (show 64 * 145 ≤ 84000 by decide), rfl, rfl⟩, hr, hlocks, fun h => absurd h (by decide), by rw [e2]; exact Nat.le_refl _⟩
  have k := simL_law hG (L := L) (xs := xs) (by rw [e3]; exact ⟨rfl, rfl⟩) (hfld _ _ hG) σ0 1 σ' hσ rfl
  have hl := lv_entry [Value.ref b] (n := 7) (Nat.le_of_ble_eq_true rfl)
  rw [lg_entry_eq]
  have hl2 : lv_has ((lg_sl [Value.ref b] ++ List.replicate (7 - (lg_sl [Value.ref b]).length) Slot.unset).toArray) 7 (lvm Ω [(0, vX ())]) := by
    have h9 : lvm Ω [(0, vX ())] = [(0, Value.ref b)] := by
      show [(0, rv Ω (some 1000006))] = _
      rw [rv_X, e3]
    rw [h9]; exact hl
  have w := k _ s.heap [] ⟨hl2, fun k q h => absurd (ws_key h).2 (Nat.not_lt_zero k), by rw [e2]; rfl, va_S.rf⟩
  intro T hT X
  rw [← e1] at X
  obtain ⟨t, st, o, h1, h2, hq, Lc, hFE, hfree⟩ := w T hT X
  refine ⟨t, st, o, h1, h2, hq.1, hFE.1, hFE.2.1, hFE.2.2.weaken (fun y hy hlt => ?_) (Nat.le_refl _) (Nat.le_refl _)⟩
  have h3 : oB Ω ≤ y.base := hfree y hy
  rw [e2] at h3
  exact absurd hlt (Nat.not_lt.mpr h3)
