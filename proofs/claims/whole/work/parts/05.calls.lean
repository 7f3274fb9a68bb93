section CALLS
variable {ρ ρ2 : Type} {Ω : Om} {Γ : Ga} {y z : Mt} {d d' mc ms mc' ms' nL pc idx n : Nat} {ι : ρ → Option AV} {ι2 : ρ2 → Option AV} {lv : Lv} {st : List AV} {σ : Me} {c s : Nat} {o : Option (ρ × Me)}
def CodeIn (z : Mt) (n : Nat) : Prop := Cond.code z.1 z.2.1 z.2.2.1 z.2.2.2 ∈ T0 ∧ Cond.initialized z.1.cls ∈ T0 ∧ (z.1.cls ≠ "java/lang/invoke/MethodHandle" ∧ z.1.cls ≠ "java/lang/invoke/VarHandle" ∧ (parseMethodDescriptor z.1.desc).map (fun d => d.parameters.length) = some n) ∧ z.2.2.1 ≤ 40
def VLink (own : String) (idx : Nat) (z : Mt) (n : Nat) : Prop := CodeIn z n ∧ Cond.methodLink own idx z.1 ∈ T0 ∧ Cond.instanceMethod z.1 ∈ T0 ∧ Cond.selects z.1.cls z.1 z.1 ∈ T0
def SLink (own : String) (idx : Nat) (z : Mt) (n : Nat) : Prop := CodeIn z n ∧ Cond.methodLink own idx z.1 ∈ T0 ∧ Cond.static z.1 ∈ T0
def ILink (own : String) (idx : Nat) (z : Mt) (n : Nat) : Prop := CodeIn z n ∧ Cond.methodLink own idx z.1 ∈ T0 ∧ Cond.instanceMethod z.1 ∈ T0 ∧ z.1.name = "<init>" ∧ z.2.2.2 = none
def NLink (own : String) (idx : Nat) (z : Mt) (n : Nat) (host : String) : Prop := CodeIn z n ∧ (own, idx, z.1, host) ∈ nLk ∧ Cond.instanceMethod z.1 ∈ T0 ∧ z.1.name = "<init>" ∧ z.2.2.2 = none
theorem wd_blind (Ω : Om) (as : List Value) (σ : Me) : FrameBlind (va_Pc as (Wd Ω σ)) := fun a U g mk q => ⟨q.1, q.2.1, q.2.2.1, va_K.moved (u := U) (U := U.calling g mk a) (Vm.Alike.refl U.vm) q.2.2.2.1, Stat.same (u := U) (U := U.calling g mk a) rfl q.2.2.2.2⟩
theorem wd_go (hG : Good Ω Γ y d mc ms) {ls : Array Slot} {H : Heap} {locs : List Loc} (hy : Hy Ω Γ nL lv σ ls H locs) {U : State} (hU : U.heap = H) (hW : (gS Γ).WarmedH U.vm) : Wd Ω σ U :=
  ⟨by rw [hU]; exact hy.2.1, by rw [hU]; exact hy.2.2.1, hG.2.2.2.2.2.1.moved hW.alike, by rw [hU]; exact Stat.go hW (fun a ha hn => hy.2.2.2.2.1 a ha hn) hG.2.2.2.2.2.2.1⟩
theorem ws_in {z : Mt} {n : Nat} (h : CodeIn z n) : GoodIn T0 (Cond.code z.1 z.2.1 z.2.2.1 z.2.2.2 :: T0) := T0_in _ (fun w hw => by
  rcases List.mem_cons.mp hw with rfl | hw
  · exact h.1
  · exact hw)
theorem rm_ok (hG : Good Ω Γ y d mc ms) (hC : CodeIn z n) (hd : d' + 1 ≤ d) : (rmD d' mc' ms').frames + 1 ≤ (gR Γ).frames ∧ 8 + (z.2.2.1 + 11) + (rmD d' mc' ms').locals ≤ (gR Γ).locals := by
  refine ⟨?_, ?_⟩
  · show d' + 1 ≤ _
    have := hG.2.2.2.2.2.2.2.1.1
    omega
  · show 8 + (z.2.2.1 + 11) + 64 * d' ≤ _
    have h1 := hG.2.2.2.2.2.2.2.1.2.1
    have h2 := hC.2.2.2
    omega
theorem cb_of (hG : Good Ω Γ y d mc ms) (hC : CodeIn z n) (hl : Cond.methodLink y.1.cls idx z.1 ∈ T0) (hd : d' + 1 ≤ d) : CallB (gR Γ) (gS Γ) (gA Γ) y.1.cls idx z.1 z.2.1 z.2.2.1 z.2.2.2 (Cond.code z.1 z.2.1 z.2.2.1 z.2.2.2 :: T0) (rmD d' mc' ms') mc' ms' n :=
  callB_of (Ts := T0) n hG.2.2.2.2.1 (ws_in hC) rfl rfl rfl (hG.2.2.2.2.1 _ hC.2.1) (hG.2.2.2.2.1 _ hl) hC.2.2.1 (rm_ok hG hC hd)
theorem aw_run {r : Option AV} {σ2 : Me} {rest : List AV} {a0 : Array Value} {ls : Array Slot} {H : Heap} {locs : List Loc} (hy : Hy Ω Γ nL lv σ ls H locs)
    (hr : va_Run (gP Γ) (oL Ω) (gE Γ) (gR Γ) (gS Γ) (gM Γ) (gA Γ) (gB Γ) (gH Γ) (gC Γ) H locs c s mc' ms' (F0 (gM Γ) pc ls (st.map (tv Ω))) (rest.map (tv Ω)) (QcM Ω r σ2 a0) (oF Ω))
    (k : AW Ω Γ nL (pc + 3) lv (r.toList ++ rest) σ2 (c + mc') (s + ms')) : WW Ω Γ H locs c s (F0 (gM Γ) pc ls (st.map (tv Ω))) := by
  intro T hT X
  obtain ⟨v, st₀, t, T', L, e0, X', hL, e1, e2, ⟨hv, hP, hz, hF⟩, go⟩ := hr T hT X
  have hv' : v = r.map (tv Ω) := Outcome.returned.inj hv
  subst hv'
  have k := k ls T'.heap (locs ++ L) ⟨hy.1, by rw [e1]; exact hP, by rw [e1]; exact hz,
    Nat.le_trans hy.2.2.2.1 (by rw [e1, ← e0]; exact hF.1), fun q g1 g2 => by rw [e1, hF.2 q (by rw [e0]; exact Nat.lt_of_lt_of_le g1 hy.2.2.2.1) g2, e0]; exact hy.2.2.2.2.1 q g1 g2, fun q hq => by
      rcases List.mem_append.mp hq with g | g
      · exact hy.2.2.2.2.2 q g
      · exact hL q g⟩
  rw [show (r.toList ++ rest).map (tv Ω) = (r.map (tv Ω)).toList ++ rest.map (tv Ω) by cases r <;> rfl] at k
  obtain ⟨t2, a1, b1⟩ := k T' rfl X'
  exact ⟨t2, go t2 a1, b1⟩
theorem rest_ok {Ω : Om} {rest : List AV} (hw : wdt rest ≤ 8) : ((rest.map (tv Ω)).map fun v => v.category).sum ≤ 8 := by
  have e : ∀ l : List AV, ((l.map (tv Ω)).map fun v => v.category).sum = wdt l := by
    intro l
    induction l with
    | nil => rfl
    | cons v l ih =>
      simp only [List.map_cons, List.sum_cons, ih, tv_cat, wdt]
  rw [e]; exact hw
theorem st_ok {Ω : Om} {As rest : List AV} {b : AV} : (As.reverse ++ b :: rest).map (tv Ω) = (As.map (tv Ω)).reverse ++ tv Ω b :: rest.map (tv Ω) := by simp
theorem nl_ok (hG : Good Ω Γ y d mc ms) (hy : nL = y.2.2.1) : (gC Γ).maxLocals = nL := by rw [hy]; exact hG.2.2.1
theorem hf_ok (hG : Good Ω Γ y d mc ms) (hf : c + mc' ≤ mc ∧ s + ms' ≤ ms) : c + mc' ≤ (gR Γ).cells ∧ s + ms' ≤ (gR Γ).slots := by
  rw [hG.2.2.2.2.2.2.2.1.2.2.1, hG.2.2.2.2.2.2.2.1.2.2.2]; exact hf
theorem s_callV {As rest : List AV} {cc : Nat} {x : Option Nat} {f : Nat → Option (ρ2 × Me)} {F : ρ2 × Me → Option (ρ × Me)} (hG : Good Ω Γ y d mc ms) (hL : VLink y.1.cls idx z n) (hC : ∀ a, Cor Ω z d' mc' ms' (vR (some a) :: As) σ ι2 (f a)) (hcc : cc < 13 ∧ fN cc = z.1.cls) (hnl : nL = y.2.2.1) (hd : d' + 1 ≤ d) (hg : decode y.2.1 pc = .ok (.invokevirtual idx, 3)) (hn : As.length = n) (hst : st = As.reverse ++ vR x :: rest) (hw : wdt rest ≤ 8) (hf : c + mc' ≤ mc ∧ s + ms' ≤ ms) (k : ∀ p : ρ2 × Me, Sim Ω Γ mc ms ι nL (pc + 3) lv ((ι2 p.1).toList ++ rest) p.2 (c + mc') (s + ms') (F p)) : Sim Ω Γ mc ms ι nL pc lv st σ c s ((dr σ x (.inl cc)).bind fun a => (f a).bind F) := fun r σ' e hE ls H locs hy => by
  cases hq : dr σ x (.inl cc) with
  | none => exact e_none hq e
  | some a =>
    obtain ⟨rfl, hk⟩ := dr_spec hq
    have e := e_some hq e
    cases hp : f a with
    | none => exact e_none hp e
    | some p =>
      have e := e_some hp e
      have hM := hC a p.1 p.2 hp
      refine aw_run (rest := rest) (a0 := (Value.ref (oB Ω + a) :: As.map (tv Ω)).toArray) hy ?_ (k p r σ' e hE)
      subst hst
      have hM : Met (oL Ω) z.1 (Cond.code z.1 z.2.1 z.2.2.1 z.2.2.2 :: T0) (rmD d' mc' ms') (va_Pc (rv Ω (some a) :: As.map (tv Ω)) (Wd Ω σ)) (QcM Ω (ι2 p.1) p.2) mc' ms' (oF Ω) := hM
      rw [rv_lo hk.2.2] at hM
      rw [st_ok, show tv Ω (vR (some a)) = .ref (oB Ω + a) from rv_lo hk.2.2]
      refine va_runV (Ts := T0) (nL := nL) (bytes := z.2.1) (maxL := z.2.2.1) (ret := z.2.2.2) (C := z.1.cls) ⟨hG.1, hG.2.1, nl_ok hG hnl, hG.2.2.2.1, hG.2.2.2.2.1⟩ hM ⟨cb_of hG hL.1 hL.2.1 hd, hG.2.2.2.2.1 _ hL.2.2.1, hG.2.2.2.2.1 _ hL.2.2.2⟩ ⟨wd_blind _ _ _, ?_, fun U hU hW => ⟨rfl, wd_go hG hy hU hW⟩⟩ rfl (by rw [List.length_map]; exact hn) hy.1.1 rfl (lv_room (rest_ok hw)) hg (hf_ok hG hf)
      have := va_recv hG.2.2.2.2.2.1 hy.2.1 (cls_at hcc.1) (ws_obj hk)
      rw [show (fN cc, fT cc, nfl cc).1 = z.1.cls from hcc.2] at this
      exact this
theorem s_callS {As rest : List AV} {f : Option (ρ2 × Me)} {F : ρ2 × Me → Option (ρ × Me)} (hG : Good Ω Γ y d mc ms) (hL : SLink y.1.cls idx z n) (hC : Cor Ω z d' mc' ms' As σ ι2 f) (hnl : nL = y.2.2.1) (hd : d' + 1 ≤ d) (hg : decode y.2.1 pc = .ok (.invokestatic idx, 3)) (hn : As.length = n) (hst : st = As.reverse ++ rest) (hw : wdt rest ≤ 8) (hf : c + mc' ≤ mc ∧ s + ms' ≤ ms) (k : ∀ p : ρ2 × Me, Sim Ω Γ mc ms ι nL (pc + 3) lv ((ι2 p.1).toList ++ rest) p.2 (c + mc') (s + ms') (F p)) : Sim Ω Γ mc ms ι nL pc lv st σ c s (f.bind F) := fun r σ' e hE ls H locs hy => by
  cases hp : f with
  | none => exact e_none hp e
  | some p =>
    have e := e_some hp e
    have hM := hC p.1 p.2 hp
    refine aw_run (rest := rest) (a0 := (As.map (tv Ω)).toArray) hy ?_ (k p r σ' e hE)
    subst hst
    rw [show (As.reverse ++ rest).map (tv Ω) = (As.map (tv Ω)).reverse ++ rest.map (tv Ω) by simp]
    exact va_runS (Ts := T0) (nL := nL) (bytes := z.2.1) (maxL := z.2.2.1) (ret := z.2.2.2) ⟨hG.1, hG.2.1, nl_ok hG hnl, hG.2.2.2.1, hG.2.2.2.2.1⟩ hM ⟨cb_of hG hL.1 hL.2.1 hd, hG.2.2.2.2.1 _ hL.2.2⟩ ⟨wd_blind _ _ _, fun U hU hW => ⟨rfl, wd_go hG hy hU hW⟩⟩ rfl (by rw [List.length_map]; exact hn) hy.1.1 rfl (lv_room (rest_ok hw)) hg (hf_ok hG hf)
theorem s_callI {As rest : List AV} {a : Nat} {f : Option (ρ2 × Me)} {F : ρ2 × Me → Option (ρ × Me)} (hG : Good Ω Γ y d mc ms) (hL : ILink y.1.cls idx z n) (hC : Cor Ω z d' mc' ms' (vR (some a) :: As) σ ι2 f) (hnl : nL = y.2.2.1) (hd : d' + 1 ≤ d) (hg : decode y.2.1 pc = .ok (.invokespecial idx, 3)) (hn : As.length = n) (hst : st = As.reverse ++ vR (some a) :: rest) (hw : wdt rest ≤ 8) (hf : c + mc' ≤ mc ∧ s + ms' ≤ ms) (k : ∀ p : ρ2 × Me, Sim Ω Γ mc ms ι nL (pc + 3) lv ((ι2 p.1).toList ++ rest) p.2 (c + mc') (s + ms') (F p)) : Sim Ω Γ mc ms ι nL pc lv st σ c s (f.bind F) := fun r σ' e hE ls H locs hy => by
  cases hp : f with
  | none => exact e_none hp e
  | some p =>
    have e := e_some hp e
    have hM := hC p.1 p.2 hp
    refine aw_run (rest := rest) (a0 := (Value.ref (ad Ω a) :: As.map (tv Ω)).toArray) hy ?_ (k p r σ' e hE)
    subst hst
    rw [st_ok]
    have cb := cb_of (mc' := mc') (ms' := ms') hG hL.1 hL.2.1 hd
    have hM : Met (oL Ω) z.1 (Cond.code z.1 z.2.1 z.2.2.1 z.2.2.2 :: T0) (rmD d' mc' ms') (va_Pc (Value.ref (ad Ω a) :: As.map (tv Ω)) (Wd Ω σ)) (QcM Ω (ι2 p.1) p.2) mc' ms' (oF Ω) := hM
    rw [hL.2.2.2.2] at cb hM
    exact va_runI (Ts := T0) (nL := nL) (bytes := z.2.1) (maxL := z.2.2.1) ⟨hG.1, hG.2.1, nl_ok hG hnl, hG.2.2.2.1, hG.2.2.2.2.1⟩ hM ⟨cb, hL.2.2.2.1, hG.2.2.2.2.1 _ hL.2.2.1⟩ ⟨wd_blind _ _ _, fun U hU hW => ⟨rfl, wd_go hG hy hU hW⟩⟩ rfl (by rw [List.length_map]; exact hn) hy.1.1 rfl (lv_room (rest_ok hw)) hg (hf_ok hG hf)
theorem s_callN {As rest : List AV} {a : Nat} {host : String} {f : Option (ρ2 × Me)} {F : ρ2 × Me → Option (ρ × Me)} (hG : Good Ω Γ y d mc ms) (hL : NLink y.1.cls idx z n host) (hC : Cor Ω z d' mc' ms' (vR (some a) :: As) σ ι2 f) (hnl : nL = y.2.2.1) (hd : d' + 1 ≤ d) (hg : decode y.2.1 pc = .ok (.invokespecial idx, 3)) (hn : As.length = n) (hst : st = As.reverse ++ vR (some a) :: rest) (hw : wdt rest ≤ 8) (hf : c + mc' ≤ mc ∧ s + ms' ≤ ms) (k : ∀ p : ρ2 × Me, Sim Ω Γ mc ms ι nL (pc + 3) lv ((ι2 p.1).toList ++ rest) p.2 (c + mc') (s + ms') (F p)) : Sim Ω Γ mc ms ι nL pc lv st σ c s (f.bind F) := fun r σ' e hE ls H locs hy => by
  cases hp : f with
  | none => exact e_none hp e
  | some p =>
    have e := e_some hp e
    have hM := hC p.1 p.2 hp
    refine aw_run (rest := rest) (a0 := (Value.ref (ad Ω a) :: As.map (tv Ω)).toArray) hy ?_ (k p r σ' e hE)
    subst hst
    rw [st_ok]
    have cb := va_cnB (mc := mc') (ms := ms') (rm := rmD d' mc' ms') (Ts := T0) (ws := Cond.code z.1 z.2.1 z.2.2.1 z.2.2.2 :: T0) n hG.2.2.2.2.1 (ws_in hL.1) rfl rfl rfl (hG.2.2.2.2.2.2.1.2.2.2.2.2.1 _ hL.2.1) (hG.2.2.2.2.1 _ hL.1.2.1) hL.1.2.2.1 (rm_ok hG hL.1 hd)
    have hM : Met (oL Ω) z.1 (Cond.code z.1 z.2.1 z.2.2.1 z.2.2.2 :: T0) (rmD d' mc' ms') (va_Pc (Value.ref (ad Ω a) :: As.map (tv Ω)) (Wd Ω σ)) (QcM Ω (ι2 p.1) p.2) mc' ms' (oF Ω) := hM
    rw [hL.2.2.2.2] at cb hM
    exact va_runIN (Ts := T0) (nL := nL) (bytes := z.2.1) (maxL := z.2.2.1) ⟨hG.1, hG.2.1, nl_ok hG hnl, hG.2.2.2.1, hG.2.2.2.2.1⟩ hM ⟨cb, hL.2.2.2.1, hG.2.2.2.2.1 _ hL.2.2.1⟩ ⟨wd_blind _ _ _, fun U hU hW => ⟨rfl, wd_go hG hy hU hW⟩⟩ rfl (by rw [List.length_map]; exact hn) hy.1.1 rfl (lv_room (rest_ok hw)) hg (hf_ok hG hf)
def NSLink (own : String) (idx : Nat) (z : Mt) (n : Nat) (host : String) : Prop := CodeIn z n ∧ (own, idx, z.1, host) ∈ nLk ∧ Cond.static z.1 ∈ T0
theorem s_callNS {As rest : List AV} {host : String} {f : Option (ρ2 × Me)} {F : ρ2 × Me → Option (ρ × Me)} (hG : Good Ω Γ y d mc ms) (hL : NSLink y.1.cls idx z n host) (hC : Cor Ω z d' mc' ms' As σ ι2 f) (hnl : nL = y.2.2.1) (hd : d' + 1 ≤ d) (hg : decode y.2.1 pc = .ok (.invokestatic idx, 3)) (hn : As.length = n) (hst : st = As.reverse ++ rest) (hw : wdt rest ≤ 8) (hf : c + mc' ≤ mc ∧ s + ms' ≤ ms) (k : ∀ p : ρ2 × Me, Sim Ω Γ mc ms ι nL (pc + 3) lv ((ι2 p.1).toList ++ rest) p.2 (c + mc') (s + ms') (F p)) : Sim Ω Γ mc ms ι nL pc lv st σ c s (f.bind F) := fun r σ' e hE ls H locs hy => by
  cases hp : f with
  | none => exact e_none hp e
  | some p =>
    have e := e_some hp e
    have hM := hC p.1 p.2 hp
    refine aw_run (rest := rest) (a0 := (As.map (tv Ω)).toArray) hy ?_ (k p r σ' e hE)
    subst hst
    rw [show (As.reverse ++ rest).map (tv Ω) = (As.map (tv Ω)).reverse ++ rest.map (tv Ω) by simp]
    have cb := va_cnB (mc := mc') (ms := ms') (rm := rmD d' mc' ms') (Ts := T0) (ws := Cond.code z.1 z.2.1 z.2.2.1 z.2.2.2 :: T0) n hG.2.2.2.2.1 (ws_in hL.1) rfl rfl rfl (hG.2.2.2.2.2.2.1.2.2.2.2.2.1 _ hL.2.1) (hG.2.2.2.2.1 _ hL.1.2.1) hL.1.2.2.1 (rm_ok hG hL.1 hd)
    exact va_runSN (Ts := T0) (nL := nL) (bytes := z.2.1) (maxL := z.2.2.1) (ret := z.2.2.2) ⟨hG.1, hG.2.1, nl_ok hG hnl, hG.2.2.2.1, hG.2.2.2.2.1⟩ hM ⟨cb, hG.2.2.2.2.1 _ hL.2.2, trivial⟩ ⟨wd_blind _ _ _, fun U hU hW => ⟨rfl, wd_go hG hy hU hW⟩⟩ rfl (by rw [List.length_map]; exact hn) hy.1.1 rfl (lv_room (rest_ok hw)) hg (hf_ok hG hf)
theorem s_objInit {a : Nat} {rest : List AV} (hG : Good Ω Γ y d mc ms) (hl : Cond.methodLink y.1.cls idx objectInit ∈ T0) (hi : Cond.instanceMethod objectInit ∈ T0) (hcd : Cond.code objectInit ⟨#[0xb1]⟩ 1 none ∈ T0) (hnl : nL = y.2.2.1) (hd : 1 ≤ d) (hg : decode y.2.1 pc = .ok (.invokespecial idx, 3)) (hw : wdt rest ≤ 8) (k : Sim Ω Γ mc ms ι nL (pc + 3) lv rest σ c s o) : Sim Ω Γ mc ms ι nL pc lv (vR (some a) :: rest) σ c s o := fun r σ' e hE ls H locs hy => by
  have h1 := hG.2.2.2.2.2.2.2.1
  have h2 := rest_ok (Ω := Ω) hw
  exact W.objInit hG.1 hG.2.1 hG.2.2.2.1 (hG.2.2.2.2.1 _ hl) (hG.2.2.2.2.1 _ hi) (hG.2.2.2.2.1 _ hcd) rfl (by rw [nl_ok hG hnl]; exact hy.1.1) rfl hg (by omega) (by show 2 * 0 + _ + 12 ≤ _; omega) (k r σ' e hE ls H locs hy)
def newO (σ : Me) (cc : Nat) : Option (Nat × Me) := if mz σ < 1000000 then some (mz σ, newC σ (.inl cc) (nfl cc)) else none
def newA (σ : Me) (ty : FieldType) (n : Int32) (B : Nat) : Option (Nat × Me) := if mz σ < 1000000 ∧ ¬ n < 0 ∧ n.toNatClampNeg ≤ B then some (mz σ, newC σ (.inr (ty, n.toNatClampNeg)) n.toNatClampNeg) else none
def CLink (own : String) (idx cc : Nat) : Prop := Cond.classLink own idx (fN cc) ∈ T0 ∧ Cond.instantiable (fN cc) (nfl cc) ∈ T0 ∧ Cond.initialized (fN cc) ∈ T0 ∧ cc < 13
theorem en_newC {Ω : Om} {σ : Me} {k : Kn} {w : Nat} : ∀ b, b ≠ mz σ → En Ω (newC σ k w) b = En Ω σ b := fun b hb => by
  unfold En
  rw [show mk (newC σ k w) b = mk σ b from if_neg hb, show mi (newC σ k w) b = mi σ b from if_neg hb, show ml (newC σ k w) b = ml σ b from if_neg hb, show mr (newC σ k w) b = mr σ b from if_neg hb]
theorem ws_new {Ω : Om} {σ : Me} {k : Kn} {w : Nat} {H H1 : Heap} (hP : va_P (oD Ω) classes (wsM Ω σ) H) (he : va_at (oD Ω) classes (oB Ω + mz σ, En Ω (newC σ k w) (mz σ)) H1) (oq : ∀ q : Nat, q < oB Ω + mz σ → H1[q]? = H[q]?) : va_P (oD Ω) classes (wsM Ω (newC σ k w)) H1 := by
  intro i q hi
  obtain ⟨e1, e2⟩ := ws_key hi
  subst e1
  have e2 : i < mz σ + 1 := e2
  by_cases hka : i = mz σ
  · subst hka; exact he
  · rw [en_newC i hka]
    exact (hP i _ (ws_at (by omega))).kept (oq _ (by omega))
theorem hy_new {k : Kn} {w : Nat} {ls : Array Slot} {H H1 : Heap} {locs : List Loc} (hy : Hy Ω Γ nL lv σ ls H locs) (he : va_at (oD Ω) classes (oB Ω + mz σ, En Ω (newC σ k w) (mz σ)) H1) (z : H1.size = H.size + 1) (oq : ∀ q : Nat, q < H.size → H1[q]? = H[q]?) : Hy Ω Γ nL lv (newC σ k w) ls H1 locs :=
  ⟨hy.1, ws_new hy.2.1 he (fun q hq => oq q (by rw [hy.2.2.1]; exact hq)), by rw [z, hy.2.2.1]; rfl, Nat.le_trans hy.2.2.2.1 (by omega), fun q g1 g2 => (oq q (Nat.lt_of_lt_of_le g1 hy.2.2.2.1)).trans (hy.2.2.2.2.1 q g1 g2), hy.2.2.2.2.2⟩
theorem fty_few : ∀ {cc : Nat}, cc < 13 → ∀ {j : Nat}, j < nfl cc → (fty cc j = .int ∨ fty cc j = .long ∨ fty cc j = .boolean ∨ (∃ q, fty cc j = .array q) ∨ ∃ q, fty cc j = .object q) := by
  have hf : ∀ t : FieldType, (match t with | .int => true | .long => true | .boolean => true | .array _ => true | .object _ => true | _ => false) = true → (t = .int ∨ t = .long ∨ t = .boolean ∨ (∃ q, t = .array q) ∨ ∃ q, t = .object q) := by
    intro t ht
    cases t <;> simp_all
  have hd : ∀ cc, cc < 13 → ∀ j, j < nfl cc → (match fty cc j with | .int => true | .long => true | .boolean => true | .array _ => true | .object _ => true | _ => false) = true := by decide +kernel
  intro cc hcc j hj
  exact hf _ (hd cc hcc j hj)
theorem fty_def : ∀ {cc : Nat}, cc < 13 → ∀ {j : Nat}, j < nfl cc → defaultValue (fty cc j) = fval (fty cc j) 0 0 (rv Ω none) := by
  intro cc hcc j hj
  have h : ∀ t : FieldType, (t = .int ∨ t = .long ∨ t = .boolean ∨ (∃ q, t = .array q) ∨ ∃ q, t = .object q) → defaultValue t = fval t 0 0 (rv Ω none) := by
    intro t ht
    rcases ht with rfl | rfl | rfl | ⟨q, rfl⟩ | ⟨q, rfl⟩ <;> rfl
  exact h _ (fty_few hcc hj)
theorem s_new {cc : Nat} {F : Nat × Me → Option (ρ × Me)} (hG : Good Ω Γ y d mc ms) (hL : CLink y.1.cls idx cc) (hg : decode y.2.1 pc = .ok (.new idx, 3)) (hf : c + 1 ≤ mc ∧ s + nfl cc ≤ ms) (k : ∀ p : Nat × Me, Sim Ω Γ mc ms ι nL (pc + 3) lv (vR (some p.1) :: st) p.2 (c + 1) (s + nfl cc) (F p)) : Sim Ω Γ mc ms ι nL pc lv st σ c s ((newO σ cc).bind F) := fun r σ' e hE ls H locs hy => by
  by_cases hz : mz σ < 1000000
  · have e := e_some (v := (mz σ, newC σ (.inl cc) (nfl cc))) (by unfold newO; rw [if_pos hz]) e
    have k := k _ r σ' e hE
    have hKn := hG.2.2.2.2.2.1.1 cc _ (cls_at hL.2.2.2)
    have hts := hG.2.2.2.2.1
    refine W.newcK hG.1 hG.2.1 hG.2.2.2.1 (hts _ hL.1) (hts _ hL.2.1) (hts _ hL.2.2.1) rfl hg (hf_ok hG hf).1 (hf_ok hG hf).2 hKn.2.1 rfl fun H1 kC hkC e1 z1 o1 => ?_
    have hy1 : Hy Ω Γ nL lv (newC σ (.inl cc) (nfl cc)) ls H1 locs := by
      refine hy_new hy ?_ z1 o1
      rw [en_obj (ci := cc) (show mk (newC σ (.inl cc) (nfl cc)) (mz σ) = _ from if_pos rfl)]
      rw [hy.2.2.1] at e1
      refine ⟨_, cls_at hL.2.2.2, (u_born (fty cc) hts (lays_ok cc hL.2.2.2) hKn hkC e1 (fty_ok hL.2.2.2)).to (fun j hj => ?_)⟩
      rw [fls_V hj]
      show defaultValue (fty cc j) = fval (fty cc j) ((if mz σ = mz σ then fun _ => 0 else mi σ (mz σ)) j) ((if mz σ = mz σ then fun _ => 0 else ml σ (mz σ)) j) (rv Ω ((if mz σ = mz σ then fun _ => none else mr σ (mz σ)) j))
      rw [if_pos rfl, if_pos rfl, if_pos rfl]
      exact fty_def hL.2.2.2 hj
    have k := k ls H1 locs hy1
    rw [hy.2.2.1]
    show WW Ω Γ H1 locs (c + 1) (s + nfl cc) (F0 (gM Γ) (pc + 3) ls (.ref (oB Ω + mz σ) :: st.map (tv Ω)))
    rw [← rv_lo (Ω := Ω) hz]
    exact k
  · exact e_none (by unfold newO; rw [if_neg hz]) e
theorem s_newarr {ty : FieldType} {aty : ArrayType} {i : Int32} {B : Nat} {F : Nat × Me → Option (ρ × Me)} (hG : Good Ω Γ y d mc ms) (t0 : Nat) (ht : (tysM Ω)[t0]? = some (oC Ω ty, ty)) (hty : newarray.typeOf aty = ty) (hpr : ty = .int ∨ ty = .byte ∨ ty = .boolean ∨ ty = .long) (hw : Cond.arrayClass ty ∈ T0) (hb : B * componentBytes ty ≤ 536870912) (hg : decode y.2.1 pc = .ok (.newarray aty, 2)) (hf : c + 1 ≤ mc ∧ s + B ≤ ms) (k : ∀ p : Nat × Me, Sim Ω Γ mc ms ι nL (pc + 2) lv (vR (some p.1) :: st) p.2 (c + 1) (s + B) (F p)) : Sim Ω Γ mc ms ι nL pc lv (vI i :: st) σ c s ((newA σ ty i B).bind F) := fun r σ' e hE ls H locs hy => by
  by_cases hz : mz σ < 1000000 ∧ ¬ i < 0 ∧ i.toNatClampNeg ≤ B
  · have e := e_some (v := (mz σ, newC σ (.inr (ty, i.toNatClampNeg)) i.toNatClampNeg)) (by unfold newA; rw [if_pos hz]) e
    have k := k _ r σ' e hE
    subst hty
    obtain ⟨hz, hi, hB⟩ := hz
    refine va_newaK hG.1 hG.2.1 (hG.2.2.2.2.1 _ hw) rfl hg rfl hi rfl (Nat.le_trans (Nat.mul_le_mul_right _ hB) hb) (hf_ok hG hf).1 (Nat.le_trans (Nat.add_le_add_left hB s) (hf_ok hG hf).2) rfl fun H1 cA e1 z1 o1 hAr hNm => ?_
    have hcA : cA = oC Ω (newarray.typeOf aty) := by
      have h5 := (hG.2.2.2.2.2.1.2 t0 _ ht).2
      rcases hpr with h | h | h | h
      all_goals
        rw [h] at h5 hNm ⊢
        exact Option.some.inj (hNm.symm.trans h5)
    have hy1 : Hy Ω Γ nL lv (newC σ (.inr (newarray.typeOf aty, i.toNatClampNeg)) i.toNatClampNeg) ls H1 locs := by
      refine hy_new hy ?_ z1 o1
      rw [en_arr (ty := newarray.typeOf aty) (n := i.toNatClampNeg) (show mk (newC σ (.inr (newarray.typeOf aty, i.toNatClampNeg)) i.toNatClampNeg) (mz σ) = _ from if_pos rfl)]
      rw [hy.2.2.1] at e1
      show H1[oB Ω + mz σ]? = some (vp_cell _ _)
      rw [e1, hcA]
      show some (arrV _ _ _) = some (vp_cell _ (i.toNatClampNeg, acon (newarray.typeOf aty) ((if mz σ = mz σ then fun _ => 0 else mi σ (mz σ))) ((if mz σ = mz σ then fun _ => 0 else ml σ (mz σ))) (fun j => ((if mz σ = mz σ then fun _ => none else mr σ (mz σ)) j).map (ad Ω))))
      rw [if_pos rfl, if_pos rfl, if_pos rfl]
      rcases hpr with h | h | h | h
      all_goals
        rw [h]
        rfl
    have k := k ls H1 locs hy1
    rw [hy.2.2.1]
    refine W.widen (k := c + 1) (n := s + B) (Nat.le_refl _) (Nat.add_le_add_left hB s) ?_
    show WW Ω Γ H1 locs (c + 1) (s + B) (F0 (gM Γ) (pc + 2) ls (.ref (oB Ω + mz σ) :: st.map (tv Ω)))
    rw [← rv_lo (Ω := Ω) hz]
    exact k
  · exact e_none (by unfold newA; rw [if_neg hz]) e
end CALLS
