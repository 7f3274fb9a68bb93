section CALLS
variable {Ω : Om} {Γ : Ga} {y z : Mt} {d d' mc ms mc' ms' nL pc idx n : Nat} {lv : List (Nat × Value)} {st : List Value} {S S' : Sl} {h h' : Hp} {cells slots : Nat} {r : Option Value}
def CodeIn (z : Mt) (n : Nat) : Prop := Cond.code z.1 z.2.1 z.2.2.1 z.2.2.2 ∈ T0 ∧ Cond.initialized z.1.cls ∈ T0 ∧ (z.1.cls ≠ "java/lang/invoke/MethodHandle" ∧ z.1.cls ≠ "java/lang/invoke/VarHandle" ∧ (parseMethodDescriptor z.1.desc).map (fun d => d.parameters.length) = some n) ∧ z.2.2.1 ≤ 40
def VLink (own : String) (idx : Nat) (z : Mt) (n : Nat) : Prop := CodeIn z n ∧ Cond.methodLink own idx z.1 ∈ T0 ∧ Cond.instanceMethod z.1 ∈ T0 ∧ Cond.selects z.1.cls z.1 z.1 ∈ T0
def SLink (own : String) (idx : Nat) (z : Mt) (n : Nat) : Prop := CodeIn z n ∧ Cond.methodLink own idx z.1 ∈ T0 ∧ Cond.static z.1 ∈ T0
def ILink (own : String) (idx : Nat) (z : Mt) (n : Nat) : Prop := CodeIn z n ∧ Cond.methodLink own idx z.1 ∈ T0 ∧ Cond.instanceMethod z.1 ∈ T0 ∧ z.1.name = "<init>" ∧ z.2.2.2 = none
theorem wd_blind (Ω : Om) (as : List Value) (S : Sl) (h : Hp) : FrameBlind (va_Pc as (Wd Ω S h)) := fun a U g mk q => ⟨q.1, q.2.1, q.2.2.1, va_K.moved (u := U) (U := U.calling g mk a) (Vm.Alike.refl U.vm) q.2.2.2.1, Stat.same (u := U) (U := U.calling g mk a) rfl q.2.2.2.2⟩
theorem wd_go (hG : Good Ω Γ y d mc ms) {H : Heap} {locs : List Loc} (h2 : va_P (oD Ω) classes (wsM Ω S h) H) (h3 : H.size = oB Ω + S.2.2.2) (h4 : va_S (oF Ω) (gS Γ).heap H locs) {U : State} (hU : U.heap = H) (hW : (gS Γ).WarmedH U.vm) : Wd Ω S h U :=
  ⟨by rw [hU]; exact h2, by rw [hU]; exact h3, hG.2.2.2.2.2.1.moved hW.alike, by rw [hU]; exact Stat.go hW (fun a ha hn => h4.2.1 a ha hn) hG.2.2.2.2.2.2.1⟩
theorem ws_in {z : Mt} {n : Nat} (h : CodeIn z n) : GoodIn T0 (Cond.code z.1 z.2.1 z.2.2.1 z.2.2.2 :: T0) := T0_in _ (fun w hw => by
  rcases List.mem_cons.mp hw with rfl | hw
  · exact h.1
  · exact hw)
theorem cb_of (hG : Good Ω Γ y d mc ms) (hC : CodeIn z n) (hl : Cond.methodLink y.1.cls idx z.1 ∈ T0) (hd : d' + 1 ≤ d) : CallB (gR Γ) (gS Γ) (gA Γ) y.1.cls idx z.1 z.2.1 z.2.2.1 z.2.2.2 (Cond.code z.1 z.2.1 z.2.2.1 z.2.2.2 :: T0) (rmD d' mc' ms') mc' ms' n := by
  refine callB_of (Ts := T0) n hG.2.2.2.2.1 (ws_in hC) rfl rfl rfl (hG.2.2.2.2.1 _ hC.2.1) (hG.2.2.2.2.1 _ hl) hC.2.2.1 ⟨?_, ?_⟩
  · show d' + 1 ≤ _
    have := hG.2.2.2.2.2.2.2.1.1
    omega
  · show 8 + (z.2.2.1 + 11) + 64 * d' ≤ _
    have h1 := hG.2.2.2.2.2.2.2.1.2.1
    have h2 := hC.2.2.2
    omega
theorem nl_ok (hG : Good Ω Γ y d mc ms) {ls : Array Slot} (h1 : lv_has ls nL lv) (hy : nL = y.2.2.1) : (gC Γ).maxLocals = nL := by rw [hy]; exact hG.2.2.1
theorem aw_run {rest : List Value} (hr : ∀ (ls : Array Slot) (H : Heap) (locs : List Loc), lv_has ls nL lv → va_P (oD Ω) classes (wsM Ω S h) H → (H.size = oB Ω + S.2.2.2 ∧ (gS Γ).heap.size + cells = oB Ω + S.2.2.2) → va_S (oF Ω) (gS Γ).heap H locs → ∃ a0, va_Run (gP Γ) (oL Ω) (gE Γ) (gR Γ) (gS Γ) (gM Γ) (gA Γ) (gB Γ) (gH Γ) (gC Γ) H locs cells slots mc' ms' (F0 (gM Γ) pc ls st) rest (QcM Ω r S' h' a0) (oF Ω)) (hm : S'.2.2.2 = S.2.2.2 + mc') (k : AW Ω Γ nL (pc + 3) lv (r.toList ++ rest) S' h' (cells + mc') (slots + ms')) : AW Ω Γ nL pc lv st S h cells slots := by
  intro ls H locs h1 h2 h3 h4 T hT X
  obtain ⟨a0, hr⟩ := hr ls H locs h1 h2 h3 h4
  obtain ⟨v, st₀, t, T', L, e0, X', hL, e1, e2, ⟨hv, hP, hz, hF⟩, go⟩ := hr T hT X
  have hv' : v = r := Outcome.returned.inj hv
  subst hv'
  obtain ⟨t2, a1, b1⟩ := k ls T'.heap (locs ++ L) h1 (by rw [e1]; exact hP) ⟨by rw [e1]; exact hz, by rw [hm]; omega⟩
    ⟨Nat.le_trans h4.1 (by rw [e1, ← e0]; exact hF.1), fun q g1 g2 => by rw [e1, hF.2 q (by rw [e0]; exact Nat.lt_of_lt_of_le g1 h4.1) g2, e0]; exact h4.2.1 q g1 g2, fun q hq => by
      rcases List.mem_append.mp hq with g | g
      · exact h4.2.2 q g
      · exact hL q g⟩ T' rfl X'
  exact ⟨t2, go t2 a1, b1⟩
theorem r_callV {As rest : List Value} {a c : Nat} (hG : Good Ω Γ y d mc ms) (hL : VLink y.1.cls idx z n) (hM : Spec Ω z d' mc' ms' (.ref (oB Ω + a) :: As) S h r S' h') (hk : Kd S a (.inl c)) (hc : c < 13 ∧ fN c = z.1.cls) (hy : nL = y.2.2.1) (hd : d' + 1 ≤ d) (hg : decode y.2.1 pc = .ok (.invokevirtual idx, 3)) (hn : As.length = n) (hst : st = As.reverse ++ .ref (oB Ω + a) :: rest) (hw : (rest.map fun v => v.category).sum ≤ 8) (hf : cells + mc' ≤ mc ∧ slots + ms' ≤ ms) (hm : S'.2.2.2 = S.2.2.2 + mc') (k : AW Ω Γ nL (pc + 3) lv (r.toList ++ rest) S' h' (cells + mc') (slots + ms')) : AW Ω Γ nL pc lv st S h cells slots := by
  refine aw_run (rest := rest) (fun ls H locs h1 h2 h3 h4 => ⟨(Value.ref (oB Ω + a) :: As).toArray, ?_⟩) hm k
  subst hst
  refine va_runV (Ts := T0) (nL := nL) (bytes := z.2.1) (maxL := z.2.2.1) (ret := z.2.2.2) (C := z.1.cls) ⟨hG.1, hG.2.1, nl_ok hG h1 hy, hG.2.2.2.1, hG.2.2.2.2.1⟩ hM ⟨cb_of hG hL.1 hL.2.1 hd, hG.2.2.2.2.1 _ hL.2.2.1, hG.2.2.2.2.1 _ hL.2.2.2⟩ ⟨wd_blind _ _ _ _, ?_, fun U hU hW => ⟨rfl, wd_go hG h2 h3.1 h4 hU hW⟩⟩ rfl hn h1.1 rfl (lv_room hw) hg ?_
  · have := va_recv hG.2.2.2.2.2.1 h2 (cls_at hc.1) (ws_obj hk)
    rw [show (fN c, fT c, nfl c).1 = z.1.cls from hc.2] at this
    exact this
  · rw [hG.2.2.2.2.2.2.2.1.2.2.1, hG.2.2.2.2.2.2.2.1.2.2.2]; exact hf
theorem r_callS {As rest : List Value} (hG : Good Ω Γ y d mc ms) (hL : SLink y.1.cls idx z n) (hM : Spec Ω z d' mc' ms' As S h r S' h') (hy : nL = y.2.2.1) (hd : d' + 1 ≤ d) (hg : decode y.2.1 pc = .ok (.invokestatic idx, 3)) (hn : As.length = n) (hst : st = As.reverse ++ rest) (hw : (rest.map fun v => v.category).sum ≤ 8) (hf : cells + mc' ≤ mc ∧ slots + ms' ≤ ms) (hm : S'.2.2.2 = S.2.2.2 + mc') (k : AW Ω Γ nL (pc + 3) lv (r.toList ++ rest) S' h' (cells + mc') (slots + ms')) : AW Ω Γ nL pc lv st S h cells slots := by
  refine aw_run (rest := rest) (fun ls H locs h1 h2 h3 h4 => ⟨As.toArray, ?_⟩) hm k
  subst hst
  refine va_runS (Ts := T0) (nL := nL) (bytes := z.2.1) (maxL := z.2.2.1) (ret := z.2.2.2) ⟨hG.1, hG.2.1, nl_ok hG h1 hy, hG.2.2.2.1, hG.2.2.2.2.1⟩ hM ⟨cb_of hG hL.1 hL.2.1 hd, hG.2.2.2.2.1 _ hL.2.2⟩ ⟨wd_blind _ _ _ _, fun U hU hW => ⟨rfl, wd_go hG h2 h3.1 h4 hU hW⟩⟩ rfl hn h1.1 rfl (lv_room hw) hg ?_
  rw [hG.2.2.2.2.2.2.2.1.2.2.1, hG.2.2.2.2.2.2.2.1.2.2.2]; exact hf
theorem r_callI {As rest : List Value} {a : Nat} (hG : Good Ω Γ y d mc ms) (hL : ILink y.1.cls idx z n) (hM : Spec Ω z d' mc' ms' (.ref a :: As) S h r S' h') (hy : nL = y.2.2.1) (hd : d' + 1 ≤ d) (hg : decode y.2.1 pc = .ok (.invokespecial idx, 3)) (hn : As.length = n) (hst : st = As.reverse ++ .ref a :: rest) (hw : (rest.map fun v => v.category).sum ≤ 8) (hf : cells + mc' ≤ mc ∧ slots + ms' ≤ ms) (hm : S'.2.2.2 = S.2.2.2 + mc') (k : AW Ω Γ nL (pc + 3) lv (r.toList ++ rest) S' h' (cells + mc') (slots + ms')) : AW Ω Γ nL pc lv st S h cells slots := by
  refine aw_run (rest := rest) (fun ls H locs h1 h2 h3 h4 => ⟨(Value.ref a :: As).toArray, ?_⟩) hm k
  subst hst
  have cb := cb_of (mc' := mc') (ms' := ms') hG hL.1 hL.2.1 hd
  have hM : Met (oL Ω) z.1 (Cond.code z.1 z.2.1 z.2.2.1 z.2.2.2 :: T0) (rmD d' mc' ms') (va_Pc (.ref a :: As) (Wd Ω S h)) (QcM Ω r S' h') mc' ms' (oF Ω) := hM
  rw [hL.2.2.2.2] at cb hM
  refine va_runI (Ts := T0) (nL := nL) (bytes := z.2.1) (maxL := z.2.2.1) ⟨hG.1, hG.2.1, nl_ok hG h1 hy, hG.2.2.2.1, hG.2.2.2.2.1⟩ hM ⟨cb, hL.2.2.2.1, hG.2.2.2.2.1 _ hL.2.2.1⟩ ⟨wd_blind _ _ _ _, fun U hU hW => ⟨rfl, wd_go hG h2 h3.1 h4 hU hW⟩⟩ rfl hn h1.1 rfl (lv_room hw) hg ?_
  rw [hG.2.2.2.2.2.2.2.1.2.2.1, hG.2.2.2.2.2.2.2.1.2.2.2]; exact hf
end CALLS
