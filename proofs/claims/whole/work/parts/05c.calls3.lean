section CALLS3
variable {ρ ρ2 : Type} {Ω : Om} {Γ : Ga} {y z : Mt} {d d' mc ms mc' ms' nL pc idx n : Nat} {ι : ρ → Option AV} {ι2 : ρ2 → Option AV} {lv : Lv} {st : List AV} {σ : Me} {c s : Nat} {o : Option (ρ × Me)}
theorem s_getSV {x : Option Nat} {F : Option Nat → Option (ρ × Me)} (hG : Good Ω Γ y d mc ms) (hl : Cond.fieldLink y.1.cls idx "java/lang/String" "value" "[B" ∈ T0) (hd : decode y.2.1 pc = .ok (.getfield idx, 3)) (k : ∀ v, Sim Ω Γ mc ms ι nL (pc + 3) lv (vR v :: st) σ c s (F v)) : Sim Ω Γ mc ms ι nL pc lv (vR x :: st) σ c s ((sVl x).bind F) := fun r σ' e hE ls H locs hy => by
  cases hq : drS x with
  | none => exact e_none (by unfold sVl; rw [hq]; rfl) e
  | some a =>
    obtain ⟨rfl, ha⟩ := drS_spec hq
    have e := e_some (v := some (a + 20)) (by unfold sVl; rw [hq]; rfl) e
    have k := k _ r σ' e hE ls H locs hy
    have hT := hG.2.2.2.2.2.2.1.vl (a - 1000020) (by omega)
    show WW Ω Γ H locs c s (F0 (gM Γ) pc ls (rv Ω (some a) :: st.map (tv Ω)))
    rw [rv_st ha]
    refine vk_getf hG.1 hG.2.1 hT hy.2.2.2 hG.2.2.2.1 (hG.2.2.2.2.1 _ hl) (fun _ h9 => h9) hd ?_
    have k : WW Ω Γ H locs c s (F0 (gM Γ) (pc + 3) ls (rv Ω (some (a + 20)) :: st.map (tv Ω))) := k
    rw [rv_by (b := a + 20) (by omega), show a + 20 - 1000040 = a - 1000020 by omega] at k
    exact k
theorem s_getSC {x : Option Nat} {F : Int32 → Option (ρ × Me)} (hG : Good Ω Γ y d mc ms) (hl : Cond.fieldLink y.1.cls idx "java/lang/String" "coder" "B" ∈ T0) (hd : decode y.2.1 pc = .ok (.getfield idx, 3)) (k : ∀ v, Sim Ω Γ mc ms ι nL (pc + 3) lv (vI v :: st) σ c s (F v)) : Sim Ω Γ mc ms ι nL pc lv (vR x :: st) σ c s ((sCd x).bind F) := fun r σ' e hE ls H locs hy => by
  cases hq : drS x with
  | none => exact e_none (by unfold sCd; rw [hq]; rfl) e
  | some a =>
    obtain ⟨rfl, ha⟩ := drS_spec hq
    have e := e_some (v := 0) (by unfold sCd; rw [hq]; rfl) e
    have k := k _ r σ' e hE ls H locs hy
    have hT := hG.2.2.2.2.2.2.1.co (a - 1000020) (by omega)
    show WW Ω Γ H locs c s (F0 (gM Γ) pc ls (rv Ω (some a) :: st.map (tv Ω)))
    rw [rv_st ha]
    exact vk_getf hG.1 hG.2.1 hT hy.2.2.2 hG.2.2.2.1 (hG.2.2.2.2.1 _ hl) (fun _ h9 => h9) hd k
theorem s_getsZ (hG : Good Ω Γ y d mc ms) (hl : Cond.fieldLink y.1.cls idx "java/lang/String" "COMPACT_STRINGS" "Z" ∈ T0) (hd : decode y.2.1 pc = .ok (.getstatic idx, 3)) (k : Sim Ω Γ mc ms ι nL (pc + 3) lv (vI 1 :: st) σ c s o) : Sim Ω Γ mc ms ι nL pc lv st σ c s o := fun r σ' e hE ls H locs hy =>
  va_gets hG.1 hG.2.1 hG.2.2.2.2.2.2.1.2.2.2.2.1 hy.2.2.2 hG.2.2.2.1 (hG.2.2.2.2.1 _ hl) (fun _ h9 => h9) hd (k r σ' e hE ls H locs hy)
theorem s_getsQ (hG : Good Ω Γ y d mc ms) (hl : Cond.fieldLink y.1.cls idx "jdk/internal/util/Preconditions" "SIOOBE_FORMATTER" "Ljava/util/function/BiFunction;" ∈ T0) (hd : decode y.2.1 pc = .ok (.getstatic idx, 3)) (k : Sim Ω Γ mc ms ι nL (pc + 3) lv (vQ () :: st) σ c s o) : Sim Ω Γ mc ms ι nL pc lv st σ c s o := fun r σ' e hE ls H locs hy =>
  va_gets hG.1 hG.2.1 hG.2.2.2.2.2.2.1.2.2.2.2.2.2.2.2.1 hy.2.2.2 hG.2.2.2.1 (hG.2.2.2.2.1 _ hl) (fun _ h9 => h9) hd (k r σ' e hE ls H locs hy)
theorem s_callTi {As rest : List AV} {x : Option Nat} {f : Nat → Option (Int32 × Me)} {F : Int32 × Me → Option (ρ × Me)} (hG : Good Ω Γ y d mc ms) (hL : VLink y.1.cls idx z n) (hC : ∀ a, Cor Ω z d' mc' ms' (vR (some a) :: As) σ ιI (f a)) (hcc : z.1.cls = "java/lang/String") (hnl : nL = y.2.2.1) (hd : d' + 1 ≤ d) (hg : decode y.2.1 pc = .ok (.invokevirtual idx, 3)) (hn : As.length = n) (hst : st = As.reverse ++ vR x :: rest) (hw : wdt rest ≤ 8) (hf : c + mc' ≤ mc ∧ s + ms' ≤ ms) (k : ∀ p : Int32 × Me, Sim Ω Γ mc ms ι nL (pc + 3) lv (vI p.1 :: rest) p.2 (c + mc') (s + ms') (F p)) : Sim Ω Γ mc ms ι nL pc lv st σ c s ((drS x).bind fun a => (f a).bind F) := fun r σ' e hE ls H locs hy => by
  cases hq : drS x with
  | none => exact e_none hq e
  | some a =>
    obtain ⟨rfl, ha⟩ := drS_spec hq
    have e := e_some hq e
    cases hp : f a with
    | none => exact e_none hp e
    | some p =>
      have e := e_some hp e
      have hM := hC a p.1 p.2 hp
      refine aw_run (rest := rest) (r := ιI p.1) (a0 := (Value.ref (oK Ω (a - 1000020)) :: As.map (tv Ω)).toArray) hy ?_ (k p r σ' e hE)
      subst hst
      have hM : Met (oL Ω) z.1 (Cond.code z.1 z.2.1 z.2.2.1 z.2.2.2 :: T0) (rmD d' mc' ms') (va_Pc (rv Ω (some a) :: As.map (tv Ω)) (Wd Ω σ)) (QcM Ω (ιI p.1) p.2) mc' ms' (oF Ω) := hM
      rw [rv_st ha] at hM
      rw [st_ok, show tv Ω (vR (some a)) = .ref (oK Ω (a - 1000020)) from rv_st ha]
      refine va_runV (Ts := T0) (nL := nL) (bytes := z.2.1) (maxL := z.2.2.1) (ret := z.2.2.2) (C := z.1.cls) ⟨hG.1, hG.2.1, nl_ok hG hnl, hG.2.2.2.1, hG.2.2.2.2.1⟩ hM ⟨cb_of hG hL.1 hL.2.1 hd, hG.2.2.2.2.1 _ hL.2.2.1, hG.2.2.2.2.1 _ hL.2.2.2⟩ ⟨wd_blind _ _ _, ?_, fun U hU hW => ⟨rfl, wd_go hG hy hU hW⟩⟩ rfl (by rw [List.length_map]; exact hn) hy.1.1 rfl (lv_room (rest_ok hw)) hg (hf_ok hG hf)
      rw [hcc]
      exact hG.2.2.2.2.2.2.1.rc (a - 1000020) (by omega) hy.2.2.2
/-- a copy of an array of ints -/
def clC (σ : Me) (a n : Nat) : Me := (fun b => if b = mz σ then .inr (.int, n) else mk σ b, fun b => if b = mz σ then mi σ a else mi σ b, ml σ, mr σ, mz σ + 1, mn σ + n)
def clA (σ : Me) (r : Option Nat) (B : Nat) : Option (Nat × Me) := match r with
  | none => none
  | some a => match mk σ a with
    | .inr (t, n) => if t = .int ∧ a < mz σ ∧ a < 1000000 ∧ mz σ < 1000000 ∧ n ≤ B then some (mz σ, clC σ a n) else none
    | _ => none
theorem s_clone {x : Option Nat} {B : Nat} {F : Nat × Me → Option (ρ × Me)} (hG : Good Ω Γ y d mc ms)
    (hlink : Cond.methodLink y.1.cls idx ⟨"[I", "clone", "()Ljava/lang/Object;"⟩ ∈ T0) (hsame : Cond.sameMethod "[I" "java/lang/Object" "clone" "()Ljava/lang/Object;" ∈ T0) (hnat : Cond.native ⟨"java/lang/Object", "clone", "()Ljava/lang/Object;"⟩ ∈ T0) (hinst : Cond.instanceMethod ⟨"java/lang/Object", "clone", "()Ljava/lang/Object;"⟩ ∈ T0)
    (hsel : Cond.selects "[I" ⟨"[I", "clone", "()Ljava/lang/Object;"⟩ ⟨"java/lang/Object", "clone", "()Ljava/lang/Object;"⟩ ∈ T0) (hnl : nL = y.2.2.1) (hd1 : 1 ≤ d) (hd : decode y.2.1 pc = .ok (.invokevirtual idx, 3)) (hw : wdt st ≤ 8) (hf : c + 1 ≤ mc ∧ s + B ≤ ms) (k : ∀ p : Nat × Me, clA σ x B = some p → Sim Ω Γ mc ms ι nL (pc + 3) lv (vR (some p.1) :: st) p.2 (c + 1) (s + B) (F p)) : Sim Ω Γ mc ms ι nL pc lv (vR x :: st) σ c s ((clA σ x B).bind F) := fun r σ' e hE ls H locs hy => by
  cases x with
  | none => exact e_none rfl e
  | some a =>
  cases hm : mk σ a with
  | inl q => exact e_none (by unfold clA; simp only; rw [hm]) e
  | inr q =>
  obtain ⟨t, n⟩ := q
  by_cases hc : t = .int ∧ a < mz σ ∧ a < 1000000 ∧ mz σ < 1000000 ∧ n ≤ B
  · have e := e_some (v := (mz σ, clC σ a n)) (by unfold clA; simp only; rw [hm]; exact if_pos hc) e
    have k := k (mz σ, clC σ a n) (by unfold clA; simp only; rw [hm]; exact if_pos hc) r σ' e hE
    obtain ⟨rfl, h1, h2, h3, h4⟩ := hc
    have hk : Kd σ a (.inr (.int, n)) := ⟨hm, h1, h2⟩
    have hts := hG.2.2.2.2.1
    have hK := (hG.2.2.2.2.2.1.2 0 (oC Ω .int, .int) rfl)
    have hnm : (gS Γ).vm.findClass "[I" = some (oC Ω .int) := hK.2
    obtain ⟨c0, t0', f1, f2, f3⟩ := Cond.castable_spec (va_Nw.use (A := gA Γ) rfl hG.2.2.2.2.2.2.1.2.2.2.2.2.2.2.2.2)
    cases hnm.symm.trans f1
    have hr := hG.2.2.2.2.2.2.2.1
    have hw2 := rest_ok (Ω := Ω) hw
    show WW Ω Γ H locs c s (F0 (gM Γ) pc ls (rv Ω (some a) :: st.map (tv Ω)))
    rw [rv_lo h2]
    intro T hT X
    have hcell : T.heap[oB Ω + a]? = some (vp_cell (oC Ω .int) (n, .inl (mi σ a))) := by rw [hT]; exact hy.2.1 a _ (ws_arr hk)
    obtain ⟨-, kA, hkA, comp, hkind⟩ := State.isArrayOf_alike X.warmed.alike (hK.1 0 (fun _ => .null))
    obtain ⟨-, kS, hkS, compS, hkindS⟩ := hK.1 0 (fun _ => .null)
    have hsz : (vp_cell (oC Ω .int) (n, .inl (mi σ a))).slots.size = n := arrV_size _ _ _
    obtain ⟨vm', X', step⟩ := X.cloneArray hG.1 hG.2.2.2.1 (hts _ hlink) (hts _ hsame) (hts _ hnat) (hts _ hinst) (hts _ hsel) (a := oB Ω + a) (cell := vp_cell (oC Ω .int) (n, .inl (mi σ a))) hcell (fun k h => by cases h) (fun h => by cases h) hnm f2 f3
      (fun i v hv => by
        have hk' : T.vm.classes[oC Ω .int]? = some kA := hkA
        have hlt : i < n := by have := (Array.getElem?_eq_some_iff.mp hv).1; rw [hsz] at this; exact this
        have hv' : (arrV (oC Ω .int) n (fun j => .int (mi σ a j))).slots[i]? = some v := hv
        rw [arrV_read _ _ hlt] at hv'
        cases hv'
        show T.fitsSlot (oC Ω .int) _ i _ = true
        simp [State.fitsSlot, State.slotType?, hk', hkind, fits])
      (g := F0 (gM Γ) pc ls (.ref (oB Ω + a) :: st.map (tv Ω))) rfl (by rw [nl_ok hG hnl]; exact hy.1.1) rfl (by rw [hG.2.1]; exact hd) (by omega) (by show 2 * 0 + _ + 14 ≤ _; omega) (hf_ok hG hf).1 (by rw [hsz]; exact Nat.le_trans (Nat.add_le_add_left h4 s) (hf_ok hG hf).2) (hloader := Vm.clonesLoader_of_array hkS hkindS)
    rw [hsz] at X'
    have hy1 : Hy Ω Γ nL lv (clC σ a n) ls (H.push (vp_cell (oC Ω .int) (n, .inl (mi σ a)))) locs := by
      have o1 : ∀ q : Nat, q < H.size → (H.push (vp_cell (oC Ω .int) (n, .inl (mi σ a))))[q]? = H[q]? := fun q hq => by rw [Array.getElem?_push, if_neg (Nat.ne_of_lt hq)]
      refine ⟨hy.1, ?_, by rw [Array.size_push, hy.2.2.1]; rfl, Nat.le_trans hy.2.2.2.1 (by rw [Array.size_push]; omega), fun q g1 g2 => (o1 q (Nat.lt_of_lt_of_le g1 hy.2.2.2.1)).trans (hy.2.2.2.2.1 q g1 g2), hy.2.2.2.2.2⟩
      intro i q hi
      obtain ⟨e1, e2⟩ := ws_key hi
      subst e1
      have e2 : i < mz σ + 1 := e2
      by_cases hka : i = mz σ
      · subst hka
        rw [en_arr (ty := .int) (n := n) (show mk (clC σ a n) (mz σ) = _ from if_pos rfl), show mi (clC σ a n) (mz σ) = mi σ a from if_pos rfl]
        show (H.push _)[oB Ω + mz σ]? = some _
        rw [← hy.2.2.1, Array.getElem?_push_size]
        rfl
      · have en : En Ω (clC σ a n) i = En Ω σ i := by
          unfold En
          rw [show mk (clC σ a n) i = mk σ i from if_neg hka, show mi (clC σ a n) i = mi σ i from if_neg hka]
          rfl
        rw [en]
        exact (hy.2.1 i _ (ws_at (by omega))).kept (o1 _ (by rw [hy.2.2.1]; omega))
    have k := k ls _ locs hy1
    have k : WW Ω Γ (H.push (vp_cell (oC Ω .int) (n, .inl (mi σ a)))) locs (c + 1) (s + B) (F0 (gM Γ) (pc + 3) ls (rv Ω (some (mz σ)) :: st.map (tv Ω))) := k
    rw [rv_lo h3] at k
    have k := W.widen (k := c + 1) (n := s + B) (Nat.le_refl _) (Nat.add_le_add_left h4 s) k
    obtain ⟨t2, b1, b2⟩ := k _ (by show (T.heap.push _) = _; rw [hT]; rfl) X'
    refine ⟨t2, step t2 ?_, b2⟩
    rw [hT, hy.2.2.1]
    exact b1
  · exact e_none (by unfold clA; simp only; rw [hm]; exact if_neg hc) e
abbrev vX (_ : Unit) : AV := vR (some 1000006)
/-- the script -/
def ldX (L : Nat) (xs : Nat → Int32) (i : Int32) : Option Int32 := if ¬ i < 0 ∧ i.toNatClampNeg < L then some (xs i.toNatClampNeg) else none
theorem rv_X {Ω : Om} : rv Ω (some 1000006) = .ref (oX Ω).1 := by
  have a1 : ¬ 1000006 < 1000000 := by omega
  have a2 : ¬ 1000006 < 1000006 := by omega
  simp only [rv, va_rf, Option.map_some, ad, if_neg a1, if_neg a2, if_pos]
theorem s_xald {L : Nat} {xs : Nat → Int32} {i : Int32} {F : Int32 → Option (ρ × Me)} (hG : Good Ω Γ y d mc ms) (hX : (oX Ω).2.1 = L ∧ (oX Ω).2.2 = xs) (hd : decode y.2.1 pc = .ok (.iaload, 1)) (k : ∀ v, Sim Ω Γ mc ms ι nL (pc + 1) lv (vI v :: st) σ c s (F v)) : Sim Ω Γ mc ms ι nL pc lv (vI i :: vX () :: st) σ c s ((ldX L xs i).bind F) := fun r σ' e hE ls H locs hy => by
  by_cases hs : ¬ i < 0 ∧ i.toNatClampNeg < L
  · have e := e_some (v := xs i.toNatClampNeg) (by unfold ldX; rw [if_pos hs]) e
    have k := k _ r σ' e hE ls H locs hy
    obtain ⟨rfl, rfl⟩ := hX
    show WW Ω Γ H locs c s (F0 (gM Γ) pc ls (.int i :: rv Ω (some 1000006) :: st.map (tv Ω)))
    rw [rv_X]
    exact va_ti hG.1 hG.2.1 hG.2.2.2.2.2.2.1.2.1 hy.2.2.2 (nI_cl hs.1 hs.2) rfl hd k
  · exact e_none (by unfold ldX; rw [if_neg hs]) e
theorem s_xlen {L : Nat} {xs : Nat → Int32} (hG : Good Ω Γ y d mc ms) (hX : (oX Ω).2.1 = L ∧ (oX Ω).2.2 = xs) (hd : decode y.2.1 pc = .ok (.arraylength, 1)) (k : Sim Ω Γ mc ms ι nL (pc + 1) lv (vI (nI L) :: st) σ c s o) : Sim Ω Γ mc ms ι nL pc lv (vX () :: st) σ c s o := fun r σ' e hE ls H locs hy => by
  have k := k r σ' e hE ls H locs hy
  obtain ⟨rfl, rfl⟩ := hX
  show WW Ω Γ H locs c s (F0 (gM Γ) pc ls (rv Ω (some 1000006) :: st.map (tv Ω)))
  rw [rv_X]
  exact va_tlen hG.1 hG.2.1 hG.2.2.2.2.2.2.1.2.1 hy.2.2.2 rfl hd k
theorem clA_kd {x : Option Nat} {B : Nat} {p : Nat × Me} (h : clA σ x B = some p) : ∃ n, Kd p.2 p.1 (.inr (.int, n)) := by
  cases x with
  | none => cases h
  | some a =>
    unfold clA at h
    simp only at h
    split at h
    · rename_i t n hm
      split at h
      · rename_i hc
        cases h
        exact ⟨n, if_pos rfl, Nat.lt_succ_self _, hc.2.2.2.1⟩
      · cases h
    · cases h
theorem s_castA {a : Nat} (hG : Good Ω Γ y d mc ms) (hl : Cond.classLink y.1.cls idx "[I" ∈ T0) (hk : ∀ r σ', o = some (r, σ') → ∃ n, Kd σ a (.inr (.int, n))) (hd : decode y.2.1 pc = .ok (.checkcast idx, 3)) (k : Sim Ω Γ mc ms ι nL (pc + 3) lv (vR (some a) :: st) σ c s o) : Sim Ω Γ mc ms ι nL pc lv (vR (some a) :: st) σ c s o := fun r σ' e hE ls H locs hy => by
  obtain ⟨n, hk⟩ := hk r σ' e
  have k := k r σ' e hE ls H locs hy
  have k : WW Ω Γ H locs c s (F0 (gM Γ) (pc + 3) ls (rv Ω (some a) :: st.map (tv Ω))) := k
  show WW Ω Γ H locs c s (F0 (gM Γ) pc ls (rv Ω (some a) :: st.map (tv Ω)))
  rw [rv_lo hk.2.2] at k ⊢
  exact va_castA hG.1 hG.2.1 hG.2.2.2.1 (hG.2.2.2.2.1 _ hl) hy.2.1 a (ws_arr hk) (hG.2.2.2.2.2.1.2 0 (oC Ω .int, .int) rfl).2 hd k
end CALLS3
