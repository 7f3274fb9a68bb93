section CALLS2
variable {ρ : Type} {Ω : Om} {Γ : Ga} {y z : Mt} {d d' mc ms mc' ms' nL pc idx n : Nat} {ι : ρ → Option AV} {lv : Lv} {st : List AV} {σ : Me} {c s : Nat} {o : Option (ρ × Me)}
theorem s_widen {c2 s2 : Nat} (hc : c ≤ c2) (hs : s ≤ s2) (k : Sim Ω Γ mc ms ι nL pc lv st σ c2 s2 o) : Sim Ω Γ mc ms ι nL pc lv st σ c s o := fun r σ' e hE ls H locs hy => W.widen hc hs (k r σ' e hE ls H locs hy)
theorem s_callVi {As rest : List AV} {cc : Nat} {x : Option Nat} {f : Nat → Option (Int32 × Me)} {F : Int32 × Me → Option (ρ × Me)} (hG : Good Ω Γ y d mc ms) (hL : VLink y.1.cls idx z n) (hC : ∀ a, Cor Ω z d' mc' ms' (vR (some a) :: As) σ ιI (f a)) (hcc : cc < 13 ∧ fN cc = z.1.cls) (hnl : nL = y.2.2.1) (hd : d' + 1 ≤ d) (hg : decode y.2.1 pc = .ok (.invokevirtual idx, 3)) (hn : As.length = n) (hst : st = As.reverse ++ vR x :: rest) (hw : wdt rest ≤ 8) (hf : c + mc' ≤ mc ∧ s + ms' ≤ ms) (k : ∀ p : Int32 × Me, Sim Ω Γ mc ms ι nL (pc + 3) lv (vI p.1 :: rest) p.2 (c + mc') (s + ms') (F p)) : Sim Ω Γ mc ms ι nL pc lv st σ c s ((dr σ x (.inl cc)).bind fun a => (f a).bind F) := s_callV hG hL hC hcc hnl hd hg hn hst hw hf k
theorem s_callSi {As rest : List AV} {f : Option (Int32 × Me)} {F : Int32 × Me → Option (ρ × Me)} (hG : Good Ω Γ y d mc ms) (hL : SLink y.1.cls idx z n) (hC : Cor Ω z d' mc' ms' As σ ιI f) (hnl : nL = y.2.2.1) (hd : d' + 1 ≤ d) (hg : decode y.2.1 pc = .ok (.invokestatic idx, 3)) (hn : As.length = n) (hst : st = As.reverse ++ rest) (hw : wdt rest ≤ 8) (hf : c + mc' ≤ mc ∧ s + ms' ≤ ms) (k : ∀ p : Int32 × Me, Sim Ω Γ mc ms ι nL (pc + 3) lv (vI p.1 :: rest) p.2 (c + mc') (s + ms') (F p)) : Sim Ω Γ mc ms ι nL pc lv st σ c s (f.bind F) := s_callS hG hL hC hnl hd hg hn hst hw hf k
theorem s_callNSi {As rest : List AV} {host : String} {f : Option (Int32 × Me)} {F : Int32 × Me → Option (ρ × Me)} (hG : Good Ω Γ y d mc ms) (hL : NSLink y.1.cls idx z n host) (hC : Cor Ω z d' mc' ms' As σ ιI f) (hnl : nL = y.2.2.1) (hd : d' + 1 ≤ d) (hg : decode y.2.1 pc = .ok (.invokestatic idx, 3)) (hn : As.length = n) (hst : st = As.reverse ++ rest) (hw : wdt rest ≤ 8) (hf : c + mc' ≤ mc ∧ s + ms' ≤ ms) (k : ∀ p : Int32 × Me, Sim Ω Γ mc ms ι nL (pc + 3) lv (vI p.1 :: rest) p.2 (c + mc') (s + ms') (F p)) : Sim Ω Γ mc ms ι nL pc lv st σ c s (f.bind F) := s_callNS hG hL hC hnl hd hg hn hst hw hf k
theorem s_callVl {As rest : List AV} {cc : Nat} {x : Option Nat} {f : Nat → Option (Int64 × Me)} {F : Int64 × Me → Option (ρ × Me)} (hG : Good Ω Γ y d mc ms) (hL : VLink y.1.cls idx z n) (hC : ∀ a, Cor Ω z d' mc' ms' (vR (some a) :: As) σ ιL (f a)) (hcc : cc < 13 ∧ fN cc = z.1.cls) (hnl : nL = y.2.2.1) (hd : d' + 1 ≤ d) (hg : decode y.2.1 pc = .ok (.invokevirtual idx, 3)) (hn : As.length = n) (hst : st = As.reverse ++ vR x :: rest) (hw : wdt rest ≤ 8) (hf : c + mc' ≤ mc ∧ s + ms' ≤ ms) (k : ∀ p : Int64 × Me, Sim Ω Γ mc ms ι nL (pc + 3) lv (vL p.1 :: rest) p.2 (c + mc') (s + ms') (F p)) : Sim Ω Γ mc ms ι nL pc lv st σ c s ((dr σ x (.inl cc)).bind fun a => (f a).bind F) := s_callV hG hL hC hcc hnl hd hg hn hst hw hf k
theorem s_callSl {As rest : List AV} {f : Option (Int64 × Me)} {F : Int64 × Me → Option (ρ × Me)} (hG : Good Ω Γ y d mc ms) (hL : SLink y.1.cls idx z n) (hC : Cor Ω z d' mc' ms' As σ ιL f) (hnl : nL = y.2.2.1) (hd : d' + 1 ≤ d) (hg : decode y.2.1 pc = .ok (.invokestatic idx, 3)) (hn : As.length = n) (hst : st = As.reverse ++ rest) (hw : wdt rest ≤ 8) (hf : c + mc' ≤ mc ∧ s + ms' ≤ ms) (k : ∀ p : Int64 × Me, Sim Ω Γ mc ms ι nL (pc + 3) lv (vL p.1 :: rest) p.2 (c + mc') (s + ms') (F p)) : Sim Ω Γ mc ms ι nL pc lv st σ c s (f.bind F) := s_callS hG hL hC hnl hd hg hn hst hw hf k
theorem s_callNSl {As rest : List AV} {host : String} {f : Option (Int64 × Me)} {F : Int64 × Me → Option (ρ × Me)} (hG : Good Ω Γ y d mc ms) (hL : NSLink y.1.cls idx z n host) (hC : Cor Ω z d' mc' ms' As σ ιL f) (hnl : nL = y.2.2.1) (hd : d' + 1 ≤ d) (hg : decode y.2.1 pc = .ok (.invokestatic idx, 3)) (hn : As.length = n) (hst : st = As.reverse ++ rest) (hw : wdt rest ≤ 8) (hf : c + mc' ≤ mc ∧ s + ms' ≤ ms) (k : ∀ p : Int64 × Me, Sim Ω Γ mc ms ι nL (pc + 3) lv (vL p.1 :: rest) p.2 (c + mc') (s + ms') (F p)) : Sim Ω Γ mc ms ι nL pc lv st σ c s (f.bind F) := s_callNS hG hL hC hnl hd hg hn hst hw hf k
theorem s_callVr {As rest : List AV} {cc : Nat} {x : Option Nat} {f : Nat → Option (Option Nat × Me)} {F : Option Nat × Me → Option (ρ × Me)} (hG : Good Ω Γ y d mc ms) (hL : VLink y.1.cls idx z n) (hC : ∀ a, Cor Ω z d' mc' ms' (vR (some a) :: As) σ ιR (f a)) (hcc : cc < 13 ∧ fN cc = z.1.cls) (hnl : nL = y.2.2.1) (hd : d' + 1 ≤ d) (hg : decode y.2.1 pc = .ok (.invokevirtual idx, 3)) (hn : As.length = n) (hst : st = As.reverse ++ vR x :: rest) (hw : wdt rest ≤ 8) (hf : c + mc' ≤ mc ∧ s + ms' ≤ ms) (k : ∀ p : Option Nat × Me, Sim Ω Γ mc ms ι nL (pc + 3) lv (vR p.1 :: rest) p.2 (c + mc') (s + ms') (F p)) : Sim Ω Γ mc ms ι nL pc lv st σ c s ((dr σ x (.inl cc)).bind fun a => (f a).bind F) := s_callV hG hL hC hcc hnl hd hg hn hst hw hf k
theorem s_callSr {As rest : List AV} {f : Option (Option Nat × Me)} {F : Option Nat × Me → Option (ρ × Me)} (hG : Good Ω Γ y d mc ms) (hL : SLink y.1.cls idx z n) (hC : Cor Ω z d' mc' ms' As σ ιR f) (hnl : nL = y.2.2.1) (hd : d' + 1 ≤ d) (hg : decode y.2.1 pc = .ok (.invokestatic idx, 3)) (hn : As.length = n) (hst : st = As.reverse ++ rest) (hw : wdt rest ≤ 8) (hf : c + mc' ≤ mc ∧ s + ms' ≤ ms) (k : ∀ p : Option Nat × Me, Sim Ω Γ mc ms ι nL (pc + 3) lv (vR p.1 :: rest) p.2 (c + mc') (s + ms') (F p)) : Sim Ω Γ mc ms ι nL pc lv st σ c s (f.bind F) := s_callS hG hL hC hnl hd hg hn hst hw hf k
theorem s_callNSr {As rest : List AV} {host : String} {f : Option (Option Nat × Me)} {F : Option Nat × Me → Option (ρ × Me)} (hG : Good Ω Γ y d mc ms) (hL : NSLink y.1.cls idx z n host) (hC : Cor Ω z d' mc' ms' As σ ιR f) (hnl : nL = y.2.2.1) (hd : d' + 1 ≤ d) (hg : decode y.2.1 pc = .ok (.invokestatic idx, 3)) (hn : As.length = n) (hst : st = As.reverse ++ rest) (hw : wdt rest ≤ 8) (hf : c + mc' ≤ mc ∧ s + ms' ≤ ms) (k : ∀ p : Option Nat × Me, Sim Ω Γ mc ms ι nL (pc + 3) lv (vR p.1 :: rest) p.2 (c + mc') (s + ms') (F p)) : Sim Ω Γ mc ms ι nL pc lv st σ c s (f.bind F) := s_callNS hG hL hC hnl hd hg hn hst hw hf k
theorem s_callVv {As rest : List AV} {cc : Nat} {x : Option Nat} {f : Nat → Option (Unit × Me)} {F : Unit × Me → Option (ρ × Me)} (hG : Good Ω Γ y d mc ms) (hL : VLink y.1.cls idx z n) (hC : ∀ a, Cor Ω z d' mc' ms' (vR (some a) :: As) σ ιV (f a)) (hcc : cc < 13 ∧ fN cc = z.1.cls) (hnl : nL = y.2.2.1) (hd : d' + 1 ≤ d) (hg : decode y.2.1 pc = .ok (.invokevirtual idx, 3)) (hn : As.length = n) (hst : st = As.reverse ++ vR x :: rest) (hw : wdt rest ≤ 8) (hf : c + mc' ≤ mc ∧ s + ms' ≤ ms) (k : ∀ p : Unit × Me, Sim Ω Γ mc ms ι nL (pc + 3) lv (rest) p.2 (c + mc') (s + ms') (F p)) : Sim Ω Γ mc ms ι nL pc lv st σ c s ((dr σ x (.inl cc)).bind fun a => (f a).bind F) := s_callV hG hL hC hcc hnl hd hg hn hst hw hf k
theorem s_callSv {As rest : List AV} {f : Option (Unit × Me)} {F : Unit × Me → Option (ρ × Me)} (hG : Good Ω Γ y d mc ms) (hL : SLink y.1.cls idx z n) (hC : Cor Ω z d' mc' ms' As σ ιV f) (hnl : nL = y.2.2.1) (hd : d' + 1 ≤ d) (hg : decode y.2.1 pc = .ok (.invokestatic idx, 3)) (hn : As.length = n) (hst : st = As.reverse ++ rest) (hw : wdt rest ≤ 8) (hf : c + mc' ≤ mc ∧ s + ms' ≤ ms) (k : ∀ p : Unit × Me, Sim Ω Γ mc ms ι nL (pc + 3) lv (rest) p.2 (c + mc') (s + ms') (F p)) : Sim Ω Γ mc ms ι nL pc lv st σ c s (f.bind F) := s_callS hG hL hC hnl hd hg hn hst hw hf k
theorem s_callNSv {As rest : List AV} {host : String} {f : Option (Unit × Me)} {F : Unit × Me → Option (ρ × Me)} (hG : Good Ω Γ y d mc ms) (hL : NSLink y.1.cls idx z n host) (hC : Cor Ω z d' mc' ms' As σ ιV f) (hnl : nL = y.2.2.1) (hd : d' + 1 ≤ d) (hg : decode y.2.1 pc = .ok (.invokestatic idx, 3)) (hn : As.length = n) (hst : st = As.reverse ++ rest) (hw : wdt rest ≤ 8) (hf : c + mc' ≤ mc ∧ s + ms' ≤ ms) (k : ∀ p : Unit × Me, Sim Ω Γ mc ms ι nL (pc + 3) lv (rest) p.2 (c + mc') (s + ms') (F p)) : Sim Ω Γ mc ms ι nL pc lv st σ c s (f.bind F) := s_callNS hG hL hC hnl hd hg hn hst hw hf k
theorem s_callIv {As rest : List AV} {a : Nat} {f : Option (Unit × Me)} {F : Unit × Me → Option (ρ × Me)} (hG : Good Ω Γ y d mc ms) (hL : ILink y.1.cls idx z n) (hC : Cor Ω z d' mc' ms' (vR (some a) :: As) σ ιV f) (hnl : nL = y.2.2.1) (hd : d' + 1 ≤ d) (hg : decode y.2.1 pc = .ok (.invokespecial idx, 3)) (hn : As.length = n) (hst : st = As.reverse ++ vR (some a) :: rest) (hw : wdt rest ≤ 8) (hf : c + mc' ≤ mc ∧ s + ms' ≤ ms) (k : ∀ p : Unit × Me, Sim Ω Γ mc ms ι nL (pc + 3) lv (rest) p.2 (c + mc') (s + ms') (F p)) : Sim Ω Γ mc ms ι nL pc lv st σ c s (f.bind F) := s_callI hG hL hC hnl hd hg hn hst hw hf k
theorem s_callNv {As rest : List AV} {a : Nat} {host : String} {f : Option (Unit × Me)} {F : Unit × Me → Option (ρ × Me)} (hG : Good Ω Γ y d mc ms) (hL : NLink y.1.cls idx z n host) (hC : Cor Ω z d' mc' ms' (vR (some a) :: As) σ ιV f) (hnl : nL = y.2.2.1) (hd : d' + 1 ≤ d) (hg : decode y.2.1 pc = .ok (.invokespecial idx, 3)) (hn : As.length = n) (hst : st = As.reverse ++ vR (some a) :: rest) (hw : wdt rest ≤ 8) (hf : c + mc' ≤ mc ∧ s + ms' ≤ ms) (k : ∀ p : Unit × Me, Sim Ω Γ mc ms ι nL (pc + 3) lv (rest) p.2 (c + mc') (s + ms') (F p)) : Sim Ω Γ mc ms ι nL pc lv st σ c s (f.bind F) := s_callN hG hL hC hnl hd hg hn hst hw hf k
theorem s_ldcS (hG : Good Ω Γ y d mc ms) (i : Nat) (hi : i < 9) {q : Nat} (h1 : (kOw i).1 = y.1.cls) (h2 : (kOw i).2.1 = q) (hd : decode y.2.1 pc = .ok (.ldc q, 2)) (k : Sim Ω Γ mc ms ι nL (pc + 2) lv (vR (some (1000020 + i)) :: st) σ c s o) : Sim Ω Γ mc ms ι nL pc lv st σ c s o := fun r σ' e hE ls H locs hy => by
  have hR := hG.2.2.2.2.2.2.1.2.2.1 i hi
  rw [h1, h2] at hR
  have k := k r σ' e hE ls H locs hy
  refine va_ldcS hG.1 hG.2.1 hG.2.2.2.1 hR hd ?_
  have e1 : rv Ω (some (1000020 + i)) = .ref (oK Ω i) := by
    have a1 : ¬ 1000020 + i < 1000000 := by omega
    have a2 : ¬ 1000020 + i < 1000006 := by omega
    have a3 : ¬ 1000020 + i = 1000006 := by omega
    have a4 : 1000020 + i < 1000040 := by omega
    simp only [rv, va_rf, Option.map_some, ad, if_neg a1, if_neg a2, if_neg a3, if_pos a4, Nat.add_sub_cancel_left]
  have k : WW Ω Γ H locs c s (F0 (gM Γ) (pc + 2) ls (rv Ω (some (1000020 + i)) :: st.map (tv Ω))) := k
  rw [e1] at k
  exact k
theorem s_ldcwS (hG : Good Ω Γ y d mc ms) (i : Nat) (hi : i < 9) {q : Nat} (h1 : (kOw i).1 = y.1.cls) (h2 : (kOw i).2.1 = q) (hd : decode y.2.1 pc = .ok (.ldc_w q, 3)) (k : Sim Ω Γ mc ms ι nL (pc + 3) lv (vR (some (1000020 + i)) :: st) σ c s o) : Sim Ω Γ mc ms ι nL pc lv st σ c s o := fun r σ' e hE ls H locs hy => by
  have hR := hG.2.2.2.2.2.2.1.2.2.1 i hi
  rw [h1, h2] at hR
  have k := k r σ' e hE ls H locs hy
  have e1 : rv Ω (some (1000020 + i)) = .ref (oK Ω i) := by
    have a1 : ¬ 1000020 + i < 1000000 := by omega
    have a2 : ¬ 1000020 + i < 1000006 := by omega
    have a3 : ¬ 1000020 + i = 1000006 := by omega
    have a4 : 1000020 + i < 1000040 := by omega
    simp only [rv, va_rf, Option.map_some, ad, if_neg a1, if_neg a2, if_neg a3, if_pos a4, Nat.add_sub_cancel_left]
  have k : WW Ω Γ H locs c s (F0 (gM Γ) (pc + 3) ls (rv Ω (some (1000020 + i)) :: st.map (tv Ω))) := k
  rw [e1] at k
  intro T hT X
  obtain ⟨t, a1, b1⟩ := k T hT X
  exact ⟨t, X.ldcStringW hG.1 hG.2.2.2.1 (text := (kOw i).2.2) (a := oK Ω i) hR.1 hR.2 (g := F0 (gM Γ) pc ls (st.map (tv Ω))) rfl (by rw [hG.2.1]; exact hd) t a1, b1⟩
theorem s_gets (hG : Good Ω Γ y d mc ms) (i : Nat) (hi : i < 6) (hl : Cond.fieldLink y.1.cls idx "RainOwed$PlainReader" (sNm i) "[I" ∈ T0) (hd : decode y.2.1 pc = .ok (.getstatic idx, 3)) (k : Sim Ω Γ mc ms ι nL (pc + 3) lv (vR (some (1000000 + i)) :: st) σ c s o) : Sim Ω Γ mc ms ι nL pc lv st σ c s o := fun r σ' e hE ls H locs hy => by
  have k := k r σ' e hE ls H locs hy
  refine va_gets hG.1 hG.2.1 (hG.2.2.2.2.2.2.1.1 i hi).1 hy.2.2.2 hG.2.2.2.1 (hG.2.2.2.2.1 _ hl) (fun _ h9 => h9) hd ?_
  have e1 : rv Ω (some (1000000 + i)) = .ref (oA Ω i) := by
    have a1 : ¬ 1000000 + i < 1000000 := by omega
    have a2 : 1000000 + i < 1000006 := by omega
    simp only [rv, va_rf, Option.map_some, ad, if_neg a1, if_pos a2, Nat.add_sub_cancel_left]
  have k : WW Ω Γ H locs c s (F0 (gM Γ) (pc + 3) ls (rv Ω (some (1000000 + i)) :: st.map (tv Ω))) := k
  rw [e1] at k
  exact k
theorem s_aald {C : String} {x : Option Nat} {i : Int32} {F : Option Nat → Option (ρ × Me)} (hG : Good Ω Γ y d mc ms) (t0 : Nat) (ht : (tysM Ω)[t0]? = some (oC Ω (.object C), .object C)) (hd : decode y.2.1 pc = .ok (.aaload, 1)) (k : ∀ v, Sim Ω Γ mc ms ι nL (pc + 1) lv (vR v :: st) σ c s (F v)) : Sim Ω Γ mc ms ι nL pc lv (vI i :: vR x :: st) σ c s ((ldR σ C x i).bind F) := fun r σ' e hE ls H locs hy => by
  cases hq : arr σ (.object C) x i with
  | none => exact e_none (by unfold ldR; rw [hq]; rfl) e
  | some a =>
    obtain ⟨rfl, n, hk, hin⟩ := arr_spec hq
    have e := e_some (v := mr σ a i.toNatClampNeg) (by unfold ldR; rw [hq]; rfl) e
    have k := k _ r σ' e hE ls H locs hy
    show WW Ω Γ H locs c s (F0 (gM Γ) pc ls (.int i :: rv Ω (some a) :: st.map (tv Ω)))
    rw [rv_lo hk.2.2]
    exact va_aldq hG.1 hG.2.1 hG.2.2.2.2.2.1 hy.2.1 a t0 (ws_arr hk) ht hin hd k
def stR (σ : Me) (C : String) (cc : Nat) (r : Option Nat) (i : Int32) (x : Option Nat) : Option Me := (dr σ x (.inl cc)).bind fun b => (arr σ (.object C) r i).bind fun a => some (setR σ a i.toNatClampNeg (some b))
theorem s_aast {C : String} {cc : Nat} {x x2 : Option Nat} {i : Int32} {F : Me → Option (ρ × Me)} (hG : Good Ω Γ y d mc ms) (t0 : Nat) (ht : (tysM Ω)[t0]? = some (oC Ω (.object C), .object C)) (hcc : cc < 13) (hC : fN cc = C) (hd : decode y.2.1 pc = .ok (.aastore, 1)) (k : ∀ v, Sim Ω Γ mc ms ι nL (pc + 1) lv st v c s (F v)) : Sim Ω Γ mc ms ι nL pc lv (vR x2 :: vI i :: vR x :: st) σ c s ((stR σ C cc x i x2).bind F) := fun r σ' e hE ls H locs hy => by
  cases hb : dr σ x2 (.inl cc) with
  | none => exact e_none (by unfold stR; rw [hb]; rfl) e
  | some b =>
  cases hq : arr σ (.object C) x i with
  | none => exact e_none (by unfold stR; rw [hb]; show Option.bind _ _ = none; rw [hq]; rfl) e
  | some a =>
    obtain ⟨rfl, hkb⟩ := dr_spec hb
    obtain ⟨rfl, n, hk, hin⟩ := arr_spec hq
    have e := e_some (v := setR σ a i.toNatClampNeg (some b)) (by unfold stR; rw [hb]; show Option.bind _ _ = _; rw [hq]; rfl) e
    have k := k _ r σ' e hE
    subst hC
    show WW Ω Γ H locs c s (F0 (gM Γ) pc ls (rv Ω (some b) :: .int i :: rv Ω (some a) :: st.map (tv Ω)))
    rw [rv_lo hk.2.2, rv_lo hkb.2.2]
    have hK := hG.2.2.2.2.2.1
    obtain ⟨q, hq', cellV, g1, g2, g3, -⟩ := hy.2.1 b _ (ws_obj hkb)
    have hcls := (hK.1 cc _ (cls_at hcc)).2
    obtain ⟨kA, comp, k1, k2, k3, -⟩ := (hK.2 t0 _ ht).2
    have hcomp : comp = (oD Ω).1 cc := Option.some.inj (k3.symm.trans hcls.1)
    subst hcomp
    obtain ⟨kC, hkC, -⟩ := hcls.2
    have hlt : i.toNatClampNeg < n := Nat.not_le.mp fun q => hin (Or.inr q)
    refine W.aast hG.1 hG.2.1 (hy.2.1 a _ (ws_arr hk)) (fun q h => by cases h) (fun h => by cases h) k1 k2 rfl hkC ⟨fun q => hin (Or.inl q), by show _ < (arrV _ _ _).slots.size; rw [arrV_size]; exact hlt⟩ g1 (fun q h => by rw [g3] at h; cases h) (by rw [g2]; exact hkC) (by rw [g2]; exact va_assign hcls) rfl rfl hd fun H1 e1 z oq => ?_
    refine k ls H1 _ ⟨hy.1, ws_put hy.2.1 rfl en_setR ?_ oq, by rw [z]; exact hy.2.2.1, hy.2.2.2.put z oq (Nat.le_add_right _ _)⟩
    rw [en_arr (ty := .object (fN cc)) (n := n) (show mk (setR σ a i.toNatClampNeg (some b)) a = _ from hk.1)]
    show H1[oB Ω + a]? = some (vp_cell _ _)
    rw [e1]
    show some ((vp_cell _ _).setSlot _ _) = some (vp_cell _ (_, _))
    simp only [acon]
    rw [vp_cell_q, vp_cell_q, arrV_store]
    congr 2
    funext q
    by_cases hq : q = i.toNatClampNeg
    · subst hq
      simp [updV, mr_setR, up2, va_rf, ad_lo hkb.2.2]
    · simp [updV, mr_setR, up2, hq]
theorem s_alen {ty : FieldType} {x : Option Nat} {F : Int32 → Option (ρ × Me)} (hG : Good Ω Γ y d mc ms) (t0 : Nat) (ht : (tysM Ω)[t0]? = some (oC Ω ty, ty)) (hd : decode y.2.1 pc = .ok (.arraylength, 1)) (k : ∀ v, Sim Ω Γ mc ms ι nL (pc + 1) lv (vI v :: st) σ c s (F v)) : Sim Ω Γ mc ms ι nL pc lv (vR x :: st) σ c s ((aLn σ ty x).bind F) := fun r σ' e hE ls H locs hy => by
  cases x with
  | none => exact e_none rfl e
  | some b =>
    by_cases hb : b < 1000000
    · cases hm : mk σ b with
      | inl q => exact e_none (by unfold aLn; simp only; rw [if_pos hb, hm]) e
      | inr q =>
        obtain ⟨t, n⟩ := q
        by_cases ht2 : t = ty ∧ b < mz σ
        · obtain ⟨rfl, hbz⟩ := ht2
          have e := e_some (v := nI n) (by unfold aLn; simp only; rw [if_pos hb, hm]; exact if_pos ⟨rfl, hbz⟩) e
          have k := k _ r σ' e hE ls H locs hy
          show WW Ω Γ H locs c s (F0 (gM Γ) pc ls (rv Ω (some b) :: st.map (tv Ω)))
          rw [rv_lo hb]
          exact va_alen hG.1 hG.2.1 hG.2.2.2.2.2.1 hy.2.1 b t0 (ws_arr ⟨hm, hbz, hb⟩) ht rfl hd k
        · exact e_none (by unfold aLn; simp only; rw [if_pos hb, hm]; exact if_neg ht2) e
    · by_cases hs : ty = .int ∧ b < 1000006
      · have e := e_some (v := nI (sLs (b - 1000000)).length) (by unfold aLn; simp only; rw [if_neg hb, if_pos hs]) e
        have k := k _ r σ' e hE ls H locs hy
        have hT := (hG.2.2.2.2.2.2.1.1 (b - 1000000) (by omega)).2
        show WW Ω Γ H locs c s (F0 (gM Γ) pc ls (rv Ω (some b) :: st.map (tv Ω)))
        rw [show rv Ω (some b) = .ref (oA Ω (b - 1000000)) by simp [rv, va_rf, ad, hb, hs.2]]
        exact va_tlen hG.1 hG.2.1 hT hy.2.2.2 rfl hd k
      · by_cases hs2 : ty = .byte ∧ 1000040 ≤ b ∧ b < 1000049
        · have e := e_some (v := nI (kLn.getD (b - 1000040) 0)) (by unfold aLn; simp only; rw [if_neg hb, if_neg hs, if_pos hs2]) e
          have k := k _ r σ' e hE ls H locs hy
          have hT := hG.2.2.2.2.2.2.1.by_ (b - 1000040) (by omega)
          show WW Ω Γ H locs c s (F0 (gM Γ) pc ls (rv Ω (some b) :: st.map (tv Ω)))
          rw [rv_by hs2.2]
          exact va_tlen hG.1 hG.2.1 hT hy.2.2.2 rfl hd k
        · exact e_none (by unfold aLn; simp only; rw [if_neg hb, if_neg hs, if_neg hs2]) e
theorem s_anew {C : String} {i : Int32} {B : Nat} {F : Nat × Me → Option (ρ × Me)} (hG : Good Ω Γ y d mc ms) (t0 : Nat) (ht : (tysM Ω)[t0]? = some (oC Ω (.object C), .object C)) (hb : B * 4 ≤ 536870912) (hw : Cond.classLink y.1.cls idx C ∈ T0) (hAO : ∀ U H, Stat Ω U H → va_AO C U) (hg : decode y.2.1 pc = .ok (.anewarray idx, 3)) (hf : c + 1 ≤ mc ∧ s + B ≤ ms) (k : ∀ p : Nat × Me, Sim Ω Γ mc ms ι nL (pc + 3) lv (vR (some p.1) :: st) p.2 (c + 1) (s + B) (F p)) : Sim Ω Γ mc ms ι nL pc lv (vI i :: st) σ c s ((newA σ (.object C) i B).bind F) := fun r σ' e hE ls H locs hy => by
  by_cases hz : mz σ < 1000000 ∧ ¬ i < 0 ∧ i.toNatClampNeg ≤ B
  · have e := e_some (v := (mz σ, newC σ (.inr (.object C, i.toNatClampNeg)) i.toNatClampNeg)) (by unfold newA; rw [if_pos hz]) e
    have k := k _ r σ' e hE
    obtain ⟨hz, hi, hB⟩ := hz
    refine W.anew hG.1 hG.2.1 hG.2.2.2.1 (hG.2.2.2.2.1 _ hw) (hAO _ _ hG.2.2.2.2.2.2.1).use rfl hg rfl hi (Nat.le_trans (Nat.mul_le_mul_right _ hB) hb) (hf_ok hG hf).1 (Nat.le_trans (Nat.add_le_add_left hB s) (hf_ok hG hf).2) fun cA kA comp hNm _ _ _ => ?_
    have hcA : cA = oC Ω (.object C) := by
      obtain ⟨_, _, _, _, _, h5⟩ := (hG.2.2.2.2.2.1.2 t0 _ ht).2
      exact Option.some.inj (hNm.symm.trans h5)
    have hy1 : Hy Ω Γ nL lv (newC σ (.inr (.object C, i.toNatClampNeg)) i.toNatClampNeg) ls (H.push { cls := cA, slots := Array.replicate i.toNatClampNeg .null, vm := .none }) locs := by
      refine hy_new hy ?_ (by simp) (fun q hq => by rw [Array.getElem?_push, if_neg (Nat.ne_of_lt hq)])
      rw [en_arr (ty := .object C) (n := i.toNatClampNeg) (show mk (newC σ (.inr (.object C, i.toNatClampNeg)) i.toNatClampNeg) (mz σ) = _ from if_pos rfl)]
      show (H.push _)[oB Ω + mz σ]? = some (vp_cell _ _)
      rw [← hy.2.2.1, hcA, Array.getElem?_push, if_pos rfl]
      show some _ = some (vp_cell _ (i.toNatClampNeg, acon (.object C) ((if mz σ = mz σ then fun _ => 0 else mi σ (mz σ))) ((if mz σ = mz σ then fun _ => 0 else ml σ (mz σ))) (fun j => ((if mz σ = mz σ then fun _ => none else mr σ (mz σ)) j).map (ad Ω))))
      rw [if_pos rfl, if_pos rfl, if_pos rfl]
      exact congrArg some (arrV_new _ _ _)
    have k := k ls _ locs hy1
    rw [hy.2.2.1]
    refine W.widen (k := c + 1) (n := s + B) (Nat.le_refl _) (Nat.add_le_add_left hB s) ?_
    show WW Ω Γ _ locs (c + 1) (s + B) (F0 (gM Γ) (pc + 3) ls (.ref (oB Ω + mz σ) :: st.map (tv Ω)))
    rw [← rv_lo (Ω := Ω) hz]
    exact k
  · exact e_none (by unfold newA; rw [if_neg hz]) e
/-- the row that an array of ints holds: of a cell of the program, or a static one -/
def irow (σ : Me) (r : Option Nat) : Option (Nat × (Nat → Int32)) := match r with
  | none => none
  | some a => if a < 1000000 then (match mk σ a with
      | .inr (t, n) => if t = .int ∧ a < mz σ then some (n, mi σ a) else none
      | _ => none) else if a < 1000006 then some ((sLs (a - 1000000)).length, fun j => (sLs (a - 1000000)).getD j 0) else none
def cpRow (σ : Me) (a : Nat) (f : Nat → Int32) (sp dp n : Nat) : Me := (σ.1, fun b => if b = a then va_cpy f (mi σ a) sp dp n else mi σ b, σ.2.2)
def cpI (σ : Me) (src : Option Nat) (sp : Int32) (dst : Option Nat) (dp n : Int32) : Option Me :=
  (irow σ src).bind fun q => match dst with
    | none => none
    | some a => match mk σ a with
      | .inr (t, n1) => if (t = .int ∧ a < mz σ ∧ a < 1000000) ∧ ¬ sp < 0 ∧ ¬ dp < 0 ∧ ¬ n < 0 ∧ sp.toNatClampNeg + n.toNatClampNeg ≤ q.1 ∧ dp.toNatClampNeg + n.toNatClampNeg ≤ n1 then some (cpRow σ a q.2 sp.toNatClampNeg dp.toNatClampNeg n.toNatClampNeg) else none
      | _ => none
def YLink (own : String) (idx : Nat) : Prop := Cond.methodLink own idx arraycopyName ∈ T0 ∧ Cond.native arraycopyName ∈ T0 ∧ Cond.static arraycopyName ∈ T0 ∧ Cond.initialized "java/lang/System" ∈ T0
theorem irow_spec (hG : Good Ω Γ y d mc ms) {ls : Array Slot} {H : Heap} {locs : List Loc} (hy : Hy Ω Γ nL lv σ ls H locs) {x : Option Nat} {n0 : Nat} {f : Nat → Int32} (h : irow σ x = some (n0, f)) : ∃ (b0 : Nat) (cs : Cell), rv Ω x = .ref b0 ∧ H[b0]? = some cs ∧ (gS Γ).isArrayOf cs .int ∧ cs.vm ≠ .unknown ∧ n0 ≤ cs.slots.size ∧ ∀ j, j < n0 → cs.slots[j]? = some (.int (f j)) := by
  cases x with
  | none => cases h
  | some b =>
    by_cases hb : b < 1000000
    · cases hm : mk σ b with
      | inl q => rw [show irow σ (some b) = none by unfold irow; simp only; rw [if_pos hb, hm]] at h; cases h
      | inr q =>
        obtain ⟨t, n⟩ := q
        by_cases ht2 : t = .int ∧ b < mz σ
        · rw [show irow σ (some b) = some (n, mi σ b) by unfold irow; simp only; rw [if_pos hb, hm]; exact if_pos ht2] at h
          cases h
          obtain ⟨rfl, hbz⟩ := ht2
          refine ⟨oB Ω + b, _, rv_lo hb, hy.2.1 b _ (ws_arr ⟨hm, hbz, hb⟩), (hG.2.2.2.2.2.1.2 0 (oC Ω .int, .int) rfl).1 n0 (fun j => .int (mi σ b j)), (fun q => by cases q), ?_, fun j hj => ?_⟩
          · show n0 ≤ (arrV _ _ _).slots.size
            rw [arrV_size]; exact Nat.le_refl _
          · show (arrV _ _ _).slots[j]? = _
            rw [arrV_read _ _ hj]
        · rw [show irow σ (some b) = none by unfold irow; simp only; rw [if_pos hb, hm]; exact if_neg ht2] at h; cases h
    · by_cases hs : b < 1000006
      · rw [show irow σ (some b) = some ((sLs (b - 1000000)).length, fun j => (sLs (b - 1000000)).getD j 0) by unfold irow; simp only; rw [if_neg hb, if_pos hs]] at h
        obtain ⟨h8, h9⟩ := Prod.mk.inj (Option.some.inj h)
        subst h8
        subst h9
        obtain ⟨cell, h1, h2, h3, h4, h5, h6, h7⟩ := ((hG.2.2.2.2.2.2.1.1 (b - 1000000) (by omega)).2.kept (fun a ha hn => hy.2.2.2.2.1 a ha hn))
        exact ⟨oA Ω (b - 1000000), cell, by simp [rv, va_rf, ad, hb, hs], h1, h2, h3, h4, h6⟩
      · rw [show irow σ (some b) = none by unfold irow; simp only; rw [if_neg hb, if_neg hs]] at h; cases h
theorem en_cpRow {a sp dp n : Nat} {f : Nat → Int32} : ∀ b, b ≠ a → En Ω (cpRow σ a f sp dp n) b = En Ω σ b := fun b hb => by
  unfold En; rw [show mi (cpRow σ a f sp dp n) b = mi σ b from if_neg hb]; rfl
theorem s_copy {x x2 : Option Nat} {sp dp n : Int32} {F : Me → Option (ρ × Me)} (hG : Good Ω Γ y d mc ms) (hL : YLink y.1.cls idx) (hnl : nL = y.2.2.1) (hd1 : 1 ≤ d) (hd : decode y.2.1 pc = .ok (.invokestatic idx, 3)) (hw : wdt st ≤ 8) (k : ∀ v, Sim Ω Γ mc ms ι nL (pc + 3) lv st v c s (F v)) : Sim Ω Γ mc ms ι nL pc lv (vI n :: vI dp :: vR x2 :: vI sp :: vR x :: st) σ c s ((cpI σ x sp x2 dp n).bind F) := fun r σ' e hE ls H locs hy => by
  cases hi : irow σ x with
  | none => exact e_none (by unfold cpI; rw [hi]; rfl) e
  | some q =>
  obtain ⟨n0, f⟩ := q
  cases x2 with
  | none => exact e_none (by unfold cpI; rw [hi]; rfl) e
  | some a =>
  cases hm : mk σ a with
  | inl q => exact e_none (by unfold cpI; rw [hi]; simp only [Option.bind_some, hm]) e
  | inr q =>
  obtain ⟨t, n1⟩ := q
  by_cases hc : (t = .int ∧ a < mz σ ∧ a < 1000000) ∧ ¬ sp < 0 ∧ ¬ dp < 0 ∧ ¬ n < 0 ∧ sp.toNatClampNeg + n.toNatClampNeg ≤ n0 ∧ dp.toNatClampNeg + n.toNatClampNeg ≤ n1
  · have e := e_some (v := cpRow σ a f sp.toNatClampNeg dp.toNatClampNeg n.toNatClampNeg) (by unfold cpI; rw [hi]; simp only [Option.bind_some, hm]; exact if_pos hc) e
    have k := k _ r σ' e hE
    obtain ⟨⟨rfl, ha1, ha2⟩, h1, h2, h3, h4, h5⟩ := hc
    obtain ⟨b0, cs, e0, c1, c2, c3, c4, c5⟩ := irow_spec hG hy hi
    have hk : Kd σ a (.inr (.int, n1)) := ⟨hm, ha1, ha2⟩
    show WW Ω Γ H locs c s (F0 (gM Γ) pc ls (.int n :: .int dp :: rv Ω (some a) :: .int sp :: rv Ω x :: st.map (tv Ω)))
    rw [rv_lo ha2, e0]
    have nn : ∀ z : Int32, ¬ z < 0 → z.toInt = (z.toNatClampNeg : Int) := by
      intro z hz
      have hz0 : (0 : Int) ≤ z.toInt := by
        have := Int32.not_lt.mp hz
        simpa using Int32.le_iff_toInt_le.mp this
      show z.toInt = ((z.toInt.toNat : Nat) : Int)
      omega
    have hcd : H[oB Ω + a]? = some (vp_cell (oC Ω .int) (n1, .inl (mi σ a))) := hy.2.1 a _ (ws_arr hk)
    obtain ⟨c6, k0, hk0, cm0, hkk0⟩ := c2
    obtain ⟨-, k1, hk1, cm1, hkk1⟩ := (hG.2.2.2.2.2.1.2 0 (oC Ω .int, .int) rfl).1 n1 (fun j => .int (mi σ a j))
    have hr := hG.2.2.2.2.2.2.2.1
    have hw2 := rest_ok (Ω := Ω) hw
    have hnw : nativeFrameWords "java/lang/System" "arraycopy" 5 + 11 ≤ 48 := by decide
    have hts := hG.2.2.2.2.1
    intro T hT X
    obtain ⟨vm', X', step⟩ := X.arraycopy hG.1 hG.2.2.2.1 (hts _ hL.1) (hts _ hL.2.1) (hts _ hL.2.2.1) (hts _ hL.2.2.2) (src := b0) (dst := oB Ω + a) (cs := cs) (cd := vp_cell (oC Ω .int) (n1, .inl (mi σ a))) (srcPos := sp) (destPos := dp) (n := n) (by rw [hT]; exact c1) (by rw [hT]; exact hcd)
      c6 (fun _ h => by cases h) c3 (fun h => by cases h) hk0 hk1 hkk0 hkk1 (by simp [refKind]) h1 h2 h3
      (by rw [nn sp h1, nn n h3]; omega)
      (by rw [nn dp h2, nn n h3]; show ¬ _ > ((arrV _ n1 _).slots.size : Int); rw [arrV_size]; omega)
      (fun vm₁ _ i hi => by
        have e9 : cs.slots.getD (sp.toNatClampNeg + i) .null = .int (f (sp.toNatClampNeg + i)) := by
          rw [Array.getD_eq_getD_getElem?, c5 _ (by omega)]
          rfl
        exact ⟨by rw [e9]; rfl, by rw [e9]; exact trivial⟩)
      (g := F0 (gM Γ) pc ls (.int n :: .int dp :: .ref (oB Ω + a) :: .int sp :: .ref b0 :: st.map (tv Ω))) rfl (by rw [nl_ok hG hnl]; exact hy.1.1) (rest := st.map (tv Ω)) rfl (by rw [hG.2.1]; exact hd) (by omega) (by show 2 * 0 + _ + _ ≤ _; omega)
    rw [show copied cs (vp_cell (oC Ω .int) (n1, .inl (mi σ a))) sp dp n = vp_cell (oC Ω .int) (n1, .inl (va_cpy f (mi σ a) sp.toNatClampNeg dp.toNatClampNeg n.toNatClampNeg)) from va_copiedX (fun z => .int z) cs _ f (mi σ a) c5 h4] at X' step
    have hl : oB Ω + a < H.size := (Array.getElem?_eq_some_iff.mp hcd).1
    have hh : ∀ v : Cell, ((T.setVm vm').setCell (oB Ω + a) v).heap = H.setIfInBounds (oB Ω + a) v := fun v => by rw [← hT]; rfl
    have oq : ∀ (v : Cell) (q : Nat), q ≠ oB Ω + a → (H.setIfInBounds (oB Ω + a) v)[q]? = H[q]? := fun v q hq => by simp [Array.getElem?_setIfInBounds, Ne.symm hq]
    obtain ⟨t2, a1, b1⟩ := k ls (H.setIfInBounds (oB Ω + a) (vp_cell (oC Ω .int) (n1, .inl (va_cpy f (mi σ a) sp.toNatClampNeg dp.toNatClampNeg n.toNatClampNeg)))) _ ⟨hy.1, ws_put hy.2.1 rfl en_cpRow (by
        rw [en_arr (ty := .int) (n := n1) (show mk (cpRow σ a f _ _ _) a = _ from hm), show mi (cpRow σ a f sp.toNatClampNeg dp.toNatClampNeg n.toNatClampNeg) a = va_cpy f (mi σ a) sp.toNatClampNeg dp.toNatClampNeg n.toNatClampNeg from if_pos rfl]
        show (H.setIfInBounds (oB Ω + a) _)[oB Ω + a]? = some (vp_cell _ _)
        simp [Array.getElem?_setIfInBounds, hl, acon]) (oq _), by simp; exact hy.2.2.1, by simp; exact hy.2.2.2.1, fun q g1 g2 => by
        rw [oq _ q (fun e => g2 (by rw [e]; exact Nat.le_add_right _ _))]
        exact hy.2.2.2.2.1 q g1 g2, fun q hq => by
        rcases List.mem_append.mp hq with h | h
        · exact hy.2.2.2.2.2 q h
        · obtain ⟨z, -, hz⟩ := List.mem_map.mp h
          rw [← hz]
          exact Nat.le_add_right _ _⟩ _ (hh _) X'
    exact ⟨t2, step t2 a1, b1⟩
  · exact e_none (by unfold cpI; rw [hi]; simp only [Option.bind_some, hm]; exact if_neg hc) e
end CALLS2
