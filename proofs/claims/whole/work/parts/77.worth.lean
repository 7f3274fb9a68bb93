theorem y33 : (33 : Int32) = nI 33 := rfl
theorem y63 : (63 : Int32) = nI 63 := rfl
/-! what a law is worth: signs in the order in which they are worked out -/
def opL : List Nat := [38, 42, 43, 45, 47, 60, 61, 62, 124]
def ciOK : Ci → Prop
  | .inl n => n < 10000
  | .inr s => (1 ≤ s ∧ s ≤ 6) ∨ s = 59 ∨ s = 63 ∨ s = 33 ∨ s ∈ opL
/-- held between a million and its negative -/
def clm (l : Int64) : Int32 := if lg_cmp l (1000000 : Int64) ≤ 0 then (if 0 ≤ lg_cmp l (-1000000 : Int64) then Int64.toInt32 l else (-1000000 : Int32)) else (1000000 : Int32)
def jn (x : Int32) (s : Nat) (y : Int32) : Int32 :=
  if s = 38 then clm (Int32.toInt64 (x &&& y)) else if s = 42 then clm (Int32.toInt64 x * Int32.toInt64 y) else if s = 43 then clm (Int32.toInt64 x + Int32.toInt64 y) else if s = 45 then clm (Int32.toInt64 x - Int32.toInt64 y)
  else if s = 47 then (if y = 0 then clm 0 else clm (Int32.toInt64 (x / y))) else if s = 60 then (if y ≤ x then clm 0 else clm 1) else if s = 61 then (if x = y then clm 1 else clm 0) else if s = 62 then (if x ≤ y then clm 0 else clm 1) else clm (Int32.toInt64 (x ||| y))
theorem j214 (N : Nat) (l : Int64) (σ : Me) : fc3_joined_214 N l σ = some (clm l, σ) := by
  unfold fc3_joined_214 clm
  split
  · split <;> rfl
  · rfl
theorem joined_c (N : Nat) (x y : Int32) (σ : Me) {s : Nat} (hs : s ∈ opL) : fc3_joined N x (nI s) y σ = some (jn x s y, σ) := by
  have h : s = 38 ∨ s = 42 ∨ s = 43 ∨ s = 45 ∨ s = 47 ∨ s = 60 ∨ s = 61 ∨ s = 62 ∨ s = 124 := by simpa [opL] using hs
  rcases h with rfl | rfl | rfl | rfl | rfl | rfl | rfl | rfl | rfl
  · exact j214 N _ σ
  · exact j214 N _ σ
  · exact j214 N _ σ
  · exact j214 N _ σ
  · show (if y = 0 then fc3_joined_155 N 0 σ else (dvI x y).bind fun v153 => fc3_joined_155 N (Int32.toInt64 v153) σ) = some (if y = 0 then clm 0 else clm (Int32.toInt64 (x / y)), σ)
    by_cases c : y = 0
    · rw [if_pos c, if_pos c]; exact j214 N _ σ
    · rw [if_neg c, if_neg c]
      unfold dvI
      rw [if_neg c, bnd]
      exact j214 N _ σ
  · show (if y ≤ x then fc3_joined_183 N 0 σ else fc3_joined_183 N 1 σ) = some (if y ≤ x then clm 0 else clm 1, σ)
    split <;> exact j214 N _ σ
  · show (if x = y then fc3_joined_169 N 1 σ else fc3_joined_169 N 0 σ) = some (if x = y then clm 1 else clm 0, σ)
    split <;> exact j214 N _ σ
  · show (if x ≤ y then fc3_joined_197 N 0 σ else fc3_joined_197 N 1 σ) = some (if x ≤ y then clm 0 else clm 1, σ)
    split <;> exact j214 N _ σ
  · exact j214 N _ σ
def wrun (L : Nat → Int32) : List Ci → List Int32 → Bool → Int32
  | [], _, _ => 0
  | c :: cs, st, true => if 32 ≤ st.length then 0 else wrun L cs st (decide (c ≠ .inr 59))
  | .inl n :: cs, st, false => if 32 ≤ st.length then 0 else wrun L cs (nI n :: st) false
  | .inr s :: cs, st, false => if 32 ≤ st.length then 0 else if s ≤ 6 then wrun L cs (L (s - 1) :: st) false else
    match st with
    | [] => 0
    | x :: st' => if s = 59 then x else if s = 63 then wrun L cs st' (decide (x = 0)) else if s = 33 then wrun L cs ((1 - x) :: st') false else
      match st' with
      | [] => 0
      | y :: st'' => wrun L cs (jn y s x :: st'') false
theorem kd_ar {σ : Me} {a n k : Nat} {t : FieldType} (h : Kd σ a (.inr (t, n))) (hn : n < 2 ^ 31) (hk : k < n) : arr σ t (some a) (nI k) = some a := arr_ok h (nI_pos (by omega)) (by rw [nI_clamp (by omega)]; exact hk)
theorem kd_ln {σ : Me} {a n : Nat} {t : FieldType} (h : Kd σ a (.inr (t, n))) : aLn σ t (some a) = some (nI n) := by
  unfold aLn; simp only [h.1, h.2.1, h.2.2, if_true, and_self, ↓reduceIte]
theorem ng_neg {s : Nat} (h0 : 0 < s) (h : s < 2 ^ 31) : -nI s < 0 := by
  rw [i_toInt_lt, fb_negI (by rw [nI_toInt h]; omega), nI_toInt h]
  show -(s : Int) < 0
  omega
theorem ng_ng (s : Nat) : - -nI s = nI s := Int32.neg_neg
theorem ng_eq {a b : Nat} (ha : a < 2 ^ 31) (hb : b < 2 ^ 31) : -nI a = -nI b ↔ a = b := by
  rw [← nI_eq ha hb]
  constructor
  · intro h
    have := congrArg (fun z : Int32 => -z) h
    simpa using this
  · intro h; rw [h]
theorem ng_ne {a b : Nat} (ha : a < 2 ^ 31) (h0 : 0 < b) (hb : b < 2 ^ 31) : ¬ nI a = -nI b := fun e => by
  have h1 := nI_pos ha
  rw [e] at h1
  exact h1 (ng_neg h0 hb)
theorem nI_p1 (a : Nat) : nI (a + 1) + -nI 1 = nI a := pk_m1 a
def StkC (σ : Me) (sa : Nat) (st : List Int32) : Prop := ∀ (i : Nat) (x : Int32), st[i]? = some x → mi σ sa (st.length - 1 - i) = x
theorem StkC.push {σ : Me} {sa : Nat} {st : List Int32} {x : Int32} (h : StkC σ sa st) : StkC (setI σ sa st.length x) sa (x :: st) := by
  intro i y e
  cases i with
  | zero =>
    cases e
    rw [List.length_cons, show st.length + 1 - 1 - 0 = st.length by omega, mi_eq]
  | succ i =>
    rw [List.getElem?_cons_succ] at e
    have hil : i < st.length := by
      rcases Nat.lt_or_ge i st.length with q | q
      · exact q
      · rw [List.getElem?_eq_none q] at e; cases e
    rw [List.length_cons, mi_ne _ _ (by omega), show st.length + 1 - 1 - (i + 1) = st.length - 1 - i by omega]
    exact h i y e
theorem StkC.pop {σ : Me} {sa : Nat} {st : List Int32} {x : Int32} (h : StkC σ sa (x :: st)) : StkC σ sa st := by
  intro i y e
  have h1 := h (i + 1) y (by rw [List.getElem?_cons_succ]; exact e)
  rw [List.length_cons, show st.length + 1 - 1 - (i + 1) = st.length - 1 - i by omega] at h1
  exact h1
theorem StkC.top {σ : Me} {sa : Nat} {st : List Int32} {x : Int32} (h : StkC σ sa (x :: st)) : mi σ sa st.length = x := by
  have h1 := h 0 x rfl
  rw [List.length_cons, show st.length + 1 - 1 - 0 = st.length by omega] at h1
  exact h1
theorem drop_cons {C cs : List Ci} {i : Nat} {c : Ci} (h : C.drop i = c :: cs) : (C.map enc)[i]? = some (enc c) ∧ C.drop (i + 1) = cs ∧ i < C.length := by
  have h1 : C[i]? = some c := by
    have : (C.drop i)[0]? = some c := by rw [h]; rfl
    rw [List.getElem?_drop, Nat.add_zero] at this
    exact this
  refine ⟨by rw [List.getElem?_map, h1]; rfl, ?_, ?_⟩
  · have : (C.drop i).drop 1 = cs := by rw [h]; rfl
    rw [List.drop_drop] at this
    exact this
  · rcases Nat.lt_or_ge i C.length with q | q
    · exact q
    · rw [List.getElem?_eq_none q] at h1; cases h1
def wbody (N : Nat) (K : Option Nat → Option Nat → Int32 → Int32 → Int32 → Me → Option (Int32 × Me)) (l0 l1 : Option Nat) (l2 l3 l4 v29 : Int32) (σ : Me) : Option (Int32 × Me) :=
  if l3 = 0 then
    if v29 < 0 then
      (aLn σ .int l1).bind fun v75 =>
      if v75 < (-v29) then
        if (1 : Int32) ≤ l2 then
          if v29 = (-59 : Int32) then
            (qR σ 3 1 l0).bind fun v113 =>
            (ldI σ v113 (l2 - (1 : Int32))).bind fun v119 =>
            some (v119, σ)
          else
            if v29 = (-63 : Int32) then
              (qR σ 3 1 l0).bind fun v129 =>
              (ldI σ v129 (l2 + (-1 : Int32))).bind fun v136 =>
              if v136 = 0 then
                fc3_worth_145 N K l0 l1 (l2 + (-1 : Int32)) l4 (1 : Int32) σ
              else
                fc3_worth_145 N K l0 l1 (l2 + (-1 : Int32)) l4 (0 : Int32) σ
            else
              if v29 = (-33 : Int32) then
                (qR σ 3 1 l0).bind fun v157 =>
                (qR σ 3 1 l0).bind fun v165 =>
                (ldI σ v165 (l2 - (1 : Int32))).bind fun v171 =>
                (stI σ v157 (l2 - (1 : Int32)) ((1 : Int32) - v171)).bind fun σ173 =>
                fc3_worth_215 N K l0 l1 l2 l3 l4 σ173
              else
                if (2 : Int32) ≤ l2 then
                  (qR σ 3 1 l0).bind fun v188 =>
                  (qR σ 3 1 l0).bind fun v195 =>
                  (ldI σ v195 ((l2 + (-1 : Int32)) - (1 : Int32))).bind fun v201 =>
                  (qR σ 3 1 l0).bind fun v206 =>
                  (ldI σ v206 (l2 + (-1 : Int32))).bind fun v210 =>
                  (fc3_joined N v201 (-v29) v210 σ).bind fun p211 =>
                  (stI p211.2 v188 ((l2 + (-1 : Int32)) - (1 : Int32)) p211.1).bind fun σ214 =>
                  fc3_worth_215 N K l0 l1 (l2 + (-1 : Int32)) l3 l4 σ214
                else
                  some ((0 : Int32), σ)
        else
          some ((0 : Int32), σ)
      else
        (qR σ 3 1 l0).bind fun v80 =>
        (ldI σ l1 ((-v29) - (1 : Int32))).bind fun v93 =>
        (stI σ v80 l2 v93).bind fun σ94 =>
        fc3_worth_215 N K l0 l1 (l2 + (1 : Int32)) l3 l4 σ94
    else
      (qR σ 3 1 l0).bind fun v58 =>
      (stI σ v58 l2 v29).bind fun σ67 =>
      fc3_worth_215 N K l0 l1 (l2 + (1 : Int32)) l3 l4 σ67
  else
    if v29 = (-59 : Int32) then
      fc3_worth_48 N K l0 l1 l2 l4 (0 : Int32) σ
    else
      fc3_worth_48 N K l0 l1 l2 l4 (1 : Int32) σ
theorem w_head {N fu la n m i : Nat} {σ : Me} {pb v : Int32} {l1 : Option Nat} (d0 : dr σ (some la) (.inl 3) = some la) (a5 : mr σ la 0 = some (la + 1)) (k : Kd σ (la + 1) (.inr (.int, n))) (hn : n < 2 ^ 31) (hi : i < n) (hm : m < 32) (ev : mi σ (la + 1) i = v) : fc3_worth_7 N (fu + 1) (some la) l1 (nI m) pb (nI i) σ = wbody N (fc3_worth_7 N fu) (some la) l1 (nI m) pb (nI i) v σ := by
  have q : qR σ 3 0 (some la) = some (some (la + 1)) := by unfold qR; rw [d0, bnd, a5]
  have l : ldI σ (some (la + 1)) (nI i) = some v := by rw [ldI_lo _ _ _ k.2.2, kd_ar k hn hi, bnd, nI_clamp (by omega), ev]
  rw [fc3_worth_7, q, bnd, kd_ln k, bnd, if_neg (nI_ge hi hn), y32, if_neg (nI_ge hm (by decide)), bnd, l, bnd]
  rfl
theorem w_full {N fu la n m i : Nat} {σ : Me} {pb : Int32} {l1 : Option Nat} (d0 : dr σ (some la) (.inl 3) = some la) (a5 : mr σ la 0 = some (la + 1)) (k : Kd σ (la + 1) (.inr (.int, n))) (hn : n < 2 ^ 31) (hi : i ≤ n) (hm : m ≤ 32) (h : n ≤ i ∨ 32 ≤ m) : fc3_worth_7 N (fu + 1) (some la) l1 (nI m) pb (nI i) σ = some (0, σ) := by
  have q : qR σ 3 0 (some la) = some (some (la + 1)) := by unfold qR; rw [d0, bnd, a5]
  rw [fc3_worth_7, q, bnd, kd_ln k, bnd]
  by_cases c : n ≤ i
  · rw [if_pos (nI_le c (by omega))]
  · rw [if_neg (nI_ge (by omega) hn), y32, if_pos (nI_le (by omega) (by omega))]
def bI (p : Bool) : Int32 := if p = true then 1 else 0
theorem worth7_c {N la : Nat} {C : List Ci} {L : Nat → Int32} (hC : C.length ≤ 240) (hok : ∀ c ∈ C, ciOK c) :
    ∀ (cs : List Ci) (i fu : Nat) (st : List Int32) (p : Bool) (σ : Me), Sh σ → lwAt σ la (C.map enc) → (∀ k, k < 6 → mi σ 36 k = L k) → C.drop i = cs → i ≤ C.length → cs.length < fu → StkC σ (la + 2) st → st.length ≤ 32 →
      ∃ σ' : Me, fc3_worth_7 N fu (some la) (some 36) (nI st.length) (bI p) (nI i) σ = some (wrun L cs st p, σ') ∧ Fr (kS (la + 2)) σ σ'
  | _, _, 0, _, _, _, _, _, _, _, _, h0, _, _ => absurd h0 (Nat.not_lt_zero _)
  | [], i, fu + 1, st, p, σ, h, hl, hL, hd, hi, _, hs, h32 => by
    have e : C.length ≤ i := by
      rcases Nat.lt_or_ge i C.length with q | q
      · have := congrArg List.length hd
        rw [List.length_drop] at this
        simp at this
        omega
      · exact q
    obtain ⟨a1, a2, a3, a4, a5, a6, a7⟩ := hl
    have d0 := dr_ok a1
    have z1 := kd_ln a2
    rw [List.length_map] at z1
    refine ⟨σ, ?_, Fr.rf _ _⟩
    rw [w_full d0 a5 a2 (by rw [List.length_map]; omega) (by rw [List.length_map]; exact hi) h32 (.inl (by rw [List.length_map]; exact e))]
    cases p <;> rfl
  | c :: cs, i, fu + 1, st, p, σ, h, hl, hL, hd, hi, h0, hs, h32 => by
    obtain ⟨g1, g2, g3⟩ := drop_cons hd
    have hok2 : ciOK c := by
      refine hok c (List.mem_of_mem_drop (i := i) ?_)
      rw [hd]; exact List.mem_cons_self
    have hl' := hl
    obtain ⟨a1, a2, a3, a4, a5, a6, a7⟩ := hl
    have d0 := dr_ok a1
    have z1 := kd_ln a2
    rw [List.length_map] at z1 a2
    have ac := kd_ar (k := i) a2 (by omega) g3
    have as_ : ∀ k, k < 32 → arr σ .int (some (la + 2)) (nI k) = some (la + 2) := fun k hk => kd_ar a3 (by decide) hk
    have ec := a7 i _ g1
    have c1 : ¬ C.length ≤ i := by omega
    have hla : la + 2 < 1000000 := a3.2.2
    have hd2 := fun (m : Nat) (pb : Int32) (hm : m < 32) => w_head (N := N) (fu := fu) (l1 := some 36) (pb := pb) d0 a5 a2 (by omega) g3 hm ec
    have ih := worth7_c (N := N) (la := la) hC hok (L := L) cs (i + 1) fu
    have f36 : ∀ k, kS (la + 2) 36 k = false := fun k => rfl
    have hstep : ∀ (v : Int32) (k : Nat) (st' : List Int32), StkC (setI σ (la + 2) k v) (la + 2) st' → st'.length ≤ 32 → ∃ σ' : Me, fc3_worth_7 N fu (some la) (some 36) (nI st'.length) (bI false) (nI (i + 1)) (setI σ (la + 2) k v) = some (wrun L cs st' false, σ') ∧ Fr (kS (la + 2)) σ σ' := fun v k st' h1 h2 => by
      have fr1 : Fr (kS (la + 2)) σ (setI σ (la + 2) k v) := fr_I (by simp [kS]; omega) (Fr.rf _ _)
      obtain ⟨σ', e1, e2⟩ := ih st' false (setI σ (la + 2) k v) (by exact h) (hl'.fr fr1 (fun j => by simp [kS]) (fun j => by simp [kS])) (fun k' hk' => by rw [fr1.i (f36 _)]; exact hL k' hk') g2 (by omega) (by simp at h0; omega) h1 h2
      exact ⟨σ', e1, fr1.tr e2⟩
    have hkeep : ∀ (p' : Bool) (st' : List Int32), StkC σ (la + 2) st' → st'.length ≤ 32 → ∃ σ' : Me, fc3_worth_7 N fu (some la) (some 36) (nI st'.length) (bI p') (nI (i + 1)) σ = some (wrun L cs st' p', σ') ∧ Fr (kS (la + 2)) σ σ' := fun p' st' h1 h2 => ih st' p' σ h hl' hL g2 (by omega) (by simp at h0; omega) h1 h2
    by_cases hf : 32 ≤ st.length
    · refine ⟨σ, ?_, Fr.rf _ _⟩
      have w0 : wrun L (c :: cs) st p = 0 := by
        rcases c with n | s <;> cases p <;> simp only [wrun, hf, if_true, ↓reduceIte]
      rw [w0]
      exact w_full d0 a5 a2 (by omega) (by omega) h32 (.inr hf)
    · cases p with
      | true =>
        obtain ⟨σ', e1, e2⟩ := hkeep (decide (c ≠ .inr 59)) st hs h32
        refine ⟨σ', ?_, e2⟩
        have w0 : wrun L (c :: cs) st true = wrun L cs st (decide (c ≠ .inr 59)) := by
          rcases c with n | s <;> simp only [wrun, hf, if_false, ↓reduceIte]
        rw [w0, ← e1]
        have b1 : ¬ bI true = 0 := by decide
        rcases c with n | s
        · have hn : ¬ nI n = -nI 59 := ng_ne (by have : n < 10000 := hok2; omega) (by decide) (by decide)
          have hc : decide ((Sum.inl n : Ci) ≠ .inr 59) = true := by simp
          rw [hc]
          rw [hd2 _ _ (by omega)]
          simp (disch := omega) only [wbody, fc3_worth_48, fc3_worth_215, if_true, if_false, ↓reduceIte, and_true, true_and, and_false, false_and, not_true_eq_false, not_false_eq_true, and_self, enc, b1, y59, hn, nI_1]
          rfl
        · have hs128 : s < 128 := by
            have : (1 ≤ s ∧ s ≤ 6) ∨ s = 59 ∨ s = 63 ∨ s = 33 ∨ s ∈ opL := hok2
            simp only [opL, List.mem_cons, List.not_mem_nil, or_false] at this
            omega
          by_cases h59 : s = 59
          · subst h59
            have hc : decide ((Sum.inr 59 : Ci) ≠ .inr 59) = false := by simp
            rw [hc]
            rw [hd2 _ _ (by omega)]
            simp (disch := omega) only [wbody, fc3_worth_48, fc3_worth_215, if_true, if_false, ↓reduceIte, and_true, true_and, and_false, false_and, not_true_eq_false, not_false_eq_true, and_self, enc, b1, y59, nI_1]
            rfl
          · have hc : decide ((Sum.inr s : Ci) ≠ .inr 59) = true := by simp [h59]
            rw [hc]
            rw [hd2 _ _ (by omega)]
            simp (disch := omega) only [wbody, fc3_worth_48, fc3_worth_215, if_true, if_false, ↓reduceIte, and_true, true_and, and_false, false_and, not_true_eq_false, not_false_eq_true, and_self, enc, b1, y59, ng_eq, h59, nI_1]
            rfl
      | false =>
        have b0 : bI false = 0 := rfl
        rcases c with n | s
        · have hn0 : n < 10000 := hok2
          obtain ⟨σ', e1, e2⟩ := hstep (nI n) st.length (nI n :: st) hs.push (by rw [List.length_cons]; omega)
          refine ⟨σ', ?_, e2⟩
          have w0 : wrun L (.inl n :: cs) st false = wrun L cs (nI n :: st) false := by simp only [wrun, hf, if_false, ↓reduceIte]
          have hp := nI_pos (n := n) (by omega)
          rw [w0, ← e1, List.length_cons]
          rw [hd2 _ _ (by omega)]
          simp (disch := omega) only [wbody, fc3_worth_215, qR, d0, bnd, a6, nI_leI, nI_ltI, if_true, if_false, ↓reduceIte, and_true, true_and, and_false, false_and, not_true_eq_false, not_false_eq_true, and_self, ldI_lo, nI_clamp, enc, b0, hp, stI, as_, nI_1]
        · have hs128 : 0 < s ∧ s < 128 := by
            have : (1 ≤ s ∧ s ≤ 6) ∨ s = 59 ∨ s = 63 ∨ s = 33 ∨ s ∈ opL := hok2
            simp only [opL, List.mem_cons, List.not_mem_nil, or_false] at this
            omega
          have hng := ng_neg hs128.1 (show s < 2 ^ 31 by omega)
          by_cases h6 : s ≤ 6
          · obtain ⟨σ', e1, e2⟩ := hstep (L (s - 1)) st.length (L (s - 1) :: st) hs.push (by rw [List.length_cons]; omega)
            refine ⟨σ', ?_, e2⟩
            have w0 : wrun L (.inr s :: cs) st false = wrun L cs (L (s - 1) :: st) false := by simp only [wrun, hf, h6, if_false, if_true, ↓reduceIte]
            have n6 : ¬ 6 < s := by omega
            have q1 := pk_sub (show 1 ≤ s by omega)
            have eL := hL (s - 1) (by omega)
            rw [w0, ← e1, List.length_cons]
            rw [hd2 _ _ (by omega)]
            simp (disch := omega) only [wbody, fc3_worth_215, qR, d0, bnd, a6, nI_leI, nI_ltI, y1, if_true, if_false, ↓reduceIte, and_true, true_and, and_false, false_and, not_true_eq_false, not_false_eq_true, and_self, ldI_lo, nI_clamp, enc, b0, hng, Z36 h, ng_ng, n6, q1, A36 h, eL, stI, as_, nI_add]
          · have n6 : 6 < s := by omega
            cases st with
            | nil =>
              refine ⟨σ, ?_, Fr.rf _ _⟩
              have w0 : wrun L (.inr s :: cs) [] false = 0 := by
                have : ¬ 32 ≤ ([] : List Int32).length := by decide
                simp only [wrun, this, h6, if_false, ↓reduceIte]
              have z0 : ¬ (1 : Nat) ≤ 0 := by decide
              rw [w0]
              rw [List.length_nil] at hf ⊢
              rw [hd2 _ _ (by omega)]
              simp (disch := omega) only [wbody, qR, d0, bnd, a6, nI_leI, nI_ltI, y1, if_true, if_false, ↓reduceIte, and_true, true_and, and_false, false_and, not_true_eq_false, not_false_eq_true, and_self, ldI_lo, nI_clamp, enc, b0, hng, Z36 h, ng_ng, n6, z0]
            | cons x st' =>
              have etop := hs.top
              have q1 : nI (st'.length + 1) - nI 1 = nI st'.length := by rw [pk_sub (by omega)]; rfl
              rw [List.length_cons] at hf h32
              have o1 : 1 ≤ st'.length + 1 := by omega
              by_cases h59 : s = 59
              · subst h59
                refine ⟨σ, ?_, Fr.rf _ _⟩
                have w0 : wrun L (.inr 59 :: cs) (x :: st') false = x := by
                  simp only [wrun, List.length_cons, hf, h6, if_false, if_true, ↓reduceIte]
                rw [w0, List.length_cons]
                rw [hd2 _ _ (by omega)]
                simp (disch := omega) only [wbody, qR, d0, bnd, a6, nI_leI, nI_ltI, y1, y59, if_true, if_false, ↓reduceIte, and_true, true_and, and_false, false_and, not_true_eq_false, not_false_eq_true, and_self, ldI_lo, nI_clamp, enc, b0, hng, Z36 h, ng_ng, n6, o1, q1, as_, etop]
              · by_cases h63 : s = 63
                · subst h63
                  obtain ⟨σ', e1, e2⟩ := hkeep (decide (x = 0)) st' hs.pop (by omega)
                  refine ⟨σ', ?_, e2⟩
                  have w0 : wrun L (.inr 63 :: cs) (x :: st') false = wrun L cs st' (decide (x = 0)) := by
                    simp only [wrun, List.length_cons, hf, h6, h59, if_false, if_true, ↓reduceIte]
                  rw [w0, ← e1, List.length_cons]
                  by_cases hx : x = 0
                  · have hd : decide (x = 0) = true := by simp [hx]
                    rw [hd]
                    rw [hd2 _ _ (by omega)]
                    simp (disch := omega) only [wbody, fc3_worth_145, fc3_worth_215, qR, d0, bnd, a6, nI_leI, nI_ltI, y1, y59, y63, if_true, if_false, ↓reduceIte, and_true, true_and, and_false, false_and, not_true_eq_false, not_false_eq_true, and_self, ldI_lo, nI_clamp, enc, b0, hng, Z36 h, ng_ng, ng_eq, h59, n6, o1, nI_p1, as_, etop, hx, nI_add]
                    rfl
                  · have hd : decide (x = 0) = false := by simp [hx]
                    rw [hd]
                    rw [hd2 _ _ (by omega)]
                    simp (disch := omega) only [wbody, fc3_worth_145, fc3_worth_215, qR, d0, bnd, a6, nI_leI, nI_ltI, y1, y59, y63, if_true, if_false, ↓reduceIte, and_true, true_and, and_false, false_and, not_true_eq_false, not_false_eq_true, and_self, ldI_lo, nI_clamp, enc, b0, hng, Z36 h, ng_ng, ng_eq, h59, n6, o1, nI_p1, as_, etop, hx, nI_add]
                · by_cases h33 : s = 33
                  · subst h33
                    obtain ⟨σ', e1, e2⟩ := hstep (1 - x) st'.length ((1 - x) :: st') (hs.pop.push) (by rw [List.length_cons]; omega)
                    refine ⟨σ', ?_, e2⟩
                    have w0 : wrun L (.inr 33 :: cs) (x :: st') false = wrun L cs ((1 - x) :: st') false := by
                      simp only [wrun, List.length_cons, hf, h6, h59, h63, if_false, if_true, ↓reduceIte]
                    rw [w0, ← e1, List.length_cons, List.length_cons]
                    rw [hd2 _ _ (by omega)]
                    simp (disch := omega) only [wbody, fc3_worth_215, qR, d0, bnd, a6, nI_leI, nI_ltI, y1, y59, y63, y33, if_true, if_false, ↓reduceIte, and_true, true_and, and_false, false_and, not_true_eq_false, not_false_eq_true, and_self, ldI_lo, nI_clamp, enc, b0, hng, Z36 h, ng_ng, ng_eq, h59, h63, n6, o1, q1, as_, etop, stI, nI_add]
                  · have hop : s ∈ opL := by
                      have : (1 ≤ s ∧ s ≤ 6) ∨ s = 59 ∨ s = 63 ∨ s = 33 ∨ s ∈ opL := hok2
                      rcases this with q | q | q | q | q
                      · exact absurd q.2 h6
                      · exact absurd q h59
                      · exact absurd q h63
                      · exact absurd q h33
                      · exact q
                    cases st' with
                    | nil =>
                      refine ⟨σ, ?_, Fr.rf _ _⟩
                      have w0 : wrun L (.inr s :: cs) [x] false = 0 := by
                        have : ¬ 32 ≤ ([x] : List Int32).length := by show ¬ 32 ≤ 1; decide
                        simp only [wrun, this, h6, h59, h63, h33, if_false, ↓reduceIte]
                      have z0 : ¬ (2 : Nat) ≤ 1 := by decide
                      have z2 : (1 : Nat) ≤ 1 := by decide
                      rw [w0]
                      have el : ([x] : List Int32).length = 1 := rfl
                      rw [el]
                      have hf2 : ¬ 32 ≤ 1 := by decide
                      rw [hd2 _ _ (by omega)]
                      simp (disch := omega) only [wbody, qR, d0, bnd, a6, nI_leI, nI_ltI, y1, y2, y59, y63, y33, if_true, if_false, ↓reduceIte, and_true, true_and, and_false, false_and, not_true_eq_false, not_false_eq_true, and_self, ldI_lo, nI_clamp, enc, b0, hng, Z36 h, ng_ng, ng_eq, h59, h63, h33, n6, z0, z2]
                    | cons y st'' =>
                      have etop2 := hs.pop.top
                      rw [List.length_cons] at hf h32 etop
                      obtain ⟨σ', e1, e2⟩ := hstep (jn y s x) st''.length (jn y s x :: st'') (hs.pop.pop.push) (by rw [List.length_cons]; omega)
                      refine ⟨σ', ?_, e2⟩
                      have w0 : wrun L (.inr s :: cs) (x :: y :: st'') false = wrun L cs (jn y s x :: st'') false := by
                        simp only [wrun, List.length_cons, hf, h6, h59, h63, h33, if_false, ↓reduceIte]
                      have q2 : nI (st''.length + 1) - nI 1 = nI st''.length := by rw [pk_sub (by omega)]; rfl
                      have o2 : 1 ≤ st''.length + 1 + 1 := by omega
                      have o3 : 2 ≤ st''.length + 1 + 1 := by omega
                      rw [w0, ← e1, List.length_cons, List.length_cons, List.length_cons]
                      rw [hd2 _ _ (by omega)]
                      simp (disch := omega) only [wbody, fc3_worth_215, qR, d0, bnd, a6, nI_leI, nI_ltI, y1, y2, y59, y63, y33, if_true, if_false, ↓reduceIte, and_true, true_and, and_false, false_and, not_true_eq_false, not_false_eq_true, and_self, ldI_lo, nI_clamp, enc, b0, hng, Z36 h, ng_ng, ng_eq, h59, h63, h33, n6, o2, o3, nI_p1, q2, as_, etop, etop2, joined_c N _ _ _ hop, stI, nI_add]
theorem worth_c {N la : Nat} {C : List Ci} {σ : Me} {L : Nat → Int32} (h : Sh σ) (hl : lwAt σ la (C.map enc)) (hL : ∀ k, k < 6 → mi σ 36 k = L k) (hC : C.length ≤ 240) (hok : ∀ c ∈ C, ciOK c) (hN : 300 ≤ N) : ∃ σ' : Me, fc3_worth N la (some 36) σ = some (wrun L C [] false, σ') ∧ Fr (kS (la + 2)) σ σ' :=
  worth7_c hC hok C 0 N [] false σ h hl hL rfl (Nat.zero_le _) (by omega) (fun i x e => by cases e) (by decide)
