/-! what is read is worth what its signs are worth -/
def Bd (x : Int32) : Prop := -1000000 ≤ x.toInt ∧ x.toInt ≤ 1000000
def Vl (L : Nat → Int32) (k : Nat) (C : List Ci) (v : Int32) : Prop := ∀ (rest : List Ci) (st : List Int32), st.length + k ≤ 32 → wrun L (C ++ rest) st false = wrun L rest (v :: st) false
theorem Vl.up {L : Nat → Int32} {k k' : Nat} {C : List Ci} {v : Int32} (h : Vl L k C v) (hk : k ≤ k') : Vl L k' C v := fun rest st hs => h rest st (by omega)
theorem Vl.num (L : Nat → Int32) (n : Nat) : Vl L 2 [.inl n] (nI n) := fun rest st hs => by
  show wrun L (.inl n :: rest) st false = _
  rw [wrun, if_neg (by omega)]
theorem Vl.ltr (L : Nat → Int32) {s : Nat} (h6 : s ≤ 6) : Vl L 2 [.inr s] (L (s - 1)) := fun rest st hs => by
  have hf : ¬ 32 ≤ st.length := by omega
  show wrun L (.inr s :: rest) st false = _
  simp only [wrun, hf, h6, if_false, if_true, ↓reduceIte]
theorem opL_big {s : Nat} (h : s ∈ opL) : 38 ≤ s ∧ s ≠ 59 ∧ s ≠ 63 := by
  simp only [opL, List.mem_cons, List.not_mem_nil, or_false] at h
  omega
theorem Vl.join {L : Nat → Int32} {k k1 k2 : Nat} {C D : List Ci} {x y : Int32} {s : Nat} (hC : Vl L k1 C x) (hD : Vl L k2 D y) (h1 : k1 ≤ k) (h2 : k2 + 1 ≤ k) (h3 : 3 ≤ k) (hs : s ∈ opL) : Vl L k (C ++ D ++ [.inr s]) (jn x s y) := fun rest st hl => by
  have ho := opL_big hs
  rw [List.append_assoc, List.append_assoc, hC _ _ (by omega), hD _ _ (by rw [List.length_cons]; omega)]
  show wrun L (.inr s :: rest) (y :: x :: st) false = _
  have hf : ¬ 32 ≤ st.length + 1 + 1 := by omega
  have h6 : ¬ s ≤ 6 := by omega
  have h33 : ¬ s = 33 := by omega
  simp only [wrun, List.length_cons, hf, h6, ho.2.1, ho.2.2, h33, if_false, ↓reduceIte]
theorem Vl.not {L : Nat → Int32} {k : Nat} {C : List Ci} {x : Int32} (hC : Vl L k C x) (h2 : 2 ≤ k) : Vl L k (C ++ [.inr 33]) (1 - x) := fun rest st hl => by
  rw [List.append_assoc, hC _ _ (by omega)]
  show wrun L (.inr 33 :: rest) (x :: st) false = _
  have hf : ¬ 32 ≤ st.length + 1 := by omega
  have h6 : ¬ 33 ≤ 6 := by decide
  have h59 : ¬ 33 = 59 := by decide
  have h63 : ¬ 33 = 63 := by decide
  simp only [wrun, List.length_cons, hf, h6, h59, h63, if_false, if_true, ↓reduceIte]
theorem bI_and (a b : Bool) : jn (bI a) 38 (bI b) = bI (a && b) := by cases a <;> cases b <;> decide
theorem bI_or (a b : Bool) : jn (bI a) 124 (bI b) = bI (a || b) := by cases a <;> cases b <;> decide
theorem bI_not (a : Bool) : (1 : Int32) - bI a = bI (!a) := by cases a <;> decide
theorem jn_61 (x y : Int32) : jn x 61 y = bI (decide (x = y)) := by
  show (if x = y then clm 1 else clm 0) = _
  by_cases h : x = y
  · rw [if_pos h, decide_eq_true h]; decide
  · rw [if_neg h, decide_eq_false h]; decide
theorem jn_60 (x y : Int32) : jn x 60 y = bI (decide (¬ y ≤ x)) := by
  show (if y ≤ x then clm 0 else clm 1) = _
  by_cases h : y ≤ x
  · rw [if_pos h, decide_eq_false (fun w => w h)]; decide
  · rw [if_neg h, decide_eq_true h]; decide
theorem jn_62 (x y : Int32) : jn x 62 y = bI (decide (¬ x ≤ y)) := by
  show (if x ≤ y then clm 0 else clm 1) = _
  by_cases h : x ≤ y
  · rw [if_pos h, decide_eq_false (fun w => w h)]; decide
  · rw [if_neg h, decide_eq_true h]; decide
theorem l_lt {x y : Int64} : x < y ↔ x.toInt < y.toInt := Int64.lt_iff_toInt_lt
theorem l_le {x y : Int64} : x ≤ y ↔ x.toInt ≤ y.toInt := Int64.le_iff_toInt_le
theorem lM : (1000000 : Int64).toInt = 1000000 := rfl
theorem lm : (-1000000 : Int64).toInt = -1000000 := rfl
theorem within_m (N : Nat) (l : Int64) (σ : Me) : fc12_within N l σ = some (clm l, σ) := by
  unfold fc12_within fMt_min2 fMt_max2 clm
  by_cases c1 : l.toInt < 1000000
  · rw [if_pos ((lg_cmp_gt _ _).mpr (by rw [l_lt, lM]; exact c1)), bnd, if_pos ((lg_cmp_le _ _).mpr (by rw [l_le, lM]; omega))]
    by_cases c2 : -1000000 < l.toInt
    · rw [if_pos ((lg_cmp_lt _ _).mpr (by rw [l_lt, lm]; exact c2)), bnd, if_pos ((lg_cmp_ge _ _).mpr (by rw [l_le, lm]; omega))]
    · rw [if_neg (fun w => c2 (by have := (lg_cmp_lt _ _).mp w; rw [l_lt, lm] at this; exact this)), bnd]
      by_cases c3 : l.toInt = -1000000
      · rw [if_pos ((lg_cmp_ge _ _).mpr (by rw [l_le, lm]; omega))]
        have e : l = -1000000 := Int64.toInt_inj.1 (by rw [c3, lm])
        rw [e]
      · rw [if_neg (fun w => c3 (by have := (lg_cmp_ge _ _).mp w; rw [l_le, lm] at this; omega))]
        rfl
  · rw [if_neg (fun w => c1 (by have := (lg_cmp_gt _ _).mp w; rw [l_lt, lM] at this; exact this)), bnd, if_pos (show lg_cmp (-1000000) (1000000 : Int64) < 0 by decide), bnd]
    by_cases c3 : l.toInt = 1000000
    · have e : l = 1000000 := Int64.toInt_inj.1 (by rw [c3, lM])
      rw [e]
      rfl
    · rw [if_neg (fun w => c3 (by have := (lg_cmp_le _ _).mp w; rw [l_le, lM] at this; omega))]
      rfl
theorem Bd_clm (l : Int64) : Bd (clm l) := by
  unfold clm
  split
  · rename_i h
    split
    · rename_i h2
      have a := (lg_cmp_le _ _).mp h
      have b := (lg_cmp_ge _ _).mp h2
      rw [l_le, lM] at a
      rw [l_le, lm] at b
      unfold Bd
      rw [Int64.toInt_toInt32, fb_bmod (by omega) (by omega)]
      omega
    · exact ⟨by decide, by decide⟩
  · exact ⟨by decide, by decide⟩
theorem dv_32 {x y : Int32} (hx : Bd x) (hy : Bd y) (h0 : y ≠ 0) : Int32.toInt64 (x / y) = Int32.toInt64 x / Int32.toInt64 y := by
  obtain ⟨a1, a2⟩ := hx
  apply Int64.toInt_inj.1
  have e1 : (x / y).toInt = x.toInt.tdiv y.toInt := by
    rw [Int32.toInt_div]
    have h1 : (x.toInt.tdiv y.toInt).natAbs ≤ x.toInt.natAbs := Int.natAbs_tdiv_le_natAbs _ _
    exact fb_bmod (by omega) (by omega)
  rw [Int32.toInt_toInt64, e1, Int64.toInt_div, Int32.toInt_toInt64, Int32.toInt_toInt64]
  have h1 : (x.toInt.tdiv y.toInt).natAbs ≤ x.toInt.natAbs := Int.natAbs_tdiv_le_natAbs _ _
  exact (fb_bmodL (by omega) (by omega)).symm
theorem jn_43 (x y : Int32) : jn x 43 y = clm (Int32.toInt64 x + Int32.toInt64 y) := rfl
theorem jn_45 (x y : Int32) : jn x 45 y = clm (Int32.toInt64 x - Int32.toInt64 y) := rfl
theorem jn_42 (x y : Int32) : jn x 42 y = clm (Int32.toInt64 x * Int32.toInt64 y) := rfl
theorem jn_47 (x y : Int32) : jn x 47 y = if y = 0 then clm 0 else clm (Int32.toInt64 (x / y)) := rfl
/-- between clauses -/
theorem wr_end {L : Nat → Int32} {k : Nat} {C : List Ci} {v : Int32} (h : Vl L k C v) (hk : k ≤ 31) (rest : List Ci) : wrun L (C ++ [.inr 59] ++ rest) [] false = v := by
  rw [List.append_assoc, h _ _ (by simp; omega)]
  show wrun L (.inr 59 :: rest) [v] false = _
  have hf : ¬ 32 ≤ 0 + 1 := by decide
  have h6 : ¬ 59 ≤ 6 := by decide
  simp only [wrun, List.length_cons, List.length_nil, hf, h6, if_false, if_true, ↓reduceIte]
theorem wr_pass {L : Nat → Int32} : ∀ (D rest : List Ci), (∀ c ∈ D, c ≠ .inr 59) → wrun L (D ++ [.inr 59] ++ rest) [] true = wrun L rest [] false
  | [], rest, _ => by
    show wrun L (.inr 59 :: rest) [] true = _
    rw [wrun, if_neg (by decide), decide_eq_false (fun w => w rfl)]
  | c :: D, rest, h => by
    show wrun L (c :: (D ++ [.inr 59] ++ rest)) [] true = _
    rw [wrun, if_neg (by decide), decide_eq_true (h c (List.mem_cons_self))]
    exact wr_pass D rest (fun c hc => h c (List.mem_cons_of_mem _ hc))
theorem wr_if {L : Nat → Int32} {k k' : Nat} {C D : List Ci} {b : Bool} {v : Int32} (h : Vl L k C (bI b)) (hk : k ≤ 31) (hD : Vl L k' D v) (hk' : k' ≤ 31) (hd : ∀ c ∈ D, c ≠ .inr 59) (rest : List Ci) : wrun L (C ++ [.inr 63] ++ D ++ [.inr 59] ++ rest) [] false = if b = true then v else wrun L rest [] false := by
  have e : C ++ [.inr 63] ++ D ++ [.inr 59] ++ rest = C ++ (.inr 63 :: (D ++ [.inr 59] ++ rest)) := by simp
  have hf : ¬ 32 ≤ 0 + 1 := by decide
  have h6 : ¬ 63 ≤ 6 := by decide
  have h59 : ¬ 63 = 59 := by decide
  have w0 : wrun L (.inr 63 :: (D ++ [.inr 59] ++ rest)) [bI b] false = wrun L (D ++ [.inr 59] ++ rest) [] (decide (bI b = 0)) := by
    simp only [wrun, List.length_cons, List.length_nil, hf, h6, h59, if_false, if_true, ↓reduceIte]
  rw [e, h _ _ (by simp; omega), w0]
  cases b with
  | true =>
    rw [decide_eq_false (show ¬ bI true = 0 by decide), if_pos rfl]
    exact wr_end hD hk' rest
  | false =>
    rw [decide_eq_true (show bI false = 0 by decide), if_neg (by decide)]
    exact wr_pass D rest hd
