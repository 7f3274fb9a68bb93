section START
variable {s : State} {b L : Nat} {xs : Nat → Int32}
set_option maxRecDepth 20000 in
set_option maxHeartbeats 2000000 in
theorem st_cls (hts : ∀ w ∈ lw_tbl, w.before #[Value.ref b] s = true) : ∃ (dC : Nat → ClassId) (dI : Nat → Nat → Nat), ∀ (k : Nat) (q : vw_C), classes[k]? = some q → u_Kn s q.1 q.2.1 q.2.2 (dC k) (dI k) := by
  have hin : ∀ c, c < 13 → ∀ w ∈ u_ws (fN c) (fT c) (nfl c), w ∈ lw_tbl := fun c hc w hw => (List.mem_filter.mp (lays_ok c hc w hw)).1
  obtain ⟨c0, i0, h0⟩ := u_known (C := cN0) (T := cT0) (N := 3) (n := 3) hts (hin 0 (by decide)) (hts _ (List.mem_append_right _ (inT1 (List.mem_of_getElem? (i := 235) rfl))))
  obtain ⟨c1, i1, h1⟩ := u_known (C := cN1) (T := cT1) (N := 9) (n := 9) hts (hin 1 (by decide)) (hts _ (List.mem_append_right _ (inT2 (List.mem_of_getElem? (i := 40) rfl))))
  obtain ⟨c2, i2, h2⟩ := u_known (C := cN2) (T := cT2) (N := 10) (n := 10) hts (hin 2 (by decide)) (hts _ (List.mem_append_right _ (inT1 (List.mem_of_getElem? (i := 67) rfl))))
  obtain ⟨c3, i3, h3⟩ := u_known (C := cN3) (T := cT3) (N := 2) (n := 2) hts (hin 3 (by decide)) (hts _ (List.mem_append_right _ (inT3 (List.mem_of_getElem? (i := 163) rfl))))
  obtain ⟨c4, i4, h4⟩ := u_known (C := cN4) (T := cT4) (N := 3) (n := 3) hts (hin 4 (by decide)) (hts _ (List.mem_append_right _ (inT1 (List.mem_of_getElem? (i := 147) rfl))))
  obtain ⟨c5, i5, h5⟩ := u_known (C := cN5) (T := cT5) (N := 6) (n := 6) hts (hin 5 (by decide)) (hts _ (List.mem_append_right _ (inT2 (List.mem_of_getElem? (i := 11) rfl))))
  obtain ⟨c6, i6, h6⟩ := u_known (C := cN6) (T := cT6) (N := 4) (n := 4) hts (hin 6 (by decide)) (hts _ (List.mem_append_right _ (inT1 (List.mem_of_getElem? (i := 59) rfl))))
  obtain ⟨c7, i7, h7⟩ := u_known (C := cN7) (T := cT7) (N := 4) (n := 4) hts (hin 7 (by decide)) (hts _ (List.mem_append_right _ (inT3 (List.mem_of_getElem? (i := 196) rfl))))
  obtain ⟨c8, i8, h8⟩ := u_known (C := cN8) (T := cT8) (N := 5) (n := 5) hts (hin 8 (by decide)) (hts _ (List.mem_append_right _ (inT1 (List.mem_of_getElem? (i := 163) rfl))))
  obtain ⟨c9, i9, h9⟩ := u_known (C := cN9) (T := cT9) (N := 10) (n := 10) hts (hin 9 (by decide)) (hts _ (List.mem_append_right _ (inT1 (List.mem_of_getElem? (i := 191) rfl))))
  obtain ⟨c10, i10, h10⟩ := u_known (C := cN10) (T := cT10) (N := 3) (n := 3) hts (hin 10 (by decide)) (hts _ (List.mem_append_right _ (inT1 (List.mem_of_getElem? (i := 36) rfl))))
  obtain ⟨c11, i11, h11⟩ := u_known (C := cN11) (T := cT11) (N := 19) (n := 19) hts (hin 11 (by decide)) (hts _ (List.mem_append_right _ (inT1 (List.mem_of_getElem? (i := 28) rfl))))
  obtain ⟨c12, i12, h12⟩ := u_known (C := cN12) (T := cT12) (N := 49) (n := 49) hts (hin 12 (by decide)) (hts _ (List.mem_append_right _ (inT5 (List.mem_of_getElem? (i := 229) rfl))))
  obtain ⟨c13, i13, h13⟩ := u_known (C := "java/util/NoSuchElementException") (T := cT0) (N := 0) (n := 6) hts (fun w hw => by simp [u_ws] at hw) (hts _ (List.mem_append_right _ (inT5 (List.mem_of_getElem? (i := 168) rfl))))
  refine ⟨fun k => match k with
    | 0 => c0
    | 1 => c1
    | 2 => c2
    | 3 => c3
    | 4 => c4
    | 5 => c5
    | 6 => c6
    | 7 => c7
    | 8 => c8
    | 9 => c9
    | 10 => c10
    | 11 => c11
    | 12 => c12
    | _ => c13, fun k => match k with
    | 0 => i0
    | 1 => i1
    | 2 => i2
    | 3 => i3
    | 4 => i4
    | 5 => i5
    | 6 => i6
    | 7 => i7
    | 8 => i8
    | 9 => i9
    | 10 => i10
    | 11 => i11
    | 12 => i12
    | _ => i13, ?_⟩
  intro k q hq
  match k, hq with
  | 0, hq => cases hq; exact h0
  | 1, hq => cases hq; exact h1
  | 2, hq => cases hq; exact h2
  | 3, hq => cases hq; exact h3
  | 4, hq => cases hq; exact h4
  | 5, hq => cases hq; exact h5
  | 6, hq => cases hq; exact h6
  | 7, hq => cases hq; exact h7
  | 8, hq => cases hq; exact h8
  | 9, hq => cases hq; exact h9
  | 10, hq => cases hq; exact h10
  | 11, hq => cases hq; exact h11
  | 12, hq => cases hq; exact h12
  | 13, hq => cases hq; exact h13
  | k + 14, hq => simp [classes] at hq
set_option maxRecDepth 20000 in
set_option maxHeartbeats 2000000 in
theorem st_arr (hts : ∀ w ∈ lw_tbl, w.before #[Value.ref b] s = true) : ∃ ca : FieldType → ClassId, ∀ q ∈ [FieldType.int, .byte, .boolean, .long, .object "RainOwed$Law", .object "RainOwed$Plan"], ArrOfT s (ca q) q ∧ va_RA s (ca q) q := by
  obtain ⟨c_int, k_int, m_int, a_int, b_int, d_int⟩ := Cond.arrayClass_spec (hts _ (List.mem_append_right _ (inT1 (List.mem_of_getElem? (i := 131) rfl))))
  obtain ⟨c_byte, k_byte, m_byte, a_byte, b_byte, d_byte⟩ := Cond.arrayClass_spec (hts _ (List.mem_append_right _ (inT1 (List.mem_of_getElem? (i := 57) rfl))))
  obtain ⟨c_boolean, k_boolean, m_boolean, a_boolean, b_boolean, d_boolean⟩ := Cond.arrayClass_spec (hts _ (List.mem_append_right _ (inT2 (List.mem_of_getElem? (i := 82) rfl))))
  obtain ⟨c_long, k_long, m_long, a_long, b_long, d_long⟩ := Cond.arrayClass_spec (hts _ (List.mem_append_right _ (inT6 (List.mem_of_getElem? (i := 144) rfl))))
  obtain ⟨m_Law, c_Law, k_Law, e_Law, -, b_Law, d_Law, a_Law⟩ := Cond.arrayOver_spec (hts _ (List.mem_append_right _ (inT1 (List.mem_of_getElem? (i := 185) rfl))))
  obtain ⟨m_Plan, c_Plan, k_Plan, e_Plan, -, b_Plan, d_Plan, a_Plan⟩ := Cond.arrayOver_spec (hts _ (List.mem_append_right _ (inT1 (List.mem_of_getElem? (i := 187) rfl))))
  refine ⟨fun t => match t with
    | .int => c_int
    | .byte => c_byte
    | .boolean => c_boolean
    | .long => c_long
    | .object "RainOwed$Law" => c_Law
    | _ => c_Plan, ?_⟩
  have ar : ∀ {c : ClassId} {k : Class} {m : ClassId} {ty : FieldType}, s.vm.classes[c]? = some k → k.kind = .array m ty → ArrOfT s c ty := fun h1 h2 n z => ⟨fun k h => (by cases h), _, h1, _, h2⟩
  intro q hq
  simp only [List.mem_cons, List.not_mem_nil, or_false] at hq
  rcases hq with rfl | rfl | rfl | rfl | rfl | rfl
  · exact ⟨ar b_int d_int, a_int⟩
  · exact ⟨ar b_byte d_byte, a_byte⟩
  · exact ⟨ar b_boolean d_boolean, a_boolean⟩
  · exact ⟨ar b_long d_long, a_long⟩
  · exact ⟨ar b_Law d_Law, k_Law, m_Law, b_Law, d_Law, e_Law, a_Law⟩
  · exact ⟨ar b_Plan d_Plan, k_Plan, m_Plan, b_Plan, d_Plan, e_Plan, a_Plan⟩
set_option maxRecDepth 20000 in
set_option maxHeartbeats 2000000 in
theorem st_A0 (hts : ∀ w ∈ lw_tbl, w.before #[Value.ref b] s = true) (hs : ∀ c ∈ flatC (Jvm.Cond.and given_1 narrow_1), c.before #[Value.ref b] s = true) : ∃ t : Nat, va_Z "RainOwed$PlainReader" (sNm 0) "[I" (.ref t) (fun q => s.heap.size ≤ q) s s.heap ∧ va_T .int t (sLs 0).length (fun j => .int ((sLs 0).getD j 0)) (fun q => s.heap.size ≤ q) s s.heap := by
  obtain ⟨t, h1, h2⟩ := va_Tof (args := #[Value.ref b]) (s := s) (tm := (Term.static "RainOwed$PlainReader" "RULES_WITHOUT" "[I")) (ty := .int) (N := 3) (f := fun j => .int (([1, 30, 2] : List Int32).getD j 0)) (A := fun q => s.heap.size ≤ q) (by decide) (hs (.arrayOf (Term.static "RainOwed$PlainReader" "RULES_WITHOUT" "[I") .int) (by decide +kernel)) (va_eqt (z := 3) (hs (.eq (.length (Term.static "RainOwed$PlainReader" "RULES_WITHOUT" "[I")) (.int 3)) (by decide +kernel)))
    (fun j hj => by
      rcases (show j = 0 ∨ j = 1 ∨ j = 2 by omega) with rfl | rfl | rfl
      · exact va_eqt (z := 1) (hs (.eq (.elem (Term.static "RainOwed$PlainReader" "RULES_WITHOUT" "[I") (.int 0)) (.int 1)) (by decide +kernel))
      · exact va_eqt (z := 30) (hs (.eq (.elem (Term.static "RainOwed$PlainReader" "RULES_WITHOUT" "[I") (.int 1)) (.int 30)) (by decide +kernel))
      · exact va_eqt (z := 2) (hs (.eq (.elem (Term.static "RainOwed$PlainReader" "RULES_WITHOUT" "[I") (.int 2)) (.int 2)) (by decide +kernel))) (fun a ha (h : s.heap.size ≤ a) => by omega)
  exact ⟨t, va_Zref (hts _ (List.mem_append_right _ (inT2 (List.mem_of_getElem? (i := 169) rfl)))) (hts _ (List.mem_append_right _ (inT1 (List.mem_of_getElem? (i := 3) rfl)))) h1 (fun a ha (h : s.heap.size ≤ a) => by omega), h2⟩
set_option maxRecDepth 20000 in
set_option maxHeartbeats 2000000 in
theorem st_A1 (hts : ∀ w ∈ lw_tbl, w.before #[Value.ref b] s = true) (hs : ∀ c ∈ flatC (Jvm.Cond.and given_1 narrow_1), c.before #[Value.ref b] s = true) : ∃ t : Nat, va_Z "RainOwed$PlainReader" (sNm 1) "[I" (.ref t) (fun q => s.heap.size ≤ q) s s.heap ∧ va_T .int t (sLs 1).length (fun j => .int ((sLs 1).getD j 0)) (fun q => s.heap.size ≤ q) s s.heap := by
  obtain ⟨t, h1, h2⟩ := va_Tof (args := #[Value.ref b]) (s := s) (tm := (Term.static "RainOwed$PlainReader" "ITEMS_WITHOUT" "[I")) (ty := .int) (N := 5) (f := fun j => .int (([0, 6, 5, 3, 20] : List Int32).getD j 0)) (A := fun q => s.heap.size ≤ q) (by decide) (hs (.arrayOf (Term.static "RainOwed$PlainReader" "ITEMS_WITHOUT" "[I") .int) (by decide +kernel)) (va_eqt (z := 5) (hs (.eq (.length (Term.static "RainOwed$PlainReader" "ITEMS_WITHOUT" "[I")) (.int 5)) (by decide +kernel)))
    (fun j hj => by
      rcases (show j = 0 ∨ j = 1 ∨ j = 2 ∨ j = 3 ∨ j = 4 by omega) with rfl | rfl | rfl | rfl | rfl
      · exact va_eqt (z := 0) (hs (.eq (.elem (Term.static "RainOwed$PlainReader" "ITEMS_WITHOUT" "[I") (.int 0)) (.int 0)) (by decide +kernel))
      · exact va_eqt (z := 6) (hs (.eq (.elem (Term.static "RainOwed$PlainReader" "ITEMS_WITHOUT" "[I") (.int 1)) (.int 6)) (by decide +kernel))
      · exact va_eqt (z := 5) (hs (.eq (.elem (Term.static "RainOwed$PlainReader" "ITEMS_WITHOUT" "[I") (.int 2)) (.int 5)) (by decide +kernel))
      · exact va_eqt (z := 3) (hs (.eq (.elem (Term.static "RainOwed$PlainReader" "ITEMS_WITHOUT" "[I") (.int 3)) (.int 3)) (by decide +kernel))
      · exact va_eqt (z := 20) (hs (.eq (.elem (Term.static "RainOwed$PlainReader" "ITEMS_WITHOUT" "[I") (.int 4)) (.int 20)) (by decide +kernel))) (fun a ha (h : s.heap.size ≤ a) => by omega)
  exact ⟨t, va_Zref (hts _ (List.mem_append_right _ (inT1 (List.mem_of_getElem? (i := 65) rfl)))) (hts _ (List.mem_append_right _ (inT1 (List.mem_of_getElem? (i := 3) rfl)))) h1 (fun a ha (h : s.heap.size ≤ a) => by omega), h2⟩
set_option maxRecDepth 20000 in
set_option maxHeartbeats 2000000 in
theorem st_A2 (hts : ∀ w ∈ lw_tbl, w.before #[Value.ref b] s = true) (hs : ∀ c ∈ flatC (Jvm.Cond.and given_1 narrow_1), c.before #[Value.ref b] s = true) : ∃ t : Nat, va_Z "RainOwed$PlainReader" (sNm 2) "[I" (.ref t) (fun q => s.heap.size ≤ q) s s.heap ∧ va_T .int t (sLs 2).length (fun j => .int ((sLs 2).getD j 0)) (fun q => s.heap.size ≤ q) s s.heap := by
  obtain ⟨t, h1, h2⟩ := va_Tof (args := #[Value.ref b]) (s := s) (tm := (Term.static "RainOwed$PlainReader" "LEAST_RULES" "[I")) (ty := .int) (N := 3) (f := fun j => .int (([0, 1, 0] : List Int32).getD j 0)) (A := fun q => s.heap.size ≤ q) (by decide) (hs (.arrayOf (Term.static "RainOwed$PlainReader" "LEAST_RULES" "[I") .int) (by decide +kernel)) (va_eqt (z := 3) (hs (.eq (.length (Term.static "RainOwed$PlainReader" "LEAST_RULES" "[I")) (.int 3)) (by decide +kernel)))
    (fun j hj => by
      rcases (show j = 0 ∨ j = 1 ∨ j = 2 by omega) with rfl | rfl | rfl
      · exact va_eqt (z := 0) (hs (.eq (.elem (Term.static "RainOwed$PlainReader" "LEAST_RULES" "[I") (.int 0)) (.int 0)) (by decide +kernel))
      · exact va_eqt (z := 1) (hs (.eq (.elem (Term.static "RainOwed$PlainReader" "LEAST_RULES" "[I") (.int 1)) (.int 1)) (by decide +kernel))
      · exact va_eqt (z := 0) (hs (.eq (.elem (Term.static "RainOwed$PlainReader" "LEAST_RULES" "[I") (.int 2)) (.int 0)) (by decide +kernel))) (fun a ha (h : s.heap.size ≤ a) => by omega)
  exact ⟨t, va_Zref (hts _ (List.mem_append_right _ (inT2 (List.mem_of_getElem? (i := 194) rfl)))) (hts _ (List.mem_append_right _ (inT1 (List.mem_of_getElem? (i := 3) rfl)))) h1 (fun a ha (h : s.heap.size ≤ a) => by omega), h2⟩
set_option maxRecDepth 20000 in
set_option maxHeartbeats 2000000 in
theorem st_A3 (hts : ∀ w ∈ lw_tbl, w.before #[Value.ref b] s = true) (hs : ∀ c ∈ flatC (Jvm.Cond.and given_1 narrow_1), c.before #[Value.ref b] s = true) : ∃ t : Nat, va_Z "RainOwed$PlainReader" (sNm 3) "[I" (.ref t) (fun q => s.heap.size ≤ q) s s.heap ∧ va_T .int t (sLs 3).length (fun j => .int ((sLs 3).getD j 0)) (fun q => s.heap.size ≤ q) s s.heap := by
  obtain ⟨t, h1, h2⟩ := va_Tof (args := #[Value.ref b]) (s := s) (tm := (Term.static "RainOwed$PlainReader" "MOST_RULES" "[I")) (ty := .int) (N := 3) (f := fun j => .int (([9, 99, 30] : List Int32).getD j 0)) (A := fun q => s.heap.size ≤ q) (by decide) (hs (.arrayOf (Term.static "RainOwed$PlainReader" "MOST_RULES" "[I") .int) (by decide +kernel)) (va_eqt (z := 3) (hs (.eq (.length (Term.static "RainOwed$PlainReader" "MOST_RULES" "[I")) (.int 3)) (by decide +kernel)))
    (fun j hj => by
      rcases (show j = 0 ∨ j = 1 ∨ j = 2 by omega) with rfl | rfl | rfl
      · exact va_eqt (z := 9) (hs (.eq (.elem (Term.static "RainOwed$PlainReader" "MOST_RULES" "[I") (.int 0)) (.int 9)) (by decide +kernel))
      · exact va_eqt (z := 99) (hs (.eq (.elem (Term.static "RainOwed$PlainReader" "MOST_RULES" "[I") (.int 1)) (.int 99)) (by decide +kernel))
      · exact va_eqt (z := 30) (hs (.eq (.elem (Term.static "RainOwed$PlainReader" "MOST_RULES" "[I") (.int 2)) (.int 30)) (by decide +kernel))) (fun a ha (h : s.heap.size ≤ a) => by omega)
  exact ⟨t, va_Zref (hts _ (List.mem_append_right _ (inT2 (List.mem_of_getElem? (i := 196) rfl)))) (hts _ (List.mem_append_right _ (inT1 (List.mem_of_getElem? (i := 3) rfl)))) h1 (fun a ha (h : s.heap.size ≤ a) => by omega), h2⟩
set_option maxRecDepth 20000 in
set_option maxHeartbeats 2000000 in
theorem st_A4 (hts : ∀ w ∈ lw_tbl, w.before #[Value.ref b] s = true) (hs : ∀ c ∈ flatC (Jvm.Cond.and given_1 narrow_1), c.before #[Value.ref b] s = true) : ∃ t : Nat, va_Z "RainOwed$PlainReader" (sNm 4) "[I" (.ref t) (fun q => s.heap.size ≤ q) s s.heap ∧ va_T .int t (sLs 4).length (fun j => .int ((sLs 4).getD j 0)) (fun q => s.heap.size ≤ q) s s.heap := by
  obtain ⟨t, h1, h2⟩ := va_Tof (args := #[Value.ref b]) (s := s) (tm := (Term.static "RainOwed$PlainReader" "LEAST_ITEMS" "[I")) (ty := .int) (N := 5) (f := fun j => .int (([0, 0, 0, 0, 0] : List Int32).getD j 0)) (A := fun q => s.heap.size ≤ q) (by decide) (hs (.arrayOf (Term.static "RainOwed$PlainReader" "LEAST_ITEMS" "[I") .int) (by decide +kernel)) (va_eqt (z := 5) (hs (.eq (.length (Term.static "RainOwed$PlainReader" "LEAST_ITEMS" "[I")) (.int 5)) (by decide +kernel)))
    (fun j hj => by
      rcases (show j = 0 ∨ j = 1 ∨ j = 2 ∨ j = 3 ∨ j = 4 by omega) with rfl | rfl | rfl | rfl | rfl
      · exact va_eqt (z := 0) (hs (.eq (.elem (Term.static "RainOwed$PlainReader" "LEAST_ITEMS" "[I") (.int 0)) (.int 0)) (by decide +kernel))
      · exact va_eqt (z := 0) (hs (.eq (.elem (Term.static "RainOwed$PlainReader" "LEAST_ITEMS" "[I") (.int 1)) (.int 0)) (by decide +kernel))
      · exact va_eqt (z := 0) (hs (.eq (.elem (Term.static "RainOwed$PlainReader" "LEAST_ITEMS" "[I") (.int 2)) (.int 0)) (by decide +kernel))
      · exact va_eqt (z := 0) (hs (.eq (.elem (Term.static "RainOwed$PlainReader" "LEAST_ITEMS" "[I") (.int 3)) (.int 0)) (by decide +kernel))
      · exact va_eqt (z := 0) (hs (.eq (.elem (Term.static "RainOwed$PlainReader" "LEAST_ITEMS" "[I") (.int 4)) (.int 0)) (by decide +kernel))) (fun a ha (h : s.heap.size ≤ a) => by omega)
  exact ⟨t, va_Zref (hts _ (List.mem_append_right _ (inT3 (List.mem_of_getElem? (i := 60) rfl)))) (hts _ (List.mem_append_right _ (inT1 (List.mem_of_getElem? (i := 3) rfl)))) h1 (fun a ha (h : s.heap.size ≤ a) => by omega), h2⟩
set_option maxRecDepth 20000 in
set_option maxHeartbeats 2000000 in
theorem st_A5 (hts : ∀ w ∈ lw_tbl, w.before #[Value.ref b] s = true) (hs : ∀ c ∈ flatC (Jvm.Cond.and given_1 narrow_1), c.before #[Value.ref b] s = true) : ∃ t : Nat, va_Z "RainOwed$PlainReader" (sNm 5) "[I" (.ref t) (fun q => s.heap.size ≤ q) s s.heap ∧ va_T .int t (sLs 5).length (fun j => .int ((sLs 5).getD j 0)) (fun q => s.heap.size ≤ q) s s.heap := by
  obtain ⟨t, h1, h2⟩ := va_Tof (args := #[Value.ref b]) (s := s) (tm := (Term.static "RainOwed$PlainReader" "MOST_ITEMS" "[I")) (ty := .int) (N := 5) (f := fun j => .int (([99, 20, 30, 9, 99] : List Int32).getD j 0)) (A := fun q => s.heap.size ≤ q) (by decide) (hs (.arrayOf (Term.static "RainOwed$PlainReader" "MOST_ITEMS" "[I") .int) (by decide +kernel)) (va_eqt (z := 5) (hs (.eq (.length (Term.static "RainOwed$PlainReader" "MOST_ITEMS" "[I")) (.int 5)) (by decide +kernel)))
    (fun j hj => by
      rcases (show j = 0 ∨ j = 1 ∨ j = 2 ∨ j = 3 ∨ j = 4 by omega) with rfl | rfl | rfl | rfl | rfl
      · exact va_eqt (z := 99) (hs (.eq (.elem (Term.static "RainOwed$PlainReader" "MOST_ITEMS" "[I") (.int 0)) (.int 99)) (by decide +kernel))
      · exact va_eqt (z := 20) (hs (.eq (.elem (Term.static "RainOwed$PlainReader" "MOST_ITEMS" "[I") (.int 1)) (.int 20)) (by decide +kernel))
      · exact va_eqt (z := 30) (hs (.eq (.elem (Term.static "RainOwed$PlainReader" "MOST_ITEMS" "[I") (.int 2)) (.int 30)) (by decide +kernel))
      · exact va_eqt (z := 9) (hs (.eq (.elem (Term.static "RainOwed$PlainReader" "MOST_ITEMS" "[I") (.int 3)) (.int 9)) (by decide +kernel))
      · exact va_eqt (z := 99) (hs (.eq (.elem (Term.static "RainOwed$PlainReader" "MOST_ITEMS" "[I") (.int 4)) (.int 99)) (by decide +kernel))) (fun a ha (h : s.heap.size ≤ a) => by omega)
  exact ⟨t, va_Zref (hts _ (List.mem_append_right _ (inT3 (List.mem_of_getElem? (i := 62) rfl)))) (hts _ (List.mem_append_right _ (inT1 (List.mem_of_getElem? (i := 3) rfl)))) h1 (fun a ha (h : s.heap.size ≤ a) => by omega), h2⟩
set_option maxRecDepth 20000 in
set_option maxHeartbeats 2000000 in
theorem st_S0 (hts : ∀ w ∈ lw_tbl, w.before #[Value.ref b] s = true) (hs : ∀ c ∈ flatC (Jvm.Cond.and given_1 narrow_1), c.before #[Value.ref b] s = true) : ∃ a v : Nat, vk_R (kOw 0).1 (kOw 0).2.1 (kOw 0).2.2 a s ∧ vk_S 1 [kLn.getD 0 0] [kBy.getD 0 []] (fun _ => a) (fun _ => v) (fun q => s.heap.size ≤ q) s s.heap := by
  obtain ⟨adK, adV, h1, h2⟩ := vk_Sof (args := #[Value.ref b]) (s := s) (N := 1) (tm := fun _ => (Term.string "RainOwed$PlainReader" 67)) (len := [3]) (byt := [[105, 100, 112]]) (A := fun q => s.heap.size ≤ q)
    (fun i hi => by rcases (show i = 0 by omega) with rfl; decide) (fun i hi => hs (.exactly (Term.string "RainOwed$PlainReader" 67) "java/lang/String") (by decide +kernel)) (fun i hi => hs (.eq (.field (Term.string "RainOwed$PlainReader" 67) "java/lang/String" "coder" "B") (.int 0)) (by decide +kernel))
    (fun i hi => hs (.arrayOf (Term.field (Term.string "RainOwed$PlainReader" 67) "java/lang/String" "value" "[B") .byte) (by decide +kernel)) (fun i hi => by rcases (show i = 0 by omega) with rfl; exact hs (.eq (.length (Term.field (Term.string "RainOwed$PlainReader" 67) "java/lang/String" "value" "[B")) (.int 3)) (by decide +kernel))
    (fun i hi j hj => by
      rcases (show i = 0 by omega) with rfl
      have hj : j < 3 := hj
      rcases (show j = 0 ∨ j = 1 ∨ j = 2 by omega) with rfl | rfl | rfl
      · exact hs (.eq (.elem (Term.field (Term.string "RainOwed$PlainReader" 67) "java/lang/String" "value" "[B") (.int 0)) (.int 105)) (by decide +kernel)
      · exact hs (.eq (.elem (Term.field (Term.string "RainOwed$PlainReader" 67) "java/lang/String" "value" "[B") (.int 1)) (.int 100)) (by decide +kernel)
      · exact hs (.eq (.elem (Term.field (Term.string "RainOwed$PlainReader" 67) "java/lang/String" "value" "[B") (.int 2)) (.int 112)) (by decide +kernel))
    (fun i j hi hj h => absurd (by omega) h) (fun a ha (h : s.heap.size ≤ a) => by omega)
  refine ⟨adK 0, adV 0, vk_R.of (A := #[Value.ref b]) (hts _ (List.mem_append_right _ (inT2 (List.mem_of_getElem? (i := 192) rfl)))) (h2 0 (by decide)), ⟨fun i hi => ?_, fun i j hi hj _ => by omega⟩⟩
  rcases (show i = 0 by omega) with rfl
  exact h1.1 0 (by decide)
set_option maxRecDepth 20000 in
set_option maxHeartbeats 2000000 in
theorem st_S1 (hts : ∀ w ∈ lw_tbl, w.before #[Value.ref b] s = true) (hs : ∀ c ∈ flatC (Jvm.Cond.and given_1 narrow_1), c.before #[Value.ref b] s = true) : ∃ a v : Nat, vk_R (kOw 1).1 (kOw 1).2.1 (kOw 1).2.2 a s ∧ vk_S 1 [kLn.getD 1 0] [kBy.getD 1 []] (fun _ => a) (fun _ => v) (fun q => s.heap.size ≤ q) s s.heap := by
  obtain ⟨adK, adV, h1, h2⟩ := vk_Sof (args := #[Value.ref b]) (s := s) (N := 1) (tm := fun _ => (Term.string "RainOwed$PlainReader" 79)) (len := [5]) (byt := [[111, 110, 119, 118, 99]]) (A := fun q => s.heap.size ≤ q)
    (fun i hi => by rcases (show i = 0 by omega) with rfl; decide) (fun i hi => hs (.exactly (Term.string "RainOwed$PlainReader" 79) "java/lang/String") (by decide +kernel)) (fun i hi => hs (.eq (.field (Term.string "RainOwed$PlainReader" 79) "java/lang/String" "coder" "B") (.int 0)) (by decide +kernel))
    (fun i hi => hs (.arrayOf (Term.field (Term.string "RainOwed$PlainReader" 79) "java/lang/String" "value" "[B") .byte) (by decide +kernel)) (fun i hi => by rcases (show i = 0 by omega) with rfl; exact hs (.eq (.length (Term.field (Term.string "RainOwed$PlainReader" 79) "java/lang/String" "value" "[B")) (.int 5)) (by decide +kernel))
    (fun i hi j hj => by
      rcases (show i = 0 by omega) with rfl
      have hj : j < 5 := hj
      rcases (show j = 0 ∨ j = 1 ∨ j = 2 ∨ j = 3 ∨ j = 4 by omega) with rfl | rfl | rfl | rfl | rfl
      · exact hs (.eq (.elem (Term.field (Term.string "RainOwed$PlainReader" 79) "java/lang/String" "value" "[B") (.int 0)) (.int 111)) (by decide +kernel)
      · exact hs (.eq (.elem (Term.field (Term.string "RainOwed$PlainReader" 79) "java/lang/String" "value" "[B") (.int 1)) (.int 110)) (by decide +kernel)
      · exact hs (.eq (.elem (Term.field (Term.string "RainOwed$PlainReader" 79) "java/lang/String" "value" "[B") (.int 2)) (.int 119)) (by decide +kernel)
      · exact hs (.eq (.elem (Term.field (Term.string "RainOwed$PlainReader" 79) "java/lang/String" "value" "[B") (.int 3)) (.int 118)) (by decide +kernel)
      · exact hs (.eq (.elem (Term.field (Term.string "RainOwed$PlainReader" 79) "java/lang/String" "value" "[B") (.int 4)) (.int 99)) (by decide +kernel))
    (fun i j hi hj h => absurd (by omega) h) (fun a ha (h : s.heap.size ≤ a) => by omega)
  refine ⟨adK 0, adV 0, vk_R.of (A := #[Value.ref b]) (hts _ (List.mem_append_right _ (inT3 (List.mem_of_getElem? (i := 58) rfl)))) (h2 0 (by decide)), ⟨fun i hi => ?_, fun i j hi hj _ => by omega⟩⟩
  rcases (show i = 0 by omega) with rfl
  exact h1.1 0 (by decide)
set_option maxRecDepth 20000 in
set_option maxHeartbeats 2000000 in
theorem st_S2 (hts : ∀ w ∈ lw_tbl, w.before #[Value.ref b] s = true) (hs : ∀ c ∈ flatC (Jvm.Cond.and given_1 narrow_1), c.before #[Value.ref b] s = true) : ∃ a v : Nat, vk_R (kOw 2).1 (kOw 2).2.1 (kOw 2).2.2 a s ∧ vk_S 1 [kLn.getD 2 0] [kBy.getD 2 []] (fun _ => a) (fun _ => v) (fun q => s.heap.size ≤ q) s s.heap := by
  obtain ⟨adK, adV, h1, h2⟩ := vk_Sof (args := #[Value.ref b]) (s := s) (N := 1) (tm := fun _ => (Term.string "RainOwed$LawReader" 88)) (len := [6]) (byt := [[111, 110, 119, 118, 115, 116]]) (A := fun q => s.heap.size ≤ q)
    (fun i hi => by rcases (show i = 0 by omega) with rfl; decide) (fun i hi => hs (.exactly (Term.string "RainOwed$LawReader" 88) "java/lang/String") (by decide +kernel)) (fun i hi => hs (.eq (.field (Term.string "RainOwed$LawReader" 88) "java/lang/String" "coder" "B") (.int 0)) (by decide +kernel))
    (fun i hi => hs (.arrayOf (Term.field (Term.string "RainOwed$LawReader" 88) "java/lang/String" "value" "[B") .byte) (by decide +kernel)) (fun i hi => by rcases (show i = 0 by omega) with rfl; exact hs (.eq (.length (Term.field (Term.string "RainOwed$LawReader" 88) "java/lang/String" "value" "[B")) (.int 6)) (by decide +kernel))
    (fun i hi j hj => by
      rcases (show i = 0 by omega) with rfl
      have hj : j < 6 := hj
      rcases (show j = 0 ∨ j = 1 ∨ j = 2 ∨ j = 3 ∨ j = 4 ∨ j = 5 by omega) with rfl | rfl | rfl | rfl | rfl | rfl
      · exact hs (.eq (.elem (Term.field (Term.string "RainOwed$LawReader" 88) "java/lang/String" "value" "[B") (.int 0)) (.int 111)) (by decide +kernel)
      · exact hs (.eq (.elem (Term.field (Term.string "RainOwed$LawReader" 88) "java/lang/String" "value" "[B") (.int 1)) (.int 110)) (by decide +kernel)
      · exact hs (.eq (.elem (Term.field (Term.string "RainOwed$LawReader" 88) "java/lang/String" "value" "[B") (.int 2)) (.int 119)) (by decide +kernel)
      · exact hs (.eq (.elem (Term.field (Term.string "RainOwed$LawReader" 88) "java/lang/String" "value" "[B") (.int 3)) (.int 118)) (by decide +kernel)
      · exact hs (.eq (.elem (Term.field (Term.string "RainOwed$LawReader" 88) "java/lang/String" "value" "[B") (.int 4)) (.int 115)) (by decide +kernel)
      · exact hs (.eq (.elem (Term.field (Term.string "RainOwed$LawReader" 88) "java/lang/String" "value" "[B") (.int 5)) (.int 116)) (by decide +kernel))
    (fun i j hi hj h => absurd (by omega) h) (fun a ha (h : s.heap.size ≤ a) => by omega)
  refine ⟨adK 0, adV 0, vk_R.of (A := #[Value.ref b]) (hts _ (List.mem_append_right _ (inT3 (List.mem_of_getElem? (i := 121) rfl)))) (h2 0 (by decide)), ⟨fun i hi => ?_, fun i j hi hj _ => by omega⟩⟩
  rcases (show i = 0 by omega) with rfl
  exact h1.1 0 (by decide)
set_option maxRecDepth 20000 in
set_option maxHeartbeats 2000000 in
theorem st_S3 (hts : ∀ w ∈ lw_tbl, w.before #[Value.ref b] s = true) (hs : ∀ c ∈ flatC (Jvm.Cond.and given_1 narrow_1), c.before #[Value.ref b] s = true) : ∃ a v : Nat, vk_R (kOw 3).1 (kOw 3).2.1 (kOw 3).2.2 a s ∧ vk_S 1 [kLn.getD 3 0] [kBy.getD 3 []] (fun _ => a) (fun _ => v) (fun q => s.heap.size ≤ q) s s.heap := by
  obtain ⟨adK, adV, h1, h2⟩ := vk_Sof (args := #[Value.ref b]) (s := s) (N := 1) (tm := fun _ => (Term.string "RainOwed$PlanReader" 50)) (len := [4]) (byt := [[121, 109, 104, 107]]) (A := fun q => s.heap.size ≤ q)
    (fun i hi => by rcases (show i = 0 by omega) with rfl; decide) (fun i hi => hs (.exactly (Term.string "RainOwed$PlanReader" 50) "java/lang/String") (by decide +kernel)) (fun i hi => hs (.eq (.field (Term.string "RainOwed$PlanReader" 50) "java/lang/String" "coder" "B") (.int 0)) (by decide +kernel))
    (fun i hi => hs (.arrayOf (Term.field (Term.string "RainOwed$PlanReader" 50) "java/lang/String" "value" "[B") .byte) (by decide +kernel)) (fun i hi => by rcases (show i = 0 by omega) with rfl; exact hs (.eq (.length (Term.field (Term.string "RainOwed$PlanReader" 50) "java/lang/String" "value" "[B")) (.int 4)) (by decide +kernel))
    (fun i hi j hj => by
      rcases (show i = 0 by omega) with rfl
      have hj : j < 4 := hj
      rcases (show j = 0 ∨ j = 1 ∨ j = 2 ∨ j = 3 by omega) with rfl | rfl | rfl | rfl
      · exact hs (.eq (.elem (Term.field (Term.string "RainOwed$PlanReader" 50) "java/lang/String" "value" "[B") (.int 0)) (.int 121)) (by decide +kernel)
      · exact hs (.eq (.elem (Term.field (Term.string "RainOwed$PlanReader" 50) "java/lang/String" "value" "[B") (.int 1)) (.int 109)) (by decide +kernel)
      · exact hs (.eq (.elem (Term.field (Term.string "RainOwed$PlanReader" 50) "java/lang/String" "value" "[B") (.int 2)) (.int 104)) (by decide +kernel)
      · exact hs (.eq (.elem (Term.field (Term.string "RainOwed$PlanReader" 50) "java/lang/String" "value" "[B") (.int 3)) (.int 107)) (by decide +kernel))
    (fun i j hi hj h => absurd (by omega) h) (fun a ha (h : s.heap.size ≤ a) => by omega)
  refine ⟨adK 0, adV 0, vk_R.of (A := #[Value.ref b]) (hts _ (List.mem_append_right _ (inT3 (List.mem_of_getElem? (i := 133) rfl)))) (h2 0 (by decide)), ⟨fun i hi => ?_, fun i j hi hj _ => by omega⟩⟩
  rcases (show i = 0 by omega) with rfl
  exact h1.1 0 (by decide)
set_option maxRecDepth 20000 in
set_option maxHeartbeats 2000000 in
theorem st_S4 (hts : ∀ w ∈ lw_tbl, w.before #[Value.ref b] s = true) (hs : ∀ c ∈ flatC (Jvm.Cond.and given_1 narrow_1), c.before #[Value.ref b] s = true) : ∃ a v : Nat, vk_R (kOw 4).1 (kOw 4).2.1 (kOw 4).2.2 a s ∧ vk_S 1 [kLn.getD 4 0] [kBy.getD 4 []] (fun _ => a) (fun _ => v) (fun q => s.heap.size ≤ q) s s.heap := by
  obtain ⟨adK, adV, h1, h2⟩ := vk_Sof (args := #[Value.ref b]) (s := s) (N := 1) (tm := fun _ => (Term.string "RainOwedModel" 26)) (len := [1]) (byt := [[121]]) (A := fun q => s.heap.size ≤ q)
    (fun i hi => by rcases (show i = 0 by omega) with rfl; decide) (fun i hi => hs (.exactly (Term.string "RainOwedModel" 26) "java/lang/String") (by decide +kernel)) (fun i hi => hs (.eq (.field (Term.string "RainOwedModel" 26) "java/lang/String" "coder" "B") (.int 0)) (by decide +kernel))
    (fun i hi => hs (.arrayOf (Term.field (Term.string "RainOwedModel" 26) "java/lang/String" "value" "[B") .byte) (by decide +kernel)) (fun i hi => by rcases (show i = 0 by omega) with rfl; exact hs (.eq (.length (Term.field (Term.string "RainOwedModel" 26) "java/lang/String" "value" "[B")) (.int 1)) (by decide +kernel))
    (fun i hi j hj => by
      rcases (show i = 0 by omega) with rfl
      have hj : j < 1 := hj
      rcases (show j = 0 by omega) with rfl
      · exact hs (.eq (.elem (Term.field (Term.string "RainOwedModel" 26) "java/lang/String" "value" "[B") (.int 0)) (.int 121)) (by decide +kernel))
    (fun i j hi hj h => absurd (by omega) h) (fun a ha (h : s.heap.size ≤ a) => by omega)
  refine ⟨adK 0, adV 0, vk_R.of (A := #[Value.ref b]) (hts _ (List.mem_append_right _ (inT5 (List.mem_of_getElem? (i := 234) rfl)))) (h2 0 (by decide)), ⟨fun i hi => ?_, fun i j hi hj _ => by omega⟩⟩
  rcases (show i = 0 by omega) with rfl
  exact h1.1 0 (by decide)
set_option maxRecDepth 20000 in
set_option maxHeartbeats 2000000 in
theorem st_S5 (hts : ∀ w ∈ lw_tbl, w.before #[Value.ref b] s = true) (hs : ∀ c ∈ flatC (Jvm.Cond.and given_1 narrow_1), c.before #[Value.ref b] s = true) : ∃ a v : Nat, vk_R (kOw 5).1 (kOw 5).2.1 (kOw 5).2.2 a s ∧ vk_S 1 [kLn.getD 5 0] [kBy.getD 5 []] (fun _ => a) (fun _ => v) (fun q => s.heap.size ≤ q) s s.heap := by
  obtain ⟨adK, adV, h1, h2⟩ := vk_Sof (args := #[Value.ref b]) (s := s) (N := 1) (tm := fun _ => (Term.string "RainOwedModel" 32)) (len := [6]) (byt := [[111, 110, 119, 118, 115, 116]]) (A := fun q => s.heap.size ≤ q)
    (fun i hi => by rcases (show i = 0 by omega) with rfl; decide) (fun i hi => hs (.exactly (Term.string "RainOwedModel" 32) "java/lang/String") (by decide +kernel)) (fun i hi => hs (.eq (.field (Term.string "RainOwedModel" 32) "java/lang/String" "coder" "B") (.int 0)) (by decide +kernel))
    (fun i hi => hs (.arrayOf (Term.field (Term.string "RainOwedModel" 32) "java/lang/String" "value" "[B") .byte) (by decide +kernel)) (fun i hi => by rcases (show i = 0 by omega) with rfl; exact hs (.eq (.length (Term.field (Term.string "RainOwedModel" 32) "java/lang/String" "value" "[B")) (.int 6)) (by decide +kernel))
    (fun i hi j hj => by
      rcases (show i = 0 by omega) with rfl
      have hj : j < 6 := hj
      rcases (show j = 0 ∨ j = 1 ∨ j = 2 ∨ j = 3 ∨ j = 4 ∨ j = 5 by omega) with rfl | rfl | rfl | rfl | rfl | rfl
      · exact hs (.eq (.elem (Term.field (Term.string "RainOwedModel" 32) "java/lang/String" "value" "[B") (.int 0)) (.int 111)) (by decide +kernel)
      · exact hs (.eq (.elem (Term.field (Term.string "RainOwedModel" 32) "java/lang/String" "value" "[B") (.int 1)) (.int 110)) (by decide +kernel)
      · exact hs (.eq (.elem (Term.field (Term.string "RainOwedModel" 32) "java/lang/String" "value" "[B") (.int 2)) (.int 119)) (by decide +kernel)
      · exact hs (.eq (.elem (Term.field (Term.string "RainOwedModel" 32) "java/lang/String" "value" "[B") (.int 3)) (.int 118)) (by decide +kernel)
      · exact hs (.eq (.elem (Term.field (Term.string "RainOwedModel" 32) "java/lang/String" "value" "[B") (.int 4)) (.int 115)) (by decide +kernel)
      · exact hs (.eq (.elem (Term.field (Term.string "RainOwedModel" 32) "java/lang/String" "value" "[B") (.int 5)) (.int 116)) (by decide +kernel))
    (fun i j hi hj h => absurd (by omega) h) (fun a ha (h : s.heap.size ≤ a) => by omega)
  refine ⟨adK 0, adV 0, vk_R.of (A := #[Value.ref b]) (hts _ (List.mem_append_right _ (inT5 (List.mem_of_getElem? (i := 235) rfl)))) (h2 0 (by decide)), ⟨fun i hi => ?_, fun i j hi hj _ => by omega⟩⟩
  rcases (show i = 0 by omega) with rfl
  exact h1.1 0 (by decide)
set_option maxRecDepth 20000 in
set_option maxHeartbeats 2000000 in
theorem st_S6 (hts : ∀ w ∈ lw_tbl, w.before #[Value.ref b] s = true) (hs : ∀ c ∈ flatC (Jvm.Cond.and given_1 narrow_1), c.before #[Value.ref b] s = true) : ∃ a v : Nat, vk_R (kOw 6).1 (kOw 6).2.1 (kOw 6).2.2 a s ∧ vk_S 1 [kLn.getD 6 0] [kBy.getD 6 []] (fun _ => a) (fun _ => v) (fun q => s.heap.size ≤ q) s s.heap := by
  obtain ⟨adK, adV, h1, h2⟩ := vk_Sof (args := #[Value.ref b]) (s := s) (N := 1) (tm := fun _ => (Term.string "RainOwedModel" 252)) (len := [3]) (byt := [[105, 100, 112]]) (A := fun q => s.heap.size ≤ q)
    (fun i hi => by rcases (show i = 0 by omega) with rfl; decide) (fun i hi => hs (.exactly (Term.string "RainOwedModel" 252) "java/lang/String") (by decide +kernel)) (fun i hi => hs (.eq (.field (Term.string "RainOwedModel" 252) "java/lang/String" "coder" "B") (.int 0)) (by decide +kernel))
    (fun i hi => hs (.arrayOf (Term.field (Term.string "RainOwedModel" 252) "java/lang/String" "value" "[B") .byte) (by decide +kernel)) (fun i hi => by rcases (show i = 0 by omega) with rfl; exact hs (.eq (.length (Term.field (Term.string "RainOwedModel" 252) "java/lang/String" "value" "[B")) (.int 3)) (by decide +kernel))
    (fun i hi j hj => by
      rcases (show i = 0 by omega) with rfl
      have hj : j < 3 := hj
      rcases (show j = 0 ∨ j = 1 ∨ j = 2 by omega) with rfl | rfl | rfl
      · exact hs (.eq (.elem (Term.field (Term.string "RainOwedModel" 252) "java/lang/String" "value" "[B") (.int 0)) (.int 105)) (by decide +kernel)
      · exact hs (.eq (.elem (Term.field (Term.string "RainOwedModel" 252) "java/lang/String" "value" "[B") (.int 1)) (.int 100)) (by decide +kernel)
      · exact hs (.eq (.elem (Term.field (Term.string "RainOwedModel" 252) "java/lang/String" "value" "[B") (.int 2)) (.int 112)) (by decide +kernel))
    (fun i j hi hj h => absurd (by omega) h) (fun a ha (h : s.heap.size ≤ a) => by omega)
  refine ⟨adK 0, adV 0, vk_R.of (A := #[Value.ref b]) (hts _ (List.mem_append_right _ (inT6 (List.mem_of_getElem? (i := 195) rfl)))) (h2 0 (by decide)), ⟨fun i hi => ?_, fun i j hi hj _ => by omega⟩⟩
  rcases (show i = 0 by omega) with rfl
  exact h1.1 0 (by decide)
set_option maxRecDepth 20000 in
set_option maxHeartbeats 2000000 in
theorem st_S7 (hts : ∀ w ∈ lw_tbl, w.before #[Value.ref b] s = true) (hs : ∀ c ∈ flatC (Jvm.Cond.and given_1 narrow_1), c.before #[Value.ref b] s = true) : ∃ a v : Nat, vk_R (kOw 7).1 (kOw 7).2.1 (kOw 7).2.2 a s ∧ vk_S 1 [kLn.getD 7 0] [kBy.getD 7 []] (fun _ => a) (fun _ => v) (fun q => s.heap.size ≤ q) s s.heap := by
  obtain ⟨adK, adV, h1, h2⟩ := vk_Sof (args := #[Value.ref b]) (s := s) (N := 1) (tm := fun _ => (Term.string "RainOwedModel" 258)) (len := [5]) (byt := [[111, 110, 119, 118, 99]]) (A := fun q => s.heap.size ≤ q)
    (fun i hi => by rcases (show i = 0 by omega) with rfl; decide) (fun i hi => hs (.exactly (Term.string "RainOwedModel" 258) "java/lang/String") (by decide +kernel)) (fun i hi => hs (.eq (.field (Term.string "RainOwedModel" 258) "java/lang/String" "coder" "B") (.int 0)) (by decide +kernel))
    (fun i hi => hs (.arrayOf (Term.field (Term.string "RainOwedModel" 258) "java/lang/String" "value" "[B") .byte) (by decide +kernel)) (fun i hi => by rcases (show i = 0 by omega) with rfl; exact hs (.eq (.length (Term.field (Term.string "RainOwedModel" 258) "java/lang/String" "value" "[B")) (.int 5)) (by decide +kernel))
    (fun i hi j hj => by
      rcases (show i = 0 by omega) with rfl
      have hj : j < 5 := hj
      rcases (show j = 0 ∨ j = 1 ∨ j = 2 ∨ j = 3 ∨ j = 4 by omega) with rfl | rfl | rfl | rfl | rfl
      · exact hs (.eq (.elem (Term.field (Term.string "RainOwedModel" 258) "java/lang/String" "value" "[B") (.int 0)) (.int 111)) (by decide +kernel)
      · exact hs (.eq (.elem (Term.field (Term.string "RainOwedModel" 258) "java/lang/String" "value" "[B") (.int 1)) (.int 110)) (by decide +kernel)
      · exact hs (.eq (.elem (Term.field (Term.string "RainOwedModel" 258) "java/lang/String" "value" "[B") (.int 2)) (.int 119)) (by decide +kernel)
      · exact hs (.eq (.elem (Term.field (Term.string "RainOwedModel" 258) "java/lang/String" "value" "[B") (.int 3)) (.int 118)) (by decide +kernel)
      · exact hs (.eq (.elem (Term.field (Term.string "RainOwedModel" 258) "java/lang/String" "value" "[B") (.int 4)) (.int 99)) (by decide +kernel))
    (fun i j hi hj h => absurd (by omega) h) (fun a ha (h : s.heap.size ≤ a) => by omega)
  refine ⟨adK 0, adV 0, vk_R.of (A := #[Value.ref b]) (hts _ (List.mem_append_right _ (inT7 (List.mem_of_getElem? (i := 5) rfl)))) (h2 0 (by decide)), ⟨fun i hi => ?_, fun i j hi hj _ => by omega⟩⟩
  rcases (show i = 0 by omega) with rfl
  exact h1.1 0 (by decide)
set_option maxRecDepth 20000 in
set_option maxHeartbeats 2000000 in
theorem st_S8 (hts : ∀ w ∈ lw_tbl, w.before #[Value.ref b] s = true) (hs : ∀ c ∈ flatC (Jvm.Cond.and given_1 narrow_1), c.before #[Value.ref b] s = true) : ∃ a v : Nat, vk_R (kOw 8).1 (kOw 8).2.1 (kOw 8).2.2 a s ∧ vk_S 1 [kLn.getD 8 0] [kBy.getD 8 []] (fun _ => a) (fun _ => v) (fun q => s.heap.size ≤ q) s s.heap := by
  obtain ⟨adK, adV, h1, h2⟩ := vk_Sof (args := #[Value.ref b]) (s := s) (N := 1) (tm := fun _ => (Term.string "RainOwedModel" 263)) (len := [4]) (byt := [[121, 109, 104, 107]]) (A := fun q => s.heap.size ≤ q)
    (fun i hi => by rcases (show i = 0 by omega) with rfl; decide) (fun i hi => hs (.exactly (Term.string "RainOwedModel" 263) "java/lang/String") (by decide +kernel)) (fun i hi => hs (.eq (.field (Term.string "RainOwedModel" 263) "java/lang/String" "coder" "B") (.int 0)) (by decide +kernel))
    (fun i hi => hs (.arrayOf (Term.field (Term.string "RainOwedModel" 263) "java/lang/String" "value" "[B") .byte) (by decide +kernel)) (fun i hi => by rcases (show i = 0 by omega) with rfl; exact hs (.eq (.length (Term.field (Term.string "RainOwedModel" 263) "java/lang/String" "value" "[B")) (.int 4)) (by decide +kernel))
    (fun i hi j hj => by
      rcases (show i = 0 by omega) with rfl
      have hj : j < 4 := hj
      rcases (show j = 0 ∨ j = 1 ∨ j = 2 ∨ j = 3 by omega) with rfl | rfl | rfl | rfl
      · exact hs (.eq (.elem (Term.field (Term.string "RainOwedModel" 263) "java/lang/String" "value" "[B") (.int 0)) (.int 121)) (by decide +kernel)
      · exact hs (.eq (.elem (Term.field (Term.string "RainOwedModel" 263) "java/lang/String" "value" "[B") (.int 1)) (.int 109)) (by decide +kernel)
      · exact hs (.eq (.elem (Term.field (Term.string "RainOwedModel" 263) "java/lang/String" "value" "[B") (.int 2)) (.int 104)) (by decide +kernel)
      · exact hs (.eq (.elem (Term.field (Term.string "RainOwedModel" 263) "java/lang/String" "value" "[B") (.int 3)) (.int 107)) (by decide +kernel))
    (fun i j hi hj h => absurd (by omega) h) (fun a ha (h : s.heap.size ≤ a) => by omega)
  refine ⟨adK 0, adV 0, vk_R.of (A := #[Value.ref b]) (hts _ (List.mem_append_right _ (inT7 (List.mem_of_getElem? (i := 75) rfl)))) (h2 0 (by decide)), ⟨fun i hi => ?_, fun i j hi hj _ => by omega⟩⟩
  rcases (show i = 0 by omega) with rfl
  exact h1.1 0 (by decide)
set_option maxRecDepth 20000 in
set_option maxHeartbeats 2000000 in
theorem st_world (l : Launch) (hts : ∀ w ∈ lw_tbl, w.before #[Value.ref b] s = true) (hs : ∀ c ∈ flatC (Jvm.Cond.and given_1 narrow_1), c.before #[Value.ref b] s = true) (hX : va_X b L xs s s.heap) (hbl : b < s.heap.size) (hL : L < 2 ^ 31) : ∃ Ω : Om, oL Ω = l ∧ oB Ω = s.heap.size ∧ oX Ω = (b, L, xs) ∧ va_K (oD Ω) classes (tysM Ω) s ∧ Stat Ω s s.heap := by
  obtain ⟨dC, dI, hC⟩ := st_cls hts
  obtain ⟨ca, hca⟩ := st_arr hts
  obtain ⟨ta0, za0, va0⟩ := st_A0 hts hs
  obtain ⟨ta1, za1, va1⟩ := st_A1 hts hs
  obtain ⟨ta2, za2, va2⟩ := st_A2 hts hs
  obtain ⟨ta3, za3, va3⟩ := st_A3 hts hs
  obtain ⟨ta4, za4, va4⟩ := st_A4 hts hs
  obtain ⟨ta5, za5, va5⟩ := st_A5 hts hs
  obtain ⟨ks0, kv0, kr0, kq0⟩ := st_S0 hts hs
  obtain ⟨ks1, kv1, kr1, kq1⟩ := st_S1 hts hs
  obtain ⟨ks2, kv2, kr2, kq2⟩ := st_S2 hts hs
  obtain ⟨ks3, kv3, kr3, kq3⟩ := st_S3 hts hs
  obtain ⟨ks4, kv4, kr4, kq4⟩ := st_S4 hts hs
  obtain ⟨ks5, kv5, kr5, kq5⟩ := st_S5 hts hs
  obtain ⟨ks6, kv6, kr6, kq6⟩ := st_S6 hts hs
  obtain ⟨ks7, kv7, kr7, kq7⟩ := st_S7 hts hs
  obtain ⟨ks8, kv8, kr8, kq8⟩ := st_S8 hts hs
  have hcs : va_Z "java/lang/String" "COMPACT_STRINGS" "Z" (.int 1) (fun q => s.heap.size ≤ q) s s.heap := va_Zof (args := #[Value.ref b]) (hts _ (List.mem_append_right _ (inT2 (List.mem_of_getElem? (i := 210) rfl)))) (hts _ (List.mem_append_right _ (inT1 (List.mem_of_getElem? (i := 14) rfl)))) (va_eqi (z := 1) (hs (.eq (.static "java/lang/String" "COMPACT_STRINGS" "Z") (.int 1)) (by decide +kernel))) (fun a ha (h : s.heap.size ≤ a) => by omega)
  have hfq : ∃ q : Option Nat, va_Z "jdk/internal/util/Preconditions" "SIOOBE_FORMATTER" "Ljava/util/function/BiFunction;" (va_rf q) (fun q => s.heap.size ≤ q) s s.heap := by
    rcases va_Zqof (args := #[Value.ref b]) (A := fun q => s.heap.size ≤ q) (hts _ (List.mem_append_right _ (inT3 (List.mem_of_getElem? (i := 16) rfl)))) (hts _ (List.mem_append_right _ (inT1 (List.mem_of_getElem? (i := 17) rfl)))) (hs (.isRef (.static "jdk/internal/util/Preconditions" "SIOOBE_FORMATTER" "Ljava/util/function/BiFunction;")) (by decide +kernel)) (fun a ha (h : s.heap.size ≤ a) => by omega) with h | ⟨t, h⟩
    · exact ⟨none, h⟩
    · exact ⟨some t, h⟩
  obtain ⟨fq, hfq⟩ := hfq
  refine ⟨(l, (dC, dI), s.heap.size, ca, fun i => match i with
    | 0 => ta0
    | 1 => ta1
    | 2 => ta2
    | 3 => ta3
    | 4 => ta4
    | _ => ta5, fun i => match i with
    | 0 => ks0
    | 1 => ks1
    | 2 => ks2
    | 3 => ks3
    | 4 => ks4
    | 5 => ks5
    | 6 => ks6
    | 7 => ks7
    | _ => ks8, fun i => match i with
    | 0 => kv0
    | 1 => kv1
    | 2 => kv2
    | 3 => kv3
    | 4 => kv4
    | 5 => kv5
    | 6 => kv6
    | 7 => kv7
    | _ => kv8, (b, L, xs), fq), rfl, rfl, rfl, ⟨hC, ?_⟩, ?_, ?_, ?_, ?_, hcs, ?_, va_AO.of (hts _ (List.mem_append_right _ (inT1 (List.mem_of_getElem? (i := 185) rfl)))), va_AO.of (hts _ (List.mem_append_right _ (inT1 (List.mem_of_getElem? (i := 187) rfl)))), hfq, va_Nw.of rfl (hts _ (List.mem_append_right _ (inT3 (List.mem_of_getElem? (i := 172) rfl))))⟩
  · intro k q hk
    match k, hk with
    | 0, hk => cases hk; exact hca _ (by simp)
    | 1, hk => cases hk; exact hca _ (by simp)
    | 2, hk => cases hk; exact hca _ (by simp)
    | 3, hk => cases hk; exact hca _ (by simp)
    | 4, hk => cases hk; exact hca _ (by simp)
    | 5, hk => cases hk; exact hca _ (by simp)
    | k + 6, hk => simp [tysM] at hk
  · intro i hi
    match i, hi with
    | 0, _ => exact ⟨za0, va0⟩
    | 1, _ => exact ⟨za1, va1⟩
    | 2, _ => exact ⟨za2, va2⟩
    | 3, _ => exact ⟨za3, va3⟩
    | 4, _ => exact ⟨za4, va4⟩
    | 5, _ => exact ⟨za5, va5⟩
    | i + 6, hi => exact absurd hi (by omega)
  · obtain ⟨scr, h1, h2, h3, h4, h5⟩ := hX
    refine ⟨scr, h1, h2, h3, Nat.le_of_eq h4.symm, ?_, h5, fun h => ?_⟩
    · show scr.slots.size.toInt32 = Int32.ofNat L
      rw [h4]
    · have h : s.heap.size ≤ b := h
      omega
  · intro i hi
    match i, hi with
    | 0, _ => exact kr0
    | 1, _ => exact kr1
    | 2, _ => exact kr2
    | 3, _ => exact kr3
    | 4, _ => exact kr4
    | 5, _ => exact kr5
    | 6, _ => exact kr6
    | 7, _ => exact kr7
    | 8, _ => exact kr8
    | i + 9, hi => exact absurd hi (by omega)
  · intro i hi
    match i, hi with
    | 0, _ => exact kq0
    | 1, _ => exact kq1
    | 2, _ => exact kq2
    | 3, _ => exact kq3
    | 4, _ => exact kq4
    | 5, _ => exact kq5
    | 6, _ => exact kq6
    | 7, _ => exact kq7
    | 8, _ => exact kq8
    | i + 9, hi => exact absurd hi (by omega)
  · intro q hq
    simp only [nLk, List.mem_cons, List.not_mem_nil, or_false] at hq
    rcases hq with rfl | rfl | rfl | rfl | rfl | rfl | rfl | rfl | rfl | rfl
    · exact va_Nw.of rfl (hts _ (List.mem_append_right _ (inT1 (List.mem_of_getElem? (i := 37) rfl))))
    · exact va_Nw.of rfl (hts _ (List.mem_append_right _ (inT1 (List.mem_of_getElem? (i := 68) rfl))))
    · exact va_Nw.of rfl (hts _ (List.mem_append_right _ (inT1 (List.mem_of_getElem? (i := 189) rfl))))
    · exact va_Nw.of rfl (hts _ (List.mem_append_right _ (inT1 (List.mem_of_getElem? (i := 192) rfl))))
    · exact va_Nw.of rfl (hts _ (List.mem_append_right _ (inT1 (List.mem_of_getElem? (i := 236) rfl))))
    · exact va_Nw.of rfl (hts _ (List.mem_append_right _ (inT2 (List.mem_of_getElem? (i := 12) rfl))))
    · exact va_Nw.of rfl (hts _ (List.mem_append_right _ (inT2 (List.mem_of_getElem? (i := 17) rfl))))
    · exact va_Nw.of rfl (hts _ (List.mem_append_right _ (inT2 (List.mem_of_getElem? (i := 41) rfl))))
    · exact va_Nw.of rfl (hts _ (List.mem_append_right _ (inT4 (List.mem_of_getElem? (i := 106) rfl))))
    · exact va_Nw.of rfl (hts _ (List.mem_append_right _ (inT4 (List.mem_of_getElem? (i := 159) rfl))))
end START
