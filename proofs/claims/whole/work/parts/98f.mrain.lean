/-! which rain to ask for, in the reference -/
theorem dbF_nil (p : Nat → Bool) : ∀ (m x : Nat), (dbF p m x).length = 0 ↔ ∀ y, x ≤ y → y < x + m → p y = false := by
  intro m
  induction m with
  | zero => intro x; rw [dbF]; exact ⟨fun _ y h1 h2 => by omega, fun _ => rfl⟩
  | succ m ih =>
    intro x
    rw [dbF]
    by_cases c : p x = true
    · rw [if_pos c, List.length_cons]
      constructor
      · intro e; omega
      · intro e; rw [e x (Nat.le_refl _) (by omega)] at c; cases c
    · have c' : p x = false := by simpa using c
      rw [if_neg c, ih (x + 1)]
      constructor
      · intro e y h1 h2
        by_cases q : y = x
        · rw [q]; exact c'
        · exact e y (by omega) (by omega)
      · intro e y h1 h2; exact e y (by omega) (by omega)
theorem sm_p {a n : Nat} (ha : a ≤ 1000) (hn : n ≤ 1000) : nI (2 * a) - nI n + (1 : Int32) = nI (2 * (a + 1)) - nI (n + 1) := by
  apply Int32.toInt_inj.1
  have e1 := pk_sub_toInt (a := 2 * a) (b := n) (by omega) (by omega)
  have e2 : (1 : Int32).toInt = 1 := rfl
  rw [fb_addI (by rw [e1, e2]; omega) (by rw [e1, e2]; omega), e1, e2, pk_sub_toInt (by omega) (by omega)]
  omega
theorem sm_m {a n : Nat} (ha : a ≤ 1000) (hn : n ≤ 1000) : nI (2 * a) - nI n + (-1 : Int32) = nI (2 * a) - nI (n + 1) := by
  apply Int32.toInt_inj.1
  have e1 := pk_sub_toInt (a := 2 * a) (b := n) (by omega) (by omega)
  have e2 : (-1 : Int32).toInt = -1 := rfl
  rw [fb_addI (by rw [e1, e2]; omega) (by rw [e1, e2]; omega), e1, e2, pk_sub_toInt (by omega) (by omega)]
  omega
theorem nar_b (b : Bool) : vp_nar .boolean (bI b) = bI b := by cases b <;> decide
section MR
variable {N : Nat} {σ : Me} {S : Sy}
def IdM (τ : Me) (p : Nat → Bool) (n : Nat) : Prop := ∀ x, x < n → mi τ 81 x = bI (p x)
theorem IdM.fr {τ τ' : Me} {p : Nat → Bool} {n : Nat} (h : IdM τ p n) (k : Fr (yS 72) τ τ') : IdM τ' p n := fun x hx => by rw [k.i rfl]; exact h x hx
theorem ask107_m {f v rain : Nat} {p : Nat → Bool} (hf : f < pn (sQ S)) (hv : v ≤ 99) (hr : rain ≤ 99) {l4 l5 : Int32} (K : Option Nat → Int32 → Int32 → Int32 → Int32 → Int32 → Me → Option (Int32 × Me)) : ∀ (m x fu a n : Nat) (τ : Me), x + m = 100 → m < fu → a ≤ n → n ≤ x → Qm N τ S → IdM τ p 100 →
    ∃ τ' : Me, fc12_ask_107 N K fu (some 60) (nI f) (nI v) l4 l5 (nI rain) (nI (2 * a) - nI n) (nI x) τ = fc12_ask_107 N K 1 (some 60) (nI f) (nI v) l4 l5 (nI rain) (nI (2 * (a + yesN (sQ S) (sq S) (sR S) f v rain (dbF p m x))) - nI (n + (dbF p m x).length)) (nI 100) τ' ∧ Fr (yS 72) τ τ' ∧ Fr mX τ τ' ∧ Qm N τ' S := by
  intro m
  induction m with
  | zero =>
    intro x fu a n τ hx hfu han hn h hI
    obtain ⟨fu, rfl⟩ : ∃ g, fu = g + 1 := ⟨fu - 1, by omega⟩
    have hx1 : x = 100 := by omega
    subst hx1
    refine ⟨τ, ?_, Fr.rf _ _, Fr.rf _ _, h⟩
    have c : (99 : Int32) < nI 100 := by decide
    rw [dbF, yesN, List.length_nil, Nat.add_zero, Nat.add_zero, fc12_ask_107, if_pos c]
    rfl
  | succ m ih =>
    intro x fu a n τ hx hfu han hn h hI
    obtain ⟨fu, rfl⟩ : ∃ g, fu = g + 1 := ⟨fu - 1, by omega⟩
    have r44 : qR τ 12 44 (some 60) = some (some 81) := by simp only [qR, PN h.1, bnd]
    have d60 : dr τ (some 60) (.inl 12) = some 60 := by simp only [PN h.1]
    have lz : ldZ τ (some 81) (nI x) = some (bI (p x)) := by simp (disch := omega) only [ldZ, A81 h.1, bnd, nI_clamp, hI x (by omega)]
    rw [fc12_ask_107, y99, if_neg (by rw [nI_ltI (by omega) (by omega)]; omega), r44, bnd, lz, bnd, dbF]
    by_cases c : p x = true
    · rw [c, bI_t, if_neg one0, if_pos rfl, d60, bnd]
      obtain ⟨τ1, g1, g2, g3, g4⟩ := fallsIf_m h hf (show x ≤ 999 by omega) hr
      have hfb := falY_le (sQ S) (sq S) (rOwe (sR S) f x) rain f
      rw [g1, bnd, yesN, List.length_cons]
      by_cases q : falY (sQ S) (sq S) (rOwe (sR S) f x) rain f < v
      · rw [if_pos (by rw [nI_ltI (by omega) (by omega)]; exact q), if_pos q]
        obtain ⟨τ', z1, z2, z3, z4⟩ := ih (x + 1) fu a (n + 1) τ1 (by omega) (by omega) (by omega) (by omega) g4 (hI.fr g2)
        refine ⟨τ', ?_, g2.tr z2, g3.tr z3, z4⟩
        rw [Nat.zero_add, ← Nat.add_assoc, Nat.add_right_comm n _ 1, ← z1, ← sm_m (by omega) (by omega)]
        simp only [fc12_ask_144, fc12_ask_147, nI_1]
      · rw [if_neg (by rw [nI_ltI (by omega) (by omega)]; exact q), if_neg q]
        obtain ⟨τ', z1, z2, z3, z4⟩ := ih (x + 1) fu (a + 1) (n + 1) τ1 (by omega) (by omega) (by omega) (by omega) g4 (hI.fr g2)
        refine ⟨τ', ?_, g2.tr z2, g3.tr z3, z4⟩
        rw [← Nat.add_assoc a 1, ← Nat.add_assoc n, Nat.add_right_comm n _ 1, ← z1, ← sm_p (by omega) (by omega)]
        simp only [fc12_ask_144, fc12_ask_147, nI_1]
    · have c' : p x = false := by simpa using c
      rw [c', bI_f, if_pos rfl, if_neg (by decide)]
      obtain ⟨τ', z1, z2, z3, z4⟩ := ih (x + 1) fu a n τ (by omega) (by omega) (by omega) (by omega) h hI
      refine ⟨τ', ?_, z2, z3, z4⟩
      rw [← z1]; simp only [fc12_ask_147, nI_1]
theorem ask94_m {f v : Nat} {p : Nat → Bool} (hf : f < pn (sQ S)) (hv : v ≤ 99) : ∀ (m rain fu : Nat) (z : Bz) (τ : Me), rain + m = 100 → m < fu → zK z → Qm N τ S → IdM τ p 100 →
    ∃ σ' : Me, fc12_ask_94 N fu (some 60) (nI f) (nI v) (zc z) (mv z) (nI rain) τ = some (zc (akN (sQ S) (sq S) (sR S) f v (dbF p 100 0) m rain z), σ') ∧ Fr mX τ σ' ∧ Qm N σ' S := by
  intro m
  induction m with
  | zero =>
    intro rain fu z τ hx hfu hz h hI
    obtain ⟨fu, rfl⟩ : ∃ g, fu = g + 1 := ⟨fu - 1, by omega⟩
    refine ⟨τ, ?_, Fr.rf _ _, h⟩
    rw [fc12_ask_94, y99, if_pos (by rw [nI_ltI (by omega) (by omega)]; omega), akN]
  | succ m ih =>
    intro rain fu z τ hx hfu hz h hI
    obtain ⟨fu, rfl⟩ : ∃ g, fu = g + 1 := ⟨fu - 1, by omega⟩
    have hN := h.2.2.2.2.2
    obtain ⟨τ1, k1, k2, k3, k4⟩ := ask107_m (N := N) (S := S) (l4 := zc z) (l5 := mv z) hf hv (show rain ≤ 99 by omega) (fc12_ask_94 N fu) 100 0 N 0 0 τ (by omega) (by omega) (by omega) (by omega) h hI
    rw [Nat.zero_add, Nat.zero_add] at k1
    have hl := (dbF_le p 100 0).1
    have hy := yesN_le (P := sQ S) (q := sq S) (r := sR S) f v rain (dbF p 100 0)
    rw [akN]
    have hI1 : IdM τ1 p 100 := hI.fr k2
    have x0 : fc12_ask_94 N (fu + 1) (some 60) (nI f) (nI v) (zc z) (mv z) (nI rain) τ = fc12_ask_107 N (fc12_ask_94 N fu) N (some 60) (nI f) (nI v) (zc z) (mv z) (nI rain) (nI (2 * 0) - nI 0) (nI 0) τ := by
      rw [fc12_ask_94, y99, if_neg (by rw [nI_ltI (by omega) (by omega)]; omega)]
      rfl
    rw [x0, k1]
    generalize dbF p 100 0 = l at *
    generalize yesN (sQ S) (sq S) (sR S) f v rain l = A at *
    have ab := abs_c N (a := A) (n := l.length) τ1 (by omega) (by omega)
    have hap := apart_le hy hl
    generalize apart A l.length = V at *
    have hnew : zK (some (rain, V)) := fun q e => by cases e; exact ⟨by show rain ≤ 1000; omega, by show V ≤ 2000; omega⟩
    have c : (99 : Int32) < nI 100 := by decide
    rw [fc12_ask_107, if_pos c]
    cases z with
    | none =>
      rw [if_pos (show zc none = -1 from rfl)]
      obtain ⟨σ', z1, z2, z3⟩ := ih (rain + 1) fu (some (rain, V)) τ1 (by omega) (by omega) hnew k4 hI1
      refine ⟨σ', ?_, k3.tr z2, z3⟩
      show _ = some (zc (akN (sQ S) (sq S) (sR S) f v l m (rain + 1) (some (rain, V))), σ')
      rw [← z1]
      simp only [fc12_ask_172, ab, bnd, fc12_ask_183, nI_1]
      rfl
    | some q =>
      have hq2 := (hz q rfl).2
      rw [if_neg (zc_ne hz), ab, bnd]
      have emv : mv (some q) = nI q.2 := rfl
      rw [emv]
      have eU : akU (some q) rain V = if q.2 ≤ V then some q else some (rain, V) := rfl
      rw [eU]
      by_cases hvq : q.2 ≤ V
      · rw [if_neg (by rw [nI_ltI (by omega) (by omega)]; omega), if_pos hvq]
        obtain ⟨σ', z1, z2, z3⟩ := ih (rain + 1) fu (some q) τ1 (by omega) (by omega) hz k4 hI1
        refine ⟨σ', ?_, k3.tr z2, z3⟩
        rw [← z1]
        simp only [fc12_ask_183, nI_1]
        rfl
      · rw [if_pos (by rw [nI_ltI (by omega) (by omega)]; omega), if_neg hvq]
        obtain ⟨σ', z1, z2, z3⟩ := ih (rain + 1) fu (some (rain, V)) τ1 (by omega) (by omega) hnew k4 hI1
        refine ⟨σ', ?_, k3.tr z2, z3⟩
        rw [← z1]
        simp only [fc12_ask_172, ab, bnd, fc12_ask_183, nI_1]
        rfl
theorem ask32_m {f v : Nat} (hf : f < pn (sQ S)) (hv : v ≤ 99) : ∀ (m x fu : Nat) (b : Bool) (τ : Me), x + m = 100 → m < fu → (b = true ↔ ∃ y, y < x ∧ fits (sQ S) (sq S) (sR S) f (sF S) y = true) → Qm N τ S → IdM τ (fits (sQ S) (sq S) (sR S) f (sF S)) x →
    ∃ σ' : Me, fc12_ask_32 N fu (some 60) (nI f) (nI v) (bI b) (nI x) τ = some (if (dbF (fits (sQ S) (sq S) (sR S) f (sF S)) 100 0).length = 0 then -1 else zc (akN (sQ S) (sq S) (sR S) f v (dbF (fits (sQ S) (sq S) (sR S) f (sF S)) 100 0) 100 0 none), σ') ∧ Fr mX τ σ' ∧ Qm N σ' S := by
  intro m
  induction m with
  | zero =>
    intro x fu b τ hx hfu hb h hI
    obtain ⟨fu, rfl⟩ : ∃ g, fu = g + 1 := ⟨fu - 1, by omega⟩
    have hx1 : x = 100 := by omega
    subst hx1
    have hN := h.2.2.2.2.2
    have c : (99 : Int32) < nI 100 := by decide
    rw [fc12_ask_32, if_pos c]
    cases b with
    | false =>
      rw [bI_f, if_pos rfl, if_pos ((dbF_nil _ _ _).mpr (fun y h1 h2 => by
        cases e : fits (sQ S) (sq S) (sR S) f (sF S) y with
        | false => rfl
        | true => exact absurd (hb.mpr ⟨y, by omega, e⟩) (by decide)))]
      exact ⟨τ, rfl, Fr.rf _ _, h⟩
    | true =>
      obtain ⟨y, hy1, hy2⟩ := hb.mp rfl
      rw [bI_t, if_neg one0, if_neg (fun e => by
        have := (dbF_nil _ _ _).mp e y (Nat.zero_le _) (by omega)
        rw [hy2] at this; cases this)]
      exact ask94_m (N := N) hf hv 100 0 N none τ (by omega) (by omega) (fun p e => by cases e) h hI
  | succ m ih =>
    intro x fu b τ hx hfu hb h hI
    obtain ⟨fu, rfl⟩ : ∃ g, fu = g + 1 := ⟨fu - 1, by omega⟩
    obtain ⟨τ1, c1, c2, c3, c4⟩ := couldBe_m h hf (show x ≤ 999 by omega)
    generalize fits (sQ S) (sq S) (sR S) f (sF S) = p at *
    have r44 : qR τ 12 44 (some 60) = some (some 81) := by simp only [qR, PN h.1, bnd]
    have d60 : dr τ (some 60) (.inl 12) = some 60 := by simp only [PN h.1]
    have st : stZ τ1 (some 81) (nI x) (bI (p x)) = some (setI τ1 81 x (bI (p x))) := by simp (disch := omega) only [stZ, A81 c4.1, bnd, nI_clamp, nar_b]
    have f2 : Fr mX τ1 (setI τ1 81 x (bI (p x))) := fr_I rfl (Fr.rf _ _)
    have f2' : Fr (fun a _ => a == 81) τ1 (setI τ1 81 x (bI (p x))) := fr_I rfl (Fr.rf _ _)
    have q2 : Qm N (setI τ1 81 x (bI (p x))) S := c4.fr f2 (c4.memo.fr f2' (fun _ => ⟨rfl, rfl⟩))
    have hI2 : IdM (setI τ1 81 x (bI (p x))) p (x + 1) := fun y hy => by
      by_cases e : y = x
      · subst e; rw [mi_eq]
      · rw [mi_ne _ _ (by omega), c2.i rfl]; exact hI y (by omega)
    have r44' : qR (setI τ1 81 x (bI (p x))) 12 44 (some 60) = some (some 81) := by simp only [qR, PN q2.1, bnd]
    have lz : ldZ (setI τ1 81 x (bI (p x))) (some 81) (nI x) = some (bI (p x)) := by simp (disch := omega) only [ldZ, A81 q2.1, bnd, nI_clamp, mi_eq]
    rw [fc12_ask_32, y99, if_neg (by rw [nI_ltI (by omega) (by omega)]; omega), r44, bnd, d60, bnd, c1, bnd, st, bnd]
    have hb2 : (b || p x) = true ↔ ∃ y, y < x + 1 ∧ p y = true := by
      rw [Bool.or_eq_true, hb]
      constructor
      · rintro (⟨y, h1, h2⟩ | e)
        · exact ⟨y, by omega, h2⟩
        · exact ⟨x, by omega, e⟩
      · rintro ⟨y, h1, h2⟩
        by_cases e : y = x
        · subst e; exact .inr h2
        · exact .inl ⟨y, by omega, h2⟩
    obtain ⟨σ', z1, z2, z3⟩ := ih (x + 1) fu (b || p x) _ (by omega) (by omega) hb2 q2 hI2
    refine ⟨σ', ?_, (c3.tr f2).tr z2, z3⟩
    rw [← z1]
    cases b with
    | true =>
      rw [bI_t, if_neg one0, Bool.true_or, bI_t]
      simp only [fc12_ask_67, fc12_ask_72, nI_1]
    | false =>
      rw [bI_f, if_pos rfl, Bool.false_or, r44', bnd, lz, bnd]
      cases p x with
      | true => rw [bI_t, if_neg one0]; simp only [fc12_ask_67, fc12_ask_72, nI_1]
      | false => rw [bI_f, if_pos rfl]; simp only [fc12_ask_72, nI_1]
theorem ask_m (h : Qm N σ S) {f v : Nat} (hf : f < pn (sQ S)) (hv : v ≤ 99) : Am S σ (if (dbF (fits (sQ S) (sq S) (sR S) f (sF S)) 100 0).length = 0 then -1 else zc (akN (sQ S) (sq S) (sR S) f v (dbF (fits (sQ S) (sq S) (sR S) f (sF S)) 100 0) 100 0 none)) (fc12_ask N 60 (nI f) (nI v) σ) := by
  have hq := h.th
  have hN := h.2.2.2.2.2
  have b6 := h.2.2.1.n6
  obtain ⟨σ', z1, z2, z3⟩ := ask32_m (N := N) hf hv 100 0 N false _ (by omega) (by omega) ⟨(fun e => by cases e), (fun ⟨y, h1, _⟩ => by omega)⟩ hq (fun y hy => by omega)
  refine Am.of ?_ z2 z3
  rw [← z1, fc12_ask, th0 h.1, bnd]
  simp (disch := omega) only [PN hq.1, bnd, mfield_y hq.1 hq.n24 b6 hf, in0_99_y (Nat.zero_le v) hv, one0, if_true, if_false, ↓reduceIte, and_true, true_and, and_false, false_and, not_true_eq_false, not_false_eq_true, and_self]
  rfl
theorem ask_mn (h : Sh σ) (hr : RM σ S) (hw : WS S) {x y : Int32} (hx : ¬ ∃ f v : Nat, f < pn (sQ S) ∧ v ≤ 99 ∧ x = nI f ∧ y = nI v) : fc12_ask N 60 x y σ = some (-1, setI σ 60 0 0) := by
  have b6 := hw.n6
  have ht : Sh (setI σ 60 0 0) := h
  have hn := (hr.th hw).n24
  rw [fc12_ask, th0 h, bnd]
  rcases nix x (n := pn (sQ S)) (by omega) with q | ⟨f, hf, rfl⟩
  · simp (disch := omega) only [PN ht, bnd, mfield_n ht hn q, if_true, if_false, ↓reduceIte, and_true, true_and, and_false, false_and, not_true_eq_false, not_false_eq_true, and_self]
  · simp (disch := omega) only [PN ht, bnd, mfield_y ht hn b6 hf, one0, in0_99_n (x := y) (fun ⟨k, _, e1, e2⟩ => hx ⟨f, k, hf, e1, rfl, e2⟩), if_true, if_false, ↓reduceIte, and_true, true_and, and_false, false_and, not_true_eq_false, not_false_eq_true, and_self]
end MR
