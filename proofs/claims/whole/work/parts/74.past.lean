/-! the past: acts, the ring of the log, the image -/
def Chn : Nat → List Rw → Prop
  | _, [] => True
  | t, a :: as => rt a ≤ t ∧ t ≤ rt a + 1 ∧ Chn (rt a) as
def yb : Nat → List Rw → Nat
  | t, [] => t
  | _, a :: as => yb (rt a) as
theorem yb_le : ∀ {l : List Rw} {t : Nat}, Chn t l → yb t l ≤ t ∧ t ≤ yb t l + l.length
  | [], t, _ => ⟨Nat.le_refl _, Nat.le_refl _⟩
  | a :: as, t, h => by
    have ih := yb_le h.2.2
    have h1 := h.1
    have h2 := h.2.1
    have e : yb t (a :: as) = yb (rt a) as := rfl
    rw [e, List.length_cons]
    omega
theorem Chn.take : ∀ (n : Nat) {l : List Rw} {t : Nat}, Chn t l → Chn t (l.take n) ∧ yb t l ≤ yb t (l.take n)
  | 0, l, t, h => by
    rw [List.take_zero]
    exact ⟨trivial, (yb_le h).1⟩
  | n + 1, [], t, h => by
    rw [List.take_nil]
    exact ⟨trivial, Nat.le_refl _⟩
  | n + 1, a :: as, t, h => by
    rw [List.take_succ_cons]
    have ih := Chn.take n h.2.2
    exact ⟨⟨h.1, h.2.1, ih.1⟩, ih.2⟩
def PsC (σ : Me) (n : Nat) (acts : List Rw) : Prop := ∃ nx, nx < 40 ∧ mi σ 41 1 = nI nx ∧ mi σ 41 2 = nI acts.length ∧ ∀ (i : Nat) (a : Rw), acts[i]? = some a → RwR σ 42 ((nx + 39 - i) % 40 * 26) n a
theorem PsC.fr {S : Nat → Nat → Bool} {σ σ' : Me} {n : Nat} {acts : List Rw} (h : PsC σ n acts) (k : Fr S σ σ') (hn : n ≤ 6) (h1 : S 41 1 = false) (h2 : S 41 2 = false) (h3 : ∀ j, S 42 j = false) : PsC σ' n acts := by
  obtain ⟨nx, a1, a2, a3, a4⟩ := h
  exact ⟨nx, a1, by rw [k.i h1]; exact a2, by rw [k.i h2]; exact a3, fun i a e => (a4 i a e).fr k hn (fun j _ _ => h3 j)⟩
def keS : Nat → Nat → Bool := fun a j => a == 42 || (a == 41 && (j == 1 || j == 2))
theorem keep_c {N : Nat} {σ : Me} (h : Sh σ) {P : Pl} {r : Rw} {acts : List Rw} (hL : LdC σ 19 P r) (h6 : pn P ≤ 6) (hp : PsC σ (pn P) acts) (hl : acts.length ≤ 40) :
    ∃ σ' : Me, fc5_keep N 41 (some 19) σ = some ((), σ') ∧ Fr keS σ σ' ∧ PsC σ' (pn P) ((r :: acts).take 40) := by
  obtain ⟨nx, a1, a2, a3, a4⟩ := hp
  obtain ⟨σ1, w1, w2, w3⟩ := writeTo_c (N := N) h (R := 42) (M := 1040) (o := nx * 26) (.inl ⟨rfl, rfl⟩) (by omega)
  have i41 : ∀ j, rwS 42 (nx * 26) 41 j = false := fun j => rfl
  have e1 : mi σ1 41 1 = nI nx := by rw [w2.i (i41 _)]; exact a2
  have e2 : mi σ1 41 2 = nI acts.length := by rw [w2.i (i41 _)]; exact a3
  have d1 : ∀ r k, dr σ1 r k = dr σ r k := fun r k => Fr_d w2 r k
  have f1 : Fr (fun a _ => a == 41) σ1 (setI (setI σ1 41 1 (nI ((nx + 1) % 40))) 41 2 (nI (min 40 (acts.length + 1)))) := fr_I rfl (fr_I rfl (Fr.rf _ _))
  refine ⟨setI (setI σ1 41 1 (nI ((nx + 1) % 40))) 41 2 (nI (min 40 (acts.length + 1))), ?_, ?_, (nx + 1) % 40, Nat.mod_lt _ (by decide), ?_, ?_, fun i a e => ?_⟩
  · simp (disch := omega) only [fc5_keep, qI, qR, pI, PH h, bnd, a2, y26, pk_mul, w1, d1, e1, e2, y1, y40, nI_add, rm_n, dr_setI, mi_ne, mi_eq, min_N]
  · refine fr_I rfl (fr_I rfl (w2.mono (fun a j e => ?_)))
    simp only [keS, rwS, Bool.or_eq_false_iff, Bool.and_eq_false_iff, decide_eq_false_iff_not, beq_eq_false_iff_ne] at e ⊢
    omega
  · simp (disch := omega) only [mi_ne, mi_eq]
  · rw [mi_eq, List.length_take, List.length_cons]
  · rw [List.getElem?_take] at e
    by_cases hi : i < 40
    · rw [if_pos hi] at e
      cases i with
      | zero =>
        cases e
        rw [show ((nx + 1) % 40 + 39 - 0) % 40 = nx by omega]
        exact (w3 P r hL h6).fr f1 h6 (fun _ _ _ => rfl)
      | succ i =>
        rw [List.getElem?_cons_succ] at e
        have hil : i < acts.length := by
          rcases Nat.lt_or_ge i acts.length with q | q
          · exact q
          · rw [List.getElem?_eq_none q] at e; cases e
        have h1 := a4 i a e
        rw [show ((nx + 1) % 40 + 39 - (i + 1)) % 40 = (nx + 39 - i) % 40 by omega]
        refine (h1.fr w2 h6 (fun j j1 j2 => ?_)).fr f1 h6 (fun _ _ _ => rfl)
        simp only [rwS, Bool.and_eq_false_iff, decide_eq_false_iff_not, beq_eq_false_iff_ne]
        omega
    · rw [if_neg hi] at e; cases e
def reS : Nat → Nat → Bool := fun a j => rdS a j || (a == 41 && (j == 1 || j == 2))
theorem restore_c {N : Nat} {σ : Me} (h : Sh σ) {P : Pl} {r a : Rw} {acts : List Rw} (hL : LdC σ 19 P r) (h6 : pn P ≤ 6) (hp : PsC σ (pn P) (a :: acts)) (hl : acts.length < 40) :
    ∃ σ' : Me, fc5_restore N 41 (some 19) σ = some (1, σ') ∧ Fr reS σ σ' ∧ LdC σ' 19 P a ∧ PsC σ' (pn P) acts := by
  obtain ⟨nx, a1, a2, a3, a4⟩ := hp
  rw [List.length_cons] at a3
  have f1 : Fr (fun a j => a == 41 && (j == 1 || j == 2)) σ (setI (setI σ 41 1 (nI ((nx + 39) % 40))) 41 2 (nI acts.length)) := fr_I rfl (fr_I rfl (Fr.rf _ _))
  have f41 : Sf (fun a j => a == 41 && (j == 1 || j == 2)) := by
    have h : ∀ q ∈ rfL, (fun a j : Nat => a == 41 && (j == 1 || j == 2)) q.1.1 q.1.2 = false := by decide +kernel
    exact h
  have h1 := f1.sh f41 h
  obtain ⟨σ2, w1, w2, w3⟩ := readFrom_c (N := N) h1 (R := 42) (M := 1040) (o := (nx + 39) % 40 * 26) (.inl ⟨rfl, rfl⟩) (by omega)
  have c : ¬ acts.length + 1 = 0 := by omega
  have e1 : nx + 40 - 1 = nx + 39 := by omega
  have e0 := (a4 0 a rfl).fr f1 h6 (fun _ _ _ => rfl)
  rw [Nat.sub_zero] at e0
  refine ⟨σ2, ?_, ?_, ?_, (nx + 39) % 40, Nat.mod_lt _ (by decide), ?_, ?_, fun i b e => ?_⟩
  · have s1 := pk_sub (a := acts.length + 1) (b := 1) (by omega)
    have s2 := pk_sub (a := nx + 40) (b := 1) (by omega)
    rw [Nat.add_sub_cancel] at s1
    rw [e1] at s2
    simp (disch := omega) only [fc5_restore, qI, qR, pI, PH h, bnd, a2, a3, y0, nI_eq, c, if_true, if_false, ↓reduceIte, and_true, true_and, and_false, false_and, not_true_eq_false, not_false_eq_true, and_self, y40, y1, nI_add, s1, s2, rm_n, dr_setI, mr_setI, mi_ne, mi_eq, y26, pk_mul, w1]
    rfl
  · refine (f1.mono (fun a j e => ?_)).tr (w2.mono (fun a j e => ?_))
    · simp only [reS, Bool.or_eq_false_iff] at e
      exact e.2
    · simp only [reS, Bool.or_eq_false_iff] at e
      exact e.1
  · refine w3 P r a (hL.fr f1 (fun _ => ⟨rfl, rfl, rfl, rfl, rfl, rfl⟩)) h6 e0
  · rw [w2.i rfl]
    simp (disch := omega) only [mi_ne, mi_eq]
  · rw [w2.i rfl, mi_eq]
  · have hil : i < acts.length := by
      rcases Nat.lt_or_ge i acts.length with q | q
      · exact q
      · rw [List.getElem?_eq_none q] at e; cases e
    rw [show ((nx + 39) % 40 + 39 - i) % 40 = (nx + 39 - (i + 1)) % 40 by omega]
    exact ((a4 (i + 1) b (by rw [List.getElem?_cons_succ]; exact e)).fr f1 h6 (fun _ _ _ => rfl)).fr w2 h6 (fun _ _ _ => rfl)
theorem restore0_c {N : Nat} {σ : Me} (h : Sh σ) {n : Nat} (hp : PsC σ n []) : fc5_restore N 41 (some 19) σ = some (0, σ) := by
  obtain ⟨nx, a1, a2, a3, a4⟩ := hp
  have a3 : mi σ 41 2 = nI 0 := a3
  simp (disch := omega) only [fc5_restore, qI, PH h, bnd, a3, y0, if_true, if_false, ↓reduceIte, and_true, true_and, and_false, false_and, not_true_eq_false, not_false_eq_true, and_self]
  rfl
/-! the ring of the log -/
def ChC (σ : Me) (R lo t : Nat) (lg : Lg) : Prop := ∀ y, lo ≤ y → y < t → mi σ (R + 1) (y % 100) = nI (lg y).1 ∧ mi σ (R + 2) (y % 100) = nI (lg y).2.1 ∧ mi σ (R + 3) (y % 100) = nI (lg y).2.2
theorem ChC.fr {S : Nat → Nat → Bool} {σ σ' : Me} {R lo t : Nat} {lg : Lg} (h : ChC σ R lo t lg) (k : Fr S σ σ') (h1 : ∀ j, S (R + 1) j = false ∧ S (R + 2) j = false ∧ S (R + 3) j = false) : ChC σ' R lo t lg := fun y h2 h3 => by
  rw [k.i (h1 _).1, k.i (h1 _).2.1, k.i (h1 _).2.2]; exact h y h2 h3
theorem ChC.mono {σ : Me} {R lo t lo' t' : Nat} {lg : Lg} (h : ChC σ R lo t lg) (h1 : lo ≤ lo') (h2 : t' ≤ t) : ChC σ R lo' t' lg := fun y a b => h y (by omega) (by omega)
theorem xor_100 : ∀ y, y < 1100 → (0 : Int32) ≤ nI y ^^^ nI 100 := by decide +kernel
theorem fmod_c (N : Nat) {y : Nat} (σ : Me) (hy : y < 1100) : fMt_floorMod N (nI y) (nI 100) σ = some (nI (y % 100), σ) := by
  unfold fMt_floorMod
  rw [rm_n (by omega) (by decide) (by decide), bnd, if_pos (xor_100 y hy)]
theorem tell_c {N : Nat} {σ : Me} (h : Sh σ) {t : Nat} (ht : t < 1100) (a b c : Int32) : fc0_tell N 37 (nI t) a b c σ = some ((), setI (setI (setI σ 38 (t % 100) a) 39 (t % 100) b) 40 (t % 100) c) := by
  have hm : t % 100 < 100 := Nat.mod_lt _ (by decide)
  simp (disch := omega) only [fc0_tell, y100, fmod_c, bnd, qR, PH h, stI, A38 h, A39 h, A40 h, nI_clamp, dr_setI, mr_setI, arr_setI]
theorem ChC.put {σ : Me} {lo lo' t : Nat} {lg : Lg} {v : Nat × Nat × Nat} (h : ChC σ 37 lo t lg) (h1 : lo ≤ lo') (h2 : t < lo' + 100) : ChC (setI (setI (setI σ 38 (t % 100) (nI v.1)) 39 (t % 100) (nI v.2.1)) 40 (t % 100) (nI v.2.2)) 37 lo' (t + 1) (updG lg t v) := fun y a b => by
  by_cases e : y = t
  · subst e
    simp (disch := omega) only [mi_ne, mi_eq, updG, if_true, ↓reduceIte, and_self]
  · simp (disch := omega) only [mi_ne, updG, e, if_false, ↓reduceIte]
    exact h y (by omega) (by omega)
theorem entry_c {N : Nat} {σ : Me} (h : Sh σ) {lo t y what : Nat} {lg : Lg} (hc : ChC σ 37 lo t lg) (h1 : lo ≤ y) (h2 : y < t) (h3 : y < 1100) (hw : what ≤ 2) : fc0_entry N 37 (nI y) (nI what) σ = some (nI (if what = 0 then (lg y).1 else if what = 1 then (lg y).2.1 else (lg y).2.2), σ) := by
  obtain ⟨e1, e2, e3⟩ := hc y h1 h2
  have hm : y % 100 < 100 := Nat.mod_lt _ (by decide)
  have : what = 0 ∨ what = 1 ∨ what = 2 := by omega
  rcases this with rfl | rfl | rfl
  · simp (disch := omega) only [fc0_entry, y100, y0, y1, fmod_c, bnd, qR, PH h, ldI_lo, A38 h, A39 h, A40 h, nI_clamp, nI_eq, if_true, if_false, ↓reduceIte, and_true, true_and, and_false, false_and, not_true_eq_false, not_false_eq_true, and_self, e1]
  · have c : ¬ (1 : Nat) = 0 := by decide
    simp (disch := omega) only [fc0_entry, y100, y0, y1, fmod_c, bnd, qR, PH h, ldI_lo, A38 h, A39 h, A40 h, nI_clamp, nI_eq, c, if_true, if_false, ↓reduceIte, and_true, true_and, and_false, false_and, not_true_eq_false, not_false_eq_true, and_self, e2]
  · have c : ¬ (2 : Nat) = 0 := by decide
    have c1 : ¬ (2 : Nat) = 1 := by decide
    simp (disch := omega) only [fc0_entry, y100, y0, y1, fmod_c, bnd, qR, PH h, ldI_lo, A38 h, A39 h, A40 h, nI_clamp, nI_eq, c, c1, if_true, if_false, ↓reduceIte, and_true, true_and, and_false, false_and, not_true_eq_false, not_false_eq_true, and_self, e3]
theorem copyChr_c {N : Nat} {σ : Me} (h : Sh σ) {a b : Nat} (hab : a = 37 ∧ b = 44 ∨ a = 44 ∧ b = 37) :
    ∃ σ' : Me, fc0_copyFrom N a (some b) σ = some ((), σ') ∧ Fr (fun x _ => decide (a < x) && decide (x ≤ a + 3)) σ σ' ∧ ∀ (lo t : Nat) (lg : Lg), ChC σ b lo t lg → ChC σ' a lo t lg := by
  have hk : ∀ x, (x = 37 ∨ x = 44) → ∀ i, 0 < i → i < 4 → Kd σ (x + i) (.inr (.int, 100)) := fun x hx i h0 hi => by
    have : i = 1 ∨ i = 2 ∨ i = 3 := by omega
    rcases hx with rfl | rfl
    · rcases this with rfl | rfl | rfl
      · exact K38 h
      · exact K39 h
      · exact K40 h
    · rcases this with rfl | rfl | rfl
      · exact K45 h
      · exact K46 h
      · exact K47 h
  have hm : ∀ x, (x = 37 ∨ x = 44) → dr σ (some x) (.inl 0) = some x ∧ mr σ x 0 = some (x + 1) ∧ mr σ x 1 = some (x + 2) ∧ mr σ x 2 = some (x + 3) := fun x hx => by
    rcases hx with rfl | rfl
    · exact ⟨h.dr 37 (by decide) rfl, h.rf 37 0 38 (by decide), h.rf 37 1 39 (by decide), h.rf 37 2 40 (by decide)⟩
    · exact ⟨h.dr 44 (by decide) rfl, h.rf 44 0 45 (by decide), h.rf 44 1 46 (by decide), h.rf 44 2 47 (by decide)⟩
  have ha : a = 37 ∨ a = 44 := by omega
  have hb : b = 37 ∨ b = 44 := by omega
  have hd : a + 4 ≤ b ∨ b + 4 ≤ a := by omega
  obtain ⟨a0, am0, am1, am2⟩ := hm a ha
  obtain ⟨b0, bm0, bm1, bm2⟩ := hm b hb
  have g := fun i : Nat => fun h0 : 0 < i => fun hi : i < 4 => fun τ : Me => fun ht : mk τ = mk σ ∧ mz τ = mz σ => cp_ok (σ := τ) (sp := 0) (dp := 0) (n := 100) (show Kd τ (b + i) _ from by unfold Kd; rw [ht.1, ht.2]; exact hk b hb i h0 hi) (show Kd τ (a + i) _ from by unfold Kd; rw [ht.1, ht.2]; exact hk a ha i h0 hi) (by decide) (by decide) (by decide) (by decide)
  refine ⟨_, (by
    unfold fc0_copyFrom
    simp only [qR, b0, a0, bnd, bm0, am0, y0, y100]
    rw [g 1 (by decide) (by decide) _ (by exact ⟨rfl, rfl⟩), bnd]
    simp only [dr_cp, mr_cp, b0, a0, bnd, bm1, am1]
    rw [g 2 (by decide) (by decide) _ (by exact ⟨rfl, rfl⟩), bnd]
    simp only [dr_cp, mr_cp, b0, a0, bnd, bm2, am2]
    rw [g 3 (by decide) (by decide) _ (by exact ⟨rfl, rfl⟩), bnd]), ?_, ?_⟩
  · refine fr_cp (fun j _ _ => by simp) (fr_cp (fun j _ _ => by simp) (fr_cp (fun j _ _ => by simp) (Fr.rf _ _)))
  · intro lo t lg hc y y1 y2
    have hm : y % 100 < 100 := Nat.mod_lt _ (by decide)
    simp (disch := omega) only [mi_cpi, mi_cpx, Nat.zero_add, Nat.sub_zero]
    exact hc y y1 y2
