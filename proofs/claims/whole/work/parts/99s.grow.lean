/-! new cells -/
def Gr (σ σ' : Me) : Prop := mz σ ≤ mz σ' ∧ ∀ a, a < mz σ → mk σ' a = mk σ a ∧ (∀ j, mi σ' a j = mi σ a j) ∧ (∀ j, ml σ' a j = ml σ a j) ∧ ∀ j, mr σ' a j = mr σ a j
theorem Gr.rf (σ : Me) : Gr σ σ := ⟨Nat.le_refl _, fun _ _ => ⟨rfl, fun _ => rfl, fun _ => rfl, fun _ => rfl⟩⟩
theorem Gr.tr {σ σ' σ'' : Me} (h : Gr σ σ') (k : Gr σ' σ'') : Gr σ σ'' := ⟨Nat.le_trans h.1 k.1, fun a ha => by
  obtain ⟨h1, h2, h3, h4⟩ := h.2 a ha
  obtain ⟨k1, k2, k3, k4⟩ := k.2 a (Nat.lt_of_lt_of_le ha h.1)
  exact ⟨k1.trans h1, fun j => (k2 j).trans (h2 j), fun j => (k3 j).trans (h3 j), fun j => (k4 j).trans (h4 j)⟩⟩
theorem Gr.new (σ : Me) (k : Kn) (w : Nat) : Gr σ (newC σ k w) := ⟨Nat.le_succ _, fun a ha => by
  have e : a ≠ mz σ := by omega
  refine ⟨if_neg e, fun j => ?_, fun j => ?_, fun j => ?_⟩
  · show (if a = mz σ then fun _ => 0 else mi σ a) j = _
    rw [if_neg e]
  · show (if a = mz σ then fun _ => 0 else ml σ a) j = _
    rw [if_neg e]
  · show (if a = mz σ then fun _ => none else mr σ a) j = _
    rw [if_neg e]⟩
theorem Gr.cl (σ : Me) (b n : Nat) : Gr σ (clC σ b n) := ⟨Nat.le_succ _, fun a ha => by
  have e : a ≠ mz σ := by omega
  refine ⟨if_neg e, fun j => ?_, fun j => rfl, fun j => rfl⟩
  show (if a = mz σ then mi σ b else mi σ a) j = _
  rw [if_neg e]⟩
theorem Gr.setI {σ σ' : Me} (h : Gr σ σ') {a : Nat} (i : Nat) (v : Int32) (ha : mz σ ≤ a) : Gr σ (setI σ' a i v) := ⟨h.1, fun b hb => by
  obtain ⟨h1, h2, h3, h4⟩ := h.2 b hb
  exact ⟨h1, fun j => by rw [mi_ne _ _ (by omega)]; exact h2 j, h3, h4⟩⟩
theorem Gr.setR {σ σ' : Me} (h : Gr σ σ') {a : Nat} (i : Nat) (v : Option Nat) (ha : mz σ ≤ a) : Gr σ (setR σ' a i v) := ⟨h.1, fun b hb => by
  obtain ⟨h1, h2, h3, h4⟩ := h.2 b hb
  exact ⟨h1, h2, h3, fun j => by rw [mr_ne _ _ (by omega)]; exact h4 j⟩⟩
theorem Gr.cp {σ σ' : Me} (h : Gr σ σ') {a : Nat} (f : Nat → Int32) (sp dp n : Nat) (ha : mz σ ≤ a) : Gr σ (cpRow σ' a f sp dp n) := ⟨h.1, fun b hb => by
  obtain ⟨h1, h2, h3, h4⟩ := h.2 b hb
  exact ⟨h1, fun j => by rw [mi_cpx (by omega)]; exact h2 j, h3, h4⟩⟩
theorem Gr.kd {σ σ' : Me} (h : Gr σ σ') {a : Nat} {k : Kn} (hk : Kd σ a k) : Kd σ' a k := ⟨by rw [(h.2 a hk.2.1).1]; exact hk.1, Nat.lt_of_lt_of_le hk.2.1 h.1, hk.2.2⟩
theorem Gr.sh {σ σ' : Me} (h : Gr σ σ') (k : Sh σ) : Sh σ' := by
  have hlt : ∀ q ∈ rfL, q.1.1 < 85 := by decide +kernel
  exact ⟨fun a ha => by rw [(h.2 a (Nat.lt_of_lt_of_le ha k.2.2)).1]; exact k.1 a ha, fun q hq => by rw [(h.2 _ (Nat.lt_of_lt_of_le (hlt q hq) k.2.2)).2.2.2]; exact k.2.1 q hq, Nat.le_trans k.2.2 h.1⟩
section GR
variable {σ σ' : Me}
theorem Gr.i (h : Gr σ σ') (hs : Sh σ) {a j : Nat} (ha : a < 85) : mi σ' a j = mi σ a j := (h.2 a (Nat.lt_of_lt_of_le ha hs.2.2)).2.1 j
theorem Gr.l (h : Gr σ σ') (hs : Sh σ) {a j : Nat} (ha : a < 85) : ml σ' a j = ml σ a j := (h.2 a (Nat.lt_of_lt_of_le ha hs.2.2)).2.2.1 j
theorem Gr.r (h : Gr σ σ') (hs : Sh σ) {a j : Nat} (ha : a < 85) : mr σ' a j = mr σ a j := (h.2 a (Nat.lt_of_lt_of_le ha hs.2.2)).2.2.2 j
theorem lwAt.gr {la : Nat} {C : List Int32} (h : lwAt σ la C) (g : Gr σ σ') : lwAt σ' la C := by
  obtain ⟨a1, a2, a3, a4, a5, a6, a7⟩ := h
  refine ⟨g.kd a1, g.kd a2, g.kd a3, a4, ?_, ?_, fun i x e => ?_⟩
  · rw [(g.2 la a1.2.1).2.2.2]; exact a5
  · rw [(g.2 la a1.2.1).2.2.2]; exact a6
  · rw [(g.2 _ a2.2.1).2.1]; exact a7 i x e
theorem pnAt.gr {pa : Nat} {p : Nat × (Nat → Nat × Nat × Int32)} (h : pnAt σ pa p) (g : Gr σ σ') : pnAt σ' pa p := by
  obtain ⟨a1, a2, a3, a4, a5, a6, a7, a8, a9, a10⟩ := h
  refine ⟨g.kd a1, g.kd a2, g.kd a3, g.kd a4, a5, ?_, ?_, ?_, ?_, fun i hi => ?_⟩
  · rw [(g.2 pa a1.2.1).2.2.2]; exact a6
  · rw [(g.2 pa a1.2.1).2.2.2]; exact a7
  · rw [(g.2 pa a1.2.1).2.2.2]; exact a8
  · rw [(g.2 pa a1.2.1).2.1]; exact a9
  · rw [(g.2 _ a2.2.1).2.1, (g.2 _ a3.2.1).2.1, (g.2 _ a4.2.1).2.1]; exact a10 i hi
theorem RwR.gr {R o n : Nat} {r : Rw} (h : RwR σ R o n r) (g : Gr σ σ') (hs : Sh σ) (hR : R < 85) : RwR σ' R o n r :=
  ⟨by rw [g.i hs hR]; exact h.1, by rw [g.i hs hR]; exact h.2.1, fun f hf => by rw [g.i hs hR, g.i hs hR, g.i hs hR, g.i hs hR]; exact h.2.2 f hf⟩
theorem ChC.gr {R lo t : Nat} {lg : Lg} (h : ChC σ R lo t lg) (g : Gr σ σ') (hs : Sh σ) (hR : R + 3 < 85) : ChC σ' R lo t lg := fun y h2 h3 => by
  rw [g.i hs (by omega), g.i hs (by omega), g.i hs (by omega)]; exact h y h2 h3
theorem RC.gr {S : Sy} (h : RC σ S) (g : Gr σ σ') (hs : Sh σ) : RC σ' S := by
  obtain ⟨h1, h2, h3, h4, ⟨h5, h6, h7, h8⟩, h9⟩ := h
  refine ⟨⟨?_, fun k hk => ?_⟩, ⟨?_, ?_, ?_, fun k q e => ⟨?_, ?_⟩⟩, ⟨?_, fun k q e => ⟨?_, ?_⟩⟩, ?_, ⟨⟨?_, ?_, ?_, ?_, ?_, fun f hf => ?_⟩, ?_, ?_, ?_⟩, ⟨?_, fun k q e => ?_⟩⟩
  · rw [g.i hs (by decide)]; exact h1.1
  · rw [g.i hs (by decide)]; exact h1.2 k hk
  · rw [g.i hs (by decide)]; exact h2.1
  · rw [g.i hs (by decide)]; exact h2.2.1
  · rw [g.r hs (by decide)]; exact h2.2.2.1
  · rw [g.r hs (by decide)]; exact (h2.2.2.2 k q e).1
  · exact (h2.2.2.2 k q e).2.gr g
  · rw [g.i hs (by decide)]; exact h3.1
  · rw [g.r hs (by decide)]; exact (h3.2 k q e).1
  · exact (h3.2 k q e).2.gr g
  · rw [g.i hs (by decide)]; exact h4
  · rw [g.i hs (by decide)]; exact h5.1
  · rw [g.i hs (by decide)]; exact h5.2.1
  · rw [g.i hs (by decide)]; exact h5.2.2.1
  · rw [g.i hs (by decide)]; exact h5.2.2.2.1
  · rw [g.i hs (by decide)]; exact h5.2.2.2.2.1
  · rw [g.i hs (by decide), g.i hs (by decide), g.i hs (by decide), g.i hs (by decide), g.i hs (by decide)]; exact h5.2.2.2.2.2 f hf
  · obtain ⟨nx, n1, n2, n3, n4⟩ := h6
    exact ⟨nx, n1, by rw [g.i hs (by decide)]; exact n2, by rw [g.i hs (by decide)]; exact n3, fun i a e => (n4 i a e).gr g hs (by decide)⟩
  · exact h7.gr g hs (by decide)
  · cases hi : sI S with
    | none =>
      rw [hi] at h8
      show mi σ' 41 5 = nI 0
      rw [g.i hs (by decide)]; exact h8
    | some q =>
      rw [hi] at h8
      obtain ⟨a1, a2, a3⟩ := h8
      exact ⟨by rw [g.i hs (by decide)]; exact a1, a2.gr g hs (by decide), a3.gr g hs (by decide)⟩
  · rw [g.i hs (by decide)]; exact h9.1
  · rw [g.i hs (by decide), g.i hs (by decide), g.i hs (by decide), g.i hs (by decide)]; exact h9.2 k q e
theorem RwA.gr {w o n : Nat} {r : Rw} (h : RwA σ w o n r) (g : Gr σ σ') (hs : Sh σ) (hw : w < 85) : RwA σ' w o n r :=
  ⟨by rw [g.i hs hw]; exact h.1, by rw [g.i hs hw]; exact h.2.1, fun f hf => by rw [g.i hs hw, g.i hs hw, g.i hs hw, g.i hs hw]; exact h.2.2 f hf⟩
theorem LgA.gr {w o c : Nat} {lg : Lg} (h : LgA σ w o c lg) (g : Gr σ σ') (hs : Sh σ) (hw : w < 85) : LgA σ' w o c lg :=
  ⟨by rw [g.i hs hw]; exact h.1, fun j hj => by rw [g.i hs hw, g.i hs hw, g.i hs hw]; exact h.2 j hj⟩
theorem RM.gr {S : Sy} (h : RM σ S) (g : Gr σ σ') (hs : Sh σ) : RM σ' S := by
  obtain ⟨h1, ⟨l1, l2, l3, l4⟩, h3, h4, ⟨⟨p1, p2, p3, p4⟩, r1, ⟨g1, g2⟩, ⟨c1, c2⟩, h9⟩, h10⟩ := h
  refine ⟨⟨?_, fun k hk => ?_⟩, ⟨?_, ?_, fun k q e => ⟨?_, fun i hi => ?_⟩, fun z hz => ?_⟩, ⟨?_, fun k q e => ⟨?_, fun i hi => ?_⟩⟩, ?_, ⟨⟨?_, ?_, ?_, fun f hf => ?_⟩, ⟨?_, ?_, fun f hf => ?_⟩, ⟨?_, fun j hj => ?_⟩, ⟨?_, fun i a e => ⟨?_, ?_⟩⟩, ?_⟩, ⟨?_, fun k q e => ?_⟩⟩
  · rw [g.i hs (by decide)]; exact h1.1
  · rw [g.i hs (by decide)]; exact h1.2 k hk
  · rw [g.i hs (by decide)]; exact l1
  · rw [g.i hs (by decide)]; exact l2
  · rw [g.i hs (by decide)]; exact (l3 k q e).1
  · rw [g.i hs (by decide)]; exact (l3 k q e).2 i hi
  · rw [g.i hs (by decide), g.l hs (by decide)]; exact l4 z hz
  · rw [g.i hs (by decide)]; exact h3.1
  · rw [g.i hs (by decide)]; exact (h3.2 k q e).1
  · rw [g.i hs (by decide), g.i hs (by decide), g.i hs (by decide)]; exact (h3.2 k q e).2 i hi
  · rw [g.i hs (by decide)]; exact h4
  · rw [g.i hs (by decide)]; exact p1
  · rw [g.i hs (by decide)]; exact p2
  · rw [g.i hs (by decide)]; exact p3
  · rw [g.i hs (by decide)]; exact p4 f hf
  · rw [g.i hs (by decide)]; exact r1.1
  · rw [g.i hs (by decide)]; exact r1.2.1
  · rw [g.i hs (by decide), g.i hs (by decide), g.i hs (by decide), g.i hs (by decide)]; exact r1.2.2 f hf
  · rw [g.i hs (by decide)]; exact g1
  · rw [g.i hs (by decide), g.i hs (by decide), g.i hs (by decide)]; exact g2 j hj
  · rw [g.i hs (by decide)]; exact c1
  · exact (c2 i a e).1.gr g hs (by decide)
  · exact (c2 i a e).2.gr g hs (by decide)
  · cases hi : sI S with
    | none =>
      rw [hi] at h9
      show mi σ' 60 48 = nI 0
      rw [g.i hs (by decide)]; exact h9
    | some q =>
      rw [hi] at h9
      obtain ⟨a1, a2, a3⟩ := h9
      exact ⟨by rw [g.i hs (by decide)]; exact a1, a2.gr g hs (by decide), a3.gr g hs (by decide)⟩
  · rw [g.i hs (by decide)]; exact h10.1
  · rw [g.i hs (by decide), g.i hs (by decide), g.i hs (by decide), g.i hs (by decide)]; exact h10.2 k q e
end GR
/-! a law is made of the signs that were read -/
section EN
variable {N : Nat} {σ : Me}
theorem newO_ok {cc : Nat} (h : mz σ < 1000000) : newO σ cc = some (mz σ, newC σ (.inl cc) (nfl cc)) := if_pos h
theorem newA_ok {ty : FieldType} {n B : Nat} (h : mz σ < 1000000) (hn : n < 2 ^ 31) (hB : n ≤ B) : newA σ ty (nI n) B = some (mz σ, newC σ (.inr (ty, n)) n) := by
  unfold newA
  rw [nI_clamp hn, if_pos ⟨h, nI_pos hn, hB⟩]
theorem kd_new {k : Kn} {w : Nat} (h : mz σ < 1000000) : Kd (newC σ k w) (mz σ) k := ⟨if_pos rfl, Nat.lt_succ_self _, h⟩
/-- a copy of the first so many of a row -/
theorem copyOf_c {b nb m : Nat} (hb : Kd σ b (.inr (.int, nb))) (hnb : nb ≤ 1000) (hm : m ≤ nb) (hz : mz σ < 1000000) : ∃ σ' : Me, fAr_copyOf N (some b) (nI m) σ = some (some (mz σ), σ') ∧ Gr σ σ' ∧ mz σ' = mz σ + 1 ∧ Kd σ' (mz σ) (.inr (.int, m)) ∧ ∀ i, i < m → mi σ' (mz σ) i = mi σ b i := by
  rw [fAr_copyOf, kd_ln hb, bnd]
  have hbz := hb.2.1
  by_cases e : m = nb
  · have hc : clA σ (some b) 1000 = some (mz σ, clC σ b nb) := by
      unfold clA
      simp only [hb.1]
      exact if_pos ⟨trivial, hb.2.1, hb.2.2, hz, hnb⟩
    rw [if_pos (by rw [e]), hc, bnd]
    refine ⟨clC σ b nb, rfl, Gr.cl σ b nb, rfl, ⟨?_, Nat.lt_succ_self _, hz⟩, fun i hi => ?_⟩
    · show (if mz σ = mz σ then _ else _) = _
      rw [if_pos rfl, e]
    · show (if mz σ = mz σ then mi σ b else _) i = _
      rw [if_pos rfl]
  · have hg := Gr.new σ (.inr (.int, m)) m
    have kb := hg.kd hb
    have kn : Kd (newC σ (.inr (.int, m)) m) (mz σ) (.inr (.int, m)) := kd_new hz
    rw [if_neg (fun w => e ((nI_eq (by omega) (by omega)).mp w)), newA_ok hz (by omega) (by omega), bnd, kd_ln kb, bnd, min_N N _ (by omega) (by omega), bnd, Nat.min_eq_right hm, y0, cp_ok kb kn (by omega) (by omega) (by omega) (by omega), bnd]
    refine ⟨_, rfl, hg.cp _ _ _ _ (Nat.le_refl _), rfl, kn, fun i hi => ?_⟩
    rw [mi_cpi (by omega), Nat.zero_add, Nat.sub_zero]
    exact (hg.2 b hbz).2.1 i
theorem toLaw_c (h : Sh σ) {C : List Ci} (hC : CdW σ C) (hl : C.length ≤ 240) (hz : mz σ + 3 < 1000000) : ∃ σ' : Me, fc4_toLaw N 11 σ = some (some (mz σ), σ') ∧ Gr σ σ' ∧ mz σ' = mz σ + 3 ∧ lwAt σ' (mz σ) (C.map enc) := by
  have g1 := Gr.new σ (.inl 3) (nfl 3)
  have h1 := g1.sh h
  have z1 : mz (newC σ (.inl 3) (nfl 3)) = mz σ + 1 := rfl
  have q1 : qR (newC σ (.inl 3) (nfl 3)) 4 1 (some 11) = some (some 12) := by simp only [qR, PR h1, bnd]
  have q2 : qI (newC σ (.inl 3) (nfl 3)) 4 2 (some 11) = some (nI C.length) := by
    have e : mi (newC σ (.inl 3) (nfl 3)) 11 2 = nI C.length := by rw [g1.i h (by decide)]; exact hC.1
    simp only [qI, PR h1, bnd, e]
  have k0 : Kd (newC σ (.inl 3) (nfl 3)) (mz σ) (.inl 3) := kd_new (by omega)
  obtain ⟨σ2, c1, c2, c3, c4, c5⟩ := copyOf_c (N := N) (K12 h1) (by decide) hl (by rw [z1]; omega)
  rw [z1] at c1 c3 c4 c5
  have k2 := c2.kd k0
  have g3 := Gr.new σ2 (.inr (.int, 32)) 32
  have k3 := g3.kd k2
  have z3 : mz (newC σ2 (.inr (.int, 32)) 32) = mz σ + 3 := by
    show mz σ2 + 1 = _
    rw [c3]
  have pr : ∀ (τ : Me) (j : Nat) (x : Option Nat), Kd τ (mz σ) (.inl 3) → pR τ 3 j (some (mz σ)) x = some (setR τ (mz σ) j x) := fun τ j x hk => by
    unfold pR
    rw [dr_ok hk, bnd]
  have hi : fc3_init N (mz σ) (some (mz σ + 1)) σ2 = some ((), setR (setR (newC σ2 (.inr (.int, 32)) 32) (mz σ) 1 (some (mz σ2))) (mz σ) 0 (some (mz σ + 1))) := by
    have hy : (32 : Int32) = nI 32 := rfl
    rw [fc3_init, hy, newA_ok (by rw [c3]; omega) (by decide) (Nat.le_refl _), bnd, pr _ 1 _ k3, bnd, pr (setR (newC σ2 (.inr (.int, 32)) 32) (mz σ) 1 (some (mz σ2))) 0 _ k3, bnd]
  refine ⟨setR (setR (newC σ2 (.inr (.int, 32)) 32) (mz σ) 1 (some (mz σ2))) (mz σ) 0 (some (mz σ + 1)), ?_, ?_, z3, ?_⟩
  · rw [fc4_toLaw, newO_ok (by omega), bnd, q1, bnd, q2, bnd, c1, bnd, hi, bnd]
  · exact (((g1.tr c2).tr g3).setR _ _ (Nat.le_refl _)).setR _ _ (Nat.le_refl _)
  · have h85 := h.2.2
    have hK3 := kd_new (σ := σ2) (k := .inr (.int, 32)) (w := 32) (by rw [c3]; omega)
    rw [c3] at hK3 ⊢
    refine ⟨k3, ?_, hK3, h85, ?_, ?_, fun i x e => ?_⟩
    · rw [List.length_map]; exact g3.kd c4
    · rw [mr_eq]
    · rw [mr_ne _ _ (by omega), mr_eq]
    · have hi : i < C.length := by
        rcases Nat.lt_or_ge i (C.map enc).length with q | q
        · rw [List.length_map] at q; exact q
        · rw [List.getElem?_eq_none q] at e; cases e
      show mi (newC σ2 (.inr (.int, 32)) 32) (mz σ + 1) i = x
      rw [(g3.2 (mz σ + 1) (by rw [c3]; omega)).2.1, c5 i hi, g1.i h (by decide)]
      rw [List.getElem?_map] at e
      cases e2 : C[i]? with
      | none => rw [e2] at e; cases e
      | some y =>
        rw [e2] at e
        cases e
        exact hC.2 i y e2
/-- a plan is made of the steps that were read -/
theorem toPlan_c (h : Sh σ) {l : List StpT} (hW : StW σ l) (hn : mi σ 13 4 = nI l.length) (hl : l.length ≤ 16) (hz : mz σ + 4 < 1000000) : ∃ σ' : Me, fc8_toPlan N 13 σ = some (some (mz σ), σ') ∧ Gr σ σ' ∧ mz σ' = mz σ + 4 ∧ pnAt σ' (mz σ) (l.length, fun i => l.getD i (0, 0, 0)) := by
  have g1 := Gr.new σ (.inl 7) (nfl 7)
  have h1 := g1.sh h
  have z1 : mz (newC σ (.inl 7) (nfl 7)) = mz σ + 1 := rfl
  have k0 : Kd (newC σ (.inl 7) (nfl 7)) (mz σ) (.inl 7) := kd_new (by omega)
  have q4 : qI (newC σ (.inl 7) (nfl 7)) 8 4 (some 13) = some (nI l.length) := by
    have e : mi (newC σ (.inl 7) (nfl 7)) 13 4 = nI l.length := by rw [g1.i h (by decide)]; exact hn
    simp only [qI, PR h1, bnd, e]
  have pr : ∀ (τ : Me) (j : Nat) (x : Option Nat), Kd τ (mz σ) (.inl 7) → pR τ 7 j (some (mz σ)) x = some (setR τ (mz σ) j x) := fun τ j x hk => by
    unfold pR
    rw [dr_ok hk, bnd]
  have h85 := h.2.2
  obtain ⟨σ2, c1, c2, c3, c4, c5⟩ := copyOf_c (N := N) (K14 h1) (by decide) (Nat.le_refl _) (by rw [z1]; omega)
  rw [z1] at c1 c3 c4 c5
  have k2 := c2.kd k0
  have g2 : Gr σ (setR σ2 (mz σ) 0 (some (mz σ + 1))) := (g1.tr c2).setR _ _ (Nat.le_refl _)
  have h2 := g2.sh h
  have z2 : mz (setR σ2 (mz σ) 0 (some (mz σ + 1))) = mz σ + 2 := c3
  obtain ⟨σ3, d1, d2, d3, d4, d5⟩ := copyOf_c (N := N) (K15 h2) (by decide) (Nat.le_refl _) (by rw [z2]; omega)
  rw [z2] at d1 d3 d4 d5
  have k3 := d2.kd (show Kd (setR σ2 (mz σ) 0 (some (mz σ + 1))) (mz σ) (.inl 7) from k2)
  have g3 : Gr σ (setR σ3 (mz σ) 1 (some (mz σ + 2))) := (g2.tr d2).setR _ _ (Nat.le_refl _)
  have h3 := g3.sh h
  have z3 : mz (setR σ3 (mz σ) 1 (some (mz σ + 2))) = mz σ + 3 := d3
  obtain ⟨σ4, e1, e2, e3, e4, e5⟩ := copyOf_c (N := N) (K16 h3) (by decide) (Nat.le_refl _) (by rw [z3]; omega)
  rw [z3] at e1 e3 e4 e5
  have k4 := e2.kd (show Kd (setR σ3 (mz σ) 1 (some (mz σ + 2))) (mz σ) (.inl 7) from k3)
  have g4 : Gr σ (setI (setR σ4 (mz σ) 2 (some (mz σ + 3))) (mz σ) 3 (nI l.length)) := (((g3.tr e2).setR _ _ (Nat.le_refl _)).setI _ _ (Nat.le_refl _))
  have hi : fc7_init N (mz σ) (some 14) (some 15) (some 16) (nI l.length) (newC σ (.inl 7) (nfl 7)) = some ((), setI (setR σ4 (mz σ) 2 (some (mz σ + 3))) (mz σ) 3 (nI l.length)) := by
    have p3 : pI (setR σ4 (mz σ) 2 (some (mz σ + 3))) 7 3 (some (mz σ)) (nI l.length) = some (setI (setR σ4 (mz σ) 2 (some (mz σ + 3))) (mz σ) 3 (nI l.length)) := by
      unfold pI
      rw [dr_setR, dr_ok k4, bnd]
    rw [fc7_init, kd_ln (K14 h1), bnd, c1, bnd, pr _ 0 _ k2, bnd, kd_ln (K15 h2), bnd, d1, bnd, pr _ 1 _ k3, bnd, kd_ln (K16 h3), bnd, e1, bnd, pr _ 2 _ k4, bnd, p3, bnd]
  refine ⟨_, ?_, g4, e3, ?_⟩
  · rw [fc8_toPlan, newO_ok (by omega), bnd, rq1 h1, bnd, rq2 h1, bnd, rq3 h1, bnd, q4, bnd, hi, bnd]
  · refine ⟨k4, e2.kd (d2.kd c4), e2.kd d4, e4, h85, ?_, ?_, ?_, mi_eq _ _ _ _, fun i hi => ?_⟩
    · rw [mr_setI, mr_ne _ _ (by omega), (e2.2 (mz σ) (by rw [z3]; omega)).2.2.2, mr_ne _ _ (by omega), (d2.2 (mz σ) (by rw [z2]; omega)).2.2.2, mr_eq]
    · rw [mr_setI, mr_ne _ _ (by omega), (e2.2 (mz σ) (by rw [z3]; omega)).2.2.2, mr_eq]
    · rw [mr_setI, mr_eq]
    · have hi : i < l.length := hi
      have hget : l[i]? = some (l.getD i (0, 0, 0)) := by
        rw [List.getD_eq_getElem?_getD, List.getElem?_eq_getElem hi]; rfl
      obtain ⟨w1, w2, w3⟩ := hW i _ hget
      refine ⟨?_, ?_, ?_⟩
      · rw [mi_ne _ _ (by omega)]
        show mi σ4 (mz σ + 1) i = _
        rw [(e2.2 (mz σ + 1) (by rw [z3]; omega)).2.1]
        show mi σ3 (mz σ + 1) i = _
        rw [(d2.2 (mz σ + 1) (by rw [z2]; omega)).2.1]
        show mi σ2 (mz σ + 1) i = _
        rw [c5 i (by omega), g1.i h (by decide)]
        exact w1
      · rw [mi_ne _ _ (by omega)]
        show mi σ4 (mz σ + 2) i = _
        rw [(e2.2 (mz σ + 2) (by rw [z3]; omega)).2.1]
        show mi σ3 (mz σ + 2) i = _
        rw [d5 i (by omega), g2.i h (by decide)]
        exact w2
      · rw [mi_ne _ _ (by omega)]
        show mi σ4 (mz σ + 3) i = _
        rw [e5 i (by omega), g3.i h (by decide)]
        exact w3
end EN
