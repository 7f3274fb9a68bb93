/-! the law: the loop over the script -/
section LAWP
variable {σ : Me} {S : Sy}
theorem it_ {p : Prop} [Decidable p] {a b : Option (Int32 × Me)} (h1 : p → ∃ σ' : Me, a = some (1, σ')) (h2 : ¬ p → ∃ σ' : Me, b = some (1, σ')) : ∃ σ' : Me, (if p then a else b) = some (1, σ') := by
  by_cases h : p
  · rw [if_pos h]; exact h1 h
  · rw [if_neg h]; exact h2 h
theorem bn_ {α : Type} {o : Option α} {x : α} {f : α → Option (Int32 × Me)} (e : o = some x) (h : ∃ σ' : Me, f x = some (1, σ')) : ∃ σ' : Me, o.bind f = some (1, σ') := by
  rw [e, bnd]; exact h
theorem ldX_0 {L i : Nat} {xs : Nat → Int32} (hi : i < L) (hL : L ≤ 3584) : ldX L xs (nI i) = some (xs i) := by
  unfold ldX
  rw [if_pos ⟨nI_pos (by omega), by rw [nI_clamp (by omega)]; exact hi⟩, nI_clamp (by omega)]
theorem ldX_k {L i : Nat} {xs : Nat → Int32} (k : Nat) {K : Int32} (hK : K = nI k) (hk : k < 7) (hi : i + 7 ≤ L) (hL : L ≤ 3584) : ldX L xs (nI i + K) = some (xs (i + k)) := by
  rw [hK, nI_add]; exact ldX_0 (by omega) hL
theorem stop_ {L i : Nat} (hL : L ≤ 3584) (hi : i ≤ 3584) : (nI L - (7 : Int32)) < nI i ↔ L < i + 7 := by
  rw [Int32.lt_iff_toInt_lt, Int32.toInt_sub, nI_toInt (by omega), nI_toInt (by omega), show ((7 : Int32)).toInt = 7 from rfl, Int.bmod_eq_of_le (by omega) (by omega)]
  omega
theorem cmp_rf (x : Int64) : lg_cmp x x = 0 := by
  have h1 := cmp_lt x x
  have h2 := cmp_gt x x
  have e1 : ¬ lg_cmp x x < 0 := fun h => absurd (h1.mp h) (Int.lt_irrefl _)
  have e2 : ¬ 0 < lg_cmp x x := fun h => absurd (h2.mp h) (Int.lt_irrefl _)
  rw [Int32.lt_iff_toInt_lt] at e1 e2
  have e0 : (0 : Int32).toInt = 0 := rfl
  rw [e0] at e1 e2
  exact Int32.toInt_inj.mp (by rw [e0]; omega)
theorem thrown_m (h : Sh σ) : fc12_thrown 10000 60 σ = some (mi σ 60 0, σ) := by
  unfold fc12_thrown qI
  rw [(PN h).1, bnd, bnd]
theorem RM.t {σ : Me} {S : Sy} (h : RM σ S) (hw : WS S) (v : Int32) : RM (setI σ 60 0 v) S := h.fr (fr_I rfl (Fr.rf _ _)) hw (h.2.1.2.2.2.fr (X := fun a _ => a == 60) (fr_I rfl (Fr.rf _ _)) (fun _ => ⟨rfl, rfl⟩))
theorem RM.o84 {σ : Me} {S : Sy} (h : RM σ S) (v : Int64) : RM (setL σ 84 0 v) S := by
  refine ⟨h.1, ⟨h.2.1.1, h.2.1.2.1, h.2.1.2.2.1, fun z hz => ?_⟩, h.2.2⟩
  have e : ml (setL σ 84 0 v) 73 z = ml σ 73 z := by rw [ml_at, if_neg (by omega)]
  rw [e]; exact h.2.1.2.2.2 z hz
theorem o_field (I : Iv σ S) (hz : mz σ + 4 < 1000000) (x y : Int32) : ∃ (t v : Int32) (σ1 σ2 : Me), fL_field 10000 (some 0) x y (some 84) σ = some (t, σ1) ∧ Sh σ1 ∧ fc12_field 10000 60 x y σ1 = some (v, σ2) ∧ mi σ2 60 0 = t ∧ (t = 0 → ml σ2 84 0 = v.toInt64) ∧ Iv σ2 S ∧ mz σ2 ≤ mz σ + 4 := by
  have d0 : dr σ (some 0) (.inl 11) = some 0 := I.sh.dr 0 (by decide) rfl
  have d19 : dr σ (some 19) (.inl 2) = some 19 := I.sh.dr 19 (by decide) rfl
  have q : qR σ 11 10 (some 0) = some (some 19) := by
    unfold qR
    rw [d0, bnd, I.sh.rf 0 10 19 (by decide)]
  by_cases hx : ∃ f w : Nat, f < pn (sQ S) ∧ w ≤ 4 ∧ x = nI f ∧ y = nI w
  · obtain ⟨f, w, hf, hw, rfl, rfl⟩ := hx
    have t : thr 10000 0 (nI f) (nI w) σ = some false := by
      unfold thr
      rw [q, bnd, d19, bnd, has_y I.sh (.inl rfl) I.n I.ws.n6 hf, bnd]
      have n1 : ¬ (1 : Int32) = 0 := by decide
      have n2 : ¬ nI w < 0 := nI_pos (by omega)
      have n3 : ¬ (4 : Int32) < nI w := by rw [y4, nI_ltI (by omega) (by omega)]; omega
      simp only [n1, n2, n3, or_self, decide_false]
    have a : arr σ .long (some 84) (0 : Int32) = some 84 := I.sh.ar 84 1 (by decide) rfl (by decide) 0 (by decide)
    have fr : Fr mlS σ (setL σ 84 0 (nI (fiA (sQ S) (sR S) f w)).toInt64) := fr_L rfl (Fr.rf _ _)
    have h1 : Sh (setL σ 84 0 (nI (fiA (sQ S) (sR S) f w)).toInt64) := I.sh
    refine ⟨0, nI (fiA (sQ S) (sR S) f w), _, _, ?_, h1, field_m h1 (I.rm.o84 _) I.ws hf hw, ?_, fun _ => ?_, ⟨h1, (I.rc.ml fr I.ws).ml (fr_I rfl (Fr.rf _ _)) I.ws, (I.rm.o84 _).t I.ws 0, I.ws, I.lx⟩, Nat.le_add_right _ _⟩
    · unfold fL_field
      rw [d0, bnd, t, bnd, if_neg (by decide), field_c I.sh I.rc I.ws hf hw, bnd]
      unfold stL
      rw [a, bnd, bnd]
      rfl
    · rw [mi_at, if_pos ⟨rfl, rfl⟩]
    · show ml (setL σ 84 0 _) 84 0 = _
      rw [ml_at, if_pos ⟨rfl, rfl⟩]
  · have t : thr 10000 0 x y σ = some true := by
      unfold thr
      rw [q, bnd, d19, bnd]
      rcases nix x (n := pn (sQ S)) (by have := I.ws.n6; omega) with h1 | ⟨f, hf, rfl⟩
      · rw [has_n I.sh (.inl rfl) I.n h1, bnd]
        exact congrArg some (decide_eq_true (.inl rfl))
      · rw [has_y I.sh (.inl rfl) I.n I.ws.n6 hf, bnd]
        refine congrArg some (decide_eq_true (.inr ?_))
        rcases nix y (n := 5) (by decide) with (h2 | h2) | ⟨w, hw, rfl⟩
        · exact .inl h2
        · refine .inr ?_
          rw [Int32.le_iff_toInt_le, nI_toInt (by decide)] at h2
          rw [Int32.lt_iff_toInt_lt, show ((4 : Int32)).toInt = 4 from rfl]
          omega
        · exact absurd ⟨f, w, hf, by omega, rfl, rfl⟩ hx
    have g : Gr σ (excC σ) := Gr.new σ _ _
    have h1 : Sh (excC σ) := g.sh I.sh
    have r1 : RC (excC σ) S := I.rc.gr g I.sh
    have m1 : RM (excC σ) S := I.rm.gr g I.sh
    refine ⟨1, 0, _, _, ?_, h1, field_mn h1 m1 I.ws hx, ?_, fun e => absurd e (by decide), ⟨h1, r1.ml (fr_I rfl (Fr.rf _ _)) I.ws, m1.t I.ws 1, I.ws, I.lx⟩, ?_⟩
    · unfold fL_field
      rw [d0, bnd, t, bnd, if_pos rfl, if_pos (by omega)]
    · rw [mi_at, if_pos ⟨rfl, rfl⟩]
    · show mz σ + 1 ≤ mz σ + 4
      omega
set_option maxRecDepth 20000 in
set_option maxHeartbeats 8000000 in
theorem loop_ {L : Nat} {xs : Nat → Int32} (hL : L ≤ 3584) : ∀ (n i : Nat) (σ : Me) (S : Sy), Iv σ S → 7 * i ≤ L → L < 7 * (i + n) → mz σ + 4 * n + 4 < 1000000 → ∃ σ' : Me, fL_law_23 10000 L xs n () (some 0) (some 60) (some 84) (nI (7 * i)) σ = some (1, σ') := by
  intro n
  induction n with
  | zero => intro i σ S I h1 h2; omega
  | succ n ih =>
    intro i σ S I h1 h2 hz
    unfold fL_law_23
    refine it_ (fun _ => ⟨σ, rfl⟩) (fun hs => ?_)
    rw [stop_ hL (by omega)] at hs
    have hi : 7 * i + 7 ≤ L := by omega
    have X : ∀ (k : Nat) {K : Int32}, K = nI k → k < 7 → ldX L xs (nI (7 * i) + K) = some (xs (7 * i + k)) := fun k K e hk => ldX_k k e hk hi hL
    have G : ∀ (σ2 : Me) (S' : Sy), Iv σ2 S' → mz σ2 ≤ mz σ + 4 → ∃ σ' : Me, fL_law_23 10000 L xs n () (some 0) (some 60) (some 84) (nI (7 * i) + (7 : Int32)) σ2 = some (1, σ') := fun σ2 S' I2 hz2 => by
      rw [y7, nI_add]
      exact ih (i + 1) σ2 S' I2 (by omega) (by omega) (by omega)
    have D : dr σ (some 0) (.inl 11) = some 0 := I.sh.dr 0 (by decide) rfl
    have E : ∀ {σ1 : Me}, Sh σ1 → dr σ1 (some 60) (.inl 12) = some 60 := fun h => h.dr 60 (by decide) rfl
    refine bn_ (ldX_0 (by omega) hL) ?_
    refine it_ (fun _ => ?_) (fun _ => ?_)
    · obtain ⟨v, σ1, σ2, S2, c, s1, m, I2, z2⟩ := o_feed I (xs (7 * i + 1)) (xs (7 * i + 2)) (xs (7 * i + 3)) (xs (7 * i + 4)) (xs (7 * i + 5))
      refine bn_ (X 1 rfl (by decide)) (bn_ (X 2 rfl (by decide)) (bn_ (X 3 rfl (by decide)) (bn_ (X 4 rfl (by decide)) (bn_ (X 5 rfl (by decide)) (bn_ (D) (bn_ (c) (bn_ (X 1 rfl (by decide)) (bn_ (X 2 rfl (by decide)) (bn_ (X 3 rfl (by decide)) (bn_ (X 4 rfl (by decide)) (bn_ (X 5 rfl (by decide)) (bn_ (E s1) (bn_ (m) (it_ (fun _ => G σ2 S2 I2 z2) (fun e => absurd rfl e)))))))))))))))
    refine it_ (fun _ => ?_) (fun _ => ?_)
    · obtain ⟨v, σ1, σ2, S2, c, s1, m, I2, z2⟩ := o_end I (xs (7 * i + 1))
      refine bn_ (X 1 rfl (by decide)) (bn_ (D) (bn_ (c) (bn_ (X 1 rfl (by decide)) (bn_ (E s1) (bn_ (m) (it_ (fun _ => G σ2 S2 I2 z2) (fun e => absurd rfl e)))))))
    refine it_ (fun _ => ?_) (fun _ => ?_)
    · obtain ⟨v, σ1, σ2, S2, c, s1, m, I2, z2⟩ := o_fault I (xs (7 * i + 1))
      refine bn_ (X 1 rfl (by decide)) (bn_ (D) (bn_ (c) (bn_ (X 1 rfl (by decide)) (bn_ (E s1) (bn_ (m) (it_ (fun _ => G σ2 S2 I2 z2) (fun e => absurd rfl e)))))))
    refine it_ (fun _ => ?_) (fun _ => ?_)
    · obtain ⟨v, σ1, σ2, S2, c, s1, m, I2, z2⟩ := o_text I (by omega) (xs (7 * i + 1))
      refine bn_ (X 1 rfl (by decide)) (bn_ (D) (bn_ (c) (bn_ (X 1 rfl (by decide)) (bn_ (E s1) (bn_ (m) (it_ (fun _ => G σ2 S2 I2 z2) (fun e => absurd rfl e)))))))
    refine it_ (fun _ => ?_) (fun _ => ?_)
    · obtain ⟨v, σ1, σ2, S2, c, s1, m, I2, z2⟩ := o_rule I (xs (7 * i + 1))
      refine bn_ (X 1 rfl (by decide)) (bn_ (D) (bn_ (c) (bn_ (X 1 rfl (by decide)) (bn_ (E s1) (bn_ (m) (it_ (fun _ => G σ2 S2 I2 z2) (fun e => absurd rfl e)))))))
    refine it_ (fun _ => ?_) (fun _ => ?_)
    · obtain ⟨t, v, σ1, σ2, c, s1, m, ht, hv, I2, z2⟩ := o_field I (by omega) (xs (7 * i + 1)) (xs (7 * i + 2))
      refine bn_ (X 1 rfl (by decide)) (bn_ (X 2 rfl (by decide)) (bn_ (c) (bn_ (X 1 rfl (by decide)) (bn_ (X 2 rfl (by decide)) (bn_ (E s1) (bn_ (m) (bn_ (E I2.sh) (bn_ (thrown_m I2.sh) ?_))))))))
      refine it_ (fun _ => it_ (fun e0 => bn_ (x := ml σ2 84 0) ?_ (it_ (fun _ => G σ2 S I2 z2) (fun e => absurd ?_ e))) (fun _ => G σ2 S I2 z2)) (fun e => absurd ht e)
      · unfold ldL
        rw [show arr σ2 .long (some 84) (0 : Int32) = some 84 from I2.sh.ar 84 1 (by decide) rfl (by decide) 0 (by decide), bnd]
        rfl
      · show lg_cmp (ml σ2 84 0) (Int32.toInt64 v) = 0
        rw [hv e0]; exact cmp_rf _
    refine it_ (fun _ => ?_) (fun _ => ?_)
    · obtain ⟨v, σ1, σ2, S2, c, s1, m, I2, z2⟩ := o_law I (xs (7 * i + 1))
      refine bn_ (X 1 rfl (by decide)) (bn_ (D) (bn_ (c) (bn_ (X 1 rfl (by decide)) (bn_ (E s1) (bn_ (m) (it_ (fun _ => G σ2 S2 I2 z2) (fun e => absurd rfl e)))))))
    refine it_ (fun _ => ?_) (fun _ => ?_)
    · obtain ⟨v, σ1, σ2, S2, c, s1, m, I2, z2⟩ := o_heresy I (xs (7 * i + 1))
      refine bn_ (X 1 rfl (by decide)) (bn_ (D) (bn_ (c) (bn_ (X 1 rfl (by decide)) (bn_ (E s1) (bn_ (m) (it_ (fun _ => G σ2 S2 I2 z2) (fun e => absurd rfl e)))))))
    refine it_ (fun _ => ?_) (fun _ => ?_)
    · obtain ⟨v, σ1, σ2, S2, c, s1, m, I2, z2⟩ := o_year I (xs (7 * i + 1))
      refine bn_ (X 1 rfl (by decide)) (bn_ (D) (bn_ (c) (bn_ (X 1 rfl (by decide)) (bn_ (E s1) (bn_ (m) (it_ (fun _ => G σ2 S2 I2 z2) (fun e => absurd rfl e)))))))
    refine it_ (fun _ => ?_) (fun _ => ?_)
    · obtain ⟨v, σ1, σ2, S2, c, s1, m, I2, z2⟩ := o_sell I (xs (7 * i + 1)) (xs (7 * i + 2)) (xs (7 * i + 3))
      refine bn_ (X 1 rfl (by decide)) (bn_ (X 2 rfl (by decide)) (bn_ (X 3 rfl (by decide)) (bn_ (D) (bn_ (c) (bn_ (X 1 rfl (by decide)) (bn_ (X 2 rfl (by decide)) (bn_ (X 3 rfl (by decide)) (bn_ (E s1) (bn_ (m) (it_ (fun _ => G σ2 S2 I2 z2) (fun e => absurd rfl e)))))))))))
    refine it_ (fun _ => ?_) (fun _ => ?_)
    · obtain ⟨v, σ1, σ2, S2, c, s1, m, I2, z2⟩ := o_forgive I (xs (7 * i + 1)) (xs (7 * i + 2))
      refine bn_ (X 1 rfl (by decide)) (bn_ (X 2 rfl (by decide)) (bn_ (D) (bn_ (c) (bn_ (X 1 rfl (by decide)) (bn_ (X 2 rfl (by decide)) (bn_ (E s1) (bn_ (m) (it_ (fun _ => G σ2 S2 I2 z2) (fun e => absurd rfl e)))))))))
    refine it_ (fun _ => ?_) (fun _ => ?_)
    · obtain ⟨v, σ1, σ2, S2, c, s1, m, I2, z2⟩ := o_hedge I (xs (7 * i + 1))
      refine bn_ (X 1 rfl (by decide)) (bn_ (D) (bn_ (c) (bn_ (X 1 rfl (by decide)) (bn_ (E s1) (bn_ (m) (it_ (fun _ => G σ2 S2 I2 z2) (fun e => absurd rfl e)))))))
    refine it_ (fun _ => ?_) (fun _ => ?_)
    · obtain ⟨v, σ1, σ2, S2, c, s1, m, I2, z2⟩ := o_can I (xs (7 * i + 1))
      refine bn_ (X 1 rfl (by decide)) (bn_ (D) (bn_ (c) (bn_ (X 1 rfl (by decide)) (bn_ (E s1) (bn_ (m) (it_ (fun _ => G σ2 S2 I2 z2) (fun e => absurd rfl e)))))))
    refine it_ (fun _ => ?_) (fun _ => ?_)
    · obtain ⟨v, σ1, σ2, S2, c, s1, m, I2, z2⟩ := o_price I (xs (7 * i + 1))
      refine bn_ (X 1 rfl (by decide)) (bn_ (D) (bn_ (c) (bn_ (X 1 rfl (by decide)) (bn_ (E s1) (bn_ (m) (it_ (fun _ => G σ2 S2 I2 z2) (fun e => absurd rfl e)))))))
    refine it_ (fun _ => ?_) (fun _ => ?_)
    · obtain ⟨v, σ1, σ2, S2, c, s1, m, I2, z2⟩ := o_years I (xs (7 * i + 1)) (((Int32.toInt64 (xs (7 * i + 2))) <<< (((32 : Int32)).toInt64 &&& 63)) ||| ((Int32.toInt64 (xs (7 * i + 3))) &&& (4294967295 : Int64)))
      refine bn_ (X 1 rfl (by decide)) (bn_ (X 2 rfl (by decide)) (bn_ (X 3 rfl (by decide)) (bn_ (D) (bn_ (c) (bn_ (X 1 rfl (by decide)) (bn_ (X 2 rfl (by decide)) (bn_ (X 3 rfl (by decide)) (bn_ (E s1) (bn_ (m) (it_ (fun _ => G σ2 S2 I2 z2) (fun e => absurd rfl e)))))))))))
    refine it_ (fun _ => ?_) (fun _ => ?_)
    · obtain ⟨v, σ1, σ2, S2, c, s1, m, I2, z2⟩ := o_undo I 
      refine bn_ (D) (bn_ (c) (bn_ (E s1) (bn_ (m) (it_ (fun _ => G σ2 S2 I2 z2) (fun e => absurd rfl e)))))
    refine it_ (fun _ => ?_) (fun _ => ?_)
    · obtain ⟨v, σ1, σ2, S2, c, s1, m, I2, z2⟩ := o_log I (xs (7 * i + 1)) (xs (7 * i + 2))
      refine bn_ (X 1 rfl (by decide)) (bn_ (X 2 rfl (by decide)) (bn_ (D) (bn_ (c) (bn_ (X 1 rfl (by decide)) (bn_ (X 2 rfl (by decide)) (bn_ (E s1) (bn_ (m) (it_ (fun _ => G σ2 S2 I2 z2) (fun e => absurd rfl e)))))))))
    refine it_ (fun _ => ?_) (fun _ => ?_)
    · obtain ⟨v, σ1, σ2, S2, c, s1, m, I2, z2⟩ := o_step I (xs (7 * i + 1)) (xs (7 * i + 2)) (xs (7 * i + 3))
      refine bn_ (X 1 rfl (by decide)) (bn_ (X 2 rfl (by decide)) (bn_ (X 3 rfl (by decide)) (bn_ (D) (bn_ (c) (bn_ (X 1 rfl (by decide)) (bn_ (X 2 rfl (by decide)) (bn_ (X 3 rfl (by decide)) (bn_ (E s1) (bn_ (m) (it_ (fun _ => G σ2 S2 I2 z2) (fun e => absurd rfl e)))))))))))
    refine it_ (fun _ => ?_) (fun _ => ?_)
    · obtain ⟨v, σ1, σ2, S2, c, s1, m, I2, z2⟩ := o_run I (xs (7 * i + 1)) (xs (7 * i + 2))
      refine bn_ (X 1 rfl (by decide)) (bn_ (X 2 rfl (by decide)) (bn_ (D) (bn_ (c) (bn_ (X 1 rfl (by decide)) (bn_ (X 2 rfl (by decide)) (bn_ (E s1) (bn_ (m) (it_ (fun _ => G σ2 S2 I2 z2) (fun e => absurd rfl e)))))))))
    refine it_ (fun _ => ?_) (fun _ => ?_)
    · obtain ⟨v, σ1, σ2, S2, c, s1, m, I2, z2⟩ := o_perform I (xs (7 * i + 1))
      refine bn_ (X 1 rfl (by decide)) (bn_ (D) (bn_ (c) (bn_ (X 1 rfl (by decide)) (bn_ (E s1) (bn_ (m) (it_ (fun _ => G σ2 S2 I2 z2) (fun e => absurd rfl e)))))))
    refine it_ (fun _ => ?_) (fun _ => ?_)
    · obtain ⟨v, σ1, σ2, S2, c, s1, m, I2, z2⟩ := o_falls I (xs (7 * i + 1)) (xs (7 * i + 2))
      refine bn_ (X 1 rfl (by decide)) (bn_ (X 2 rfl (by decide)) (bn_ (D) (bn_ (c) (bn_ (X 1 rfl (by decide)) (bn_ (X 2 rfl (by decide)) (bn_ (E s1) (bn_ (m) (it_ (fun _ => G σ2 S2 I2 z2) (fun e => absurd rfl e)))))))))
    refine it_ (fun _ => ?_) (fun _ => ?_)
    · obtain ⟨v, σ1, σ2, S2, c, s1, m, I2, z2⟩ := o_drowns I (xs (7 * i + 1))
      refine bn_ (X 1 rfl (by decide)) (bn_ (D) (bn_ (c) (bn_ (X 1 rfl (by decide)) (bn_ (E s1) (bn_ (m) (it_ (fun _ => G σ2 S2 I2 z2) (fun e => absurd rfl e)))))))
    refine it_ (fun _ => ?_) (fun _ => ?_)
    · obtain ⟨v, σ1, σ2, S2, c, s1, m, I2, z2⟩ := o_safe I 
      refine bn_ (D) (bn_ (c) (bn_ (E s1) (bn_ (m) (it_ (fun _ => G σ2 S2 I2 z2) (fun e => absurd rfl e)))))
    refine it_ (fun _ => ?_) (fun _ => ?_)
    · obtain ⟨v, σ1, σ2, S2, c, s1, m, I2, z2⟩ := o_least I (xs (7 * i + 1)) (xs (7 * i + 2))
      refine bn_ (X 1 rfl (by decide)) (bn_ (X 2 rfl (by decide)) (bn_ (D) (bn_ (c) (bn_ (X 1 rfl (by decide)) (bn_ (X 2 rfl (by decide)) (bn_ (E s1) (bn_ (m) (it_ (fun _ => G σ2 S2 I2 z2) (fun e => absurd rfl e)))))))))
    refine it_ (fun _ => ?_) (fun _ => ?_)
    · obtain ⟨v, σ1, σ2, S2, c, s1, m, I2, z2⟩ := o_best I (xs (7 * i + 1)) (xs (7 * i + 2))
      refine bn_ (X 1 rfl (by decide)) (bn_ (X 2 rfl (by decide)) (bn_ (D) (bn_ (c) (bn_ (X 1 rfl (by decide)) (bn_ (X 2 rfl (by decide)) (bn_ (E s1) (bn_ (m) (it_ (fun _ => G σ2 S2 I2 z2) (fun e => absurd rfl e)))))))))
    refine it_ (fun _ => ?_) (fun _ => ?_)
    · obtain ⟨v, σ1, σ2, S2, c, s1, m, I2, z2⟩ := o_trades I (xs (7 * i + 1)) (xs (7 * i + 2))
      refine bn_ (X 1 rfl (by decide)) (bn_ (X 2 rfl (by decide)) (bn_ (D) (bn_ (c) (bn_ (X 1 rfl (by decide)) (bn_ (X 2 rfl (by decide)) (bn_ (E s1) (bn_ (m) (it_ (fun _ => G σ2 S2 I2 z2) (fun e => absurd rfl e)))))))))
    refine it_ (fun _ => ?_) (fun _ => ?_)
    · refine bn_ (X 1 rfl (by decide)) (bn_ (X 2 rfl (by decide)) (bn_ (X 3 rfl (by decide)) (bn_ (X 4 rfl (by decide)) ?_)))
      refine it_ (fun e4 => ?_) (fun e4 => ?_)
      · unfold fL_law_1158
        obtain ⟨v, σ1, σ2, S2, c, s1, m, I2, z2⟩ := o_fell I (xs (7 * i + 1)) (xs (7 * i + 2)) (xs (7 * i + 3)) false
        refine bn_ (D) (bn_ (c) (bn_ (X 1 rfl (by decide)) (bn_ (X 2 rfl (by decide)) (bn_ (X 3 rfl (by decide)) (bn_ (X 4 rfl (by decide)) ?_)))))
        refine it_ (fun _ => ?_) (fun e => absurd e4 e)
        unfold fL_law_1194
        refine bn_ (E s1) (bn_ m (it_ (fun _ => G σ2 S2 I2 z2) (fun e => absurd rfl e)))
      · unfold fL_law_1158
        obtain ⟨v, σ1, σ2, S2, c, s1, m, I2, z2⟩ := o_fell I (xs (7 * i + 1)) (xs (7 * i + 2)) (xs (7 * i + 3)) true
        refine bn_ (D) (bn_ (c) (bn_ (X 1 rfl (by decide)) (bn_ (X 2 rfl (by decide)) (bn_ (X 3 rfl (by decide)) (bn_ (X 4 rfl (by decide)) ?_)))))
        refine it_ (fun e => absurd e e4) (fun _ => ?_)
        unfold fL_law_1194
        refine bn_ (E s1) (bn_ m (it_ (fun _ => G σ2 S2 I2 z2) (fun e => absurd rfl e)))
    refine it_ (fun _ => ?_) (fun _ => ?_)
    · obtain ⟨v, σ1, σ2, S2, c, s1, m, I2, z2⟩ := o_debts I (xs (7 * i + 1)) (xs (7 * i + 2))
      refine bn_ (X 1 rfl (by decide)) (bn_ (X 2 rfl (by decide)) (bn_ (D) (bn_ (c) (bn_ (X 1 rfl (by decide)) (bn_ (X 2 rfl (by decide)) (bn_ (E s1) (bn_ (m) (it_ (fun _ => G σ2 S2 I2 z2) (fun e => absurd rfl e)))))))))
    refine it_ (fun _ => ?_) (fun _ => ?_)
    · obtain ⟨v, σ1, σ2, S2, c, s1, m, I2, z2⟩ := o_ask I (xs (7 * i + 1)) (xs (7 * i + 2))
      refine bn_ (X 1 rfl (by decide)) (bn_ (X 2 rfl (by decide)) (bn_ (D) (bn_ (c) (bn_ (X 1 rfl (by decide)) (bn_ (X 2 rfl (by decide)) (bn_ (E s1) (bn_ (m) (it_ (fun _ => G σ2 S2 I2 z2) (fun e => absurd rfl e)))))))))
    refine it_ (fun _ => ?_) (fun _ => ?_)
    · obtain ⟨v, σ1, σ2, S2, c, s1, m, I2, z2⟩ := o_game I (xs (7 * i + 1)) (xs (7 * i + 2)) (xs (7 * i + 3)) (xs (7 * i + 4)) (xs (7 * i + 5)) (xs (7 * i + 6))
      refine bn_ (X 1 rfl (by decide)) (bn_ (X 2 rfl (by decide)) (bn_ (X 3 rfl (by decide)) (bn_ (X 4 rfl (by decide)) (bn_ (X 5 rfl (by decide)) (bn_ (X 6 rfl (by decide)) (bn_ (D) (bn_ (c) (bn_ (X 1 rfl (by decide)) (bn_ (X 2 rfl (by decide)) (bn_ (X 3 rfl (by decide)) (bn_ (X 4 rfl (by decide)) (bn_ (X 5 rfl (by decide)) (bn_ (X 6 rfl (by decide)) (bn_ (E s1) (bn_ (m) (it_ (fun _ => G σ2 S2 I2 z2) (fun e => absurd rfl e)))))))))))))))))
    refine it_ (fun _ => ?_) (fun _ => ?_)
    · obtain ⟨v, σ1, σ2, S2, c, s1, m, I2, z2⟩ := o_rests I (xs (7 * i + 1)) (xs (7 * i + 2)) (xs (7 * i + 3)) (xs (7 * i + 4))
      refine bn_ (X 1 rfl (by decide)) (bn_ (X 2 rfl (by decide)) (bn_ (X 3 rfl (by decide)) (bn_ (X 4 rfl (by decide)) (bn_ (D) (bn_ (c) (bn_ (X 1 rfl (by decide)) (bn_ (X 2 rfl (by decide)) (bn_ (X 3 rfl (by decide)) (bn_ (X 4 rfl (by decide)) (bn_ (E s1) (bn_ (m) (it_ (fun _ => G σ2 S2 I2 z2) (fun e => absurd rfl e)))))))))))))
    refine it_ (fun _ => ?_) (fun _ => ?_)
    · obtain ⟨v, σ1, σ2, S2, c, s1, m, I2, z2⟩ := o_odds I (xs (7 * i + 1)) (xs (7 * i + 2)) (xs (7 * i + 3))
      refine bn_ (X 1 rfl (by decide)) (bn_ (X 2 rfl (by decide)) (bn_ (X 3 rfl (by decide)) (bn_ (D) (bn_ (c) (bn_ (X 1 rfl (by decide)) (bn_ (X 2 rfl (by decide)) (bn_ (X 3 rfl (by decide)) (bn_ (E s1) (bn_ (m) (it_ (fun _ => G σ2 S2 I2 z2) (fun e => absurd rfl e)))))))))))
    refine it_ (fun _ => ?_) (fun _ => ?_)
    · obtain ⟨v, σ1, σ2, S2, c, s1, m, I2, z2⟩ := o_turn I (xs (7 * i + 1))
      refine bn_ (X 1 rfl (by decide)) (bn_ (D) (bn_ (c) (bn_ (X 1 rfl (by decide)) (bn_ (E s1) (bn_ (m) (it_ (fun _ => G σ2 S2 I2 z2) (fun e => absurd rfl e)))))))
    refine it_ (fun _ => ?_) (fun _ => ?_)
    · obtain ⟨v, σ1, σ2, S2, c, s1, m, I2, z2⟩ := o_ahead I (xs (7 * i + 1)) (xs (7 * i + 2)) (xs (7 * i + 3))
      refine bn_ (X 1 rfl (by decide)) (bn_ (X 2 rfl (by decide)) (bn_ (X 3 rfl (by decide)) (bn_ (D) (bn_ (c) (bn_ (X 1 rfl (by decide)) (bn_ (X 2 rfl (by decide)) (bn_ (X 3 rfl (by decide)) (bn_ (E s1) (bn_ (m) (it_ (fun _ => G σ2 S2 I2 z2) (fun e => absurd rfl e)))))))))))
    refine it_ (fun _ => ?_) (fun _ => ?_)
    · obtain ⟨v, σ1, σ2, S2, c, s1, m, I2, z2⟩ := o_even I (xs (7 * i + 1)) (xs (7 * i + 2))
      refine bn_ (X 1 rfl (by decide)) (bn_ (X 2 rfl (by decide)) (bn_ (D) (bn_ (c) (bn_ (X 1 rfl (by decide)) (bn_ (X 2 rfl (by decide)) (bn_ (E s1) (bn_ (m) (it_ (fun _ => G σ2 S2 I2 z2) (fun e => absurd rfl e)))))))))
    refine it_ (fun _ => ?_) (fun _ => ?_)
    · obtain ⟨v, σ1, σ2, S2, c, s1, m, I2, z2⟩ := o_together I (xs (7 * i + 1))
      refine bn_ (X 1 rfl (by decide)) (bn_ (D) (bn_ (c) (bn_ (X 1 rfl (by decide)) (bn_ (E s1) (bn_ (m) (it_ (fun _ => G σ2 S2 I2 z2) (fun e => absurd rfl e)))))))
    refine it_ (fun _ => ?_) (fun _ => ?_)
    · obtain ⟨v, σ1, σ2, S2, c, s1, m, I2, z2⟩ := o_all I (xs (7 * i + 1))
      refine bn_ (X 1 rfl (by decide)) (bn_ (D) (bn_ (c) (bn_ (X 1 rfl (by decide)) (bn_ (E s1) (bn_ (m) (it_ (fun _ => G σ2 S2 I2 z2) (fun e => absurd rfl e)))))))
    refine it_ (fun _ => ?_) (fun _ => ?_)
    · obtain ⟨v, σ1, σ2, S2, c, s1, m, I2, z2⟩ := o_shares I (xs (7 * i + 1)) (xs (7 * i + 2))
      refine bn_ (X 1 rfl (by decide)) (bn_ (X 2 rfl (by decide)) (bn_ (D) (bn_ (c) (bn_ (X 1 rfl (by decide)) (bn_ (X 2 rfl (by decide)) (bn_ (E s1) (bn_ (m) (it_ (fun _ => G σ2 S2 I2 z2) (fun e => absurd rfl e)))))))))
    refine it_ (fun _ => ?_) (fun _ => ?_)
    · obtain ⟨v, σ1, σ2, S2, c, s1, m, I2, z2⟩ := o_buyers I (xs (7 * i + 1))
      refine bn_ (X 1 rfl (by decide)) (bn_ (D) (bn_ (c) (bn_ (X 1 rfl (by decide)) (bn_ (E s1) (bn_ (m) (it_ (fun _ => G σ2 S2 I2 z2) (fun e => absurd rfl e)))))))
    refine it_ (fun _ => ?_) (fun _ => ?_)
    · obtain ⟨v, σ1, σ2, S2, c, s1, m, I2, z2⟩ := o_harvest I (xs (7 * i + 1))
      refine bn_ (X 1 rfl (by decide)) (bn_ (D) (bn_ (c) (bn_ (X 1 rfl (by decide)) (bn_ (E s1) (bn_ (m) (it_ (fun _ => G σ2 S2 I2 z2) (fun e => absurd rfl e)))))))
    refine it_ (fun _ => ?_) (fun _ => ?_)
    · obtain ⟨v, σ1, σ2, S2, c, s1, m, I2, z2⟩ := o_forgiven I (xs (7 * i + 1))
      refine bn_ (X 1 rfl (by decide)) (bn_ (D) (bn_ (c) (bn_ (X 1 rfl (by decide)) (bn_ (E s1) (bn_ (m) (it_ (fun _ => G σ2 S2 I2 z2) (fun e => absurd rfl e)))))))
    refine it_ (fun _ => ?_) (fun _ => ?_)
    · obtain ⟨v, σ1, σ2, S2, c, s1, m, I2, z2⟩ := o_image I 
      refine bn_ (D) (bn_ (c) (bn_ (E s1) (bn_ (m) (it_ (fun _ => G σ2 S2 I2 z2) (fun e => absurd rfl e)))))
    refine it_ (fun _ => ?_) (fun _ => ?_)
    · obtain ⟨v, σ1, σ2, S2, c, s1, m, I2, z2⟩ := o_back I 
      refine bn_ (D) (bn_ (c) (bn_ (E s1) (bn_ (m) (it_ (fun _ => G σ2 S2 I2 z2) (fun e => absurd rfl e)))))
    refine it_ (fun _ => ?_) (fun _ => ?_)
    · obtain ⟨v, σ1, σ2, S2, c, s1, m, I2, z2⟩ := o_count I (xs (7 * i + 1))
      refine bn_ (X 1 rfl (by decide)) (bn_ (D) (bn_ (c) (bn_ (X 1 rfl (by decide)) (bn_ (E s1) (bn_ (m) (it_ (fun _ => G σ2 S2 I2 z2) (fun e => absurd rfl e)))))))
    exact G σ S I (by omega)
theorem hpure (L : Nat) (xs : Nat → Int32) (hL : L ≤ 3584) : ∃ σ' : Me, fL_law 10000 L xs σ0 = some (1, σ') := by
  obtain ⟨σ, e, I, z⟩ := init_ok
  rw [law_init, e, bnd]
  exact loop_ hL 600 0 σ Sy0 I (by omega) (by omega) (by omega)
end LAWP
