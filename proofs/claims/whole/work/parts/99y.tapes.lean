/-! feed, end, text: both sides -/
def fdT (T : Tx) (a b c d e : Int32) : Tx := ap4 (ap4 (ap4 (ap4 (ap4 T a) b) c) d) e
theorem fdT_1 (T : Tx) (a b c d e : Int32) : (fdT T a b c d e).1 = T.1 + (c4B a + c4B b + c4B c + c4B d + c4B e) := by unfold fdT; rw [ap4_1, ap4_1, ap4_1, ap4_1, ap4_1]; omega
theorem tpX_l {a j : Nat} (h : clS a j = false) : tpX a j = false := by
  simp only [clS, tpX, Bool.or_eq_false_iff, Bool.and_eq_false_iff, decide_eq_false_iff_not, beq_eq_false_iff_ne] at h ⊢
  omega
theorem tmX_l {a j : Nat} (h : mlS a j = false) : tmX a j = false := by
  simp only [mlS, tmX, Bool.or_eq_false_iff, Bool.and_eq_false_iff, decide_eq_false_iff_not, beq_eq_false_iff_ne] at h ⊢
  omega
section YX
variable {N : Nat} {σ : Me} {S : Sy}
theorem RC.tp {σ' : Me} {T : Tx} (h : RC σ S) (k : Fr tpX σ σ') (ht : TpC σ' T) (hw : WS S) : RC σ' (withT S T) := by
  have hi : ∀ a j, 85 ≤ a → a ≠ 0 → tpX a j = false := fun a j h1 _ => by simp [tpX]; omega
  obtain ⟨h1, h2, h3, h4, h5, h9⟩ := h
  exact ⟨ht, h2.fr k (b := 0) (.inl (by decide)) rfl rfl (fun _ => rfl) rfl hi, h3.fr h2 k (b := 0) (.inl (by decide)) rfl (fun _ => rfl) hi, by show mi σ' 0 9 = _; rw [k.i rfl]; exact h4, h5.fr k hw.n6 (fun a j h1 h2 => by simp [tpX]; omega) (fun a j h1 h2 => by simp [tpX]; omega), h9.fr k rfl (fun _ => ⟨rfl, rfl, rfl, rfl⟩)⟩
theorem RM.tp {σ' : Me} {T : Tx} (h : RM σ S) (k : Fr tmX σ σ') (ht : TpM σ' T) (hw : WS S) : RM σ' (withT S T) := by
  obtain ⟨h1, h2, h3, h4, h5, h10⟩ := h
  exact ⟨ht, h2.fr k rfl rfl (fun _ => ⟨rfl, rfl⟩) (h2.2.2.2.fr k (fun _ => ⟨rfl, rfl⟩)), h3.fr k hw.2.2.2.2.1 (fun i q e => (hw.2.2.2.2.2.1 i q e).2.1) rfl (fun j hj => rfl) (fun j hj => rfl), by show mi σ' 60 31 = _; rw [k.i rfl]; exact h4, h5.fr k rfl rfl rfl (fun _ => ⟨rfl, rfl, rfl, rfl, rfl⟩), h10.fr k rfl (fun _ => rfl)⟩
theorem withT_ok {T : Tx} (hw : WS S) (hT : txOK T) : WS (withT S T) := ⟨hT, hw.2⟩
def fdA (S : Sy) (a b c d e : Int32) : Int32 × Sy := if (fdT (sT S) a b c d e).1 ≤ 240 then (nI (fdT (sT S) a b c d e).1, withT S (fdT (sT S) a b c d e)) else (-1, S)
theorem fdA_ok (hw : WS S) {a b c d e : Int32} : WS (fdA S a b c d e).2 := by
  unfold fdA
  split
  · rename_i h
    refine withT_ok hw ?_
    have e1 := ap4_1 (sT S) a
    have e2 := ap4_1 (ap4 (sT S) a) b
    have e3 := ap4_1 (ap4 (ap4 (sT S) a) b) c
    have e4 := ap4_1 (ap4 (ap4 (ap4 (sT S) a) b) c) d
    have e5 := ap4_1 (ap4 (ap4 (ap4 (ap4 (sT S) a) b) c) d) e
    have h' : (ap4 (ap4 (ap4 (ap4 (ap4 (sT S) a) b) c) d) e).1 ≤ 240 := h
    exact ap4_ok (ap4_ok (ap4_ok (ap4_ok (ap4_ok hw.1 (by omega)) (by omega)) (by omega)) (by omega)) h'
  · exact hw
theorem fdA_l {a b c d e : Int32} : sL (fdA S a b c d e).2 = sL S := by unfold fdA; split <;> rfl
theorem feed_c (h : Sh σ) (hr : RC σ S) (hw : WS S) (hN : 300 ≤ N) (a b c d e : Int32) : OkC σ (fdA S a b c d e).2 (fdA S a b c d e).1 (fc11_feed N 0 a b c d e σ) := by
  have q0 : ∀ τ : Me, Sh τ → qR τ 11 0 (some 0) = some (some 1) := fun τ hτ => by simp only [qR, PK hτ, bnd]
  have d1 : ∀ τ : Me, Sh τ → dr τ (some 1) (.inl 10) = some 1 := fun τ hτ => (PR hτ).1
  have hs := fdT_1 (sT S) a b c d e
  have k1 := c4B_le a
  have k2 := c4B_le b
  have k3 := c4B_le c
  have k4 := c4B_le d
  have k5 := c4B_le e
  have h240 := hw.1.1
  have es : nI (sT S).1 + ((((nI (c4B a) + nI (c4B b)) + nI (c4B c)) + nI (c4B d)) + nI (c4B e)) = nI (fdT (sT S) a b c d e).1 := by
    rw [nI_add, nI_add, nI_add, nI_add, nI_add, hs]
  rw [fc11_feed, sgn_c a hN, bnd, sgn_c b hN, bnd, sgn_c c hN, bnd, sgn_c d hN, bnd, sgn_c e hN, bnd, q0 σ h, bnd, tq1 h hr.1, bnd, es]
  unfold fdA
  by_cases cc : (fdT (sT S) a b c d e).1 ≤ 240
  · have e1 := ap4_1 (sT S) a
    have e2 := ap4_1 (ap4 (sT S) a) b
    have e3 := ap4_1 (ap4 (ap4 (sT S) a) b) c
    have e4 := ap4_1 (ap4 (ap4 (ap4 (sT S) a) b) c) d
    have e5 := ap4_1 (ap4 (ap4 (ap4 (ap4 (sT S) a) b) c) d) e
    have h' : (ap4 (ap4 (ap4 (ap4 (ap4 (sT S) a) b) c) d) e).1 ≤ 240 := cc
    obtain ⟨σ1, a1, a2, a3, a4⟩ := put_c (N := N) a h hr.1 (by omega) hN
    obtain ⟨σ2, b1, b2, b3, b4⟩ := put_c (N := N) b a2 a4 (by omega) hN
    obtain ⟨σ3, c1, c2, c3, c4⟩ := put_c (N := N) c b2 b4 (by omega) hN
    obtain ⟨σ4, d1', d2, d3, d4⟩ := put_c (N := N) d c2 c4 (by omega) hN
    obtain ⟨σ5, f1, f2, f3, f4⟩ := put_c (N := N) e d2 d4 h' hN
    have fr : Fr tpX σ σ5 := (((a3.tr b3).tr c3).tr d3).tr f3
    have hT5 : TpC σ5 (fdT (sT S) a b c d e) := f4
    rw [if_pos cc, if_pos (show nI (fdT (sT S) a b c d e).1 ≤ (240 : Int32) from nI_le cc (by decide)), bnd, d1 σ h, bnd, a1, bnd, q0 σ1 a2, bnd, d1 σ1 a2, bnd, b1, bnd, q0 σ2 b2, bnd, d1 σ2 b2, bnd, c1, bnd, q0 σ3 c2, bnd, d1 σ3 c2, bnd, d1', bnd, q0 σ4 d2, bnd, d1 σ4 d2, bnd, f1, bnd, q0 σ5 f2, bnd, tq1 f2 hT5, bnd]
    exact OkC.of rfl f2 (hr.tp fr hT5 hw) (fr.mono (fun _ _ e => tpX_l e))
  · rw [if_neg cc, if_neg (show ¬ nI (fdT (sT S) a b c d e).1 ≤ (240 : Int32) from nI_ge (show 240 < _ by omega) (by omega))]
    exact OkC.of rfl h hr (Fr.rf _ _)
theorem feed_m (h : Sh σ) (hr : RM σ S) (hw : WS S) (hN : 300 ≤ N) (a b c d e : Int32) : OkM σ (fdA S a b c d e).2 (fdA S a b c d e).1 (fc12_feed N 60 a b c d e σ) := by
  have h0 : Sh (setI σ 60 0 0) := h
  have hr0 := hr.th hw
  have f0 : Fr tmX σ (setI σ 60 0 0) := fr_I rfl (Fr.rf _ _)
  have hs := fdT_1 (sT S) a b c d e
  have k1 := c4B_le a
  have k2 := c4B_le b
  have k3 := c4B_le c
  have k4 := c4B_le d
  have k5 := c4B_le e
  have h240 := hw.1.1
  have es : ((((nI (sT S).1 + nI (c4B a)) + nI (c4B b)) + nI (c4B c)) + nI (c4B d)) + nI (c4B e) = nI (fdT (sT S) a b c d e).1 := by
    rw [nI_add, nI_add, nI_add, nI_add, nI_add, hs]
    congr 1
    omega
  rw [fc12_feed, th0 h, bnd, mq h0 hr0.1.1, bnd, sgn_m a hN, bnd, sgn_m b hN, bnd, sgn_m c hN, bnd, sgn_m d hN, bnd, sgn_m e hN, bnd, es]
  unfold fdA
  by_cases cc : (fdT (sT S) a b c d e).1 ≤ 240
  · have e1 := ap4_1 (sT S) a
    have e2 := ap4_1 (ap4 (sT S) a) b
    have e3 := ap4_1 (ap4 (ap4 (sT S) a) b) c
    have e4 := ap4_1 (ap4 (ap4 (ap4 (sT S) a) b) c) d
    have e5 := ap4_1 (ap4 (ap4 (ap4 (ap4 (sT S) a) b) c) d) e
    have h' : (ap4 (ap4 (ap4 (ap4 (ap4 (sT S) a) b) c) d) e).1 ≤ 240 := cc
    obtain ⟨σ1, a1, a2, a3, a4⟩ := put_m (N := N) a h0 hr0.1 (by omega) hN
    obtain ⟨σ2, b1, b2, b3, b4⟩ := put_m (N := N) b a2 a4 (by omega) hN
    obtain ⟨σ3, c1, c2, c3, c4⟩ := put_m (N := N) c b2 b4 (by omega) hN
    obtain ⟨σ4, d1', d2, d3, d4⟩ := put_m (N := N) d c2 c4 (by omega) hN
    obtain ⟨σ5, f1, f2, f3, f4⟩ := put_m (N := N) e d2 d4 h' hN
    have fr : Fr tmX σ σ5 := f0.tr ((((a3.tr b3).tr c3).tr d3).tr f3)
    have hT5 : TpM σ5 (fdT (sT S) a b c d e) := f4
    rw [if_pos cc, if_pos (show nI (fdT (sT S) a b c d e).1 ≤ (240 : Int32) from nI_le cc (by decide)), d60 h0, bnd, a1, bnd, d60 a2, bnd, b1, bnd, d60 b2, bnd, c1, bnd, d60 c2, bnd, d1', bnd, d60 d2, bnd, f1, bnd, mq f2 hT5.1, bnd]
    exact ⟨σ5, rfl, f2, hr.tp fr hT5 hw, fr.mono (fun _ _ e => tmX_l e)⟩
  · rw [if_neg cc, if_neg (show ¬ nI (fdT (sT S) a b c d e).1 ≤ (240 : Int32) from nI_ge (show 240 < _ by omega) (by omega))]
    exact ⟨_, rfl, h0, hr0, f0.mono (fun _ _ e => tmX_l e)⟩
theorem end_c (h : Sh σ) (hr : RC σ S) (hw : WS S) {n : Nat} (hn : n ≤ (sT S).1) : OkC σ (withT S (n, (sT S).2)) 1 (fc11_end N 0 (nI n) σ) := by
  have h240 := hw.1.1
  have q0 : qR σ 11 0 (some 0) = some (some 1) := by simp only [qR, PK h, bnd]
  have p1 : pI σ 10 1 (some 1) (nI n) = some (setI σ 1 1 (nI n)) := by simp only [pI, PR h, bnd]
  have fr : Fr tpX σ (setI σ 1 1 (nI n)) := fr_I rfl (Fr.rf _ _)
  rw [fc11_end, if_neg (nI_pos (by omega)), q0, bnd, tq1 h hr.1, bnd, if_pos (nI_le hn (by omega)), bnd, p1, bnd, retZ1]
  exact OkC.of rfl (fr.sh tpX_f h) (hr.tp fr ⟨mi_eq _ _ _ _, fun k hk => by rw [mi_ne _ _ (by omega)]; exact hr.1.2 k (by have : k < n := hk; omega)⟩ hw) (fr.mono (fun _ _ e => tpX_l e))
theorem end_cn (h : Sh σ) (hr : RC σ S) (hw : WS S) {x : Int32} (hx : ¬ ∃ n : Nat, n ≤ (sT S).1 ∧ x = nI n) : fc11_end N 0 x σ = some (0, σ) := by
  have h240 := hw.1.1
  have q0 : qR σ 11 0 (some 0) = some (some 1) := by simp only [qR, PK h, bnd]
  rw [fc11_end]
  by_cases c : x < 0
  · rw [if_pos c, retZ0]
  · obtain ⟨j, hj, rfl⟩ := nI_of c
    have : (sT S).1 < j := by
      rcases Nat.lt_or_ge (sT S).1 j with q | q
      · exact q
      · exact absurd ⟨j, q, rfl⟩ hx
    rw [if_neg c, q0, bnd, tq1 h hr.1, bnd, if_neg (nI_ge this hj), retZ0]
theorem end_m (h : Sh σ) (hr : RM σ S) (hw : WS S) {n : Nat} (hn : n ≤ (sT S).1) : OkM σ (withT S (n, (sT S).2)) 1 (fc12_end N 60 (nI n) σ) := by
  have h240 := hw.1.1
  have h0 : Sh (setI σ 60 0 0) := h
  have hr0 := hr.th hw
  have fr : Fr tmX σ (setI (setI σ 60 0 0) 60 6 (nI n)) := fr_I rfl (fr_I rfl (Fr.rf _ _))
  rw [fc12_end, th0 h, bnd, if_neg (nI_pos (by omega)), mq h0 hr0.1.1, bnd, if_pos (nI_le hn (by omega)), mp h0, bnd, retZ1]
  exact ⟨_, rfl, fr.sh tmX_f h, hr.tp fr ⟨mi_eq _ _ _ _, fun k hk => by rw [mi_ne _ _ (by omega), mi_ne _ _ (by omega)]; exact hr.1.2 k (by have : k < n := hk; omega)⟩ hw, fr.mono (fun _ _ e => tmX_l e)⟩
theorem end_mn (h : Sh σ) (hr : RM σ S) (hw : WS S) {x : Int32} (hx : ¬ ∃ n : Nat, n ≤ (sT S).1 ∧ x = nI n) : fc12_end N 60 x σ = some (0, setI σ 60 0 0) := by
  have h240 := hw.1.1
  have h0 : Sh (setI σ 60 0 0) := h
  have hr0 := hr.th hw
  rw [fc12_end, th0 h, bnd]
  by_cases c : x < 0
  · rw [if_pos c, retZ0]
  · obtain ⟨j, hj, rfl⟩ := nI_of c
    have : (sT S).1 < j := by
      rcases Nat.lt_or_ge (sT S).1 j with q | q
      · exact q
      · exact absurd ⟨j, q, rfl⟩ hx
    rw [if_neg c, mq h0 hr0.1.1, bnd, if_neg (nI_ge this hj), retZ0]
theorem OkM.th0 (h : Sh σ) (hr : RM σ S) (hw : WS S) (v : Int32) : OkM σ S v (some (v, setI σ 60 0 0)) := ⟨_, rfl, h, hr.th hw, fr_I rfl (Fr.rf _ _)⟩
theorem text_m (h : Sh σ) (hr : RM σ S) (hw : WS S) (hN : 300 ≤ N) (la : Nat) {k : Nat} (hk : k ≤ 2) : OkM σ (txA S la k).2 (txA S la k).1 (fc12_text N 60 (nI k) σ) := by
  have h0 : Sh (setI σ 60 0 0) := h
  have hr0 := hr.th hw
  have f0 : Fr mlS σ (setI σ 60 0 0) := fr_I rfl (Fr.rf _ _)
  obtain ⟨σ1, a1, a2, a3, a4⟩ := flt_m (N := N) h0 hr0 hw hN hk
  have h1 := a2.sh ftX_f h0
  have hr1 := hr0.ft a2 hw
  have f1 : Fr mlS σ σ1 := f0.tr (a2.mono (fun _ _ e => ftX_l e))
  have e6 : mi σ1 60 6 = nI (sT S).1 := hr1.1.1
  have h2 : Sh (setI σ1 60 6 0) := h1
  have e43 : fc12_text_43 N (some 60) (nI k) (setI σ 60 0 0) = if fltA (sT S) k = (-1 : Int32) then (if nI k = (1 : Int32) then fc12_text_71 N N (some 60) (nI (sT S).1) (0 : Int32) (setI σ1 60 6 0) else if nI k = (2 : Int32) then fc12_text_137 N N (some 60) (0 : Int32) (setI σ1 60 6 0) else (qI (setI σ1 60 6 0) 12 25 (some 60)).bind fun v207 => (pI (setI σ1 60 6 0) 12 24 (some 60) v207).bind fun σ210 => fc12_text_215 N N (some 60) (0 : Int32) σ210) else some (-1, σ1) := by
    rw [fc12_text_43, d60 h0, bnd, a1, bnd]
    by_cases c : fltA (sT S) k = (-1 : Int32)
    · rw [if_pos c, if_pos c, mq h1 e6, bnd, mp h1, bnd]
    · rw [if_neg c, if_neg c]
  have fail : txS S la k = none → fltA (sT S) k ≠ -1 → OkM σ (txA S la k).2 (txA S la k).1 (fc12_text_43 N (some 60) (nI k) (setI σ 60 0 0)) := fun e c => by
    rw [e43, if_neg c]
    unfold txA
    rw [e]
    exact ⟨σ1, rfl, h1, hr1, f1⟩
  have full : txS S la k = none → OkM σ (txA S la k).2 (txA S la k).1 (some (-1, setI σ 60 0 0)) := fun e => by
    unfold txA
    rw [e]
    exact OkM.th0 h hr hw _
  have : k = 0 ∨ k = 1 ∨ k = 2 := by omega
  rw [fc12_text, th0 h, bnd, in0_2_y (Nat.zero_le _) hk, bnd, if_neg one_z]
  rcases this with rfl | rfl | rfl
  · have ef : fltA (sT S) 0 = (match pPlain (sT S) with
      | .inl f => nI f
      | .inr _ => -1) := rfl
    have et : txS S la 0 = (match pPlain (sT S) with
      | .inl _ => none
      | .inr D => some (nI D.2.2.1, plS S D)) := rfl
    have hg := pPlain_gd (sT S)
    have h240 := hw.1.1
    rw [if_neg (show ¬ nI 0 = (1 : Int32) by decide), fc12_text_30, if_neg (show ¬ nI 0 = (2 : Int32) by decide)]
    cases hp : pPlain (sT S) with
    | inl f =>
      rw [hp] at ef et hg
      have hf : f ≤ (sT S).1 := hg
      exact fail et (by rw [ef]; exact nI_m1 (by omega))
    | inr D =>
      rw [hp] at ef et hg
      obtain ⟨σ2, b1, b2, b3, b4⟩ := mplain_m (N := N) h1 hr1 hw (a3 rfl D hp) hg.1 hN
      rw [e43, if_pos ef, if_neg (show ¬ nI 0 = (1 : Int32) by decide), if_neg (show ¬ nI 0 = (2 : Int32) by decide), b1]
      unfold txA
      rw [et]
      exact ⟨σ2, rfl, b2, b3, f1.tr b4⟩
  · have ef : fltA (sT S) 1 = (match pLaw (sT S) with
      | .inl f => nI f
      | .inr _ => -1) := rfl
    have et : txS S la 1 = (match pLaw (sT S) with
      | .inl _ => none
      | .inr z => if (sL S).length < 4 then some (nI (sL S).length, lwS S la z.2) else none) := rfl
    have hg := pLaw_gd (sT S)
    have h240 := hw.1.1
    have h4 := hw.2.1
    have q7 : mi (setI σ 60 0 0) 60 7 = nI (sL S).length := hr0.2.1.1
    rw [if_pos (show nI 1 = (1 : Int32) from rfl), mq h0 q7, bnd]
    by_cases c4 : (sL S).length < 4
    · have n4 : ¬ nI (sL S).length = (4 : Int32) := fun w => by have := (nI_eq (b := 4) (by omega) (by decide)).mp w; omega
      rw [if_neg n4, fc12_text_30, if_neg (show ¬ nI 1 = (2 : Int32) by decide)]
      cases hp : pLaw (sT S) with
      | inl f =>
        rw [hp] at ef et hg
        have hf : f ≤ (sT S).1 := hg
        exact fail et (by rw [ef]; exact nI_m1 (by omega))
      | inr z =>
        rw [hp] at ef et hg
        obtain ⟨σ2, b1, b2, b3, b4⟩ := mlaw_m (N := N) (la := la) (C := z.2) h1 hr1 hw c4 hN
        rw [e43, if_pos ef, if_pos (show nI 1 = (1 : Int32) from rfl), b1]
        have et : txS S la 1 = some (nI (sL S).length, lwS S la z.2) := by rw [et]; exact if_pos c4
        unfold txA
        rw [et]
        exact ⟨σ2, rfl, b2, b3, f1.tr b4⟩
    · rw [if_pos (show nI (sL S).length = (4 : Int32) by rw [show (sL S).length = 4 by omega]; rfl)]
      refine full ?_
      rw [et]
      cases pLaw (sT S) with
      | inl f => rfl
      | inr z => exact if_neg c4
  · have ef : fltA (sT S) 2 = (match pPlan (sT S) with
      | .inl f => nI f
      | .inr _ => -1) := rfl
    have et : txS S la 2 = (match pPlan (sT S) with
      | .inl _ => none
      | .inr l => if (sP S).length < 4 then some (nI (sP S).length, pnS S la l) else none) := rfl
    have hg := pPlan_gd (sT S)
    have h240 := hw.1.1
    have h4 := hw.2.2.2.2.1
    have q7 : mi (setI σ 60 0 0) 60 26 = nI (sP S).length := hr0.2.2.1.1
    rw [if_neg (show ¬ nI 2 = (1 : Int32) by decide), fc12_text_30, if_pos (show nI 2 = (2 : Int32) from rfl), mq h0 q7, bnd]
    by_cases c4 : (sP S).length < 4
    · have n4 : ¬ nI (sP S).length = (4 : Int32) := fun w => by have := (nI_eq (b := 4) (by omega) (by decide)).mp w; omega
      rw [if_neg n4]
      cases hp : pPlan (sT S) with
      | inl f =>
        rw [hp] at ef et hg
        have hf : f ≤ (sT S).1 := hg
        exact fail et (by rw [ef]; exact nI_m1 (by omega))
      | inr l =>
        rw [hp] at ef et hg
        obtain ⟨x1, x2⟩ := a4 rfl l hp
        obtain ⟨σ2, b1, b2, b3, b4⟩ := mpl_m (N := N) (pa := la) h1 hr1 hw hg.2.1 x1 x2 c4 hN
        rw [e43, if_pos ef, if_neg (show ¬ nI 2 = (1 : Int32) by decide), if_pos (show nI 2 = (2 : Int32) from rfl), b1]
        have et : txS S la 2 = some (nI (sP S).length, pnS S la l) := by rw [et]; exact if_pos c4
        unfold txA
        rw [et]
        exact ⟨σ2, rfl, b2, b3, f1.tr b4⟩
    · rw [if_pos (show nI (sP S).length = (4 : Int32) by rw [show (sP S).length = 4 by omega]; rfl)]
      refine full ?_
      rw [et]
      cases pPlan (sT S) with
      | inl f => rfl
      | inr z => exact if_neg c4
theorem text_mn (h : Sh σ) {x : Int32} (hx : ¬ ∃ k : Nat, k ≤ 2 ∧ x = nI k) : fc12_text N 60 x σ = some (-1, setI σ 60 0 0) := by
  rw [fc12_text, th0 h, bnd, in0_2_n (fun ⟨j, _, h1, h2⟩ => hx ⟨j, h1, h2⟩), bnd, if_pos rfl]
end YX
