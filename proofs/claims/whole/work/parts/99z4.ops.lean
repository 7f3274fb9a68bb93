/-! an operation: both sides answer the same and go on standing for the same -/
section OPS
variable {σ : Me} {S : Sy}
def Op (σ : Me) (C M : Me → Option (Int32 × Me)) : Prop := ∃ (v : Int32) (σ1 σ2 : Me) (S' : Sy), C σ = some (v, σ1) ∧ Sh σ1 ∧ M σ1 = some (v, σ2) ∧ Iv σ2 S' ∧ mz σ2 ≤ mz σ + 4
theorem Iv.sh (I : Iv σ S) : Sh σ := I.1
theorem Iv.rc (I : Iv σ S) : RC σ S := I.2.1
theorem Iv.rm (I : Iv σ S) : RM σ S := I.2.2.1
theorem Iv.ws (I : Iv σ S) : WS S := I.2.2.2.1
theorem Iv.lx (I : Iv σ S) : LX (sL S) := I.2.2.2.2
theorem Iv.qc (I : Iv σ S) (h0 : pn (sQ S) ≠ 0) : Qc 10000 σ (sQ S) (sR S) (sq S) (sB S) := Qc_of I.sh I.rc I.ws h0 (by omega)
theorem Iv.qm (I : Iv σ S) (h0 : pn (sQ S) ≠ 0) {σ1 : Me} (h : Sh σ1) (r : RM σ1 S) : Qm 10000 σ1 S := Qm_of h r I.ws I.lx h0 (by omega)
theorem Iv.n (I : Iv σ S) : mi σ 19 5 = nI (pn (sQ S)) := I.rc.2.2.2.2.1.1.1
variable {C M : Me → Option (Int32 × Me)} {v : Int32}
theorem op_o (I : Iv σ S) {S' : Sy} (c : OkC σ S' v (C σ)) (hw : WS S') (hx : LX (sL S')) (m : ∀ σ1, Sh σ1 → RM σ1 S → OkM σ1 S' v (M σ1)) : Op σ C M := by
  obtain ⟨σ1, e1, h1, r1, k1, z1⟩ := c
  obtain ⟨σ2, e2, h2, r2, f2⟩ := m σ1 h1 (k1 S I.ws I.rm)
  exact ⟨v, σ1, σ2, S', e1, h1, e2, ⟨h2, r1.ml f2 hw, r2, hw, hx⟩, by rw [f2.2.1]; exact z1⟩
theorem OkC.cl {S' : Sy} {o : Option (Int32 × Me)} (I : Iv σ S) (c : ∃ σ' : Me, o = some (v, σ') ∧ Sh σ' ∧ Fr clS σ σ' ∧ RC σ' S' ∧ WS S') : OkC σ S' v o := by
  obtain ⟨σ', e, h, f, r, -⟩ := c
  exact ⟨σ', e, h, r, fun S0 w0 m0 => m0.cl f w0, by rw [f.2.1]; omega⟩
theorem OkC.hx {S' : Sy} {o : Option (Int32 × Me)} {b : Nat} (I : Iv σ S) (c : ∃ σ' : Me, o = some (v, σ') ∧ Sh σ' ∧ Fr (hX b) σ σ' ∧ RC σ' S' ∧ WS S') : OkC σ S' v o := by
  obtain ⟨σ', e, h, f, r, w⟩ := c
  exact OkC.cl I ⟨σ', e, h, f.hc, r, w⟩
theorem OkC.q {o : Option (Int32 × Me)} (I : Iv σ S) (c : ∃ σ' : Me, o = some (v, σ') ∧ Fr (cX (sB S)) σ σ') : OkC σ S v o := by
  obtain ⟨σ', e, f⟩ := c
  exact OkC.cl I ⟨σ', e, f.sh (cX_f _) I.sh, f.ch.hc, I.rc.fr f (bOf_ok _ _) I.ws.n6, I.ws⟩
theorem OkC.r {o : Option (Int32 × Me)} (I : Iv σ S) (c : o = some (v, σ)) : OkC σ S v o := ⟨σ, c, I.sh, I.rc, fun _ _ m => m, by omega⟩
theorem OkM.a {σ1 : Me} {o : Option (Int32 × Me)} (h : Sh σ1) (r : RM σ1 S) (hw : WS S) (m : Am S σ1 v o) : OkM σ1 S v o := by
  obtain ⟨σ2, e, f, mm⟩ := m
  exact ⟨σ2, e, f.sh mX_f h, r.fr f hw mm, f.mh.ml⟩
theorem OkM.h {S' : Sy} {σ1 : Me} {o : Option (Int32 × Me)} (m : ∃ σ' : Me, o = some (v, σ') ∧ Sh σ' ∧ Fr mhX σ1 σ' ∧ RM σ' S') : OkM σ1 S' v o := by
  obtain ⟨σ2, e, h, f, r⟩ := m
  exact ⟨σ2, e, h, r, f.ml⟩
theorem OkM.e {σ1 : Me} {o : Option (Int32 × Me)} (h : Sh σ1) (r : RM σ1 S) (hw : WS S) (m : o = some (v, setI σ1 60 0 0)) : OkM σ1 S v o := by
  rw [m]; exact OkM.th0 h r hw v
/-- a question with a good argument -/
theorem op_q (I : Iv σ S) (c : ∃ σ' : Me, C σ = some (v, σ') ∧ Fr (cX (sB S)) σ σ') (m : ∀ σ1, Sh σ1 → RM σ1 S → Am S σ1 v (M σ1)) : Op σ C M :=
  op_o I (OkC.q I c) I.ws I.lx (fun σ1 h r => OkM.a h r I.ws (m σ1 h r))
/-- nothing done -/
theorem op_n (I : Iv σ S) (c : C σ = some (v, σ)) (m : ∀ σ1, Sh σ1 → RM σ1 S → M σ1 = some (v, setI σ1 60 0 0)) : Op σ C M :=
  op_o I (OkC.r I c) I.ws I.lx (fun σ1 h r => OkM.e h r I.ws (m σ1 h r))
/-- an act -/
theorem op_h (I : Iv σ S) {b : Nat} {S' : Sy} (c : ∃ σ' : Me, C σ = some (v, σ') ∧ Sh σ' ∧ Fr (hX b) σ σ' ∧ RC σ' S' ∧ WS S') (hl : sL S' = sL S) (m : ∀ σ1, Sh σ1 → RM σ1 S → ∃ σ' : Me, M σ1 = some (v, σ') ∧ Sh σ' ∧ Fr mhX σ1 σ' ∧ RM σ' S') : Op σ C M :=
  op_o I (OkC.hx I c) (by obtain ⟨_, _, _, _, _, w⟩ := c; exact w) (by rw [hl]; exact I.lx) (fun σ1 h r => OkM.h (m σ1 h r))
theorem nn0 {x : Int32} {n : Nat} (h : ¬ ∃ j : Nat, n ≠ 0 ∧ j ≤ 99 ∧ x = nI j) : n = 0 ∨ x < 0 ∨ nI 100 ≤ x := by
  by_cases h0 : n = 0
  · exact .inl h0
  · rcases nix x (n := 100) (by decide) with h1 | ⟨j, hj, e⟩
    · exact .inr h1
    · exact absurd ⟨j, h0, by omega, e⟩ h
theorem sL_pf {p : Nat → Nat × Nat × Int32} : ∀ (m i : Nat) (S : Sy), sL (pfN p m i S).2 = sL S
  | 0, _, _ => rfl
  | m + 1, i, S => by
    rw [pfN]
    split
    · rw [sL_pf m (i + 1) (spS S (p i))]
      unfold spS; split <;> rfl
    · rfl
theorem sL_H (S : Sy) (r : Rw) (lg : Lg) (acts : List Rw) (img : Im) : sL (withH S r lg acts img) = sL S := rfl
theorem sL_s (S : Sy) (x : Int64) : sL (ysS S x) = sL S := by
  unfold ysS
  exact sL_H _ _ _ _ _
theorem sL_it (m : Nat) : ∀ p : Sy × Int64, sL (itN ysP m p).1 = sL p.1 := by
  induction m with
  | zero => intro p; rw [itN_0]
  | succ m ih =>
    intro p
    rw [itN_s, ih, ysP_eq]
    exact sL_s p.1 p.2
theorem sL_ys (m : Nat) (S : Sy) (x : Int64) : sL (ysN m S x) = sL S := sL_it m (S, x)
theorem o_feed (I : Iv σ S) (a b c d e : Int32) : Op σ (fc11_feed 10000 0 a b c d e) (fc12_feed 10000 60 a b c d e) := by
  exact op_o I (feed_c I.sh I.rc I.ws (by omega) a b c d e) (fdA_ok I.ws) (by rw [fdA_l]; exact I.lx) (fun σ1 h r => feed_m h r I.ws (by omega) a b c d e)
theorem o_end (I : Iv σ S) (x : Int32) : Op σ (fc11_end 10000 0 x) (fc12_end 10000 60 x) := by
  by_cases hx : ∃ n : Nat, n ≤ (sT S).1 ∧ x = nI n
  · obtain ⟨n, hn, rfl⟩ := hx
    exact op_o I (end_c I.sh I.rc I.ws hn) (withT_ok I.ws ⟨Nat.le_trans hn I.ws.1.1, fun k hk => I.ws.1.2 k (Nat.lt_of_lt_of_le hk hn)⟩) I.lx (fun σ1 h r => end_m h r I.ws hn)
  · exact op_n I (end_cn I.sh I.rc I.ws hx) (fun σ1 h r => end_mn h r I.ws hx)
theorem o_fault (I : Iv σ S) (x : Int32) : Op σ (fc11_fault 10000 0 x) (fc12_fault 10000 60 x) := by
  by_cases hx : ∃ k : Nat, k ≤ 2 ∧ x = nI k
  · obtain ⟨k, hk, rfl⟩ := hx
    obtain ⟨σ1, e, f⟩ := fault_c (N := 10000) I.sh I.rc I.ws (by omega) hk
    exact op_o I (OkC.cl I ⟨σ1, e, f.sh (cX_f _) I.sh, cX0_fr f, I.rc.fr f (.inl (by decide)) I.ws.n6, I.ws⟩) I.ws I.lx (fun σ1 h r => OkM.a h r I.ws (fault_m h r I.ws (by omega) hk))
  · exact op_n I (fault_n hx) (fun σ1 h r => fault_mn h hx)
theorem o_text (I : Iv σ S) (hz : mz σ + 4 < 1000000) (x : Int32) : Op σ (fc11_text 10000 0 x) (fc12_text 10000 60 x) := by
  by_cases hx : ∃ k : Nat, k ≤ 2 ∧ x = nI k
  · obtain ⟨k, hk, rfl⟩ := hx
    have t := txA_ok I.ws I.lx (la := mz σ) (k := k)
    exact op_o I (text_c I.sh I.rc I.ws (by omega) hz hk) t.1 t.2 (fun σ1 h r => text_m h r I.ws (by omega) (mz σ) hk)
  · exact op_n I (text_n hx) (fun σ1 h r => text_mn h hx)
theorem o_rule (I : Iv σ S) (x : Int32) : Op σ (fc11_rule 10000 0 x) (fc12_rule 10000 60 x) := by
  exact op_n I (rule_c I.sh I.rc I.ws x) (fun σ1 h r => rule_m h r I.ws x)
theorem o_all (I : Iv σ S) (x : Int32) : Op σ (fc11_all 10000 0 x) (fc12_all 10000 60 x) := by
  exact op_n I (all_c I.sh I.rc I.ws (by omega) x) (fun σ1 h r => all_m h r I.ws (by omega) x)
theorem o_count (I : Iv σ S) (x : Int32) : Op σ (fc11_count 10000 0 x) (fc12_count 10000 60 x) := by
  exact op_n I (count_c I.sh I.rc I.ws (by omega) x) (fun σ1 h r => count_m h r I.ws (by omega) x)
theorem o_law (I : Iv σ S) (x : Int32) : Op σ (fc11_law 10000 0 x) (fc12_law 10000 60 x) := by
  by_cases hx : ∃ hold : Option Nat, holdOK (sL S) hold ∧ x = oI hold
  · obtain ⟨hold, hh, rfl⟩ := hx
    obtain ⟨σ1, e, h1, f, r, w⟩ := law_c (N := 10000) I.sh I.rc I.ws hh
    refine op_o I (OkC.cl I ⟨σ1, e, h1, f, r, w⟩) w I.lx (fun σ1 h r => ?_)
    obtain ⟨σ2, e2, h2, f2, r2⟩ := law_m (N := 10000) h r I.ws hh
    exact ⟨σ2, e2, h2, r2, wfr_l f2⟩
  · exact op_n I (law_n I.sh I.rc I.ws hx) (fun σ1 h r => law_mn h r I.ws hx)
theorem o_heresy (I : Iv σ S) (x : Int32) : Op σ (fc11_heresy 10000 0 x) (fc12_heresy 10000 60 x) := by
  by_cases hx : ∃ v : Nat, v ≤ 9 ∧ v ≠ sE S ∧ x = nI v
  · obtain ⟨v, hv, hne, rfl⟩ := hx
    obtain ⟨σ1, e, h1, f, r, w⟩ := heresy_c (N := 10000) I.sh I.rc I.ws hv hne
    exact op_o I (OkC.cl I ⟨σ1, e, h1, f, r, w⟩) w I.lx (fun σ1 h r => heresy_m h r I.ws hv hne)
  · exact op_n I (heresy_n I.sh I.rc I.ws hx) (fun σ1 h r => heresy_mn h r I.ws hx)
theorem o_year (I : Iv σ S) (x : Int32) : Op σ (fc11_year 10000 0 x) (fc12_year 10000 60 x) := by
  by_cases hx : ∃ rain : Nat, rain ≤ 99 ∧ x = nI rain ∧ pn (sQ S) ≠ 0 ∧ rt (sR S) < 999
  · obtain ⟨rain, hr, rfl, h0, ht⟩ := hx
    obtain ⟨σ1, e, h1, f, r⟩ := year_c (N := 10000) I.sh I.rc I.ws h0 (by omega) hr ht
    exact op_h I ⟨σ1, e, h1, f, r, yrS_ok I.ws h0 ht⟩ rfl (fun σ1 h r => year_m (I.qm h0 h r) hr ht)
  · exact op_n I (year_n I.sh I.rc I.ws hx) (fun σ1 h r => year_mn h r I.ws hx)
theorem o_sell (I : Iv σ S) (x y z : Int32) : Op σ (fc11_sell 10000 0 x y z) (fc12_sell 10000 60 x y z) := by
  by_cases hx : ∃ i j m : Nat, i < pn (sQ S) ∧ j < pn (sQ S) ∧ i ≠ j ∧ 1 ≤ m ∧ m ≤ 20 ∧ saleB (sR S) i j m = true ∧ x = nI i ∧ y = nI j ∧ z = nI m
  · obtain ⟨i, j, m, hi, hj, hij, h1, hm, hs, rfl, rfl, rfl⟩ := hx
    exact op_h I (sell_c I.sh I.rc I.ws hi hj hij h1 hm hs) rfl (fun σ1 h r => sell_m h r I.ws (by omega) hi hj hij h1 hm hs)
  · exact op_n I (sell_n I.sh I.rc I.ws hx) (fun σ1 h r => sell_mn h r I.ws hx)
theorem o_forgive (I : Iv σ S) (x y : Int32) : Op σ (fc11_forgive 10000 0 x y) (fc12_forgive 10000 60 x y) := by
  by_cases hx : ∃ i m : Nat, i < pn (sQ S) ∧ 1 ≤ m ∧ m ≤ 20 ∧ m ≤ ro (sR S) i ∧ x = nI i ∧ y = nI m
  · obtain ⟨i, m, hi, h1, hm, hs, rfl, rfl⟩ := hx
    exact op_h I (forgive_c I.sh I.rc I.ws hi h1 hm hs (by omega)) rfl (fun σ1 h r => forgive_m h r I.ws (by omega) hi h1 hm hs)
  · exact op_n I (forgive_n I.sh I.rc I.ws hx) (fun σ1 h r => forgive_mn h r I.ws hx)
theorem o_hedge (I : Iv σ S) (x : Int32) : Op σ (fc11_hedge 10000 0 x) (fc12_hedge 10000 60 x) := by
  by_cases hx : ∃ i : Nat, i + 1 < pn (sQ S) ∧ hedgeB (sR S) i = true ∧ x = nI i
  · obtain ⟨i, hi, hs, rfl⟩ := hx
    exact op_h I (hedge_cc I.sh I.rc I.ws hi hs) rfl (fun σ1 h r => hedge_m h r I.ws (by omega) hi hs)
  · exact op_n I (hedge_n I.sh I.rc I.ws hx) (fun σ1 h r => hedge_mn h r I.ws hx)
theorem o_can (I : Iv σ S) (x : Int32) : Op σ (fc11_can 10000 0 x) (fc12_can 10000 60 x) := by
  by_cases hx : ∃ i : Nat, i < pn (sQ S) ∧ canB (sR S) i = true ∧ x = nI i
  · obtain ⟨i, hi, hs, rfl⟩ := hx
    exact op_h I (can_cc I.sh I.rc I.ws hi hs) rfl (fun σ1 h r => can_m h r I.ws (by omega) hi hs)
  · exact op_n I (can_n I.sh I.rc I.ws hx) (fun σ1 h r => can_mn h r I.ws hx)
theorem o_price (I : Iv σ S) (x : Int32) : Op σ (fc11_price 10000 0 x) (fc12_price 10000 60 x) := by
  by_cases hx : ∃ v : Nat, pn (sQ S) ≠ 0 ∧ v ≤ 30 ∧ v ≠ rp (sR S) ∧ x = nI v
  · obtain ⟨v, h0, hv, hne, rfl⟩ := hx
    exact op_h I (price_c I.sh I.rc I.ws h0 hv hne) rfl (fun σ1 h r => price_m h r I.ws (by omega) h0 hv hne)
  · exact op_n I (price_n I.sh I.rc I.ws hx) (fun σ1 h r => price_mn h r I.ws hx)
theorem o_years (I : Iv σ S) (y : Int32) (x : Int64) : Op σ (fc11_years 10000 0 y x) (fc12_years 10000 60 y x) := by
  by_cases hy : ∃ n : Nat, pn (sQ S) ≠ 0 ∧ 1 ≤ n ∧ n ≤ 60 ∧ rt (sR S) + n ≤ 999 ∧ y = nI n
  · obtain ⟨n, h0, h1, hn, ht, rfl⟩ := hy
    exact op_h I (years_c I.sh I.rc I.ws h0 (by omega) h1 hn ht x) (sL_ys n S x) (fun σ1 h r => years_m (I.qm h0 h r) h1 hn ht x)
  · exact op_n I (years_n I.sh I.rc I.ws hy x) (fun σ1 h r => years_mn h r I.ws hy x)
theorem o_undo (I : Iv σ S) : Op σ (fc11_undo 10000 0) (fc12_undo 10000 60) := by
  cases ha : sA S with
  | nil => exact op_n I (undo_n I.sh I.rc ha) (fun σ1 h r => undo_mn h r I.ws ha)
  | cons a as => exact op_h I (undo_c I.sh I.rc I.ws ha) rfl (fun σ1 h r => undo_m h r I.ws (by omega) ha)
theorem o_image (I : Iv σ S) : Op σ (fc11_image 10000 0) (fc12_image 10000 60) := by
  by_cases h0 : pn (sQ S) = 0
  · exact op_n I (image_n I.sh I.rc h0) (fun σ1 h r => image_mn h r I.ws h0)
  · exact op_h I (image_c I.sh I.rc I.ws h0) rfl (fun σ1 h r => image_m h r I.ws (by omega) h0)
theorem o_back (I : Iv σ S) : Op σ (fc11_back 10000 0) (fc12_back 10000 60) := by
  cases hp : sI S with
  | none => exact op_n I (back_n I.sh I.rc hp) (fun σ1 h r => back_mn h r I.ws hp)
  | some p => exact op_h I (back_c I.sh I.rc I.ws hp) rfl (fun σ1 h r => back_m h r I.ws (by omega) hp)
theorem o_log (I : Iv σ S) (x y : Int32) : Op σ (fc11_log 10000 0 x y) (fc12_log 10000 60 x y) := by
  by_cases hx : ∃ i w : Nat, i < min 60 (rt (sR S)) ∧ w ≤ 2 ∧ x = nI i ∧ y = nI w
  · obtain ⟨i, w, hi, hw, rfl, rfl⟩ := hx
    exact op_n I (log_c I.sh I.rc I.ws  hi hw) (fun σ1 h r => log_m h r I.ws  hi hw)
  · exact op_n I (log_n I.sh I.rc I.ws hx) (fun σ1 h r => log_mn h r I.ws hx)
theorem o_step (I : Iv σ S) (x y z : Int32) : Op σ (fc11_step 10000 0 x y z) (fc12_step 10000 60 x y z) := by
  by_cases hx : ∃ (k i w : Nat) (e : PnE), (sP S)[k]? = some e ∧ i < e.2.1 ∧ w ≤ 2 ∧ x = nI k ∧ y = nI i ∧ z = nI w
  · obtain ⟨k, i, w, e, he, hi, hw, rfl, rfl, rfl⟩ := hx
    exact op_n I (step_c I.sh I.rc I.ws  he hi hw) (fun σ1 h r => step_m h r I.ws  he hi hw)
  · exact op_n I (step_n I.sh I.rc I.ws hx) (fun σ1 h r => step_mn h r I.ws hx)
theorem o_shares (I : Iv σ S) (x y : Int32) : Op σ (fc11_shares 10000 0 x y) (fc12_shares 10000 60 x y) := by
  by_cases hx : ∃ f c : Nat, f < pn (sQ S) ∧ c ≤ 999 ∧ x = nI f ∧ y = nI c
  · obtain ⟨f, c, hf, hc, rfl, rfl⟩ := hx
    exact op_n I (shares_c I.sh I.rc I.ws (by omega) hf hc) (fun σ1 h r => shares_m h r I.ws (by omega) hf hc)
  · exact op_n I (shares_n I.sh I.rc I.ws hx) (fun σ1 h r => shares_mn h r I.ws hx)
theorem o_buyers (I : Iv σ S) (x : Int32) : Op σ (fc11_buyers 10000 0 x) (fc12_buyers 10000 60 x) := by
  by_cases hx : ∃ n : Nat, pn (sQ S) ≠ 0 ∧ 1 ≤ n ∧ n ≤ 20 ∧ x = nI n
  · obtain ⟨n, h0, h1, hn, rfl⟩ := hx
    exact op_n I (buyers_c I.sh I.rc I.ws (by omega) h0 h1 hn) (fun σ1 h r => buyers_m h r I.ws (by omega) h0 h1 hn)
  · exact op_n I (buyers_n I.sh I.rc I.ws hx) (fun σ1 h r => buyers_mn h r I.ws hx)
theorem o_run (I : Iv σ S) (x y : Int32) : Op σ (fc11_run 10000 0 x y) (fc12_run 10000 60 x y) := by
  by_cases hx : ∃ (k w : Nat) (e : PnE), (sP S)[k]? = some e ∧ pn (sQ S) ≠ 0 ∧ w ≤ 1 ∧ x = nI k ∧ y = nI w
  · obtain ⟨k, w, e, he, h0, hw, rfl, rfl⟩ := hx
    exact op_q I (run_c I.sh I.rc I.ws h0 (by omega) he hw) (fun σ1 h r => run_m (I.qm h0 h r) he hw)
  · exact op_n I (run_n I.sh I.rc I.ws hx) (fun σ1 h r => run_mn h r I.ws hx)
theorem o_perform (I : Iv σ S) (x : Int32) : Op σ (fc11_perform 10000 0 x) (fc12_perform 10000 60 x) := by
  by_cases hx : ∃ (k : Nat) (e : PnE), (sP S)[k]? = some e ∧ pn (sQ S) ≠ 0 ∧ x = nI k
  · obtain ⟨k, e, he, h0, rfl⟩ := hx
    exact op_h I (perform_c I.sh I.rc I.ws h0 (by omega) he) (sL_pf _ _ _) (fun σ1 h r => perform_m (I.qm h0 h r) he)
  · exact op_n I (perform_n I.sh I.rc I.ws hx) (fun σ1 h r => perform_mn h r I.ws hx)
theorem o_fell (I : Iv σ S) (x y z : Int32) (had : Bool) : Op σ (fc11_fell 10000 0 x y z (bI had)) (fc12_fell 10000 60 x y z (bI had)) := by
  by_cases hx : ∃ f rain v : Nat, f < pn (sQ S) ∧ rain < 100 ∧ v ≤ 99 ∧ (sF S).length < 10 ∧ x = nI f ∧ y = nI rain ∧ z = nI v
  · obtain ⟨f, rain, v, hf, hr, hv, hl, rfl, rfl, rfl⟩ := hx
    obtain ⟨σ1, e, h1, k, r, w⟩ := fell_c (N := 10000) I.sh I.rc I.ws hf (Nat.le_of_lt_succ hr) hv hl had
    exact op_o I (OkC.cl I ⟨σ1, e, h1, k, r, w⟩) w I.lx (fun σ1 h r => fell_m h r I.ws hf (Nat.le_of_lt_succ hr) hv hl had)
  · exact op_n I (fell_n I.sh I.rc I.ws hx) (fun σ1 h r => fell_mn h r I.ws hx)
theorem o_falls (I : Iv σ S) (x y : Int32) : Op σ (fc11_falls 10000 0 x y) (fc12_falls 10000 60 x y) := by
  by_cases hx : ∃ f j : Nat, f < pn (sQ S) ∧ j ≤ 99 ∧ x = nI f ∧ y = nI j
  · obtain ⟨f, j, hf, hj, rfl, rfl⟩ := hx
    have h0 : pn (sQ S) ≠ 0 := by omega
    exact op_q I (falls_c (I.qc h0) hf hj) (fun σ1 h r => falls_m (I.qm h0 h r) hf hj)
  · exact op_n I (falls_n I.sh I.n I.ws.n6 (fun ⟨f, j, a, b, c, d⟩ => hx ⟨f, j, a, by omega, c, d⟩)) (fun σ1 h r => falls_mn h r I.ws hx)
theorem o_drowns (I : Iv σ S) (x : Int32) : Op σ (fc11_drowns 10000 0 x) (fc12_drowns 10000 60 x) := by
  by_cases hx : ∃ j : Nat, pn (sQ S) ≠ 0 ∧ j ≤ 99 ∧ x = nI j
  · obtain ⟨j, h0, hj, rfl⟩ := hx
    exact op_q I (drowns_c (I.qc h0) hj) (fun σ1 h r => drowns_m (I.qm h0 h r) hj)
  · exact op_n I (drowns_n I.sh I.n I.ws.n6 (nn0 hx)) (fun σ1 h r => drowns_mn h r I.ws hx)
theorem o_harvest (I : Iv σ S) (x : Int32) : Op σ (fc11_harvest 10000 0 x) (fc12_harvest 10000 60 x) := by
  by_cases hx : ∃ j : Nat, pn (sQ S) ≠ 0 ∧ j ≤ 99 ∧ x = nI j
  · obtain ⟨j, h0, hj, rfl⟩ := hx
    exact op_q I (harvest_c (I.qc h0) hj) (fun σ1 h r => harvest_m (I.qm h0 h r) hj)
  · exact op_n I (harvest_n I.sh I.n I.ws.n6 (nn0 hx)) (fun σ1 h r => harvest_mn h r I.ws hx)
theorem o_together (I : Iv σ S) (x : Int32) : Op σ (fc11_together 10000 0 x) (fc12_together 10000 60 x) := by
  by_cases hx : ∃ j : Nat, pn (sQ S) ≠ 0 ∧ j ≤ 99 ∧ x = nI j
  · obtain ⟨j, h0, hj, rfl⟩ := hx
    exact op_q I (together_c (I.qc h0) hj) (fun σ1 h r => together_m (I.qm h0 h r) hj)
  · exact op_n I (together_n I.sh I.n I.ws.n6 (nn0 hx)) (fun σ1 h r => together_mn h r I.ws hx)
theorem o_turn (I : Iv σ S) (x : Int32) : Op σ (fc11_turn 10000 0 x) (fc12_turn 10000 60 x) := by
  rcases nix x (n := pn (sQ S)) (by have := I.ws.n6; omega) with hx | ⟨j, hj, rfl⟩
  · exact op_n I (turn_n I.sh I.n I.ws.n6 hx) (fun σ1 h r => turn_mn h r I.ws hx)
  · have h0 : pn (sQ S) ≠ 0 := by omega
    exact op_q I (turn_c (I.qc h0) hj ) (fun σ1 h r => turn_m (I.qm h0 h r) hj)
theorem o_forgiven (I : Iv σ S) (x : Int32) : Op σ (fc11_forgiven 10000 0 x) (fc12_forgiven 10000 60 x) := by
  rcases nix x (n := pn (sQ S)) (by have := I.ws.n6; omega) with hx | ⟨j, hj, rfl⟩
  · exact op_n I (forgiven_n I.sh I.n I.ws.n6 hx) (fun σ1 h r => forgiven_mn h r I.ws hx)
  · have h0 : pn (sQ S) ≠ 0 := by omega
    exact op_q I (forgiven_c (I.qc h0) hj (by omega)) (fun σ1 h r => forgiven_m (I.qm h0 h r) hj)
theorem o_safe (I : Iv σ S) : Op σ (fc11_safe 10000 0) (fc12_safe 10000 60) := by
  by_cases h0 : pn (sQ S) = 0
  · exact op_n I (safe_n I.sh (by rw [I.n, h0])) (fun σ1 h r => safe_mn h r I.ws h0)
  · exact op_q I (safe_c (I.qc h0)) (fun σ1 h r => safe_m (I.qm h0 h r))
theorem o_least (I : Iv σ S) (x y : Int32) : Op σ (fc11_least 10000 0 x y) (fc12_least 10000 60 x y) := by
  by_cases hx : ∃ j w : Nat, pn (sQ S) ≠ 0 ∧ j ≤ 99 ∧ w ≤ 1 ∧ x = nI j ∧ y = nI w
  · obtain ⟨j, w, h0, hj, hw, rfl, rfl⟩ := hx
    obtain ⟨σ1, o, e, f, l⟩ := least_c (I.qc h0) hj hw (by omega)
    refine op_q I ⟨σ1, e, f⟩ (fun σ1 h r => ?_)
    obtain ⟨o2, m2, l2⟩ := least_m (I.qm h0 h r) hj hw
    rw [LsR_uni l l2]; exact m2
  · exact op_n I (least_n I.sh I.n I.ws.n6 (fun ⟨j, w, a, b, c, d, e⟩ => hx ⟨j, w, by omega, by omega, c, d, e⟩)) (fun σ1 h r => least_mn h r I.ws hx)
theorem o_best (I : Iv σ S) (x y : Int32) : Op σ (fc11_best 10000 0 x y) (fc12_best 10000 60 x y) := by
  by_cases hx : ∃ j w : Nat, pn (sQ S) ≠ 0 ∧ j ≤ 99 ∧ w ≤ 1 ∧ x = nI j ∧ y = nI w
  · obtain ⟨j, w, h0, hj, hw, rfl, rfl⟩ := hx
    exact op_q I (best_c (I.qc h0) hj hw) (fun σ1 h r => best_m (I.qm h0 h r) hj hw)
  · exact op_n I (best_n I.sh I.n I.ws.n6 (fun ⟨j, w, a, b, c, d, e⟩ => hx ⟨j, w, by omega, by omega, c, d, e⟩)) (fun σ1 h r => best_mn h r I.ws hx)
theorem o_trades (I : Iv σ S) (x y : Int32) : Op σ (fc11_trades 10000 0 x y) (fc12_trades 10000 60 x y) := by
  by_cases hx : ∃ j : Nat, pn (sQ S) ≠ 0 ∧ j ≤ 99 ∧ x = nI j ∧ (-1 : Int32) ≤ y
  · obtain ⟨j, h0, hj, rfl, hy⟩ := hx
    exact op_q I (trades_c (I.qc h0) hj hy) (fun σ1 h r => trades_m (I.qm h0 h r) hj hy)
  · exact op_n I (trades_n I.sh I.n I.ws.n6 (fun ⟨j, a, b, c, d⟩ => hx ⟨j, by omega, by omega, c, d⟩)) (fun σ1 h r => trades_mn h r I.ws hx)
theorem o_debts (I : Iv σ S) (x y : Int32) : Op σ (fc11_debts 10000 0 x y) (fc12_debts 10000 60 x y) := by
  by_cases hx : ∃ f : Nat, f < pn (sQ S) ∧ x = nI f ∧ (-1 : Int32) ≤ y
  · obtain ⟨f, hf, rfl, hy⟩ := hx
    have h0 : pn (sQ S) ≠ 0 := by omega
    exact op_q I (debts_c (I.qc h0) hf I.rc.2.2.2.2.2 I.ws.2.2.2.2.2.2.2.2.1 I.ws.2.2.2.2.2.2.2.2.2 (by omega) hy) (fun σ1 h r => debts_m (I.qm h0 h r) hf hy)
  · exact op_n I (debts_n I.sh I.n I.ws.n6 (fun ⟨f, a, b, c⟩ => hx ⟨f, a, b, c⟩)) (fun σ1 h r => debts_mn h r I.ws hx)
theorem o_ask (I : Iv σ S) (x y : Int32) : Op σ (fc11_ask 10000 0 x y) (fc12_ask 10000 60 x y) := by
  by_cases hx : ∃ f v : Nat, f < pn (sQ S) ∧ v ≤ 99 ∧ x = nI f ∧ y = nI v
  · obtain ⟨f, v, hf, hv, rfl, rfl⟩ := hx
    have h0 : pn (sQ S) ≠ 0 := by omega
    exact op_q I (ask_c (I.qc h0) hf hv I.rc.2.2.2.2.2 I.ws.2.2.2.2.2.2.2.2.1 I.ws.2.2.2.2.2.2.2.2.2 (by omega)) (fun σ1 h r => ask_m (I.qm h0 h r) hf hv)
  · exact op_n I (ask_n I.sh I.n I.ws.n6 (fun ⟨f, v, a, b, c, d⟩ => hx ⟨f, v, a, b, c, d⟩)) (fun σ1 h r => ask_mn h r I.ws hx)
theorem o_game (I : Iv σ S) (x1 x2 x3 x4 x5 x6 : Int32) : Op σ (fc11_game 10000 0 x1 x2 x3 x4 x5 x6) (fc12_game 10000 60 x1 x2 x3 x4 x5 x6) := by
  by_cases hx : ∃ i j rain x y w : Nat, i < pn (sQ S) ∧ j < pn (sQ S) ∧ i ≠ j ∧ rain ≤ 99 ∧ x < 6 ∧ y < 6 ∧ w ≤ 1 ∧ x1 = nI i ∧ x2 = nI j ∧ x3 = nI rain ∧ x4 = nI x ∧ x5 = nI y ∧ x6 = nI w
  · obtain ⟨i, j, rain, x, y, w, hi, hj, hij, hr, hx, hy, hw, rfl, rfl, rfl, rfl, rfl, rfl⟩ := hx
    have h0 : pn (sQ S) ≠ 0 := by omega
    exact op_q I (game_c (I.qc h0) hi hj hij hr hx hy hw) (fun σ1 h r => game_m (I.qm h0 h r) hi hj hij hr hx hy hw)
  · exact op_n I (game_n I.sh I.n I.ws.n6 (fun ⟨i, j, rain, x, y, w, a, b, c, d, e⟩ => hx ⟨i, j, rain, x, y, w, a, b, c, by omega, e⟩)) (fun σ1 h r => game_mn h r I.ws hx)
theorem o_rests (I : Iv σ S) (x1 x2 x3 x4 : Int32) : Op σ (fc11_rests 10000 0 x1 x2 x3 x4) (fc12_rests 10000 60 x1 x2 x3 x4) := by
  by_cases hx : ∃ i j rain : Nat, i < pn (sQ S) ∧ j < pn (sQ S) ∧ i ≠ j ∧ rain ≤ 99 ∧ (-1 : Int32) ≤ x4 ∧ x1 = nI i ∧ x2 = nI j ∧ x3 = nI rain
  · obtain ⟨i, j, rain, hi, hj, hij, hr, h4, rfl, rfl, rfl⟩ := hx
    have h0 : pn (sQ S) ≠ 0 := by omega
    exact op_q I (rests_c (I.qc h0) hi hj hij hr h4) (fun σ1 h r => rests_m (I.qm h0 h r) hi hj hij hr h4)
  · exact op_n I (rests_n I.sh I.n I.ws.n6 (fun ⟨i, j, rain, a, b, c, d, e⟩ => hx ⟨i, j, rain, a, b, c, by omega, e⟩)) (fun σ1 h r => rests_mn h r I.ws hx)
theorem o_odds (I : Iv σ S) (x y z : Int32) : Op σ (fc11_odds 10000 0 x y z) (fc12_odds 10000 60 x y z) := by
  by_cases hx : ∃ f lo hi : Nat, f < pn (sQ S) ∧ lo ≤ hi ∧ hi ≤ 99 ∧ x = nI f ∧ y = nI lo ∧ z = nI hi
  · obtain ⟨f, lo, hi, hf, hlo, hhi, rfl, rfl, rfl⟩ := hx
    have h0 : pn (sQ S) ≠ 0 := by omega
    exact op_q I (odds_c (I.qc h0) hf hlo hhi) (fun σ1 h r => odds_m (I.qm h0 h r) hf hlo hhi)
  · exact op_n I (odds_n I.sh I.n I.ws.n6 (fun ⟨f, lo, hi, a, b, c, d⟩ => hx ⟨f, lo, hi, a, b, by omega, d⟩)) (fun σ1 h r => odds_mn h r I.ws hx)
theorem o_ahead (I : Iv σ S) (x y z : Int32) : Op σ (fc11_ahead 10000 0 x y z) (fc12_ahead 10000 60 x y z) := by
  by_cases hx : ∃ f m j : Nat, f < pn (sQ S) ∧ m ≤ 30 ∧ j ≤ 99 ∧ x = nI f ∧ y = nI m ∧ z = nI j
  · obtain ⟨f, m, j, hf, hm, hj, rfl, rfl, rfl⟩ := hx
    have h0 : pn (sQ S) ≠ 0 := by omega
    exact op_q I (ahead_c (I.qc h0) hf hm hj) (fun σ1 h r => ahead_m (I.qm h0 h r) hf hm hj)
  · exact op_n I (ahead_n I.sh I.n I.ws.n6 (fun ⟨f, m, j, a, b, c, d⟩ => hx ⟨f, m, j, a, b, by omega, d⟩)) (fun σ1 h r => ahead_mn h r I.ws hx)
theorem o_even (I : Iv σ S) (x y : Int32) : Op σ (fc11_even 10000 0 x y) (fc12_even 10000 60 x y) := by
  by_cases hx : ∃ f j : Nat, f < pn (sQ S) ∧ j ≤ 99 ∧ x = nI f ∧ y = nI j
  · obtain ⟨f, j, hf, hj, rfl, rfl⟩ := hx
    have h0 : pn (sQ S) ≠ 0 := by omega
    exact op_q I (even_c (I.qc h0) hf hj) (fun σ1 h r => even_m (I.qm h0 h r) hf hj)
  · exact op_n I (even_n I.sh I.n I.ws.n6 (fun ⟨f, j, a, b, c⟩ => hx ⟨f, j, a, by omega, c⟩)) (fun σ1 h r => even_mn h r I.ws hx)
end OPS
