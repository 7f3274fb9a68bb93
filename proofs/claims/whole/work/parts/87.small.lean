/-! years by draws, and what is there, in the class -/
def stir (x : Int64) : Int64 := x * (6364136223846793005 : Int64) + (1442695040888963407 : Int64)
def uxL (x : Int64) : Int64 := ((x).toUInt64 >>> (((33 : Int32)).toInt64.toUInt64 &&& Int64.toUInt64 63)).toInt64
def ux (x : Int64) : Nat := x.toBitVec.toNat / 2 ^ 33
theorem ux_lt (x : Int64) : ux x < 2 ^ 31 := by
  have h := x.toBitVec.isLt
  unfold ux
  omega
theorem uxL_eq (x : Int64) : uxL x = lN (ux x) := by
  apply Int64.toBitVec_inj.1
  apply BitVec.eq_of_toNat_eq
  have h := ux_lt x
  have e1 : (lN (ux x)).toBitVec.toNat = ux x := by
    show (BitVec.ofNat 64 (ux x)).toNat = ux x
    rw [BitVec.toNat_ofNat, Nat.mod_eq_of_lt (by omega)]
  rw [e1]
  show ((x).toUInt64 >>> (((33 : Int32)).toInt64.toUInt64 &&& Int64.toUInt64 63)).toBitVec.toNat = ux x
  have e2 : (((33 : Int32)).toInt64.toUInt64 &&& Int64.toUInt64 63) = (33 : UInt64) := by decide
  rw [e2]
  show (x.toBitVec >>> ((33 : UInt64).toBitVec % 64)).toNat = ux x
  have e3 : (33 : UInt64).toBitVec % 64 = 33#64 := by decide
  rw [e3, BitVec.ushiftRight_eq', BitVec.toNat_ushiftRight]
  show x.toBitVec.toNat >>> 33 = _
  rw [Nat.shiftRight_eq_div_pow]
  rfl
def drw (x : Int64) (m : Nat) : Nat := ux x % m
theorem drawn_c (N : Nat) (x : Int64) {m : Nat} (σ : Me) (h0 : 0 < m) (hm : m < 1000) : fc11_drawn N x (nI m) σ = some (nI (drw x m), σ) := by
  have hp : (0 : Int32) < nI m := by rw [y0]; exact nI_lt h0 (by omega)
  have e : rmL (uxL x) (Int32.toInt64 (nI m)) = some (lN (drw x m)) := by
    have h := ux_lt x
    unfold rmL
    rw [nI_l (by omega), uxL_eq]
    have n0 : ¬ lN m = 0 := by
      have := (lN_eq (a := m) (b := 0) (by omega) (by decide))
      intro e
      have e0 : (0 : Int64) = lN 0 := rfl
      rw [e0] at e
      exact absurd (this.mp e) (by omega)
    rw [if_neg n0, pk_lRem (by omega) h0 (by omega)]
    rfl
  unfold fc11_drawn
  rw [if_pos hp]
  show (rmL (uxL x) (Int32.toInt64 (nI m))).bind _ = _
  rw [e, bnd, lN_i]
section YS
variable {N : Nat} {σ : Me}
/-- a year by draws: the state, and what was drawn last -/
def doubt (S : Sy) (x : Int64) : Rw × Int64 := if drw (stir x) 10 < sE S then (rOwe (sR S) (drw (stir (stir x)) (pn (sQ S))) (ro (sR S) (drw (stir (stir x)) (pn (sQ S))) - ro (sR S) (drw (stir (stir x)) (pn (sQ S))) / 2), stir (stir x)) else (sR S, stir x)
def ysS (S : Sy) (x : Int64) : Sy := withH S (yrY (sQ S) (sq S) (doubt S x).1 (drw (stir (doubt S x).2) 100)) (updG (sG S) (rt (sR S)) (drw (stir (doubt S x).2) 100, bitsY (sQ S) (sq S) (doubt S x).1 (drw (stir (doubt S x).2) 100), borY (sQ S) (sq S) (doubt S x).1 (drw (stir (doubt S x).2) 100))) (psh (sR S) (sA S)) (sI S)
def itN {α : Type} (f : α → α) : Nat → α → α
  | 0, a => a
  | m + 1, a => itN f m (f a)
theorem itN_0 {α : Type} (f : α → α) (a : α) : itN f 0 a = a := rfl
theorem itN_s {α : Type} (f : α → α) (m : Nat) (a : α) : itN f (m + 1) a = itN f m (f a) := rfl
def ysP (p : Sy × Int64) : Sy × Int64 := (ysS p.1 p.2, stir (doubt p.1 p.2).2)
theorem ysP_eq (p : Sy × Int64) : ysP p = (ysS p.1 p.2, stir (doubt p.1 p.2).2) := by unfold ysP; rfl
def ysN (m : Nat) (S : Sy) (x : Int64) : Sy := (itN ysP m (S, x)).1
theorem drw_lt (x : Int64) {m : Nat} (h : 0 < m) : drw x m < m := Nat.mod_lt _ h
theorem doubt_rt (S : Sy) (x : Int64) : rt (doubt S x).1 = rt (sR S) := by
  unfold doubt
  split <;> rfl
theorem doubt_B {S : Sy} (x : Int64) (h : RwB (pn (sQ S)) (sR S)) (h0 : 0 < pn (sQ S)) : RwB (pn (sQ S)) (doubt S x).1 := by
  unfold doubt
  split
  · refine h.owe ?_
    have := (h.2.2 _ (drw_lt (stir (stir x)) h0)).1
    omega
  · exact h
theorem ysS_ok {S : Sy} {x : Int64} (hw : WS S) (h0 : pn (sQ S) ≠ 0) (ht : rt (sR S) < 999) : WS (ysS S x) := by
  obtain ⟨a1, a2, a3, a4, a5, a6, a7, a8⟩ := hw.hs.yes h0
  have e := doubt_rt S x
  refine hw.hs' (hw.hs.push h0 (RwB.yr (doubt_B x a3 (by omega)) (by omega)) ?_ ?_ ?_)
  · show rt (doubt S x).1 + 1 ≤ 999; omega
  · show rt (sR S) ≤ rt (doubt S x).1 + 1; omega
  · show rt (doubt S x).1 + 1 ≤ rt (sR S) + 1; omega
theorem set20 {P : Pl} {r : Rw} {f x : Nat} (hL : LdC σ 19 P r) : LdC (setI σ 20 f (nI x)) 19 P (rOwe r f x) := by
  obtain ⟨l5, l6, l7, l8, l9, lf⟩ := hL
  refine ⟨l5, l6, l7, l8, l9, fun k hk => ?_⟩
  obtain ⟨g1, g2, g3, g4, g5⟩ := lf k hk
  refine ⟨?_, g2, g3, g4, g5⟩
  rw [ro_owe]
  by_cases e : k = f
  · subst e; rw [if_pos rfl, mi_eq]
  · rw [if_neg e, mi_ne _ _ (by omega)]; exact g1
/-- what is drawn, as the machine draws it (numbers kept shut) -/
theorem ys_no {n k fu v E : Nat} {x x1 : Int64} {σ1 : Me} (h : Sh σ) (hk : k < n) (hn : n ≤ 60) (k1 : fc5_keep N 41 (some 19) σ = some ((), σ1)) (h1 : Sh σ1) (e9 : mi σ1 0 9 = nI E) (st1 : ∀ τ, fc11_stirred N x τ = some (x1, τ)) (dw1 : ∀ τ, fc11_drawn N x1 (nI 10) τ = some (nI v, τ)) (hv : v < 10) (c : E ≤ v) : fc11_years_44 N (fu + 1) (some 0) (nI n) x (nI k) σ = fc11_years_128 N (fc11_years_44 N fu) (some 0) (nI n) x1 (nI k) σ1 := by
  have r10 : qR σ 11 10 (some 0) = some (some 19) := by simp only [qR, PK h, bnd]
  have r14 : qR σ 11 14 (some 0) = some (some 41) := by simp only [qR, PK h, bnd]
  have d41 : dr σ (some 41) (.inl 5) = some 41 := by simp only [PK h]
  have q9 : qI σ1 11 9 (some 0) = some (nI E) := by simp only [qI, PK h1, bnd, e9]
  have hle : nI E ≤ nI v := nI_le c (by omega)
  rw [fc11_years_44, if_neg (nI_ge hk (by omega)), r14, bnd, r10, bnd, d41, bnd, k1, bnd, st1, bnd, y10, dw1, bnd, q9, bnd, if_pos hle]
theorem ys_yes {n k fu v E f m : Nat} {x x1 x2 : Int64} {σ1 : Me} {P : Pl} {r : Rw} (h : Sh σ) (hk : k < n) (hn : n ≤ 60) (k1 : fc5_keep N 41 (some 19) σ = some ((), σ1)) (h1 : Sh σ1) (e9 : mi σ1 0 9 = nI E) (hL : LdC σ1 19 P r) (hm : m = pn P) (h6 : pn P ≤ 6) (hR : RwB (pn P) r) (st1 : ∀ τ, fc11_stirred N x τ = some (x1, τ)) (dw1 : ∀ τ, fc11_drawn N x1 (nI 10) τ = some (nI v, τ)) (hE : E ≤ 9) (c : v < E) (st2 : ∀ τ, fc11_stirred N x1 τ = some (x2, τ)) (dw2 : ∀ τ, fc11_drawn N x2 (nI m) τ = some (nI f, τ)) (hf : f < pn P) : fc11_years_44 N (fu + 1) (some 0) (nI n) x (nI k) σ = fc11_years_128 N (fc11_years_44 N fu) (some 0) (nI n) x2 (nI k) (setI σ1 20 f (nI (ro r f - ro r f / 2))) := by
  subst hm
  have r10 : qR σ 11 10 (some 0) = some (some 19) := by simp only [qR, PK h, bnd]
  have r14 : qR σ 11 14 (some 0) = some (some 41) := by simp only [qR, PK h, bnd]
  have d41 : dr σ (some 41) (.inl 5) = some 41 := by simp only [PK h]
  have q9 : qI σ1 11 9 (some 0) = some (nI E) := by simp only [qI, PK h1, bnd, e9]
  have hle : ¬ nI E ≤ nI v := nI_ge c (by omega)
  have ef := (hL.2.2.2.2.2 f hf).1
  have eb := (hR.2.2 f hf).1
  have s1 := pk_sub (show ro r f / 2 ≤ ro r f by omega)
  have r10' : qR σ1 11 10 (some 0) = some (some 19) := by simp only [qR, PK h1, bnd]
  have q5 : qI σ1 2 5 (some 19) = some (nI (pn P)) := by simp only [qI, PK h1, bnd, hL.1]
  have q0 : qR σ1 2 0 (some 19) = some (some 20) := by simp only [qR, PK h1, bnd]
  have l20 : ldI σ1 (some 20) (nI f) = some (nI (ro r f)) := by simp (disch := omega) only [ldI_lo, A20 h1, bnd, nI_clamp, ef]
  have t20 : stI σ1 (some 20) (nI f) (nI (ro r f - ro r f / 2)) = some (setI σ1 20 f (nI (ro r f - ro r f / 2))) := by simp (disch := omega) only [stI, A20 h1, bnd, nI_clamp]
  have dv := dv_n (a := ro r f) (d := 2) (by omega) (by decide) (by decide)
  rw [fc11_years_44, if_neg (nI_ge hk (by omega)), r14, bnd, r10, bnd, d41, bnd, k1, bnd, st1, bnd, y10, dw1, bnd, q9, bnd, if_neg hle, st2, bnd, r10', bnd, q5, bnd, dw2, bnd]
  simp only [r10', bnd, q0, l20, y2, dv, s1, t20]
theorem ys_end {n k rain v : Nat} {x x3 : Int64} {σ2 σ3 : Me} {K : Option Nat → Int32 → Int64 → Int32 → Me → Option (Int32 × Me)} (h2 : Sh σ2) (st3 : ∀ τ, fc11_stirred N x τ = some (x3, τ)) (dw3 : ∀ τ, fc11_drawn N x3 (nI 100) τ = some (nI rain, τ)) (g1 : fc11_goBy N 0 (nI rain) σ2 = some (nI v, σ3)) : fc11_years_128 N K (some 0) (nI n) x (nI k) σ2 = K (some 0) (nI n) x3 (nI (k + 1)) σ3 := by
  have d0 : dr σ2 (some 0) (.inl 11) = some 0 := by simp only [PK h2]
  simp only [fc11_years_128, st3, bnd, y100, dw3, d0, g1, nI_1]
theorem doubt_eq (S : Sy) (x : Int64) : (drw (stir x) 10 < sE S → doubt S x = (rOwe (sR S) (drw (stir (stir x)) (pn (sQ S))) (ro (sR S) (drw (stir (stir x)) (pn (sQ S))) - ro (sR S) (drw (stir (stir x)) (pn (sQ S))) / 2), stir (stir x))) ∧ (¬ drw (stir x) 10 < sE S → doubt S x = (sR S, stir x)) := by
  unfold doubt
  exact ⟨fun c => if_pos c, fun c => if_neg c⟩
/-- one year by draws, numbers kept shut -/
theorem ys_one (hN : 300 ≤ N) {n k fu : Nat} {S : Sy} {x : Int64} (h : Sh σ) (hr : RC σ S) (hw : WS S) (h0 : pn (sQ S) ≠ 0) (ht : rt (sR S) < 999) (hk : k < n) (hn : n ≤ 60) (st : ∀ (y : Int64) (τ : Me), fc11_stirred N y τ = some (stir y, τ)) (dw : ∀ (y : Int64) (m : Nat) (τ : Me), 0 < m → m < 1000 → fc11_drawn N y (nI m) τ = some (nI (drw y m), τ)) :
    ∃ σ' : Me, fc11_years_44 N (fu + 1) (some 0) (nI n) x (nI k) σ = fc11_years_44 N fu (some 0) (nI n) (stir (doubt S x).2) (nI (k + 1)) σ' ∧ Sh σ' ∧ Fr (hX (sB S)) σ σ' ∧ RC σ' (ysS S x) := by
  obtain ⟨a1, a2, a3, a4, a5, a6, a7, a8⟩ := hw.hs.yes h0
  have b6 := a2.1
  have hE := hw.2.2.2.2.2.2.1
  obtain ⟨σ1, k1, k2, k3, k4, k5, k6, k7⟩ := keepH (N := N) h hr hw h0
  have hr1 : LwC σ1 (sL S) (sH S) := hr.2.1.fr k3 (b := sB S) (bOf_ok _ _) rfl rfl (fun _ => rfl) rfl (fun a j h1 _ => by simp [keS]; omega)
  have e9 : mi σ1 0 9 = nI (sE S) := by rw [k3.i rfl]; exact hr.2.2.2.1
  have hdr := doubt_rt S x
  have hdB := doubt_B x a3 (by omega)
  have hde := doubt_eq S x
  have hlt10 := drw_lt (stir x) (m := 10) (by decide)
  have mid : ∃ σ2 : Me, fc11_years_44 N (fu + 1) (some 0) (nI n) x (nI k) σ = fc11_years_128 N (fc11_years_44 N fu) (some 0) (nI n) (doubt S x).2 (nI k) σ2 ∧ Fr (fun a _ => a == 20) σ1 σ2 ∧ LdC σ2 19 (sQ S) (doubt S x).1 := by
    have hf := drw_lt (stir (stir x)) (m := pn (sQ S)) (by omega)
    have st1 := st x
    have dw1 := fun τ => dw (stir x) 10 τ (by decide) (by decide)
    have st2 := st (stir x)
    have dw2 := fun τ => dw (stir (stir x)) (pn (sQ S)) τ (by omega) (by omega)
    clear hdr hdB
    generalize doubt S x = D at hde ⊢
    generalize stir (stir x) = x2 at *
    generalize stir x = x1 at *
    generalize drw x1 10 = v at *
    generalize drw x2 (pn (sQ S)) = f at *
    by_cases c : v < sE S
    · rw [hde.1 c]
      exact ⟨_, ys_yes h hk hn k1 k2 e9 k4 rfl b6 a3 st1 dw1 hE c st2 dw2 hf, fr_I rfl (Fr.rf _ _), set20 k4⟩
    · rw [hde.2 c]
      exact ⟨σ1, ys_no h hk hn k1 k2 e9 st1 dw1 hlt10 (by omega), Fr.rf _ _, k4⟩
  obtain ⟨σ2, m1, m2, m3⟩ := mid
  have s2 : Sh σ2 := m2.sh (by
    have h : ∀ q ∈ rfL, (fun a _ : Nat => a == 20) q.1.1 q.1.2 = false := by decide +kernel
    exact h) k2
  have hr2 : LwC σ2 (sL S) (sH S) := hr1.fr m2 (b := sB S) (bOf_ok _ _) rfl rfl (fun _ => rfl) rfl (fun a j h1 _ => by simp; omega)
  have hlt := drw_lt (stir (doubt S x).2) (m := 100) (by decide)
  have st3 := st (doubt S x).2
  have dw3 := fun τ => dw (stir (doubt S x).2) 100 τ (by decide) (by decide)
  show ∃ σ' : Me, _ ∧ _ ∧ _ ∧ RC σ' (withH S (yrY (sQ S) (sq S) (doubt S x).1 (drw (stir (doubt S x).2) 100)) (updG (sG S) (rt (sR S)) (drw (stir (doubt S x).2) 100, bitsY (sQ S) (sq S) (doubt S x).1 (drw (stir (doubt S x).2) 100), borY (sQ S) (sq S) (doubt S x).1 (drw (stir (doubt S x).2) 100))) (psh (sR S) (sA S)) (sI S))
  generalize stir (doubt S x).2 = x3 at *
  generalize drw x3 100 = rain at *
  generalize (doubt S x).2 = x0 at *
  generalize (doubt S x).1 = r1 at *
  have q2 : Qc N σ2 (sQ S) r1 (sq S) (sB S) := ⟨s2, m3, a2, hdB, a1, by omega, pdX_of s2 hr2 hw.2.2.2.1 (fun k q e => (hw.2.2.1 k q e).2) hN, qOf_B _ _, hN⟩
  have hch := psh_chn (t := rt (sR S) + 1) a5 (by omega) (by omega)
  have k6' := k6.fr m2 (fun _ => ⟨rfl, rfl, rfl⟩)
  have k6'' : ChC σ2 37 (yb (rt (sR S)) (sA S) - 60) (rt r1) (sG S) := by rw [hdr]; exact k6'
  obtain ⟨σ3, g1, g2, g3, g4⟩ := goBy_c q2 (rain := rain) (by omega) k6'' (lo' := yb (rt (sR S) + 1) (psh (sR S) (sA S)) - 60) (by omega) (by omega)
  rw [hdr] at g4
  have fr : Fr (hX (sB S)) σ σ3 := ((k3.mono (fun a j e => keS_h e)).tr (m2.mono (fun a j e => by
    simp only [hX, Bool.or_eq_false_iff, Bool.and_eq_false_iff, decide_eq_false_iff_not, beq_eq_false_iff_ne] at e ⊢
    omega))).tr (g2.mono (fun a j e => yX_h e))
  have s3 := fr.sh (hX_f _) h
  have hrt3 : rt (yrY (sQ S) (sq S) r1 rain) = rt (sR S) + 1 := by
    show rt r1 + 1 = _
    omega
  refine ⟨σ3, ?_, s3, fr, hr.hs fr (bOf_ok _ _) ⟨g3, (k5.fr m2 b6 rfl rfl (fun _ => rfl)).fr g2 b6 rfl rfl (fun _ => rfl), by rw [hrt3]; exact g4, (k7.fr m2 b6 rfl (fun _ => ⟨rfl, rfl, rfl, rfl⟩)).fr g2 b6 rfl (fun _ => ⟨rfl, rfl, rfl, rfl⟩)⟩⟩
  rw [m1]
  exact ys_end s2 st3 dw3 g1
theorem withH_q (S : Sy) (r : Rw) (lg : Lg) (acts : List Rw) (img : Im) : sQ (withH S r lg acts img) = sQ S := rfl
theorem withH_b (S : Sy) (r : Rw) (lg : Lg) (acts : List Rw) (img : Im) : sB (withH S r lg acts img) = sB S := rfl
theorem withH_r (S : Sy) (r : Rw) (lg : Lg) (acts : List Rw) (img : Im) : sR (withH S r lg acts img) = r := rfl
theorem yrY_rt (P : Pl) (q : PF) (r : Rw) (rain : Nat) : rt (yrY P q r rain) = rt r + 1 := rfl
theorem ysS_facts (S : Sy) (x : Int64) : sQ (ysS S x) = sQ S ∧ sB (ysS S x) = sB S ∧ rt (sR (ysS S x)) = rt (doubt S x).1 + 1 := by
  unfold ysS
  exact ⟨withH_q _ _ _ _ _, withH_b _ _ _ _ _, by rw [withH_r, yrY_rt]⟩
theorem years44_c (hN : 300 ≤ N) {n : Nat} (hn : n ≤ 60) (st : ∀ (y : Int64) (τ : Me), fc11_stirred N y τ = some (stir y, τ)) (dw : ∀ (y : Int64) (m : Nat) (τ : Me), 0 < m → m < 1000 → fc11_drawn N y (nI m) τ = some (nI (drw y m), τ)) : ∀ (m k fu : Nat) (p : Sy × Int64) (σ : Me), k + m = n → m < fu → Sh σ → RC σ p.1 → WS p.1 → pn (sQ p.1) ≠ 0 → rt (sR p.1) + m ≤ 999 →
    ∃ σ' : Me, fc11_years_44 N fu (some 0) (nI n) p.2 (nI k) σ = some (nI (rt (sR (itN ysP m p).1)), σ') ∧ Sh σ' ∧ Fr (hX (sB p.1)) σ σ' ∧ RC σ' (itN ysP m p).1 ∧ WS (itN ysP m p).1 := by
  intro m
  induction m with
  | zero =>
    intro k fu p σ hk hfu h hr hw h0 ht
    obtain ⟨fu, rfl⟩ : ∃ f, fu = f + 1 := ⟨fu - 1, by omega⟩
    rw [itN_0]
    refine ⟨σ, ?_, h, Fr.rf _ _, hr, hw⟩
    have l9 := hr.2.2.2.2.1.1.2.2.2.2.1
    have r10 : qR σ 11 10 (some 0) = some (some 19) := by simp only [qR, PK h, bnd]
    have q9 : qI σ 2 9 (some 19) = some (nI (rt (sR p.1))) := by simp only [qI, PK h, bnd, l9]
    rw [fc11_years_44, if_pos (nI_le (by omega) (by omega)), r10, bnd, q9, bnd]
  | succ m ih =>
    intro k fu p σ hk hfu h hr hw h0 ht
    obtain ⟨fu, rfl⟩ : ∃ f, fu = f + 1 := ⟨fu - 1, by omega⟩
    obtain ⟨S, x⟩ := p
    have hr : RC σ S := hr
    have hw : WS S := hw
    have h0 : pn (sQ S) ≠ 0 := h0
    have ht : rt (sR S) + (m + 1) ≤ 999 := ht
    obtain ⟨σ1, e1, e2, e3, e4⟩ := ys_one hN (fu := fu) (x := x) h hr hw h0 (by omega) (show k < n by omega) hn st dw
    have hwS := ysS_ok (x := x) hw h0 (by omega)
    have hd := doubt_rt S x
    rw [itN_s, ysP_eq]
    obtain ⟨f1, hxb, f3⟩ := ysS_facts S x
    have hx0 : pn (sQ (ysS S x)) ≠ 0 := by rw [f1]; exact h0
    have hxt : rt (sR (ysS S x)) + m ≤ 999 := by rw [f3, hd]; omega
    show ∃ σ' : Me, fc11_years_44 N (fu + 1) (some 0) (nI n) x (nI k) σ = some (nI (rt (sR (itN ysP m (ysS S x, stir (doubt S x).2)).1)), σ') ∧ Sh σ' ∧ Fr (hX (sB S)) σ σ' ∧ RC σ' (itN ysP m (ysS S x, stir (doubt S x).2)).1 ∧ WS (itN ysP m (ysS S x, stir (doubt S x).2)).1
    rw [e1]
    generalize stir (doubt S x).2 = x3 at *
    generalize ysS S x = S' at *
    obtain ⟨σ', z1, z2, z3, z4, z5⟩ := ih (k + 1) fu (S', x3) σ1 (by omega) (by omega) e2 e4 hwS hx0 hxt
    have z3 : Fr (hX (sB S')) σ1 σ' := z3
    rw [hxb] at z3
    exact ⟨σ', z1, z2, e3.tr z3, z4, z5⟩
theorem years_c {S : Sy} (h : Sh σ) (hr : RC σ S) (hw : WS S) (h0 : pn (sQ S) ≠ 0) (hN : 300 ≤ N) {n : Nat} (h1 : 1 ≤ n) (hn : n ≤ 60) (ht : rt (sR S) + n ≤ 999) (x : Int64) : ∃ σ' : Me, fc11_years N 0 (nI n) x σ = some (nI (rt (sR (ysN n S x))), σ') ∧ Sh σ' ∧ Fr (hX (sB S)) σ σ' ∧ RC σ' (ysN n S x) ∧ WS (ysN n S x) := by
  have b6 := hw.n6
  have hL := hr.2.2.2.2.1.1
  obtain ⟨σ', z1, z2, z3, z4, z5⟩ := years44_c hN hn (fun y τ => rfl) (fun y m τ h1 h2 => drawn_c N y τ h1 h2) n 0 N (S, x) σ (by omega) (by omega) h hr hw h0 ht
  refine ⟨σ', ?_, z2, z3, z4, z5⟩
  have z1 : fc11_years_44 N N (some 0) (nI n) x (nI 0) σ = some (nI (rt (sR (ysN n S x))), σ') := z1
  rw [← z1]
  have d0 : ¬ nI (pn (sQ S)) = 0 := nI_ne0 (by omega) (by omega)
  have c1 : ¬ n < 1 := by omega
  have c2 : ¬ 60 < n := by omega
  simp (disch := omega) only [fc11_years, qR, qI, PK h, bnd, hL.1, d0, y1, y60, nI_ltI, c1, c2, hL.2.2.2.2.1, nI_add, y999, nI_leI, ht, if_true, if_false, ↓reduceIte, and_true, true_and, and_false, false_and, not_true_eq_false, not_false_eq_true, and_self]
  rfl
theorem years_n {S : Sy} (h : Sh σ) (hr : RC σ S) (hw : WS S) {y : Int32} (hy : ¬ ∃ n : Nat, pn (sQ S) ≠ 0 ∧ 1 ≤ n ∧ n ≤ 60 ∧ rt (sR S) + n ≤ 999 ∧ y = nI n) (x : Int64) : fc11_years N 0 y x σ = some (-1, σ) := by
  have b6 := hw.n6
  have hL := hr.2.2.2.2.1.1
  by_cases h0 : pn (sQ S) = 0
  · have hn := hL.1
    rw [h0] at hn
    simp (disch := omega) only [fc11_years, qR, qI, PK h, bnd, hn, nI_0, if_true, if_false, ↓reduceIte, and_true, true_and, and_false, false_and, not_true_eq_false, not_false_eq_true, and_self]
  · have d0 : ¬ nI (pn (sQ S)) = 0 := nI_ne0 (by omega) (by omega)
    obtain ⟨a1, a2, a3, a4, -⟩ := hw.hs.yes h0
    by_cases c1 : y < 1
    · simp (disch := omega) only [fc11_years, qR, qI, PK h, bnd, hL.1, d0, c1, if_true, if_false, ↓reduceIte, and_true, true_and, and_false, false_and, not_true_eq_false, not_false_eq_true, and_self]
    · by_cases c2 : (60 : Int32) < y
      · simp (disch := omega) only [fc11_years, qR, qI, PK h, bnd, hL.1, d0, c1, c2, if_true, if_false, ↓reduceIte, and_true, true_and, and_false, false_and, not_true_eq_false, not_false_eq_true, and_self]
      · have c3 : ¬ y < 0 := by
          rw [i_toInt_lt] at c1 ⊢
          rw [y1, nI_toInt (by decide)] at c1
          have : (0 : Int32).toInt = 0 := rfl
          omega
        obtain ⟨n, hn, rfl⟩ := nI_of c3
        rw [y1, nI_ltI hn (by decide)] at c1
        rw [y60, nI_ltI (by decide) hn] at c2
        have c4 : ¬ rt (sR S) + n ≤ 999 := fun e => hy ⟨n, h0, by omega, by omega, e, rfl⟩
        simp (disch := omega) only [fc11_years, qR, qI, PK h, bnd, hL.1, d0, y1, y60, nI_ltI, c1, c2, hL.2.2.2.2.1, nI_add, y999, nI_leI, c4, if_true, if_false, ↓reduceIte, and_true, true_and, and_false, false_and, not_true_eq_false, not_false_eq_true, and_self]
/-! what is there -/
def ruA (P : Pl) (r : Rw) (x : Int32) : Int32 := if pn P = 0 then -1 else if x = 0 then nI (pin P) else if x = 1 then nI (pdr P) else if x = 2 then nI (rp r) else -1
theorem rule_c {S : Sy} (h : Sh σ) (hr : RC σ S) (hw : WS S) (x : Int32) : fc11_rule N 0 x σ = some (ruA (sQ S) (sR S) x, σ) := by
  have b6 := hw.n6
  obtain ⟨l5, l6, l7, l8, l9, -⟩ := hr.2.2.2.2.1.1
  unfold ruA
  by_cases h0 : pn (sQ S) = 0
  · rw [h0] at l5
    rw [if_pos h0]
    simp (disch := omega) only [fc11_rule, qR, qI, PK h, bnd, l5, nI_0, if_true, if_false, ↓reduceIte, and_true, true_and, and_false, false_and, not_true_eq_false, not_false_eq_true, and_self]
  · have d0 : ¬ nI (pn (sQ S)) = 0 := nI_ne0 (by omega) (by omega)
    rw [if_neg h0]
    by_cases c0 : x = 0
    · simp (disch := omega) only [fc11_rule, qR, qI, PK h, bnd, l5, d0, c0, if_true, if_false, ↓reduceIte, and_true, true_and, and_false, false_and, not_true_eq_false, not_false_eq_true, and_self, l6]
    · by_cases c1 : x = 1
      · have c10 : ¬ (1 : Int32) = 0 := by decide
        simp (disch := omega) only [fc11_rule, qR, qI, PK h, bnd, l5, d0, c1, c10, if_true, if_false, ↓reduceIte, and_true, true_and, and_false, false_and, not_true_eq_false, not_false_eq_true, and_self, l7]
      · by_cases c2 : x = 2
        · have c20 : ¬ (2 : Int32) = 0 := by decide
          have c21 : ¬ (2 : Int32) = 1 := by decide
          simp (disch := omega) only [fc11_rule, qR, qI, PK h, bnd, l5, d0, c2, c20, c21, if_true, if_false, ↓reduceIte, and_true, true_and, and_false, false_and, not_true_eq_false, not_false_eq_true, and_self, l8]
        · simp (disch := omega) only [fc11_rule, qR, qI, PK h, bnd, l5, d0, c0, c1, c2, if_true, if_false, ↓reduceIte, and_true, true_and, and_false, false_and, not_true_eq_false, not_false_eq_true, and_self]
def fiA (P : Pl) (r : Rw) (f w : Nat) : Nat := if w = 0 then ro r f else if w = 1 then rn r f else if w = 2 then rw_ r f else if w = 3 then pvl P f else rc r f
theorem field_c {S : Sy} (h : Sh σ) (hr : RC σ S) (hw : WS S) {f w : Nat} (hf : f < pn (sQ S)) (hw4 : w ≤ 4) : fc11_field N 0 (nI f) (nI w) σ = some (nI (fiA (sQ S) (sR S) f w), σ) := by
  have b6 := hw.n6
  have hL := hr.2.2.2.2.1.1
  obtain ⟨e1, e2, e3, e4, e5⟩ := hL.2.2.2.2.2 f hf
  have cc : ¬ (1 : Int32) = 0 := by decide
  have hh := has_y (N := N) h (.inl rfl) hL.1 b6 hf
  unfold fiA
  have : w = 0 ∨ w = 1 ∨ w = 2 ∨ w = 3 ∨ w = 4 := by omega
  rcases this with rfl | rfl | rfl | rfl | rfl
  · have d1 : ¬ nI 0 < 0 := by decide
    have d2 : nI 0 ≤ 4 := by decide
    have d3 : nI 0 = (0 : Int32) := rfl
    simp (disch := omega) only [fc11_field, qR, PK h, bnd, hh, cc, if_true, if_false, ↓reduceIte, and_true, true_and, and_false, false_and, not_true_eq_false, not_false_eq_true, and_self, d1, d2, ldI_lo, A20 h, nI_clamp, e1]
    rw [if_pos d3]
  · have d1 : ¬ nI 1 < 0 := by decide
    have d2 : nI 1 ≤ 4 := by decide
    have d3 : ¬ nI 1 = (0 : Int32) := by decide
    have d4 : nI 1 = (1 : Int32) := rfl
    have n1 : ¬ (1 : Nat) = 0 := by decide
    simp (disch := omega) only [fc11_field, qR, PK h, bnd, hh, cc, if_true, if_false, ↓reduceIte, and_true, true_and, and_false, false_and, not_true_eq_false, not_false_eq_true, and_self, d1, d2, d3, n1, ldI_lo, A21 h, nI_clamp, e2]
    rw [if_pos d4]
  · have d1 : ¬ nI 2 < 0 := by decide
    have d2 : nI 2 ≤ 4 := by decide
    have d3 : ¬ nI 2 = (0 : Int32) := by decide
    have d4 : ¬ nI 2 = (1 : Int32) := by decide
    have d5 : nI 2 = (2 : Int32) := rfl
    have n1 : ¬ (2 : Nat) = 0 := by decide
    have n2 : ¬ (2 : Nat) = 1 := by decide
    simp (disch := omega) only [fc11_field, qR, PK h, bnd, hh, cc, if_true, if_false, ↓reduceIte, and_true, true_and, and_false, false_and, not_true_eq_false, not_false_eq_true, and_self, d1, d2, d3, d4, n1, n2, ldI_lo, A22 h, nI_clamp, e3]
    rw [if_pos d5]
  · have d1 : ¬ nI 3 < 0 := by decide
    have d2 : nI 3 ≤ 4 := by decide
    have d3 : ¬ nI 3 = (0 : Int32) := by decide
    have d4 : ¬ nI 3 = (1 : Int32) := by decide
    have d5 : ¬ nI 3 = (2 : Int32) := by decide
    have d6 : nI 3 = (3 : Int32) := rfl
    have n1 : ¬ (3 : Nat) = 0 := by decide
    have n2 : ¬ (3 : Nat) = 1 := by decide
    have n3 : ¬ (3 : Nat) = 2 := by decide
    simp (disch := omega) only [fc11_field, qR, PK h, bnd, hh, cc, if_true, if_false, ↓reduceIte, and_true, true_and, and_false, false_and, not_true_eq_false, not_false_eq_true, and_self, d1, d2, d3, d4, d5, n1, n2, n3, ldI_lo, A23 h, nI_clamp, e4]
    rw [if_pos d6]
  · have d1 : ¬ nI 4 < 0 := by decide
    have d2 : nI 4 ≤ 4 := by decide
    have d3 : ¬ nI 4 = (0 : Int32) := by decide
    have d4 : ¬ nI 4 = (1 : Int32) := by decide
    have d5 : ¬ nI 4 = (2 : Int32) := by decide
    have d6 : ¬ nI 4 = (3 : Int32) := by decide
    have n1 : ¬ (4 : Nat) = 0 := by decide
    have n2 : ¬ (4 : Nat) = 1 := by decide
    have n3 : ¬ (4 : Nat) = 2 := by decide
    have n4 : ¬ (4 : Nat) = 3 := by decide
    simp (disch := omega) only [fc11_field, qR, PK h, bnd, hh, cc, if_true, if_false, ↓reduceIte, and_true, true_and, and_false, false_and, not_true_eq_false, not_false_eq_true, and_self, d1, d2, d3, d4, d5, d6, n1, n2, n3, n4, ldI_lo, A24 h, nI_clamp, e5]
def smN (g : Nat → Nat) : Nat → Nat → Nat → Nat
  | 0, _, acc => acc
  | m + 1, k, acc => smN g m (k + 1) (acc + g k)
theorem smN_le (g : Nat → Nat) {B : Nat} {n : Nat} (h : ∀ k, k < n → g k ≤ B) : ∀ (m k acc : Nat), k + m = n → smN g m k acc ≤ acc + B * m
  | 0, _, _, _ => Nat.le_refl _
  | m + 1, k, acc, hk => by
    unfold smN
    have h1 := smN_le g h m (k + 1) (acc + g k) (by omega)
    have h2 := h k (by omega)
    have : B * (m + 1) = B * m + B := by rw [Nat.mul_add, Nat.mul_one]
    omega
theorem sum_c (h : Sh σ) {n x : Nat} {g : Nat → Nat} (hn : mi σ 19 5 = nI n) (h6 : n ≤ 6) (hx : 20 ≤ x ∧ x ≤ 24) (hg : ∀ k, k < n → mi σ x k = nI (g k) ∧ g k ≤ 999) (hN : 10 ≤ N) : fc2_sum N 19 (some x) σ = some (nI (smN g n 0 0), σ) := by
  have ax : ∀ k, k < 6 → arr σ .int (some x) (nI k) = some x := by
    have : x = 20 ∨ x = 21 ∨ x = 22 ∨ x = 23 ∨ x = 24 := by omega
    rcases this with rfl | rfl | rfl | rfl | rfl
    · exact A20 h
    · exact A21 h
    · exact A22 h
    · exact A23 h
    · exact A24 h
  have key : ∀ (m k fu acc : Nat), k + m = n → m < fu → fc2_sum_4 N fu (some 19) (some x) (nI acc) (nI k) σ = some (nI (smN g m k acc), σ) := by
    intro m
    induction m with
    | zero =>
      intro k fu acc hk hfu
      obtain ⟨fu, rfl⟩ : ∃ f, fu = f + 1 := ⟨fu - 1, by omega⟩
      have c : n ≤ k := by omega
      simp (disch := omega) only [fc2_sum_4, qI, PK h, bnd, hn, nI_leI, c, if_true, if_false, ↓reduceIte, and_true, true_and, and_false, false_and, not_true_eq_false, not_false_eq_true, and_self, smN]
    | succ m ih =>
      intro k fu acc hk hfu
      obtain ⟨fu, rfl⟩ : ∃ f, fu = f + 1 := ⟨fu - 1, by omega⟩
      have c : ¬ n ≤ k := by omega
      have e := (hg k (by omega)).1
      rw [smN, ← ih (k + 1) fu (acc + g k) (by omega) (by omega)]
      simp (disch := omega) only [fc2_sum_4, qI, PK h, bnd, hn, nI_leI, c, if_true, if_false, ↓reduceIte, and_true, true_and, and_false, false_and, not_true_eq_false, not_false_eq_true, and_self, ldI_lo, ax, nI_clamp, e, nI_add, nI_1]
  exact key n 0 N 0 (by omega) (by omega)
def cnA (S : Sy) (x : Int32) : Int32 := if x = 0 then nI (pn (sQ S)) else if x = 1 then nI (sL S).length else if x = 2 then nI (sP S).length else if x = 3 then nI (sT S).1 else if x = 4 then oI (sH S) else if x = 5 then nI (rt (sR S)) else if x = 6 then nI (smN (rc (sR S)) (pn (sQ S)) 0 0) else if x = 7 then nI (sE S) else if x = 8 then nI (sF S).length else if x = 9 then nI (min 60 (rt (sR S))) else if x = 10 then nI (sA S).length else -1000000
theorem HsB.rt9 {P : Pl} {r : Rw} {acts : List Rw} {img : Im} (h : HsB P r acts img) : rt r ≤ 999 := by
  rcases h with e | e
  · omega
  · exact e.2.2.2.1
theorem len_c (N : Nat) {t : Nat} (σ : Me) (ht : t ≤ 999) : fc0_lengthIn N (nI t) σ = some (nI (min 60 t), σ) := by
  simp (disch := omega) only [fc0_lengthIn, y60, min_N, bnd]
theorem count_c {S : Sy} (h : Sh σ) (hr : RC σ S) (hw : WS S) (hN : 10 ≤ N) (x : Int32) : fc11_count N 0 x σ = some (cnA S x, σ) := by
  have b6 := hw.n6
  have hL := hr.2.2.2.2.1.1
  have ht := hw.hs.rt9
  have hk : mi σ 41 2 = nI (sA S).length := by obtain ⟨nx, -, -, e, -⟩ := hr.2.2.2.2.1.2.1; exact e
  have hsum : fc2_sum N 19 (some 24) σ = some (nI (smN (rc (sR S)) (pn (sQ S)) 0 0), σ) := by
    by_cases h0 : pn (sQ S) = 0
    · exact sum_c h hL.1 b6 (by omega) (fun k hk => by omega) hN
    · obtain ⟨a1, a2, a3, -⟩ := hw.hs.yes h0
      exact sum_c h hL.1 b6 (by omega) (fun k hk => ⟨(hL.2.2.2.2.2 k hk).2.2.2.2, (a3.2.2 k hk).2.2.2⟩) hN
  have r10 : qR σ 11 10 (some 0) = some (some 19) := by simp only [qR, PK h, bnd]
  unfold fc11_count cnA
  by_cases c0 : x = 0
  · rw [if_pos c0, if_pos c0, r10, bnd]
    simp only [qI, PK h, bnd, hL.1]
  rw [if_neg c0, if_neg c0]
  by_cases c1 : x = 1
  · rw [if_pos c1, if_pos c1]
    simp only [qI, PK h, bnd, hr.2.1.1]
  rw [if_neg c1, if_neg c1]
  by_cases c2 : x = 2
  · rw [if_pos c2, if_pos c2]
    simp only [qI, PK h, bnd, hr.2.2.1.1]
  rw [if_neg c2, if_neg c2]
  by_cases c3 : x = 3
  · rw [if_pos c3, if_pos c3]
    simp only [qR, qI, PK h, bnd, hr.1.1]
  rw [if_neg c3, if_neg c3]
  by_cases c4 : x = 4
  · rw [if_pos c4, if_pos c4]
    simp only [qI, PK h, bnd, hr.2.1.2.1]
  rw [if_neg c4, if_neg c4]
  by_cases c5 : x = 5
  · rw [if_pos c5, if_pos c5, r10, bnd]
    simp only [qI, PK h, bnd, hL.2.2.2.2.1]
  rw [if_neg c5, if_neg c5]
  by_cases c6 : x = 6
  · rw [if_pos c6, if_pos c6]
    simp only [qR, PK h, bnd, hsum]
  rw [if_neg c6, if_neg c6]
  by_cases c7 : x = 7
  · rw [if_pos c7, if_pos c7]
    simp only [qI, PK h, bnd, hr.2.2.2.1]
  rw [if_neg c7, if_neg c7]
  by_cases c8 : x = 8
  · rw [if_pos c8, if_pos c8]
    simp only [qR, qI, PK h, bnd, hr.2.2.2.2.2.1]
  rw [if_neg c8, if_neg c8]
  by_cases c9 : x = 9
  · rw [if_pos c9, if_pos c9, r10, bnd]
    simp only [qI, PK h, bnd, hL.2.2.2.2.1, len_c N σ ht]
  rw [if_neg c9, if_neg c9]
  by_cases c10 : x = 10
  · rw [if_pos c10, if_pos c10]
    simp only [qR, qI, PK h, bnd, hk]
  rw [if_neg c10, if_neg c10]
theorem log_c {S : Sy} (h : Sh σ) (hr : RC σ S) (hw : WS S) {i w : Nat} (hi : i < min 60 (rt (sR S))) (hw2 : w ≤ 2) : fc11_log N 0 (nI i) (nI w) σ = some (nI (if w = 0 then (sG S (rt (sR S) - 1 - i)).1 else if w = 1 then (sG S (rt (sR S) - 1 - i)).2.1 else (sG S (rt (sR S) - 1 - i)).2.2), σ) := by
  have hL := hr.2.2.2.2.1.1
  have ht := hw.hs.rt9
  have hc := hr.2.2.2.2.1.2.2.1
  have hyb : yb (rt (sR S)) (sA S) ≤ rt (sR S) := by
    rcases hw.hs with e | e
    · rw [e.2.2.1]; exact Nat.le_refl _
    · exact (yb_le e.2.2.2.2.1).1
  have en := entry_c (N := N) (what := w) h hc (y := rt (sR S) - 1 - i) (by omega) (by omega) (by omega) hw2
  have r10 : qR σ 11 10 (some 0) = some (some 19) := by simp only [qR, PK h, bnd]
  have r13 : qR σ 11 13 (some 0) = some (some 37) := by simp only [qR, PK h, bnd]
  have q9 : qI σ 2 9 (some 19) = some (nI (rt (sR S))) := by simp only [qI, PK h, bnd, hL.2.2.2.2.1]
  have d37 : dr σ (some 37) (.inl 0) = some 37 := by simp only [PK h]
  have s1 : nI (rt (sR S)) - nI 1 - nI i = nI (rt (sR S) - 1 - i) := by rw [pk_sub (by omega), pk_sub (by omega)]
  unfold fc11_log
  rw [if_neg (nI_pos (by omega)), r10, bnd, q9, bnd, len_c N σ ht, bnd, if_neg (nI_ge hi (by omega)), if_neg (nI_pos (by omega)), y2, if_pos (nI_le hw2 (by decide)), r13, bnd, r10, bnd, q9, bnd, d37, bnd, y1, s1, en, bnd]
theorem log_n {S : Sy} (h : Sh σ) (hr : RC σ S) (hw : WS S) {x y : Int32} (hx : ¬ ∃ i w : Nat, i < min 60 (rt (sR S)) ∧ w ≤ 2 ∧ x = nI i ∧ y = nI w) : fc11_log N 0 x y σ = some (-1, σ) := by
  have hL := hr.2.2.2.2.1.1
  have ht := hw.hs.rt9
  have r10 : qR σ 11 10 (some 0) = some (some 19) := by simp only [qR, PK h, bnd]
  have q9 : qI σ 2 9 (some 19) = some (nI (rt (sR S))) := by simp only [qI, PK h, bnd, hL.2.2.2.2.1]
  unfold fc11_log
  by_cases c1 : x < 0
  · rw [if_pos c1]
  · rw [if_neg c1, r10, bnd, q9, bnd, len_c N σ ht, bnd]
    obtain ⟨i, hi, rfl⟩ := nI_of c1
    by_cases c2 : nI (min 60 (rt (sR S))) ≤ nI i
    · rw [if_pos c2]
    · rw [if_neg c2]
      by_cases c3 : y < 0
      · rw [if_pos c3]
      · rw [if_neg c3]
        by_cases c4 : y ≤ 2
        · exfalso
          obtain ⟨w, hw', rfl⟩ := nI_of c3
          rw [nI_leI (by omega) hi] at c2
          rw [y2, nI_leI hw' (by decide)] at c4
          exact hx ⟨i, w, by omega, c4, rfl, rfl⟩
        · rw [if_neg c4]
end YS
