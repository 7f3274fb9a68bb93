/-! who is paid when, in the reference -/
theorem rk_M {g : Nat → Nat} {f n M : Nat} (h : ∀ k, k < n → (befB g k f = true ↔ bt M k = 1)) : ∀ (m k : Nat), k + m = n → rkN g f m k (cnt M k) = cnt M n
  | 0, k, hk => by
    rw [show n = k by omega]; rfl
  | m + 1, k, hk => by
    unfold rkN
    have e : (if befB g k f = true then cnt M k + 1 else cnt M k) = cnt M (k + 1) := by
      show _ = cnt M k + bt M k
      by_cases c : befB g k f = true
      · rw [if_pos c, (h k (by omega)).mp c]
      · rw [if_neg c]
        rcases bt_01 M k with w | w
        · rw [w]; rfl
        · exact absurd ((h k (by omega)).mpr w) c
    rw [e]
    exact rk_M h m (k + 1) (by omega)
theorem rk_mono {g : Nat → Nat} {a b n : Nat} (h : ∀ k, k < n → befB g k a = true → befB g k b = true) (hab : befB g a b = true) (haa : ¬ befB g a a = true) : ∀ (m k x y : Nat), k + m ≤ n → x ≤ y → rkN g a m k x + (if k ≤ a ∧ a < k + m then 1 else 0) ≤ rkN g b m k y
  | 0, k, x, y, _, hxy => by
    rw [if_neg (by omega)]
    exact hxy
  | m + 1, k, x, y, hk, hxy => by
    unfold rkN
    by_cases e : k = a
    · subst e
      rw [if_neg haa, if_pos hab, if_pos (by omega)]
      have := rk_mono h hab haa m (k + 1) x y (by omega) hxy
      have h2 : ∀ (m k x : Nat), rkN g b m k (x + 1) = rkN g b m k x + 1 := fun m => by
        induction m with
        | zero => intro k x; rfl
        | succ m ih =>
          intro k x
          unfold rkN
          by_cases c : befB g k b = true
          · rw [if_pos c, if_pos c, ih]
          · rw [if_neg c, if_neg c, ih]
      rw [h2]
      omega
    · have key : (if befB g k a = true then x + 1 else x) ≤ (if befB g k b = true then y + 1 else y) := by
        by_cases c : befB g k a = true
        · rw [if_pos c, if_pos (h k (by omega) c)]; omega
        · rw [if_neg c]; split <;> omega
      have := rk_mono h hab haa m (k + 1) _ _ (by omega) key
      have e2 : (if k ≤ a ∧ a < k + (m + 1) then 1 else 0) = (if k + 1 ≤ a ∧ a < k + 1 + m then 1 else 0) := by
        by_cases c : k + 1 ≤ a ∧ a < k + 1 + m
        · rw [if_pos c, if_pos (by omega)]
        · rw [if_neg c, if_neg (by omega)]
      rw [e2]
      exact this
theorem rk_lt {g : Nat → Nat} {a b n : Nat} (ha : a < n) (hab : befB g a b = true) : rkN g a n 0 0 < rkN g b n 0 0 := by
  have := rk_mono (n := n) (fun k _ h => bef_tr h hab) hab (bef_self g a) n 0 0 0 (by omega) (Nat.le_refl _)
  rw [if_pos (by omega)] at this
  omega
theorem rk_inj {g : Nat → Nat} {a b n : Nat} (ha : a < n) (hb : b < n) (e : rkN g a n 0 0 = rkN g b n 0 0) : a = b := by
  by_cases c : a = b
  · exact c
  · by_cases d : befB g a b = true
    · have := rk_lt ha d; omega
    · have d2 : befB g b a = true := (bef_not (fun w => c w.symm)).mpr d
      have := rk_lt hb d2; omega
theorem tn_of {g : Nat → Nat} {n i f : Nat} (hf : f < n) (hr : rkN g f n 0 0 = i) : ∀ (m k : Nat), k + m = n → k ≤ f → tnN g n i m k = some f
  | 0, k, hk, hkf => by omega
  | m + 1, k, hk, hkf => by
    unfold tnN
    by_cases c : rkN g k n 0 0 = i
    · rw [if_pos c, rk_inj (g := g) (a := k) (b := f) (by omega) hf (by omega)]
    · rw [if_neg c]
      have : k ≠ f := fun w => c (by rw [w]; exact hr)
      exact tn_of hf hr m (k + 1) (by omega) (by omega)
theorem rk_0 {g : Nat → Nat} {f n : Nat} : rkN g f n 0 0 = 0 ↔ ∀ k, k < n → ¬ befB g k f = true := by
  constructor
  · intro h k hk c
    by_cases e : k = f
    · rw [e] at c; exact bef_self g f c
    · have := rk_lt (g := g) (n := n) hk c
      omega
  · intro h
    have := rk_M (g := g) (f := f) (n := n) (M := 0) (fun k hk => ⟨fun w => absurd w (h k hk), fun w => by unfold bt at w; simp at w⟩) n 0 (by omega)
    have e0 : ∀ n, cnt 0 n = 0 := fun n => by
      induction n with
      | zero => rfl
      | succ n ih =>
        show cnt 0 n + bt 0 n = 0
        rw [ih]; unfold bt; simp
    exact this.trans (e0 n)
section TU
variable {N : Nat} {σ : Me} {S : Sy}
theorem lays_m (h : Qm N σ S) : ∃ σ' : Me, fc12_laysTurn N 60 σ = some ((), σ') ∧ Fr mX σ σ' ∧ Qm N σ' S ∧ (∀ f, f < pn (sQ S) → mi σ' 72 (4 * f) = nI (gN (sQ S) (sR S) f)) := by
  obtain ⟨σ1, c1, c2, c3, c4, c5⟩ := h.copy
  have h6 := h.2.2.1.n6
  have hN := h.2.2.2.2.2
  obtain ⟨b1, b2, b3, -⟩ := h.2.2.1.hs.yes h.2.2.2.1
  have q28 : qR σ 12 28 (some 60) = some (some 71) := by simp only [qR, PN h.1, bnd]
  have q29 : qR σ 12 29 (some 60) = some (some 72) := by simp only [qR, PN h.1, bnd]
  have e : fc12_laysTurn N 60 σ = fc12_laysTurn_13 N N (some 60) (nI 0) σ1 := by
    rw [fc12_laysTurn, q28, bnd, q29, bnd, c1, bnd]; rfl
  rw [e]
  refine lp (fun fu k τ => fc12_laysTurn_13 N fu (some 60) (nI k) τ) (fun k τ => Fr mX σ τ ∧ Qm N τ S ∧ ∀ f, f < k → mi τ 72 (4 * f) = nI (gN (sQ S) (sR S) f)) (fun o => ∃ σ' : Me, o = some ((), σ') ∧ Fr mX σ σ' ∧ Qm N σ' S ∧ (∀ f, f < pn (sQ S) → mi σ' 72 (4 * f) = nI (gN (sQ S) (sR S) f))) (pn (sQ S)) ?_ ?_ (pn (sQ S)) 0 N σ1 (by omega) (by omega) ⟨c2, c4, fun f hf => absurd hf (Nat.not_lt_zero _)⟩
  · rintro fu τ ⟨i1, i2, i3⟩
    refine ⟨τ, ?_, i1, i2, i3⟩
    show fc12_laysTurn_13 N (fu + 1) (some 60) (nI (pn (sQ S))) τ = _
    rw [fc12_laysTurn_13, mq i2.1 i2.n24, bnd, if_pos (nI_le (Nat.le_refl _) (by omega))]
  · rintro fu k τ hk ⟨i1, i2, i3⟩
    have e71 := (i2.2.1.2.2.2.2.1.2.1.2.2 k hk).1
    have hb := (b3.2.2 k hk).1
    have q28 : qR τ 12 28 (some 60) = some (some 71) := by simp only [qR, PN i2.1, bnd]
    have q29 : qR τ 12 29 (some 60) = some (some 72) := by simp only [qR, PN i2.1, bnd]
    have ei : (4 : Int32) * nI k + (0 : Int32) = nI (4 * k) := by rw [y4, pk_mul, y0, nI_add]; rfl
    have ld : ldI τ (some 71) (nI (4 * k)) = some (nI (ro (sR S) k)) := by rw [ldI_lo _ _ _ (by decide), A71 i2.1 _ (by omega), bnd, nI_clamp (by omega), e71]
    have wi := wi_m (N := N) i2.1 (i := pin (sQ S)) (x := ro (sR S) k) i2.2.1.2.2.2.2.1.1.2.1 b2.2.1 hb
    have st : stI τ (some 72) (nI (4 * k)) (nI (wiN (pin (sQ S)) (ro (sR S) k))) = some (setI τ 72 (4 * k) (nI (wiN (pin (sQ S)) (ro (sR S) k)))) := by unfold stI; rw [A72 i2.1 _ (by omega), bnd, nI_clamp (by omega)]
    have fr : Fr (rS 72) τ (setI τ 72 (4 * k) (nI (wiN (pin (sQ S)) (ro (sR S) k)))) := set72_fr (by omega)
    refine .inl ⟨_, ?_, i1.tr (fr.mono (fun a j e => rS_m e)), i2.row fr, fun f hf => ?_⟩
    · show fc12_laysTurn_13 N (fu + 1) (some 60) (nI k) τ = _
      rw [fc12_laysTurn_13, mq i2.1 i2.n24, bnd, if_neg (nI_ge hk (by omega)), q29, bnd, q28, bnd, ei, ld, bnd, d60 i2.1, bnd, wi, bnd, st, bnd, nI_1]
    · by_cases w : f = k
      · rw [w, mi_eq]; rfl
      · rw [mi_ne _ _ (by omega)]; exact i3 f (by omega)
theorem turn27_m {g : Nat → Nat} {n i : Nat} (h6 : n ≤ 6) (hi : i < n) (hg : ∀ f, f < n → g f ≤ 999) (hN : 10 ≤ N) (h : Sh σ) (hn : mi σ 60 24 = nI n) (h72 : ∀ f, f < n → mi σ 72 (4 * f) = nI (g f)) : ∀ (m k M fu : Nat), k + m = i → m < fu → M < 64 → cnt M n = k → Seg g n M → ∃ f, f < n ∧ rkN g f n 0 0 = i ∧ fc12_turn_27 N fu (some 60) (nI i) (nI M) (nI k) σ = some (nI f, σ)
  | _, _, _, 0, _, h0, _, _, _ => absurd h0 (Nat.not_lt_zero _)
  | m, k, M, fu + 1, hk, h0, hM, hc, hS => by
    have q29 : qR σ 12 29 (some 60) = some (some 72) := by simp only [qR, PN h, bnd]
    have nx := nextIn_m (N := N) h (.inr rfl) hn h6 hM (fun f hf => ⟨h72 f hf, hg f hf⟩) hN
    have sp := nxt_spec g M n 0 none (fun j hj => absurd hj (Nat.not_lt_zero _))
    rw [Nat.zero_add] at sp
    cases hx : nxt g M n 0 none with
    | none =>
      exfalso
      rw [hx] at sp
      have := cnt_full M n sp
      omega
    | some f =>
      rw [hx] at sp nx
      obtain ⟨s1, s2, s3⟩ := sp
      have sg := seg_next hS s1 s2 s3
      have hr : rkN g f n 0 0 = k := by rw [← hc]; exact rk_M sg n 0 (by omega)
      have nx : fc12_nextIn N 60 (some 72) (nI M) σ = some (nI f, σ) := nx
      cases m with
      | zero =>
        refine ⟨f, s1, by omega, ?_⟩
        rw [fc12_turn_27, if_pos (nI_le (by omega) (by omega)), q29, bnd, d60 h, bnd, nx, bnd]
      | succ m =>
        obtain ⟨f', w1, w2, w3⟩ := turn27_m h6 hi hg hN h hn h72 m (k + 1) (M ||| 2 ^ f) fu (by omega) (by omega) (bit_lt M hM f (by omega)) (by rw [cnt_or hM (by omega) s2 n h6, if_pos s1, hc]) (seg_or hS h6 hM s1 sg)
        refine ⟨f', w1, w2, ?_⟩
        rw [fc12_turn_27, if_neg (nI_ge (by omega) (by omega)), q29, bnd, d60 h, bnd, nx, bnd, bit_or M hM f (by omega), nI_1]
        exact w3
theorem turn_m (h : Qm N σ S) {i : Nat} (hi : i < pn (sQ S)) : Am S σ (oI (tnN (gN (sQ S) (sR S)) (pn (sQ S)) i (pn (sQ S)) 0)) (fc12_turn N 60 (nI i) σ) := by
  have h6 := h.2.2.1.n6
  have hN := h.2.2.2.2.2
  obtain ⟨σ1, l1, l2, l3, l4⟩ := lays_m h.th
  have e0 : ∀ n, cnt 0 n = 0 := fun n => by
    induction n with
    | zero => rfl
    | succ n ih =>
      show cnt 0 n + bt 0 n = 0
      rw [ih]; unfold bt; simp
  obtain ⟨f, f1, f2, f3⟩ := turn27_m (N := N) (g := gN (sQ S) (sR S)) h6 hi (fun f _ => g_le _ _ f) (by omega) l3.1 l3.n24 l4 i 0 0 N (by omega) (by omega) (by decide) (e0 _) (fun j hj hb => by unfold bt at hb; simp at hb)
  refine Am.of (σ' := σ1) ?_ l2 l3
  rw [fc12_turn, th0 h.1, bnd, if_neg (nI_pos (by omega)), mq h.th.1 h.th.n24, bnd, if_pos (nI_lt hi (by omega)), d60 h.th.1, bnd, l1, bnd, tn_of f1 f2 (pn (sQ S)) 0 (by omega) (Nat.zero_le _)]
  exact f3
theorem turn_mn (h : Sh σ) (hr : RM σ S) (hw : WS S) {x : Int32} (hx : x < 0 ∨ nI (pn (sQ S)) ≤ x) : fc12_turn N 60 x σ = some (-1, setI σ 60 0 0) := by
  have h0 : Sh (setI σ 60 0 0) := h
  rw [fc12_turn, th0 h, bnd]
  by_cases c : x < 0
  · rw [if_pos c]
  · have c2 := hx.resolve_left c
    have c3 : ¬ x < nI (pn (sQ S)) := fun w => by
      rw [i_toInt_lt] at w
      rw [i_toInt_le] at c2
      omega
    rw [if_neg c, mq h0 (hr.th hw).n24, bnd, if_neg c3]
theorem forg21_m {f : Nat} (hf : f < pn (sQ S)) : ∀ (m k fu : Nat) (τ : Me), k + m = ro (sR S) f + 1 → m < fu → Qm N τ S → (∃ x, x ≤ 999 ∧ ∀ j, j < pn (sQ S) → mi τ 72 (4 * j) = nI (gUp (gN (sQ S) (sR S)) f x j)) → ∃ σ' : Me, fc12_forgiven_21 N fu (some 60) (nI f) (nI k) τ = some (oI (frN (sQ S) (sR S) f m k), σ') ∧ Fr mX τ σ' ∧ Qm N σ' S
  | _, _, 0, _, _, h0, _, _ => absurd h0 (Nat.not_lt_zero _)
  | 0, k, fu + 1, τ, hk, _, h, _ => by
    have h6 := h.2.2.1.n6
    obtain ⟨b1, b2, b3, -⟩ := h.2.2.1.hs.yes h.2.2.2.1
    have e71 := (h.2.1.2.2.2.2.1.2.1.2.2 f hf).1
    have hb := (b3.2.2 f hf).1
    have q28 : qR τ 12 28 (some 60) = some (some 71) := by simp only [qR, PN h.1, bnd]
    have ei : (4 : Int32) * nI f + (0 : Int32) = nI (4 * f) := by rw [y4, pk_mul, y0, nI_add]; rfl
    have ld : ldI τ (some 71) (nI (4 * f)) = some (nI (ro (sR S) f)) := by rw [ldI_lo _ _ _ (by decide), A71 h.1 _ (by omega), bnd, nI_clamp (by omega), e71]
    refine ⟨τ, ?_, Fr.rf _ _, h⟩
    rw [fc12_forgiven_21, q28, bnd, ei, ld, bnd, if_pos (nI_lt (by omega) (by omega))]
    rfl
  | m + 1, k, fu + 1, τ, hk, h0, h, hg => by
    have h6 := h.2.2.1.n6
    have hN := h.2.2.2.2.2
    obtain ⟨b1, b2, b3, -⟩ := h.2.2.1.hs.yes h.2.2.2.1
    have e71 := (h.2.1.2.2.2.2.1.2.1.2.2 f hf).1
    have hb := (b3.2.2 f hf).1
    have q28 : qR τ 12 28 (some 60) = some (some 71) := by simp only [qR, PN h.1, bnd]
    have q29 : qR τ 12 29 (some 60) = some (some 72) := by simp only [qR, PN h.1, bnd]
    have ei : (4 : Int32) * nI f + (0 : Int32) = nI (4 * f) := by rw [y4, pk_mul, y0, nI_add]; rfl
    have ld : ldI τ (some 71) (nI (4 * f)) = some (nI (ro (sR S) f)) := by rw [ldI_lo _ _ _ (by decide), A71 h.1 _ (by omega), bnd, nI_clamp (by omega), e71]
    have wi := wi_m (N := N) h.1 (i := pin (sQ S)) (x := ro (sR S) f - k) h.2.1.2.2.2.2.1.1.2.1 b2.2.1 (by omega)
    have hle := wi_le (pin (sQ S)) (ro (sR S) f - k)
    generalize hx : wiN (pin (sQ S)) (ro (sR S) f - k) = x at wi hle
    have st : stI τ (some 72) (nI (4 * f)) (nI x) = some (setI τ 72 (4 * f) (nI x)) := by unfold stI; rw [A72 h.1 _ (by omega), bnd, nI_clamp (by omega)]
    have fr : Fr (rS 72) τ (setI τ 72 (4 * f) (nI x)) := set72_fr (by omega)
    have h1 := h.row fr
    have q29' : qR (setI τ 72 (4 * f) (nI x)) 12 29 (some 60) = some (some 72) := by simp only [qR, PN h1.1, bnd]
    obtain ⟨x0, _, hg0⟩ := hg
    have g72 : ∀ j, j < pn (sQ S) → mi (setI τ 72 (4 * f) (nI x)) 72 (4 * j) = nI (gUp (gN (sQ S) (sR S)) f x j) := fun j hj => by
      have := hg0 j hj
      unfold gUp at this ⊢
      by_cases w : j = f
      · rw [w, mi_eq, if_pos rfl]
      · rw [if_neg w] at this ⊢
        rw [mi_ne _ _ (by omega)]; exact this
    have g9 : ∀ j, j < pn (sQ S) → gUp (gN (sQ S) (sR S)) f x j ≤ 999 := fun j _ => by
      unfold gUp
      split
      · exact hle
      · exact g_le _ _ j
    have nx := nextIn_m (N := N) h1.1 (.inr rfl) h1.n24 h6 (M := 0) (by decide) (fun j hj => ⟨g72 j hj, g9 j hj⟩) (by omega)
    have sp := nxt_spec (gUp (gN (sQ S) (sR S)) f x) 0 (pn (sQ S)) 0 none (fun j hj => absurd hj (Nat.not_lt_zero _))
    rw [Nat.zero_add] at sp
    have b0 : ∀ j, bt 0 j = 0 := fun j => by unfold bt; simp
    have e0 : fc12_forgiven_21 N (fu + 1) (some 60) (nI f) (nI k) τ = if oI (nxt (gUp (gN (sQ S) (sR S)) f x) 0 (pn (sQ S)) 0 none) = nI f then fc12_forgiven_21 N fu (some 60) (nI f) (nI (k + 1)) (setI τ 72 (4 * f) (nI x)) else some (nI k, setI τ 72 (4 * f) (nI x)) := by
      rw [fc12_forgiven_21, q28, bnd, ei, ld, bnd, if_neg (nI_nlt (by omega) (by omega)), q29, bnd, bnd, ld, bnd, d60 h.1, bnd, pk_sub (show k ≤ ro (sR S) f by omega), wi, bnd, st, bnd, q29', bnd, d60 h1.1, bnd]
      show (fc12_nextIn N 60 (some 72) (nI 0) _).bind _ = _
      rw [nx, bnd, nI_1]
    rw [e0]
    unfold frN
    rw [hx]
    cases hb2 : nxt (gUp (gN (sQ S) (sR S)) f x) 0 (pn (sQ S)) 0 none with
    | none =>
      exfalso
      rw [hb2] at sp
      have := sp f hf
      rw [b0] at this
      cases this
    | some bb =>
      rw [hb2] at sp
      obtain ⟨s1, s2, s3⟩ := sp
      have eq : oI (some bb) = nI f ↔ bb = f := nI_eq (by omega) (by omega)
      by_cases c : bb = f
      · have hz : rkN (gUp (gN (sQ S) (sR S)) f x) f (pn (sQ S)) 0 0 = 0 := rk_0.mpr (fun j hj w => by
          by_cases e : j = f
          · rw [e] at w; exact bef_self _ f w
          · have := s3 j hj (b0 j) (by omega)
            rw [c] at this
            exact (bef_not (fun w => e w.symm)).mp this w)
        obtain ⟨σ2, z1, z2, z3⟩ := forg21_m hf m (k + 1) fu _ (by omega) (by omega) h1 ⟨x, hle, g72⟩
        rw [if_pos (eq.mpr c), if_pos hz]
        exact ⟨σ2, z1, (fr.mono (fun a j e => rS_m e)).tr z2, z3⟩
      · have hz : ¬ rkN (gUp (gN (sQ S) (sR S)) f x) f (pn (sQ S)) 0 0 = 0 := fun w => (rk_0.mp w) bb s1 (s3 f hf (b0 f) (fun e => c e.symm))
        rw [if_neg (fun w => c (eq.mp w)), if_neg hz]
        exact ⟨_, rfl, fr.mono (fun a j e => rS_m e), h1⟩
theorem forgiven_m (h : Qm N σ S) {f : Nat} (hf : f < pn (sQ S)) : Am S σ (oI (frN (sQ S) (sR S) f (ro (sR S) f + 1) 0)) (fc12_forgiven N 60 (nI f) σ) := by
  have h6 := h.2.2.1.n6
  have hN := h.2.2.2.2.2
  obtain ⟨b1, b2, b3, -⟩ := h.2.2.1.hs.yes h.2.2.2.1
  have hb := (b3.2.2 f hf).1
  obtain ⟨σ1, l1, l2, l3, l4⟩ := lays_m h.th
  obtain ⟨σ2, z1, z2, z3⟩ := forg21_m (N := N) hf (ro (sR S) f + 1) 0 N σ1 (by omega) (by omega) l3 ⟨gN (sQ S) (sR S) f, g_le _ _ f, fun j hj => by
    unfold gUp
    by_cases e : j = f
    · rw [if_pos e, e]; exact l4 f hf
    · rw [if_neg e]; exact l4 j hj⟩
  refine Am.of (σ' := σ2) ?_ (l2.tr z2) z3
  rw [fc12_forgiven, th0 h.1, bnd, d60 h.th.1, bnd, mfield_y h.th.1 h.th.n24 h6 hf, bnd, if_neg one_z, d60 h.th.1, bnd, l1, bnd]
  exact z1
theorem forgiven_mn (h : Sh σ) (hr : RM σ S) (hw : WS S) {x : Int32} (hx : x < 0 ∨ nI (pn (sQ S)) ≤ x) : fc12_forgiven N 60 x σ = some (-1, setI σ 60 0 0) := by
  have h0 : Sh (setI σ 60 0 0) := h
  rw [fc12_forgiven, th0 h, bnd, d60 h0, bnd, mfield_n h0 (hr.th hw).n24 hx, bnd, if_pos rfl]
end TU
