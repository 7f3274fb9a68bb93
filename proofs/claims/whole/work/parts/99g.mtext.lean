/-! the reference's text, where it stands, its fault -/
def paX : Nat → Nat → Bool := fun a j => a == 60 && (j == 10 || j == 11 || j == 12)
theorem paX_f : Sf paX := by
  have h : ∀ q ∈ rfL, paX q.1.1 q.1.2 = false := by decide +kernel
  exact h
def TxS (σ : Me) (a b : Nat) (T : Tx) : Prop := mr σ 60 5 = some a ∧ mi σ 60 8 = nI b ∧ mi σ 60 9 = nI T.1 ∧ (∀ i, i < T.1 → mi σ a (b + i) = sb (T.2 i)) ∧ ((a = 61 ∧ b = 0) ∨ (a = 62 ∧ b ≤ 720))
def LtS (B : Prop) (L : Nat → Int32) (σ : Me) : Prop := B → ∀ c, ltrI c ≠ 0 → mi σ 64 c = L (ltrI c - 1) ∧ Bd (L (ltrI c - 1))
def Cx (B : Prop) (L : Nat → Int32) (a b : Nat) (T : Tx) (σ : Me) : Prop := Sh σ ∧ TxS σ a b T ∧ LtS B L σ
theorem Cx.fr {B : Prop} {L : Nat → Int32} {a b : Nat} {T : Tx} {σ σ' : Me} (h : Cx B L a b T σ) (f : Fr paX σ σ') : Cx B L a b T σ' := by
  obtain ⟨h1, ⟨h2, h3, h4, h5, h6⟩, h7⟩ := h
  refine ⟨f.sh paX_f h1, ⟨by rw [f.r rfl]; exact h2, by rw [f.i rfl]; exact h3, by rw [f.i rfl]; exact h4, fun i hi => ?_, h6⟩, fun hB c hc => by rw [f.i rfl]; exact h7 hB c hc⟩
  rw [f.i]
  · exact h5 i hi
  · rcases h6 with ⟨rfl, -⟩ | ⟨rfl, -⟩ <;> rfl
/-- what a look shows: nothing behind the end -/
def lk (c : Nat) : Int32 := if c = 0 then -1 else nI c
theorem lkI {c k : Nat} {x : Int32} (hx : x = nI k) (hc : c < 256) (hk : 0 < k) (hk2 : k < 256) : lk c = x ↔ c = k := by
  unfold lk
  split
  · rename_i e
    rw [hx]
    exact ⟨fun w => absurd w.symm (nI_m1 (by omega)), fun w => by omega⟩
  · rw [hx]; exact nI_eq (by omega) (by omega)
theorem lk_m1 {c : Nat} (hc : c < 256) : lk c = -1 ↔ c = 0 := by
  unfold lk
  split
  · rename_i e
    exact ⟨fun _ => e, fun _ => rfl⟩
  · rename_i e
    exact ⟨fun w => absurd w (nI_m1 (by omega)), fun w => absurd w e⟩
section MT
variable {N : Nat} {σ : Me} {B : Prop} {L : Nat → Int32} {a b : Nat} {T : Tx} {p : Nat}
theorem mq (h : Sh σ) {j : Nat} {x : Int32} (e : mi σ 60 j = x) : qI σ 12 j (some 60) = some x := by simp only [qI, PN h, bnd, e]
theorem mp (h : Sh σ) (j : Nat) (x : Int32) : pI σ 12 j (some 60) x = some (setI σ 60 j x) := by simp only [pI, PN h, bnd]
theorem d60 (h : Sh σ) : dr σ (some 60) (.inl 12) = some 60 := (PN h).1
theorem mq5 (hC : Cx B L a b T σ) : qR σ 12 5 (some 60) = some (some a) := by simp only [qR, PN hC.1, bnd, hC.2.1.1]
theorem mld (hC : Cx B L a b T σ) (hT : txOK T) (hp : p < T.1) : ldB σ (some a) (nI b + nI p) = some (sb (T.2 p)) := by
  have h2 := hT.1
  have e := hC.2.1.2.2.2.1 p hp
  rw [nI_add]
  rcases hC.2.1.2.2.2.2 with ⟨rfl, rfl⟩ | ⟨rfl, hb⟩
  · rw [ldB_lo _ _ _ (by decide), A61 hC.1 _ (by omega), bnd, nI_clamp (by omega), e]
  · rw [ldB_lo _ _ _ (by decide), A62 hC.1 _ (by omega), bnd, nI_clamp (by omega), e]
theorem look43_m (hC : Cx B L a b T σ) (hT : txOK T) (hp : mi σ 60 10 = nI p) (hpl : p ≤ T.1) : fc12_look_43 N (some 60) σ = some (lk (chr T p), σ) := by
  have h2 := hT.1
  unfold fc12_look_43
  rw [mq hC.1 hp, bnd, mq hC.1 hC.2.1.2.2.1, bnd]
  by_cases c : T.1 ≤ p
  · rw [if_pos (nI_le c (by omega)), chr_hi c]; rfl
  · have hb := hT.2 p (by omega)
    rw [if_neg (nI_ge (by omega) (by omega)), mq5 hC, bnd, mq hC.1 hC.2.1.2.1, bnd, bnd, mld hC hT (by omega), bnd, sb_and _ hb.2, chr_lo (by omega)]
    unfold lk
    rw [if_neg (by omega)]
theorem look0_m (hT : txOK T) : ∀ (m p fu : Nat) (σ : Me), p + m = T.1 → m < fu → Cx B L a b T σ → mi σ 60 10 = nI p → ∃ σ' : Me, fc12_look_0 N fu (some 60) σ = some (lk (chr T (nx T p)), σ') ∧ Fr (fun a j => a == 60 && j == 10) σ σ' ∧ mi σ' 60 10 = nI (nx T p)
  | _, _, 0, _, _, h0, _, _ => absurd h0 (Nat.not_lt_zero _)
  | 0, p, fu + 1, σ, hm, _, hC, hp => by
    have h2 := hT.1
    have c : T.1 ≤ p := by omega
    rw [nx_end c]
    refine ⟨σ, ?_, Fr.rf _ _, hp⟩
    rw [fc12_look_0, mq hC.1 hp, bnd, mq hC.1 hC.2.1.2.2.1, bnd, if_pos (nI_le c (by omega))]
    exact look43_m hC hT hp (by omega)
  | m + 1, p, fu + 1, σ, hm, h0, hC, hp => by
    have h2 := hT.1
    have c : p < T.1 := by omega
    have hb := hT.2 p c
    have e0 : fc12_look_0 N (fu + 1) (some 60) σ = if sb (T.2 p) = (32 : Int32) then (pI σ 12 10 (some 60) (nI p + (1 : Int32))).bind fun σ37 => fc12_look_0 N fu (some 60) σ37 else fc12_look_43 N (some 60) σ := by
      rw [fc12_look_0, mq hC.1 hp, bnd, mq hC.1 hC.2.1.2.2.1, bnd, if_neg (nI_ge c (by omega)), mq5 hC, bnd, mq hC.1 hC.2.1.2.1, bnd, bnd, mld hC hT c, bnd, bnd]
    rw [e0]
    by_cases e : T.2 p = 32
    · have e1 : chr T p = 32 := by rw [chr_lo c]; exact e
      have f : Fr paX σ (setI σ 60 10 (nI (p + 1))) := fr_I rfl (Fr.rf _ _)
      rw [if_pos ((sb_32 _ hb.2).mpr e), mp hC.1, bnd, nx_step e1, nI_1]
      obtain ⟨σ', q1, q2, q3⟩ := look0_m hT m (p + 1) fu (setI σ 60 10 (nI (p + 1))) (by omega) (by omega) (hC.fr f) (mi_eq _ _ _ _)
      exact ⟨σ', q1, (fr_I rfl (Fr.rf _ _)).tr q2, q3⟩
    · have e1 : chr T p ≠ 32 := by rw [chr_lo c]; exact e
      rw [if_neg (fun w => e ((sb_32 _ hb.2).mp w)), nx_stop e1]
      exact ⟨σ, look43_m hC hT hp (by omega), Fr.rf _ _, hp⟩
/-- before a reading: the place, no fault, how deep -/
def Ps (B : Prop) (L : Nat → Int32) (a b : Nat) (T : Tx) (σ : Me) (p g : Nat) : Prop := Cx B L a b T σ ∧ mi σ 60 10 = nI p ∧ mi σ 60 11 = -1 ∧ mi σ 60 12 = nI g ∧ p ≤ T.1
theorem look_m {g : Nat} (h : Ps B L a b T σ p g) (hT : txOK T) (hN : 300 ≤ N) : ∃ σ' : Me, fc12_look N 60 σ = some (lk (chr T (nx T p)), σ') ∧ Fr paX σ σ' ∧ Ps B L a b T σ' (nx T p) g := by
  obtain ⟨σ', q1, q2, q3⟩ := look0_m (N := N) (B := B) (L := L) (a := a) (b := b) hT (T.1 - p) p N σ (by have := h.2.2.2.2; omega) (by have := hT.1; omega) h.1 h.2.1
  have f : Fr paX σ σ' := q2.mono (fun a j e => by
    simp only [paX, Bool.and_eq_false_iff, Bool.or_eq_false_iff, beq_eq_false_iff_ne] at e ⊢
    omega)
  exact ⟨σ', q1, f, h.1.fr f, q3, by rw [q2.i rfl]; exact h.2.2.1, by rw [q2.i rfl]; exact h.2.2.2.1, nx_le h.2.2.2.2⟩
/-- the place is one further -/
theorem Ps.step {g : Nat} (h : Ps B L a b T σ p g) (hp : p < T.1) : qI σ 12 10 (some 60) = some (nI p) ∧ pI σ 12 10 (some 60) (nI p + (1 : Int32)) = some (setI σ 60 10 (nI (p + 1))) ∧ Fr paX σ (setI σ 60 10 (nI (p + 1))) ∧ Ps B L a b T (setI σ 60 10 (nI (p + 1))) (p + 1) g := by
  have f : Fr paX σ (setI σ 60 10 (nI (p + 1))) := fr_I rfl (Fr.rf _ _)
  refine ⟨mq h.1.1 h.2.1, by rw [nI_1]; exact mp h.1.1 _ _, f, h.1.fr f, mi_eq _ _ _ _, ?_, ?_, hp⟩
  · rw [mi_ne _ _ (by omega)]; exact h.2.2.1
  · rw [mi_ne _ _ (by omega)]; exact h.2.2.2.1
/-- a fault is noted -/
theorem fails_m {g : Nat} (h : Ps B L a b T σ p g) : fc12_fails N 60 σ = some (0, setI σ 60 11 (nI p)) ∧ Fr paX σ (setI σ 60 11 (nI p)) ∧ mi (setI σ 60 11 (nI p)) 60 11 = nI p := by
  refine ⟨?_, fr_I rfl (Fr.rf _ _), mi_eq _ _ _ _⟩
  rw [fc12_fails, mq h.1.1 h.2.2.1, bnd, if_pos rfl, mq h.1.1 h.2.1, bnd, mp h.1.1, bnd, retZ0]
theorem fails_2 (h : Sh σ) {f : Nat} (hf : f < 1000) (e : mi σ 60 11 = nI f) : fc12_fails N 60 σ = some (0, σ) := by
  rw [fc12_fails, mq h e, bnd, if_neg (nI_m1 (by omega)), retZ0]
theorem takes_m {g : Nat} (h : Ps B L a b T σ p g) (hT : txOK T) (hN : 300 ≤ N) {c : Nat} (hc0 : 0 < c) (hc : c < 256) : (chr T (nx T p) = c → ∃ σ' : Me, fc12_takes N 60 (nI c) σ = some (1, σ') ∧ Fr paX σ σ' ∧ Ps B L a b T σ' (nx T p + 1) g) ∧ (chr T (nx T p) ≠ c → ∃ σ' : Me, fc12_takes N 60 (nI c) σ = some (0, σ') ∧ Fr paX σ σ' ∧ mi σ' 60 11 = nI (nx T p)) := by
  obtain ⟨σ1, q1, q2, q3⟩ := look_m (N := N) h hT hN
  have hb := chr_lt hT (nx T p)
  have e0 : fc12_takes N 60 (nI c) σ = if lk (chr T (nx T p)) = nI c then (qI σ1 12 10 (some 60)).bind fun v23 => (pI σ1 12 10 (some 60) (v23 + (1 : Int32))).bind fun σ28 => retZ (1 : Int32) σ28 else fc12_takes_16 N (some 60) σ1 := by
    rw [fc12_takes, mq h.1.1 h.2.2.1, bnd, if_pos rfl, d60 h.1.1, bnd, q1, bnd]
  rw [e0]
  refine ⟨fun e => ?_, fun e => ?_⟩
  · obtain ⟨s1, s2, s3, s4⟩ := q3.step (chr_in (by omega))
    rw [if_pos ((lkI rfl hb hc0 hc).mpr e), s1, bnd, s2, bnd, retZ1]
    exact ⟨_, rfl, q2.tr s3, s4⟩
  · obtain ⟨s1, s2, s3⟩ := fails_m (N := N) q3
    rw [if_neg (fun w => e ((lkI rfl hb hc0 hc).mp w)), fc12_takes_16, d60 q3.1.1, bnd, s1, bnd, retZ0]
    exact ⟨_, rfl, q2.tr s2, s3⟩
theorem takes_2 (h : Sh σ) {f : Nat} (hf : f < 1000) (e : mi σ 60 11 = nI f) (x : Int32) : fc12_takes N 60 x σ = some (0, σ) := by
  rw [fc12_takes, mq h e, bnd, if_neg (nI_m1 (by omega)), fc12_takes_16, d60 h, bnd, fails_2 h hf e, bnd, retZ0]
theorem isDigit_m (hC : Cx B L a b T σ) (hT : txOK T) (hp : mi σ 60 10 = nI p) (hpl : p ≤ T.1) : fc12_isDigit N 60 σ = some (if isD (chr T p) = true then 1 else 0, σ) := by
  have h2 := hT.1
  unfold fc12_isDigit
  rw [mq hC.1 hp, bnd, mq hC.1 hC.2.1.2.2.1, bnd]
  by_cases c : T.1 ≤ p
  · rw [if_pos (nI_le c (by omega)), chr_hi c, retZ0]; rfl
  · have hb := hT.2 p (by omega)
    have hd := sb_dig _ hb.2
    rw [if_neg (nI_ge (by omega) (by omega)), mq5 hC, bnd, mq hC.1 hC.2.1.2.1, bnd, bnd, mld hC hT (by omega), bnd, bnd, bnd, bnd, mld hC hT (by omega), bnd, chr_lo (by omega)]
    by_cases c1 : sb (T.2 p) < (48 : Int32)
    · rw [if_pos c1, hd.mp (.inl c1), retZ0]; rfl
    · rw [if_neg c1]
      by_cases c2 : (57 : Int32) < sb (T.2 p)
      · rw [if_pos c2, hd.mp (.inr c2), retZ0]; rfl
      · have e : isD (T.2 p) = true := by
          cases w : isD (T.2 p) with
          | true => rfl
          | false => exact absurd (hd.mpr w) (fun z => z.elim c1 c2)
        rw [if_neg c2, e, retZ1]; rfl
/-! a sign among some -/
def amL (x : Int32) : List Int32 → Int32
  | [] => 0
  | b :: bs => if b = x then 1 else amL x bs
theorem among2 {s n : Nat} {x : Int32} (hn : n < 100) (hd : drS (some s) = some s) (hl : fSr_length N s σ = some (nI n, σ)) : ∀ (L : List Int32) (k fu : Nat), k + L.length = n → L.length < fu → (∀ (j : Nat) (b : Int32), L[j]? = some b → fSr_charAt N s (nI (k + j)) σ = some (b, σ)) → fc12_isAmong_2 N fu (some s) x (nI k) σ = some (amL x L, σ)
  | _, _, 0, _, h0, _ => absurd h0 (Nat.not_lt_zero _)
  | [], k, fu + 1, hk, _, _ => by
    simp only [List.length_nil] at hk
    rw [fc12_isAmong_2, hd, bnd, hl, bnd, if_pos (nI_le (by omega) (by omega)), retZ0]; rfl
  | b :: bs, k, fu + 1, hk, h0, hb => by
    simp only [List.length_cons] at hk h0
    have e := hb 0 b rfl
    rw [Nat.add_zero] at e
    rw [fc12_isAmong_2, hd, bnd, hl, bnd, if_neg (nI_ge (by omega) (by omega)), bnd, e, bnd]
    unfold amL
    by_cases c : b = x
    · rw [if_pos c, if_pos c, retZ1]
    · rw [if_neg c, if_neg c, nI_1]
      exact among2 hn hd hl bs (k + 1) fu (by omega) (by omega) (fun j b' e' => by
        have := hb (j + 1) b' (by rw [List.getElem?_cons_succ]; exact e')
        rw [show k + 1 + j = k + (j + 1) by omega]; exact this)
theorem spot2 {s n : Nat} {x : Int32} (hn : n < 100) (hd : drS (some s) = some s) (hl : fSr_length N s σ = some (nI n, σ)) : ∀ (L : List Int32) (k fu : Nat), k + L.length = n → L.length < fu → (∀ (j : Nat) (b : Int32), L[j]? = some b → fSr_charAt N s (nI (k + j)) σ = some (b, σ)) → fc12_spotOf_2 N fu (some s) x (nI k) σ = some (ixL x L k, σ)
  | _, _, 0, _, h0, _ => absurd h0 (Nat.not_lt_zero _)
  | [], k, fu + 1, hk, _, _ => by
    simp only [List.length_nil] at hk
    rw [fc12_spotOf_2, hd, bnd, hl, bnd, if_pos (nI_le (by omega) (by omega))]; rfl
  | b :: bs, k, fu + 1, hk, h0, hb => by
    simp only [List.length_cons] at hk h0
    have e := hb 0 b rfl
    rw [Nat.add_zero] at e
    rw [fc12_spotOf_2, hd, bnd, hl, bnd, if_neg (nI_ge (by omega) (by omega)), bnd, e, bnd]
    unfold ixL
    by_cases c : b = x
    · rw [if_pos c, if_pos c]
    · rw [if_neg c, if_neg c, nI_1]
      exact spot2 hn hd hl bs (k + 1) fu (by omega) (by omega) (fun j b' e' => by
        have := hb (j + 1) b' (by rw [List.getElem?_cons_succ]; exact e')
        rw [show k + 1 + j = k + (j + 1) by omega]; exact this)
/-- a word's length and signs -/
def Wrd (N : Nat) (σ : Me) (s n : Nat) (L : List Int32) : Prop := drS (some s) = some s ∧ fSr_length N s σ = some (nI n, σ) ∧ ∀ (j : Nat) (b : Int32), L[j]? = some b → fSr_charAt N s (nI (0 + j)) σ = some (b, σ)
theorem chk_m {i n : Nat} (hi : i < n) (hn : n < 100) : fSr_checkIndex N (nI i) (nI n) σ = some ((), σ) := by
  have e : fPr_checkIndex N (nI i) (nI n) () σ = some (nI i, σ) := by
    unfold fPr_checkIndex
    rw [if_neg (nI_pos (by omega)), if_pos (nI_lt hi (by omega))]
  unfold fSr_checkIndex
  rw [e, bnd]
theorem Wrd.of {s n : Nat} {L : List Int32} (ha : 1000020 ≤ s ∧ s < 1000029) (hl : kLn.getD (s + 20 - 1000040) 0 = n) (hb : kBy.getD (s + 20 - 1000040) [] = L) (hL : L.length = n) (hn : n < 100) (hch : ∀ b ∈ L, UInt32.toInt32 (Int32.toUInt32 (b &&& (255 : Int32)) % 65536) = b ∧ ∀ σ : Me, retN .char b σ = some (b, σ)) : Wrd N σ s n L := by
  have d : drS (some s) = some s := if_pos ha
  have v : sVl (some s) = some (some (s + 20)) := by unfold sVl; rw [d, bnd]
  have l : aLn σ .byte (some (s + 20)) = some (nI n) := by
    unfold aLn
    dsimp only
    rw [if_neg (by omega), if_neg (fun w => by cases w.1), if_pos ⟨rfl, by omega⟩, hl]
  have lat : fSr_isLatin1 N s σ = some (1, σ) := by
    unfold fSr_isLatin1 sCd
    rw [if_neg (by decide), d, bnd, bnd, if_pos rfl, retZ1]
  have len : fSr_length N s σ = some (nI n, σ) := by
    have cd : fSr_coder N s σ = some (0, σ) := by
      unfold fSr_coder sCd
      rw [if_neg (by decide), d, bnd, bnd]; rfl
    unfold fSr_length
    rw [v, bnd, l, bnd, d, bnd, cd, bnd]
    show some (nI n >>> ((0 : Int32) &&& 31), σ) = _
    rw [sh0 n hn]
  refine ⟨d, len, fun j b e => ?_⟩
  have hj : j < n := by
    rcases Nat.lt_or_ge j L.length with q | q
    · omega
    · rw [List.getElem?_eq_none q] at e; cases e
  have hm : b ∈ L := List.mem_of_getElem? e
  obtain ⟨m1, m2⟩ := hch b hm
  rw [Nat.zero_add]
  have ld : ldB σ (some (s + 20)) (nI j) = some b := by
    show (if s + 20 < 1000000 then _ else sldB (s + 20) (nI j)) = _
    rw [if_neg (by omega)]
    unfold sldB
    rw [nI_clamp (by omega), hl, if_pos ⟨by omega, nI_pos (by omega), hj⟩, hb, List.getD_eq_getElem?_getD, e]
    rfl
  unfold fSr_charAt fSl_charAt
  rw [d, bnd, lat, bnd, if_neg one_z, v, bnd, l, bnd, chk_m hj hn, bnd, ld, bnd, m1, m2, bnd, m2]
theorem among_m {s n : Nat} {L : List Int32} (hW : Wrd N σ s n L) (hL : L.length = n) (hn : n < 100) (hN : 300 ≤ N) (x : Int32) : fc12_isAmong N (some s) x σ = some (amL x L, σ) :=
  among2 hn hW.1 hW.2.1 L 0 N (by omega) (by omega) hW.2.2
theorem spot_m {s n : Nat} {L : List Int32} (hW : Wrd N σ s n L) (hL : L.length = n) (hn : n < 100) (hN : 300 ≤ N) (x : Int32) : fc12_spotOf N (some s) x σ = some (ixL x L 0, σ) :=
  spot2 hn hW.1 hW.2.1 L 0 N (by omega) (by omega) hW.2.2
theorem w_y : Wrd N σ 1000024 1 [121] := Wrd.of (by decide) rfl rfl rfl (by decide) (fun b hb => by
  have : ∀ b ∈ ([121] : List Int32), UInt32.toInt32 (Int32.toUInt32 (b &&& (255 : Int32)) % 65536) = b ∧ narrow .char (.int b) = .int b := by decide +kernel
  exact ⟨(this b hb).1, fun σ => if_pos (this b hb).2⟩)
theorem w_l : Wrd N σ 1000025 6 [111, 110, 119, 118, 115, 116] := Wrd.of (by decide) rfl rfl rfl (by decide) (fun b hb => by
  have : ∀ b ∈ ([111, 110, 119, 118, 115, 116] : List Int32), UInt32.toInt32 (Int32.toUInt32 (b &&& (255 : Int32)) % 65536) = b ∧ narrow .char (.int b) = .int b := by decide +kernel
  exact ⟨(this b hb).1, fun σ => if_pos (this b hb).2⟩)
theorem w_i : Wrd N σ 1000026 3 [105, 100, 112] := Wrd.of (by decide) rfl rfl rfl (by decide) (fun b hb => by
  have : ∀ b ∈ ([105, 100, 112] : List Int32), UInt32.toInt32 (Int32.toUInt32 (b &&& (255 : Int32)) % 65536) = b ∧ narrow .char (.int b) = .int b := by decide +kernel
  exact ⟨(this b hb).1, fun σ => if_pos (this b hb).2⟩)
theorem w_o : Wrd N σ 1000027 5 [111, 110, 119, 118, 99] := Wrd.of (by decide) rfl rfl rfl (by decide) (fun b hb => by
  have : ∀ b ∈ ([111, 110, 119, 118, 99] : List Int32), UInt32.toInt32 (Int32.toUInt32 (b &&& (255 : Int32)) % 65536) = b ∧ narrow .char (.int b) = .int b := by decide +kernel
  exact ⟨(this b hb).1, fun σ => if_pos (this b hb).2⟩)
theorem w_m : Wrd N σ 1000028 4 [121, 109, 104, 107] := Wrd.of (by decide) rfl rfl rfl (by decide) (fun b hb => by
  have : ∀ b ∈ ([121, 109, 104, 107] : List Int32), UInt32.toInt32 (Int32.toUInt32 (b &&& (255 : Int32)) % 65536) = b ∧ narrow .char (.int b) = .int b := by decide +kernel
  exact ⟨(this b hb).1, fun σ => if_pos (this b hb).2⟩)
theorem am_l : ∀ c, c < 256 → amL (lk c) [111, 110, 119, 118, 115, 116] = if ltrI c = 0 then 0 else 1 := by decide +kernel
theorem am_y : ∀ c, c < 256 → amL (lk c) [121] = if c = 121 then 1 else 0 := by decide +kernel
end MT
