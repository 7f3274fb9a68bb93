/-! the reference's side of the state -/
def RwA (σ : Me) (w o n : Nat) (r : Rw) : Prop := mi σ w (o + 24) = nI (rp r) ∧ mi σ w (o + 25) = nI (rt r) ∧ ∀ f, f < n → mi σ w (o + 4 * f) = nI (ro r f) ∧ mi σ w (o + (4 * f + 1)) = nI (rn r f) ∧ mi σ w (o + (4 * f + 2)) = nI (rw_ r f) ∧ mi σ w (o + (4 * f + 3)) = nI (rc r f)
def LgA (σ : Me) (w o c : Nat) (lg : Lg) : Prop := mi σ w (o + 26) = nI (min 60 c) ∧ ∀ j, j < min 60 c → mi σ w (o + (27 + 3 * j)) = nI (lg (c - min 60 c + j)).1 ∧ mi σ w (o + (27 + 3 * j + 1)) = nI (lg (c - min 60 c + j)).2.1 ∧ mi σ w (o + (27 + 3 * j + 2)) = nI (lg (c - min 60 c + j)).2.2
/-- a whole row is another row's copy -/
theorem RwM.toA {σ σ' : Me} {w w' o n : Nat} {r : Rw} (h : RwM σ w n r) (hn : n ≤ 6) (hc : ∀ j, j < 207 → mi σ' w' (o + j) = mi σ w j) : RwA σ' w' o n r :=
  ⟨by rw [hc _ (by omega)]; exact h.1, by rw [hc _ (by omega)]; exact h.2.1, fun f hf => by rw [hc _ (by omega), hc _ (by omega), hc _ (by omega), hc _ (by omega)]; exact h.2.2 f hf⟩
theorem LgM.toA {σ σ' : Me} {w w' o c : Nat} {lg : Lg} (h : LgM σ w c lg) (hc : ∀ j, j < 207 → mi σ' w' (o + j) = mi σ w j) : LgA σ' w' o c lg :=
  ⟨by rw [hc _ (by omega)]; exact h.1, fun j hj => by rw [hc _ (by omega), hc _ (by omega), hc _ (by omega)]; exact h.2 j hj⟩
theorem RwA.toM {σ σ' : Me} {w w' o n : Nat} {r : Rw} (h : RwA σ w o n r) (hn : n ≤ 6) (hc : ∀ j, j < 207 → mi σ' w' j = mi σ w (o + j)) : RwM σ' w' n r :=
  ⟨by rw [hc _ (by omega)]; exact h.1, by rw [hc _ (by omega)]; exact h.2.1, fun f hf => by rw [hc _ (by omega), hc _ (by omega), hc _ (by omega), hc _ (by omega)]; exact h.2.2 f hf⟩
theorem LgA.toM {σ σ' : Me} {w w' o c : Nat} {lg : Lg} (h : LgA σ w o c lg) (hc : ∀ j, j < 207 → mi σ' w' j = mi σ w (o + j)) : LgM σ' w' c lg :=
  ⟨by rw [hc _ (by omega)]; exact h.1, fun j hj => by rw [hc _ (by omega), hc _ (by omega), hc _ (by omega)]; exact h.2 j hj⟩
theorem RwA.cp {σ σ' : Me} {w w' o o' n : Nat} {r : Rw} (h : RwA σ w o n r) (hn : n ≤ 6) (hc : ∀ j, j < 207 → mi σ' w' (o' + j) = mi σ w (o + j)) : RwA σ' w' o' n r :=
  ⟨by rw [hc _ (by omega)]; exact h.1, by rw [hc _ (by omega)]; exact h.2.1, fun f hf => by rw [hc _ (by omega), hc _ (by omega), hc _ (by omega), hc _ (by omega)]; exact h.2.2 f hf⟩
theorem LgA.cp {σ σ' : Me} {w w' o o' c : Nat} {lg : Lg} (h : LgA σ w o c lg) (hc : ∀ j, j < 207 → mi σ' w' (o' + j) = mi σ w (o + j)) : LgA σ' w' o' c lg :=
  ⟨by rw [hc _ (by omega)]; exact h.1, fun j hj => by rw [hc _ (by omega), hc _ (by omega), hc _ (by omega)]; exact h.2 j hj⟩
theorem LgA.lg {σ : Me} {w o c : Nat} {lg lg' : Lg} (h : LgA σ w o c lg) (e : ∀ y, y < c → lg' y = lg y) : LgA σ w o c lg' :=
  ⟨h.1, fun j hj => by rw [e _ (by omega)]; exact h.2 j hj⟩
def TpM (σ : Me) (T : Tx) : Prop := mi σ 60 6 = nI T.1 ∧ ∀ k, k < T.1 → mi σ 61 k = sb (T.2 k)
def memoK (k o n w v s t : Nat) : Nat := 2000 * (50 * (10 * (31 * (21 * (1000 * (1 + k) + o) + n) + w) + v) + s) + t
def MemoM (σ : Me) (ls : List LwE) : Prop := ∀ z, z < 8191 → ml σ 73 z = 0 ∨ ∃ (k : Nat) (q : LwE) (o n w v s t : Nat), ls[k]? = some q ∧ o ≤ 999 ∧ n ≤ 20 ∧ w ≤ 30 ∧ v ≤ 9 ∧ s ≤ 49 ∧ t ≤ 1500 ∧ ml σ 73 z = lN (memoK k o n w v s t) ∧ mi σ 74 z = wrun (Lof o n w v s t) q.2.2 [] false
def LwM (σ : Me) (ls : List LwE) (hold : Option Nat) : Prop := mi σ 60 7 = nI ls.length ∧ mi σ 60 30 = oI hold ∧ (∀ (k : Nat) (q : LwE), ls[k]? = some q → mi σ 63 k = nI q.2.1.1 ∧ ∀ i, i < q.2.1.1 → mi σ 62 (240 * k + i) = sb (q.2.1.2 i)) ∧ MemoM σ ls
def PnM (σ : Me) (ps : List PnE) : Prop := mi σ 60 26 = nI ps.length ∧ ∀ (k : Nat) (q : PnE), ps[k]? = some q → mi σ 70 k = nI q.2.1 ∧ ∀ i, i < q.2.1 → mi σ 69 (3 * (16 * k + i)) = nI (q.2.2 i).1 ∧ mi σ 69 (3 * (16 * k + i) + 1) = nI (q.2.2 i).2.1 ∧ mi σ 69 (3 * (16 * k + i) + 2) = (q.2.2 i).2.2
def ImM (σ : Me) (n : Nat) : Im → Prop
  | none => mi σ 60 48 = nI 0
  | some q => mi σ 60 48 = nI 1 ∧ RwA σ 83 0 n q.1 ∧ LgA σ 83 0 (rt q.1) q.2
def AcM (σ : Me) (n : Nat) (lg : Lg) (acts : List Rw) : Prop := mi σ 60 39 = nI acts.length ∧ ∀ (i : Nat) (a : Rw), acts[i]? = some a → RwA σ 77 (207 * (acts.length - 1 - i)) n a ∧ LgA σ 77 (207 * (acts.length - 1 - i)) (rt a) lg
def HsM (σ : Me) (P : Pl) (r : Rw) (lg : Lg) (acts : List Rw) (img : Im) : Prop := PlM σ P ∧ RwM σ 71 (pn P) r ∧ LgM σ 71 (rt r) lg ∧ AcM σ (pn P) lg acts ∧ ImM σ (pn P) img
def FcM (σ : Me) (fs : List Fa) : Prop := mi σ 60 45 = nI fs.length ∧ ∀ (k : Nat) (q : Fa), fs[k]? = some q → mi σ 79 (4 * k) = nI q.1 ∧ mi σ 79 (4 * k + 1) = nI q.2.1 ∧ mi σ 79 (4 * k + 2) = nI q.2.2.1 ∧ mi σ 79 (4 * k + 3) = nI (if q.2.2.2 = true then 1 else 0)
def RM (σ : Me) (S : Sy) : Prop := TpM σ (sT S) ∧ LwM σ (sL S) (sH S) ∧ PnM σ (sP S) ∧ mi σ 60 31 = nI (sE S) ∧ HsM σ (sQ S) (sR S) (sG S) (sA S) (sI S) ∧ FcM σ (sF S)
/-- what a question to the reference writes -/
def mX : Nat → Nat → Bool := fun a j => (a == 60 && (j == 0 || j == 5 || (decide (8 ≤ j) && decide (j ≤ 14)) || j == 17 || j == 25 || j == 27 || j == 36 || j == 37 || j == 40)) || a == 64 || a == 66 || a == 68 || (a == 69 && decide (192 ≤ j)) || (a == 70 && j == 4) || (decide (72 ≤ a) && decide (a ≤ 76)) || a == 78 || (decide (80 ≤ a) && decide (a ≤ 82))
theorem mX_f : Sf mX := by
  have h : ∀ q ∈ rfL, mX q.1.1 q.1.2 = false := by decide +kernel
  exact h
theorem RwA.fr {X : Nat → Nat → Bool} {σ σ' : Me} {w o n : Nat} {r : Rw} (h : RwA σ w o n r) (k : Fr X σ σ') (h1 : ∀ j, X w j = false) : RwA σ' w o n r :=
  ⟨by rw [k.i (h1 _)]; exact h.1, by rw [k.i (h1 _)]; exact h.2.1, fun f hf => by rw [k.i (h1 _), k.i (h1 _), k.i (h1 _), k.i (h1 _)]; exact h.2.2 f hf⟩
theorem LgA.fr {X : Nat → Nat → Bool} {σ σ' : Me} {w o c : Nat} {lg : Lg} (h : LgA σ w o c lg) (k : Fr X σ σ') (h1 : ∀ j, X w j = false) : LgA σ' w o c lg :=
  ⟨by rw [k.i (h1 _)]; exact h.1, fun j hj => by rw [k.i (h1 _), k.i (h1 _), k.i (h1 _)]; exact h.2 j hj⟩
theorem TpM.fr {X : Nat → Nat → Bool} {σ σ' : Me} {T : Tx} (h : TpM σ T) (k : Fr X σ σ') (h1 : X 60 6 = false) (h2 : ∀ j, X 61 j = false) : TpM σ' T :=
  ⟨by rw [k.i h1]; exact h.1, fun j hj => by rw [k.i (h2 _)]; exact h.2 j hj⟩
theorem MemoM.fr {X : Nat → Nat → Bool} {σ σ' : Me} {ls : List LwE} (h : MemoM σ ls) (k : Fr X σ σ') (h1 : ∀ j, X 73 j = false ∧ X 74 j = false) : MemoM σ' ls := fun z hz => by
  rw [k.l (h1 _).1, k.i (h1 _).2]; exact h z hz
theorem LwM.fr {X : Nat → Nat → Bool} {σ σ' : Me} {ls : List LwE} {hold : Option Nat} (h : LwM σ ls hold) (k : Fr X σ σ') (h7 : X 60 7 = false) (h30 : X 60 30 = false) (h62 : ∀ j, X 62 j = false ∧ X 63 j = false) (hm : MemoM σ' ls) : LwM σ' ls hold :=
  ⟨by rw [k.i h7]; exact h.1, by rw [k.i h30]; exact h.2.1, fun i q e => ⟨by rw [k.i (h62 _).2]; exact (h.2.2.1 i q e).1, fun j hj => by rw [k.i (h62 _).1]; exact (h.2.2.1 i q e).2 j hj⟩, hm⟩
theorem PnM.fr {X : Nat → Nat → Bool} {σ σ' : Me} {ps : List PnE} (h : PnM σ ps) (k : Fr X σ σ') (h4 : ps.length ≤ 4) (h16 : ∀ (i : Nat) (q : PnE), ps[i]? = some q → q.2.1 ≤ 16) (h26 : X 60 26 = false) (h69 : ∀ j, j < 192 → X 69 j = false) (h70 : ∀ j, j < 4 → X 70 j = false) : PnM σ' ps := by
  refine ⟨by rw [k.i h26]; exact h.1, fun i q e => ?_⟩
  have hi : i < ps.length := by
    rcases Nat.lt_or_ge i ps.length with q | q
    · exact q
    · rw [List.getElem?_eq_none q] at e; cases e
  have h6 := h16 i q e
  obtain ⟨a1, a2⟩ := h.2 i q e
  refine ⟨by rw [k.i (h70 _ (by omega))]; exact a1, fun j hj => ?_⟩
  rw [k.i (h69 _ (by omega)), k.i (h69 _ (by omega)), k.i (h69 _ (by omega))]
  exact a2 j hj
theorem ImM.fr {X : Nat → Nat → Bool} {σ σ' : Me} {n : Nat} {img : Im} (h : ImM σ n img) (k : Fr X σ σ') (h48 : X 60 48 = false) (h83 : ∀ j, X 83 j = false) : ImM σ' n img := by
  cases img with
  | none =>
    have h : mi σ 60 48 = nI 0 := h
    show mi σ' 60 48 = nI 0
    rw [k.i h48]; exact h
  | some q =>
    obtain ⟨a1, a2, a3⟩ := h
    exact ⟨by rw [k.i h48]; exact a1, a2.fr k h83, a3.fr k h83⟩
theorem AcM.fr {X : Nat → Nat → Bool} {σ σ' : Me} {n : Nat} {lg : Lg} {acts : List Rw} (h : AcM σ n lg acts) (k : Fr X σ σ') (h39 : X 60 39 = false) (h77 : ∀ j, X 77 j = false) : AcM σ' n lg acts :=
  ⟨by rw [k.i h39]; exact h.1, fun i a e => ⟨(h.2 i a e).1.fr k h77, (h.2 i a e).2.fr k h77⟩⟩
theorem FcM.fr {X : Nat → Nat → Bool} {σ σ' : Me} {fs : List Fa} (h : FcM σ fs) (k : Fr X σ σ') (h45 : X 60 45 = false) (h79 : ∀ j, X 79 j = false) : FcM σ' fs :=
  ⟨by rw [k.i h45]; exact h.1, fun i q e => by rw [k.i (h79 _), k.i (h79 _), k.i (h79 _), k.i (h79 _)]; exact h.2 i q e⟩
theorem RM.fr {σ σ' : Me} {S : Sy} (h : RM σ S) (k : Fr mX σ σ') (hw : WS S) (hm : MemoM σ' (sL S)) : RM σ' S := by
  obtain ⟨h1, h2, h3, h4, ⟨h5, h6, h7, h8, h9⟩, h10⟩ := h
  refine ⟨h1.fr k rfl (fun _ => rfl), h2.fr k rfl rfl (fun _ => ⟨rfl, rfl⟩) hm, h3.fr k hw.2.2.2.2.1 (fun i q e => (hw.2.2.2.2.2.1 i q e).2.1) rfl (fun j hj => by simp [mX]; omega) (fun j hj => by simp [mX]; omega), ?_, ⟨?_, ?_, ?_, ?_, ?_⟩, ?_⟩
  · rw [k.i rfl]; exact h4
  · exact h5.fr k rfl (fun _ => ⟨rfl, rfl⟩)
  · exact h6.fr k (fun _ => rfl)
  · exact h7.fr k (fun _ _ => rfl)
  · exact h8.fr k rfl (fun _ => rfl)
  · exact h9.fr k rfl (fun _ => rfl)
  · exact h10.fr k rfl (fun _ => rfl)
/-- the law's cells of the reference -/
def JM (ls : List LwE) (hold : Option Nat) (τ : Me) : Prop := Sh τ ∧ LwM τ ls hold
/-- the reference before a question -/
def Qm (N : Nat) (σ : Me) (S : Sy) : Prop := Sh σ ∧ RM σ S ∧ WS S ∧ pn (sQ S) ≠ 0 ∧ PdM N (JM (sL S) (sH S)) (sq S) ∧ 9000 ≤ N
theorem Qm.fr {N : Nat} {σ σ' : Me} {S : Sy} (h : Qm N σ S) (k : Fr mX σ σ') (hm : MemoM σ' (sL S)) : Qm N σ' S := ⟨k.sh mX_f h.1, h.2.1.fr k h.2.2.1 hm, h.2.2.1, h.2.2.2.1, h.2.2.2.2.1, h.2.2.2.2.2⟩
theorem Qm.memo {N : Nat} {σ : Me} {S : Sy} (h : Qm N σ S) : MemoM σ (sL S) := h.2.1.2.1.2.2.2
section MB
variable {N : Nat} {σ : Me}
theorem cmp_lt (x y : Int64) : lg_cmp x y < 0 ↔ x.toInt < y.toInt := by
  have h := lg_cmp_ge x y
  rw [Int64.le_iff_toInt_le] at h
  rw [i_toInt_lt]
  rw [i_toInt_le] at h
  have e : (0 : Int32).toInt = 0 := rfl
  omega
theorem cmp_gt (x y : Int64) : 0 < lg_cmp x y ↔ y.toInt < x.toInt := by
  have h := lg_cmp_le x y
  rw [Int64.le_iff_toInt_le] at h
  rw [i_toInt_lt]
  rw [i_toInt_le] at h
  have e : (0 : Int32).toInt = 0 := rfl
  omega
theorem isIn_m (x : Int32) (a b : Int64) : fc12_isIn N (Int32.toInt64 x) a b σ = some (if a.toInt ≤ x.toInt ∧ x.toInt ≤ b.toInt then 1 else 0, σ) := by
  have e : (Int32.toInt64 x).toInt = x.toInt := Int32.toInt_toInt64 x
  unfold fc12_isIn
  by_cases c1 : x.toInt < a.toInt
  · rw [if_pos ((cmp_lt _ _).mpr (by rw [e]; exact c1)), if_neg (by omega)]; rfl
  · rw [if_neg (fun q => c1 (by have := (cmp_lt _ _).mp q; rw [e] at this; exact this))]
    by_cases c2 : b.toInt < x.toInt
    · rw [if_pos ((cmp_gt _ _).mpr (by rw [e]; exact c2)), if_neg (by omega)]; rfl
    · rw [if_neg (fun q => c2 (by have := (cmp_gt _ _).mp q; rw [e] at this; exact this)), if_pos (by omega)]; rfl
theorem isIn_y {j lo hi : Nat} {a b : Int64} (ha : a.toInt = lo) (hb : b.toInt = hi) (h1 : lo ≤ j) (h2 : j ≤ hi) (h3 : hi < 2 ^ 31) : fc12_isIn N (Int32.toInt64 (nI j)) a b σ = some (1, σ) := by
  rw [isIn_m, ha, hb, nI_toInt (by omega), if_pos (by omega)]
theorem isIn_n {x : Int32} {lo hi : Nat} {a b : Int64} (ha : a.toInt = lo) (hb : b.toInt = hi) (h3 : hi < 2 ^ 31) (hx : ¬ ∃ j : Nat, lo ≤ j ∧ j ≤ hi ∧ x = nI j) : fc12_isIn N (Int32.toInt64 x) a b σ = some (0, σ) := by
  rw [isIn_m, ha, hb, if_neg]
  rintro ⟨h1, h2⟩
  obtain ⟨j, hj, rfl⟩ := nI_of (x := x) (by
    rw [i_toInt_lt]
    have e : (0 : Int32).toInt = 0 := rfl
    omega)
  rw [nI_toInt hj] at h1 h2
  exact hx ⟨j, by omega, by omega, rfl⟩
theorem mrain_y {j : Nat} (hj : j ≤ 99) : fc12_isRain N (nI j) σ = some (1, σ) := by
  unfold fc12_isRain
  rw [isIn_y (lo := 0) (hi := 99) rfl rfl (by omega) hj (by decide), bnd]
  rfl
theorem mrain_n {x : Int32} (hx : ¬ ∃ j : Nat, j ≤ 99 ∧ x = nI j) : fc12_isRain N x σ = some (0, σ) := by
  unfold fc12_isRain
  rw [isIn_n (lo := 0) (hi := 99) rfl rfl (by decide) (fun ⟨j, _, h1, h2⟩ => hx ⟨j, h1, h2⟩), bnd]
  rfl
theorem mfield_y (h : Sh σ) {n j : Nat} (hn : mi σ 60 24 = nI n) (h6 : n ≤ 6) (hj : j < n) : fc12_isField N 60 (nI j) σ = some (1, σ) := by
  have c : ¬ n ≤ j := by omega
  have c0 := nI_pos (n := j) (by omega)
  simp (disch := omega) only [fc12_isField, c0, qI, PN h, bnd, hn, nI_leI, c, if_true, if_false, ↓reduceIte, and_true, true_and, and_false, false_and, not_true_eq_false, not_false_eq_true, and_self, retZ1]
theorem mfield_n (h : Sh σ) {n : Nat} {x : Int32} (hn : mi σ 60 24 = nI n) (hx : x < 0 ∨ nI n ≤ x) : fc12_isField N 60 x σ = some (0, σ) := by
  unfold fc12_isField
  by_cases c : x < 0
  · rw [if_pos c]; rfl
  · rw [if_neg c]
    simp only [qI, PN h, bnd, hn]
    rw [if_pos (hx.resolve_left c)]
    rfl
/-- each call of the reference begins so -/
theorem th0 (h : Sh σ) : pI σ 12 0 (some 60) 0 = some (setI σ 60 0 0) := by
  simp only [pI, PN h, bnd]
theorem th0_fr : Fr mX σ (setI σ 60 0 0) := fr_I rfl (Fr.rf _ _)
theorem Qm.th {S : Sy} (h : Qm N σ S) : Qm N (setI σ 60 0 0) S := h.fr th0_fr (h.memo.fr (X := fun a _ => a == 60) (fr_I rfl (Fr.rf _ _)) (fun _ => ⟨rfl, rfl⟩))
theorem RM.th {S : Sy} (h : RM σ S) (hw : WS S) : RM (setI σ 60 0 0) S := h.fr th0_fr hw (h.2.1.2.2.2.fr (X := fun a _ => a == 60) (fr_I rfl (Fr.rf _ _)) (fun _ => ⟨rfl, rfl⟩))
/-- the trial row -/
def TrM (τ : Me) (P : Pl) (r : Rw) : Prop := RwM τ 72 (pn P) r ∧ ∃ c lg, LgM τ 72 c lg
theorem copy_m (h : Sh σ) {n : Nat} {r : Rw} (hr : RwM σ 71 n r) (hn : n ≤ 6) (hN : 100 ≤ N) : ∃ σ' : Me, fc12_copy N (some 71) (some 72) σ = some ((), σ') ∧ Fr (fun a _ => a == 72) σ σ' ∧ RwM σ' 72 n r ∧ LgM σ' 72 0 (fun _ => (0, 0, 0)) := by
  have x1 : fc12_copy N (some 71) (some 72) σ = fc12_copy_2 N N (some 71) (some 72) (nI 0) σ := rfl
  rw [x1]
  refine lp (fun fu k τ => fc12_copy_2 N fu (some 71) (some 72) (nI k) τ) (fun k τ => Fr (fun a _ => a == 72) σ τ ∧ ∀ j, j < k → mi τ 72 j = mi σ 71 j) (fun o => ∃ σ' : Me, o = some ((), σ') ∧ Fr (fun a _ => a == 72) σ σ' ∧ RwM σ' 72 n r ∧ LgM σ' 72 0 (fun _ => (0, 0, 0))) 26 ?_ ?_ 26 0 N σ (by omega) (by omega) ⟨Fr.rf _ _, fun j hj => by omega⟩
  · rintro fu τ ⟨i1, i2⟩
    have hτ : Sh τ := i1.sh (by
      have h : ∀ q ∈ rfL, (fun a _ : Nat => a == 72) q.1.1 q.1.2 = false := by decide +kernel
      exact h) h
    refine ⟨setI τ 72 26 0, ?_, fr_I rfl i1, ⟨?_, ?_, fun f hf => ?_⟩, mi_eq _ _ _ _, fun j hj => by rw [Nat.min_zero] at hj; omega⟩
    · have c : (26 : Nat) ≤ 26 := by decide
      simp (disch := omega) only [fc12_copy_2, y26, nI_leI, c, if_true, if_false, ↓reduceIte, and_true, true_and, and_false, false_and, not_true_eq_false, not_false_eq_true, and_self, stI, A72 hτ, bnd, nI_clamp]
    · rw [mi_ne _ _ (by omega), i2 _ (by omega)]; exact hr.1
    · rw [mi_ne _ _ (by omega), i2 _ (by omega)]; exact hr.2.1
    · rw [mi_ne _ _ (by omega), i2 _ (by omega), mi_ne _ _ (by omega), i2 _ (by omega), mi_ne _ _ (by omega), i2 _ (by omega), mi_ne _ _ (by omega), i2 _ (by omega)]
      exact hr.2.2 f hf
  · rintro fu k τ hk ⟨i1, i2⟩
    have hτ : Sh τ := i1.sh (by
      have h : ∀ q ∈ rfL, (fun a _ : Nat => a == 72) q.1.1 q.1.2 = false := by decide +kernel
      exact h) h
    refine .inl ⟨setI τ 72 k (mi σ 71 k), ?_, fr_I rfl i1, fun j hj => ?_⟩
    · have c : ¬ 26 ≤ k := by omega
      have e : mi τ 71 k = mi σ 71 k := i1.i rfl
      simp (disch := omega) only [fc12_copy_2, y26, nI_leI, c, if_true, if_false, ↓reduceIte, and_true, true_and, and_false, false_and, not_true_eq_false, not_false_eq_true, and_self, ldI_lo, stI, A71 hτ, A72 hτ, bnd, nI_clamp, e, nI_1]
    · by_cases e : j = k
      · subst e; rw [mi_eq]
      · rw [mi_ne _ _ (by omega)]; exact i2 j (by omega)
theorem f72_m {σ' : Me} (h : Fr (fun a _ => a == 72) σ σ') : Fr mX σ σ' := h.mono (fun a j e => by
  simp only [mX, Bool.or_eq_false_iff, Bool.and_eq_false_iff, decide_eq_false_iff_not, beq_eq_false_iff_ne] at e ⊢
  omega)
theorem y72_m {a j : Nat} (h : mX a j = false) : yS 72 a j = false := by
  simp only [mX, yS, oS, mS, Bool.or_eq_false_iff, Bool.and_eq_false_iff, decide_eq_false_iff_not, beq_eq_false_iff_ne] at h ⊢
  omega
theorem Qm.copy {S : Sy} (h : Qm N σ S) : ∃ σ' : Me, fc12_copy N (some 71) (some 72) σ = some ((), σ') ∧ Fr mX σ σ' ∧ Fr (fun a _ => a == 72) σ σ' ∧ Qm N σ' S ∧ TrM σ' (sQ S) (sR S) := by
  obtain ⟨σ', c1, c2, c3, c4⟩ := copy_m (N := N) h.1 h.2.1.2.2.2.2.1.2.1 h.2.2.1.n6 (by have := h.2.2.2.2.2; omega)
  exact ⟨σ', c1, f72_m c2, c2, h.fr (f72_m c2) (h.memo.fr c2 (fun _ => ⟨rfl, rfl⟩)), c3, 0, _, c4⟩
/-- a year of the trial -/
theorem Qm.year {S : Sy} (h : Qm N σ S) {r' : Rw} (hT : TrM σ (sQ S) r') (hR : RwB (pn (sQ S)) r') {rain : Nat} (hr : rain ≤ 99) : ∃ σ' : Me, fc12_goYear N 60 (some 72) (nI rain) σ = some ((), σ') ∧ Fr mX σ σ' ∧ Fr (yS 72) σ σ' ∧ Qm N σ' S ∧ TrM σ' (sQ S) (yrY (sQ S) (sq S) r' rain) ∧ YkM σ' (sQ S) (sq S) r' rain := by
  obtain ⟨h1, h2, h3, h4, h5, h6⟩ := id h
  obtain ⟨a1, a2, -⟩ := h3.hs.yes h4
  obtain ⟨t1, c, lg, t2⟩ := hT
  obtain ⟨σ', g1, g2, g3, g4, g5, g6⟩ := goYear_m h5 (qOf_B _ _) (w := 72) (.inr rfl) (c := c) (lg := lg) a2 hR a1 hr (by omega) ⟨h1, h2.2.1⟩ h2.2.2.2.2.1.1 t1 t2
  have g2m : Fr mX σ σ' := g2.mono (fun a j e => y72_m e)
  exact ⟨σ', g1, g2m, g2, h.fr g2m g3.2.2.2.2, ⟨g4, _, _, g5⟩, g6⟩
theorem Qm.tries {S : Sy} (h : Qm N σ S) {rain : Nat} (hr : rain ≤ 99) : ∃ σ' : Me, fc12_tries N 60 (nI rain) σ = some ((), σ') ∧ Fr mX σ σ' ∧ Qm N σ' S ∧ TrM σ' (sQ S) (yrY (sQ S) (sq S) (sR S) rain) ∧ YkM σ' (sQ S) (sq S) (sR S) rain := by
  obtain ⟨a1, a2, a3, -⟩ := h.2.2.1.hs.yes h.2.2.2.1
  obtain ⟨σ1, c1, c2, -, c3, c4⟩ := h.copy
  obtain ⟨σ2, g1, g2, -, g3, g4, g5⟩ := c3.year c4 a3 hr
  refine ⟨σ2, ?_, c2.tr g2, g3, g4, g5⟩
  simp only [fc12_tries, qR, PN h.1, bnd, c1, PN c3.1, g1]
end MB
