/-! literals as numbers -/
theorem y0 : (0 : Int32) = nI 0 := rfl
theorem y1 : (1 : Int32) = nI 1 := rfl
theorem y2 : (2 : Int32) = nI 2 := rfl
theorem y3 : (3 : Int32) = nI 3 := rfl
theorem y4 : (4 : Int32) = nI 4 := rfl
theorem y5 : (5 : Int32) = nI 5 := rfl
theorem y6 : (6 : Int32) = nI 6 := rfl
theorem y7 : (7 : Int32) = nI 7 := rfl
theorem y8 : (8 : Int32) = nI 8 := rfl
theorem y9 : (9 : Int32) = nI 9 := rfl
theorem y10 : (10 : Int32) = nI 10 := rfl
theorem y12 : (12 : Int32) = nI 12 := rfl
theorem y15 : (15 : Int32) = nI 15 := rfl
theorem y16 : (16 : Int32) = nI 16 := rfl
theorem y18 : (18 : Int32) = nI 18 := rfl
theorem y20 : (20 : Int32) = nI 20 := rfl
theorem y21 : (21 : Int32) = nI 21 := rfl
theorem y23 : (23 : Int32) = nI 23 := rfl
theorem y24 : (24 : Int32) = nI 24 := rfl
theorem y25 : (25 : Int32) = nI 25 := rfl
theorem y26 : (26 : Int32) = nI 26 := rfl
theorem y27 : (27 : Int32) = nI 27 := rfl
theorem y28 : (28 : Int32) = nI 28 := rfl
theorem y30 : (30 : Int32) = nI 30 := rfl
theorem y31 : (31 : Int32) = nI 31 := rfl
theorem y32 : (32 : Int32) = nI 32 := rfl
theorem y36 : (36 : Int32) = nI 36 := rfl
theorem y40 : (40 : Int32) = nI 40 := rfl
theorem y48 : (48 : Int32) = nI 48 := rfl
theorem y50 : (50 : Int32) = nI 50 := rfl
theorem y57 : (57 : Int32) = nI 57 := rfl
theorem y58 : (58 : Int32) = nI 58 := rfl
theorem y59 : (59 : Int32) = nI 59 := rfl
theorem y60 : (60 : Int32) = nI 60 := rfl
theorem y61 : (61 : Int32) = nI 61 := rfl
theorem y72 : (72 : Int32) = nI 72 := rfl
theorem y79 : (79 : Int32) = nI 79 := rfl
theorem y99 : (99 : Int32) = nI 99 := rfl
theorem y100 : (100 : Int32) = nI 100 := rfl
theorem y101 : (101 : Int32) = nI 101 := rfl
theorem y110 : (110 : Int32) = nI 110 := rfl
theorem y111 : (111 : Int32) = nI 111 := rfl
theorem y115 : (115 : Int32) = nI 115 := rfl
theorem y116 : (116 : Int32) = nI 116 := rfl
theorem y118 : (118 : Int32) = nI 118 := rfl
theorem y119 : (119 : Int32) = nI 119 := rfl
theorem y121 : (121 : Int32) = nI 121 := rfl
theorem y128 : (128 : Int32) = nI 128 := rfl
theorem y177 : (177 : Int32) = nI 177 := rfl
theorem y192 : (192 : Int32) = nI 192 := rfl
theorem y207 : (207 : Int32) = nI 207 := rfl
theorem y239 : (239 : Int32) = nI 239 := rfl
theorem y240 : (240 : Int32) = nI 240 := rfl
theorem y255 : (255 : Int32) = nI 255 := rfl
theorem y297 : (297 : Int32) = nI 297 := rfl
theorem y999 : (999 : Int32) = nI 999 := rfl
theorem y1000 : (1000 : Int32) = nI 1000 := rfl
theorem y1040 : (1040 : Int32) = nI 1040 := rfl
theorem y1014 : (1014 : Int32) = nI 1014 := rfl
theorem y8073 : (8073 : Int32) = nI 8073 := rfl
theorem y8191 : (8191 : Int32) = nI 8191 := rfl
theorem y960 : (960 : Int32) = nI 960 := rfl
theorem y1000000 : (1000000 : Int32) = nI 1000000 := rfl
theorem dv_n {a d : Nat} (ha : a < 2 ^ 31) (h0 : 0 < d) (hd : d < 2 ^ 31) : dvI (nI a) (nI d) = some (nI (a / d)) := dv_k rfl ha h0 hd
theorem rm_n {a d : Nat} (ha : a < 2 ^ 31) (h0 : 0 < d) (hd : d < 2 ^ 31) : rmI (nI a) (nI d) = some (nI (a % d)) := rm_k rfl ha h0 hd
/-! a year, in numbers. A plain: fields, interest, drown, values; a row: owed, needs, water, coins, price, year; what a law pays -/
abbrev Pl : Type := Nat × Nat × Nat × (Nat → Nat)
abbrev pn (P : Pl) : Nat := P.1
abbrev pin (P : Pl) : Nat := P.2.1
abbrev pdr (P : Pl) : Nat := P.2.2.1
abbrev pvl (P : Pl) : Nat → Nat := P.2.2.2
abbrev Rw : Type := (Nat → Nat) × (Nat → Nat) × (Nat → Nat) × (Nat → Nat) × Nat × Nat
abbrev ro (r : Rw) : Nat → Nat := r.1
abbrev rn (r : Rw) : Nat → Nat := r.2.1
abbrev rw_ (r : Rw) : Nat → Nat := r.2.2.1
abbrev rc (r : Rw) : Nat → Nat := r.2.2.2.1
abbrev rp (r : Rw) : Nat := r.2.2.2.2.1
abbrev rt (r : Rw) : Nat := r.2.2.2.2.2
abbrev PF : Type := Nat → Nat → Nat → Nat → Nat → Nat → Nat
def wiN (i o : Nat) : Nat := min 999 (o + o * i / 10)
def gN (P : Pl) (r : Rw) (f : Nat) : Nat := wiN (pin P) (ro r f)
def dN (P : Pl) (q : PF) (r : Rw) (s f : Nat) : Nat := s + q (gN P r f) (rn r f) (rw_ r f) (pvl P f) s (rt r)
/-- who is paid ahead of whom -/
def bef (g : Nat → Nat) (k f : Nat) : Prop := g f < g k ∨ (g k = g f ∧ k < f)
def befB (g : Nat → Nat) (k f : Nat) : Bool := decide (g f < g k) || (decide (g k = g f) && decide (k < f))
def lf (g d : Nat → Nat) (f : Nat) : Nat → Nat → Nat → Nat
  | 0, _, l => l
  | m + 1, k, l => lf g d f m (k + 1) (if befB g k f = true then l - d k else l)
def fal (g d : Nat → Nat) (n rain f : Nat) : Nat := min (lf g d f n 0 rain) (d f)
def wetF (r : Rw) (F : Nat → Nat) (f : Nat) : Nat := min 30 (rw_ r f + F f)
def brnF (P : Pl) (r : Rw) (F : Nat → Nat) (f : Nat) : Nat := if F f < pdr P then pvl P f * min (rn r f) (wetF r F f) else 0
def bitsF (P : Pl) (F : Nat → Nat) : Nat → Nat
  | 0 => 0
  | k + 1 => if F k < pdr P then bitsF P F k else bitsF P F k ||| 2 ^ k
def borF (P : Pl) (r : Rw) (F : Nat → Nat) : Nat → Nat
  | 0 => 0
  | k + 1 => borF P r F k + brnF P r F k
def yrF (P : Pl) (r : Rw) (s : Nat) (F : Nat → Nat) : Rw := (fun f => min 999 (gN P r f + s - F f), rn r, fun f => wetF r F f - (if F f < pdr P then min (rn r f) (wetF r F f) else 0), fun f => min 999 (rc r f + brnF P r F f), rp r, rt r + 1)
def falY (P : Pl) (q : PF) (r : Rw) (rain f : Nat) : Nat := fal (gN P r) (dN P q r (rain / pn P)) (pn P) rain f
def bitsY (P : Pl) (q : PF) (r : Rw) (rain : Nat) : Nat := bitsF P (falY P q r rain) (pn P)
def brnY (P : Pl) (q : PF) (r : Rw) (rain f : Nat) : Nat := brnF P r (falY P q r rain) f
def borY (P : Pl) (q : PF) (r : Rw) (rain : Nat) : Nat := borF P r (falY P q r rain) (pn P)
def yrY (P : Pl) (q : PF) (r : Rw) (rain : Nat) : Rw := yrF P r (rain / pn P) (falY P q r rain)
def PlB (P : Pl) : Prop := pn P ≤ 6 ∧ pin P ≤ 9 ∧ 1 ≤ pdr P ∧ pdr P ≤ 99 ∧ ∀ f, f < pn P → pvl P f ≤ 9
def RwB (n : Nat) (r : Rw) : Prop := rp r ≤ 30 ∧ rt r ≤ 1500 ∧ ∀ f, f < n → ro r f ≤ 999 ∧ rn r f ≤ 20 ∧ rw_ r f ≤ 30 ∧ rc r f ≤ 999
def QB (q : PF) : Prop := ∀ o n w v s t, q o n w v s t ≤ 99
theorem wi_le (i o : Nat) : wiN i o ≤ 999 := Nat.min_le_left _ _
theorem g_le (P : Pl) (r : Rw) (f : Nat) : gN P r f ≤ 999 := wi_le _ _
theorem lf_le (g d : Nat → Nat) (f : Nat) : ∀ (m k l : Nat), lf g d f m k l ≤ l
  | 0, _, _ => Nat.le_refl _
  | m + 1, k, l => by
    unfold lf
    split
    · exact Nat.le_trans (lf_le g d f m _ _) (Nat.sub_le _ _)
    · exact lf_le g d f m _ _
theorem fal_le (g d : Nat → Nat) (n rain f : Nat) : fal g d n rain f ≤ rain := Nat.le_trans (Nat.min_le_left _ _) (lf_le _ _ _ _ _ _)
theorem falY_le (P : Pl) (q : PF) (r : Rw) (rain f : Nat) : falY P q r rain f ≤ rain := fal_le _ _ _ _ _
/-- dues that differ only where there is more due than rain -/
def Deq (x y : Nat) : Prop := x = y ∨ (99 ≤ x ∧ 99 ≤ y)
theorem lf_eq {g d e : Nat → Nat} {n : Nat} (f : Nat) (h : ∀ k, k < n → Deq (d k) (e k)) : ∀ (m k l : Nat), k + m = n → l ≤ 99 → lf g d f m k l = lf g e f m k l
  | 0, _, _, _, _ => rfl
  | m + 1, k, l, hk, hl => by
    unfold lf
    have h1 : l - d k = l - e k := by
      rcases h k (by omega) with h1 | h1
      · rw [h1]
      · omega
    rw [h1]
    exact lf_eq f h m (k + 1) _ (by omega) (by split <;> omega)
theorem fal_eq {g d e : Nat → Nat} {n rain f : Nat} (h : ∀ k, k < n → Deq (d k) (e k)) (hr : rain ≤ 99) (hf : f < n) : fal g d n rain f = fal g e n rain f := by
  unfold fal
  rw [lf_eq f h n 0 rain (by omega) hr]
  have h2 := lf_le g e f n 0 rain
  rcases h f hf with h1 | h1
  · rw [h1]
  · omega
theorem bits_lt (P : Pl) (F : Nat → Nat) : ∀ k, k ≤ 6 → bitsF P F k < 64
  | 0, _ => by unfold bitsF; omega
  | k + 1, hk => by
    unfold bitsF
    have h := bits_lt P F k (by omega)
    split
    · exact h
    · exact bit_lt _ h k (by omega)
theorem bits_hi (P : Pl) (F : Nat → Nat) : ∀ k, k ≤ 6 → ∀ j, k ≤ j → j < 6 → bitsF P F k / 2 ^ j % 2 = 0
  | 0, _, j, _, _ => by unfold bitsF; simp
  | k + 1, hk, j, hj, h6 => by
    unfold bitsF
    have h := bits_hi P F k (by omega) j (by omega) h6
    split
    · exact h
    · rw [bit_has _ (bits_lt P F k (by omega)) k (by omega) j h6, if_neg (by omega), h]
theorem bits_has (P : Pl) (F : Nat → Nat) : ∀ k, k ≤ 6 → ∀ j, j < k → bitsF P F k / 2 ^ j % 2 = if F j < pdr P then 0 else 1
  | 0, _, j, h => absurd h (Nat.not_lt_zero j)
  | k + 1, hk, j, hj => by
    unfold bitsF
    by_cases e : j = k
    · subst e
      by_cases hF : F j < pdr P
      · rw [if_pos hF, if_pos hF, bits_hi P F j (by omega) j (by omega) (by omega)]
      · rw [if_neg hF, if_neg hF, bit_has _ (bits_lt P F j (by omega)) j (by omega) j (by omega), if_pos rfl]
    · have h := bits_has P F k (by omega) j (by omega)
      by_cases hF : F k < pdr P
      · rw [if_pos hF, h]
      · rw [if_neg hF, bit_has _ (bits_lt P F k (by omega)) k (by omega) j (by omega), if_neg e, h]
theorem brn_le {P : Pl} {r : Rw} {F : Nat → Nat} {f : Nat} (h : pvl P f ≤ 9) : brnF P r F f ≤ 270 := by
  unfold brnF
  split
  · have h1 : min (rn r f) (wetF r F f) ≤ 30 := Nat.le_trans (Nat.min_le_right _ _) (Nat.min_le_left _ _)
    exact Nat.mul_le_mul h h1
  · omega
theorem bor_le {P : Pl} {r : Rw} {F : Nat → Nat} {n : Nat} (h : ∀ f, f < n → pvl P f ≤ 9) : ∀ k, k ≤ n → borF P r F k ≤ 270 * k
  | 0, _ => Nat.le_refl _
  | k + 1, hk => by
    unfold borF
    have h1 := bor_le h (r := r) (F := F) k (by omega)
    have h2 := brn_le (r := r) (F := F) (h k (by omega))
    omega
theorem RwB.yr {P : Pl} {r : Rw} {s : Nat} {F : Nat → Nat} (h : RwB (pn P) r) (ht : rt r < 1500) : RwB (pn P) (yrF P r s F) := by
  refine ⟨h.1, ht, fun f hf => ?_⟩
  have h1 := h.2.2 f hf
  refine ⟨Nat.min_le_left _ _, h1.2.1, ?_, Nat.min_le_left _ _⟩
  exact Nat.le_trans (Nat.sub_le _ _) (Nat.min_le_left _ _)
