/-! numbers: what the machine's ints do to small naturals -/
/-- as Option.bind_some, but never taken as a plain unfolding (the kernel would compare what stands behind it) -/
theorem bnd {α β : Type} (a : α) (f : α → Option β) : (some a).bind f = f a := (Option.bind_some a f).trans (Eq.refl _)
theorem zl_0 : (0 : Int32) = nI 0 := rfl
theorem zl_of {k : Nat} {x : Int32} (h : x = nI k) : x = nI k := h
theorem nI_min {a b : Nat} (ha : a < 2 ^ 31) (hb : b < 2 ^ 31) : (if nI b < nI a then nI b else nI a) = nI (min a b) := by
  by_cases h : b < a
  · rw [if_pos (nI_lt h ha), Nat.min_eq_right (Nat.le_of_lt h)]
  · rw [if_neg (nI_nlt (Nat.le_of_not_lt h) hb), Nat.min_eq_left (Nat.le_of_not_lt h)]
theorem nI_max {a b : Nat} (ha : a < 2 ^ 31) (hb : b < 2 ^ 31) : (if nI a < nI b then nI b else nI a) = nI (max a b) := by
  by_cases h : a < b
  · rw [if_pos (nI_lt h hb), Nat.max_eq_right (Nat.le_of_lt h)]
  · rw [if_neg (nI_nlt (Nat.le_of_not_lt h) ha), Nat.max_eq_left (Nat.le_of_not_lt h)]
theorem min_N (N : Nat) {a b : Nat} (σ : Me) (ha : a < 2 ^ 31) (hb : b < 2 ^ 31) : fMt_min N (nI a) (nI b) σ = some (nI (min a b), σ) := by
  unfold fMt_min
  by_cases h : b < a
  · rw [if_pos (nI_lt h ha), Nat.min_eq_right (Nat.le_of_lt h)]
  · rw [if_neg (nI_nlt (Nat.le_of_not_lt h) hb), Nat.min_eq_left (Nat.le_of_not_lt h)]
theorem max_N (N : Nat) {a b : Nat} (σ : Me) (ha : a < 2 ^ 31) (hb : b < 2 ^ 31) : fMt_max N (nI a) (nI b) σ = some (nI (max a b), σ) := by
  unfold fMt_max
  by_cases h : a < b
  · rw [if_pos (nI_lt h hb), Nat.max_eq_right (Nat.le_of_lt h)]
  · rw [if_neg (nI_nlt (Nat.le_of_not_lt h) ha), Nat.max_eq_left (Nat.le_of_not_lt h)]
theorem min_k (N k : Nat) {b : Nat} (σ : Me) {x : Int32} (hx : x = nI k) (ha : k < 2 ^ 31) (hb : b < 2 ^ 31) : fMt_min N x (nI b) σ = some (nI (min k b), σ) := by
  rw [hx]; exact min_N N σ ha hb
theorem i_toInt_lt {x y : Int32} : x < y ↔ x.toInt < y.toInt := Int32.lt_iff_toInt_lt
theorem i_toInt_le {x y : Int32} : x ≤ y ↔ x.toInt ≤ y.toInt := Int32.le_iff_toInt_le
/-- a difference held between nothing and a bound -/
theorem held_sub (N : Nat) {a b c : Nat} (σ : Me) (ha : a < 2 ^ 30) (hb : b < 2 ^ 30) (hc : c < 2 ^ 30) : fc11_held N 0 (nI a - nI b) (nI c) σ = some (nI (min c (a - b)), σ) := by
  unfold fc11_held
  have e := pk_sub_toInt ha hb
  have ec := nI_toInt (n := c) (by omega)
  by_cases h : b ≤ a
  · rw [pk_sub h]
    rw [if_pos (nI_pos' (by omega))]
    by_cases h2 : a - b ≤ c
    · rw [if_pos (nI_le h2 (by omega)), Nat.min_eq_right h2]
    · rw [if_neg (nI_ge (by omega) (by omega)), Nat.min_eq_left (by omega)]
  · have e0 : (0 : Int32).toInt = 0 := rfl
    rw [if_neg (by rw [i_toInt_le, e, e0]; omega), Nat.sub_eq_zero_of_le (by omega), Nat.min_zero]
    rfl
theorem dv_k {a d : Nat} {x : Int32} (hx : x = nI d) (ha : a < 2 ^ 31) (h0 : 0 < d) (hd : d < 2 ^ 31) : dvI (nI a) x = some (nI (a / d)) := by
  unfold dvI; rw [hx, if_neg (nI_ne0 h0 hd), pk_div ha h0 hd]
theorem rm_k {a d : Nat} {x : Int32} (hx : x = nI d) (ha : a < 2 ^ 31) (h0 : 0 < d) (hd : d < 2 ^ 31) : rmI (nI a) x = some (nI (a % d)) := by
  unfold rmI; rw [hx, if_neg (nI_ne0 h0 hd), pk_rem ha h0 hd]
theorem retZ0 (σ : Me) : retZ 0 σ = some (0, σ) := rfl
theorem retZ1 (σ : Me) : retZ 1 σ = some (1, σ) := rfl
theorem mi_eq (σ : Me) (a i : Nat) (v : Int32) : mi (setI σ a i v) a i = v := by rw [mi_at, if_pos ⟨rfl, rfl⟩]
theorem mi_ne {a i b j : Nat} (σ : Me) (v : Int32) (h : b ≠ a ∨ j ≠ i) : mi (setI σ a i v) b j = mi σ b j := by rw [mi_at, if_neg (by omega)]
theorem ml_eq (σ : Me) (a i : Nat) (v : Int64) : ml (setL σ a i v) a i = v := by rw [ml_at, if_pos ⟨rfl, rfl⟩]
theorem ml_ne {a i b j : Nat} (σ : Me) (v : Int64) (h : b ≠ a ∨ j ≠ i) : ml (setL σ a i v) b j = ml σ b j := by rw [ml_at, if_neg (by omega)]
theorem mr_eq (σ : Me) (a i : Nat) (v : Option Nat) : mr (setR σ a i v) a i = v := by rw [mr_at, if_pos ⟨rfl, rfl⟩]
theorem mr_ne {a i b j : Nat} (σ : Me) (v : Option Nat) (h : b ≠ a ∨ j ≠ i) : mr (setR σ a i v) b j = mr σ b j := by rw [mr_at, if_neg (by omega)]
/-! what may change -/
def Fr (S : Nat → Nat → Bool) (σ σ' : Me) : Prop := mk σ' = mk σ ∧ mz σ' = mz σ ∧ mn σ' = mn σ ∧ ∀ a j, S a j = false → mi σ' a j = mi σ a j ∧ ml σ' a j = ml σ a j ∧ mr σ' a j = mr σ a j
theorem Fr.rf (S : Nat → Nat → Bool) (σ : Me) : Fr S σ σ := ⟨rfl, rfl, rfl, fun _ _ _ => ⟨rfl, rfl, rfl⟩⟩
theorem Fr.tr {S : Nat → Nat → Bool} {σ σ' σ'' : Me} (h : Fr S σ σ') (k : Fr S σ' σ'') : Fr S σ σ'' :=
  ⟨k.1.trans h.1, k.2.1.trans h.2.1, k.2.2.1.trans h.2.2.1, fun a j e => ⟨(k.2.2.2 a j e).1.trans (h.2.2.2 a j e).1, (k.2.2.2 a j e).2.1.trans (h.2.2.2 a j e).2.1, (k.2.2.2 a j e).2.2.trans (h.2.2.2 a j e).2.2⟩⟩
theorem Fr.mono {S T : Nat → Nat → Bool} {σ σ' : Me} (h : Fr S σ σ') (k : ∀ a j, T a j = false → S a j = false) : Fr T σ σ' := ⟨h.1, h.2.1, h.2.2.1, fun a j e => h.2.2.2 a j (k a j e)⟩
theorem Fr.setI {S : Nat → Nat → Bool} {σ σ' : Me} (h : Fr S σ σ') {a i : Nat} (v : Int32) (e : S a i = true) : Fr S σ (setI σ' a i v) := by
  refine ⟨h.1, h.2.1, h.2.2.1, fun b j f => ⟨?_, (h.2.2.2 b j f).2⟩⟩
  rw [mi_at, if_neg (fun q => by rw [q.1, q.2, e] at f; cases f)]
  exact (h.2.2.2 b j f).1
theorem Fr.setL {S : Nat → Nat → Bool} {σ σ' : Me} (h : Fr S σ σ') {a i : Nat} (v : Int64) (e : S a i = true) : Fr S σ (setL σ' a i v) := by
  refine ⟨h.1, h.2.1, h.2.2.1, fun b j f => ⟨(h.2.2.2 b j f).1, ?_, (h.2.2.2 b j f).2.2⟩⟩
  rw [ml_at, if_neg (fun q => by rw [q.1, q.2, e] at f; cases f)]
  exact (h.2.2.2 b j f).2.1
theorem Fr.setR {S : Nat → Nat → Bool} {σ σ' : Me} (h : Fr S σ σ') {a i : Nat} (v : Option Nat) (e : S a i = true) : Fr S σ (setR σ' a i v) := by
  refine ⟨h.1, h.2.1, h.2.2.1, fun b j f => ⟨(h.2.2.2 b j f).1, (h.2.2.2 b j f).2.1, ?_⟩⟩
  rw [mr_at, if_neg (fun q => by rw [q.1, q.2, e] at f; cases f)]
  exact (h.2.2.2 b j f).2.2
theorem Fr.i {S : Nat → Nat → Bool} {σ σ' : Me} (h : Fr S σ σ') {a j : Nat} (e : S a j = false) : mi σ' a j = mi σ a j := (h.2.2.2 a j e).1
theorem Fr.r {S : Nat → Nat → Bool} {σ σ' : Me} (h : Fr S σ σ') {a j : Nat} (e : S a j = false) : mr σ' a j = mr σ a j := (h.2.2.2 a j e).2.2
theorem Fr.l {S : Nat → Nat → Bool} {σ σ' : Me} (h : Fr S σ σ') {a j : Nat} (e : S a j = false) : ml σ' a j = ml σ a j := (h.2.2.2 a j e).2.1
/-- no fixed reference may change -/
def Sf (S : Nat → Nat → Bool) : Prop := ∀ q ∈ rfL, S q.1.1 q.1.2 = false
theorem Fr.sh {S : Nat → Nat → Bool} {σ σ' : Me} (h : Fr S σ σ') (hS : Sf S) (k : Sh σ) : Sh σ' :=
  ⟨fun a ha => by rw [h.1]; exact k.1 a ha, fun q hq => by rw [h.r (hS q hq)]; exact k.2.1 q hq, by rw [h.2.1]; exact k.2.2⟩
theorem Fr_d {S : Nat → Nat → Bool} {σ σ' : Me} (h : Fr S σ σ') (r : Option Nat) (k : Kn) : dr σ' r k = dr σ r k := by
  unfold dr; rw [h.1, h.2.1]
theorem Fr_a {S : Nat → Nat → Bool} {σ σ' : Me} (h : Fr S σ σ') (t : FieldType) (r : Option Nat) (i : Int32) : arr σ' t r i = arr σ t r i := by
  unfold arr; rw [h.1, h.2.1]
theorem Fr.ln {S : Nat → Nat → Bool} {σ σ' : Me} (h : Fr S σ σ') (t : FieldType) (r : Option Nat) : aLn σ' t r = aLn σ t r := by
  unfold aLn; rw [h.1, h.2.1]
theorem bit_or : ∀ B, B < 64 → ∀ f, f < 6 → nI B ||| ((1 : Int32) <<< (nI f &&& 31)) = nI (B ||| 2 ^ f) := by decide +kernel
theorem bit_at : ∀ B, B < 64 → ∀ f, f < 6 → ((nI B >>> (nI f &&& 31)) &&& (1 : Int32)) = nI (B / 2 ^ f % 2) := by decide +kernel
theorem bit_lt : ∀ B, B < 64 → ∀ f, f < 6 → B ||| 2 ^ f < 64 := by decide +kernel
theorem bit_has : ∀ B, B < 64 → ∀ f, f < 6 → ∀ k, k < 6 → (B ||| 2 ^ f) / 2 ^ k % 2 = if k = f then 1 else B / 2 ^ k % 2 := by decide +kernel
