/-! objects and references alone; arrays one by one -/
/-- the class's own objects and what they point to -/
theorem PK {σ : Me} (h : Sh σ) : dr σ (some 0) (.inl 11) = some 0 ∧ dr σ (some 1) (.inl 10) = some 1 ∧ dr σ (some 19) (.inl 2) = some 19 ∧ dr σ (some 25) (.inl 2) = some 25 ∧ dr σ (some 31) (.inl 9) = some 31 ∧ dr σ (some 37) (.inl 0) = some 37 ∧ dr σ (some 41) (.inl 5) = some 41 ∧ dr σ (some 48) (.inl 1) = some 48 ∧ mr σ 0 0 = some 1 ∧ mr σ 0 1 = some 3 ∧ mr σ 0 2 = some 11 ∧ mr σ 0 3 = some 13 ∧ mr σ 0 4 = some 17 ∧ mr σ 0 5 = some 18 ∧ mr σ 0 10 = some 19 ∧ mr σ 0 11 = some 25 ∧ mr σ 0 12 = some 31 ∧ mr σ 0 13 = some 37 ∧ mr σ 0 14 = some 41 ∧ mr σ 0 15 = some 48 ∧ mr σ 0 16 = some 57 ∧ mr σ 0 17 = some 58 ∧ mr σ 0 18 = some 59 ∧ mr σ 1 0 = some 2 ∧ mr σ 19 0 = some 20 ∧ mr σ 19 1 = some 21 ∧ mr σ 19 2 = some 22 ∧ mr σ 19 3 = some 23 ∧ mr σ 19 4 = some 24 ∧ mr σ 25 0 = some 26 ∧ mr σ 25 1 = some 27 ∧ mr σ 25 2 = some 28 ∧ mr σ 25 3 = some 29 ∧ mr σ 25 4 = some 30 ∧ mr σ 31 1 = some 32 ∧ mr σ 31 2 = some 33 ∧ mr σ 31 3 = some 34 ∧ mr σ 31 4 = some 35 ∧ mr σ 31 5 = some 36 ∧ mr σ 37 0 = some 38 ∧ mr σ 37 1 = some 39 ∧ mr σ 37 2 = some 40 ∧ mr σ 41 0 = some 42 ∧ mr σ 41 3 = some 43 ∧ mr σ 41 4 = some 44 ∧ mr σ 48 0 = some 49 ∧ mr σ 48 1 = some 50 ∧ mr σ 48 2 = some 51 ∧ mr σ 48 3 = some 52 ∧ mr σ 48 5 = some 53 ∧ mr σ 48 6 = some 54 ∧ mr σ 48 7 = some 55 ∧ mr σ 48 8 = some 56 :=
  ⟨h.dr 0 (by decide) rfl, h.dr 1 (by decide) rfl, h.dr 19 (by decide) rfl, h.dr 25 (by decide) rfl, h.dr 31 (by decide) rfl, h.dr 37 (by decide) rfl, h.dr 41 (by decide) rfl, h.dr 48 (by decide) rfl, h.rf 0 0 1 (by decide), h.rf 0 1 3 (by decide), h.rf 0 2 11 (by decide), h.rf 0 3 13 (by decide), h.rf 0 4 17 (by decide), h.rf 0 5 18 (by decide), h.rf 0 10 19 (by decide), h.rf 0 11 25 (by decide), h.rf 0 12 31 (by decide), h.rf 0 13 37 (by decide), h.rf 0 14 41 (by decide), h.rf 0 15 48 (by decide), h.rf 0 16 57 (by decide), h.rf 0 17 58 (by decide), h.rf 0 18 59 (by decide), h.rf 1 0 2 (by decide), h.rf 19 0 20 (by decide), h.rf 19 1 21 (by decide), h.rf 19 2 22 (by decide), h.rf 19 3 23 (by decide), h.rf 19 4 24 (by decide), h.rf 25 0 26 (by decide), h.rf 25 1 27 (by decide), h.rf 25 2 28 (by decide), h.rf 25 3 29 (by decide), h.rf 25 4 30 (by decide), h.rf 31 1 32 (by decide), h.rf 31 2 33 (by decide), h.rf 31 3 34 (by decide), h.rf 31 4 35 (by decide), h.rf 31 5 36 (by decide), h.rf 37 0 38 (by decide), h.rf 37 1 39 (by decide), h.rf 37 2 40 (by decide), h.rf 41 0 42 (by decide), h.rf 41 3 43 (by decide), h.rf 41 4 44 (by decide), h.rf 48 0 49 (by decide), h.rf 48 1 50 (by decide), h.rf 48 2 51 (by decide), h.rf 48 3 52 (by decide), h.rf 48 5 53 (by decide), h.rf 48 6 54 (by decide), h.rf 48 7 55 (by decide), h.rf 48 8 56 (by decide)⟩
/-- the reference and what it points to -/
theorem PN {σ : Me} (h : Sh σ) : dr σ (some 60) (.inl 12) = some 60 ∧ mr σ 60 1 = some 61 ∧ mr σ 60 2 = some 62 ∧ mr σ 60 3 = some 63 ∧ mr σ 60 4 = some 64 ∧ mr σ 60 15 = some 1000024 ∧ mr σ 60 16 = some 1000025 ∧ mr σ 60 18 = some 65 ∧ mr σ 60 19 = some 66 ∧ mr σ 60 20 = some 67 ∧ mr σ 60 21 = some 68 ∧ mr σ 60 22 = some 69 ∧ mr σ 60 23 = some 70 ∧ mr σ 60 28 = some 71 ∧ mr σ 60 29 = some 72 ∧ mr σ 60 32 = some 73 ∧ mr σ 60 33 = some 74 ∧ mr σ 60 34 = some 75 ∧ mr σ 60 35 = some 76 ∧ mr σ 60 38 = some 77 ∧ mr σ 60 41 = some 78 ∧ mr σ 60 42 = some 79 ∧ mr σ 60 43 = some 80 ∧ mr σ 60 44 = some 81 ∧ mr σ 60 46 = some 82 ∧ mr σ 60 47 = some 83 :=
  ⟨h.dr 60 (by decide) rfl, h.rf 60 1 61 (by decide), h.rf 60 2 62 (by decide), h.rf 60 3 63 (by decide), h.rf 60 4 64 (by decide), h.rf 60 15 1000024 (by decide), h.rf 60 16 1000025 (by decide), h.rf 60 18 65 (by decide), h.rf 60 19 66 (by decide), h.rf 60 20 67 (by decide), h.rf 60 21 68 (by decide), h.rf 60 22 69 (by decide), h.rf 60 23 70 (by decide), h.rf 60 28 71 (by decide), h.rf 60 29 72 (by decide), h.rf 60 32 73 (by decide), h.rf 60 33 74 (by decide), h.rf 60 34 75 (by decide), h.rf 60 35 76 (by decide), h.rf 60 38 77 (by decide), h.rf 60 41 78 (by decide), h.rf 60 42 79 (by decide), h.rf 60 43 80 (by decide), h.rf 60 44 81 (by decide), h.rf 60 46 82 (by decide), h.rf 60 47 83 (by decide)⟩
/-- the readers -/
theorem PR {σ : Me} (h : Sh σ) : dr σ (some 1) (.inl 10) = some 1 ∧ dr σ (some 3) (.inl 6) = some 3 ∧ dr σ (some 5) (.inl 2) = some 5 ∧ dr σ (some 11) (.inl 4) = some 11 ∧ dr σ (some 13) (.inl 8) = some 13 ∧ mr σ 1 0 = some 2 ∧ mr σ 3 0 = some 1 ∧ mr σ 3 1 = some 4 ∧ mr σ 3 3 = some 5 ∧ mr σ 5 0 = some 6 ∧ mr σ 5 1 = some 7 ∧ mr σ 5 2 = some 8 ∧ mr σ 5 3 = some 9 ∧ mr σ 5 4 = some 10 ∧ mr σ 11 0 = some 1 ∧ mr σ 11 1 = some 12 ∧ mr σ 13 0 = some 1 ∧ mr σ 13 1 = some 14 ∧ mr σ 13 2 = some 15 ∧ mr σ 13 3 = some 16 :=
  ⟨h.dr 1 (by decide) rfl, h.dr 3 (by decide) rfl, h.dr 5 (by decide) rfl, h.dr 11 (by decide) rfl, h.dr 13 (by decide) rfl, h.rf 1 0 2 (by decide), h.rf 3 0 1 (by decide), h.rf 3 1 4 (by decide), h.rf 3 3 5 (by decide), h.rf 5 0 6 (by decide), h.rf 5 1 7 (by decide), h.rf 5 2 8 (by decide), h.rf 5 3 9 (by decide), h.rf 5 4 10 (by decide), h.rf 11 0 1 (by decide), h.rf 11 1 12 (by decide), h.rf 13 0 1 (by decide), h.rf 13 1 14 (by decide), h.rf 13 2 15 (by decide), h.rf 13 3 16 (by decide)⟩
/-- the land and its past -/
theorem PH {σ : Me} (h : Sh σ) : dr σ (some 19) (.inl 2) = some 19 ∧ dr σ (some 37) (.inl 0) = some 37 ∧ dr σ (some 41) (.inl 5) = some 41 ∧ dr σ (some 44) (.inl 0) = some 44 ∧ mr σ 19 0 = some 20 ∧ mr σ 19 1 = some 21 ∧ mr σ 19 2 = some 22 ∧ mr σ 19 3 = some 23 ∧ mr σ 19 4 = some 24 ∧ mr σ 37 0 = some 38 ∧ mr σ 37 1 = some 39 ∧ mr σ 37 2 = some 40 ∧ mr σ 41 0 = some 42 ∧ mr σ 41 3 = some 43 ∧ mr σ 41 4 = some 44 ∧ mr σ 44 0 = some 45 ∧ mr σ 44 1 = some 46 ∧ mr σ 44 2 = some 47 :=
  ⟨h.dr 19 (by decide) rfl, h.dr 37 (by decide) rfl, h.dr 41 (by decide) rfl, h.dr 44 (by decide) rfl, h.rf 19 0 20 (by decide), h.rf 19 1 21 (by decide), h.rf 19 2 22 (by decide), h.rf 19 3 23 (by decide), h.rf 19 4 24 (by decide), h.rf 37 0 38 (by decide), h.rf 37 1 39 (by decide), h.rf 37 2 40 (by decide), h.rf 41 0 42 (by decide), h.rf 41 3 43 (by decide), h.rf 41 4 44 (by decide), h.rf 44 0 45 (by decide), h.rf 44 1 46 (by decide), h.rf 44 2 47 (by decide)⟩
theorem A2 {σ : Me} (h : Sh σ) : ∀ k : Nat, k < 240 → arr σ .byte (some 2) (nI k) = some 2 := h.ar 2 240 (by decide) rfl (by decide)
theorem Z2 {σ : Me} (h : Sh σ) : aLn σ .byte (some 2) = some (nI 240) := h.ln 2 240 (by decide) rfl
theorem A4 {σ : Me} (h : Sh σ) : ∀ k : Nat, k < 5 → arr σ .int (some 4) (nI k) = some 4 := h.ar 4 5 (by decide) rfl (by decide)
theorem Z4 {σ : Me} (h : Sh σ) : aLn σ .int (some 4) = some (nI 5) := h.ln 4 5 (by decide) rfl
theorem K4 {σ : Me} (h : Sh σ) : Kd σ 4 (.inr (.int, 5)) := h.kd (by decide) rfl
theorem A6 {σ : Me} (h : Sh σ) : ∀ k : Nat, k < 6 → arr σ .int (some 6) (nI k) = some 6 := h.ar 6 6 (by decide) rfl (by decide)
theorem Z6 {σ : Me} (h : Sh σ) : aLn σ .int (some 6) = some (nI 6) := h.ln 6 6 (by decide) rfl
theorem K6 {σ : Me} (h : Sh σ) : Kd σ 6 (.inr (.int, 6)) := h.kd (by decide) rfl
theorem A7 {σ : Me} (h : Sh σ) : ∀ k : Nat, k < 6 → arr σ .int (some 7) (nI k) = some 7 := h.ar 7 6 (by decide) rfl (by decide)
theorem Z7 {σ : Me} (h : Sh σ) : aLn σ .int (some 7) = some (nI 6) := h.ln 7 6 (by decide) rfl
theorem K7 {σ : Me} (h : Sh σ) : Kd σ 7 (.inr (.int, 6)) := h.kd (by decide) rfl
theorem A8 {σ : Me} (h : Sh σ) : ∀ k : Nat, k < 6 → arr σ .int (some 8) (nI k) = some 8 := h.ar 8 6 (by decide) rfl (by decide)
theorem Z8 {σ : Me} (h : Sh σ) : aLn σ .int (some 8) = some (nI 6) := h.ln 8 6 (by decide) rfl
theorem K8 {σ : Me} (h : Sh σ) : Kd σ 8 (.inr (.int, 6)) := h.kd (by decide) rfl
theorem A9 {σ : Me} (h : Sh σ) : ∀ k : Nat, k < 6 → arr σ .int (some 9) (nI k) = some 9 := h.ar 9 6 (by decide) rfl (by decide)
theorem Z9 {σ : Me} (h : Sh σ) : aLn σ .int (some 9) = some (nI 6) := h.ln 9 6 (by decide) rfl
theorem K9 {σ : Me} (h : Sh σ) : Kd σ 9 (.inr (.int, 6)) := h.kd (by decide) rfl
theorem A10 {σ : Me} (h : Sh σ) : ∀ k : Nat, k < 6 → arr σ .int (some 10) (nI k) = some 10 := h.ar 10 6 (by decide) rfl (by decide)
theorem Z10 {σ : Me} (h : Sh σ) : aLn σ .int (some 10) = some (nI 6) := h.ln 10 6 (by decide) rfl
theorem K10 {σ : Me} (h : Sh σ) : Kd σ 10 (.inr (.int, 6)) := h.kd (by decide) rfl
theorem A12 {σ : Me} (h : Sh σ) : ∀ k : Nat, k < 240 → arr σ .int (some 12) (nI k) = some 12 := h.ar 12 240 (by decide) rfl (by decide)
theorem Z12 {σ : Me} (h : Sh σ) : aLn σ .int (some 12) = some (nI 240) := h.ln 12 240 (by decide) rfl
theorem K12 {σ : Me} (h : Sh σ) : Kd σ 12 (.inr (.int, 240)) := h.kd (by decide) rfl
theorem A14 {σ : Me} (h : Sh σ) : ∀ k : Nat, k < 16 → arr σ .int (some 14) (nI k) = some 14 := h.ar 14 16 (by decide) rfl (by decide)
theorem Z14 {σ : Me} (h : Sh σ) : aLn σ .int (some 14) = some (nI 16) := h.ln 14 16 (by decide) rfl
theorem K14 {σ : Me} (h : Sh σ) : Kd σ 14 (.inr (.int, 16)) := h.kd (by decide) rfl
theorem A15 {σ : Me} (h : Sh σ) : ∀ k : Nat, k < 16 → arr σ .int (some 15) (nI k) = some 15 := h.ar 15 16 (by decide) rfl (by decide)
theorem Z15 {σ : Me} (h : Sh σ) : aLn σ .int (some 15) = some (nI 16) := h.ln 15 16 (by decide) rfl
theorem K15 {σ : Me} (h : Sh σ) : Kd σ 15 (.inr (.int, 16)) := h.kd (by decide) rfl
theorem A16 {σ : Me} (h : Sh σ) : ∀ k : Nat, k < 16 → arr σ .int (some 16) (nI k) = some 16 := h.ar 16 16 (by decide) rfl (by decide)
theorem Z16 {σ : Me} (h : Sh σ) : aLn σ .int (some 16) = some (nI 16) := h.ln 16 16 (by decide) rfl
theorem K16 {σ : Me} (h : Sh σ) : Kd σ 16 (.inr (.int, 16)) := h.kd (by decide) rfl
theorem A17 {σ : Me} (h : Sh σ) : ∀ k : Nat, k < 4 → arr σ (.object "RainOwed$Law") (some 17) (nI k) = some 17 := h.ar 17 4 (by decide) rfl (by decide)
theorem Z17 {σ : Me} (h : Sh σ) : aLn σ (.object "RainOwed$Law") (some 17) = some (nI 4) := h.ln 17 4 (by decide) rfl
theorem A18 {σ : Me} (h : Sh σ) : ∀ k : Nat, k < 4 → arr σ (.object "RainOwed$Plan") (some 18) (nI k) = some 18 := h.ar 18 4 (by decide) rfl (by decide)
theorem Z18 {σ : Me} (h : Sh σ) : aLn σ (.object "RainOwed$Plan") (some 18) = some (nI 4) := h.ln 18 4 (by decide) rfl
theorem A20 {σ : Me} (h : Sh σ) : ∀ k : Nat, k < 6 → arr σ .int (some 20) (nI k) = some 20 := h.ar 20 6 (by decide) rfl (by decide)
theorem Z20 {σ : Me} (h : Sh σ) : aLn σ .int (some 20) = some (nI 6) := h.ln 20 6 (by decide) rfl
theorem K20 {σ : Me} (h : Sh σ) : Kd σ 20 (.inr (.int, 6)) := h.kd (by decide) rfl
theorem A21 {σ : Me} (h : Sh σ) : ∀ k : Nat, k < 6 → arr σ .int (some 21) (nI k) = some 21 := h.ar 21 6 (by decide) rfl (by decide)
theorem Z21 {σ : Me} (h : Sh σ) : aLn σ .int (some 21) = some (nI 6) := h.ln 21 6 (by decide) rfl
theorem K21 {σ : Me} (h : Sh σ) : Kd σ 21 (.inr (.int, 6)) := h.kd (by decide) rfl
theorem A22 {σ : Me} (h : Sh σ) : ∀ k : Nat, k < 6 → arr σ .int (some 22) (nI k) = some 22 := h.ar 22 6 (by decide) rfl (by decide)
theorem Z22 {σ : Me} (h : Sh σ) : aLn σ .int (some 22) = some (nI 6) := h.ln 22 6 (by decide) rfl
theorem K22 {σ : Me} (h : Sh σ) : Kd σ 22 (.inr (.int, 6)) := h.kd (by decide) rfl
theorem A23 {σ : Me} (h : Sh σ) : ∀ k : Nat, k < 6 → arr σ .int (some 23) (nI k) = some 23 := h.ar 23 6 (by decide) rfl (by decide)
theorem Z23 {σ : Me} (h : Sh σ) : aLn σ .int (some 23) = some (nI 6) := h.ln 23 6 (by decide) rfl
theorem K23 {σ : Me} (h : Sh σ) : Kd σ 23 (.inr (.int, 6)) := h.kd (by decide) rfl
theorem A24 {σ : Me} (h : Sh σ) : ∀ k : Nat, k < 6 → arr σ .int (some 24) (nI k) = some 24 := h.ar 24 6 (by decide) rfl (by decide)
theorem Z24 {σ : Me} (h : Sh σ) : aLn σ .int (some 24) = some (nI 6) := h.ln 24 6 (by decide) rfl
theorem K24 {σ : Me} (h : Sh σ) : Kd σ 24 (.inr (.int, 6)) := h.kd (by decide) rfl
theorem A26 {σ : Me} (h : Sh σ) : ∀ k : Nat, k < 6 → arr σ .int (some 26) (nI k) = some 26 := h.ar 26 6 (by decide) rfl (by decide)
theorem Z26 {σ : Me} (h : Sh σ) : aLn σ .int (some 26) = some (nI 6) := h.ln 26 6 (by decide) rfl
theorem K26 {σ : Me} (h : Sh σ) : Kd σ 26 (.inr (.int, 6)) := h.kd (by decide) rfl
theorem A27 {σ : Me} (h : Sh σ) : ∀ k : Nat, k < 6 → arr σ .int (some 27) (nI k) = some 27 := h.ar 27 6 (by decide) rfl (by decide)
theorem Z27 {σ : Me} (h : Sh σ) : aLn σ .int (some 27) = some (nI 6) := h.ln 27 6 (by decide) rfl
theorem K27 {σ : Me} (h : Sh σ) : Kd σ 27 (.inr (.int, 6)) := h.kd (by decide) rfl
theorem A28 {σ : Me} (h : Sh σ) : ∀ k : Nat, k < 6 → arr σ .int (some 28) (nI k) = some 28 := h.ar 28 6 (by decide) rfl (by decide)
theorem Z28 {σ : Me} (h : Sh σ) : aLn σ .int (some 28) = some (nI 6) := h.ln 28 6 (by decide) rfl
theorem K28 {σ : Me} (h : Sh σ) : Kd σ 28 (.inr (.int, 6)) := h.kd (by decide) rfl
theorem A29 {σ : Me} (h : Sh σ) : ∀ k : Nat, k < 6 → arr σ .int (some 29) (nI k) = some 29 := h.ar 29 6 (by decide) rfl (by decide)
theorem Z29 {σ : Me} (h : Sh σ) : aLn σ .int (some 29) = some (nI 6) := h.ln 29 6 (by decide) rfl
theorem K29 {σ : Me} (h : Sh σ) : Kd σ 29 (.inr (.int, 6)) := h.kd (by decide) rfl
theorem A30 {σ : Me} (h : Sh σ) : ∀ k : Nat, k < 6 → arr σ .int (some 30) (nI k) = some 30 := h.ar 30 6 (by decide) rfl (by decide)
theorem Z30 {σ : Me} (h : Sh σ) : aLn σ .int (some 30) = some (nI 6) := h.ln 30 6 (by decide) rfl
theorem K30 {σ : Me} (h : Sh σ) : Kd σ 30 (.inr (.int, 6)) := h.kd (by decide) rfl
theorem A32 {σ : Me} (h : Sh σ) : ∀ k : Nat, k < 6 → arr σ .int (some 32) (nI k) = some 32 := h.ar 32 6 (by decide) rfl (by decide)
theorem Z32 {σ : Me} (h : Sh σ) : aLn σ .int (some 32) = some (nI 6) := h.ln 32 6 (by decide) rfl
theorem K32 {σ : Me} (h : Sh σ) : Kd σ 32 (.inr (.int, 6)) := h.kd (by decide) rfl
theorem A33 {σ : Me} (h : Sh σ) : ∀ k : Nat, k < 6 → arr σ .int (some 33) (nI k) = some 33 := h.ar 33 6 (by decide) rfl (by decide)
theorem Z33 {σ : Me} (h : Sh σ) : aLn σ .int (some 33) = some (nI 6) := h.ln 33 6 (by decide) rfl
theorem K33 {σ : Me} (h : Sh σ) : Kd σ 33 (.inr (.int, 6)) := h.kd (by decide) rfl
theorem A34 {σ : Me} (h : Sh σ) : ∀ k : Nat, k < 6 → arr σ .int (some 34) (nI k) = some 34 := h.ar 34 6 (by decide) rfl (by decide)
theorem Z34 {σ : Me} (h : Sh σ) : aLn σ .int (some 34) = some (nI 6) := h.ln 34 6 (by decide) rfl
theorem K34 {σ : Me} (h : Sh σ) : Kd σ 34 (.inr (.int, 6)) := h.kd (by decide) rfl
theorem A35 {σ : Me} (h : Sh σ) : ∀ k : Nat, k < 6 → arr σ .int (some 35) (nI k) = some 35 := h.ar 35 6 (by decide) rfl (by decide)
theorem Z35 {σ : Me} (h : Sh σ) : aLn σ .int (some 35) = some (nI 6) := h.ln 35 6 (by decide) rfl
theorem K35 {σ : Me} (h : Sh σ) : Kd σ 35 (.inr (.int, 6)) := h.kd (by decide) rfl
theorem A36 {σ : Me} (h : Sh σ) : ∀ k : Nat, k < 6 → arr σ .int (some 36) (nI k) = some 36 := h.ar 36 6 (by decide) rfl (by decide)
theorem Z36 {σ : Me} (h : Sh σ) : aLn σ .int (some 36) = some (nI 6) := h.ln 36 6 (by decide) rfl
theorem K36 {σ : Me} (h : Sh σ) : Kd σ 36 (.inr (.int, 6)) := h.kd (by decide) rfl
theorem A38 {σ : Me} (h : Sh σ) : ∀ k : Nat, k < 100 → arr σ .int (some 38) (nI k) = some 38 := h.ar 38 100 (by decide) rfl (by decide)
theorem Z38 {σ : Me} (h : Sh σ) : aLn σ .int (some 38) = some (nI 100) := h.ln 38 100 (by decide) rfl
theorem K38 {σ : Me} (h : Sh σ) : Kd σ 38 (.inr (.int, 100)) := h.kd (by decide) rfl
theorem A39 {σ : Me} (h : Sh σ) : ∀ k : Nat, k < 100 → arr σ .int (some 39) (nI k) = some 39 := h.ar 39 100 (by decide) rfl (by decide)
theorem Z39 {σ : Me} (h : Sh σ) : aLn σ .int (some 39) = some (nI 100) := h.ln 39 100 (by decide) rfl
theorem K39 {σ : Me} (h : Sh σ) : Kd σ 39 (.inr (.int, 100)) := h.kd (by decide) rfl
theorem A40 {σ : Me} (h : Sh σ) : ∀ k : Nat, k < 100 → arr σ .int (some 40) (nI k) = some 40 := h.ar 40 100 (by decide) rfl (by decide)
theorem Z40 {σ : Me} (h : Sh σ) : aLn σ .int (some 40) = some (nI 100) := h.ln 40 100 (by decide) rfl
theorem K40 {σ : Me} (h : Sh σ) : Kd σ 40 (.inr (.int, 100)) := h.kd (by decide) rfl
theorem A42 {σ : Me} (h : Sh σ) : ∀ k : Nat, k < 1040 → arr σ .int (some 42) (nI k) = some 42 := h.ar 42 1040 (by decide) rfl (by decide)
theorem Z42 {σ : Me} (h : Sh σ) : aLn σ .int (some 42) = some (nI 1040) := h.ln 42 1040 (by decide) rfl
theorem K42 {σ : Me} (h : Sh σ) : Kd σ 42 (.inr (.int, 1040)) := h.kd (by decide) rfl
theorem A43 {σ : Me} (h : Sh σ) : ∀ k : Nat, k < 26 → arr σ .int (some 43) (nI k) = some 43 := h.ar 43 26 (by decide) rfl (by decide)
theorem Z43 {σ : Me} (h : Sh σ) : aLn σ .int (some 43) = some (nI 26) := h.ln 43 26 (by decide) rfl
theorem K43 {σ : Me} (h : Sh σ) : Kd σ 43 (.inr (.int, 26)) := h.kd (by decide) rfl
theorem A45 {σ : Me} (h : Sh σ) : ∀ k : Nat, k < 100 → arr σ .int (some 45) (nI k) = some 45 := h.ar 45 100 (by decide) rfl (by decide)
theorem Z45 {σ : Me} (h : Sh σ) : aLn σ .int (some 45) = some (nI 100) := h.ln 45 100 (by decide) rfl
theorem K45 {σ : Me} (h : Sh σ) : Kd σ 45 (.inr (.int, 100)) := h.kd (by decide) rfl
theorem A46 {σ : Me} (h : Sh σ) : ∀ k : Nat, k < 100 → arr σ .int (some 46) (nI k) = some 46 := h.ar 46 100 (by decide) rfl (by decide)
theorem Z46 {σ : Me} (h : Sh σ) : aLn σ .int (some 46) = some (nI 100) := h.ln 46 100 (by decide) rfl
theorem K46 {σ : Me} (h : Sh σ) : Kd σ 46 (.inr (.int, 100)) := h.kd (by decide) rfl
theorem A47 {σ : Me} (h : Sh σ) : ∀ k : Nat, k < 100 → arr σ .int (some 47) (nI k) = some 47 := h.ar 47 100 (by decide) rfl (by decide)
theorem Z47 {σ : Me} (h : Sh σ) : aLn σ .int (some 47) = some (nI 100) := h.ln 47 100 (by decide) rfl
theorem K47 {σ : Me} (h : Sh σ) : Kd σ 47 (.inr (.int, 100)) := h.kd (by decide) rfl
theorem A49 {σ : Me} (h : Sh σ) : ∀ k : Nat, k < 10 → arr σ .int (some 49) (nI k) = some 49 := h.ar 49 10 (by decide) rfl (by decide)
theorem Z49 {σ : Me} (h : Sh σ) : aLn σ .int (some 49) = some (nI 10) := h.ln 49 10 (by decide) rfl
theorem K49 {σ : Me} (h : Sh σ) : Kd σ 49 (.inr (.int, 10)) := h.kd (by decide) rfl
theorem A50 {σ : Me} (h : Sh σ) : ∀ k : Nat, k < 10 → arr σ .int (some 50) (nI k) = some 50 := h.ar 50 10 (by decide) rfl (by decide)
theorem Z50 {σ : Me} (h : Sh σ) : aLn σ .int (some 50) = some (nI 10) := h.ln 50 10 (by decide) rfl
theorem K50 {σ : Me} (h : Sh σ) : Kd σ 50 (.inr (.int, 10)) := h.kd (by decide) rfl
theorem A51 {σ : Me} (h : Sh σ) : ∀ k : Nat, k < 10 → arr σ .int (some 51) (nI k) = some 51 := h.ar 51 10 (by decide) rfl (by decide)
theorem Z51 {σ : Me} (h : Sh σ) : aLn σ .int (some 51) = some (nI 10) := h.ln 51 10 (by decide) rfl
theorem K51 {σ : Me} (h : Sh σ) : Kd σ 51 (.inr (.int, 10)) := h.kd (by decide) rfl
theorem A52 {σ : Me} (h : Sh σ) : ∀ k : Nat, k < 10 → arr σ .boolean (some 52) (nI k) = some 52 := h.ar 52 10 (by decide) rfl (by decide)
theorem Z52 {σ : Me} (h : Sh σ) : aLn σ .boolean (some 52) = some (nI 10) := h.ln 52 10 (by decide) rfl
theorem A53 {σ : Me} (h : Sh σ) : ∀ k : Nat, k < 100 → arr σ .boolean (some 53) (nI k) = some 53 := h.ar 53 100 (by decide) rfl (by decide)
theorem Z53 {σ : Me} (h : Sh σ) : aLn σ .boolean (some 53) = some (nI 100) := h.ln 53 100 (by decide) rfl
theorem A54 {σ : Me} (h : Sh σ) : ∀ k : Nat, k < 100 → arr σ .int (some 54) (nI k) = some 54 := h.ar 54 100 (by decide) rfl (by decide)
theorem Z54 {σ : Me} (h : Sh σ) : aLn σ .int (some 54) = some (nI 100) := h.ln 54 100 (by decide) rfl
theorem K54 {σ : Me} (h : Sh σ) : Kd σ 54 (.inr (.int, 100)) := h.kd (by decide) rfl
theorem A55 {σ : Me} (h : Sh σ) : ∀ k : Nat, k < 100 → arr σ .int (some 55) (nI k) = some 55 := h.ar 55 100 (by decide) rfl (by decide)
theorem Z55 {σ : Me} (h : Sh σ) : aLn σ .int (some 55) = some (nI 100) := h.ln 55 100 (by decide) rfl
theorem K55 {σ : Me} (h : Sh σ) : Kd σ 55 (.inr (.int, 100)) := h.kd (by decide) rfl
theorem A56 {σ : Me} (h : Sh σ) : ∀ k : Nat, k < 100 → arr σ .int (some 56) (nI k) = some 56 := h.ar 56 100 (by decide) rfl (by decide)
theorem Z56 {σ : Me} (h : Sh σ) : aLn σ .int (some 56) = some (nI 100) := h.ln 56 100 (by decide) rfl
theorem K56 {σ : Me} (h : Sh σ) : Kd σ 56 (.inr (.int, 100)) := h.kd (by decide) rfl
theorem A57 {σ : Me} (h : Sh σ) : ∀ k : Nat, k < 36 → arr σ .int (some 57) (nI k) = some 57 := h.ar 57 36 (by decide) rfl (by decide)
theorem Z57 {σ : Me} (h : Sh σ) : aLn σ .int (some 57) = some (nI 36) := h.ln 57 36 (by decide) rfl
theorem K57 {σ : Me} (h : Sh σ) : Kd σ 57 (.inr (.int, 36)) := h.kd (by decide) rfl
theorem A58 {σ : Me} (h : Sh σ) : ∀ k : Nat, k < 36 → arr σ .int (some 58) (nI k) = some 58 := h.ar 58 36 (by decide) rfl (by decide)
theorem Z58 {σ : Me} (h : Sh σ) : aLn σ .int (some 58) = some (nI 36) := h.ln 58 36 (by decide) rfl
theorem K58 {σ : Me} (h : Sh σ) : Kd σ 58 (.inr (.int, 36)) := h.kd (by decide) rfl
theorem A59 {σ : Me} (h : Sh σ) : ∀ k : Nat, k < 6 → arr σ .int (some 59) (nI k) = some 59 := h.ar 59 6 (by decide) rfl (by decide)
theorem Z59 {σ : Me} (h : Sh σ) : aLn σ .int (some 59) = some (nI 6) := h.ln 59 6 (by decide) rfl
theorem K59 {σ : Me} (h : Sh σ) : Kd σ 59 (.inr (.int, 6)) := h.kd (by decide) rfl
theorem A61 {σ : Me} (h : Sh σ) : ∀ k : Nat, k < 240 → arr σ .byte (some 61) (nI k) = some 61 := h.ar 61 240 (by decide) rfl (by decide)
theorem Z61 {σ : Me} (h : Sh σ) : aLn σ .byte (some 61) = some (nI 240) := h.ln 61 240 (by decide) rfl
theorem A62 {σ : Me} (h : Sh σ) : ∀ k : Nat, k < 960 → arr σ .byte (some 62) (nI k) = some 62 := h.ar 62 960 (by decide) rfl (by decide)
theorem Z62 {σ : Me} (h : Sh σ) : aLn σ .byte (some 62) = some (nI 960) := h.ln 62 960 (by decide) rfl
theorem A63 {σ : Me} (h : Sh σ) : ∀ k : Nat, k < 4 → arr σ .int (some 63) (nI k) = some 63 := h.ar 63 4 (by decide) rfl (by decide)
theorem Z63 {σ : Me} (h : Sh σ) : aLn σ .int (some 63) = some (nI 4) := h.ln 63 4 (by decide) rfl
theorem K63 {σ : Me} (h : Sh σ) : Kd σ 63 (.inr (.int, 4)) := h.kd (by decide) rfl
theorem A64 {σ : Me} (h : Sh σ) : ∀ k : Nat, k < 128 → arr σ .int (some 64) (nI k) = some 64 := h.ar 64 128 (by decide) rfl (by decide)
theorem Z64 {σ : Me} (h : Sh σ) : aLn σ .int (some 64) = some (nI 128) := h.ln 64 128 (by decide) rfl
theorem K64 {σ : Me} (h : Sh σ) : Kd σ 64 (.inr (.int, 128)) := h.kd (by decide) rfl
theorem A65 {σ : Me} (h : Sh σ) : ∀ k : Nat, k < 3 → arr σ .int (some 65) (nI k) = some 65 := h.ar 65 3 (by decide) rfl (by decide)
theorem Z65 {σ : Me} (h : Sh σ) : aLn σ .int (some 65) = some (nI 3) := h.ln 65 3 (by decide) rfl
theorem K65 {σ : Me} (h : Sh σ) : Kd σ 65 (.inr (.int, 3)) := h.kd (by decide) rfl
theorem A66 {σ : Me} (h : Sh σ) : ∀ k : Nat, k < 3 → arr σ .int (some 66) (nI k) = some 66 := h.ar 66 3 (by decide) rfl (by decide)
theorem Z66 {σ : Me} (h : Sh σ) : aLn σ .int (some 66) = some (nI 3) := h.ln 66 3 (by decide) rfl
theorem K66 {σ : Me} (h : Sh σ) : Kd σ 66 (.inr (.int, 3)) := h.kd (by decide) rfl
theorem A67 {σ : Me} (h : Sh σ) : ∀ k : Nat, k < 30 → arr σ .int (some 67) (nI k) = some 67 := h.ar 67 30 (by decide) rfl (by decide)
theorem Z67 {σ : Me} (h : Sh σ) : aLn σ .int (some 67) = some (nI 30) := h.ln 67 30 (by decide) rfl
theorem K67 {σ : Me} (h : Sh σ) : Kd σ 67 (.inr (.int, 30)) := h.kd (by decide) rfl
theorem A68 {σ : Me} (h : Sh σ) : ∀ k : Nat, k < 30 → arr σ .int (some 68) (nI k) = some 68 := h.ar 68 30 (by decide) rfl (by decide)
theorem Z68 {σ : Me} (h : Sh σ) : aLn σ .int (some 68) = some (nI 30) := h.ln 68 30 (by decide) rfl
theorem K68 {σ : Me} (h : Sh σ) : Kd σ 68 (.inr (.int, 30)) := h.kd (by decide) rfl
theorem A69 {σ : Me} (h : Sh σ) : ∀ k : Nat, k < 240 → arr σ .int (some 69) (nI k) = some 69 := h.ar 69 240 (by decide) rfl (by decide)
theorem Z69 {σ : Me} (h : Sh σ) : aLn σ .int (some 69) = some (nI 240) := h.ln 69 240 (by decide) rfl
theorem K69 {σ : Me} (h : Sh σ) : Kd σ 69 (.inr (.int, 240)) := h.kd (by decide) rfl
theorem A70 {σ : Me} (h : Sh σ) : ∀ k : Nat, k < 5 → arr σ .int (some 70) (nI k) = some 70 := h.ar 70 5 (by decide) rfl (by decide)
theorem Z70 {σ : Me} (h : Sh σ) : aLn σ .int (some 70) = some (nI 5) := h.ln 70 5 (by decide) rfl
theorem K70 {σ : Me} (h : Sh σ) : Kd σ 70 (.inr (.int, 5)) := h.kd (by decide) rfl
theorem A71 {σ : Me} (h : Sh σ) : ∀ k : Nat, k < 207 → arr σ .int (some 71) (nI k) = some 71 := h.ar 71 207 (by decide) rfl (by decide)
theorem Z71 {σ : Me} (h : Sh σ) : aLn σ .int (some 71) = some (nI 207) := h.ln 71 207 (by decide) rfl
theorem K71 {σ : Me} (h : Sh σ) : Kd σ 71 (.inr (.int, 207)) := h.kd (by decide) rfl
theorem A72 {σ : Me} (h : Sh σ) : ∀ k : Nat, k < 207 → arr σ .int (some 72) (nI k) = some 72 := h.ar 72 207 (by decide) rfl (by decide)
theorem Z72 {σ : Me} (h : Sh σ) : aLn σ .int (some 72) = some (nI 207) := h.ln 72 207 (by decide) rfl
theorem K72 {σ : Me} (h : Sh σ) : Kd σ 72 (.inr (.int, 207)) := h.kd (by decide) rfl
theorem A73 {σ : Me} (h : Sh σ) : ∀ k : Nat, k < 8191 → arr σ .long (some 73) (nI k) = some 73 := h.ar 73 8191 (by decide) rfl (by decide)
theorem Z73 {σ : Me} (h : Sh σ) : aLn σ .long (some 73) = some (nI 8191) := h.ln 73 8191 (by decide) rfl
theorem A74 {σ : Me} (h : Sh σ) : ∀ k : Nat, k < 8191 → arr σ .int (some 74) (nI k) = some 74 := h.ar 74 8191 (by decide) rfl (by decide)
theorem Z74 {σ : Me} (h : Sh σ) : aLn σ .int (some 74) = some (nI 8191) := h.ln 74 8191 (by decide) rfl
theorem K74 {σ : Me} (h : Sh σ) : Kd σ 74 (.inr (.int, 8191)) := h.kd (by decide) rfl
theorem A75 {σ : Me} (h : Sh σ) : ∀ k : Nat, k < 6 → arr σ .int (some 75) (nI k) = some 75 := h.ar 75 6 (by decide) rfl (by decide)
theorem Z75 {σ : Me} (h : Sh σ) : aLn σ .int (some 75) = some (nI 6) := h.ln 75 6 (by decide) rfl
theorem K75 {σ : Me} (h : Sh σ) : Kd σ 75 (.inr (.int, 6)) := h.kd (by decide) rfl
theorem A76 {σ : Me} (h : Sh σ) : ∀ k : Nat, k < 6 → arr σ .int (some 76) (nI k) = some 76 := h.ar 76 6 (by decide) rfl (by decide)
theorem Z76 {σ : Me} (h : Sh σ) : aLn σ .int (some 76) = some (nI 6) := h.ln 76 6 (by decide) rfl
theorem K76 {σ : Me} (h : Sh σ) : Kd σ 76 (.inr (.int, 6)) := h.kd (by decide) rfl
theorem A77 {σ : Me} (h : Sh σ) : ∀ k : Nat, k < 8280 → arr σ .int (some 77) (nI k) = some 77 := h.ar 77 8280 (by decide) rfl (by decide)
theorem Z77 {σ : Me} (h : Sh σ) : aLn σ .int (some 77) = some (nI 8280) := h.ln 77 8280 (by decide) rfl
theorem K77 {σ : Me} (h : Sh σ) : Kd σ 77 (.inr (.int, 8280)) := h.kd (by decide) rfl
theorem A78 {σ : Me} (h : Sh σ) : ∀ k : Nat, k < 6 → arr σ .int (some 78) (nI k) = some 78 := h.ar 78 6 (by decide) rfl (by decide)
theorem Z78 {σ : Me} (h : Sh σ) : aLn σ .int (some 78) = some (nI 6) := h.ln 78 6 (by decide) rfl
theorem K78 {σ : Me} (h : Sh σ) : Kd σ 78 (.inr (.int, 6)) := h.kd (by decide) rfl
theorem A79 {σ : Me} (h : Sh σ) : ∀ k : Nat, k < 40 → arr σ .int (some 79) (nI k) = some 79 := h.ar 79 40 (by decide) rfl (by decide)
theorem Z79 {σ : Me} (h : Sh σ) : aLn σ .int (some 79) = some (nI 40) := h.ln 79 40 (by decide) rfl
theorem K79 {σ : Me} (h : Sh σ) : Kd σ 79 (.inr (.int, 40)) := h.kd (by decide) rfl
theorem A80 {σ : Me} (h : Sh σ) : ∀ k : Nat, k < 100 → arr σ .int (some 80) (nI k) = some 80 := h.ar 80 100 (by decide) rfl (by decide)
theorem Z80 {σ : Me} (h : Sh σ) : aLn σ .int (some 80) = some (nI 100) := h.ln 80 100 (by decide) rfl
theorem K80 {σ : Me} (h : Sh σ) : Kd σ 80 (.inr (.int, 100)) := h.kd (by decide) rfl
theorem A81 {σ : Me} (h : Sh σ) : ∀ k : Nat, k < 100 → arr σ .boolean (some 81) (nI k) = some 81 := h.ar 81 100 (by decide) rfl (by decide)
theorem Z81 {σ : Me} (h : Sh σ) : aLn σ .boolean (some 81) = some (nI 100) := h.ln 81 100 (by decide) rfl
theorem A82 {σ : Me} (h : Sh σ) : ∀ k : Nat, k < 72 → arr σ .int (some 82) (nI k) = some 82 := h.ar 82 72 (by decide) rfl (by decide)
theorem Z82 {σ : Me} (h : Sh σ) : aLn σ .int (some 82) = some (nI 72) := h.ln 82 72 (by decide) rfl
theorem K82 {σ : Me} (h : Sh σ) : Kd σ 82 (.inr (.int, 72)) := h.kd (by decide) rfl
theorem A83 {σ : Me} (h : Sh σ) : ∀ k : Nat, k < 207 → arr σ .int (some 83) (nI k) = some 83 := h.ar 83 207 (by decide) rfl (by decide)
theorem Z83 {σ : Me} (h : Sh σ) : aLn σ .int (some 83) = some (nI 207) := h.ln 83 207 (by decide) rfl
theorem K83 {σ : Me} (h : Sh σ) : Kd σ 83 (.inr (.int, 207)) := h.kd (by decide) rfl
theorem A84 {σ : Me} (h : Sh σ) : ∀ k : Nat, k < 1 → arr σ .long (some 84) (nI k) = some 84 := h.ar 84 1 (by decide) rfl (by decide)
theorem Z84 {σ : Me} (h : Sh σ) : aLn σ .long (some 84) = some (nI 1) := h.ln 84 1 (by decide) rfl
/-! copies of rows -/
theorem irow_ok {σ : Me} {a n : Nat} (h : Kd σ a (.inr (.int, n))) : irow σ (some a) = some (n, mi σ a) := by
  unfold irow
  simp only [h.2.2, h.1, h.2.1, if_true, and_self, ↓reduceIte]
theorem cp_ok {σ : Me} {a b na nb sp dp n : Nat} (ha : Kd σ a (.inr (.int, na))) (hb : Kd σ b (.inr (.int, nb))) (h1 : sp + n ≤ na) (h2 : dp + n ≤ nb) (h3 : na < 2 ^ 31) (h4 : nb < 2 ^ 31) : cpI σ (some a) (nI sp) (some b) (nI dp) (nI n) = some (cpRow σ b (mi σ a) sp dp n) := by
  unfold cpI
  rw [irow_ok ha, bnd]
  simp only [hb.1]
  rw [nI_clamp (by omega), nI_clamp (by omega), nI_clamp (by omega), if_pos ⟨⟨trivial, hb.2.1, hb.2.2⟩, nI_pos (by omega), nI_pos (by omega), nI_pos (by omega), h1, h2⟩]
theorem dr_cp (σ : Me) (a : Nat) (f : Nat → Int32) (sp dp n : Nat) (r : Option Nat) (k : Kn) : dr (cpRow σ a f sp dp n) r k = dr σ r k := rfl
theorem arr_cp (σ : Me) (a : Nat) (f : Nat → Int32) (sp dp n : Nat) (r : Option Nat) (t : FieldType) (x : Int32) : arr (cpRow σ a f sp dp n) t r x = arr σ t r x := rfl
theorem aLn_cp (σ : Me) (a : Nat) (f : Nat → Int32) (sp dp n : Nat) (r : Option Nat) (t : FieldType) : aLn (cpRow σ a f sp dp n) t r = aLn σ t r := rfl
theorem mr_cp (σ : Me) (a : Nat) (f : Nat → Int32) (sp dp n : Nat) : mr (cpRow σ a f sp dp n) = mr σ := rfl
theorem ml_cp (σ : Me) (a : Nat) (f : Nat → Int32) (sp dp n : Nat) : ml (cpRow σ a f sp dp n) = ml σ := rfl
theorem mi_cpo {σ : Me} {a b : Nat} {f : Nat → Int32} {sp dp n : Nat} (h : b ≠ a) : mi (cpRow σ a f sp dp n) b = mi σ b := if_neg h
theorem mi_cpi {σ : Me} {a j : Nat} {f : Nat → Int32} {sp dp n : Nat} (h : dp ≤ j ∧ j < dp + n) : mi (cpRow σ a f sp dp n) a j = f (sp + (j - dp)) := by
  show (if a = a then va_cpy f (mi σ a) sp dp n else mi σ a) j = _
  rw [if_pos rfl]; exact if_pos h
theorem mi_cpx {σ : Me} {a b j : Nat} {f : Nat → Int32} {sp dp n : Nat} (h : b ≠ a ∨ j < dp ∨ dp + n ≤ j) : mi (cpRow σ a f sp dp n) b j = mi σ b j := by
  show (if b = a then va_cpy f (mi σ a) sp dp n else mi σ b) j = _
  by_cases e : b = a
  · subst e
    rw [if_pos rfl]
    exact if_neg (by omega)
  · rw [if_neg e]
theorem Kd.cp {σ : Me} {a : Nat} {k : Kn} (h : Kd σ a k) (b : Nat) (f : Nat → Int32) (sp dp n : Nat) : Kd (cpRow σ b f sp dp n) a k := h
theorem fr_cp {S : Nat → Nat → Bool} {σ σ' : Me} {a : Nat} {f : Nat → Int32} {sp dp n : Nat} (e : ∀ j, dp ≤ j → j < dp + n → S a j = true) (h : Fr S σ σ') : Fr S σ (cpRow σ' a f sp dp n) := by
  refine ⟨h.1, h.2.1, h.2.2.1, fun b j f => ⟨?_, (h.2.2.2 b j f).2⟩⟩
  rw [mi_cpx]
  · exact (h.2.2.2 b j f).1
  · by_cases e1 : b = a
    · subst e1
      by_cases e2 : dp ≤ j ∧ j < dp + n
      · rw [e j e2.1 e2.2] at f; cases f
      · omega
    · exact .inl e1
