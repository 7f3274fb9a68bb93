def tL_law : Mt := (x, code, 7, some .boolean)
/-- RainOwed.field throws -/
def thr (N a : Nat) (p0 p1 : Int32) (σ : Me) : Option Bool := (qR σ 11 10 (some a)).bind fun l => (dr σ l (.inl 2)).bind fun b => (fc2_has N b p0 σ).bind fun p => some (p.1 = 0 ∨ p1 < 0 ∨ 4 < p1)
/-- a new cell of which nothing is kept but that it is there -/
def excC (σ : Me) : Me := newC σ (.inl 13) 0
def fL_field (N : Nat) (x : Option Nat) (p0 p1 : Int32) (out : Option Nat) (σ : Me) : Option (Int32 × Me) :=
  (dr σ x (.inl 11)).bind fun a =>
  (thr N a p0 p1 σ).bind fun t =>
  if t = true then (if mz σ < 1000000 then some (1, excC σ) else none) else
  (fc11_field N a p0 p1 σ).bind fun p =>
  (stL p.2 out 0 p.1.toInt64).bind fun σ2 => some (0, σ2)
def LFld (Ω : Om) (Γ : Ga) (N : Nat) : Prop := ∀ {pc : Nat} {lv : Lv} {σ : Me} {c s : Nat} {x out : Option Nat} {p0 p1 : Int32} {F : Int32 × Me → Option (Int32 × Me)}, decode tL_law.2.1 pc = .ok (.invokestatic 42, 3) → (c + 1 ≤ 601024 ∧ s + 10 ≤ 7293034) → (∀ p : Int32 × Me, Sim Ω Γ 601024 7293034 ιI 7 (pc + 3) lv [vI p.1] p.2 (c + 1) (s + 10) (F p)) → Sim Ω Γ 601024 7293034 ιI 7 pc lv [vR out, vI p1, vI p0, vR x] σ c s ((fL_field N x p0 p1 out σ).bind F)
def fL_law_470 (N : Nat) (L : Nat) (xs : Nat → Int32) (K23 : Unit → Option Nat → Option Nat → Option Nat → Int32 → Me → Option (Int32 × Me)) (l0 : Unit) (l1 : Option Nat) (l2 : Option Nat) (l3 : Option Nat) (l4 : Int32) (σ : Me) : Option (Int32 × Me) :=
  K23 l0 l1 l2 l3 (l4 + (7 : Int32)) σ
def fL_law_1194 (N : Nat) (L : Nat) (xs : Nat → Int32) (K23 : Unit → Option Nat → Option Nat → Option Nat → Int32 → Me → Option (Int32 × Me)) (l0 : Unit) (l1 : Option Nat) (l2 : Option Nat) (l3 : Option Nat) (l4 : Int32) (s0 : Int32) (s1 : Option Nat) (s2 : Int32) (s3 : Int32) (s4 : Int32) (s5 : Int32) (σ : Me) : Option (Int32 × Me) :=
  (dr σ s1 (.inl 12)).bind fun a =>
  (fc12_fell N a s2 s3 s4 s5 σ).bind fun p1194 =>
  if s0 = p1194.1 then
    K23 l0 l1 l2 l3 (l4 + (7 : Int32)) p1194.2
  else
    retZ (0 : Int32) p1194.2
def fL_law_1158 (N : Nat) (L : Nat) (xs : Nat → Int32) (K23 : Unit → Option Nat → Option Nat → Option Nat → Int32 → Me → Option (Int32 × Me)) (l0 : Unit) (l1 : Option Nat) (l2 : Option Nat) (l3 : Option Nat) (l4 : Int32) (s0 : Option Nat) (s1 : Int32) (s2 : Int32) (s3 : Int32) (s4 : Int32) (σ : Me) : Option (Int32 × Me) :=
  (dr σ s0 (.inl 11)).bind fun a =>
  (fc11_fell N a s1 s2 s3 s4 σ).bind fun p1158 =>
  (ldX L xs (l4 + (1 : Int32))).bind fun v1167 =>
  (ldX L xs (l4 + (2 : Int32))).bind fun v1173 =>
  (ldX L xs (l4 + (3 : Int32))).bind fun v1179 =>
  (ldX L xs (l4 + (4 : Int32))).bind fun v1185 =>
  if v1185 = 0 then
    fL_law_1194 N L xs K23 l0 l1 l2 l3 l4 p1158.1 l2 v1167 v1173 v1179 (0 : Int32) p1158.2
  else
    fL_law_1194 N L xs K23 l0 l1 l2 l3 l4 p1158.1 l2 v1167 v1173 v1179 (1 : Int32) p1158.2
def fL_law_23 (N : Nat) (L : Nat) (xs : Nat → Int32) : Nat → Unit → Option Nat → Option Nat → Option Nat → Int32 → Me → Option (Int32 × Me)
  | 0, _, _, _, _, _, _ => none
  | n + 1, l0, l1, l2, l3, l4, σ =>
    if ((nI L) - (7 : Int32)) < l4 then
      retZ (1 : Int32) σ
    else
      (ldX L xs l4).bind fun v36 =>
      if (v36 &&& (63 : Int32)) = (0 : Int32) then
        (ldX L xs (l4 + (1 : Int32))).bind fun v238 =>
        (ldX L xs (l4 + (2 : Int32))).bind fun v244 =>
        (ldX L xs (l4 + (3 : Int32))).bind fun v250 =>
        (ldX L xs (l4 + (4 : Int32))).bind fun v256 =>
        (ldX L xs (l4 + (5 : Int32))).bind fun v262 =>
        (dr σ l1 (.inl 11)).bind fun a =>
        (fc11_feed N a v238 v244 v250 v256 v262 σ).bind fun p263 =>
        (ldX L xs (l4 + (1 : Int32))).bind fun v272 =>
        (ldX L xs (l4 + (2 : Int32))).bind fun v278 =>
        (ldX L xs (l4 + (3 : Int32))).bind fun v284 =>
        (ldX L xs (l4 + (4 : Int32))).bind fun v290 =>
        (ldX L xs (l4 + (5 : Int32))).bind fun v296 =>
        (dr p263.2 l2 (.inl 12)).bind fun a =>
        (fc12_feed N a v272 v278 v284 v290 v296 p263.2).bind fun p297 =>
        if p263.1 = p297.1 then
          (fL_law_23 N L xs n) l0 l1 l2 l3 (l4 + (7 : Int32)) p297.2
        else
          retZ (0 : Int32) p297.2
      else
      if (v36 &&& (63 : Int32)) = (1 : Int32) then
        (ldX L xs (l4 + (1 : Int32))).bind fun v311 =>
        (dr σ l1 (.inl 11)).bind fun a =>
        (fc11_end N a v311 σ).bind fun p312 =>
        (ldX L xs (l4 + (1 : Int32))).bind fun v321 =>
        (dr p312.2 l2 (.inl 12)).bind fun a =>
        (fc12_end N a v321 p312.2).bind fun p322 =>
        if p312.1 = p322.1 then
          (fL_law_23 N L xs n) l0 l1 l2 l3 (l4 + (7 : Int32)) p322.2
        else
          retZ (0 : Int32) p322.2
      else
      if (v36 &&& (63 : Int32)) = (2 : Int32) then
        (ldX L xs (l4 + (1 : Int32))).bind fun v336 =>
        (dr σ l1 (.inl 11)).bind fun a =>
        (fc11_fault N a v336 σ).bind fun p337 =>
        (ldX L xs (l4 + (1 : Int32))).bind fun v346 =>
        (dr p337.2 l2 (.inl 12)).bind fun a =>
        (fc12_fault N a v346 p337.2).bind fun p347 =>
        if p337.1 = p347.1 then
          (fL_law_23 N L xs n) l0 l1 l2 l3 (l4 + (7 : Int32)) p347.2
        else
          retZ (0 : Int32) p347.2
      else
      if (v36 &&& (63 : Int32)) = (3 : Int32) then
        (ldX L xs (l4 + (1 : Int32))).bind fun v361 =>
        (dr σ l1 (.inl 11)).bind fun a =>
        (fc11_text N a v361 σ).bind fun p362 =>
        (ldX L xs (l4 + (1 : Int32))).bind fun v371 =>
        (dr p362.2 l2 (.inl 12)).bind fun a =>
        (fc12_text N a v371 p362.2).bind fun p372 =>
        if p362.1 = p372.1 then
          (fL_law_23 N L xs n) l0 l1 l2 l3 (l4 + (7 : Int32)) p372.2
        else
          retZ (0 : Int32) p372.2
      else
      if (v36 &&& (63 : Int32)) = (4 : Int32) then
        (ldX L xs (l4 + (1 : Int32))).bind fun v386 =>
        (dr σ l1 (.inl 11)).bind fun a =>
        (fc11_rule N a v386 σ).bind fun p387 =>
        (ldX L xs (l4 + (1 : Int32))).bind fun v396 =>
        (dr p387.2 l2 (.inl 12)).bind fun a =>
        (fc12_rule N a v396 p387.2).bind fun p397 =>
        if p387.1 = p397.1 then
          (fL_law_23 N L xs n) l0 l1 l2 l3 (l4 + (7 : Int32)) p397.2
        else
          retZ (0 : Int32) p397.2
      else
      if (v36 &&& (63 : Int32)) = (5 : Int32) then
        (ldX L xs (l4 + (1 : Int32))).bind fun v411 =>
        (ldX L xs (l4 + (2 : Int32))).bind fun v417 =>
        (fL_field N l1 v411 v417 l3 σ).bind fun p419 =>
        (ldX L xs (l4 + (1 : Int32))).bind fun v430 =>
        (ldX L xs (l4 + (2 : Int32))).bind fun v436 =>
        (dr p419.2 l2 (.inl 12)).bind fun a =>
        (fc12_field N a v430 v436 p419.2).bind fun p437 =>
        (dr p437.2 l2 (.inl 12)).bind fun a =>
        (fc12_thrown N a p437.2).bind fun p443 =>
        if p443.1 = p419.1 then
          if p419.1 = 0 then
            (ldL p443.2 l3 (0 : Int32)).bind fun v460 =>
            if (lg_cmp v460 (Int32.toInt64 p437.1)) = 0 then
              fL_law_470 N L xs (fL_law_23 N L xs n) l0 l1 l2 l3 l4 p443.2
            else
              retZ (0 : Int32) p443.2
          else
            fL_law_470 N L xs (fL_law_23 N L xs n) l0 l1 l2 l3 l4 p443.2
        else
          retZ (0 : Int32) p443.2
      else
      if (v36 &&& (63 : Int32)) = (6 : Int32) then
        (ldX L xs (l4 + (1 : Int32))).bind fun v479 =>
        (dr σ l1 (.inl 11)).bind fun a =>
        (fc11_law N a v479 σ).bind fun p480 =>
        (ldX L xs (l4 + (1 : Int32))).bind fun v489 =>
        (dr p480.2 l2 (.inl 12)).bind fun a =>
        (fc12_law N a v489 p480.2).bind fun p490 =>
        if p480.1 = p490.1 then
          (fL_law_23 N L xs n) l0 l1 l2 l3 (l4 + (7 : Int32)) p490.2
        else
          retZ (0 : Int32) p490.2
      else
      if (v36 &&& (63 : Int32)) = (7 : Int32) then
        (ldX L xs (l4 + (1 : Int32))).bind fun v504 =>
        (dr σ l1 (.inl 11)).bind fun a =>
        (fc11_heresy N a v504 σ).bind fun p505 =>
        (ldX L xs (l4 + (1 : Int32))).bind fun v514 =>
        (dr p505.2 l2 (.inl 12)).bind fun a =>
        (fc12_heresy N a v514 p505.2).bind fun p515 =>
        if p505.1 = p515.1 then
          (fL_law_23 N L xs n) l0 l1 l2 l3 (l4 + (7 : Int32)) p515.2
        else
          retZ (0 : Int32) p515.2
      else
      if (v36 &&& (63 : Int32)) = (8 : Int32) then
        (ldX L xs (l4 + (1 : Int32))).bind fun v529 =>
        (dr σ l1 (.inl 11)).bind fun a =>
        (fc11_year N a v529 σ).bind fun p530 =>
        (ldX L xs (l4 + (1 : Int32))).bind fun v539 =>
        (dr p530.2 l2 (.inl 12)).bind fun a =>
        (fc12_year N a v539 p530.2).bind fun p540 =>
        if p530.1 = p540.1 then
          (fL_law_23 N L xs n) l0 l1 l2 l3 (l4 + (7 : Int32)) p540.2
        else
          retZ (0 : Int32) p540.2
      else
      if (v36 &&& (63 : Int32)) = (9 : Int32) then
        (ldX L xs (l4 + (1 : Int32))).bind fun v554 =>
        (ldX L xs (l4 + (2 : Int32))).bind fun v560 =>
        (ldX L xs (l4 + (3 : Int32))).bind fun v566 =>
        (dr σ l1 (.inl 11)).bind fun a =>
        (fc11_sell N a v554 v560 v566 σ).bind fun p567 =>
        (ldX L xs (l4 + (1 : Int32))).bind fun v576 =>
        (ldX L xs (l4 + (2 : Int32))).bind fun v582 =>
        (ldX L xs (l4 + (3 : Int32))).bind fun v588 =>
        (dr p567.2 l2 (.inl 12)).bind fun a =>
        (fc12_sell N a v576 v582 v588 p567.2).bind fun p589 =>
        if p567.1 = p589.1 then
          (fL_law_23 N L xs n) l0 l1 l2 l3 (l4 + (7 : Int32)) p589.2
        else
          retZ (0 : Int32) p589.2
      else
      if (v36 &&& (63 : Int32)) = (10 : Int32) then
        (ldX L xs (l4 + (1 : Int32))).bind fun v603 =>
        (ldX L xs (l4 + (2 : Int32))).bind fun v609 =>
        (dr σ l1 (.inl 11)).bind fun a =>
        (fc11_forgive N a v603 v609 σ).bind fun p610 =>
        (ldX L xs (l4 + (1 : Int32))).bind fun v619 =>
        (ldX L xs (l4 + (2 : Int32))).bind fun v625 =>
        (dr p610.2 l2 (.inl 12)).bind fun a =>
        (fc12_forgive N a v619 v625 p610.2).bind fun p626 =>
        if p610.1 = p626.1 then
          (fL_law_23 N L xs n) l0 l1 l2 l3 (l4 + (7 : Int32)) p626.2
        else
          retZ (0 : Int32) p626.2
      else
      if (v36 &&& (63 : Int32)) = (11 : Int32) then
        (ldX L xs (l4 + (1 : Int32))).bind fun v640 =>
        (dr σ l1 (.inl 11)).bind fun a =>
        (fc11_hedge N a v640 σ).bind fun p641 =>
        (ldX L xs (l4 + (1 : Int32))).bind fun v650 =>
        (dr p641.2 l2 (.inl 12)).bind fun a =>
        (fc12_hedge N a v650 p641.2).bind fun p651 =>
        if p641.1 = p651.1 then
          (fL_law_23 N L xs n) l0 l1 l2 l3 (l4 + (7 : Int32)) p651.2
        else
          retZ (0 : Int32) p651.2
      else
      if (v36 &&& (63 : Int32)) = (12 : Int32) then
        (ldX L xs (l4 + (1 : Int32))).bind fun v665 =>
        (dr σ l1 (.inl 11)).bind fun a =>
        (fc11_can N a v665 σ).bind fun p666 =>
        (ldX L xs (l4 + (1 : Int32))).bind fun v675 =>
        (dr p666.2 l2 (.inl 12)).bind fun a =>
        (fc12_can N a v675 p666.2).bind fun p676 =>
        if p666.1 = p676.1 then
          (fL_law_23 N L xs n) l0 l1 l2 l3 (l4 + (7 : Int32)) p676.2
        else
          retZ (0 : Int32) p676.2
      else
      if (v36 &&& (63 : Int32)) = (13 : Int32) then
        (ldX L xs (l4 + (1 : Int32))).bind fun v690 =>
        (dr σ l1 (.inl 11)).bind fun a =>
        (fc11_price N a v690 σ).bind fun p691 =>
        (ldX L xs (l4 + (1 : Int32))).bind fun v700 =>
        (dr p691.2 l2 (.inl 12)).bind fun a =>
        (fc12_price N a v700 p691.2).bind fun p701 =>
        if p691.1 = p701.1 then
          (fL_law_23 N L xs n) l0 l1 l2 l3 (l4 + (7 : Int32)) p701.2
        else
          retZ (0 : Int32) p701.2
      else
      if (v36 &&& (63 : Int32)) = (14 : Int32) then
        (ldX L xs (l4 + (1 : Int32))).bind fun v715 =>
        (ldX L xs (l4 + (2 : Int32))).bind fun v721 =>
        (ldX L xs (l4 + (3 : Int32))).bind fun v731 =>
        (dr σ l1 (.inl 11)).bind fun a =>
        (fc11_years N a v715 (((Int32.toInt64 v721) <<< (((32 : Int32)).toInt64 &&& 63)) ||| ((Int32.toInt64 v731) &&& (4294967295 : Int64))) σ).bind fun p738 =>
        (ldX L xs (l4 + (1 : Int32))).bind fun v747 =>
        (ldX L xs (l4 + (2 : Int32))).bind fun v753 =>
        (ldX L xs (l4 + (3 : Int32))).bind fun v763 =>
        (dr p738.2 l2 (.inl 12)).bind fun a =>
        (fc12_years N a v747 (((Int32.toInt64 v753) <<< (((32 : Int32)).toInt64 &&& 63)) ||| ((Int32.toInt64 v763) &&& (4294967295 : Int64))) p738.2).bind fun p770 =>
        if p738.1 = p770.1 then
          (fL_law_23 N L xs n) l0 l1 l2 l3 (l4 + (7 : Int32)) p770.2
        else
          retZ (0 : Int32) p770.2
      else
      if (v36 &&& (63 : Int32)) = (15 : Int32) then
        (dr σ l1 (.inl 11)).bind fun a =>
        (fc11_undo N a σ).bind fun p779 =>
        (dr p779.2 l2 (.inl 12)).bind fun a =>
        (fc12_undo N a p779.2).bind fun p783 =>
        if p779.1 = p783.1 then
          (fL_law_23 N L xs n) l0 l1 l2 l3 (l4 + (7 : Int32)) p783.2
        else
          retZ (0 : Int32) p783.2
      else
      if (v36 &&& (63 : Int32)) = (16 : Int32) then
        (ldX L xs (l4 + (1 : Int32))).bind fun v797 =>
        (ldX L xs (l4 + (2 : Int32))).bind fun v803 =>
        (dr σ l1 (.inl 11)).bind fun a =>
        (fc11_log N a v797 v803 σ).bind fun p804 =>
        (ldX L xs (l4 + (1 : Int32))).bind fun v813 =>
        (ldX L xs (l4 + (2 : Int32))).bind fun v819 =>
        (dr p804.2 l2 (.inl 12)).bind fun a =>
        (fc12_log N a v813 v819 p804.2).bind fun p820 =>
        if p804.1 = p820.1 then
          (fL_law_23 N L xs n) l0 l1 l2 l3 (l4 + (7 : Int32)) p820.2
        else
          retZ (0 : Int32) p820.2
      else
      if (v36 &&& (63 : Int32)) = (17 : Int32) then
        (ldX L xs (l4 + (1 : Int32))).bind fun v834 =>
        (ldX L xs (l4 + (2 : Int32))).bind fun v840 =>
        (ldX L xs (l4 + (3 : Int32))).bind fun v846 =>
        (dr σ l1 (.inl 11)).bind fun a =>
        (fc11_step N a v834 v840 v846 σ).bind fun p847 =>
        (ldX L xs (l4 + (1 : Int32))).bind fun v856 =>
        (ldX L xs (l4 + (2 : Int32))).bind fun v862 =>
        (ldX L xs (l4 + (3 : Int32))).bind fun v868 =>
        (dr p847.2 l2 (.inl 12)).bind fun a =>
        (fc12_step N a v856 v862 v868 p847.2).bind fun p869 =>
        if p847.1 = p869.1 then
          (fL_law_23 N L xs n) l0 l1 l2 l3 (l4 + (7 : Int32)) p869.2
        else
          retZ (0 : Int32) p869.2
      else
      if (v36 &&& (63 : Int32)) = (18 : Int32) then
        (ldX L xs (l4 + (1 : Int32))).bind fun v883 =>
        (ldX L xs (l4 + (2 : Int32))).bind fun v889 =>
        (dr σ l1 (.inl 11)).bind fun a =>
        (fc11_run N a v883 v889 σ).bind fun p890 =>
        (ldX L xs (l4 + (1 : Int32))).bind fun v899 =>
        (ldX L xs (l4 + (2 : Int32))).bind fun v905 =>
        (dr p890.2 l2 (.inl 12)).bind fun a =>
        (fc12_run N a v899 v905 p890.2).bind fun p906 =>
        if p890.1 = p906.1 then
          (fL_law_23 N L xs n) l0 l1 l2 l3 (l4 + (7 : Int32)) p906.2
        else
          retZ (0 : Int32) p906.2
      else
      if (v36 &&& (63 : Int32)) = (19 : Int32) then
        (ldX L xs (l4 + (1 : Int32))).bind fun v920 =>
        (dr σ l1 (.inl 11)).bind fun a =>
        (fc11_perform N a v920 σ).bind fun p921 =>
        (ldX L xs (l4 + (1 : Int32))).bind fun v930 =>
        (dr p921.2 l2 (.inl 12)).bind fun a =>
        (fc12_perform N a v930 p921.2).bind fun p931 =>
        if p921.1 = p931.1 then
          (fL_law_23 N L xs n) l0 l1 l2 l3 (l4 + (7 : Int32)) p931.2
        else
          retZ (0 : Int32) p931.2
      else
      if (v36 &&& (63 : Int32)) = (20 : Int32) then
        (ldX L xs (l4 + (1 : Int32))).bind fun v945 =>
        (ldX L xs (l4 + (2 : Int32))).bind fun v951 =>
        (dr σ l1 (.inl 11)).bind fun a =>
        (fc11_falls N a v945 v951 σ).bind fun p952 =>
        (ldX L xs (l4 + (1 : Int32))).bind fun v961 =>
        (ldX L xs (l4 + (2 : Int32))).bind fun v967 =>
        (dr p952.2 l2 (.inl 12)).bind fun a =>
        (fc12_falls N a v961 v967 p952.2).bind fun p968 =>
        if p952.1 = p968.1 then
          (fL_law_23 N L xs n) l0 l1 l2 l3 (l4 + (7 : Int32)) p968.2
        else
          retZ (0 : Int32) p968.2
      else
      if (v36 &&& (63 : Int32)) = (21 : Int32) then
        (ldX L xs (l4 + (1 : Int32))).bind fun v982 =>
        (dr σ l1 (.inl 11)).bind fun a =>
        (fc11_drowns N a v982 σ).bind fun p983 =>
        (ldX L xs (l4 + (1 : Int32))).bind fun v992 =>
        (dr p983.2 l2 (.inl 12)).bind fun a =>
        (fc12_drowns N a v992 p983.2).bind fun p993 =>
        if p983.1 = p993.1 then
          (fL_law_23 N L xs n) l0 l1 l2 l3 (l4 + (7 : Int32)) p993.2
        else
          retZ (0 : Int32) p993.2
      else
      if (v36 &&& (63 : Int32)) = (22 : Int32) then
        (dr σ l1 (.inl 11)).bind fun a =>
        (fc11_safe N a σ).bind fun p1002 =>
        (dr p1002.2 l2 (.inl 12)).bind fun a =>
        (fc12_safe N a p1002.2).bind fun p1006 =>
        if p1002.1 = p1006.1 then
          (fL_law_23 N L xs n) l0 l1 l2 l3 (l4 + (7 : Int32)) p1006.2
        else
          retZ (0 : Int32) p1006.2
      else
      if (v36 &&& (63 : Int32)) = (23 : Int32) then
        (ldX L xs (l4 + (1 : Int32))).bind fun v1020 =>
        (ldX L xs (l4 + (2 : Int32))).bind fun v1026 =>
        (dr σ l1 (.inl 11)).bind fun a =>
        (fc11_least N a v1020 v1026 σ).bind fun p1027 =>
        (ldX L xs (l4 + (1 : Int32))).bind fun v1036 =>
        (ldX L xs (l4 + (2 : Int32))).bind fun v1042 =>
        (dr p1027.2 l2 (.inl 12)).bind fun a =>
        (fc12_least N a v1036 v1042 p1027.2).bind fun p1043 =>
        if p1027.1 = p1043.1 then
          (fL_law_23 N L xs n) l0 l1 l2 l3 (l4 + (7 : Int32)) p1043.2
        else
          retZ (0 : Int32) p1043.2
      else
      if (v36 &&& (63 : Int32)) = (24 : Int32) then
        (ldX L xs (l4 + (1 : Int32))).bind fun v1057 =>
        (ldX L xs (l4 + (2 : Int32))).bind fun v1063 =>
        (dr σ l1 (.inl 11)).bind fun a =>
        (fc11_best N a v1057 v1063 σ).bind fun p1064 =>
        (ldX L xs (l4 + (1 : Int32))).bind fun v1073 =>
        (ldX L xs (l4 + (2 : Int32))).bind fun v1079 =>
        (dr p1064.2 l2 (.inl 12)).bind fun a =>
        (fc12_best N a v1073 v1079 p1064.2).bind fun p1080 =>
        if p1064.1 = p1080.1 then
          (fL_law_23 N L xs n) l0 l1 l2 l3 (l4 + (7 : Int32)) p1080.2
        else
          retZ (0 : Int32) p1080.2
      else
      if (v36 &&& (63 : Int32)) = (25 : Int32) then
        (ldX L xs (l4 + (1 : Int32))).bind fun v1094 =>
        (ldX L xs (l4 + (2 : Int32))).bind fun v1100 =>
        (dr σ l1 (.inl 11)).bind fun a =>
        (fc11_trades N a v1094 v1100 σ).bind fun p1101 =>
        (ldX L xs (l4 + (1 : Int32))).bind fun v1110 =>
        (ldX L xs (l4 + (2 : Int32))).bind fun v1116 =>
        (dr p1101.2 l2 (.inl 12)).bind fun a =>
        (fc12_trades N a v1110 v1116 p1101.2).bind fun p1117 =>
        if p1101.1 = p1117.1 then
          (fL_law_23 N L xs n) l0 l1 l2 l3 (l4 + (7 : Int32)) p1117.2
        else
          retZ (0 : Int32) p1117.2
      else
      if (v36 &&& (63 : Int32)) = (26 : Int32) then
        (ldX L xs (l4 + (1 : Int32))).bind fun v1131 =>
        (ldX L xs (l4 + (2 : Int32))).bind fun v1137 =>
        (ldX L xs (l4 + (3 : Int32))).bind fun v1143 =>
        (ldX L xs (l4 + (4 : Int32))).bind fun v1149 =>
        if v1149 = 0 then
          fL_law_1158 N L xs (fL_law_23 N L xs n) l0 l1 l2 l3 l4 l1 v1131 v1137 v1143 (0 : Int32) σ
        else
          fL_law_1158 N L xs (fL_law_23 N L xs n) l0 l1 l2 l3 l4 l1 v1131 v1137 v1143 (1 : Int32) σ
      else
      if (v36 &&& (63 : Int32)) = (27 : Int32) then
        (ldX L xs (l4 + (1 : Int32))).bind fun v1208 =>
        (ldX L xs (l4 + (2 : Int32))).bind fun v1214 =>
        (dr σ l1 (.inl 11)).bind fun a =>
        (fc11_debts N a v1208 v1214 σ).bind fun p1215 =>
        (ldX L xs (l4 + (1 : Int32))).bind fun v1224 =>
        (ldX L xs (l4 + (2 : Int32))).bind fun v1230 =>
        (dr p1215.2 l2 (.inl 12)).bind fun a =>
        (fc12_debts N a v1224 v1230 p1215.2).bind fun p1231 =>
        if p1215.1 = p1231.1 then
          (fL_law_23 N L xs n) l0 l1 l2 l3 (l4 + (7 : Int32)) p1231.2
        else
          retZ (0 : Int32) p1231.2
      else
      if (v36 &&& (63 : Int32)) = (28 : Int32) then
        (ldX L xs (l4 + (1 : Int32))).bind fun v1245 =>
        (ldX L xs (l4 + (2 : Int32))).bind fun v1251 =>
        (dr σ l1 (.inl 11)).bind fun a =>
        (fc11_ask N a v1245 v1251 σ).bind fun p1252 =>
        (ldX L xs (l4 + (1 : Int32))).bind fun v1261 =>
        (ldX L xs (l4 + (2 : Int32))).bind fun v1267 =>
        (dr p1252.2 l2 (.inl 12)).bind fun a =>
        (fc12_ask N a v1261 v1267 p1252.2).bind fun p1268 =>
        if p1252.1 = p1268.1 then
          (fL_law_23 N L xs n) l0 l1 l2 l3 (l4 + (7 : Int32)) p1268.2
        else
          retZ (0 : Int32) p1268.2
      else
      if (v36 &&& (63 : Int32)) = (29 : Int32) then
        (ldX L xs (l4 + (1 : Int32))).bind fun v1282 =>
        (ldX L xs (l4 + (2 : Int32))).bind fun v1288 =>
        (ldX L xs (l4 + (3 : Int32))).bind fun v1294 =>
        (ldX L xs (l4 + (4 : Int32))).bind fun v1300 =>
        (ldX L xs (l4 + (5 : Int32))).bind fun v1306 =>
        (ldX L xs (l4 + (6 : Int32))).bind fun v1313 =>
        (dr σ l1 (.inl 11)).bind fun a =>
        (fc11_game N a v1282 v1288 v1294 v1300 v1306 v1313 σ).bind fun p1314 =>
        (ldX L xs (l4 + (1 : Int32))).bind fun v1323 =>
        (ldX L xs (l4 + (2 : Int32))).bind fun v1329 =>
        (ldX L xs (l4 + (3 : Int32))).bind fun v1335 =>
        (ldX L xs (l4 + (4 : Int32))).bind fun v1341 =>
        (ldX L xs (l4 + (5 : Int32))).bind fun v1347 =>
        (ldX L xs (l4 + (6 : Int32))).bind fun v1354 =>
        (dr p1314.2 l2 (.inl 12)).bind fun a =>
        (fc12_game N a v1323 v1329 v1335 v1341 v1347 v1354 p1314.2).bind fun p1355 =>
        if p1314.1 = p1355.1 then
          (fL_law_23 N L xs n) l0 l1 l2 l3 (l4 + (7 : Int32)) p1355.2
        else
          retZ (0 : Int32) p1355.2
      else
      if (v36 &&& (63 : Int32)) = (30 : Int32) then
        (ldX L xs (l4 + (1 : Int32))).bind fun v1369 =>
        (ldX L xs (l4 + (2 : Int32))).bind fun v1375 =>
        (ldX L xs (l4 + (3 : Int32))).bind fun v1381 =>
        (ldX L xs (l4 + (4 : Int32))).bind fun v1387 =>
        (dr σ l1 (.inl 11)).bind fun a =>
        (fc11_rests N a v1369 v1375 v1381 v1387 σ).bind fun p1388 =>
        (ldX L xs (l4 + (1 : Int32))).bind fun v1397 =>
        (ldX L xs (l4 + (2 : Int32))).bind fun v1403 =>
        (ldX L xs (l4 + (3 : Int32))).bind fun v1409 =>
        (ldX L xs (l4 + (4 : Int32))).bind fun v1415 =>
        (dr p1388.2 l2 (.inl 12)).bind fun a =>
        (fc12_rests N a v1397 v1403 v1409 v1415 p1388.2).bind fun p1416 =>
        if p1388.1 = p1416.1 then
          (fL_law_23 N L xs n) l0 l1 l2 l3 (l4 + (7 : Int32)) p1416.2
        else
          retZ (0 : Int32) p1416.2
      else
      if (v36 &&& (63 : Int32)) = (31 : Int32) then
        (ldX L xs (l4 + (1 : Int32))).bind fun v1430 =>
        (ldX L xs (l4 + (2 : Int32))).bind fun v1436 =>
        (ldX L xs (l4 + (3 : Int32))).bind fun v1442 =>
        (dr σ l1 (.inl 11)).bind fun a =>
        (fc11_odds N a v1430 v1436 v1442 σ).bind fun p1443 =>
        (ldX L xs (l4 + (1 : Int32))).bind fun v1452 =>
        (ldX L xs (l4 + (2 : Int32))).bind fun v1458 =>
        (ldX L xs (l4 + (3 : Int32))).bind fun v1464 =>
        (dr p1443.2 l2 (.inl 12)).bind fun a =>
        (fc12_odds N a v1452 v1458 v1464 p1443.2).bind fun p1465 =>
        if p1443.1 = p1465.1 then
          (fL_law_23 N L xs n) l0 l1 l2 l3 (l4 + (7 : Int32)) p1465.2
        else
          retZ (0 : Int32) p1465.2
      else
      if (v36 &&& (63 : Int32)) = (32 : Int32) then
        (ldX L xs (l4 + (1 : Int32))).bind fun v1479 =>
        (dr σ l1 (.inl 11)).bind fun a =>
        (fc11_turn N a v1479 σ).bind fun p1480 =>
        (ldX L xs (l4 + (1 : Int32))).bind fun v1489 =>
        (dr p1480.2 l2 (.inl 12)).bind fun a =>
        (fc12_turn N a v1489 p1480.2).bind fun p1490 =>
        if p1480.1 = p1490.1 then
          (fL_law_23 N L xs n) l0 l1 l2 l3 (l4 + (7 : Int32)) p1490.2
        else
          retZ (0 : Int32) p1490.2
      else
      if (v36 &&& (63 : Int32)) = (33 : Int32) then
        (ldX L xs (l4 + (1 : Int32))).bind fun v1504 =>
        (ldX L xs (l4 + (2 : Int32))).bind fun v1510 =>
        (ldX L xs (l4 + (3 : Int32))).bind fun v1516 =>
        (dr σ l1 (.inl 11)).bind fun a =>
        (fc11_ahead N a v1504 v1510 v1516 σ).bind fun p1517 =>
        (ldX L xs (l4 + (1 : Int32))).bind fun v1526 =>
        (ldX L xs (l4 + (2 : Int32))).bind fun v1532 =>
        (ldX L xs (l4 + (3 : Int32))).bind fun v1538 =>
        (dr p1517.2 l2 (.inl 12)).bind fun a =>
        (fc12_ahead N a v1526 v1532 v1538 p1517.2).bind fun p1539 =>
        if p1517.1 = p1539.1 then
          (fL_law_23 N L xs n) l0 l1 l2 l3 (l4 + (7 : Int32)) p1539.2
        else
          retZ (0 : Int32) p1539.2
      else
      if (v36 &&& (63 : Int32)) = (34 : Int32) then
        (ldX L xs (l4 + (1 : Int32))).bind fun v1553 =>
        (ldX L xs (l4 + (2 : Int32))).bind fun v1559 =>
        (dr σ l1 (.inl 11)).bind fun a =>
        (fc11_even N a v1553 v1559 σ).bind fun p1560 =>
        (ldX L xs (l4 + (1 : Int32))).bind fun v1569 =>
        (ldX L xs (l4 + (2 : Int32))).bind fun v1575 =>
        (dr p1560.2 l2 (.inl 12)).bind fun a =>
        (fc12_even N a v1569 v1575 p1560.2).bind fun p1576 =>
        if p1560.1 = p1576.1 then
          (fL_law_23 N L xs n) l0 l1 l2 l3 (l4 + (7 : Int32)) p1576.2
        else
          retZ (0 : Int32) p1576.2
      else
      if (v36 &&& (63 : Int32)) = (35 : Int32) then
        (ldX L xs (l4 + (1 : Int32))).bind fun v1590 =>
        (dr σ l1 (.inl 11)).bind fun a =>
        (fc11_together N a v1590 σ).bind fun p1591 =>
        (ldX L xs (l4 + (1 : Int32))).bind fun v1600 =>
        (dr p1591.2 l2 (.inl 12)).bind fun a =>
        (fc12_together N a v1600 p1591.2).bind fun p1601 =>
        if p1591.1 = p1601.1 then
          (fL_law_23 N L xs n) l0 l1 l2 l3 (l4 + (7 : Int32)) p1601.2
        else
          retZ (0 : Int32) p1601.2
      else
      if (v36 &&& (63 : Int32)) = (36 : Int32) then
        (ldX L xs (l4 + (1 : Int32))).bind fun v1615 =>
        (dr σ l1 (.inl 11)).bind fun a =>
        (fc11_all N a v1615 σ).bind fun p1616 =>
        (ldX L xs (l4 + (1 : Int32))).bind fun v1625 =>
        (dr p1616.2 l2 (.inl 12)).bind fun a =>
        (fc12_all N a v1625 p1616.2).bind fun p1626 =>
        if p1616.1 = p1626.1 then
          (fL_law_23 N L xs n) l0 l1 l2 l3 (l4 + (7 : Int32)) p1626.2
        else
          retZ (0 : Int32) p1626.2
      else
      if (v36 &&& (63 : Int32)) = (37 : Int32) then
        (ldX L xs (l4 + (1 : Int32))).bind fun v1640 =>
        (ldX L xs (l4 + (2 : Int32))).bind fun v1646 =>
        (dr σ l1 (.inl 11)).bind fun a =>
        (fc11_shares N a v1640 v1646 σ).bind fun p1647 =>
        (ldX L xs (l4 + (1 : Int32))).bind fun v1656 =>
        (ldX L xs (l4 + (2 : Int32))).bind fun v1662 =>
        (dr p1647.2 l2 (.inl 12)).bind fun a =>
        (fc12_shares N a v1656 v1662 p1647.2).bind fun p1663 =>
        if p1647.1 = p1663.1 then
          (fL_law_23 N L xs n) l0 l1 l2 l3 (l4 + (7 : Int32)) p1663.2
        else
          retZ (0 : Int32) p1663.2
      else
      if (v36 &&& (63 : Int32)) = (38 : Int32) then
        (ldX L xs (l4 + (1 : Int32))).bind fun v1677 =>
        (dr σ l1 (.inl 11)).bind fun a =>
        (fc11_buyers N a v1677 σ).bind fun p1678 =>
        (ldX L xs (l4 + (1 : Int32))).bind fun v1687 =>
        (dr p1678.2 l2 (.inl 12)).bind fun a =>
        (fc12_buyers N a v1687 p1678.2).bind fun p1688 =>
        if p1678.1 = p1688.1 then
          (fL_law_23 N L xs n) l0 l1 l2 l3 (l4 + (7 : Int32)) p1688.2
        else
          retZ (0 : Int32) p1688.2
      else
      if (v36 &&& (63 : Int32)) = (39 : Int32) then
        (ldX L xs (l4 + (1 : Int32))).bind fun v1702 =>
        (dr σ l1 (.inl 11)).bind fun a =>
        (fc11_harvest N a v1702 σ).bind fun p1703 =>
        (ldX L xs (l4 + (1 : Int32))).bind fun v1712 =>
        (dr p1703.2 l2 (.inl 12)).bind fun a =>
        (fc12_harvest N a v1712 p1703.2).bind fun p1713 =>
        if p1703.1 = p1713.1 then
          (fL_law_23 N L xs n) l0 l1 l2 l3 (l4 + (7 : Int32)) p1713.2
        else
          retZ (0 : Int32) p1713.2
      else
      if (v36 &&& (63 : Int32)) = (40 : Int32) then
        (ldX L xs (l4 + (1 : Int32))).bind fun v1727 =>
        (dr σ l1 (.inl 11)).bind fun a =>
        (fc11_forgiven N a v1727 σ).bind fun p1728 =>
        (ldX L xs (l4 + (1 : Int32))).bind fun v1737 =>
        (dr p1728.2 l2 (.inl 12)).bind fun a =>
        (fc12_forgiven N a v1737 p1728.2).bind fun p1738 =>
        if p1728.1 = p1738.1 then
          (fL_law_23 N L xs n) l0 l1 l2 l3 (l4 + (7 : Int32)) p1738.2
        else
          retZ (0 : Int32) p1738.2
      else
      if (v36 &&& (63 : Int32)) = (41 : Int32) then
        (dr σ l1 (.inl 11)).bind fun a =>
        (fc11_image N a σ).bind fun p1747 =>
        (dr p1747.2 l2 (.inl 12)).bind fun a =>
        (fc12_image N a p1747.2).bind fun p1751 =>
        if p1747.1 = p1751.1 then
          (fL_law_23 N L xs n) l0 l1 l2 l3 (l4 + (7 : Int32)) p1751.2
        else
          retZ (0 : Int32) p1751.2
      else
      if (v36 &&& (63 : Int32)) = (42 : Int32) then
        (dr σ l1 (.inl 11)).bind fun a =>
        (fc11_back N a σ).bind fun p1760 =>
        (dr p1760.2 l2 (.inl 12)).bind fun a =>
        (fc12_back N a p1760.2).bind fun p1764 =>
        if p1760.1 = p1764.1 then
          (fL_law_23 N L xs n) l0 l1 l2 l3 (l4 + (7 : Int32)) p1764.2
        else
          retZ (0 : Int32) p1764.2
      else
      if (v36 &&& (63 : Int32)) = (43 : Int32) then
        (ldX L xs (l4 + (1 : Int32))).bind fun v1778 =>
        (dr σ l1 (.inl 11)).bind fun a =>
        (fc11_count N a v1778 σ).bind fun p1779 =>
        (ldX L xs (l4 + (1 : Int32))).bind fun v1788 =>
        (dr p1779.2 l2 (.inl 12)).bind fun a =>
        (fc12_count N a v1788 p1779.2).bind fun p1789 =>
        if p1779.1 = p1789.1 then
          (fL_law_23 N L xs n) l0 l1 l2 l3 (l4 + (7 : Int32)) p1789.2
        else
          retZ (0 : Int32) p1789.2
      else
      (fL_law_23 N L xs n) l0 l1 l2 l3 (l4 + (7 : Int32)) σ
def fL_law (N : Nat) (L : Nat) (xs : Nat → Int32)  (σ : Me) : Option (Int32 × Me) :=
  (newO σ 11).bind fun p0 =>
  (fc11_init N p0.1 p0.2).bind fun p4 =>
  (newO p4.2 12).bind fun p8 =>
  (fc12_init N p8.1 p8.2).bind fun p12 =>
  (newA p12.2 .long (1 : Int32) 1).bind fun p17 =>
  fL_law_23 N L xs 600 () (some p0.1) (some p8.1) (some p17.1) (0 : Int32) p17.2
set_option maxRecDepth 20000 in
set_option maxHeartbeats 8000000 in
theorem pL_law_470 {Ω : Om} {Γ : Ga} {N : Nat} (hG : Good Ω Γ tL_law 145 601024 7293034) {L : Nat} {xs : Nat → Int32} (hX : (oX Ω).2.1 = L ∧ (oX Ω).2.2 = xs) (hF : LFld Ω Γ N) {K23 : Unit → Option Nat → Option Nat → Option Nat → Int32 → Me → Option (Int32 × Me)} {n : Nat} (hK23 : ∀ (l0 : Unit) (l1 : Option Nat) (l2 : Option Nat) (l3 : Option Nat) (l4 : Int32) (σ : Me) (c s : Nat), c + 5 * n ≤ 601024 → s + 3100 * n ≤ 7293034 → Sim Ω Γ 601024 7293034 ιI 7 23 [(0, vX l0), (1, vR l1), (2, vR l2), (3, vR l3), (4, vI l4)] [] σ c s (K23 l0 l1 l2 l3 l4 σ)) (l0 : Unit) (l1 : Option Nat) (l2 : Option Nat) (l3 : Option Nat) (l4 : Int32) (σ : Me) : ∀ c s : Nat, c + 5 * n ≤ 601024 → s + 3100 * n ≤ 7293034 → Sim Ω Γ 601024 7293034 ιI 7 470 [(0, vX l0), (1, vR l1), (2, vR l2), (3, vR l3), (4, vI l4)] [] σ c s (fL_law_470 N L xs K23 l0 l1 l2 l3 l4 σ) := by
  intro c s hc hs
  unfold fL_law_470
  refine s_goto hG 1797 dL_law_470 (by decide) ?_
  refine s_iinc (v := 7) hG dL_law_1797 rfl (by decide) (by decide) ?_
  refine s_goto hG 23 dL_law_1800 (by decide) ?_
  exact s_lv (lc rfl (lc rfl (lc rfl (lc rfl (lc rfl ln))))) (hK23 _ _ _ _ _ _ _ _ (by first | omega | decide) (by first | omega | decide))
set_option maxRecDepth 20000 in
set_option maxHeartbeats 8000000 in
theorem pL_law_1194 {Ω : Om} {Γ : Ga} {N : Nat} (hG : Good Ω Γ tL_law 145 601024 7293034) {L : Nat} {xs : Nat → Int32} (hX : (oX Ω).2.1 = L ∧ (oX Ω).2.2 = xs) (hF : LFld Ω Γ N) {K23 : Unit → Option Nat → Option Nat → Option Nat → Int32 → Me → Option (Int32 × Me)} {n : Nat} (hK23 : ∀ (l0 : Unit) (l1 : Option Nat) (l2 : Option Nat) (l3 : Option Nat) (l4 : Int32) (σ : Me) (c s : Nat), c + 5 * n ≤ 601024 → s + 3100 * n ≤ 7293034 → Sim Ω Γ 601024 7293034 ιI 7 23 [(0, vX l0), (1, vR l1), (2, vR l2), (3, vR l3), (4, vI l4)] [] σ c s (K23 l0 l1 l2 l3 l4 σ)) (l0 : Unit) (l1 : Option Nat) (l2 : Option Nat) (l3 : Option Nat) (l4 : Int32) (s0 : Int32) (s1 : Option Nat) (s2 : Int32) (s3 : Int32) (s4 : Int32) (s5 : Int32) (σ : Me) : ∀ c s : Nat, c + 5 * n ≤ 601024 → s + 3100 * n ≤ 7293034 → Sim Ω Γ 601024 7293034 ιI 7 1194 [(0, vX l0), (1, vR l1), (2, vR l2), (3, vR l3), (4, vI l4)] [vI s5, vI s4, vI s3, vI s2, vR s1, vI s0] σ c s (fL_law_1194 N L xs K23 l0 l1 l2 l3 l4 s0 s1 s2 s3 s4 s5 σ) := by
  intro c s hc hs
  unfold fL_law_1194
  refine s_callVi hG kML_140 (fun a => corc12_fell N a _ _ _ _ _) ⟨by decide, rfl⟩ rfl (by first | decide | omega) dL_law_1194 rfl rfl (Nat.le_of_ble_eq_true rfl) ⟨by first | omega | decide, by first | omega | decide⟩ (fun p1194 => ?_)
  refine s_icmp_eq hG 1797 dL_law_1197 (by decide) ?_ ?_
  · refine s_iinc (v := 7) hG dL_law_1797 rfl (by decide) (by decide) ?_
    refine s_goto hG 23 dL_law_1800 (by decide) ?_
    exact s_lv (lc rfl (lc rfl (lc rfl (lc rfl (lc rfl ln))))) (hK23 _ _ _ _ _ _ _ _ (by first | omega | decide) (by first | omega | decide))
  · refine s_iconst (v := 0) hG dL_law_1200 (by decide) ?_
    exact s_zret hG dL_law_1201 rfl (by omega) (by omega)
set_option maxRecDepth 20000 in
set_option maxHeartbeats 8000000 in
theorem pL_law_1158 {Ω : Om} {Γ : Ga} {N : Nat} (hG : Good Ω Γ tL_law 145 601024 7293034) {L : Nat} {xs : Nat → Int32} (hX : (oX Ω).2.1 = L ∧ (oX Ω).2.2 = xs) (hF : LFld Ω Γ N) {K23 : Unit → Option Nat → Option Nat → Option Nat → Int32 → Me → Option (Int32 × Me)} {n : Nat} (hK23 : ∀ (l0 : Unit) (l1 : Option Nat) (l2 : Option Nat) (l3 : Option Nat) (l4 : Int32) (σ : Me) (c s : Nat), c + 5 * n ≤ 601024 → s + 3100 * n ≤ 7293034 → Sim Ω Γ 601024 7293034 ιI 7 23 [(0, vX l0), (1, vR l1), (2, vR l2), (3, vR l3), (4, vI l4)] [] σ c s (K23 l0 l1 l2 l3 l4 σ)) (l0 : Unit) (l1 : Option Nat) (l2 : Option Nat) (l3 : Option Nat) (l4 : Int32) (s0 : Option Nat) (s1 : Int32) (s2 : Int32) (s3 : Int32) (s4 : Int32) (σ : Me) : ∀ c s : Nat, c + 5 * n ≤ 601024 → s + 3100 * n ≤ 7293034 → Sim Ω Γ 601024 7293034 ιI 7 1158 [(0, vX l0), (1, vR l1), (2, vR l2), (3, vR l3), (4, vI l4)] [vI s4, vI s3, vI s2, vI s1, vR s0] σ c s (fL_law_1158 N L xs K23 l0 l1 l2 l3 l4 s0 s1 s2 s3 s4 σ) := by
  intro c s hc hs
  unfold fL_law_1158
  refine s_callVi hG kML_136 (fun a => corc11_fell N a _ _ _ _ _) ⟨by decide, rfl⟩ rfl (by first | decide | omega) dL_law_1158 rfl rfl (Nat.le_of_ble_eq_true rfl) ⟨by first | omega | decide, by first | omega | decide⟩ (fun p1158 => ?_)
  refine s_aload_n hG dL_law_1161 rfl ?_
  refine s_aload_n hG dL_law_1162 rfl ?_
  refine s_iload hG dL_law_1163 rfl ?_
  refine s_iconst (v := 1) hG dL_law_1165 (by decide) ?_
  refine s_iadd hG dL_law_1166 ?_
  refine s_xald hG hX dL_law_1167 (fun v1167 => ?_)
  refine s_aload_n hG dL_law_1168 rfl ?_
  refine s_iload hG dL_law_1169 rfl ?_
  refine s_iconst (v := 2) hG dL_law_1171 (by decide) ?_
  refine s_iadd hG dL_law_1172 ?_
  refine s_xald hG hX dL_law_1173 (fun v1173 => ?_)
  refine s_aload_n hG dL_law_1174 rfl ?_
  refine s_iload hG dL_law_1175 rfl ?_
  refine s_iconst (v := 3) hG dL_law_1177 (by decide) ?_
  refine s_iadd hG dL_law_1178 ?_
  refine s_xald hG hX dL_law_1179 (fun v1179 => ?_)
  refine s_aload_n hG dL_law_1180 rfl ?_
  refine s_iload hG dL_law_1181 rfl ?_
  refine s_iconst (v := 4) hG dL_law_1183 (by decide) ?_
  refine s_iadd hG dL_law_1184 ?_
  refine s_xald hG hX dL_law_1185 (fun v1185 => ?_)
  refine s_if_eq hG 1193 dL_law_1186 (by decide) ?_ ?_
  · refine s_iconst (v := 0) hG dL_law_1193 (by decide) ?_
    exact s_lv (lc rfl (lc rfl (lc rfl (lc rfl (lc rfl ln))))) (pL_law_1194 hG hX hF hK23 _ _ _ _ _ _ _ _ _ _ _ _ _ _ (by first | omega | decide) (by first | omega | decide))
  · refine s_iconst (v := 1) hG dL_law_1189 (by decide) ?_
    refine s_goto hG 1194 dL_law_1190 (by decide) ?_
    exact s_lv (lc rfl (lc rfl (lc rfl (lc rfl (lc rfl ln))))) (pL_law_1194 hG hX hF hK23 _ _ _ _ _ _ _ _ _ _ _ _ _ _ (by first | omega | decide) (by first | omega | decide))
set_option maxRecDepth 20000 in
set_option maxHeartbeats 8000000 in
theorem pL_law_23 {Ω : Om} {Γ : Ga} {N : Nat} (hG : Good Ω Γ tL_law 145 601024 7293034) {L : Nat} {xs : Nat → Int32} (hX : (oX Ω).2.1 = L ∧ (oX Ω).2.2 = xs) (hF : LFld Ω Γ N)  : ∀ (n : Nat) (l0 : Unit) (l1 : Option Nat) (l2 : Option Nat) (l3 : Option Nat) (l4 : Int32) (σ : Me) (c s : Nat), c + 5 * n ≤ 601024 → s + 3100 * n ≤ 7293034 → Sim Ω Γ 601024 7293034 ιI 7 23 [(0, vX l0), (1, vR l1), (2, vR l2), (3, vR l3), (4, vI l4)] [] σ c s (fL_law_23 N L xs n l0 l1 l2 l3 l4 σ) := by
  intro n
  induction n with
  | zero => intros; exact s_none
  | succ n ih =>
    intro l0 l1 l2 l3 l4 σ c s hc hs
    unfold fL_law_23
    refine s_iload hG dL_law_23 rfl ?_
    refine s_aload_n hG dL_law_25 rfl ?_
    refine s_xlen hG hX dL_law_26 ?_
    refine s_bipush (v := 7) hG dL_law_27 (by decide) ?_
    refine s_isub hG dL_law_29 ?_
    refine s_icmp_gt hG 1803 dL_law_30 (by decide) ?_ ?_
    · refine s_iconst (v := 1) hG dL_law_1803 (by decide) ?_
      exact s_zret hG dL_law_1804 rfl (by omega) (by omega)
    · refine s_aload_n hG dL_law_33 rfl ?_
      refine s_iload hG dL_law_34 rfl ?_
      refine s_xald hG hX dL_law_36 (fun v36 => ?_)
      refine s_bipush (v := 63) hG dL_law_37 (by decide) ?_
      refine s_iand hG dL_law_39 ?_
      refine s_split _ (fun e0 => ?_) (fun e0 => ?_)
      · refine s_tabIn hG 232 dL_law_40 (by rw [e0]; decide) (by rw [e0]; decide) (by rw [e0]; rfl) (by decide) ?_
        refine s_aload_n hG dL_law_232 rfl ?_
        refine s_aload_n hG dL_law_233 rfl ?_
        refine s_iload hG dL_law_234 rfl ?_
        refine s_iconst (v := 1) hG dL_law_236 (by decide) ?_
        refine s_iadd hG dL_law_237 ?_
        refine s_xald hG hX dL_law_238 (fun v238 => ?_)
        refine s_aload_n hG dL_law_239 rfl ?_
        refine s_iload hG dL_law_240 rfl ?_
        refine s_iconst (v := 2) hG dL_law_242 (by decide) ?_
        refine s_iadd hG dL_law_243 ?_
        refine s_xald hG hX dL_law_244 (fun v244 => ?_)
        refine s_aload_n hG dL_law_245 rfl ?_
        refine s_iload hG dL_law_246 rfl ?_
        refine s_iconst (v := 3) hG dL_law_248 (by decide) ?_
        refine s_iadd hG dL_law_249 ?_
        refine s_xald hG hX dL_law_250 (fun v250 => ?_)
        refine s_aload_n hG dL_law_251 rfl ?_
        refine s_iload hG dL_law_252 rfl ?_
        refine s_iconst (v := 4) hG dL_law_254 (by decide) ?_
        refine s_iadd hG dL_law_255 ?_
        refine s_xald hG hX dL_law_256 (fun v256 => ?_)
        refine s_aload_n hG dL_law_257 rfl ?_
        refine s_iload hG dL_law_258 rfl ?_
        refine s_iconst (v := 5) hG dL_law_260 (by decide) ?_
        refine s_iadd hG dL_law_261 ?_
        refine s_xald hG hX dL_law_262 (fun v262 => ?_)
        refine s_callVi hG kML_19 (fun a => corc11_feed N a _ _ _ _ _ _) ⟨by decide, rfl⟩ rfl (by first | decide | omega) dL_law_263 rfl rfl (Nat.le_of_ble_eq_true rfl) ⟨by first | omega | decide, by first | omega | decide⟩ (fun p263 => ?_)
        refine s_aload_n hG dL_law_266 rfl ?_
        refine s_aload_n hG dL_law_267 rfl ?_
        refine s_iload hG dL_law_268 rfl ?_
        refine s_iconst (v := 1) hG dL_law_270 (by decide) ?_
        refine s_iadd hG dL_law_271 ?_
        refine s_xald hG hX dL_law_272 (fun v272 => ?_)
        refine s_aload_n hG dL_law_273 rfl ?_
        refine s_iload hG dL_law_274 rfl ?_
        refine s_iconst (v := 2) hG dL_law_276 (by decide) ?_
        refine s_iadd hG dL_law_277 ?_
        refine s_xald hG hX dL_law_278 (fun v278 => ?_)
        refine s_aload_n hG dL_law_279 rfl ?_
        refine s_iload hG dL_law_280 rfl ?_
        refine s_iconst (v := 3) hG dL_law_282 (by decide) ?_
        refine s_iadd hG dL_law_283 ?_
        refine s_xald hG hX dL_law_284 (fun v284 => ?_)
        refine s_aload_n hG dL_law_285 rfl ?_
        refine s_iload hG dL_law_286 rfl ?_
        refine s_iconst (v := 4) hG dL_law_288 (by decide) ?_
        refine s_iadd hG dL_law_289 ?_
        refine s_xald hG hX dL_law_290 (fun v290 => ?_)
        refine s_aload_n hG dL_law_291 rfl ?_
        refine s_iload hG dL_law_292 rfl ?_
        refine s_iconst (v := 5) hG dL_law_294 (by decide) ?_
        refine s_iadd hG dL_law_295 ?_
        refine s_xald hG hX dL_law_296 (fun v296 => ?_)
        refine s_callVi hG kML_23 (fun a => corc12_feed N a _ _ _ _ _ _) ⟨by decide, rfl⟩ rfl (by first | decide | omega) dL_law_297 rfl rfl (Nat.le_of_ble_eq_true rfl) ⟨by first | omega | decide, by first | omega | decide⟩ (fun p297 => ?_)
        refine s_icmp_eq hG 1797 dL_law_300 (by decide) ?_ ?_
        · refine s_iinc (v := 7) hG dL_law_1797 rfl (by decide) (by decide) ?_
          refine s_goto hG 23 dL_law_1800 (by decide) ?_
          exact s_lv (lc rfl (lc rfl (lc rfl (lc rfl (lc rfl ln))))) (ih _ _ _ _ _ _ _ _ (by first | omega | decide) (by first | omega | decide))
        · refine s_iconst (v := 0) hG dL_law_303 (by decide) ?_
          exact s_zret hG dL_law_304 rfl (by omega) (by omega)
      · refine s_split _ (fun e1 => ?_) (fun e1 => ?_)
        · refine s_tabIn hG 305 dL_law_40 (by rw [e1]; decide) (by rw [e1]; decide) (by rw [e1]; rfl) (by decide) ?_
          refine s_aload_n hG dL_law_305 rfl ?_
          refine s_aload_n hG dL_law_306 rfl ?_
          refine s_iload hG dL_law_307 rfl ?_
          refine s_iconst (v := 1) hG dL_law_309 (by decide) ?_
          refine s_iadd hG dL_law_310 ?_
          refine s_xald hG hX dL_law_311 (fun v311 => ?_)
          refine s_callVi hG kML_24 (fun a => corc11_end N a _ _) ⟨by decide, rfl⟩ rfl (by first | decide | omega) dL_law_312 rfl rfl (Nat.le_of_ble_eq_true rfl) ⟨by first | omega | decide, by first | omega | decide⟩ (fun p312 => ?_)
          refine s_aload_n hG dL_law_315 rfl ?_
          refine s_aload_n hG dL_law_316 rfl ?_
          refine s_iload hG dL_law_317 rfl ?_
          refine s_iconst (v := 1) hG dL_law_319 (by decide) ?_
          refine s_iadd hG dL_law_320 ?_
          refine s_xald hG hX dL_law_321 (fun v321 => ?_)
          refine s_callVi hG kML_28 (fun a => corc12_end N a _ _) ⟨by decide, rfl⟩ rfl (by first | decide | omega) dL_law_322 rfl rfl (Nat.le_of_ble_eq_true rfl) ⟨by first | omega | decide, by first | omega | decide⟩ (fun p322 => ?_)
          refine s_icmp_eq hG 1797 dL_law_325 (by decide) ?_ ?_
          · refine s_iinc (v := 7) hG dL_law_1797 rfl (by decide) (by decide) ?_
            refine s_goto hG 23 dL_law_1800 (by decide) ?_
            exact s_lv (lc rfl (lc rfl (lc rfl (lc rfl (lc rfl ln))))) (ih _ _ _ _ _ _ _ _ (by first | omega | decide) (by first | omega | decide))
          · refine s_iconst (v := 0) hG dL_law_328 (by decide) ?_
            exact s_zret hG dL_law_329 rfl (by omega) (by omega)
        · refine s_split _ (fun e2 => ?_) (fun e2 => ?_)
          · refine s_tabIn hG 330 dL_law_40 (by rw [e2]; decide) (by rw [e2]; decide) (by rw [e2]; rfl) (by decide) ?_
            refine s_aload_n hG dL_law_330 rfl ?_
            refine s_aload_n hG dL_law_331 rfl ?_
            refine s_iload hG dL_law_332 rfl ?_
            refine s_iconst (v := 1) hG dL_law_334 (by decide) ?_
            refine s_iadd hG dL_law_335 ?_
            refine s_xald hG hX dL_law_336 (fun v336 => ?_)
            refine s_callVi hG kML_29 (fun a => corc11_fault N a _ _) ⟨by decide, rfl⟩ rfl (by first | decide | omega) dL_law_337 rfl rfl (Nat.le_of_ble_eq_true rfl) ⟨by first | omega | decide, by first | omega | decide⟩ (fun p337 => ?_)
            refine s_aload_n hG dL_law_340 rfl ?_
            refine s_aload_n hG dL_law_341 rfl ?_
            refine s_iload hG dL_law_342 rfl ?_
            refine s_iconst (v := 1) hG dL_law_344 (by decide) ?_
            refine s_iadd hG dL_law_345 ?_
            refine s_xald hG hX dL_law_346 (fun v346 => ?_)
            refine s_callVi hG kML_33 (fun a => corc12_fault N a _ _) ⟨by decide, rfl⟩ rfl (by first | decide | omega) dL_law_347 rfl rfl (Nat.le_of_ble_eq_true rfl) ⟨by first | omega | decide, by first | omega | decide⟩ (fun p347 => ?_)
            refine s_icmp_eq hG 1797 dL_law_350 (by decide) ?_ ?_
            · refine s_iinc (v := 7) hG dL_law_1797 rfl (by decide) (by decide) ?_
              refine s_goto hG 23 dL_law_1800 (by decide) ?_
              exact s_lv (lc rfl (lc rfl (lc rfl (lc rfl (lc rfl ln))))) (ih _ _ _ _ _ _ _ _ (by first | omega | decide) (by first | omega | decide))
            · refine s_iconst (v := 0) hG dL_law_353 (by decide) ?_
              exact s_zret hG dL_law_354 rfl (by omega) (by omega)
          · refine s_split _ (fun e3 => ?_) (fun e3 => ?_)
            · refine s_tabIn hG 355 dL_law_40 (by rw [e3]; decide) (by rw [e3]; decide) (by rw [e3]; rfl) (by decide) ?_
              refine s_aload_n hG dL_law_355 rfl ?_
              refine s_aload_n hG dL_law_356 rfl ?_
              refine s_iload hG dL_law_357 rfl ?_
              refine s_iconst (v := 1) hG dL_law_359 (by decide) ?_
              refine s_iadd hG dL_law_360 ?_
              refine s_xald hG hX dL_law_361 (fun v361 => ?_)
              refine s_callVi hG kML_34 (fun a => corc11_text N a _ _) ⟨by decide, rfl⟩ rfl (by first | decide | omega) dL_law_362 rfl rfl (Nat.le_of_ble_eq_true rfl) ⟨by first | omega | decide, by first | omega | decide⟩ (fun p362 => ?_)
              refine s_aload_n hG dL_law_365 rfl ?_
              refine s_aload_n hG dL_law_366 rfl ?_
              refine s_iload hG dL_law_367 rfl ?_
              refine s_iconst (v := 1) hG dL_law_369 (by decide) ?_
              refine s_iadd hG dL_law_370 ?_
              refine s_xald hG hX dL_law_371 (fun v371 => ?_)
              refine s_callVi hG kML_37 (fun a => corc12_text N a _ _) ⟨by decide, rfl⟩ rfl (by first | decide | omega) dL_law_372 rfl rfl (Nat.le_of_ble_eq_true rfl) ⟨by first | omega | decide, by first | omega | decide⟩ (fun p372 => ?_)
              refine s_icmp_eq hG 1797 dL_law_375 (by decide) ?_ ?_
              · refine s_iinc (v := 7) hG dL_law_1797 rfl (by decide) (by decide) ?_
                refine s_goto hG 23 dL_law_1800 (by decide) ?_
                exact s_lv (lc rfl (lc rfl (lc rfl (lc rfl (lc rfl ln))))) (ih _ _ _ _ _ _ _ _ (by first | omega | decide) (by first | omega | decide))
              · refine s_iconst (v := 0) hG dL_law_378 (by decide) ?_
                exact s_zret hG dL_law_379 rfl (by omega) (by omega)
            · refine s_split _ (fun e4 => ?_) (fun e4 => ?_)
              · refine s_tabIn hG 380 dL_law_40 (by rw [e4]; decide) (by rw [e4]; decide) (by rw [e4]; rfl) (by decide) ?_
                refine s_aload_n hG dL_law_380 rfl ?_
                refine s_aload_n hG dL_law_381 rfl ?_
                refine s_iload hG dL_law_382 rfl ?_
                refine s_iconst (v := 1) hG dL_law_384 (by decide) ?_
                refine s_iadd hG dL_law_385 ?_
                refine s_xald hG hX dL_law_386 (fun v386 => ?_)
                refine s_callVi hG kML_38 (fun a => corc11_rule N a _ _) ⟨by decide, rfl⟩ rfl (by first | decide | omega) dL_law_387 rfl rfl (Nat.le_of_ble_eq_true rfl) ⟨by first | omega | decide, by first | omega | decide⟩ (fun p387 => ?_)
                refine s_aload_n hG dL_law_390 rfl ?_
                refine s_aload_n hG dL_law_391 rfl ?_
                refine s_iload hG dL_law_392 rfl ?_
                refine s_iconst (v := 1) hG dL_law_394 (by decide) ?_
                refine s_iadd hG dL_law_395 ?_
                refine s_xald hG hX dL_law_396 (fun v396 => ?_)
                refine s_callVi hG kML_41 (fun a => corc12_rule N a _ _) ⟨by decide, rfl⟩ rfl (by first | decide | omega) dL_law_397 rfl rfl (Nat.le_of_ble_eq_true rfl) ⟨by first | omega | decide, by first | omega | decide⟩ (fun p397 => ?_)
                refine s_icmp_eq hG 1797 dL_law_400 (by decide) ?_ ?_
                · refine s_iinc (v := 7) hG dL_law_1797 rfl (by decide) (by decide) ?_
                  refine s_goto hG 23 dL_law_1800 (by decide) ?_
                  exact s_lv (lc rfl (lc rfl (lc rfl (lc rfl (lc rfl ln))))) (ih _ _ _ _ _ _ _ _ (by first | omega | decide) (by first | omega | decide))
                · refine s_iconst (v := 0) hG dL_law_403 (by decide) ?_
                  exact s_zret hG dL_law_404 rfl (by omega) (by omega)
              · refine s_split _ (fun e5 => ?_) (fun e5 => ?_)
                · refine s_tabIn hG 405 dL_law_40 (by rw [e5]; decide) (by rw [e5]; decide) (by rw [e5]; rfl) (by decide) ?_
                  refine s_aload_n hG dL_law_405 rfl ?_
                  refine s_aload_n hG dL_law_406 rfl ?_
                  refine s_iload hG dL_law_407 rfl ?_
                  refine s_iconst (v := 1) hG dL_law_409 (by decide) ?_
                  refine s_iadd hG dL_law_410 ?_
                  refine s_xald hG hX dL_law_411 (fun v411 => ?_)
                  refine s_aload_n hG dL_law_412 rfl ?_
                  refine s_iload hG dL_law_413 rfl ?_
                  refine s_iconst (v := 2) hG dL_law_415 (by decide) ?_
                  refine s_iadd hG dL_law_416 ?_
                  refine s_xald hG hX dL_law_417 (fun v417 => ?_)
                  refine s_aload_n hG dL_law_418 rfl ?_
                  refine hF dL_law_419 ⟨by omega, by omega⟩ (fun p419 => ?_)
                  refine s_istore hG dL_law_422 (by decide) ?_
                  refine s_aload_n hG dL_law_424 rfl ?_
                  refine s_aload_n hG dL_law_425 rfl ?_
                  refine s_iload hG dL_law_426 rfl ?_
                  refine s_iconst (v := 1) hG dL_law_428 (by decide) ?_
                  refine s_iadd hG dL_law_429 ?_
                  refine s_xald hG hX dL_law_430 (fun v430 => ?_)
                  refine s_aload_n hG dL_law_431 rfl ?_
                  refine s_iload hG dL_law_432 rfl ?_
                  refine s_iconst (v := 2) hG dL_law_434 (by decide) ?_
                  refine s_iadd hG dL_law_435 ?_
                  refine s_xald hG hX dL_law_436 (fun v436 => ?_)
                  refine s_callVi hG kML_47 (fun a => corc12_field N a _ _ _) ⟨by decide, rfl⟩ rfl (by first | decide | omega) dL_law_437 rfl rfl (Nat.le_of_ble_eq_true rfl) ⟨by first | omega | decide, by first | omega | decide⟩ (fun p437 => ?_)
                  refine s_istore hG dL_law_440 (by decide) ?_
                  refine s_aload_n hG dL_law_442 rfl ?_
                  refine s_callVi hG kML_48 (fun a => corc12_thrown N a _) ⟨by decide, rfl⟩ rfl (by first | decide | omega) dL_law_443 rfl rfl (Nat.le_of_ble_eq_true rfl) ⟨by first | omega | decide, by first | omega | decide⟩ (fun p443 => ?_)
                  refine s_iload hG dL_law_446 rfl ?_
                  refine s_icmp_eq hG 453 dL_law_448 (by decide) ?_ ?_
                  · refine s_iload hG dL_law_453 rfl ?_
                    refine s_if_ne hG 470 dL_law_455 (by decide) ?_ ?_
                    · exact s_lv (lc rfl (lc rfl (lc rfl (lc rfl (lc rfl ln))))) (pL_law_470 hG hX hF ih _ _ _ _ _ _ _ _ (by first | omega | decide) (by first | omega | decide))
                    · refine s_aload_n hG dL_law_458 rfl ?_
                      refine s_iconst (v := 0) hG dL_law_459 (by decide) ?_
                      refine s_lald hG dL_law_460 (fun v460 => ?_)
                      refine s_iload hG dL_law_461 rfl ?_
                      refine s_i2l hG dL_law_463 ?_
                      refine s_lcmp hG dL_law_464 ?_
                      refine s_if_eq hG 470 dL_law_465 (by decide) ?_ ?_
                      · exact s_lv (lc rfl (lc rfl (lc rfl (lc rfl (lc rfl ln))))) (pL_law_470 hG hX hF ih _ _ _ _ _ _ _ _ (by first | omega | decide) (by first | omega | decide))
                      · refine s_iconst (v := 0) hG dL_law_468 (by decide) ?_
                        exact s_zret hG dL_law_469 rfl (by omega) (by omega)
                  · refine s_iconst (v := 0) hG dL_law_451 (by decide) ?_
                    exact s_zret hG dL_law_452 rfl (by omega) (by omega)
                · refine s_split _ (fun e6 => ?_) (fun e6 => ?_)
                  · refine s_tabIn hG 473 dL_law_40 (by rw [e6]; decide) (by rw [e6]; decide) (by rw [e6]; rfl) (by decide) ?_
                    refine s_aload_n hG dL_law_473 rfl ?_
                    refine s_aload_n hG dL_law_474 rfl ?_
                    refine s_iload hG dL_law_475 rfl ?_
                    refine s_iconst (v := 1) hG dL_law_477 (by decide) ?_
                    refine s_iadd hG dL_law_478 ?_
                    refine s_xald hG hX dL_law_479 (fun v479 => ?_)
                    refine s_callVi hG kML_52 (fun a => corc11_law N a _ _) ⟨by decide, rfl⟩ rfl (by first | decide | omega) dL_law_480 rfl rfl (Nat.le_of_ble_eq_true rfl) ⟨by first | omega | decide, by first | omega | decide⟩ (fun p480 => ?_)
                    refine s_aload_n hG dL_law_483 rfl ?_
                    refine s_aload_n hG dL_law_484 rfl ?_
                    refine s_iload hG dL_law_485 rfl ?_
                    refine s_iconst (v := 1) hG dL_law_487 (by decide) ?_
                    refine s_iadd hG dL_law_488 ?_
                    refine s_xald hG hX dL_law_489 (fun v489 => ?_)
                    refine s_callVi hG kML_55 (fun a => corc12_law N a _ _) ⟨by decide, rfl⟩ rfl (by first | decide | omega) dL_law_490 rfl rfl (Nat.le_of_ble_eq_true rfl) ⟨by first | omega | decide, by first | omega | decide⟩ (fun p490 => ?_)
                    refine s_icmp_eq hG 1797 dL_law_493 (by decide) ?_ ?_
                    · refine s_iinc (v := 7) hG dL_law_1797 rfl (by decide) (by decide) ?_
                      refine s_goto hG 23 dL_law_1800 (by decide) ?_
                      exact s_lv (lc rfl (lc rfl (lc rfl (lc rfl (lc rfl ln))))) (ih _ _ _ _ _ _ _ _ (by first | omega | decide) (by first | omega | decide))
                    · refine s_iconst (v := 0) hG dL_law_496 (by decide) ?_
                      exact s_zret hG dL_law_497 rfl (by omega) (by omega)
                  · refine s_split _ (fun e7 => ?_) (fun e7 => ?_)
                    · refine s_tabIn hG 498 dL_law_40 (by rw [e7]; decide) (by rw [e7]; decide) (by rw [e7]; rfl) (by decide) ?_
                      refine s_aload_n hG dL_law_498 rfl ?_
                      refine s_aload_n hG dL_law_499 rfl ?_
                      refine s_iload hG dL_law_500 rfl ?_
                      refine s_iconst (v := 1) hG dL_law_502 (by decide) ?_
                      refine s_iadd hG dL_law_503 ?_
                      refine s_xald hG hX dL_law_504 (fun v504 => ?_)
                      refine s_callVi hG kML_56 (fun a => corc11_heresy N a _ _) ⟨by decide, rfl⟩ rfl (by first | decide | omega) dL_law_505 rfl rfl (Nat.le_of_ble_eq_true rfl) ⟨by first | omega | decide, by first | omega | decide⟩ (fun p505 => ?_)
                      refine s_aload_n hG dL_law_508 rfl ?_
                      refine s_aload_n hG dL_law_509 rfl ?_
                      refine s_iload hG dL_law_510 rfl ?_
                      refine s_iconst (v := 1) hG dL_law_512 (by decide) ?_
                      refine s_iadd hG dL_law_513 ?_
                      refine s_xald hG hX dL_law_514 (fun v514 => ?_)
                      refine s_callVi hG kML_59 (fun a => corc12_heresy N a _ _) ⟨by decide, rfl⟩ rfl (by first | decide | omega) dL_law_515 rfl rfl (Nat.le_of_ble_eq_true rfl) ⟨by first | omega | decide, by first | omega | decide⟩ (fun p515 => ?_)
                      refine s_icmp_eq hG 1797 dL_law_518 (by decide) ?_ ?_
                      · refine s_iinc (v := 7) hG dL_law_1797 rfl (by decide) (by decide) ?_
                        refine s_goto hG 23 dL_law_1800 (by decide) ?_
                        exact s_lv (lc rfl (lc rfl (lc rfl (lc rfl (lc rfl ln))))) (ih _ _ _ _ _ _ _ _ (by first | omega | decide) (by first | omega | decide))
                      · refine s_iconst (v := 0) hG dL_law_521 (by decide) ?_
                        exact s_zret hG dL_law_522 rfl (by omega) (by omega)
                    · refine s_split _ (fun e8 => ?_) (fun e8 => ?_)
                      · refine s_tabIn hG 523 dL_law_40 (by rw [e8]; decide) (by rw [e8]; decide) (by rw [e8]; rfl) (by decide) ?_
                        refine s_aload_n hG dL_law_523 rfl ?_
                        refine s_aload_n hG dL_law_524 rfl ?_
                        refine s_iload hG dL_law_525 rfl ?_
                        refine s_iconst (v := 1) hG dL_law_527 (by decide) ?_
                        refine s_iadd hG dL_law_528 ?_
                        refine s_xald hG hX dL_law_529 (fun v529 => ?_)
                        refine s_callVi hG kML_60 (fun a => corc11_year N a _ _) ⟨by decide, rfl⟩ rfl (by first | decide | omega) dL_law_530 rfl rfl (Nat.le_of_ble_eq_true rfl) ⟨by first | omega | decide, by first | omega | decide⟩ (fun p530 => ?_)
                        refine s_aload_n hG dL_law_533 rfl ?_
                        refine s_aload_n hG dL_law_534 rfl ?_
                        refine s_iload hG dL_law_535 rfl ?_
                        refine s_iconst (v := 1) hG dL_law_537 (by decide) ?_
                        refine s_iadd hG dL_law_538 ?_
                        refine s_xald hG hX dL_law_539 (fun v539 => ?_)
                        refine s_callVi hG kML_63 (fun a => corc12_year N a _ _) ⟨by decide, rfl⟩ rfl (by first | decide | omega) dL_law_540 rfl rfl (Nat.le_of_ble_eq_true rfl) ⟨by first | omega | decide, by first | omega | decide⟩ (fun p540 => ?_)
                        refine s_icmp_eq hG 1797 dL_law_543 (by decide) ?_ ?_
                        · refine s_iinc (v := 7) hG dL_law_1797 rfl (by decide) (by decide) ?_
                          refine s_goto hG 23 dL_law_1800 (by decide) ?_
                          exact s_lv (lc rfl (lc rfl (lc rfl (lc rfl (lc rfl ln))))) (ih _ _ _ _ _ _ _ _ (by first | omega | decide) (by first | omega | decide))
                        · refine s_iconst (v := 0) hG dL_law_546 (by decide) ?_
                          exact s_zret hG dL_law_547 rfl (by omega) (by omega)
                      · refine s_split _ (fun e9 => ?_) (fun e9 => ?_)
                        · refine s_tabIn hG 548 dL_law_40 (by rw [e9]; decide) (by rw [e9]; decide) (by rw [e9]; rfl) (by decide) ?_
                          refine s_aload_n hG dL_law_548 rfl ?_
                          refine s_aload_n hG dL_law_549 rfl ?_
                          refine s_iload hG dL_law_550 rfl ?_
                          refine s_iconst (v := 1) hG dL_law_552 (by decide) ?_
                          refine s_iadd hG dL_law_553 ?_
                          refine s_xald hG hX dL_law_554 (fun v554 => ?_)
                          refine s_aload_n hG dL_law_555 rfl ?_
                          refine s_iload hG dL_law_556 rfl ?_
                          refine s_iconst (v := 2) hG dL_law_558 (by decide) ?_
                          refine s_iadd hG dL_law_559 ?_
                          refine s_xald hG hX dL_law_560 (fun v560 => ?_)
                          refine s_aload_n hG dL_law_561 rfl ?_
                          refine s_iload hG dL_law_562 rfl ?_
                          refine s_iconst (v := 3) hG dL_law_564 (by decide) ?_
                          refine s_iadd hG dL_law_565 ?_
                          refine s_xald hG hX dL_law_566 (fun v566 => ?_)
                          refine s_callVi hG kML_64 (fun a => corc11_sell N a _ _ _ _) ⟨by decide, rfl⟩ rfl (by first | decide | omega) dL_law_567 rfl rfl (Nat.le_of_ble_eq_true rfl) ⟨by first | omega | decide, by first | omega | decide⟩ (fun p567 => ?_)
                          refine s_aload_n hG dL_law_570 rfl ?_
                          refine s_aload_n hG dL_law_571 rfl ?_
                          refine s_iload hG dL_law_572 rfl ?_
                          refine s_iconst (v := 1) hG dL_law_574 (by decide) ?_
                          refine s_iadd hG dL_law_575 ?_
                          refine s_xald hG hX dL_law_576 (fun v576 => ?_)
                          refine s_aload_n hG dL_law_577 rfl ?_
                          refine s_iload hG dL_law_578 rfl ?_
                          refine s_iconst (v := 2) hG dL_law_580 (by decide) ?_
                          refine s_iadd hG dL_law_581 ?_
                          refine s_xald hG hX dL_law_582 (fun v582 => ?_)
                          refine s_aload_n hG dL_law_583 rfl ?_
                          refine s_iload hG dL_law_584 rfl ?_
                          refine s_iconst (v := 3) hG dL_law_586 (by decide) ?_
                          refine s_iadd hG dL_law_587 ?_
                          refine s_xald hG hX dL_law_588 (fun v588 => ?_)
                          refine s_callVi hG kML_68 (fun a => corc12_sell N a _ _ _ _) ⟨by decide, rfl⟩ rfl (by first | decide | omega) dL_law_589 rfl rfl (Nat.le_of_ble_eq_true rfl) ⟨by first | omega | decide, by first | omega | decide⟩ (fun p589 => ?_)
                          refine s_icmp_eq hG 1797 dL_law_592 (by decide) ?_ ?_
                          · refine s_iinc (v := 7) hG dL_law_1797 rfl (by decide) (by decide) ?_
                            refine s_goto hG 23 dL_law_1800 (by decide) ?_
                            exact s_lv (lc rfl (lc rfl (lc rfl (lc rfl (lc rfl ln))))) (ih _ _ _ _ _ _ _ _ (by first | omega | decide) (by first | omega | decide))
                          · refine s_iconst (v := 0) hG dL_law_595 (by decide) ?_
                            exact s_zret hG dL_law_596 rfl (by omega) (by omega)
                        · refine s_split _ (fun e10 => ?_) (fun e10 => ?_)
                          · refine s_tabIn hG 597 dL_law_40 (by rw [e10]; decide) (by rw [e10]; decide) (by rw [e10]; rfl) (by decide) ?_
                            refine s_aload_n hG dL_law_597 rfl ?_
                            refine s_aload_n hG dL_law_598 rfl ?_
                            refine s_iload hG dL_law_599 rfl ?_
                            refine s_iconst (v := 1) hG dL_law_601 (by decide) ?_
                            refine s_iadd hG dL_law_602 ?_
                            refine s_xald hG hX dL_law_603 (fun v603 => ?_)
                            refine s_aload_n hG dL_law_604 rfl ?_
                            refine s_iload hG dL_law_605 rfl ?_
                            refine s_iconst (v := 2) hG dL_law_607 (by decide) ?_
                            refine s_iadd hG dL_law_608 ?_
                            refine s_xald hG hX dL_law_609 (fun v609 => ?_)
                            refine s_callVi hG kML_69 (fun a => corc11_forgive N a _ _ _) ⟨by decide, rfl⟩ rfl (by first | decide | omega) dL_law_610 rfl rfl (Nat.le_of_ble_eq_true rfl) ⟨by first | omega | decide, by first | omega | decide⟩ (fun p610 => ?_)
                            refine s_aload_n hG dL_law_613 rfl ?_
                            refine s_aload_n hG dL_law_614 rfl ?_
                            refine s_iload hG dL_law_615 rfl ?_
                            refine s_iconst (v := 1) hG dL_law_617 (by decide) ?_
                            refine s_iadd hG dL_law_618 ?_
                            refine s_xald hG hX dL_law_619 (fun v619 => ?_)
                            refine s_aload_n hG dL_law_620 rfl ?_
                            refine s_iload hG dL_law_621 rfl ?_
                            refine s_iconst (v := 2) hG dL_law_623 (by decide) ?_
                            refine s_iadd hG dL_law_624 ?_
                            refine s_xald hG hX dL_law_625 (fun v625 => ?_)
                            refine s_callVi hG kML_72 (fun a => corc12_forgive N a _ _ _) ⟨by decide, rfl⟩ rfl (by first | decide | omega) dL_law_626 rfl rfl (Nat.le_of_ble_eq_true rfl) ⟨by first | omega | decide, by first | omega | decide⟩ (fun p626 => ?_)
                            refine s_icmp_eq hG 1797 dL_law_629 (by decide) ?_ ?_
                            · refine s_iinc (v := 7) hG dL_law_1797 rfl (by decide) (by decide) ?_
                              refine s_goto hG 23 dL_law_1800 (by decide) ?_
                              exact s_lv (lc rfl (lc rfl (lc rfl (lc rfl (lc rfl ln))))) (ih _ _ _ _ _ _ _ _ (by first | omega | decide) (by first | omega | decide))
                            · refine s_iconst (v := 0) hG dL_law_632 (by decide) ?_
                              exact s_zret hG dL_law_633 rfl (by omega) (by omega)
                          · refine s_split _ (fun e11 => ?_) (fun e11 => ?_)
                            · refine s_tabIn hG 634 dL_law_40 (by rw [e11]; decide) (by rw [e11]; decide) (by rw [e11]; rfl) (by decide) ?_
                              refine s_aload_n hG dL_law_634 rfl ?_
                              refine s_aload_n hG dL_law_635 rfl ?_
                              refine s_iload hG dL_law_636 rfl ?_
                              refine s_iconst (v := 1) hG dL_law_638 (by decide) ?_
                              refine s_iadd hG dL_law_639 ?_
                              refine s_xald hG hX dL_law_640 (fun v640 => ?_)
                              refine s_callVi hG kML_73 (fun a => corc11_hedge N a _ _) ⟨by decide, rfl⟩ rfl (by first | decide | omega) dL_law_641 rfl rfl (Nat.le_of_ble_eq_true rfl) ⟨by first | omega | decide, by first | omega | decide⟩ (fun p641 => ?_)
                              refine s_aload_n hG dL_law_644 rfl ?_
                              refine s_aload_n hG dL_law_645 rfl ?_
                              refine s_iload hG dL_law_646 rfl ?_
                              refine s_iconst (v := 1) hG dL_law_648 (by decide) ?_
                              refine s_iadd hG dL_law_649 ?_
                              refine s_xald hG hX dL_law_650 (fun v650 => ?_)
                              refine s_callVi hG kML_76 (fun a => corc12_hedge N a _ _) ⟨by decide, rfl⟩ rfl (by first | decide | omega) dL_law_651 rfl rfl (Nat.le_of_ble_eq_true rfl) ⟨by first | omega | decide, by first | omega | decide⟩ (fun p651 => ?_)
                              refine s_icmp_eq hG 1797 dL_law_654 (by decide) ?_ ?_
                              · refine s_iinc (v := 7) hG dL_law_1797 rfl (by decide) (by decide) ?_
                                refine s_goto hG 23 dL_law_1800 (by decide) ?_
                                exact s_lv (lc rfl (lc rfl (lc rfl (lc rfl (lc rfl ln))))) (ih _ _ _ _ _ _ _ _ (by first | omega | decide) (by first | omega | decide))
                              · refine s_iconst (v := 0) hG dL_law_657 (by decide) ?_
                                exact s_zret hG dL_law_658 rfl (by omega) (by omega)
                            · refine s_split _ (fun e12 => ?_) (fun e12 => ?_)
                              · refine s_tabIn hG 659 dL_law_40 (by rw [e12]; decide) (by rw [e12]; decide) (by rw [e12]; rfl) (by decide) ?_
                                refine s_aload_n hG dL_law_659 rfl ?_
                                refine s_aload_n hG dL_law_660 rfl ?_
                                refine s_iload hG dL_law_661 rfl ?_
                                refine s_iconst (v := 1) hG dL_law_663 (by decide) ?_
                                refine s_iadd hG dL_law_664 ?_
                                refine s_xald hG hX dL_law_665 (fun v665 => ?_)
                                refine s_callVi hG kML_77 (fun a => corc11_can N a _ _) ⟨by decide, rfl⟩ rfl (by first | decide | omega) dL_law_666 rfl rfl (Nat.le_of_ble_eq_true rfl) ⟨by first | omega | decide, by first | omega | decide⟩ (fun p666 => ?_)
                                refine s_aload_n hG dL_law_669 rfl ?_
                                refine s_aload_n hG dL_law_670 rfl ?_
                                refine s_iload hG dL_law_671 rfl ?_
                                refine s_iconst (v := 1) hG dL_law_673 (by decide) ?_
                                refine s_iadd hG dL_law_674 ?_
                                refine s_xald hG hX dL_law_675 (fun v675 => ?_)
                                refine s_callVi hG kML_80 (fun a => corc12_can N a _ _) ⟨by decide, rfl⟩ rfl (by first | decide | omega) dL_law_676 rfl rfl (Nat.le_of_ble_eq_true rfl) ⟨by first | omega | decide, by first | omega | decide⟩ (fun p676 => ?_)
                                refine s_icmp_eq hG 1797 dL_law_679 (by decide) ?_ ?_
                                · refine s_iinc (v := 7) hG dL_law_1797 rfl (by decide) (by decide) ?_
                                  refine s_goto hG 23 dL_law_1800 (by decide) ?_
                                  exact s_lv (lc rfl (lc rfl (lc rfl (lc rfl (lc rfl ln))))) (ih _ _ _ _ _ _ _ _ (by first | omega | decide) (by first | omega | decide))
                                · refine s_iconst (v := 0) hG dL_law_682 (by decide) ?_
                                  exact s_zret hG dL_law_683 rfl (by omega) (by omega)
                              · refine s_split _ (fun e13 => ?_) (fun e13 => ?_)
                                · refine s_tabIn hG 684 dL_law_40 (by rw [e13]; decide) (by rw [e13]; decide) (by rw [e13]; rfl) (by decide) ?_
                                  refine s_aload_n hG dL_law_684 rfl ?_
                                  refine s_aload_n hG dL_law_685 rfl ?_
                                  refine s_iload hG dL_law_686 rfl ?_
                                  refine s_iconst (v := 1) hG dL_law_688 (by decide) ?_
                                  refine s_iadd hG dL_law_689 ?_
                                  refine s_xald hG hX dL_law_690 (fun v690 => ?_)
                                  refine s_callVi hG kML_81 (fun a => corc11_price N a _ _) ⟨by decide, rfl⟩ rfl (by first | decide | omega) dL_law_691 rfl rfl (Nat.le_of_ble_eq_true rfl) ⟨by first | omega | decide, by first | omega | decide⟩ (fun p691 => ?_)
                                  refine s_aload_n hG dL_law_694 rfl ?_
                                  refine s_aload_n hG dL_law_695 rfl ?_
                                  refine s_iload hG dL_law_696 rfl ?_
                                  refine s_iconst (v := 1) hG dL_law_698 (by decide) ?_
                                  refine s_iadd hG dL_law_699 ?_
                                  refine s_xald hG hX dL_law_700 (fun v700 => ?_)
                                  refine s_callVi hG kML_84 (fun a => corc12_price N a _ _) ⟨by decide, rfl⟩ rfl (by first | decide | omega) dL_law_701 rfl rfl (Nat.le_of_ble_eq_true rfl) ⟨by first | omega | decide, by first | omega | decide⟩ (fun p701 => ?_)
                                  refine s_icmp_eq hG 1797 dL_law_704 (by decide) ?_ ?_
                                  · refine s_iinc (v := 7) hG dL_law_1797 rfl (by decide) (by decide) ?_
                                    refine s_goto hG 23 dL_law_1800 (by decide) ?_
                                    exact s_lv (lc rfl (lc rfl (lc rfl (lc rfl (lc rfl ln))))) (ih _ _ _ _ _ _ _ _ (by first | omega | decide) (by first | omega | decide))
                                  · refine s_iconst (v := 0) hG dL_law_707 (by decide) ?_
                                    exact s_zret hG dL_law_708 rfl (by omega) (by omega)
                                · refine s_split _ (fun e14 => ?_) (fun e14 => ?_)
                                  · refine s_tabIn hG 709 dL_law_40 (by rw [e14]; decide) (by rw [e14]; decide) (by rw [e14]; rfl) (by decide) ?_
                                    refine s_aload_n hG dL_law_709 rfl ?_
                                    refine s_aload_n hG dL_law_710 rfl ?_
                                    refine s_iload hG dL_law_711 rfl ?_
                                    refine s_iconst (v := 1) hG dL_law_713 (by decide) ?_
                                    refine s_iadd hG dL_law_714 ?_
                                    refine s_xald hG hX dL_law_715 (fun v715 => ?_)
                                    refine s_aload_n hG dL_law_716 rfl ?_
                                    refine s_iload hG dL_law_717 rfl ?_
                                    refine s_iconst (v := 2) hG dL_law_719 (by decide) ?_
                                    refine s_iadd hG dL_law_720 ?_
                                    refine s_xald hG hX dL_law_721 (fun v721 => ?_)
                                    refine s_i2l hG dL_law_722 ?_
                                    refine s_bipush (v := 32) hG dL_law_723 (by decide) ?_
                                    refine s_lshl hG dL_law_725 ?_
                                    refine s_aload_n hG dL_law_726 rfl ?_
                                    refine s_iload hG dL_law_727 rfl ?_
                                    refine s_iconst (v := 3) hG dL_law_729 (by decide) ?_
                                    refine s_iadd hG dL_law_730 ?_
                                    refine s_xald hG hX dL_law_731 (fun v731 => ?_)
                                    refine s_i2l hG dL_law_732 ?_
                                    refine s_ldc2 hG dL_law_733 kJL_85 ?_
                                    refine s_land hG dL_law_736 ?_
                                    refine s_lor hG dL_law_737 ?_
                                    refine s_callVi hG kML_87 (fun a => corc11_years N a _ _ _) ⟨by decide, rfl⟩ rfl (by first | decide | omega) dL_law_738 rfl rfl (Nat.le_of_ble_eq_true rfl) ⟨by first | omega | decide, by first | omega | decide⟩ (fun p738 => ?_)
                                    refine s_aload_n hG dL_law_741 rfl ?_
                                    refine s_aload_n hG dL_law_742 rfl ?_
                                    refine s_iload hG dL_law_743 rfl ?_
                                    refine s_iconst (v := 1) hG dL_law_745 (by decide) ?_
                                    refine s_iadd hG dL_law_746 ?_
                                    refine s_xald hG hX dL_law_747 (fun v747 => ?_)
                                    refine s_aload_n hG dL_law_748 rfl ?_
                                    refine s_iload hG dL_law_749 rfl ?_
                                    refine s_iconst (v := 2) hG dL_law_751 (by decide) ?_
                                    refine s_iadd hG dL_law_752 ?_
                                    refine s_xald hG hX dL_law_753 (fun v753 => ?_)
                                    refine s_i2l hG dL_law_754 ?_
                                    refine s_bipush (v := 32) hG dL_law_755 (by decide) ?_
                                    refine s_lshl hG dL_law_757 ?_
                                    refine s_aload_n hG dL_law_758 rfl ?_
                                    refine s_iload hG dL_law_759 rfl ?_
                                    refine s_iconst (v := 3) hG dL_law_761 (by decide) ?_
                                    refine s_iadd hG dL_law_762 ?_
                                    refine s_xald hG hX dL_law_763 (fun v763 => ?_)
                                    refine s_i2l hG dL_law_764 ?_
                                    refine s_ldc2 hG dL_law_765 kJL_85 ?_
                                    refine s_land hG dL_law_768 ?_
                                    refine s_lor hG dL_law_769 ?_
                                    refine s_callVi hG kML_91 (fun a => corc12_years N a _ _ _) ⟨by decide, rfl⟩ rfl (by first | decide | omega) dL_law_770 rfl rfl (Nat.le_of_ble_eq_true rfl) ⟨by first | omega | decide, by first | omega | decide⟩ (fun p770 => ?_)
                                    refine s_icmp_eq hG 1797 dL_law_773 (by decide) ?_ ?_
                                    · refine s_iinc (v := 7) hG dL_law_1797 rfl (by decide) (by decide) ?_
                                      refine s_goto hG 23 dL_law_1800 (by decide) ?_
                                      exact s_lv (lc rfl (lc rfl (lc rfl (lc rfl (lc rfl ln))))) (ih _ _ _ _ _ _ _ _ (by first | omega | decide) (by first | omega | decide))
                                    · refine s_iconst (v := 0) hG dL_law_776 (by decide) ?_
                                      exact s_zret hG dL_law_777 rfl (by omega) (by omega)
                                  · refine s_split _ (fun e15 => ?_) (fun e15 => ?_)
                                    · refine s_tabIn hG 778 dL_law_40 (by rw [e15]; decide) (by rw [e15]; decide) (by rw [e15]; rfl) (by decide) ?_
                                      refine s_aload_n hG dL_law_778 rfl ?_
                                      refine s_callVi hG kML_92 (fun a => corc11_undo N a _) ⟨by decide, rfl⟩ rfl (by first | decide | omega) dL_law_779 rfl rfl (Nat.le_of_ble_eq_true rfl) ⟨by first | omega | decide, by first | omega | decide⟩ (fun p779 => ?_)
                                      refine s_aload_n hG dL_law_782 rfl ?_
                                      refine s_callVi hG kML_95 (fun a => corc12_undo N a _) ⟨by decide, rfl⟩ rfl (by first | decide | omega) dL_law_783 rfl rfl (Nat.le_of_ble_eq_true rfl) ⟨by first | omega | decide, by first | omega | decide⟩ (fun p783 => ?_)
                                      refine s_icmp_eq hG 1797 dL_law_786 (by decide) ?_ ?_
                                      · refine s_iinc (v := 7) hG dL_law_1797 rfl (by decide) (by decide) ?_
                                        refine s_goto hG 23 dL_law_1800 (by decide) ?_
                                        exact s_lv (lc rfl (lc rfl (lc rfl (lc rfl (lc rfl ln))))) (ih _ _ _ _ _ _ _ _ (by first | omega | decide) (by first | omega | decide))
                                      · refine s_iconst (v := 0) hG dL_law_789 (by decide) ?_
                                        exact s_zret hG dL_law_790 rfl (by omega) (by omega)
                                    · refine s_split _ (fun e16 => ?_) (fun e16 => ?_)
                                      · refine s_tabIn hG 791 dL_law_40 (by rw [e16]; decide) (by rw [e16]; decide) (by rw [e16]; rfl) (by decide) ?_
                                        refine s_aload_n hG dL_law_791 rfl ?_
                                        refine s_aload_n hG dL_law_792 rfl ?_
                                        refine s_iload hG dL_law_793 rfl ?_
                                        refine s_iconst (v := 1) hG dL_law_795 (by decide) ?_
                                        refine s_iadd hG dL_law_796 ?_
                                        refine s_xald hG hX dL_law_797 (fun v797 => ?_)
                                        refine s_aload_n hG dL_law_798 rfl ?_
                                        refine s_iload hG dL_law_799 rfl ?_
                                        refine s_iconst (v := 2) hG dL_law_801 (by decide) ?_
                                        refine s_iadd hG dL_law_802 ?_
                                        refine s_xald hG hX dL_law_803 (fun v803 => ?_)
                                        refine s_callVi hG kML_96 (fun a => corc11_log N a _ _ _) ⟨by decide, rfl⟩ rfl (by first | decide | omega) dL_law_804 rfl rfl (Nat.le_of_ble_eq_true rfl) ⟨by first | omega | decide, by first | omega | decide⟩ (fun p804 => ?_)
                                        refine s_aload_n hG dL_law_807 rfl ?_
                                        refine s_aload_n hG dL_law_808 rfl ?_
                                        refine s_iload hG dL_law_809 rfl ?_
                                        refine s_iconst (v := 1) hG dL_law_811 (by decide) ?_
                                        refine s_iadd hG dL_law_812 ?_
                                        refine s_xald hG hX dL_law_813 (fun v813 => ?_)
                                        refine s_aload_n hG dL_law_814 rfl ?_
                                        refine s_iload hG dL_law_815 rfl ?_
                                        refine s_iconst (v := 2) hG dL_law_817 (by decide) ?_
                                        refine s_iadd hG dL_law_818 ?_
                                        refine s_xald hG hX dL_law_819 (fun v819 => ?_)
                                        refine s_callVi hG kML_99 (fun a => corc12_log N a _ _ _) ⟨by decide, rfl⟩ rfl (by first | decide | omega) dL_law_820 rfl rfl (Nat.le_of_ble_eq_true rfl) ⟨by first | omega | decide, by first | omega | decide⟩ (fun p820 => ?_)
                                        refine s_icmp_eq hG 1797 dL_law_823 (by decide) ?_ ?_
                                        · refine s_iinc (v := 7) hG dL_law_1797 rfl (by decide) (by decide) ?_
                                          refine s_goto hG 23 dL_law_1800 (by decide) ?_
                                          exact s_lv (lc rfl (lc rfl (lc rfl (lc rfl (lc rfl ln))))) (ih _ _ _ _ _ _ _ _ (by first | omega | decide) (by first | omega | decide))
                                        · refine s_iconst (v := 0) hG dL_law_826 (by decide) ?_
                                          exact s_zret hG dL_law_827 rfl (by omega) (by omega)
                                      · refine s_split _ (fun e17 => ?_) (fun e17 => ?_)
                                        · refine s_tabIn hG 828 dL_law_40 (by rw [e17]; decide) (by rw [e17]; decide) (by rw [e17]; rfl) (by decide) ?_
                                          refine s_aload_n hG dL_law_828 rfl ?_
                                          refine s_aload_n hG dL_law_829 rfl ?_
                                          refine s_iload hG dL_law_830 rfl ?_
                                          refine s_iconst (v := 1) hG dL_law_832 (by decide) ?_
                                          refine s_iadd hG dL_law_833 ?_
                                          refine s_xald hG hX dL_law_834 (fun v834 => ?_)
                                          refine s_aload_n hG dL_law_835 rfl ?_
                                          refine s_iload hG dL_law_836 rfl ?_
                                          refine s_iconst (v := 2) hG dL_law_838 (by decide) ?_
                                          refine s_iadd hG dL_law_839 ?_
                                          refine s_xald hG hX dL_law_840 (fun v840 => ?_)
                                          refine s_aload_n hG dL_law_841 rfl ?_
                                          refine s_iload hG dL_law_842 rfl ?_
                                          refine s_iconst (v := 3) hG dL_law_844 (by decide) ?_
                                          refine s_iadd hG dL_law_845 ?_
                                          refine s_xald hG hX dL_law_846 (fun v846 => ?_)
                                          refine s_callVi hG kML_100 (fun a => corc11_step N a _ _ _ _) ⟨by decide, rfl⟩ rfl (by first | decide | omega) dL_law_847 rfl rfl (Nat.le_of_ble_eq_true rfl) ⟨by first | omega | decide, by first | omega | decide⟩ (fun p847 => ?_)
                                          refine s_aload_n hG dL_law_850 rfl ?_
                                          refine s_aload_n hG dL_law_851 rfl ?_
                                          refine s_iload hG dL_law_852 rfl ?_
                                          refine s_iconst (v := 1) hG dL_law_854 (by decide) ?_
                                          refine s_iadd hG dL_law_855 ?_
                                          refine s_xald hG hX dL_law_856 (fun v856 => ?_)
                                          refine s_aload_n hG dL_law_857 rfl ?_
                                          refine s_iload hG dL_law_858 rfl ?_
                                          refine s_iconst (v := 2) hG dL_law_860 (by decide) ?_
                                          refine s_iadd hG dL_law_861 ?_
                                          refine s_xald hG hX dL_law_862 (fun v862 => ?_)
                                          refine s_aload_n hG dL_law_863 rfl ?_
                                          refine s_iload hG dL_law_864 rfl ?_
                                          refine s_iconst (v := 3) hG dL_law_866 (by decide) ?_
                                          refine s_iadd hG dL_law_867 ?_
                                          refine s_xald hG hX dL_law_868 (fun v868 => ?_)
                                          refine s_callVi hG kML_103 (fun a => corc12_step N a _ _ _ _) ⟨by decide, rfl⟩ rfl (by first | decide | omega) dL_law_869 rfl rfl (Nat.le_of_ble_eq_true rfl) ⟨by first | omega | decide, by first | omega | decide⟩ (fun p869 => ?_)
                                          refine s_icmp_eq hG 1797 dL_law_872 (by decide) ?_ ?_
                                          · refine s_iinc (v := 7) hG dL_law_1797 rfl (by decide) (by decide) ?_
                                            refine s_goto hG 23 dL_law_1800 (by decide) ?_
                                            exact s_lv (lc rfl (lc rfl (lc rfl (lc rfl (lc rfl ln))))) (ih _ _ _ _ _ _ _ _ (by first | omega | decide) (by first | omega | decide))
                                          · refine s_iconst (v := 0) hG dL_law_875 (by decide) ?_
                                            exact s_zret hG dL_law_876 rfl (by omega) (by omega)
                                        · refine s_split _ (fun e18 => ?_) (fun e18 => ?_)
                                          · refine s_tabIn hG 877 dL_law_40 (by rw [e18]; decide) (by rw [e18]; decide) (by rw [e18]; rfl) (by decide) ?_
                                            refine s_aload_n hG dL_law_877 rfl ?_
                                            refine s_aload_n hG dL_law_878 rfl ?_
                                            refine s_iload hG dL_law_879 rfl ?_
                                            refine s_iconst (v := 1) hG dL_law_881 (by decide) ?_
                                            refine s_iadd hG dL_law_882 ?_
                                            refine s_xald hG hX dL_law_883 (fun v883 => ?_)
                                            refine s_aload_n hG dL_law_884 rfl ?_
                                            refine s_iload hG dL_law_885 rfl ?_
                                            refine s_iconst (v := 2) hG dL_law_887 (by decide) ?_
                                            refine s_iadd hG dL_law_888 ?_
                                            refine s_xald hG hX dL_law_889 (fun v889 => ?_)
                                            refine s_callVi hG kML_104 (fun a => corc11_run N a _ _ _) ⟨by decide, rfl⟩ rfl (by first | decide | omega) dL_law_890 rfl rfl (Nat.le_of_ble_eq_true rfl) ⟨by first | omega | decide, by first | omega | decide⟩ (fun p890 => ?_)
                                            refine s_aload_n hG dL_law_893 rfl ?_
                                            refine s_aload_n hG dL_law_894 rfl ?_
                                            refine s_iload hG dL_law_895 rfl ?_
                                            refine s_iconst (v := 1) hG dL_law_897 (by decide) ?_
                                            refine s_iadd hG dL_law_898 ?_
                                            refine s_xald hG hX dL_law_899 (fun v899 => ?_)
                                            refine s_aload_n hG dL_law_900 rfl ?_
                                            refine s_iload hG dL_law_901 rfl ?_
                                            refine s_iconst (v := 2) hG dL_law_903 (by decide) ?_
                                            refine s_iadd hG dL_law_904 ?_
                                            refine s_xald hG hX dL_law_905 (fun v905 => ?_)
                                            refine s_callVi hG kML_107 (fun a => corc12_run N a _ _ _) ⟨by decide, rfl⟩ rfl (by first | decide | omega) dL_law_906 rfl rfl (Nat.le_of_ble_eq_true rfl) ⟨by first | omega | decide, by first | omega | decide⟩ (fun p906 => ?_)
                                            refine s_icmp_eq hG 1797 dL_law_909 (by decide) ?_ ?_
                                            · refine s_iinc (v := 7) hG dL_law_1797 rfl (by decide) (by decide) ?_
                                              refine s_goto hG 23 dL_law_1800 (by decide) ?_
                                              exact s_lv (lc rfl (lc rfl (lc rfl (lc rfl (lc rfl ln))))) (ih _ _ _ _ _ _ _ _ (by first | omega | decide) (by first | omega | decide))
                                            · refine s_iconst (v := 0) hG dL_law_912 (by decide) ?_
                                              exact s_zret hG dL_law_913 rfl (by omega) (by omega)
                                          · refine s_split _ (fun e19 => ?_) (fun e19 => ?_)
                                            · refine s_tabIn hG 914 dL_law_40 (by rw [e19]; decide) (by rw [e19]; decide) (by rw [e19]; rfl) (by decide) ?_
                                              refine s_aload_n hG dL_law_914 rfl ?_
                                              refine s_aload_n hG dL_law_915 rfl ?_
                                              refine s_iload hG dL_law_916 rfl ?_
                                              refine s_iconst (v := 1) hG dL_law_918 (by decide) ?_
                                              refine s_iadd hG dL_law_919 ?_
                                              refine s_xald hG hX dL_law_920 (fun v920 => ?_)
                                              refine s_callVi hG kML_108 (fun a => corc11_perform N a _ _) ⟨by decide, rfl⟩ rfl (by first | decide | omega) dL_law_921 rfl rfl (Nat.le_of_ble_eq_true rfl) ⟨by first | omega | decide, by first | omega | decide⟩ (fun p921 => ?_)
                                              refine s_aload_n hG dL_law_924 rfl ?_
                                              refine s_aload_n hG dL_law_925 rfl ?_
                                              refine s_iload hG dL_law_926 rfl ?_
                                              refine s_iconst (v := 1) hG dL_law_928 (by decide) ?_
                                              refine s_iadd hG dL_law_929 ?_
                                              refine s_xald hG hX dL_law_930 (fun v930 => ?_)
                                              refine s_callVi hG kML_111 (fun a => corc12_perform N a _ _) ⟨by decide, rfl⟩ rfl (by first | decide | omega) dL_law_931 rfl rfl (Nat.le_of_ble_eq_true rfl) ⟨by first | omega | decide, by first | omega | decide⟩ (fun p931 => ?_)
                                              refine s_icmp_eq hG 1797 dL_law_934 (by decide) ?_ ?_
                                              · refine s_iinc (v := 7) hG dL_law_1797 rfl (by decide) (by decide) ?_
                                                refine s_goto hG 23 dL_law_1800 (by decide) ?_
                                                exact s_lv (lc rfl (lc rfl (lc rfl (lc rfl (lc rfl ln))))) (ih _ _ _ _ _ _ _ _ (by first | omega | decide) (by first | omega | decide))
                                              · refine s_iconst (v := 0) hG dL_law_937 (by decide) ?_
                                                exact s_zret hG dL_law_938 rfl (by omega) (by omega)
                                            · refine s_split _ (fun e20 => ?_) (fun e20 => ?_)
                                              · refine s_tabIn hG 939 dL_law_40 (by rw [e20]; decide) (by rw [e20]; decide) (by rw [e20]; rfl) (by decide) ?_
                                                refine s_aload_n hG dL_law_939 rfl ?_
                                                refine s_aload_n hG dL_law_940 rfl ?_
                                                refine s_iload hG dL_law_941 rfl ?_
                                                refine s_iconst (v := 1) hG dL_law_943 (by decide) ?_
                                                refine s_iadd hG dL_law_944 ?_
                                                refine s_xald hG hX dL_law_945 (fun v945 => ?_)
                                                refine s_aload_n hG dL_law_946 rfl ?_
                                                refine s_iload hG dL_law_947 rfl ?_
                                                refine s_iconst (v := 2) hG dL_law_949 (by decide) ?_
                                                refine s_iadd hG dL_law_950 ?_
                                                refine s_xald hG hX dL_law_951 (fun v951 => ?_)
                                                refine s_callVi hG kML_112 (fun a => corc11_falls N a _ _ _) ⟨by decide, rfl⟩ rfl (by first | decide | omega) dL_law_952 rfl rfl (Nat.le_of_ble_eq_true rfl) ⟨by first | omega | decide, by first | omega | decide⟩ (fun p952 => ?_)
                                                refine s_aload_n hG dL_law_955 rfl ?_
                                                refine s_aload_n hG dL_law_956 rfl ?_
                                                refine s_iload hG dL_law_957 rfl ?_
                                                refine s_iconst (v := 1) hG dL_law_959 (by decide) ?_
                                                refine s_iadd hG dL_law_960 ?_
                                                refine s_xald hG hX dL_law_961 (fun v961 => ?_)
                                                refine s_aload_n hG dL_law_962 rfl ?_
                                                refine s_iload hG dL_law_963 rfl ?_
                                                refine s_iconst (v := 2) hG dL_law_965 (by decide) ?_
                                                refine s_iadd hG dL_law_966 ?_
                                                refine s_xald hG hX dL_law_967 (fun v967 => ?_)
                                                refine s_callVi hG kML_115 (fun a => corc12_falls N a _ _ _) ⟨by decide, rfl⟩ rfl (by first | decide | omega) dL_law_968 rfl rfl (Nat.le_of_ble_eq_true rfl) ⟨by first | omega | decide, by first | omega | decide⟩ (fun p968 => ?_)
                                                refine s_icmp_eq hG 1797 dL_law_971 (by decide) ?_ ?_
                                                · refine s_iinc (v := 7) hG dL_law_1797 rfl (by decide) (by decide) ?_
                                                  refine s_goto hG 23 dL_law_1800 (by decide) ?_
                                                  exact s_lv (lc rfl (lc rfl (lc rfl (lc rfl (lc rfl ln))))) (ih _ _ _ _ _ _ _ _ (by first | omega | decide) (by first | omega | decide))
                                                · refine s_iconst (v := 0) hG dL_law_974 (by decide) ?_
                                                  exact s_zret hG dL_law_975 rfl (by omega) (by omega)
                                              · refine s_split _ (fun e21 => ?_) (fun e21 => ?_)
                                                · refine s_tabIn hG 976 dL_law_40 (by rw [e21]; decide) (by rw [e21]; decide) (by rw [e21]; rfl) (by decide) ?_
                                                  refine s_aload_n hG dL_law_976 rfl ?_
                                                  refine s_aload_n hG dL_law_977 rfl ?_
                                                  refine s_iload hG dL_law_978 rfl ?_
                                                  refine s_iconst (v := 1) hG dL_law_980 (by decide) ?_
                                                  refine s_iadd hG dL_law_981 ?_
                                                  refine s_xald hG hX dL_law_982 (fun v982 => ?_)
                                                  refine s_callVi hG kML_116 (fun a => corc11_drowns N a _ _) ⟨by decide, rfl⟩ rfl (by first | decide | omega) dL_law_983 rfl rfl (Nat.le_of_ble_eq_true rfl) ⟨by first | omega | decide, by first | omega | decide⟩ (fun p983 => ?_)
                                                  refine s_aload_n hG dL_law_986 rfl ?_
                                                  refine s_aload_n hG dL_law_987 rfl ?_
                                                  refine s_iload hG dL_law_988 rfl ?_
                                                  refine s_iconst (v := 1) hG dL_law_990 (by decide) ?_
                                                  refine s_iadd hG dL_law_991 ?_
                                                  refine s_xald hG hX dL_law_992 (fun v992 => ?_)
                                                  refine s_callVi hG kML_119 (fun a => corc12_drowns N a _ _) ⟨by decide, rfl⟩ rfl (by first | decide | omega) dL_law_993 rfl rfl (Nat.le_of_ble_eq_true rfl) ⟨by first | omega | decide, by first | omega | decide⟩ (fun p993 => ?_)
                                                  refine s_icmp_eq hG 1797 dL_law_996 (by decide) ?_ ?_
                                                  · refine s_iinc (v := 7) hG dL_law_1797 rfl (by decide) (by decide) ?_
                                                    refine s_goto hG 23 dL_law_1800 (by decide) ?_
                                                    exact s_lv (lc rfl (lc rfl (lc rfl (lc rfl (lc rfl ln))))) (ih _ _ _ _ _ _ _ _ (by first | omega | decide) (by first | omega | decide))
                                                  · refine s_iconst (v := 0) hG dL_law_999 (by decide) ?_
                                                    exact s_zret hG dL_law_1000 rfl (by omega) (by omega)
                                                · refine s_split _ (fun e22 => ?_) (fun e22 => ?_)
                                                  · refine s_tabIn hG 1001 dL_law_40 (by rw [e22]; decide) (by rw [e22]; decide) (by rw [e22]; rfl) (by decide) ?_
                                                    refine s_aload_n hG dL_law_1001 rfl ?_
                                                    refine s_callVi hG kML_120 (fun a => corc11_safe N a _) ⟨by decide, rfl⟩ rfl (by first | decide | omega) dL_law_1002 rfl rfl (Nat.le_of_ble_eq_true rfl) ⟨by first | omega | decide, by first | omega | decide⟩ (fun p1002 => ?_)
                                                    refine s_aload_n hG dL_law_1005 rfl ?_
                                                    refine s_callVi hG kML_123 (fun a => corc12_safe N a _) ⟨by decide, rfl⟩ rfl (by first | decide | omega) dL_law_1006 rfl rfl (Nat.le_of_ble_eq_true rfl) ⟨by first | omega | decide, by first | omega | decide⟩ (fun p1006 => ?_)
                                                    refine s_icmp_eq hG 1797 dL_law_1009 (by decide) ?_ ?_
                                                    · refine s_iinc (v := 7) hG dL_law_1797 rfl (by decide) (by decide) ?_
                                                      refine s_goto hG 23 dL_law_1800 (by decide) ?_
                                                      exact s_lv (lc rfl (lc rfl (lc rfl (lc rfl (lc rfl ln))))) (ih _ _ _ _ _ _ _ _ (by first | omega | decide) (by first | omega | decide))
                                                    · refine s_iconst (v := 0) hG dL_law_1012 (by decide) ?_
                                                      exact s_zret hG dL_law_1013 rfl (by omega) (by omega)
                                                  · refine s_split _ (fun e23 => ?_) (fun e23 => ?_)
                                                    · refine s_tabIn hG 1014 dL_law_40 (by rw [e23]; decide) (by rw [e23]; decide) (by rw [e23]; rfl) (by decide) ?_
                                                      refine s_aload_n hG dL_law_1014 rfl ?_
                                                      refine s_aload_n hG dL_law_1015 rfl ?_
                                                      refine s_iload hG dL_law_1016 rfl ?_
                                                      refine s_iconst (v := 1) hG dL_law_1018 (by decide) ?_
                                                      refine s_iadd hG dL_law_1019 ?_
                                                      refine s_xald hG hX dL_law_1020 (fun v1020 => ?_)
                                                      refine s_aload_n hG dL_law_1021 rfl ?_
                                                      refine s_iload hG dL_law_1022 rfl ?_
                                                      refine s_iconst (v := 2) hG dL_law_1024 (by decide) ?_
                                                      refine s_iadd hG dL_law_1025 ?_
                                                      refine s_xald hG hX dL_law_1026 (fun v1026 => ?_)
                                                      refine s_callVi hG kML_124 (fun a => corc11_least N a _ _ _) ⟨by decide, rfl⟩ rfl (by first | decide | omega) dL_law_1027 rfl rfl (Nat.le_of_ble_eq_true rfl) ⟨by first | omega | decide, by first | omega | decide⟩ (fun p1027 => ?_)
                                                      refine s_aload_n hG dL_law_1030 rfl ?_
                                                      refine s_aload_n hG dL_law_1031 rfl ?_
                                                      refine s_iload hG dL_law_1032 rfl ?_
                                                      refine s_iconst (v := 1) hG dL_law_1034 (by decide) ?_
                                                      refine s_iadd hG dL_law_1035 ?_
                                                      refine s_xald hG hX dL_law_1036 (fun v1036 => ?_)
                                                      refine s_aload_n hG dL_law_1037 rfl ?_
                                                      refine s_iload hG dL_law_1038 rfl ?_
                                                      refine s_iconst (v := 2) hG dL_law_1040 (by decide) ?_
                                                      refine s_iadd hG dL_law_1041 ?_
                                                      refine s_xald hG hX dL_law_1042 (fun v1042 => ?_)
                                                      refine s_callVi hG kML_127 (fun a => corc12_least N a _ _ _) ⟨by decide, rfl⟩ rfl (by first | decide | omega) dL_law_1043 rfl rfl (Nat.le_of_ble_eq_true rfl) ⟨by first | omega | decide, by first | omega | decide⟩ (fun p1043 => ?_)
                                                      refine s_icmp_eq hG 1797 dL_law_1046 (by decide) ?_ ?_
                                                      · refine s_iinc (v := 7) hG dL_law_1797 rfl (by decide) (by decide) ?_
                                                        refine s_goto hG 23 dL_law_1800 (by decide) ?_
                                                        exact s_lv (lc rfl (lc rfl (lc rfl (lc rfl (lc rfl ln))))) (ih _ _ _ _ _ _ _ _ (by first | omega | decide) (by first | omega | decide))
                                                      · refine s_iconst (v := 0) hG dL_law_1049 (by decide) ?_
                                                        exact s_zret hG dL_law_1050 rfl (by omega) (by omega)
                                                    · refine s_split _ (fun e24 => ?_) (fun e24 => ?_)
                                                      · refine s_tabIn hG 1051 dL_law_40 (by rw [e24]; decide) (by rw [e24]; decide) (by rw [e24]; rfl) (by decide) ?_
                                                        refine s_aload_n hG dL_law_1051 rfl ?_
                                                        refine s_aload_n hG dL_law_1052 rfl ?_
                                                        refine s_iload hG dL_law_1053 rfl ?_
                                                        refine s_iconst (v := 1) hG dL_law_1055 (by decide) ?_
                                                        refine s_iadd hG dL_law_1056 ?_
                                                        refine s_xald hG hX dL_law_1057 (fun v1057 => ?_)
                                                        refine s_aload_n hG dL_law_1058 rfl ?_
                                                        refine s_iload hG dL_law_1059 rfl ?_
                                                        refine s_iconst (v := 2) hG dL_law_1061 (by decide) ?_
                                                        refine s_iadd hG dL_law_1062 ?_
                                                        refine s_xald hG hX dL_law_1063 (fun v1063 => ?_)
                                                        refine s_callVi hG kML_128 (fun a => corc11_best N a _ _ _) ⟨by decide, rfl⟩ rfl (by first | decide | omega) dL_law_1064 rfl rfl (Nat.le_of_ble_eq_true rfl) ⟨by first | omega | decide, by first | omega | decide⟩ (fun p1064 => ?_)
                                                        refine s_aload_n hG dL_law_1067 rfl ?_
                                                        refine s_aload_n hG dL_law_1068 rfl ?_
                                                        refine s_iload hG dL_law_1069 rfl ?_
                                                        refine s_iconst (v := 1) hG dL_law_1071 (by decide) ?_
                                                        refine s_iadd hG dL_law_1072 ?_
                                                        refine s_xald hG hX dL_law_1073 (fun v1073 => ?_)
                                                        refine s_aload_n hG dL_law_1074 rfl ?_
                                                        refine s_iload hG dL_law_1075 rfl ?_
                                                        refine s_iconst (v := 2) hG dL_law_1077 (by decide) ?_
                                                        refine s_iadd hG dL_law_1078 ?_
                                                        refine s_xald hG hX dL_law_1079 (fun v1079 => ?_)
                                                        refine s_callVi hG kML_131 (fun a => corc12_best N a _ _ _) ⟨by decide, rfl⟩ rfl (by first | decide | omega) dL_law_1080 rfl rfl (Nat.le_of_ble_eq_true rfl) ⟨by first | omega | decide, by first | omega | decide⟩ (fun p1080 => ?_)
                                                        refine s_icmp_eq hG 1797 dL_law_1083 (by decide) ?_ ?_
                                                        · refine s_iinc (v := 7) hG dL_law_1797 rfl (by decide) (by decide) ?_
                                                          refine s_goto hG 23 dL_law_1800 (by decide) ?_
                                                          exact s_lv (lc rfl (lc rfl (lc rfl (lc rfl (lc rfl ln))))) (ih _ _ _ _ _ _ _ _ (by first | omega | decide) (by first | omega | decide))
                                                        · refine s_iconst (v := 0) hG dL_law_1086 (by decide) ?_
                                                          exact s_zret hG dL_law_1087 rfl (by omega) (by omega)
                                                      · refine s_split _ (fun e25 => ?_) (fun e25 => ?_)
                                                        · refine s_tabIn hG 1088 dL_law_40 (by rw [e25]; decide) (by rw [e25]; decide) (by rw [e25]; rfl) (by decide) ?_
                                                          refine s_aload_n hG dL_law_1088 rfl ?_
                                                          refine s_aload_n hG dL_law_1089 rfl ?_
                                                          refine s_iload hG dL_law_1090 rfl ?_
                                                          refine s_iconst (v := 1) hG dL_law_1092 (by decide) ?_
                                                          refine s_iadd hG dL_law_1093 ?_
                                                          refine s_xald hG hX dL_law_1094 (fun v1094 => ?_)
                                                          refine s_aload_n hG dL_law_1095 rfl ?_
                                                          refine s_iload hG dL_law_1096 rfl ?_
                                                          refine s_iconst (v := 2) hG dL_law_1098 (by decide) ?_
                                                          refine s_iadd hG dL_law_1099 ?_
                                                          refine s_xald hG hX dL_law_1100 (fun v1100 => ?_)
                                                          refine s_callVi hG kML_132 (fun a => corc11_trades N a _ _ _) ⟨by decide, rfl⟩ rfl (by first | decide | omega) dL_law_1101 rfl rfl (Nat.le_of_ble_eq_true rfl) ⟨by first | omega | decide, by first | omega | decide⟩ (fun p1101 => ?_)
                                                          refine s_aload_n hG dL_law_1104 rfl ?_
                                                          refine s_aload_n hG dL_law_1105 rfl ?_
                                                          refine s_iload hG dL_law_1106 rfl ?_
                                                          refine s_iconst (v := 1) hG dL_law_1108 (by decide) ?_
                                                          refine s_iadd hG dL_law_1109 ?_
                                                          refine s_xald hG hX dL_law_1110 (fun v1110 => ?_)
                                                          refine s_aload_n hG dL_law_1111 rfl ?_
                                                          refine s_iload hG dL_law_1112 rfl ?_
                                                          refine s_iconst (v := 2) hG dL_law_1114 (by decide) ?_
                                                          refine s_iadd hG dL_law_1115 ?_
                                                          refine s_xald hG hX dL_law_1116 (fun v1116 => ?_)
                                                          refine s_callVi hG kML_135 (fun a => corc12_trades N a _ _ _) ⟨by decide, rfl⟩ rfl (by first | decide | omega) dL_law_1117 rfl rfl (Nat.le_of_ble_eq_true rfl) ⟨by first | omega | decide, by first | omega | decide⟩ (fun p1117 => ?_)
                                                          refine s_icmp_eq hG 1797 dL_law_1120 (by decide) ?_ ?_
                                                          · refine s_iinc (v := 7) hG dL_law_1797 rfl (by decide) (by decide) ?_
                                                            refine s_goto hG 23 dL_law_1800 (by decide) ?_
                                                            exact s_lv (lc rfl (lc rfl (lc rfl (lc rfl (lc rfl ln))))) (ih _ _ _ _ _ _ _ _ (by first | omega | decide) (by first | omega | decide))
                                                          · refine s_iconst (v := 0) hG dL_law_1123 (by decide) ?_
                                                            exact s_zret hG dL_law_1124 rfl (by omega) (by omega)
                                                        · refine s_split _ (fun e26 => ?_) (fun e26 => ?_)
                                                          · refine s_tabIn hG 1125 dL_law_40 (by rw [e26]; decide) (by rw [e26]; decide) (by rw [e26]; rfl) (by decide) ?_
                                                            refine s_aload_n hG dL_law_1125 rfl ?_
                                                            refine s_aload_n hG dL_law_1126 rfl ?_
                                                            refine s_iload hG dL_law_1127 rfl ?_
                                                            refine s_iconst (v := 1) hG dL_law_1129 (by decide) ?_
                                                            refine s_iadd hG dL_law_1130 ?_
                                                            refine s_xald hG hX dL_law_1131 (fun v1131 => ?_)
                                                            refine s_aload_n hG dL_law_1132 rfl ?_
                                                            refine s_iload hG dL_law_1133 rfl ?_
                                                            refine s_iconst (v := 2) hG dL_law_1135 (by decide) ?_
                                                            refine s_iadd hG dL_law_1136 ?_
                                                            refine s_xald hG hX dL_law_1137 (fun v1137 => ?_)
                                                            refine s_aload_n hG dL_law_1138 rfl ?_
                                                            refine s_iload hG dL_law_1139 rfl ?_
                                                            refine s_iconst (v := 3) hG dL_law_1141 (by decide) ?_
                                                            refine s_iadd hG dL_law_1142 ?_
                                                            refine s_xald hG hX dL_law_1143 (fun v1143 => ?_)
                                                            refine s_aload_n hG dL_law_1144 rfl ?_
                                                            refine s_iload hG dL_law_1145 rfl ?_
                                                            refine s_iconst (v := 4) hG dL_law_1147 (by decide) ?_
                                                            refine s_iadd hG dL_law_1148 ?_
                                                            refine s_xald hG hX dL_law_1149 (fun v1149 => ?_)
                                                            refine s_if_eq hG 1157 dL_law_1150 (by decide) ?_ ?_
                                                            · refine s_iconst (v := 0) hG dL_law_1157 (by decide) ?_
                                                              exact s_lv (lc rfl (lc rfl (lc rfl (lc rfl (lc rfl ln))))) (pL_law_1158 hG hX hF ih _ _ _ _ _ _ _ _ _ _ _ _ _ (by first | omega | decide) (by first | omega | decide))
                                                            · refine s_iconst (v := 1) hG dL_law_1153 (by decide) ?_
                                                              refine s_goto hG 1158 dL_law_1154 (by decide) ?_
                                                              exact s_lv (lc rfl (lc rfl (lc rfl (lc rfl (lc rfl ln))))) (pL_law_1158 hG hX hF ih _ _ _ _ _ _ _ _ _ _ _ _ _ (by first | omega | decide) (by first | omega | decide))
                                                          · refine s_split _ (fun e27 => ?_) (fun e27 => ?_)
                                                            · refine s_tabIn hG 1202 dL_law_40 (by rw [e27]; decide) (by rw [e27]; decide) (by rw [e27]; rfl) (by decide) ?_
                                                              refine s_aload_n hG dL_law_1202 rfl ?_
                                                              refine s_aload_n hG dL_law_1203 rfl ?_
                                                              refine s_iload hG dL_law_1204 rfl ?_
                                                              refine s_iconst (v := 1) hG dL_law_1206 (by decide) ?_
                                                              refine s_iadd hG dL_law_1207 ?_
                                                              refine s_xald hG hX dL_law_1208 (fun v1208 => ?_)
                                                              refine s_aload_n hG dL_law_1209 rfl ?_
                                                              refine s_iload hG dL_law_1210 rfl ?_
                                                              refine s_iconst (v := 2) hG dL_law_1212 (by decide) ?_
                                                              refine s_iadd hG dL_law_1213 ?_
                                                              refine s_xald hG hX dL_law_1214 (fun v1214 => ?_)
                                                              refine s_callVi hG kML_141 (fun a => corc11_debts N a _ _ _) ⟨by decide, rfl⟩ rfl (by first | decide | omega) dL_law_1215 rfl rfl (Nat.le_of_ble_eq_true rfl) ⟨by first | omega | decide, by first | omega | decide⟩ (fun p1215 => ?_)
                                                              refine s_aload_n hG dL_law_1218 rfl ?_
                                                              refine s_aload_n hG dL_law_1219 rfl ?_
                                                              refine s_iload hG dL_law_1220 rfl ?_
                                                              refine s_iconst (v := 1) hG dL_law_1222 (by decide) ?_
                                                              refine s_iadd hG dL_law_1223 ?_
                                                              refine s_xald hG hX dL_law_1224 (fun v1224 => ?_)
                                                              refine s_aload_n hG dL_law_1225 rfl ?_
                                                              refine s_iload hG dL_law_1226 rfl ?_
                                                              refine s_iconst (v := 2) hG dL_law_1228 (by decide) ?_
                                                              refine s_iadd hG dL_law_1229 ?_
                                                              refine s_xald hG hX dL_law_1230 (fun v1230 => ?_)
                                                              refine s_callVi hG kML_144 (fun a => corc12_debts N a _ _ _) ⟨by decide, rfl⟩ rfl (by first | decide | omega) dL_law_1231 rfl rfl (Nat.le_of_ble_eq_true rfl) ⟨by first | omega | decide, by first | omega | decide⟩ (fun p1231 => ?_)
                                                              refine s_icmp_eq hG 1797 dL_law_1234 (by decide) ?_ ?_
                                                              · refine s_iinc (v := 7) hG dL_law_1797 rfl (by decide) (by decide) ?_
                                                                refine s_goto hG 23 dL_law_1800 (by decide) ?_
                                                                exact s_lv (lc rfl (lc rfl (lc rfl (lc rfl (lc rfl ln))))) (ih _ _ _ _ _ _ _ _ (by first | omega | decide) (by first | omega | decide))
                                                              · refine s_iconst (v := 0) hG dL_law_1237 (by decide) ?_
                                                                exact s_zret hG dL_law_1238 rfl (by omega) (by omega)
                                                            · refine s_split _ (fun e28 => ?_) (fun e28 => ?_)
                                                              · refine s_tabIn hG 1239 dL_law_40 (by rw [e28]; decide) (by rw [e28]; decide) (by rw [e28]; rfl) (by decide) ?_
                                                                refine s_aload_n hG dL_law_1239 rfl ?_
                                                                refine s_aload_n hG dL_law_1240 rfl ?_
                                                                refine s_iload hG dL_law_1241 rfl ?_
                                                                refine s_iconst (v := 1) hG dL_law_1243 (by decide) ?_
                                                                refine s_iadd hG dL_law_1244 ?_
                                                                refine s_xald hG hX dL_law_1245 (fun v1245 => ?_)
                                                                refine s_aload_n hG dL_law_1246 rfl ?_
                                                                refine s_iload hG dL_law_1247 rfl ?_
                                                                refine s_iconst (v := 2) hG dL_law_1249 (by decide) ?_
                                                                refine s_iadd hG dL_law_1250 ?_
                                                                refine s_xald hG hX dL_law_1251 (fun v1251 => ?_)
                                                                refine s_callVi hG kML_145 (fun a => corc11_ask N a _ _ _) ⟨by decide, rfl⟩ rfl (by first | decide | omega) dL_law_1252 rfl rfl (Nat.le_of_ble_eq_true rfl) ⟨by first | omega | decide, by first | omega | decide⟩ (fun p1252 => ?_)
                                                                refine s_aload_n hG dL_law_1255 rfl ?_
                                                                refine s_aload_n hG dL_law_1256 rfl ?_
                                                                refine s_iload hG dL_law_1257 rfl ?_
                                                                refine s_iconst (v := 1) hG dL_law_1259 (by decide) ?_
                                                                refine s_iadd hG dL_law_1260 ?_
                                                                refine s_xald hG hX dL_law_1261 (fun v1261 => ?_)
                                                                refine s_aload_n hG dL_law_1262 rfl ?_
                                                                refine s_iload hG dL_law_1263 rfl ?_
                                                                refine s_iconst (v := 2) hG dL_law_1265 (by decide) ?_
                                                                refine s_iadd hG dL_law_1266 ?_
                                                                refine s_xald hG hX dL_law_1267 (fun v1267 => ?_)
                                                                refine s_callVi hG kML_148 (fun a => corc12_ask N a _ _ _) ⟨by decide, rfl⟩ rfl (by first | decide | omega) dL_law_1268 rfl rfl (Nat.le_of_ble_eq_true rfl) ⟨by first | omega | decide, by first | omega | decide⟩ (fun p1268 => ?_)
                                                                refine s_icmp_eq hG 1797 dL_law_1271 (by decide) ?_ ?_
                                                                · refine s_iinc (v := 7) hG dL_law_1797 rfl (by decide) (by decide) ?_
                                                                  refine s_goto hG 23 dL_law_1800 (by decide) ?_
                                                                  exact s_lv (lc rfl (lc rfl (lc rfl (lc rfl (lc rfl ln))))) (ih _ _ _ _ _ _ _ _ (by first | omega | decide) (by first | omega | decide))
                                                                · refine s_iconst (v := 0) hG dL_law_1274 (by decide) ?_
                                                                  exact s_zret hG dL_law_1275 rfl (by omega) (by omega)
                                                              · refine s_split _ (fun e29 => ?_) (fun e29 => ?_)
                                                                · refine s_tabIn hG 1276 dL_law_40 (by rw [e29]; decide) (by rw [e29]; decide) (by rw [e29]; rfl) (by decide) ?_
                                                                  refine s_aload_n hG dL_law_1276 rfl ?_
                                                                  refine s_aload_n hG dL_law_1277 rfl ?_
                                                                  refine s_iload hG dL_law_1278 rfl ?_
                                                                  refine s_iconst (v := 1) hG dL_law_1280 (by decide) ?_
                                                                  refine s_iadd hG dL_law_1281 ?_
                                                                  refine s_xald hG hX dL_law_1282 (fun v1282 => ?_)
                                                                  refine s_aload_n hG dL_law_1283 rfl ?_
                                                                  refine s_iload hG dL_law_1284 rfl ?_
                                                                  refine s_iconst (v := 2) hG dL_law_1286 (by decide) ?_
                                                                  refine s_iadd hG dL_law_1287 ?_
                                                                  refine s_xald hG hX dL_law_1288 (fun v1288 => ?_)
                                                                  refine s_aload_n hG dL_law_1289 rfl ?_
                                                                  refine s_iload hG dL_law_1290 rfl ?_
                                                                  refine s_iconst (v := 3) hG dL_law_1292 (by decide) ?_
                                                                  refine s_iadd hG dL_law_1293 ?_
                                                                  refine s_xald hG hX dL_law_1294 (fun v1294 => ?_)
                                                                  refine s_aload_n hG dL_law_1295 rfl ?_
                                                                  refine s_iload hG dL_law_1296 rfl ?_
                                                                  refine s_iconst (v := 4) hG dL_law_1298 (by decide) ?_
                                                                  refine s_iadd hG dL_law_1299 ?_
                                                                  refine s_xald hG hX dL_law_1300 (fun v1300 => ?_)
                                                                  refine s_aload_n hG dL_law_1301 rfl ?_
                                                                  refine s_iload hG dL_law_1302 rfl ?_
                                                                  refine s_iconst (v := 5) hG dL_law_1304 (by decide) ?_
                                                                  refine s_iadd hG dL_law_1305 ?_
                                                                  refine s_xald hG hX dL_law_1306 (fun v1306 => ?_)
                                                                  refine s_aload_n hG dL_law_1307 rfl ?_
                                                                  refine s_iload hG dL_law_1308 rfl ?_
                                                                  refine s_bipush (v := 6) hG dL_law_1310 (by decide) ?_
                                                                  refine s_iadd hG dL_law_1312 ?_
                                                                  refine s_xald hG hX dL_law_1313 (fun v1313 => ?_)
                                                                  refine s_callVi hG kML_149 (fun a => corc11_game N a _ _ _ _ _ _ _) ⟨by decide, rfl⟩ rfl (by first | decide | omega) dL_law_1314 rfl rfl (Nat.le_of_ble_eq_true rfl) ⟨by first | omega | decide, by first | omega | decide⟩ (fun p1314 => ?_)
                                                                  refine s_aload_n hG dL_law_1317 rfl ?_
                                                                  refine s_aload_n hG dL_law_1318 rfl ?_
                                                                  refine s_iload hG dL_law_1319 rfl ?_
                                                                  refine s_iconst (v := 1) hG dL_law_1321 (by decide) ?_
                                                                  refine s_iadd hG dL_law_1322 ?_
                                                                  refine s_xald hG hX dL_law_1323 (fun v1323 => ?_)
                                                                  refine s_aload_n hG dL_law_1324 rfl ?_
                                                                  refine s_iload hG dL_law_1325 rfl ?_
                                                                  refine s_iconst (v := 2) hG dL_law_1327 (by decide) ?_
                                                                  refine s_iadd hG dL_law_1328 ?_
                                                                  refine s_xald hG hX dL_law_1329 (fun v1329 => ?_)
                                                                  refine s_aload_n hG dL_law_1330 rfl ?_
                                                                  refine s_iload hG dL_law_1331 rfl ?_
                                                                  refine s_iconst (v := 3) hG dL_law_1333 (by decide) ?_
                                                                  refine s_iadd hG dL_law_1334 ?_
                                                                  refine s_xald hG hX dL_law_1335 (fun v1335 => ?_)
                                                                  refine s_aload_n hG dL_law_1336 rfl ?_
                                                                  refine s_iload hG dL_law_1337 rfl ?_
                                                                  refine s_iconst (v := 4) hG dL_law_1339 (by decide) ?_
                                                                  refine s_iadd hG dL_law_1340 ?_
                                                                  refine s_xald hG hX dL_law_1341 (fun v1341 => ?_)
                                                                  refine s_aload_n hG dL_law_1342 rfl ?_
                                                                  refine s_iload hG dL_law_1343 rfl ?_
                                                                  refine s_iconst (v := 5) hG dL_law_1345 (by decide) ?_
                                                                  refine s_iadd hG dL_law_1346 ?_
                                                                  refine s_xald hG hX dL_law_1347 (fun v1347 => ?_)
                                                                  refine s_aload_n hG dL_law_1348 rfl ?_
                                                                  refine s_iload hG dL_law_1349 rfl ?_
                                                                  refine s_bipush (v := 6) hG dL_law_1351 (by decide) ?_
                                                                  refine s_iadd hG dL_law_1353 ?_
                                                                  refine s_xald hG hX dL_law_1354 (fun v1354 => ?_)
                                                                  refine s_callVi hG kML_153 (fun a => corc12_game N a _ _ _ _ _ _ _) ⟨by decide, rfl⟩ rfl (by first | decide | omega) dL_law_1355 rfl rfl (Nat.le_of_ble_eq_true rfl) ⟨by first | omega | decide, by first | omega | decide⟩ (fun p1355 => ?_)
                                                                  refine s_icmp_eq hG 1797 dL_law_1358 (by decide) ?_ ?_
                                                                  · refine s_iinc (v := 7) hG dL_law_1797 rfl (by decide) (by decide) ?_
                                                                    refine s_goto hG 23 dL_law_1800 (by decide) ?_
                                                                    exact s_lv (lc rfl (lc rfl (lc rfl (lc rfl (lc rfl ln))))) (ih _ _ _ _ _ _ _ _ (by first | omega | decide) (by first | omega | decide))
                                                                  · refine s_iconst (v := 0) hG dL_law_1361 (by decide) ?_
                                                                    exact s_zret hG dL_law_1362 rfl (by omega) (by omega)
                                                                · refine s_split _ (fun e30 => ?_) (fun e30 => ?_)
                                                                  · refine s_tabIn hG 1363 dL_law_40 (by rw [e30]; decide) (by rw [e30]; decide) (by rw [e30]; rfl) (by decide) ?_
                                                                    refine s_aload_n hG dL_law_1363 rfl ?_
                                                                    refine s_aload_n hG dL_law_1364 rfl ?_
                                                                    refine s_iload hG dL_law_1365 rfl ?_
                                                                    refine s_iconst (v := 1) hG dL_law_1367 (by decide) ?_
                                                                    refine s_iadd hG dL_law_1368 ?_
                                                                    refine s_xald hG hX dL_law_1369 (fun v1369 => ?_)
                                                                    refine s_aload_n hG dL_law_1370 rfl ?_
                                                                    refine s_iload hG dL_law_1371 rfl ?_
                                                                    refine s_iconst (v := 2) hG dL_law_1373 (by decide) ?_
                                                                    refine s_iadd hG dL_law_1374 ?_
                                                                    refine s_xald hG hX dL_law_1375 (fun v1375 => ?_)
                                                                    refine s_aload_n hG dL_law_1376 rfl ?_
                                                                    refine s_iload hG dL_law_1377 rfl ?_
                                                                    refine s_iconst (v := 3) hG dL_law_1379 (by decide) ?_
                                                                    refine s_iadd hG dL_law_1380 ?_
                                                                    refine s_xald hG hX dL_law_1381 (fun v1381 => ?_)
                                                                    refine s_aload_n hG dL_law_1382 rfl ?_
                                                                    refine s_iload hG dL_law_1383 rfl ?_
                                                                    refine s_iconst (v := 4) hG dL_law_1385 (by decide) ?_
                                                                    refine s_iadd hG dL_law_1386 ?_
                                                                    refine s_xald hG hX dL_law_1387 (fun v1387 => ?_)
                                                                    refine s_callVi hG kML_154 (fun a => corc11_rests N a _ _ _ _ _) ⟨by decide, rfl⟩ rfl (by first | decide | omega) dL_law_1388 rfl rfl (Nat.le_of_ble_eq_true rfl) ⟨by first | omega | decide, by first | omega | decide⟩ (fun p1388 => ?_)
                                                                    refine s_aload_n hG dL_law_1391 rfl ?_
                                                                    refine s_aload_n hG dL_law_1392 rfl ?_
                                                                    refine s_iload hG dL_law_1393 rfl ?_
                                                                    refine s_iconst (v := 1) hG dL_law_1395 (by decide) ?_
                                                                    refine s_iadd hG dL_law_1396 ?_
                                                                    refine s_xald hG hX dL_law_1397 (fun v1397 => ?_)
                                                                    refine s_aload_n hG dL_law_1398 rfl ?_
                                                                    refine s_iload hG dL_law_1399 rfl ?_
                                                                    refine s_iconst (v := 2) hG dL_law_1401 (by decide) ?_
                                                                    refine s_iadd hG dL_law_1402 ?_
                                                                    refine s_xald hG hX dL_law_1403 (fun v1403 => ?_)
                                                                    refine s_aload_n hG dL_law_1404 rfl ?_
                                                                    refine s_iload hG dL_law_1405 rfl ?_
                                                                    refine s_iconst (v := 3) hG dL_law_1407 (by decide) ?_
                                                                    refine s_iadd hG dL_law_1408 ?_
                                                                    refine s_xald hG hX dL_law_1409 (fun v1409 => ?_)
                                                                    refine s_aload_n hG dL_law_1410 rfl ?_
                                                                    refine s_iload hG dL_law_1411 rfl ?_
                                                                    refine s_iconst (v := 4) hG dL_law_1413 (by decide) ?_
                                                                    refine s_iadd hG dL_law_1414 ?_
                                                                    refine s_xald hG hX dL_law_1415 (fun v1415 => ?_)
                                                                    refine s_callVi hG kML_158 (fun a => corc12_rests N a _ _ _ _ _) ⟨by decide, rfl⟩ rfl (by first | decide | omega) dL_law_1416 rfl rfl (Nat.le_of_ble_eq_true rfl) ⟨by first | omega | decide, by first | omega | decide⟩ (fun p1416 => ?_)
                                                                    refine s_icmp_eq hG 1797 dL_law_1419 (by decide) ?_ ?_
                                                                    · refine s_iinc (v := 7) hG dL_law_1797 rfl (by decide) (by decide) ?_
                                                                      refine s_goto hG 23 dL_law_1800 (by decide) ?_
                                                                      exact s_lv (lc rfl (lc rfl (lc rfl (lc rfl (lc rfl ln))))) (ih _ _ _ _ _ _ _ _ (by first | omega | decide) (by first | omega | decide))
                                                                    · refine s_iconst (v := 0) hG dL_law_1422 (by decide) ?_
                                                                      exact s_zret hG dL_law_1423 rfl (by omega) (by omega)
                                                                  · refine s_split _ (fun e31 => ?_) (fun e31 => ?_)
                                                                    · refine s_tabIn hG 1424 dL_law_40 (by rw [e31]; decide) (by rw [e31]; decide) (by rw [e31]; rfl) (by decide) ?_
                                                                      refine s_aload_n hG dL_law_1424 rfl ?_
                                                                      refine s_aload_n hG dL_law_1425 rfl ?_
                                                                      refine s_iload hG dL_law_1426 rfl ?_
                                                                      refine s_iconst (v := 1) hG dL_law_1428 (by decide) ?_
                                                                      refine s_iadd hG dL_law_1429 ?_
                                                                      refine s_xald hG hX dL_law_1430 (fun v1430 => ?_)
                                                                      refine s_aload_n hG dL_law_1431 rfl ?_
                                                                      refine s_iload hG dL_law_1432 rfl ?_
                                                                      refine s_iconst (v := 2) hG dL_law_1434 (by decide) ?_
                                                                      refine s_iadd hG dL_law_1435 ?_
                                                                      refine s_xald hG hX dL_law_1436 (fun v1436 => ?_)
                                                                      refine s_aload_n hG dL_law_1437 rfl ?_
                                                                      refine s_iload hG dL_law_1438 rfl ?_
                                                                      refine s_iconst (v := 3) hG dL_law_1440 (by decide) ?_
                                                                      refine s_iadd hG dL_law_1441 ?_
                                                                      refine s_xald hG hX dL_law_1442 (fun v1442 => ?_)
                                                                      refine s_callVi hG kML_159 (fun a => corc11_odds N a _ _ _ _) ⟨by decide, rfl⟩ rfl (by first | decide | omega) dL_law_1443 rfl rfl (Nat.le_of_ble_eq_true rfl) ⟨by first | omega | decide, by first | omega | decide⟩ (fun p1443 => ?_)
                                                                      refine s_aload_n hG dL_law_1446 rfl ?_
                                                                      refine s_aload_n hG dL_law_1447 rfl ?_
                                                                      refine s_iload hG dL_law_1448 rfl ?_
                                                                      refine s_iconst (v := 1) hG dL_law_1450 (by decide) ?_
                                                                      refine s_iadd hG dL_law_1451 ?_
                                                                      refine s_xald hG hX dL_law_1452 (fun v1452 => ?_)
                                                                      refine s_aload_n hG dL_law_1453 rfl ?_
                                                                      refine s_iload hG dL_law_1454 rfl ?_
                                                                      refine s_iconst (v := 2) hG dL_law_1456 (by decide) ?_
                                                                      refine s_iadd hG dL_law_1457 ?_
                                                                      refine s_xald hG hX dL_law_1458 (fun v1458 => ?_)
                                                                      refine s_aload_n hG dL_law_1459 rfl ?_
                                                                      refine s_iload hG dL_law_1460 rfl ?_
                                                                      refine s_iconst (v := 3) hG dL_law_1462 (by decide) ?_
                                                                      refine s_iadd hG dL_law_1463 ?_
                                                                      refine s_xald hG hX dL_law_1464 (fun v1464 => ?_)
                                                                      refine s_callVi hG kML_162 (fun a => corc12_odds N a _ _ _ _) ⟨by decide, rfl⟩ rfl (by first | decide | omega) dL_law_1465 rfl rfl (Nat.le_of_ble_eq_true rfl) ⟨by first | omega | decide, by first | omega | decide⟩ (fun p1465 => ?_)
                                                                      refine s_icmp_eq hG 1797 dL_law_1468 (by decide) ?_ ?_
                                                                      · refine s_iinc (v := 7) hG dL_law_1797 rfl (by decide) (by decide) ?_
                                                                        refine s_goto hG 23 dL_law_1800 (by decide) ?_
                                                                        exact s_lv (lc rfl (lc rfl (lc rfl (lc rfl (lc rfl ln))))) (ih _ _ _ _ _ _ _ _ (by first | omega | decide) (by first | omega | decide))
                                                                      · refine s_iconst (v := 0) hG dL_law_1471 (by decide) ?_
                                                                        exact s_zret hG dL_law_1472 rfl (by omega) (by omega)
                                                                    · refine s_split _ (fun e32 => ?_) (fun e32 => ?_)
                                                                      · refine s_tabIn hG 1473 dL_law_40 (by rw [e32]; decide) (by rw [e32]; decide) (by rw [e32]; rfl) (by decide) ?_
                                                                        refine s_aload_n hG dL_law_1473 rfl ?_
                                                                        refine s_aload_n hG dL_law_1474 rfl ?_
                                                                        refine s_iload hG dL_law_1475 rfl ?_
                                                                        refine s_iconst (v := 1) hG dL_law_1477 (by decide) ?_
                                                                        refine s_iadd hG dL_law_1478 ?_
                                                                        refine s_xald hG hX dL_law_1479 (fun v1479 => ?_)
                                                                        refine s_callVi hG kML_163 (fun a => corc11_turn N a _ _) ⟨by decide, rfl⟩ rfl (by first | decide | omega) dL_law_1480 rfl rfl (Nat.le_of_ble_eq_true rfl) ⟨by first | omega | decide, by first | omega | decide⟩ (fun p1480 => ?_)
                                                                        refine s_aload_n hG dL_law_1483 rfl ?_
                                                                        refine s_aload_n hG dL_law_1484 rfl ?_
                                                                        refine s_iload hG dL_law_1485 rfl ?_
                                                                        refine s_iconst (v := 1) hG dL_law_1487 (by decide) ?_
                                                                        refine s_iadd hG dL_law_1488 ?_
                                                                        refine s_xald hG hX dL_law_1489 (fun v1489 => ?_)
                                                                        refine s_callVi hG kML_166 (fun a => corc12_turn N a _ _) ⟨by decide, rfl⟩ rfl (by first | decide | omega) dL_law_1490 rfl rfl (Nat.le_of_ble_eq_true rfl) ⟨by first | omega | decide, by first | omega | decide⟩ (fun p1490 => ?_)
                                                                        refine s_icmp_eq hG 1797 dL_law_1493 (by decide) ?_ ?_
                                                                        · refine s_iinc (v := 7) hG dL_law_1797 rfl (by decide) (by decide) ?_
                                                                          refine s_goto hG 23 dL_law_1800 (by decide) ?_
                                                                          exact s_lv (lc rfl (lc rfl (lc rfl (lc rfl (lc rfl ln))))) (ih _ _ _ _ _ _ _ _ (by first | omega | decide) (by first | omega | decide))
                                                                        · refine s_iconst (v := 0) hG dL_law_1496 (by decide) ?_
                                                                          exact s_zret hG dL_law_1497 rfl (by omega) (by omega)
                                                                      · refine s_split _ (fun e33 => ?_) (fun e33 => ?_)
                                                                        · refine s_tabIn hG 1498 dL_law_40 (by rw [e33]; decide) (by rw [e33]; decide) (by rw [e33]; rfl) (by decide) ?_
                                                                          refine s_aload_n hG dL_law_1498 rfl ?_
                                                                          refine s_aload_n hG dL_law_1499 rfl ?_
                                                                          refine s_iload hG dL_law_1500 rfl ?_
                                                                          refine s_iconst (v := 1) hG dL_law_1502 (by decide) ?_
                                                                          refine s_iadd hG dL_law_1503 ?_
                                                                          refine s_xald hG hX dL_law_1504 (fun v1504 => ?_)
                                                                          refine s_aload_n hG dL_law_1505 rfl ?_
                                                                          refine s_iload hG dL_law_1506 rfl ?_
                                                                          refine s_iconst (v := 2) hG dL_law_1508 (by decide) ?_
                                                                          refine s_iadd hG dL_law_1509 ?_
                                                                          refine s_xald hG hX dL_law_1510 (fun v1510 => ?_)
                                                                          refine s_aload_n hG dL_law_1511 rfl ?_
                                                                          refine s_iload hG dL_law_1512 rfl ?_
                                                                          refine s_iconst (v := 3) hG dL_law_1514 (by decide) ?_
                                                                          refine s_iadd hG dL_law_1515 ?_
                                                                          refine s_xald hG hX dL_law_1516 (fun v1516 => ?_)
                                                                          refine s_callVi hG kML_167 (fun a => corc11_ahead N a _ _ _ _) ⟨by decide, rfl⟩ rfl (by first | decide | omega) dL_law_1517 rfl rfl (Nat.le_of_ble_eq_true rfl) ⟨by first | omega | decide, by first | omega | decide⟩ (fun p1517 => ?_)
                                                                          refine s_aload_n hG dL_law_1520 rfl ?_
                                                                          refine s_aload_n hG dL_law_1521 rfl ?_
                                                                          refine s_iload hG dL_law_1522 rfl ?_
                                                                          refine s_iconst (v := 1) hG dL_law_1524 (by decide) ?_
                                                                          refine s_iadd hG dL_law_1525 ?_
                                                                          refine s_xald hG hX dL_law_1526 (fun v1526 => ?_)
                                                                          refine s_aload_n hG dL_law_1527 rfl ?_
                                                                          refine s_iload hG dL_law_1528 rfl ?_
                                                                          refine s_iconst (v := 2) hG dL_law_1530 (by decide) ?_
                                                                          refine s_iadd hG dL_law_1531 ?_
                                                                          refine s_xald hG hX dL_law_1532 (fun v1532 => ?_)
                                                                          refine s_aload_n hG dL_law_1533 rfl ?_
                                                                          refine s_iload hG dL_law_1534 rfl ?_
                                                                          refine s_iconst (v := 3) hG dL_law_1536 (by decide) ?_
                                                                          refine s_iadd hG dL_law_1537 ?_
                                                                          refine s_xald hG hX dL_law_1538 (fun v1538 => ?_)
                                                                          refine s_callVi hG kML_170 (fun a => corc12_ahead N a _ _ _ _) ⟨by decide, rfl⟩ rfl (by first | decide | omega) dL_law_1539 rfl rfl (Nat.le_of_ble_eq_true rfl) ⟨by first | omega | decide, by first | omega | decide⟩ (fun p1539 => ?_)
                                                                          refine s_icmp_eq hG 1797 dL_law_1542 (by decide) ?_ ?_
                                                                          · refine s_iinc (v := 7) hG dL_law_1797 rfl (by decide) (by decide) ?_
                                                                            refine s_goto hG 23 dL_law_1800 (by decide) ?_
                                                                            exact s_lv (lc rfl (lc rfl (lc rfl (lc rfl (lc rfl ln))))) (ih _ _ _ _ _ _ _ _ (by first | omega | decide) (by first | omega | decide))
                                                                          · refine s_iconst (v := 0) hG dL_law_1545 (by decide) ?_
                                                                            exact s_zret hG dL_law_1546 rfl (by omega) (by omega)
                                                                        · refine s_split _ (fun e34 => ?_) (fun e34 => ?_)
                                                                          · refine s_tabIn hG 1547 dL_law_40 (by rw [e34]; decide) (by rw [e34]; decide) (by rw [e34]; rfl) (by decide) ?_
                                                                            refine s_aload_n hG dL_law_1547 rfl ?_
                                                                            refine s_aload_n hG dL_law_1548 rfl ?_
                                                                            refine s_iload hG dL_law_1549 rfl ?_
                                                                            refine s_iconst (v := 1) hG dL_law_1551 (by decide) ?_
                                                                            refine s_iadd hG dL_law_1552 ?_
                                                                            refine s_xald hG hX dL_law_1553 (fun v1553 => ?_)
                                                                            refine s_aload_n hG dL_law_1554 rfl ?_
                                                                            refine s_iload hG dL_law_1555 rfl ?_
                                                                            refine s_iconst (v := 2) hG dL_law_1557 (by decide) ?_
                                                                            refine s_iadd hG dL_law_1558 ?_
                                                                            refine s_xald hG hX dL_law_1559 (fun v1559 => ?_)
                                                                            refine s_callVi hG kML_171 (fun a => corc11_even N a _ _ _) ⟨by decide, rfl⟩ rfl (by first | decide | omega) dL_law_1560 rfl rfl (Nat.le_of_ble_eq_true rfl) ⟨by first | omega | decide, by first | omega | decide⟩ (fun p1560 => ?_)
                                                                            refine s_aload_n hG dL_law_1563 rfl ?_
                                                                            refine s_aload_n hG dL_law_1564 rfl ?_
                                                                            refine s_iload hG dL_law_1565 rfl ?_
                                                                            refine s_iconst (v := 1) hG dL_law_1567 (by decide) ?_
                                                                            refine s_iadd hG dL_law_1568 ?_
                                                                            refine s_xald hG hX dL_law_1569 (fun v1569 => ?_)
                                                                            refine s_aload_n hG dL_law_1570 rfl ?_
                                                                            refine s_iload hG dL_law_1571 rfl ?_
                                                                            refine s_iconst (v := 2) hG dL_law_1573 (by decide) ?_
                                                                            refine s_iadd hG dL_law_1574 ?_
                                                                            refine s_xald hG hX dL_law_1575 (fun v1575 => ?_)
                                                                            refine s_callVi hG kML_174 (fun a => corc12_even N a _ _ _) ⟨by decide, rfl⟩ rfl (by first | decide | omega) dL_law_1576 rfl rfl (Nat.le_of_ble_eq_true rfl) ⟨by first | omega | decide, by first | omega | decide⟩ (fun p1576 => ?_)
                                                                            refine s_icmp_eq hG 1797 dL_law_1579 (by decide) ?_ ?_
                                                                            · refine s_iinc (v := 7) hG dL_law_1797 rfl (by decide) (by decide) ?_
                                                                              refine s_goto hG 23 dL_law_1800 (by decide) ?_
                                                                              exact s_lv (lc rfl (lc rfl (lc rfl (lc rfl (lc rfl ln))))) (ih _ _ _ _ _ _ _ _ (by first | omega | decide) (by first | omega | decide))
                                                                            · refine s_iconst (v := 0) hG dL_law_1582 (by decide) ?_
                                                                              exact s_zret hG dL_law_1583 rfl (by omega) (by omega)
                                                                          · refine s_split _ (fun e35 => ?_) (fun e35 => ?_)
                                                                            · refine s_tabIn hG 1584 dL_law_40 (by rw [e35]; decide) (by rw [e35]; decide) (by rw [e35]; rfl) (by decide) ?_
                                                                              refine s_aload_n hG dL_law_1584 rfl ?_
                                                                              refine s_aload_n hG dL_law_1585 rfl ?_
                                                                              refine s_iload hG dL_law_1586 rfl ?_
                                                                              refine s_iconst (v := 1) hG dL_law_1588 (by decide) ?_
                                                                              refine s_iadd hG dL_law_1589 ?_
                                                                              refine s_xald hG hX dL_law_1590 (fun v1590 => ?_)
                                                                              refine s_callVi hG kML_175 (fun a => corc11_together N a _ _) ⟨by decide, rfl⟩ rfl (by first | decide | omega) dL_law_1591 rfl rfl (Nat.le_of_ble_eq_true rfl) ⟨by first | omega | decide, by first | omega | decide⟩ (fun p1591 => ?_)
                                                                              refine s_aload_n hG dL_law_1594 rfl ?_
                                                                              refine s_aload_n hG dL_law_1595 rfl ?_
                                                                              refine s_iload hG dL_law_1596 rfl ?_
                                                                              refine s_iconst (v := 1) hG dL_law_1598 (by decide) ?_
                                                                              refine s_iadd hG dL_law_1599 ?_
                                                                              refine s_xald hG hX dL_law_1600 (fun v1600 => ?_)
                                                                              refine s_callVi hG kML_178 (fun a => corc12_together N a _ _) ⟨by decide, rfl⟩ rfl (by first | decide | omega) dL_law_1601 rfl rfl (Nat.le_of_ble_eq_true rfl) ⟨by first | omega | decide, by first | omega | decide⟩ (fun p1601 => ?_)
                                                                              refine s_icmp_eq hG 1797 dL_law_1604 (by decide) ?_ ?_
                                                                              · refine s_iinc (v := 7) hG dL_law_1797 rfl (by decide) (by decide) ?_
                                                                                refine s_goto hG 23 dL_law_1800 (by decide) ?_
                                                                                exact s_lv (lc rfl (lc rfl (lc rfl (lc rfl (lc rfl ln))))) (ih _ _ _ _ _ _ _ _ (by first | omega | decide) (by first | omega | decide))
                                                                              · refine s_iconst (v := 0) hG dL_law_1607 (by decide) ?_
                                                                                exact s_zret hG dL_law_1608 rfl (by omega) (by omega)
                                                                            · refine s_split _ (fun e36 => ?_) (fun e36 => ?_)
                                                                              · refine s_tabIn hG 1609 dL_law_40 (by rw [e36]; decide) (by rw [e36]; decide) (by rw [e36]; rfl) (by decide) ?_
                                                                                refine s_aload_n hG dL_law_1609 rfl ?_
                                                                                refine s_aload_n hG dL_law_1610 rfl ?_
                                                                                refine s_iload hG dL_law_1611 rfl ?_
                                                                                refine s_iconst (v := 1) hG dL_law_1613 (by decide) ?_
                                                                                refine s_iadd hG dL_law_1614 ?_
                                                                                refine s_xald hG hX dL_law_1615 (fun v1615 => ?_)
                                                                                refine s_callVi hG kML_179 (fun a => corc11_all N a _ _) ⟨by decide, rfl⟩ rfl (by first | decide | omega) dL_law_1616 rfl rfl (Nat.le_of_ble_eq_true rfl) ⟨by first | omega | decide, by first | omega | decide⟩ (fun p1616 => ?_)
                                                                                refine s_aload_n hG dL_law_1619 rfl ?_
                                                                                refine s_aload_n hG dL_law_1620 rfl ?_
                                                                                refine s_iload hG dL_law_1621 rfl ?_
                                                                                refine s_iconst (v := 1) hG dL_law_1623 (by decide) ?_
                                                                                refine s_iadd hG dL_law_1624 ?_
                                                                                refine s_xald hG hX dL_law_1625 (fun v1625 => ?_)
                                                                                refine s_callVi hG kML_182 (fun a => corc12_all N a _ _) ⟨by decide, rfl⟩ rfl (by first | decide | omega) dL_law_1626 rfl rfl (Nat.le_of_ble_eq_true rfl) ⟨by first | omega | decide, by first | omega | decide⟩ (fun p1626 => ?_)
                                                                                refine s_icmp_eq hG 1797 dL_law_1629 (by decide) ?_ ?_
                                                                                · refine s_iinc (v := 7) hG dL_law_1797 rfl (by decide) (by decide) ?_
                                                                                  refine s_goto hG 23 dL_law_1800 (by decide) ?_
                                                                                  exact s_lv (lc rfl (lc rfl (lc rfl (lc rfl (lc rfl ln))))) (ih _ _ _ _ _ _ _ _ (by first | omega | decide) (by first | omega | decide))
                                                                                · refine s_iconst (v := 0) hG dL_law_1632 (by decide) ?_
                                                                                  exact s_zret hG dL_law_1633 rfl (by omega) (by omega)
                                                                              · refine s_split _ (fun e37 => ?_) (fun e37 => ?_)
                                                                                · refine s_tabIn hG 1634 dL_law_40 (by rw [e37]; decide) (by rw [e37]; decide) (by rw [e37]; rfl) (by decide) ?_
                                                                                  refine s_aload_n hG dL_law_1634 rfl ?_
                                                                                  refine s_aload_n hG dL_law_1635 rfl ?_
                                                                                  refine s_iload hG dL_law_1636 rfl ?_
                                                                                  refine s_iconst (v := 1) hG dL_law_1638 (by decide) ?_
                                                                                  refine s_iadd hG dL_law_1639 ?_
                                                                                  refine s_xald hG hX dL_law_1640 (fun v1640 => ?_)
                                                                                  refine s_aload_n hG dL_law_1641 rfl ?_
                                                                                  refine s_iload hG dL_law_1642 rfl ?_
                                                                                  refine s_iconst (v := 2) hG dL_law_1644 (by decide) ?_
                                                                                  refine s_iadd hG dL_law_1645 ?_
                                                                                  refine s_xald hG hX dL_law_1646 (fun v1646 => ?_)
                                                                                  refine s_callVi hG kML_183 (fun a => corc11_shares N a _ _ _) ⟨by decide, rfl⟩ rfl (by first | decide | omega) dL_law_1647 rfl rfl (Nat.le_of_ble_eq_true rfl) ⟨by first | omega | decide, by first | omega | decide⟩ (fun p1647 => ?_)
                                                                                  refine s_aload_n hG dL_law_1650 rfl ?_
                                                                                  refine s_aload_n hG dL_law_1651 rfl ?_
                                                                                  refine s_iload hG dL_law_1652 rfl ?_
                                                                                  refine s_iconst (v := 1) hG dL_law_1654 (by decide) ?_
                                                                                  refine s_iadd hG dL_law_1655 ?_
                                                                                  refine s_xald hG hX dL_law_1656 (fun v1656 => ?_)
                                                                                  refine s_aload_n hG dL_law_1657 rfl ?_
                                                                                  refine s_iload hG dL_law_1658 rfl ?_
                                                                                  refine s_iconst (v := 2) hG dL_law_1660 (by decide) ?_
                                                                                  refine s_iadd hG dL_law_1661 ?_
                                                                                  refine s_xald hG hX dL_law_1662 (fun v1662 => ?_)
                                                                                  refine s_callVi hG kML_186 (fun a => corc12_shares N a _ _ _) ⟨by decide, rfl⟩ rfl (by first | decide | omega) dL_law_1663 rfl rfl (Nat.le_of_ble_eq_true rfl) ⟨by first | omega | decide, by first | omega | decide⟩ (fun p1663 => ?_)
                                                                                  refine s_icmp_eq hG 1797 dL_law_1666 (by decide) ?_ ?_
                                                                                  · refine s_iinc (v := 7) hG dL_law_1797 rfl (by decide) (by decide) ?_
                                                                                    refine s_goto hG 23 dL_law_1800 (by decide) ?_
                                                                                    exact s_lv (lc rfl (lc rfl (lc rfl (lc rfl (lc rfl ln))))) (ih _ _ _ _ _ _ _ _ (by first | omega | decide) (by first | omega | decide))
                                                                                  · refine s_iconst (v := 0) hG dL_law_1669 (by decide) ?_
                                                                                    exact s_zret hG dL_law_1670 rfl (by omega) (by omega)
                                                                                · refine s_split _ (fun e38 => ?_) (fun e38 => ?_)
                                                                                  · refine s_tabIn hG 1671 dL_law_40 (by rw [e38]; decide) (by rw [e38]; decide) (by rw [e38]; rfl) (by decide) ?_
                                                                                    refine s_aload_n hG dL_law_1671 rfl ?_
                                                                                    refine s_aload_n hG dL_law_1672 rfl ?_
                                                                                    refine s_iload hG dL_law_1673 rfl ?_
                                                                                    refine s_iconst (v := 1) hG dL_law_1675 (by decide) ?_
                                                                                    refine s_iadd hG dL_law_1676 ?_
                                                                                    refine s_xald hG hX dL_law_1677 (fun v1677 => ?_)
                                                                                    refine s_callVi hG kML_187 (fun a => corc11_buyers N a _ _) ⟨by decide, rfl⟩ rfl (by first | decide | omega) dL_law_1678 rfl rfl (Nat.le_of_ble_eq_true rfl) ⟨by first | omega | decide, by first | omega | decide⟩ (fun p1678 => ?_)
                                                                                    refine s_aload_n hG dL_law_1681 rfl ?_
                                                                                    refine s_aload_n hG dL_law_1682 rfl ?_
                                                                                    refine s_iload hG dL_law_1683 rfl ?_
                                                                                    refine s_iconst (v := 1) hG dL_law_1685 (by decide) ?_
                                                                                    refine s_iadd hG dL_law_1686 ?_
                                                                                    refine s_xald hG hX dL_law_1687 (fun v1687 => ?_)
                                                                                    refine s_callVi hG kML_190 (fun a => corc12_buyers N a _ _) ⟨by decide, rfl⟩ rfl (by first | decide | omega) dL_law_1688 rfl rfl (Nat.le_of_ble_eq_true rfl) ⟨by first | omega | decide, by first | omega | decide⟩ (fun p1688 => ?_)
                                                                                    refine s_icmp_eq hG 1797 dL_law_1691 (by decide) ?_ ?_
                                                                                    · refine s_iinc (v := 7) hG dL_law_1797 rfl (by decide) (by decide) ?_
                                                                                      refine s_goto hG 23 dL_law_1800 (by decide) ?_
                                                                                      exact s_lv (lc rfl (lc rfl (lc rfl (lc rfl (lc rfl ln))))) (ih _ _ _ _ _ _ _ _ (by first | omega | decide) (by first | omega | decide))
                                                                                    · refine s_iconst (v := 0) hG dL_law_1694 (by decide) ?_
                                                                                      exact s_zret hG dL_law_1695 rfl (by omega) (by omega)
                                                                                  · refine s_split _ (fun e39 => ?_) (fun e39 => ?_)
                                                                                    · refine s_tabIn hG 1696 dL_law_40 (by rw [e39]; decide) (by rw [e39]; decide) (by rw [e39]; rfl) (by decide) ?_
                                                                                      refine s_aload_n hG dL_law_1696 rfl ?_
                                                                                      refine s_aload_n hG dL_law_1697 rfl ?_
                                                                                      refine s_iload hG dL_law_1698 rfl ?_
                                                                                      refine s_iconst (v := 1) hG dL_law_1700 (by decide) ?_
                                                                                      refine s_iadd hG dL_law_1701 ?_
                                                                                      refine s_xald hG hX dL_law_1702 (fun v1702 => ?_)
                                                                                      refine s_callVi hG kML_191 (fun a => corc11_harvest N a _ _) ⟨by decide, rfl⟩ rfl (by first | decide | omega) dL_law_1703 rfl rfl (Nat.le_of_ble_eq_true rfl) ⟨by first | omega | decide, by first | omega | decide⟩ (fun p1703 => ?_)
                                                                                      refine s_aload_n hG dL_law_1706 rfl ?_
                                                                                      refine s_aload_n hG dL_law_1707 rfl ?_
                                                                                      refine s_iload hG dL_law_1708 rfl ?_
                                                                                      refine s_iconst (v := 1) hG dL_law_1710 (by decide) ?_
                                                                                      refine s_iadd hG dL_law_1711 ?_
                                                                                      refine s_xald hG hX dL_law_1712 (fun v1712 => ?_)
                                                                                      refine s_callVi hG kML_194 (fun a => corc12_harvest N a _ _) ⟨by decide, rfl⟩ rfl (by first | decide | omega) dL_law_1713 rfl rfl (Nat.le_of_ble_eq_true rfl) ⟨by first | omega | decide, by first | omega | decide⟩ (fun p1713 => ?_)
                                                                                      refine s_icmp_eq hG 1797 dL_law_1716 (by decide) ?_ ?_
                                                                                      · refine s_iinc (v := 7) hG dL_law_1797 rfl (by decide) (by decide) ?_
                                                                                        refine s_goto hG 23 dL_law_1800 (by decide) ?_
                                                                                        exact s_lv (lc rfl (lc rfl (lc rfl (lc rfl (lc rfl ln))))) (ih _ _ _ _ _ _ _ _ (by first | omega | decide) (by first | omega | decide))
                                                                                      · refine s_iconst (v := 0) hG dL_law_1719 (by decide) ?_
                                                                                        exact s_zret hG dL_law_1720 rfl (by omega) (by omega)
                                                                                    · refine s_split _ (fun e40 => ?_) (fun e40 => ?_)
                                                                                      · refine s_tabIn hG 1721 dL_law_40 (by rw [e40]; decide) (by rw [e40]; decide) (by rw [e40]; rfl) (by decide) ?_
                                                                                        refine s_aload_n hG dL_law_1721 rfl ?_
                                                                                        refine s_aload_n hG dL_law_1722 rfl ?_
                                                                                        refine s_iload hG dL_law_1723 rfl ?_
                                                                                        refine s_iconst (v := 1) hG dL_law_1725 (by decide) ?_
                                                                                        refine s_iadd hG dL_law_1726 ?_
                                                                                        refine s_xald hG hX dL_law_1727 (fun v1727 => ?_)
                                                                                        refine s_callVi hG kML_195 (fun a => corc11_forgiven N a _ _) ⟨by decide, rfl⟩ rfl (by first | decide | omega) dL_law_1728 rfl rfl (Nat.le_of_ble_eq_true rfl) ⟨by first | omega | decide, by first | omega | decide⟩ (fun p1728 => ?_)
                                                                                        refine s_aload_n hG dL_law_1731 rfl ?_
                                                                                        refine s_aload_n hG dL_law_1732 rfl ?_
                                                                                        refine s_iload hG dL_law_1733 rfl ?_
                                                                                        refine s_iconst (v := 1) hG dL_law_1735 (by decide) ?_
                                                                                        refine s_iadd hG dL_law_1736 ?_
                                                                                        refine s_xald hG hX dL_law_1737 (fun v1737 => ?_)
                                                                                        refine s_callVi hG kML_198 (fun a => corc12_forgiven N a _ _) ⟨by decide, rfl⟩ rfl (by first | decide | omega) dL_law_1738 rfl rfl (Nat.le_of_ble_eq_true rfl) ⟨by first | omega | decide, by first | omega | decide⟩ (fun p1738 => ?_)
                                                                                        refine s_icmp_eq hG 1797 dL_law_1741 (by decide) ?_ ?_
                                                                                        · refine s_iinc (v := 7) hG dL_law_1797 rfl (by decide) (by decide) ?_
                                                                                          refine s_goto hG 23 dL_law_1800 (by decide) ?_
                                                                                          exact s_lv (lc rfl (lc rfl (lc rfl (lc rfl (lc rfl ln))))) (ih _ _ _ _ _ _ _ _ (by first | omega | decide) (by first | omega | decide))
                                                                                        · refine s_iconst (v := 0) hG dL_law_1744 (by decide) ?_
                                                                                          exact s_zret hG dL_law_1745 rfl (by omega) (by omega)
                                                                                      · refine s_split _ (fun e41 => ?_) (fun e41 => ?_)
                                                                                        · refine s_tabIn hG 1746 dL_law_40 (by rw [e41]; decide) (by rw [e41]; decide) (by rw [e41]; rfl) (by decide) ?_
                                                                                          refine s_aload_n hG dL_law_1746 rfl ?_
                                                                                          refine s_callVi hG kML_199 (fun a => corc11_image N a _) ⟨by decide, rfl⟩ rfl (by first | decide | omega) dL_law_1747 rfl rfl (Nat.le_of_ble_eq_true rfl) ⟨by first | omega | decide, by first | omega | decide⟩ (fun p1747 => ?_)
                                                                                          refine s_aload_n hG dL_law_1750 rfl ?_
                                                                                          refine s_callVi hG kML_202 (fun a => corc12_image N a _) ⟨by decide, rfl⟩ rfl (by first | decide | omega) dL_law_1751 rfl rfl (Nat.le_of_ble_eq_true rfl) ⟨by first | omega | decide, by first | omega | decide⟩ (fun p1751 => ?_)
                                                                                          refine s_icmp_eq hG 1797 dL_law_1754 (by decide) ?_ ?_
                                                                                          · refine s_iinc (v := 7) hG dL_law_1797 rfl (by decide) (by decide) ?_
                                                                                            refine s_goto hG 23 dL_law_1800 (by decide) ?_
                                                                                            exact s_lv (lc rfl (lc rfl (lc rfl (lc rfl (lc rfl ln))))) (ih _ _ _ _ _ _ _ _ (by first | omega | decide) (by first | omega | decide))
                                                                                          · refine s_iconst (v := 0) hG dL_law_1757 (by decide) ?_
                                                                                            exact s_zret hG dL_law_1758 rfl (by omega) (by omega)
                                                                                        · refine s_split _ (fun e42 => ?_) (fun e42 => ?_)
                                                                                          · refine s_tabIn hG 1759 dL_law_40 (by rw [e42]; decide) (by rw [e42]; decide) (by rw [e42]; rfl) (by decide) ?_
                                                                                            refine s_aload_n hG dL_law_1759 rfl ?_
                                                                                            refine s_callVi hG kML_203 (fun a => corc11_back N a _) ⟨by decide, rfl⟩ rfl (by first | decide | omega) dL_law_1760 rfl rfl (Nat.le_of_ble_eq_true rfl) ⟨by first | omega | decide, by first | omega | decide⟩ (fun p1760 => ?_)
                                                                                            refine s_aload_n hG dL_law_1763 rfl ?_
                                                                                            refine s_callVi hG kML_206 (fun a => corc12_back N a _) ⟨by decide, rfl⟩ rfl (by first | decide | omega) dL_law_1764 rfl rfl (Nat.le_of_ble_eq_true rfl) ⟨by first | omega | decide, by first | omega | decide⟩ (fun p1764 => ?_)
                                                                                            refine s_icmp_eq hG 1797 dL_law_1767 (by decide) ?_ ?_
                                                                                            · refine s_iinc (v := 7) hG dL_law_1797 rfl (by decide) (by decide) ?_
                                                                                              refine s_goto hG 23 dL_law_1800 (by decide) ?_
                                                                                              exact s_lv (lc rfl (lc rfl (lc rfl (lc rfl (lc rfl ln))))) (ih _ _ _ _ _ _ _ _ (by first | omega | decide) (by first | omega | decide))
                                                                                            · refine s_iconst (v := 0) hG dL_law_1770 (by decide) ?_
                                                                                              exact s_zret hG dL_law_1771 rfl (by omega) (by omega)
                                                                                          · refine s_split _ (fun e43 => ?_) (fun e43 => ?_)
                                                                                            · refine s_tabIn hG 1772 dL_law_40 (by rw [e43]; decide) (by rw [e43]; decide) (by rw [e43]; rfl) (by decide) ?_
                                                                                              refine s_aload_n hG dL_law_1772 rfl ?_
                                                                                              refine s_aload_n hG dL_law_1773 rfl ?_
                                                                                              refine s_iload hG dL_law_1774 rfl ?_
                                                                                              refine s_iconst (v := 1) hG dL_law_1776 (by decide) ?_
                                                                                              refine s_iadd hG dL_law_1777 ?_
                                                                                              refine s_xald hG hX dL_law_1778 (fun v1778 => ?_)
                                                                                              refine s_callVi hG kML_207 (fun a => corc11_count N a _ _) ⟨by decide, rfl⟩ rfl (by first | decide | omega) dL_law_1779 rfl rfl (Nat.le_of_ble_eq_true rfl) ⟨by first | omega | decide, by first | omega | decide⟩ (fun p1779 => ?_)
                                                                                              refine s_aload_n hG dL_law_1782 rfl ?_
                                                                                              refine s_aload_n hG dL_law_1783 rfl ?_
                                                                                              refine s_iload hG dL_law_1784 rfl ?_
                                                                                              refine s_iconst (v := 1) hG dL_law_1786 (by decide) ?_
                                                                                              refine s_iadd hG dL_law_1787 ?_
                                                                                              refine s_xald hG hX dL_law_1788 (fun v1788 => ?_)
                                                                                              refine s_callVi hG kML_210 (fun a => corc12_count N a _ _) ⟨by decide, rfl⟩ rfl (by first | decide | omega) dL_law_1789 rfl rfl (Nat.le_of_ble_eq_true rfl) ⟨by first | omega | decide, by first | omega | decide⟩ (fun p1789 => ?_)
                                                                                              refine s_icmp_eq hG 1797 dL_law_1792 (by decide) ?_ ?_
                                                                                              · refine s_iinc (v := 7) hG dL_law_1797 rfl (by decide) (by decide) ?_
                                                                                                refine s_goto hG 23 dL_law_1800 (by decide) ?_
                                                                                                exact s_lv (lc rfl (lc rfl (lc rfl (lc rfl (lc rfl ln))))) (ih _ _ _ _ _ _ _ _ (by first | omega | decide) (by first | omega | decide))
                                                                                              · refine s_iconst (v := 0) hG dL_law_1795 (by decide) ?_
                                                                                                exact s_zret hG dL_law_1796 rfl (by omega) (by omega)
                                                                                            · refine s_tabOut hG 1797 dL_law_40 (tab_out (lo := 0) (n := 43) (by decide) (by decide) (show ∀ q ∈ [(0 : Int32), (1 : Int32), (2 : Int32), (3 : Int32), (4 : Int32), (5 : Int32), (6 : Int32), (7 : Int32), (8 : Int32), (9 : Int32), (10 : Int32), (11 : Int32), (12 : Int32), (13 : Int32), (14 : Int32), (15 : Int32), (16 : Int32), (17 : Int32), (18 : Int32), (19 : Int32), (20 : Int32), (21 : Int32), (22 : Int32), (23 : Int32), (24 : Int32), (25 : Int32), (26 : Int32), (27 : Int32), (28 : Int32), (29 : Int32), (30 : Int32), (31 : Int32), (32 : Int32), (33 : Int32), (34 : Int32), (35 : Int32), (36 : Int32), (37 : Int32), (38 : Int32), (39 : Int32), (40 : Int32), (41 : Int32), (42 : Int32), (43 : Int32)], ¬ _ = q from (List.forall_mem_cons.mpr ⟨e0, (List.forall_mem_cons.mpr ⟨e1, (List.forall_mem_cons.mpr ⟨e2, (List.forall_mem_cons.mpr ⟨e3, (List.forall_mem_cons.mpr ⟨e4, (List.forall_mem_cons.mpr ⟨e5, (List.forall_mem_cons.mpr ⟨e6, (List.forall_mem_cons.mpr ⟨e7, (List.forall_mem_cons.mpr ⟨e8, (List.forall_mem_cons.mpr ⟨e9, (List.forall_mem_cons.mpr ⟨e10, (List.forall_mem_cons.mpr ⟨e11, (List.forall_mem_cons.mpr ⟨e12, (List.forall_mem_cons.mpr ⟨e13, (List.forall_mem_cons.mpr ⟨e14, (List.forall_mem_cons.mpr ⟨e15, (List.forall_mem_cons.mpr ⟨e16, (List.forall_mem_cons.mpr ⟨e17, (List.forall_mem_cons.mpr ⟨e18, (List.forall_mem_cons.mpr ⟨e19, (List.forall_mem_cons.mpr ⟨e20, (List.forall_mem_cons.mpr ⟨e21, (List.forall_mem_cons.mpr ⟨e22, (List.forall_mem_cons.mpr ⟨e23, (List.forall_mem_cons.mpr ⟨e24, (List.forall_mem_cons.mpr ⟨e25, (List.forall_mem_cons.mpr ⟨e26, (List.forall_mem_cons.mpr ⟨e27, (List.forall_mem_cons.mpr ⟨e28, (List.forall_mem_cons.mpr ⟨e29, (List.forall_mem_cons.mpr ⟨e30, (List.forall_mem_cons.mpr ⟨e31, (List.forall_mem_cons.mpr ⟨e32, (List.forall_mem_cons.mpr ⟨e33, (List.forall_mem_cons.mpr ⟨e34, (List.forall_mem_cons.mpr ⟨e35, (List.forall_mem_cons.mpr ⟨e36, (List.forall_mem_cons.mpr ⟨e37, (List.forall_mem_cons.mpr ⟨e38, (List.forall_mem_cons.mpr ⟨e39, (List.forall_mem_cons.mpr ⟨e40, (List.forall_mem_cons.mpr ⟨e41, (List.forall_mem_cons.mpr ⟨e42, (List.forall_mem_cons.mpr ⟨e43, (fun q h => absurd h List.not_mem_nil)⟩)⟩)⟩)⟩)⟩)⟩)⟩)⟩)⟩)⟩)⟩)⟩)⟩)⟩)⟩)⟩)⟩)⟩)⟩)⟩)⟩)⟩)⟩)⟩)⟩)⟩)⟩)⟩)⟩)⟩)⟩)⟩)⟩)⟩)⟩)⟩)⟩)⟩)⟩)⟩)⟩)⟩)⟩)⟩))) (by decide) ?_
                                                                                              refine s_iinc (v := 7) hG dL_law_1797 rfl (by decide) (by decide) ?_
                                                                                              refine s_goto hG 23 dL_law_1800 (by decide) ?_
                                                                                              exact s_lv (lc rfl (lc rfl (lc rfl (lc rfl (lc rfl ln))))) (ih _ _ _ _ _ _ _ _ (by first | omega | decide) (by first | omega | decide))
set_option maxRecDepth 20000 in
set_option maxHeartbeats 8000000 in
theorem simL_law {Ω : Om} {Γ : Ga} {N : Nat} (hG : Good Ω Γ tL_law 145 601024 7293034) {L : Nat} {xs : Nat → Int32} (hX : (oX Ω).2.1 = L ∧ (oX Ω).2.2 = xs) (hF : LFld Ω Γ N) (σ : Me) : Sim Ω Γ 601024 7293034 ιI 7 0 [(0, vX ())] [] σ 0 0 (fL_law N L xs σ) := by
  unfold fL_law
  refine s_new hG kNL_8 dL_law_0 ⟨by first | omega | decide, by first | omega | decide⟩ (fun p0 => ?_)
  refine s_dup hG dL_law_3 rfl ?_
  refine s_callIv hG kML_15 (corc11_init N _ _) rfl (by first | decide | omega) dL_law_4 rfl rfl (Nat.le_of_ble_eq_true rfl) ⟨by first | omega | decide, by first | omega | decide⟩ (fun p4 => ?_)
  refine s_astore_n hG dL_law_7 (by decide) ?_
  refine s_new hG kNL_16 dL_law_8 ⟨by first | omega | decide, by first | omega | decide⟩ (fun p8 => ?_)
  refine s_dup hG dL_law_11 rfl ?_
  refine s_callIv hG kML_18 (corc12_init N _ _) rfl (by first | decide | omega) dL_law_12 rfl rfl (Nat.le_of_ble_eq_true rfl) ⟨by first | omega | decide, by first | omega | decide⟩ (fun p12 => ?_)
  refine s_astore_n hG dL_law_15 (by decide) ?_
  refine s_iconst (v := 1) hG dL_law_16 (by decide) ?_
  refine s_newarr hG 3 rfl rfl (by simp) kA_long (by decide) dL_law_17 ⟨by first | omega | decide, by first | omega | decide⟩ (fun p17 => ?_)
  refine s_astore_n hG dL_law_19 (by decide) ?_
  refine s_iconst (v := 0) hG dL_law_20 (by decide) ?_
  refine s_istore hG dL_law_21 (by decide) ?_
  exact s_lv (lc rfl (lc rfl (lc rfl (lc rfl (lc rfl ln))))) (pL_law_23 hG hX hF _ _ _ _ _ _ _ _ _ (by first | omega | decide) (by first | omega | decide))
