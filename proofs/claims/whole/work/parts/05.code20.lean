theorem fl_X7_222 : Cond.fieldLink RX7 222 (TX7 19).1 (TX7 19).2.1 (TX7 19).2.2.1 ∈ pb_gw := pb_inW 803 (by decide +kernel) (by decide +kernel)
def pX7_seed (v1 : Int64) (μ : pb_M) : Option (Int64 × pb_M) :=
  some ((μ.2 19), (pb_sL μ 19 v1))
abbrev wX7_seed (l : Launch) (E : pb_E) := pb_RW l E { frames := 0, cells := 0, slots := 0, locals := 0 } RX7 cX7_seed 5 (some .long) (fun _ => True) 0 0 (pb_Qf E (fun z : Int64 => some (.long z)))
set_option maxRecDepth 100000 in
set_option maxHeartbeats 4000000 in
theorem evX7_seed (l : Launch) (E : pb_E) (v1 : Int64)  (μ : pb_M) : ∀ b μ', pX7_seed v1 μ = some (b, μ') → pb_Ev l E yX7_seed cX7_seed 5 (some .long) { frames := 0, cells := 0, slots := 0, locals := 0 } [.ref (E.2.1 19), .long v1] μ ((fun z : Int64 => some (.long z)) b) μ' := by
  refine pb_enter (L := [some (.ref (E.2.1 19)), some (.long v1), none, none, none]) (by decide +kernel) (Nat.le_of_ble_eq_true rfl) (pb_same [none, none, none, none, none] rfl) (show wX7_seed l E 0 [some (.ref (E.2.1 19)), some (.long v1), none, none, none] [] μ (pX7_seed v1 μ) from ?_)
  unfold pX7_seed
  refine pb_aload_n 1 dX7_seed_0 rfl rfl rfl ?_
  refine pb_getL 4 (j := 19) in_X7 rfl (by decide) rfl rfl (by decide) fl_X7_222 dX7_seed_1 rfl ?_
  refine pb_lstore_n 5 (i := 3) (L' := [some (.ref (E.2.1 19)), some (.long v1), none, some (.long (μ.2 19)), none]) dX7_seed_4 rfl (by decide) rfl rfl rfl ?_
  refine pb_aload_n 6 dX7_seed_5 rfl rfl rfl ?_
  refine pb_lload_n 7 dX7_seed_6 rfl rfl rfl ?_
  refine pb_putL 10 (j := 19) tyX7 tyX7_ok nmX7 in_X7 rfl (by decide) rfl rfl one_X7 (by decide) fl_X7_222 rfl (by decide +kernel) dX7_seed_7 rfl ?_
  refine pb_lload_n 11 dX7_seed_10 rfl rfl rfl ?_
  exact pb_lret dX7_seed_11
theorem mc_X7_seed : pb_MC yX7_seed cX7_seed 5 (some .long) 1 := ⟨pb_inW 1114 (by decide +kernel) (by decide +kernel), pb_inW 68 (by decide +kernel) (by decide +kernel), by decide +kernel, by decide +kernel, by decide +kernel⟩
theorem mi_X7_seed : Cond.instanceMethod yX7_seed ∈ pb_gw := pb_inW 1112 (by decide +kernel) (by decide +kernel)
theorem ms_X7_seed : Cond.selects (yX7_seed).cls yX7_seed yX7_seed ∈ pb_gw := pb_inW 1113 (by decide +kernel) (by decide +kernel)
theorem cl_X7_seed {α : Type} {l : Launch} {E : pb_E} {R : Room} {own : String} {cc : ByteArray} {mL : Nat} {ret : Option FieldType} {Xs : State → Prop} {nc ns : Nat} {Qf : State → Array Value → List Frame → α → pb_M → State → Prop} {pc : Nat} {L : List (Option Value)} {S : List Value} {μ : pb_M} {f : Int64 → pb_M → Option (α × pb_M)} {v1 : Int64} {index : Nat} (q : Nat)  (hR : 0 + 1 ≤ R.frames ∧ 8 + (5 + 11) + 0 ≤ R.locals ∧ nc ≤ R.cells ∧ ns ≤ R.slots) (hW : (S.map fun v => v.category).sum ≤ 8) (hl1 : Cond.methodLink own index yX7_seed ∈ pb_gw) (hdg : decode cc pc = .ok (.invokevirtual index, 3)) (hq : pc + 3 = q) (k : ∀ b1 μ1, pb_RW l E R own cc mL ret Xs nc ns Qf q L (.long b1 :: S) μ1 (f b1 μ1)) : pb_RW l E R own cc mL ret Xs nc ns Qf pc L (.long v1 :: .ref (E.2.1 19) :: S) μ (pb_b (pX7_seed v1 μ) f) := pb_callV q (fun z : Int64 => some (.long z)) mc_X7_seed mi_X7_seed ms_X7_seed (fun b1 μ1 h => evX7_seed l E v1  μ b1 μ1 h) rfl (by decide) rfl rfl rfl rfl hR rfl hW hl1 hdg hq k
def pX7_allOwed_L4 (v1 : Int32) : Nat → Int32 → Int32 → pb_M → Option (Int32 × pb_M)
  | 0, _, _, _ => none
  | n + 1, v2, v3, μ =>
    if (16 : Int32) ≤ v3 then
      some (v2, μ)
    else
    if pb_in ((((45 : Int32) * v1) + (28 : Int32)) + v3) 90 then
      pX7_allOwed_L4 v1 n (v2 + (μ.1 21 (((((45 : Int32) * v1) + (28 : Int32)) + v3)).toNatClampNeg)) (v3 + (1 : Int32)) μ
    else none
def pX7_allOwed (v1 : Int32) (μ : pb_M) : Option (Int32 × pb_M) :=
  pX7_allOwed_L4 v1 pb_F (0 : Int32) (0 : Int32) μ
abbrev wX7_allOwed (l : Launch) (E : pb_E) := pb_RW l E { frames := 0, cells := 0, slots := 0, locals := 0 } RX7 cX7_allOwed 4 (some .int) (fun _ => True) 0 0 (pb_Qf E (fun z : Int32 => some (.int z)))
set_option maxRecDepth 100000 in
set_option maxHeartbeats 4000000 in
theorem tX7_allOwed_L4 (l : Launch) (E : pb_E) (v1 : Int32)   : ∀ (n : Nat) (v2 : Int32) (v3 : Int32) (μ : pb_M), wX7_allOwed l E 4 [some (.ref (E.2.1 19)), some (.int v1), some (.int v2), some (.int v3)] [] μ (pX7_allOwed_L4 v1 n v2 v3 μ) := by
  intro n
  induction n with
  | zero => intro v2 v3 μ; exact pb_none
  | succ n ih =>
    intro v2 v3 μ
    rw [pX7_allOwed_L4]
    refine pb_iload_n 5 dX7_allOwed_4 rfl rfl rfl ?_
    refine pb_bipush 7 (v := 16) dX7_allOwed_5 rfl (by decide) ?_
    refine pb_icmp_ge 10 (tgt := 33) dX7_allOwed_7 (by decide) rfl (fun _ => ?_) (fun _ => ?_)
    · refine pb_iload_n 34 dX7_allOwed_33 rfl rfl rfl ?_
      exact pb_iret dX7_allOwed_34
    · refine pb_iload_n 11 dX7_allOwed_10 rfl rfl rfl ?_
      refine pb_aload_n 12 dX7_allOwed_11 rfl rfl rfl ?_
      refine pb_getR 15 (j := 3) (d := 21) in_X7 rfl (by decide) rfl rfl (by decide) fl_X7_13 dX7_allOwed_12 rfl ?_
      refine pb_bipush 17 (v := 45) dX7_allOwed_15 rfl (by decide) ?_
      refine pb_iload_n 18 dX7_allOwed_17 rfl rfl rfl ?_
      refine pb_imul 19 dX7_allOwed_18 rfl ?_
      refine pb_bipush 21 (v := 28) dX7_allOwed_19 rfl (by decide) ?_
      refine pb_iadd 22 dX7_allOwed_21 rfl ?_
      refine pb_iload_n 23 dX7_allOwed_22 rfl rfl rfl ?_
      refine pb_iadd 24 dX7_allOwed_23 rfl ?_
      refine pb_guard (fun hin => pb_iald 25 rfl hin rfl dX7_allOwed_24 rfl ?_)
      refine pb_iadd 26 dX7_allOwed_25 rfl ?_
      refine pb_istore_n 27 (i := 2) (L' := [some (.ref (E.2.1 19)), some (.int v1), some (.int (v2 + (μ.1 21 (((((45 : Int32) * v1) + (28 : Int32)) + v3)).toNatClampNeg))), some (.int v3)]) dX7_allOwed_26 rfl (by decide) rfl rfl rfl ?_
      refine pb_iinc 30 (i := 3) (v := (v3 + (1 : Int32))) (L' := [some (.ref (E.2.1 19)), some (.int v1), some (.int (v2 + (μ.1 21 (((((45 : Int32) * v1) + (28 : Int32)) + v3)).toNatClampNeg))), some (.int (v3 + (1 : Int32)))]) dX7_allOwed_27 rfl rfl (by decide) rfl rfl rfl ?_
      refine pb_goto (tgt := 4) dX7_allOwed_30 (by decide) ?_
      exact ih (v2 + (μ.1 21 (((((45 : Int32) * v1) + (28 : Int32)) + v3)).toNatClampNeg)) (v3 + (1 : Int32)) μ
set_option maxRecDepth 100000 in
set_option maxHeartbeats 4000000 in
theorem evX7_allOwed (l : Launch) (E : pb_E) (v1 : Int32)  (μ : pb_M) : ∀ b μ', pX7_allOwed v1 μ = some (b, μ') → pb_Ev l E yX7_allOwed cX7_allOwed 4 (some .int) { frames := 0, cells := 0, slots := 0, locals := 0 } [.ref (E.2.1 19), .int v1] μ ((fun z : Int32 => some (.int z)) b) μ' := by
  refine pb_enter (L := [some (.ref (E.2.1 19)), some (.int v1), none, none]) (by decide +kernel) (Nat.le_of_ble_eq_true rfl) (pb_same [none, none, none, none] rfl) (show wX7_allOwed l E 0 [some (.ref (E.2.1 19)), some (.int v1), none, none] [] μ (pX7_allOwed v1 μ) from ?_)
  unfold pX7_allOwed
  refine pb_iconst 1 (v := 0) dX7_allOwed_0 rfl (by decide) ?_
  refine pb_istore_n 2 (i := 2) (L' := [some (.ref (E.2.1 19)), some (.int v1), some (.int (0 : Int32)), none]) dX7_allOwed_1 rfl (by decide) rfl rfl rfl ?_
  refine pb_iconst 3 (v := 0) dX7_allOwed_2 rfl (by decide) ?_
  refine pb_istore_n 4 (i := 3) (L' := [some (.ref (E.2.1 19)), some (.int v1), some (.int (0 : Int32)), some (.int (0 : Int32))]) dX7_allOwed_3 rfl (by decide) rfl rfl rfl ?_
  exact tX7_allOwed_L4 l E v1 pb_F (0 : Int32) (0 : Int32) μ
theorem mc_X7_allOwed : pb_MC yX7_allOwed cX7_allOwed 4 (some .int) 1 := ⟨pb_inW 1125 (by decide +kernel) (by decide +kernel), pb_inW 68 (by decide +kernel) (by decide +kernel), by decide +kernel, by decide +kernel, by decide +kernel⟩
theorem mi_X7_allOwed : Cond.instanceMethod yX7_allOwed ∈ pb_gw := pb_inW 1124 (by decide +kernel) (by decide +kernel)
theorem ms_X7_allOwed : Cond.selects (yX7_allOwed).cls yX7_allOwed yX7_allOwed ∈ pb_gw := pb_inW 59 (by decide +kernel) (by decide +kernel)
theorem cl_X7_allOwed {α : Type} {l : Launch} {E : pb_E} {R : Room} {own : String} {cc : ByteArray} {mL : Nat} {ret : Option FieldType} {Xs : State → Prop} {nc ns : Nat} {Qf : State → Array Value → List Frame → α → pb_M → State → Prop} {pc : Nat} {L : List (Option Value)} {S : List Value} {μ : pb_M} {f : Int32 → pb_M → Option (α × pb_M)} {v1 : Int32} {index : Nat} (q : Nat)  (hR : 0 + 1 ≤ R.frames ∧ 8 + (4 + 11) + 0 ≤ R.locals ∧ nc ≤ R.cells ∧ ns ≤ R.slots) (hW : (S.map fun v => v.category).sum ≤ 8) (hl1 : Cond.methodLink own index yX7_allOwed ∈ pb_gw) (hdg : decode cc pc = .ok (.invokevirtual index, 3)) (hq : pc + 3 = q) (k : ∀ b1 μ1, pb_RW l E R own cc mL ret Xs nc ns Qf q L (.int b1 :: S) μ1 (f b1 μ1)) : pb_RW l E R own cc mL ret Xs nc ns Qf pc L (.int v1 :: .ref (E.2.1 19) :: S) μ (pb_b (pX7_allOwed v1 μ) f) := pb_callV q (fun z : Int32 => some (.int z)) mc_X7_allOwed mi_X7_allOwed ms_X7_allOwed (fun b1 μ1 h => evX7_allOwed l E v1  μ b1 μ1 h) rfl (by decide) rfl rfl rfl rfl hR rfl hW hl1 hdg hq k
theorem kc_X7_226 : Cond.constantLong RX7 226 (30 : Int64) ∈ pb_gw := pb_inW 1119 (by decide +kernel) (by decide +kernel)
theorem kc_X7_228 : Cond.constantLong RX7 228 (6364136223846793005 : Int64) ∈ pb_gw := pb_inW 1120 (by decide +kernel) (by decide +kernel)
theorem kc_X7_230 : Cond.constantLong RX7 230 (1442695040888963407 : Int64) ∈ pb_gw := pb_inW 1121 (by decide +kernel) (by decide +kernel)
theorem ml_X7_232 : Cond.methodLink RX7 232 yX7_allOwed ∈ pb_gw := pb_inW 1122 (by decide +kernel) (by decide +kernel)
def pX7_villages_L114 (v1 : Int32) (v2 : Int32) (K146 : pb_M → Option (Int32 × pb_M)) : Nat → Int32 → pb_M → Option (Int32 × pb_M)
  | 0, _, _ => none
  | n + 1, v4, μ =>
    if (μ.1 19 1) ≤ v4 then
      K146 μ
    else
    pb_b (pX7_canKeep (1 : Int32) v4 μ) (fun b127 μ127 =>
    if b127 = (0 : Int32) then
      pX7_villages_L114 v1 v2 K146 n (v4 + (1 : Int32)) μ127
    else
    pb_b (pX7_keepOn (1 : Int32) v4 μ127) (fun b137 μ137 =>
    pX7_villages_L114 v1 v2 K146 n (v4 + (1 : Int32)) μ137))
def pX7_villages_L21 (v1 : Int32) (K152 : pb_M → Option (Int32 × pb_M)) : Nat → Int32 → pb_M → Option (Int32 × pb_M)
  | 0, _, _ => none
  | n + 1, v2, μ =>
    if v1 ≤ v2 then
      K152 μ
    else
    pb_b (pX7_isPerson (((pb_lmod ((((pb_sL μ 19 (((μ.2 19) * (6364136223846793005 : Int64)) + (1442695040888963407 : Int64))).2 19)).toUInt64 >>> (((33 : Int32)).toInt64.toUInt64 &&& Int64.toUInt64 63)).toInt64 (30 : Int64))).toInt32 / (6 : Int32)) (pb_sL μ 19 (((μ.2 19) * (6364136223846793005 : Int64)) + (1442695040888963407 : Int64)))) (fun b60 μ60 =>
    if b60 = (0 : Int32) then
      pb_b (pX7_passOn (1 : Int32) μ60) (fun b108 μ108 =>
      pX7_villages_L114 v1 v2 (fun μk146 =>
        pX7_villages_L21 v1 K152 n (v2 + (1 : Int32)) μk146) pb_F (0 : Int32) μ108)
    else
    pb_b (pX7_isBeast (pb_rem ((pb_lmod ((((pb_sL μ 19 (((μ.2 19) * (6364136223846793005 : Int64)) + (1442695040888963407 : Int64))).2 19)).toUInt64 >>> (((33 : Int32)).toInt64.toUInt64 &&& Int64.toUInt64 63)).toInt64 (30 : Int64))).toInt32 (6 : Int32)) μ60) (fun b71 μ71 =>
    if b71 = (0 : Int32) then
      pb_b (pX7_passOn (1 : Int32) μ71) (fun b108 μ108 =>
      pX7_villages_L114 v1 v2 (fun μk146 =>
        pX7_villages_L21 v1 K152 n (v2 + (1 : Int32)) μk146) pb_F (0 : Int32) μ108)
    else
    pb_b (pX7_clauseOn (1 : Int32) (((pb_lmod ((((pb_sL μ 19 (((μ.2 19) * (6364136223846793005 : Int64)) + (1442695040888963407 : Int64))).2 19)).toUInt64 >>> (((33 : Int32)).toInt64.toUInt64 &&& Int64.toUInt64 63)).toInt64 (30 : Int64))).toInt32 / (6 : Int32)) (pb_rem ((pb_lmod ((((pb_sL μ 19 (((μ.2 19) * (6364136223846793005 : Int64)) + (1442695040888963407 : Int64))).2 19)).toUInt64 >>> (((33 : Int32)).toInt64.toUInt64 &&& Int64.toUInt64 63)).toInt64 (30 : Int64))).toInt32 (6 : Int32)) μ71) (fun b87 μ87 =>
    if b87 = (0 : Int32) then
      pb_b (pX7_shutOn (1 : Int32) (pb_rem ((pb_lmod ((((pb_sL μ 19 (((μ.2 19) * (6364136223846793005 : Int64)) + (1442695040888963407 : Int64))).2 19)).toUInt64 >>> (((33 : Int32)).toInt64.toUInt64 &&& Int64.toUInt64 63)).toInt64 (30 : Int64))).toInt32 (6 : Int32)) (((pb_lmod ((((pb_sL μ 19 (((μ.2 19) * (6364136223846793005 : Int64)) + (1442695040888963407 : Int64))).2 19)).toUInt64 >>> (((33 : Int32)).toInt64.toUInt64 &&& Int64.toUInt64 63)).toInt64 (30 : Int64))).toInt32 / (6 : Int32)) μ87) (fun b103 μ103 =>
      pb_b (pX7_passOn (1 : Int32) μ103) (fun b108 μ108 =>
      pX7_villages_L114 v1 v2 (fun μk146 =>
        pX7_villages_L21 v1 K152 n (v2 + (1 : Int32)) μk146) pb_F (0 : Int32) μ108))
    else
    pb_b (pX7_passOn (1 : Int32) μ87) (fun b108 μ108 =>
    pX7_villages_L114 v1 v2 (fun μk146 =>
      pX7_villages_L21 v1 K152 n (v2 + (1 : Int32)) μk146) pb_F (0 : Int32) μ108))))
def pX7_villages (v1 : Int32) (μ : pb_M) : Option (Int32 × pb_M) :=
  pb_b (pX7_in (v1).toInt64 (1 : Int64) (30 : Int64) μ) (fun b6 μ6 =>
  if b6 = (0 : Int32) then
    some ((-2 : Int32), μ6)
  else
  pb_b (pX7_layTrial μ6) (fun b16 μ16 =>
  pX7_villages_L21 v1 (fun μk152 =>
    pb_b (pX7_allOwed (1 : Int32) μk152) (fun b154 μ154 =>
    some (b154, μ154))) pb_F (0 : Int32) μ16))
abbrev wX7_villages (l : Launch) (E : pb_E) := pb_RW l E { frames := 3, cells := 0, slots := 0, locals := 71 } RX7 cX7_villages 5 (some .int) (fun _ => True) 0 0 (pb_Qf E (fun z : Int32 => some (.int z)))
set_option maxRecDepth 100000 in
set_option maxHeartbeats 4000000 in
theorem tX7_villages_L114 (l : Launch) (E : pb_E) (v1 : Int32) (v2 : Int32) {K146 : pb_M → Option (Int32 × pb_M)} (hK146 : ∀  (μ : pb_M), wX7_villages l E 146 [some (.ref (E.2.1 19)), some (.int v1), some (.int v2), none, none] [] μ (K146  μ)) : ∀ (n : Nat) (v4 : Int32) (μ : pb_M), wX7_villages l E 114 [some (.ref (E.2.1 19)), some (.int v1), some (.int v2), none, some (.int v4)] [] μ (pX7_villages_L114 v1 v2 K146 n v4 μ) := by
  intro n
  induction n with
  | zero => intro v4 μ; exact pb_none
  | succ n ih =>
    intro v4 μ
    rw [pX7_villages_L114]
    refine pb_iload 116 dX7_villages_114 rfl rfl ?_
    refine pb_aload_n 117 dX7_villages_116 rfl rfl rfl ?_
    refine pb_getI 120 (j := 1) in_X7 rfl (by decide) rfl rfl (by decide) fl_X7_94 dX7_villages_117 rfl ?_
    refine pb_icmp_ge 123 (tgt := 146) dX7_villages_120 (by decide) rfl (fun _ => ?_) (fun _ => ?_)
    · refine pb_weakM (L' := [some (.ref (E.2.1 19)), some (.int v1), some (.int v2), none, none]) [true, true, true, false, false] rfl ?_
      exact hK146 μ
    · refine pb_aload_n 124 dX7_villages_123 rfl rfl rfl ?_
      refine pb_iconst 125 (v := 1) dX7_villages_124 rfl (by decide) ?_
      refine pb_iload 127 dX7_villages_125 rfl rfl ?_
      refine cl_X7_canKeep 130 ⟨by decide, by decide, by decide, by decide⟩ (Nat.le_of_ble_eq_true rfl) ml_X7_147 dX7_villages_127 rfl (fun b127 μ127 => ?_)
      refine pb_if_eq 133 (tgt := 140) dX7_villages_130 (by decide) rfl (fun _ => ?_) (fun _ => ?_)
      · refine pb_iinc 143 (i := 4) (v := (v4 + (1 : Int32))) (L' := [some (.ref (E.2.1 19)), some (.int v1), some (.int v2), none, some (.int (v4 + (1 : Int32)))]) dX7_villages_140 rfl rfl (by decide) rfl rfl rfl ?_
        refine pb_goto (tgt := 114) dX7_villages_143 (by decide) ?_
        exact ih (v4 + (1 : Int32)) μ127
      · refine pb_aload_n 134 dX7_villages_133 rfl rfl rfl ?_
        refine pb_iconst 135 (v := 1) dX7_villages_134 rfl (by decide) ?_
        refine pb_iload 137 dX7_villages_135 rfl rfl ?_
        refine cl_X7_keepOn 140 ⟨by decide, by decide, by decide, by decide⟩ (Nat.le_of_ble_eq_true rfl) ml_X7_150 dX7_villages_137 rfl (fun b137 μ137 => ?_)
        refine pb_iinc 143 (i := 4) (v := (v4 + (1 : Int32))) (L' := [some (.ref (E.2.1 19)), some (.int v1), some (.int v2), none, some (.int (v4 + (1 : Int32)))]) dX7_villages_140 rfl rfl (by decide) rfl rfl rfl ?_
        refine pb_goto (tgt := 114) dX7_villages_143 (by decide) ?_
        exact ih (v4 + (1 : Int32)) μ137
set_option maxRecDepth 100000 in
set_option maxHeartbeats 4000000 in
theorem tX7_villages_L21 (l : Launch) (E : pb_E) (v1 : Int32) {K152 : pb_M → Option (Int32 × pb_M)} (hK152 : ∀  (μ : pb_M), wX7_villages l E 152 [some (.ref (E.2.1 19)), none, none, none, none] [] μ (K152  μ)) : ∀ (n : Nat) (v2 : Int32) (μ : pb_M), wX7_villages l E 21 [some (.ref (E.2.1 19)), some (.int v1), some (.int v2), none, none] [] μ (pX7_villages_L21 v1 K152 n v2 μ) := by
  intro n
  induction n with
  | zero => intro v2 μ; exact pb_none
  | succ n ih =>
    intro v2 μ
    rw [pX7_villages_L21]
    refine pb_iload_n 22 dX7_villages_21 rfl rfl rfl ?_
    refine pb_iload_n 23 dX7_villages_22 rfl rfl rfl ?_
    refine pb_icmp_ge 26 (tgt := 152) dX7_villages_23 (by decide) rfl (fun _ => ?_) (fun _ => ?_)
    · refine pb_weakM (L' := [some (.ref (E.2.1 19)), none, none, none, none]) [true, false, false, false, false] rfl ?_
      exact hK152 μ
    · refine pb_aload_n 27 dX7_villages_26 rfl rfl rfl ?_
      refine pb_aload_n 28 dX7_villages_27 rfl rfl rfl ?_
      refine pb_getL 31 (j := 19) in_X7 rfl (by decide) rfl rfl (by decide) fl_X7_222 dX7_villages_28 rfl ?_
      refine pb_ldc2 34 kc_X7_228 dX7_villages_31 rfl ?_
      refine pb_lmul 35 dX7_villages_34 rfl ?_
      refine pb_ldc2 38 kc_X7_230 dX7_villages_35 rfl ?_
      refine pb_ladd 39 dX7_villages_38 rfl ?_
      refine pb_putL 42 (j := 19) tyX7 tyX7_ok nmX7 in_X7 rfl (by decide) rfl rfl one_X7 (by decide) fl_X7_222 rfl (by decide +kernel) dX7_villages_39 rfl ?_
      refine pb_aload_n 43 dX7_villages_42 rfl rfl rfl ?_
      refine pb_getL 46 (j := 19) in_X7 rfl (by decide) rfl rfl (by decide) fl_X7_222 dX7_villages_43 rfl ?_
      refine pb_bipush 48 (v := 33) dX7_villages_46 rfl (by decide) ?_
      refine pb_lushr 49 dX7_villages_48 rfl ?_
      refine pb_ldc2 52 kc_X7_226 dX7_villages_49 rfl ?_
      refine pb_lrem 53 dX7_villages_52 rfl (by decide) ?_
      refine pb_l2i 54 dX7_villages_53 rfl ?_
      refine pb_istore_n 55 (i := 3) (L' := [some (.ref (E.2.1 19)), some (.int v1), some (.int v2), some (.int ((pb_lmod ((((pb_sL μ 19 (((μ.2 19) * (6364136223846793005 : Int64)) + (1442695040888963407 : Int64))).2 19)).toUInt64 >>> (((33 : Int32)).toInt64.toUInt64 &&& Int64.toUInt64 63)).toInt64 (30 : Int64))).toInt32), none]) dX7_villages_54 rfl (by decide) rfl rfl rfl ?_
      refine pb_aload_n 56 dX7_villages_55 rfl rfl rfl ?_
      refine pb_iload_n 57 dX7_villages_56 rfl rfl rfl ?_
      refine pb_bipush 59 (v := 6) dX7_villages_57 rfl (by decide) ?_
      refine pb_idiv 60 dX7_villages_59 rfl (by decide) ?_
      refine cl_X7_isPerson 63 ⟨by decide, by decide, by decide, by decide⟩ (Nat.le_of_ble_eq_true rfl) ml_X7_100 dX7_villages_60 rfl (fun b60 μ60 => ?_)
      refine pb_if_eq 66 (tgt := 106) dX7_villages_63 (by decide) rfl (fun _ => ?_) (fun _ => ?_)
      · refine pb_aload_n 107 dX7_villages_106 rfl rfl rfl ?_
        refine pb_iconst 108 (v := 1) dX7_villages_107 rfl (by decide) ?_
        refine cl_X7_passOn 111 ⟨by decide, by decide, by decide, by decide⟩ (Nat.le_of_ble_eq_true rfl) ml_X7_135 dX7_villages_108 rfl (fun b108 μ108 => ?_)
        refine pb_iconst 112 (v := 0) dX7_villages_111 rfl (by decide) ?_
        refine pb_istore 114 (i := 4) (L' := [some (.ref (E.2.1 19)), some (.int v1), some (.int v2), some (.int ((pb_lmod ((((pb_sL μ 19 (((μ.2 19) * (6364136223846793005 : Int64)) + (1442695040888963407 : Int64))).2 19)).toUInt64 >>> (((33 : Int32)).toInt64.toUInt64 &&& Int64.toUInt64 63)).toInt64 (30 : Int64))).toInt32), some (.int (0 : Int32))]) dX7_villages_112 (by decide) rfl rfl rfl ?_
        refine pb_weakM (L' := [some (.ref (E.2.1 19)), some (.int v1), some (.int v2), none, some (.int (0 : Int32))]) [true, true, true, false, true] rfl ?_
        refine tX7_villages_L114 l E v1 v2 (fun μk146 => ?_) pb_F (0 : Int32) μ108
        refine pb_iinc 149 (i := 2) (v := (v2 + (1 : Int32))) (L' := [some (.ref (E.2.1 19)), some (.int v1), some (.int (v2 + (1 : Int32))), none, none]) dX7_villages_146 rfl rfl (by decide) rfl rfl rfl ?_
        refine pb_goto (tgt := 21) dX7_villages_149 (by decide) ?_
        exact ih (v2 + (1 : Int32)) μk146
      · refine pb_aload_n 67 dX7_villages_66 rfl rfl rfl ?_
        refine pb_iload_n 68 dX7_villages_67 rfl rfl rfl ?_
        refine pb_bipush 70 (v := 6) dX7_villages_68 rfl (by decide) ?_
        refine pb_irem 71 dX7_villages_70 rfl (by decide) ?_
        refine cl_X7_isBeast 74 ⟨by decide, by decide, by decide, by decide⟩ (Nat.le_of_ble_eq_true rfl) ml_X7_108 dX7_villages_71 rfl (fun b71 μ71 => ?_)
        refine pb_if_eq 77 (tgt := 106) dX7_villages_74 (by decide) rfl (fun _ => ?_) (fun _ => ?_)
        · refine pb_aload_n 107 dX7_villages_106 rfl rfl rfl ?_
          refine pb_iconst 108 (v := 1) dX7_villages_107 rfl (by decide) ?_
          refine cl_X7_passOn 111 ⟨by decide, by decide, by decide, by decide⟩ (Nat.le_of_ble_eq_true rfl) ml_X7_135 dX7_villages_108 rfl (fun b108 μ108 => ?_)
          refine pb_iconst 112 (v := 0) dX7_villages_111 rfl (by decide) ?_
          refine pb_istore 114 (i := 4) (L' := [some (.ref (E.2.1 19)), some (.int v1), some (.int v2), some (.int ((pb_lmod ((((pb_sL μ 19 (((μ.2 19) * (6364136223846793005 : Int64)) + (1442695040888963407 : Int64))).2 19)).toUInt64 >>> (((33 : Int32)).toInt64.toUInt64 &&& Int64.toUInt64 63)).toInt64 (30 : Int64))).toInt32), some (.int (0 : Int32))]) dX7_villages_112 (by decide) rfl rfl rfl ?_
          refine pb_weakM (L' := [some (.ref (E.2.1 19)), some (.int v1), some (.int v2), none, some (.int (0 : Int32))]) [true, true, true, false, true] rfl ?_
          refine tX7_villages_L114 l E v1 v2 (fun μk146 => ?_) pb_F (0 : Int32) μ108
          refine pb_iinc 149 (i := 2) (v := (v2 + (1 : Int32))) (L' := [some (.ref (E.2.1 19)), some (.int v1), some (.int (v2 + (1 : Int32))), none, none]) dX7_villages_146 rfl rfl (by decide) rfl rfl rfl ?_
          refine pb_goto (tgt := 21) dX7_villages_149 (by decide) ?_
          exact ih (v2 + (1 : Int32)) μk146
        · refine pb_aload_n 78 dX7_villages_77 rfl rfl rfl ?_
          refine pb_iconst 79 (v := 1) dX7_villages_78 rfl (by decide) ?_
          refine pb_iload_n 80 dX7_villages_79 rfl rfl rfl ?_
          refine pb_bipush 82 (v := 6) dX7_villages_80 rfl (by decide) ?_
          refine pb_idiv 83 dX7_villages_82 rfl (by decide) ?_
          refine pb_iload_n 84 dX7_villages_83 rfl rfl rfl ?_
          refine pb_bipush 86 (v := 6) dX7_villages_84 rfl (by decide) ?_
          refine pb_irem 87 dX7_villages_86 rfl (by decide) ?_
          refine cl_X7_clauseOn 90 ⟨by decide, by decide, by decide, by decide⟩ (Nat.le_of_ble_eq_true rfl) ml_X7_129 dX7_villages_87 rfl (fun b87 μ87 => ?_)
          refine pb_if_ne 93 (tgt := 106) dX7_villages_90 (by decide) rfl (fun _ => ?_) (fun _ => ?_)
          · refine pb_aload_n 94 dX7_villages_93 rfl rfl rfl ?_
            refine pb_iconst 95 (v := 1) dX7_villages_94 rfl (by decide) ?_
            refine pb_iload_n 96 dX7_villages_95 rfl rfl rfl ?_
            refine pb_bipush 98 (v := 6) dX7_villages_96 rfl (by decide) ?_
            refine pb_irem 99 dX7_villages_98 rfl (by decide) ?_
            refine pb_iload_n 100 dX7_villages_99 rfl rfl rfl ?_
            refine pb_bipush 102 (v := 6) dX7_villages_100 rfl (by decide) ?_
            refine pb_idiv 103 dX7_villages_102 rfl (by decide) ?_
            refine cl_X7_shutOn 106 ⟨by decide, by decide, by decide, by decide⟩ (Nat.le_of_ble_eq_true rfl) ml_X7_114 dX7_villages_103 rfl (fun b103 μ103 => ?_)
            refine pb_aload_n 107 dX7_villages_106 rfl rfl rfl ?_
            refine pb_iconst 108 (v := 1) dX7_villages_107 rfl (by decide) ?_
            refine cl_X7_passOn 111 ⟨by decide, by decide, by decide, by decide⟩ (Nat.le_of_ble_eq_true rfl) ml_X7_135 dX7_villages_108 rfl (fun b108 μ108 => ?_)
            refine pb_iconst 112 (v := 0) dX7_villages_111 rfl (by decide) ?_
            refine pb_istore 114 (i := 4) (L' := [some (.ref (E.2.1 19)), some (.int v1), some (.int v2), some (.int ((pb_lmod ((((pb_sL μ 19 (((μ.2 19) * (6364136223846793005 : Int64)) + (1442695040888963407 : Int64))).2 19)).toUInt64 >>> (((33 : Int32)).toInt64.toUInt64 &&& Int64.toUInt64 63)).toInt64 (30 : Int64))).toInt32), some (.int (0 : Int32))]) dX7_villages_112 (by decide) rfl rfl rfl ?_
            refine pb_weakM (L' := [some (.ref (E.2.1 19)), some (.int v1), some (.int v2), none, some (.int (0 : Int32))]) [true, true, true, false, true] rfl ?_
            refine tX7_villages_L114 l E v1 v2 (fun μk146 => ?_) pb_F (0 : Int32) μ108
            refine pb_iinc 149 (i := 2) (v := (v2 + (1 : Int32))) (L' := [some (.ref (E.2.1 19)), some (.int v1), some (.int (v2 + (1 : Int32))), none, none]) dX7_villages_146 rfl rfl (by decide) rfl rfl rfl ?_
            refine pb_goto (tgt := 21) dX7_villages_149 (by decide) ?_
            exact ih (v2 + (1 : Int32)) μk146
          · refine pb_aload_n 107 dX7_villages_106 rfl rfl rfl ?_
            refine pb_iconst 108 (v := 1) dX7_villages_107 rfl (by decide) ?_
            refine cl_X7_passOn 111 ⟨by decide, by decide, by decide, by decide⟩ (Nat.le_of_ble_eq_true rfl) ml_X7_135 dX7_villages_108 rfl (fun b108 μ108 => ?_)
            refine pb_iconst 112 (v := 0) dX7_villages_111 rfl (by decide) ?_
            refine pb_istore 114 (i := 4) (L' := [some (.ref (E.2.1 19)), some (.int v1), some (.int v2), some (.int ((pb_lmod ((((pb_sL μ 19 (((μ.2 19) * (6364136223846793005 : Int64)) + (1442695040888963407 : Int64))).2 19)).toUInt64 >>> (((33 : Int32)).toInt64.toUInt64 &&& Int64.toUInt64 63)).toInt64 (30 : Int64))).toInt32), some (.int (0 : Int32))]) dX7_villages_112 (by decide) rfl rfl rfl ?_
            refine pb_weakM (L' := [some (.ref (E.2.1 19)), some (.int v1), some (.int v2), none, some (.int (0 : Int32))]) [true, true, true, false, true] rfl ?_
            refine tX7_villages_L114 l E v1 v2 (fun μk146 => ?_) pb_F (0 : Int32) μ108
            refine pb_iinc 149 (i := 2) (v := (v2 + (1 : Int32))) (L' := [some (.ref (E.2.1 19)), some (.int v1), some (.int (v2 + (1 : Int32))), none, none]) dX7_villages_146 rfl rfl (by decide) rfl rfl rfl ?_
            refine pb_goto (tgt := 21) dX7_villages_149 (by decide) ?_
            exact ih (v2 + (1 : Int32)) μk146
set_option maxRecDepth 100000 in
set_option maxHeartbeats 4000000 in
theorem evX7_villages (l : Launch) (E : pb_E) (v1 : Int32)  (μ : pb_M) : ∀ b μ', pX7_villages v1 μ = some (b, μ') → pb_Ev l E yX7_villages cX7_villages 5 (some .int) { frames := 3, cells := 0, slots := 0, locals := 71 } [.ref (E.2.1 19), .int v1] μ ((fun z : Int32 => some (.int z)) b) μ' := by
  refine pb_enter (L := [some (.ref (E.2.1 19)), some (.int v1), none, none, none]) (by decide +kernel) (Nat.le_of_ble_eq_true rfl) (pb_same [none, none, none, none, none] rfl) (show wX7_villages l E 0 [some (.ref (E.2.1 19)), some (.int v1), none, none, none] [] μ (pX7_villages v1 μ) from ?_)
  unfold pX7_villages
  refine pb_iload_n 1 dX7_villages_0 rfl rfl rfl ?_
  refine pb_i2l 2 dX7_villages_1 rfl ?_
  refine pb_lconst 3 (v := 1) dX7_villages_2 rfl (by decide) ?_
  refine pb_ldc2 6 kc_X7_226 dX7_villages_3 rfl ?_
  refine cl_X7_in 9 ⟨by decide, by decide, by decide, by decide⟩ (Nat.le_of_ble_eq_true rfl) ml_X7_47 dX7_villages_6 rfl (fun b6 μ6 => ?_)
  refine pb_if_ne 12 (tgt := 15) dX7_villages_9 (by decide) rfl (fun _ => ?_) (fun _ => ?_)
  · refine pb_bipush 14 (v := -2) dX7_villages_12 rfl (by decide) ?_
    exact pb_iret dX7_villages_14
  · refine pb_aload_n 16 dX7_villages_15 rfl rfl rfl ?_
    refine cl_X7_layTrial 19 ⟨by decide, by decide, by decide, by decide⟩ (Nat.le_of_ble_eq_true rfl) ml_X7_153 dX7_villages_16 rfl (fun b16 μ16 => ?_)
    refine pb_iconst 20 (v := 0) dX7_villages_19 rfl (by decide) ?_
    refine pb_istore_n 21 (i := 2) (L' := [some (.ref (E.2.1 19)), some (.int v1), some (.int (0 : Int32)), none, none]) dX7_villages_20 rfl (by decide) rfl rfl rfl ?_
    refine tX7_villages_L21 l E v1 (fun μk152 => ?_) pb_F (0 : Int32) μ16
    refine pb_aload_n 153 dX7_villages_152 rfl rfl rfl ?_
    refine pb_iconst 154 (v := 1) dX7_villages_153 rfl (by decide) ?_
    refine cl_X7_allOwed 157 ⟨by decide, by decide, by decide, by decide⟩ (Nat.le_of_ble_eq_true rfl) ml_X7_232 dX7_villages_154 rfl (fun b154 μ154 => ?_)
    exact pb_iret dX7_villages_157
theorem mc_X7_villages : pb_MC yX7_villages cX7_villages 5 (some .int) 1 := ⟨pb_inW 1118 (by decide +kernel) (by decide +kernel), pb_inW 68 (by decide +kernel) (by decide +kernel), by decide +kernel, by decide +kernel, by decide +kernel⟩
theorem mi_X7_villages : Cond.instanceMethod yX7_villages ∈ pb_gw := pb_inW 1116 (by decide +kernel) (by decide +kernel)
theorem ms_X7_villages : Cond.selects (yX7_villages).cls yX7_villages yX7_villages ∈ pb_gw := pb_inW 1117 (by decide +kernel) (by decide +kernel)
theorem cl_X7_villages {α : Type} {l : Launch} {E : pb_E} {R : Room} {own : String} {cc : ByteArray} {mL : Nat} {ret : Option FieldType} {Xs : State → Prop} {nc ns : Nat} {Qf : State → Array Value → List Frame → α → pb_M → State → Prop} {pc : Nat} {L : List (Option Value)} {S : List Value} {μ : pb_M} {f : Int32 → pb_M → Option (α × pb_M)} {v1 : Int32} {index : Nat} (q : Nat)  (hR : 3 + 1 ≤ R.frames ∧ 8 + (5 + 11) + 71 ≤ R.locals ∧ nc ≤ R.cells ∧ ns ≤ R.slots) (hW : (S.map fun v => v.category).sum ≤ 8) (hl1 : Cond.methodLink own index yX7_villages ∈ pb_gw) (hdg : decode cc pc = .ok (.invokevirtual index, 3)) (hq : pc + 3 = q) (k : ∀ b1 μ1, pb_RW l E R own cc mL ret Xs nc ns Qf q L (.int b1 :: S) μ1 (f b1 μ1)) : pb_RW l E R own cc mL ret Xs nc ns Qf pc L (.int v1 :: .ref (E.2.1 19) :: S) μ (pb_b (pX7_villages v1 μ) f) := pb_callV q (fun z : Int32 => some (.int z)) mc_X7_villages mi_X7_villages ms_X7_villages (fun b1 μ1 h => evX7_villages l E v1  μ b1 μ1 h) rfl (by decide) rfl rfl rfl rfl hR rfl hW hl1 hdg hq k
theorem fl_X7_38 : Cond.fieldLink RX7 38 (TX7 21).1 (TX7 21).2.1 (TX7 21).2.2.1 ∈ pb_gw := pb_inW 805 (by decide +kernel) (by decide +kernel)
def pX7_keep_L21 (v1 : Int32) : Nat → Int32 → pb_M → Option (Int32 × pb_M)
  | 0, _, _ => none
  | n + 1, v2, μ =>
    if (45 : Int32) ≤ v2 then
      some ((μ.1 21 44), μ)
    else
    if pb_in v2 90 then
      if pb_in (((45 : Int32) * v1) + v2) 90 then
        pX7_keep_L21 v1 n (v2 + (1 : Int32)) (pb_sA μ 29 (upd (μ.1 29) ((((45 : Int32) * v1) + v2)).toNatClampNeg (μ.1 21 (v2).toNatClampNeg)))
      else none
    else none
def pX7_keep (v1 : Int32) (μ : pb_M) : Option (Int32 × pb_M) :=
  pb_b (pX7_in (v1).toInt64 (0 : Int64) (1 : Int64) μ) (fun b4 μ4 =>
  if b4 = (0 : Int32) then
    some ((-1 : Int32), μ4)
  else
  if pb_in v1 2 then
    pX7_keep_L21 v1 pb_F (0 : Int32) (pb_sA μ4 28 (upd (μ4.1 28) (v1).toNatClampNeg (1 : Int32)))
  else none)
abbrev wX7_keep (l : Launch) (E : pb_E) := pb_RW l E { frames := 1, cells := 0, slots := 0, locals := 25 } RX7 cX7_keep 3 (some .int) (fun _ => True) 0 0 (pb_Qf E (fun z : Int32 => some (.int z)))
set_option maxRecDepth 100000 in
set_option maxHeartbeats 4000000 in
theorem tX7_keep_L21 (l : Launch) (E : pb_E) (v1 : Int32)   : ∀ (n : Nat) (v2 : Int32) (μ : pb_M), wX7_keep l E 21 [some (.ref (E.2.1 19)), some (.int v1), some (.int v2)] [] μ (pX7_keep_L21 v1 n v2 μ) := by
  intro n
  induction n with
  | zero => intro v2 μ; exact pb_none
  | succ n ih =>
    intro v2 μ
    rw [pX7_keep_L21]
    refine pb_iload_n 22 dX7_keep_21 rfl rfl rfl ?_
    refine pb_bipush 24 (v := 45) dX7_keep_22 rfl (by decide) ?_
    refine pb_icmp_ge 27 (tgt := 50) dX7_keep_24 (by decide) rfl (fun _ => ?_) (fun _ => ?_)
    · refine pb_aload_n 51 dX7_keep_50 rfl rfl rfl ?_
      refine pb_getR 54 (j := 3) (d := 21) in_X7 rfl (by decide) rfl rfl (by decide) fl_X7_13 dX7_keep_51 rfl ?_
      refine pb_bipush 56 (v := 44) dX7_keep_54 rfl (by decide) ?_
      refine pb_iald 57 (j := 44) rfl (by decide) (by decide) dX7_keep_56 rfl ?_
      exact pb_iret dX7_keep_57
    · refine pb_aload_n 28 dX7_keep_27 rfl rfl rfl ?_
      refine pb_getR 31 (j := 21) (d := 29) in_X7 rfl (by decide) rfl rfl (by decide) fl_X7_38 dX7_keep_28 rfl ?_
      refine pb_bipush 33 (v := 45) dX7_keep_31 rfl (by decide) ?_
      refine pb_iload_n 34 dX7_keep_33 rfl rfl rfl ?_
      refine pb_imul 35 dX7_keep_34 rfl ?_
      refine pb_iload_n 36 dX7_keep_35 rfl rfl rfl ?_
      refine pb_iadd 37 dX7_keep_36 rfl ?_
      refine pb_aload_n 38 dX7_keep_37 rfl rfl rfl ?_
      refine pb_getR 41 (j := 3) (d := 21) in_X7 rfl (by decide) rfl rfl (by decide) fl_X7_13 dX7_keep_38 rfl ?_
      refine pb_iload_n 42 dX7_keep_41 rfl rfl rfl ?_
      refine pb_guard (fun hin => pb_iald 43 rfl hin rfl dX7_keep_42 rfl ?_)
      refine pb_guard (fun hin => pb_iast 44 rfl hin rfl dX7_keep_43 rfl ?_)
      refine pb_iinc 47 (i := 2) (v := (v2 + (1 : Int32))) (L' := [some (.ref (E.2.1 19)), some (.int v1), some (.int (v2 + (1 : Int32)))]) dX7_keep_44 rfl rfl (by decide) rfl rfl rfl ?_
      refine pb_goto (tgt := 21) dX7_keep_47 (by decide) ?_
      exact ih (v2 + (1 : Int32)) (pb_sA μ 29 (upd (μ.1 29) ((((45 : Int32) * v1) + v2)).toNatClampNeg (μ.1 21 (v2).toNatClampNeg)))
set_option maxRecDepth 100000 in
set_option maxHeartbeats 4000000 in
theorem evX7_keep (l : Launch) (E : pb_E) (v1 : Int32)  (μ : pb_M) : ∀ b μ', pX7_keep v1 μ = some (b, μ') → pb_Ev l E yX7_keep cX7_keep 3 (some .int) { frames := 1, cells := 0, slots := 0, locals := 25 } [.ref (E.2.1 19), .int v1] μ ((fun z : Int32 => some (.int z)) b) μ' := by
  refine pb_enter (L := [some (.ref (E.2.1 19)), some (.int v1), none]) (by decide +kernel) (Nat.le_of_ble_eq_true rfl) (pb_same [none, none, none] rfl) (show wX7_keep l E 0 [some (.ref (E.2.1 19)), some (.int v1), none] [] μ (pX7_keep v1 μ) from ?_)
  unfold pX7_keep
  refine pb_iload_n 1 dX7_keep_0 rfl rfl rfl ?_
  refine pb_i2l 2 dX7_keep_1 rfl ?_
  refine pb_lconst 3 (v := 0) dX7_keep_2 rfl (by decide) ?_
  refine pb_lconst 4 (v := 1) dX7_keep_3 rfl (by decide) ?_
  refine cl_X7_in 7 ⟨by decide, by decide, by decide, by decide⟩ (Nat.le_of_ble_eq_true rfl) ml_X7_47 dX7_keep_4 rfl (fun b4 μ4 => ?_)
  refine pb_if_ne 10 (tgt := 12) dX7_keep_7 (by decide) rfl (fun _ => ?_) (fun _ => ?_)
  · refine pb_iconst 11 (v := -1) dX7_keep_10 rfl (by decide) ?_
    exact pb_iret dX7_keep_11
  · refine pb_aload_n 13 dX7_keep_12 rfl rfl rfl ?_
    refine pb_getR 16 (j := 20) (d := 28) in_X7 rfl (by decide) rfl rfl (by decide) fl_X7_34 dX7_keep_13 rfl ?_
    refine pb_iload_n 17 dX7_keep_16 rfl rfl rfl ?_
    refine pb_iconst 18 (v := 1) dX7_keep_17 rfl (by decide) ?_
    refine pb_guard (fun hin => pb_zast 19 rfl hin rfl (by decide) dX7_keep_18 rfl ?_)
    refine pb_iconst 20 (v := 0) dX7_keep_19 rfl (by decide) ?_
    refine pb_istore_n 21 (i := 2) (L' := [some (.ref (E.2.1 19)), some (.int v1), some (.int (0 : Int32))]) dX7_keep_20 rfl (by decide) rfl rfl rfl ?_
    exact tX7_keep_L21 l E v1 pb_F (0 : Int32) (pb_sA μ4 28 (upd (μ4.1 28) (v1).toNatClampNeg (1 : Int32)))
theorem mc_X7_keep : pb_MC yX7_keep cX7_keep 3 (some .int) 1 := ⟨pb_inW 1129 (by decide +kernel) (by decide +kernel), pb_inW 68 (by decide +kernel) (by decide +kernel), by decide +kernel, by decide +kernel, by decide +kernel⟩
theorem mi_X7_keep : Cond.instanceMethod yX7_keep ∈ pb_gw := pb_inW 1127 (by decide +kernel) (by decide +kernel)
theorem ms_X7_keep : Cond.selects (yX7_keep).cls yX7_keep yX7_keep ∈ pb_gw := pb_inW 1128 (by decide +kernel) (by decide +kernel)
theorem cl_X7_keep {α : Type} {l : Launch} {E : pb_E} {R : Room} {own : String} {cc : ByteArray} {mL : Nat} {ret : Option FieldType} {Xs : State → Prop} {nc ns : Nat} {Qf : State → Array Value → List Frame → α → pb_M → State → Prop} {pc : Nat} {L : List (Option Value)} {S : List Value} {μ : pb_M} {f : Int32 → pb_M → Option (α × pb_M)} {v1 : Int32} {index : Nat} (q : Nat)  (hR : 1 + 1 ≤ R.frames ∧ 8 + (3 + 11) + 25 ≤ R.locals ∧ nc ≤ R.cells ∧ ns ≤ R.slots) (hW : (S.map fun v => v.category).sum ≤ 8) (hl1 : Cond.methodLink own index yX7_keep ∈ pb_gw) (hdg : decode cc pc = .ok (.invokevirtual index, 3)) (hq : pc + 3 = q) (k : ∀ b1 μ1, pb_RW l E R own cc mL ret Xs nc ns Qf q L (.int b1 :: S) μ1 (f b1 μ1)) : pb_RW l E R own cc mL ret Xs nc ns Qf pc L (.int v1 :: .ref (E.2.1 19) :: S) μ (pb_b (pX7_keep v1 μ) f) := pb_callV q (fun z : Int32 => some (.int z)) mc_X7_keep mi_X7_keep ms_X7_keep (fun b1 μ1 h => evX7_keep l E v1  μ b1 μ1 h) rfl (by decide) rfl rfl rfl rfl hR rfl hW hl1 hdg hq k
def pX7_again_L26 (v1 : Int32) : Nat → Int32 → pb_M → Option (Int32 × pb_M)
  | 0, _, _ => none
  | n + 1, v2, μ =>
    if (45 : Int32) ≤ v2 then
      some (((pb_sA μ 19 (upd (μ.1 19) 12 (0 : Int32))).1 21 44), (pb_sA μ 19 (upd (μ.1 19) 12 (0 : Int32))))
    else
    if pb_in (((45 : Int32) * v1) + v2) 90 then
      if pb_in v2 90 then
        pX7_again_L26 v1 n (v2 + (1 : Int32)) (pb_sA μ 21 (upd (μ.1 21) (v2).toNatClampNeg (μ.1 29 ((((45 : Int32) * v1) + v2)).toNatClampNeg)))
      else none
    else none
def pX7_again (v1 : Int32) (μ : pb_M) : Option (Int32 × pb_M) :=
  pb_b (pX7_in (v1).toInt64 (0 : Int64) (1 : Int64) μ) (fun b4 μ4 =>
  if b4 = (0 : Int32) then
    some ((-1 : Int32), μ4)
  else
  if pb_in v1 2 then
    if (μ4.1 28 (v1).toNatClampNeg) = (0 : Int32) then
      some ((-3 : Int32), μ4)
    else
    pX7_again_L26 v1 pb_F (0 : Int32) μ4
  else none)
abbrev wX7_again (l : Launch) (E : pb_E) := pb_RW l E { frames := 1, cells := 0, slots := 0, locals := 25 } RX7 cX7_again 3 (some .int) (fun _ => True) 0 0 (pb_Qf E (fun z : Int32 => some (.int z)))
set_option maxRecDepth 100000 in
set_option maxHeartbeats 4000000 in
theorem tX7_again_L26 (l : Launch) (E : pb_E) (v1 : Int32)   : ∀ (n : Nat) (v2 : Int32) (μ : pb_M), wX7_again l E 26 [some (.ref (E.2.1 19)), some (.int v1), some (.int v2)] [] μ (pX7_again_L26 v1 n v2 μ) := by
  intro n
  induction n with
  | zero => intro v2 μ; exact pb_none
  | succ n ih =>
    intro v2 μ
    rw [pX7_again_L26]
    refine pb_iload_n 27 dX7_again_26 rfl rfl rfl ?_
    refine pb_bipush 29 (v := 45) dX7_again_27 rfl (by decide) ?_
    refine pb_icmp_ge 32 (tgt := 55) dX7_again_29 (by decide) rfl (fun _ => ?_) (fun _ => ?_)
    · refine pb_aload_n 56 dX7_again_55 rfl rfl rfl ?_
      refine pb_iconst 57 (v := 0) dX7_again_56 rfl (by decide) ?_
      refine pb_putI 60 (j := 12) tyX7 tyX7_ok nmX7 in_X7 rfl (by decide) rfl rfl (by decide) fl_X7_97 rfl (by decide +kernel) dX7_again_57 rfl ?_
      refine pb_aload_n 61 dX7_again_60 rfl rfl rfl ?_
      refine pb_getR 64 (j := 3) (d := 21) in_X7 rfl (by decide) rfl rfl (by decide) fl_X7_13 dX7_again_61 rfl ?_
      refine pb_bipush 66 (v := 44) dX7_again_64 rfl (by decide) ?_
      refine pb_iald 67 (j := 44) rfl (by decide) (by decide) dX7_again_66 rfl ?_
      exact pb_iret dX7_again_67
    · refine pb_aload_n 33 dX7_again_32 rfl rfl rfl ?_
      refine pb_getR 36 (j := 3) (d := 21) in_X7 rfl (by decide) rfl rfl (by decide) fl_X7_13 dX7_again_33 rfl ?_
      refine pb_iload_n 37 dX7_again_36 rfl rfl rfl ?_
      refine pb_aload_n 38 dX7_again_37 rfl rfl rfl ?_
      refine pb_getR 41 (j := 21) (d := 29) in_X7 rfl (by decide) rfl rfl (by decide) fl_X7_38 dX7_again_38 rfl ?_
      refine pb_bipush 43 (v := 45) dX7_again_41 rfl (by decide) ?_
      refine pb_iload_n 44 dX7_again_43 rfl rfl rfl ?_
      refine pb_imul 45 dX7_again_44 rfl ?_
      refine pb_iload_n 46 dX7_again_45 rfl rfl rfl ?_
      refine pb_iadd 47 dX7_again_46 rfl ?_
      refine pb_guard (fun hin => pb_iald 48 rfl hin rfl dX7_again_47 rfl ?_)
      refine pb_guard (fun hin => pb_iast 49 rfl hin rfl dX7_again_48 rfl ?_)
      refine pb_iinc 52 (i := 2) (v := (v2 + (1 : Int32))) (L' := [some (.ref (E.2.1 19)), some (.int v1), some (.int (v2 + (1 : Int32)))]) dX7_again_49 rfl rfl (by decide) rfl rfl rfl ?_
      refine pb_goto (tgt := 26) dX7_again_52 (by decide) ?_
      exact ih (v2 + (1 : Int32)) (pb_sA μ 21 (upd (μ.1 21) (v2).toNatClampNeg (μ.1 29 ((((45 : Int32) * v1) + v2)).toNatClampNeg)))
set_option maxRecDepth 100000 in
set_option maxHeartbeats 4000000 in
theorem evX7_again (l : Launch) (E : pb_E) (v1 : Int32)  (μ : pb_M) : ∀ b μ', pX7_again v1 μ = some (b, μ') → pb_Ev l E yX7_again cX7_again 3 (some .int) { frames := 1, cells := 0, slots := 0, locals := 25 } [.ref (E.2.1 19), .int v1] μ ((fun z : Int32 => some (.int z)) b) μ' := by
  refine pb_enter (L := [some (.ref (E.2.1 19)), some (.int v1), none]) (by decide +kernel) (Nat.le_of_ble_eq_true rfl) (pb_same [none, none, none] rfl) (show wX7_again l E 0 [some (.ref (E.2.1 19)), some (.int v1), none] [] μ (pX7_again v1 μ) from ?_)
  unfold pX7_again
  refine pb_iload_n 1 dX7_again_0 rfl rfl rfl ?_
  refine pb_i2l 2 dX7_again_1 rfl ?_
  refine pb_lconst 3 (v := 0) dX7_again_2 rfl (by decide) ?_
  refine pb_lconst 4 (v := 1) dX7_again_3 rfl (by decide) ?_
  refine cl_X7_in 7 ⟨by decide, by decide, by decide, by decide⟩ (Nat.le_of_ble_eq_true rfl) ml_X7_47 dX7_again_4 rfl (fun b4 μ4 => ?_)
  refine pb_if_ne 10 (tgt := 12) dX7_again_7 (by decide) rfl (fun _ => ?_) (fun _ => ?_)
  · refine pb_iconst 11 (v := -1) dX7_again_10 rfl (by decide) ?_
    exact pb_iret dX7_again_11
  · refine pb_aload_n 13 dX7_again_12 rfl rfl rfl ?_
    refine pb_getR 16 (j := 20) (d := 28) in_X7 rfl (by decide) rfl rfl (by decide) fl_X7_34 dX7_again_13 rfl ?_
    refine pb_iload_n 17 dX7_again_16 rfl rfl rfl ?_
    refine pb_guard (fun hin => pb_zald 18 rfl hin rfl dX7_again_17 rfl ?_)
    refine pb_if_ne 21 (tgt := 24) dX7_again_18 (by decide) rfl (fun _ => ?_) (fun _ => ?_)
    · refine pb_bipush 23 (v := -3) dX7_again_21 rfl (by decide) ?_
      exact pb_iret dX7_again_23
    · refine pb_iconst 25 (v := 0) dX7_again_24 rfl (by decide) ?_
      refine pb_istore_n 26 (i := 2) (L' := [some (.ref (E.2.1 19)), some (.int v1), some (.int (0 : Int32))]) dX7_again_25 rfl (by decide) rfl rfl rfl ?_
      exact tX7_again_L26 l E v1 pb_F (0 : Int32) μ4
theorem mc_X7_again : pb_MC yX7_again cX7_again 3 (some .int) 1 := ⟨pb_inW 1133 (by decide +kernel) (by decide +kernel), pb_inW 68 (by decide +kernel) (by decide +kernel), by decide +kernel, by decide +kernel, by decide +kernel⟩
theorem mi_X7_again : Cond.instanceMethod yX7_again ∈ pb_gw := pb_inW 1131 (by decide +kernel) (by decide +kernel)
theorem ms_X7_again : Cond.selects (yX7_again).cls yX7_again yX7_again ∈ pb_gw := pb_inW 1132 (by decide +kernel) (by decide +kernel)
theorem cl_X7_again {α : Type} {l : Launch} {E : pb_E} {R : Room} {own : String} {cc : ByteArray} {mL : Nat} {ret : Option FieldType} {Xs : State → Prop} {nc ns : Nat} {Qf : State → Array Value → List Frame → α → pb_M → State → Prop} {pc : Nat} {L : List (Option Value)} {S : List Value} {μ : pb_M} {f : Int32 → pb_M → Option (α × pb_M)} {v1 : Int32} {index : Nat} (q : Nat)  (hR : 1 + 1 ≤ R.frames ∧ 8 + (3 + 11) + 25 ≤ R.locals ∧ nc ≤ R.cells ∧ ns ≤ R.slots) (hW : (S.map fun v => v.category).sum ≤ 8) (hl1 : Cond.methodLink own index yX7_again ∈ pb_gw) (hdg : decode cc pc = .ok (.invokevirtual index, 3)) (hq : pc + 3 = q) (k : ∀ b1 μ1, pb_RW l E R own cc mL ret Xs nc ns Qf q L (.int b1 :: S) μ1 (f b1 μ1)) : pb_RW l E R own cc mL ret Xs nc ns Qf pc L (.int v1 :: .ref (E.2.1 19) :: S) μ (pb_b (pX7_again v1 μ) f) := pb_callV q (fun z : Int32 => some (.int z)) mc_X7_again mi_X7_again ms_X7_again (fun b1 μ1 h => evX7_again l E v1  μ b1 μ1 h) rfl (by decide) rfl rfl rfl rfl hR rfl hW hl1 hdg hq k
def pX7_count_L4 (v1 : Int32) (K40 : Int32 → pb_M → Option (Int32 × pb_M)) : Nat → Int32 → Int32 → pb_M → Option (Int32 × pb_M)
  | 0, _, _, _ => none
  | n + 1, v2, v3, μ =>
    if (μ.1 19 1) ≤ v3 then
      K40 v2 μ
    else
    if pb_in ((13 : Int32) + v3) 90 then
      if (μ.1 21 (((13 : Int32) + v3)).toNatClampNeg) = (0 : Int32) then
        pX7_count_L4 v1 K40 n (v2 ||| ((1 : Int32) <<< (v3 &&& 31))) (v3 + (1 : Int32)) μ
      else
      pX7_count_L4 v1 K40 n (v2 ||| (0 : Int32)) (v3 + (1 : Int32)) μ
    else none
def pX7_count (v1 : Int32) (μ : pb_M) : Option (Int32 × pb_M) :=
  pX7_count_L4 v1 (fun x2k40 μk40 =>
    if v1 = (0 : Int32) then
      some ((μk40.1 19 9), μk40)
    else
    if v1 = (1 : Int32) then
      some ((μk40.1 19 0), μk40)
    else
    if v1 = (2 : Int32) then
      some ((μk40.1 19 1), μk40)
    else
    if v1 = (3 : Int32) then
      some ((μk40.1 21 44), μk40)
    else
    if v1 = (4 : Int32) then
      pb_b (pX7_shutNow μk40) (fun b112 μ112 =>
      some (b112, μ112))
    else
    if v1 = (5 : Int32) then
      some (x2k40, μk40)
    else
    if v1 = (6 : Int32) then
      pb_b (pX7_allOwed (0 : Int32) μk40) (fun b120 μ120 =>
      some (b120, μ120))
    else
    if v1 = (7 : Int32) then
      some ((μk40.1 19 12), μk40)
    else
    some ((-2 : Int32), μk40)) pb_F (0 : Int32) (0 : Int32) μ
abbrev wX7_count (l : Launch) (E : pb_E) := pb_RW l E { frames := 2, cells := 0, slots := 0, locals := 44 } RX7 cX7_count 4 (some .int) (fun _ => True) 0 0 (pb_Qf E (fun z : Int32 => some (.int z)))
set_option maxRecDepth 100000 in
set_option maxHeartbeats 4000000 in
theorem tX7_count_L4 (l : Launch) (E : pb_E) (v1 : Int32) {K40 : Int32 → pb_M → Option (Int32 × pb_M)} (hK40 : ∀ (w2 : Int32) (μ : pb_M), wX7_count l E 40 [some (.ref (E.2.1 19)), some (.int v1), some (.int w2), none] [] μ (K40 w2 μ)) : ∀ (n : Nat) (v2 : Int32) (v3 : Int32) (μ : pb_M), wX7_count l E 4 [some (.ref (E.2.1 19)), some (.int v1), some (.int v2), some (.int v3)] [] μ (pX7_count_L4 v1 K40 n v2 v3 μ) := by
  intro n
  induction n with
  | zero => intro v2 v3 μ; exact pb_none
  | succ n ih =>
    intro v2 v3 μ
    rw [pX7_count_L4]
    refine pb_iload_n 5 dX7_count_4 rfl rfl rfl ?_
    refine pb_aload_n 6 dX7_count_5 rfl rfl rfl ?_
    refine pb_getI 9 (j := 1) in_X7 rfl (by decide) rfl rfl (by decide) fl_X7_94 dX7_count_6 rfl ?_
    refine pb_icmp_ge 12 (tgt := 40) dX7_count_9 (by decide) rfl (fun _ => ?_) (fun _ => ?_)
    · refine pb_weakM (L' := [some (.ref (E.2.1 19)), some (.int v1), some (.int v2), none]) [true, true, true, false] rfl ?_
      exact hK40 v2 μ
    · refine pb_iload_n 13 dX7_count_12 rfl rfl rfl ?_
      refine pb_aload_n 14 dX7_count_13 rfl rfl rfl ?_
      refine pb_getR 17 (j := 3) (d := 21) in_X7 rfl (by decide) rfl rfl (by decide) fl_X7_13 dX7_count_14 rfl ?_
      refine pb_bipush 19 (v := 13) dX7_count_17 rfl (by decide) ?_
      refine pb_iload_n 20 dX7_count_19 rfl rfl rfl ?_
      refine pb_iadd 21 dX7_count_20 rfl ?_
      refine pb_guard (fun hin => pb_iald 22 rfl hin rfl dX7_count_21 rfl ?_)
      refine pb_if_ne 25 (tgt := 31) dX7_count_22 (by decide) rfl (fun _ => ?_) (fun _ => ?_)
      · refine pb_iconst 26 (v := 1) dX7_count_25 rfl (by decide) ?_
        refine pb_iload_n 27 dX7_count_26 rfl rfl rfl ?_
        refine pb_ishl 28 dX7_count_27 rfl ?_
        refine pb_goto (tgt := 32) dX7_count_28 (by decide) ?_
        refine pb_ior 33 dX7_count_32 rfl ?_
        refine pb_istore_n 34 (i := 2) (L' := [some (.ref (E.2.1 19)), some (.int v1), some (.int (v2 ||| ((1 : Int32) <<< (v3 &&& 31)))), some (.int v3)]) dX7_count_33 rfl (by decide) rfl rfl rfl ?_
        refine pb_iinc 37 (i := 3) (v := (v3 + (1 : Int32))) (L' := [some (.ref (E.2.1 19)), some (.int v1), some (.int (v2 ||| ((1 : Int32) <<< (v3 &&& 31)))), some (.int (v3 + (1 : Int32)))]) dX7_count_34 rfl rfl (by decide) rfl rfl rfl ?_
        refine pb_goto (tgt := 4) dX7_count_37 (by decide) ?_
        exact ih (v2 ||| ((1 : Int32) <<< (v3 &&& 31))) (v3 + (1 : Int32)) μ
      · refine pb_iconst 32 (v := 0) dX7_count_31 rfl (by decide) ?_
        refine pb_ior 33 dX7_count_32 rfl ?_
        refine pb_istore_n 34 (i := 2) (L' := [some (.ref (E.2.1 19)), some (.int v1), some (.int (v2 ||| (0 : Int32))), some (.int v3)]) dX7_count_33 rfl (by decide) rfl rfl rfl ?_
        refine pb_iinc 37 (i := 3) (v := (v3 + (1 : Int32))) (L' := [some (.ref (E.2.1 19)), some (.int v1), some (.int (v2 ||| (0 : Int32))), some (.int (v3 + (1 : Int32)))]) dX7_count_34 rfl rfl (by decide) rfl rfl rfl ?_
        refine pb_goto (tgt := 4) dX7_count_37 (by decide) ?_
        exact ih (v2 ||| (0 : Int32)) (v3 + (1 : Int32)) μ
set_option maxRecDepth 100000 in
set_option maxHeartbeats 4000000 in
theorem evX7_count (l : Launch) (E : pb_E) (v1 : Int32)  (μ : pb_M) : ∀ b μ', pX7_count v1 μ = some (b, μ') → pb_Ev l E yX7_count cX7_count 4 (some .int) { frames := 2, cells := 0, slots := 0, locals := 44 } [.ref (E.2.1 19), .int v1] μ ((fun z : Int32 => some (.int z)) b) μ' := by
  refine pb_enter (L := [some (.ref (E.2.1 19)), some (.int v1), none, none]) (by decide +kernel) (Nat.le_of_ble_eq_true rfl) (pb_same [none, none, none, none] rfl) (show wX7_count l E 0 [some (.ref (E.2.1 19)), some (.int v1), none, none] [] μ (pX7_count v1 μ) from ?_)
  unfold pX7_count
  refine pb_iconst 1 (v := 0) dX7_count_0 rfl (by decide) ?_
  refine pb_istore_n 2 (i := 2) (L' := [some (.ref (E.2.1 19)), some (.int v1), some (.int (0 : Int32)), none]) dX7_count_1 rfl (by decide) rfl rfl rfl ?_
  refine pb_iconst 3 (v := 0) dX7_count_2 rfl (by decide) ?_
  refine pb_istore_n 4 (i := 3) (L' := [some (.ref (E.2.1 19)), some (.int v1), some (.int (0 : Int32)), some (.int (0 : Int32))]) dX7_count_3 rfl (by decide) rfl rfl rfl ?_
  refine tX7_count_L4 l E v1 (fun x2k40 μk40 => ?_) pb_F (0 : Int32) (0 : Int32) μ
  refine pb_iload_n 41 dX7_count_40 rfl rfl rfl ?_
  refine pb_ite (fun c0 => ?_) (fun c0 => ?_)
  · refine pb_tableK (tgt := 88) 0 c0 dX7_count_41 (by decide) (by decide) (by rfl) (by decide) ?_
    refine pb_aload_n 89 dX7_count_88 rfl rfl rfl ?_
    refine pb_getI 92 (j := 9) in_X7 rfl (by decide) rfl rfl (by decide) fl_X7_51 dX7_count_89 rfl ?_
    exact pb_iret dX7_count_92
  · refine pb_ite (fun c1 => ?_) (fun c1 => ?_)
    · refine pb_tableK (tgt := 93) 1 c1 dX7_count_41 (by decide) (by decide) (by rfl) (by decide) ?_
      refine pb_aload_n 94 dX7_count_93 rfl rfl rfl ?_
      refine pb_getI 97 (j := 0) in_X7 rfl (by decide) rfl rfl (by decide) fl_X7_41 dX7_count_94 rfl ?_
      exact pb_iret dX7_count_97
    · refine pb_ite (fun c2 => ?_) (fun c2 => ?_)
      · refine pb_tableK (tgt := 98) 2 c2 dX7_count_41 (by decide) (by decide) (by rfl) (by decide) ?_
        refine pb_aload_n 99 dX7_count_98 rfl rfl rfl ?_
        refine pb_getI 102 (j := 1) in_X7 rfl (by decide) rfl rfl (by decide) fl_X7_94 dX7_count_99 rfl ?_
        exact pb_iret dX7_count_102
      · refine pb_ite (fun c3 => ?_) (fun c3 => ?_)
        · refine pb_tableK (tgt := 103) 3 c3 dX7_count_41 (by decide) (by decide) (by rfl) (by decide) ?_
          refine pb_aload_n 104 dX7_count_103 rfl rfl rfl ?_
          refine pb_getR 107 (j := 3) (d := 21) in_X7 rfl (by decide) rfl rfl (by decide) fl_X7_13 dX7_count_104 rfl ?_
          refine pb_bipush 109 (v := 44) dX7_count_107 rfl (by decide) ?_
          refine pb_iald 110 (j := 44) rfl (by decide) (by decide) dX7_count_109 rfl ?_
          exact pb_iret dX7_count_110
        · refine pb_ite (fun c4 => ?_) (fun c4 => ?_)
          · refine pb_tableK (tgt := 111) 4 c4 dX7_count_41 (by decide) (by decide) (by rfl) (by decide) ?_
            refine pb_aload_n 112 dX7_count_111 rfl rfl rfl ?_
            refine cl_X7_shutNow 115 ⟨by decide, by decide, by decide, by decide⟩ (Nat.le_of_ble_eq_true rfl) ml_X7_138 dX7_count_112 rfl (fun b112 μ112 => ?_)
            exact pb_iret dX7_count_115
          · refine pb_ite (fun c5 => ?_) (fun c5 => ?_)
            · refine pb_tableK (tgt := 116) 5 c5 dX7_count_41 (by decide) (by decide) (by rfl) (by decide) ?_
              refine pb_iload_n 117 dX7_count_116 rfl rfl rfl ?_
              exact pb_iret dX7_count_117
            · refine pb_ite (fun c6 => ?_) (fun c6 => ?_)
              · refine pb_tableK (tgt := 118) 6 c6 dX7_count_41 (by decide) (by decide) (by rfl) (by decide) ?_
                refine pb_aload_n 119 dX7_count_118 rfl rfl rfl ?_
                refine pb_iconst 120 (v := 0) dX7_count_119 rfl (by decide) ?_
                refine cl_X7_allOwed 123 ⟨by decide, by decide, by decide, by decide⟩ (Nat.le_of_ble_eq_true rfl) ml_X7_232 dX7_count_120 rfl (fun b120 μ120 => ?_)
                exact pb_iret dX7_count_123
              · refine pb_ite (fun c7 => ?_) (fun c7 => ?_)
                · refine pb_tableK (tgt := 124) 7 c7 dX7_count_41 (by decide) (by decide) (by rfl) (by decide) ?_
                  refine pb_aload_n 125 dX7_count_124 rfl rfl rfl ?_
                  refine pb_getI 128 (j := 12) in_X7 rfl (by decide) rfl rfl (by decide) fl_X7_97 dX7_count_125 rfl ?_
                  exact pb_iret dX7_count_128
                · refine pb_tableD (tgt := 129) dX7_count_41 (by have e0 := lv_neT (a := 0) c0 (by decide); have e1 := lv_neT (a := 1) c1 (by decide); have e2 := lv_neT (a := 2) c2 (by decide); have e3 := lv_neT (a := 3) c3 (by decide); have e4 := lv_neT (a := 4) c4 (by decide); have e5 := lv_neT (a := 5) c5 (by decide); have e6 := lv_neT (a := 6) c6 (by decide); have e7 := lv_neT (a := 7) c7 (by decide); omega) (by decide) ?_
                  refine pb_bipush 131 (v := -2) dX7_count_129 rfl (by decide) ?_
                  exact pb_iret dX7_count_131
theorem mc_X7_count : pb_MC yX7_count cX7_count 4 (some .int) 1 := ⟨pb_inW 1137 (by decide +kernel) (by decide +kernel), pb_inW 68 (by decide +kernel) (by decide +kernel), by decide +kernel, by decide +kernel, by decide +kernel⟩
theorem mi_X7_count : Cond.instanceMethod yX7_count ∈ pb_gw := pb_inW 1135 (by decide +kernel) (by decide +kernel)
theorem ms_X7_count : Cond.selects (yX7_count).cls yX7_count yX7_count ∈ pb_gw := pb_inW 1136 (by decide +kernel) (by decide +kernel)
theorem cl_X7_count {α : Type} {l : Launch} {E : pb_E} {R : Room} {own : String} {cc : ByteArray} {mL : Nat} {ret : Option FieldType} {Xs : State → Prop} {nc ns : Nat} {Qf : State → Array Value → List Frame → α → pb_M → State → Prop} {pc : Nat} {L : List (Option Value)} {S : List Value} {μ : pb_M} {f : Int32 → pb_M → Option (α × pb_M)} {v1 : Int32} {index : Nat} (q : Nat)  (hR : 2 + 1 ≤ R.frames ∧ 8 + (4 + 11) + 44 ≤ R.locals ∧ nc ≤ R.cells ∧ ns ≤ R.slots) (hW : (S.map fun v => v.category).sum ≤ 8) (hl1 : Cond.methodLink own index yX7_count ∈ pb_gw) (hdg : decode cc pc = .ok (.invokevirtual index, 3)) (hq : pc + 3 = q) (k : ∀ b1 μ1, pb_RW l E R own cc mL ret Xs nc ns Qf q L (.int b1 :: S) μ1 (f b1 μ1)) : pb_RW l E R own cc mL ret Xs nc ns Qf pc L (.int v1 :: .ref (E.2.1 19) :: S) μ (pb_b (pX7_count v1 μ) f) := pb_callV q (fun z : Int32 => some (.int z)) mc_X7_count mi_X7_count ms_X7_count (fun b1 μ1 h => evX7_count l E v1  μ b1 μ1 h) rfl (by decide) rfl rfl rfl rfl hR rfl hW hl1 hdg hq k
def pJ9_max_7cf53 (v0 : Int32) (v1 : Int32) (μ : pb_M) : Option (Int32 × pb_M) :=
  if v0 < v1 then
    some (v1, μ)
  else
  some (v0, μ)
abbrev wJ9_max_7cf53 (l : Launch) (E : pb_E) := pb_RW l E { frames := 0, cells := 0, slots := 0, locals := 0 } RJ9 cJ9_max_7cf53 2 (some .int) (fun _ => True) 0 0 (pb_Qf E (fun z : Int32 => some (.int z)))
set_option maxRecDepth 100000 in
set_option maxHeartbeats 4000000 in
theorem evJ9_max_7cf53 (l : Launch) (E : pb_E) (v0 : Int32) (v1 : Int32)  (μ : pb_M) : ∀ b μ', pJ9_max_7cf53 v0 v1 μ = some (b, μ') → pb_Ev l E yJ9_max_7cf53 cJ9_max_7cf53 2 (some .int) { frames := 0, cells := 0, slots := 0, locals := 0 } [.int v0, .int v1] μ ((fun z : Int32 => some (.int z)) b) μ' := by
  refine pb_enter (L := [some (.int v0), some (.int v1)]) (by decide +kernel) (Nat.le_of_ble_eq_true rfl) (pb_same [none, none] rfl) (show wJ9_max_7cf53 l E 0 [some (.int v0), some (.int v1)] [] μ (pJ9_max_7cf53 v0 v1 μ) from ?_)
  unfold pJ9_max_7cf53
  refine pb_iload_n 1 dJ9_max_7cf53_0 rfl rfl rfl ?_
  refine pb_iload_n 2 dJ9_max_7cf53_1 rfl rfl rfl ?_
  refine pb_icmp_lt 5 (tgt := 9) dJ9_max_7cf53_2 (by decide) rfl (fun _ => ?_) (fun _ => ?_)
  · refine pb_iload_n 10 dJ9_max_7cf53_9 rfl rfl rfl ?_
    exact pb_iret dJ9_max_7cf53_10
  · refine pb_iload_n 6 dJ9_max_7cf53_5 rfl rfl rfl ?_
    refine pb_goto (tgt := 10) dJ9_max_7cf53_6 (by decide) ?_
    exact pb_iret dJ9_max_7cf53_10
theorem mc_J9_max_7cf53 : pb_MC yJ9_max_7cf53 cJ9_max_7cf53 2 (some .int) 2 := ⟨pb_inW 455 (by decide +kernel) (by decide +kernel), pb_inW 70 (by decide +kernel) (by decide +kernel), by decide +kernel, by decide +kernel, by decide +kernel⟩
theorem ms_J9_max_7cf53 : Cond.static yJ9_max_7cf53 ∈ pb_gw := pb_inW 454 (by decide +kernel) (by decide +kernel)
theorem cl_J9_max_7cf53 {α : Type} {l : Launch} {E : pb_E} {R : Room} {own : String} {cc : ByteArray} {mL : Nat} {ret : Option FieldType} {Xs : State → Prop} {nc ns : Nat} {Qf : State → Array Value → List Frame → α → pb_M → State → Prop} {pc : Nat} {L : List (Option Value)} {S : List Value} {μ : pb_M} {f : Int32 → pb_M → Option (α × pb_M)} {v0 : Int32} {v1 : Int32} {index : Nat} (q : Nat)  (hR : 0 + 1 ≤ R.frames ∧ 8 + (2 + 11) + 0 ≤ R.locals ∧ nc ≤ R.cells ∧ ns ≤ R.slots) (hW : (S.map fun v => v.category).sum ≤ 8) (hl1 : Cond.methodLink own index yJ9_max_7cf53 ∈ pb_gw) (hdg : decode cc pc = .ok (.invokestatic index, 3)) (hq : pc + 3 = q) (k : ∀ b1 μ1, pb_RW l E R own cc mL ret Xs nc ns Qf q L (.int b1 :: S) μ1 (f b1 μ1)) : pb_RW l E R own cc mL ret Xs nc ns Qf pc L (.int v1 :: .int v0 :: S) μ (pb_b (pJ9_max_7cf53 v0 v1 μ) f) := pb_callS q (fun z : Int32 => some (.int z)) mc_J9_max_7cf53 ms_J9_max_7cf53 (fun b1 μ1 h => evJ9_max_7cf53 l E v0 v1  μ b1 μ1 h) rfl rfl rfl hR rfl hW hl1 hdg hq k
def pJ9_min_7cf53 (v0 : Int32) (v1 : Int32) (μ : pb_M) : Option (Int32 × pb_M) :=
  if v1 < v0 then
    some (v1, μ)
  else
  some (v0, μ)
abbrev wJ9_min_7cf53 (l : Launch) (E : pb_E) := pb_RW l E { frames := 0, cells := 0, slots := 0, locals := 0 } RJ9 cJ9_min_7cf53 2 (some .int) (fun _ => True) 0 0 (pb_Qf E (fun z : Int32 => some (.int z)))
set_option maxRecDepth 100000 in
set_option maxHeartbeats 4000000 in
theorem evJ9_min_7cf53 (l : Launch) (E : pb_E) (v0 : Int32) (v1 : Int32)  (μ : pb_M) : ∀ b μ', pJ9_min_7cf53 v0 v1 μ = some (b, μ') → pb_Ev l E yJ9_min_7cf53 cJ9_min_7cf53 2 (some .int) { frames := 0, cells := 0, slots := 0, locals := 0 } [.int v0, .int v1] μ ((fun z : Int32 => some (.int z)) b) μ' := by
  refine pb_enter (L := [some (.int v0), some (.int v1)]) (by decide +kernel) (Nat.le_of_ble_eq_true rfl) (pb_same [none, none] rfl) (show wJ9_min_7cf53 l E 0 [some (.int v0), some (.int v1)] [] μ (pJ9_min_7cf53 v0 v1 μ) from ?_)
  unfold pJ9_min_7cf53
  refine pb_iload_n 1 dJ9_min_7cf53_0 rfl rfl rfl ?_
  refine pb_iload_n 2 dJ9_min_7cf53_1 rfl rfl rfl ?_
  refine pb_icmp_gt 5 (tgt := 9) dJ9_min_7cf53_2 (by decide) rfl (fun _ => ?_) (fun _ => ?_)
  · refine pb_iload_n 10 dJ9_min_7cf53_9 rfl rfl rfl ?_
    exact pb_iret dJ9_min_7cf53_10
  · refine pb_iload_n 6 dJ9_min_7cf53_5 rfl rfl rfl ?_
    refine pb_goto (tgt := 10) dJ9_min_7cf53_6 (by decide) ?_
    exact pb_iret dJ9_min_7cf53_10
theorem mc_J9_min_7cf53 : pb_MC yJ9_min_7cf53 cJ9_min_7cf53 2 (some .int) 2 := ⟨pb_inW 314 (by decide +kernel) (by decide +kernel), pb_inW 70 (by decide +kernel) (by decide +kernel), by decide +kernel, by decide +kernel, by decide +kernel⟩
theorem ms_J9_min_7cf53 : Cond.static yJ9_min_7cf53 ∈ pb_gw := pb_inW 313 (by decide +kernel) (by decide +kernel)
theorem cl_J9_min_7cf53 {α : Type} {l : Launch} {E : pb_E} {R : Room} {own : String} {cc : ByteArray} {mL : Nat} {ret : Option FieldType} {Xs : State → Prop} {nc ns : Nat} {Qf : State → Array Value → List Frame → α → pb_M → State → Prop} {pc : Nat} {L : List (Option Value)} {S : List Value} {μ : pb_M} {f : Int32 → pb_M → Option (α × pb_M)} {v0 : Int32} {v1 : Int32} {index : Nat} (q : Nat)  (hR : 0 + 1 ≤ R.frames ∧ 8 + (2 + 11) + 0 ≤ R.locals ∧ nc ≤ R.cells ∧ ns ≤ R.slots) (hW : (S.map fun v => v.category).sum ≤ 8) (hl1 : Cond.methodLink own index yJ9_min_7cf53 ∈ pb_gw) (hdg : decode cc pc = .ok (.invokestatic index, 3)) (hq : pc + 3 = q) (k : ∀ b1 μ1, pb_RW l E R own cc mL ret Xs nc ns Qf q L (.int b1 :: S) μ1 (f b1 μ1)) : pb_RW l E R own cc mL ret Xs nc ns Qf pc L (.int v1 :: .int v0 :: S) μ (pb_b (pJ9_min_7cf53 v0 v1 μ) f) := pb_callS q (fun z : Int32 => some (.int z)) mc_J9_min_7cf53 ms_J9_min_7cf53 (fun b1 μ1 h => evJ9_min_7cf53 l E v0 v1  μ b1 μ1 h) rfl rfl rfl hR rfl hW hl1 hdg hq k
