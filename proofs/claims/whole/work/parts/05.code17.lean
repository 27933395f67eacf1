theorem fl_X7_165 : Cond.fieldLink RX7 165 (TX7 15).1 (TX7 15).2.1 (TX7 15).2.2.1 ∈ pb_gw := pb_inW 799 (by decide +kernel) (by decide +kernel)
theorem ml_X7_162 : Cond.methodLink RX7 162 yX7_getBy ∈ pb_gw := pb_inW 1025 (by decide +kernel) (by decide +kernel)
def pX7_mostBy_J45 (v1 : Int32) (S5 : Int32 → Int32 → pb_M → Option (Int32 × pb_M)) (v2 : Int32) (v3 : Int32) (v4 : Int32) (s0 : Int32) (μ : pb_M) : Option (Int32 × pb_M) :=
  if v4 ≤ v2 then
    S5 v2 (v3 + (1 : Int32)) (pb_sA μ 19 (upd (μ.1 19) 15 s0))
  else
  S5 v4 (v3 + (1 : Int32)) (pb_sA μ 19 (upd (μ.1 19) 15 s0))
def pX7_mostBy_L5 (v1 : Int32) : Nat → Int32 → Int32 → pb_M → Option (Int32 × pb_M)
  | 0, _, _, _ => none
  | n + 1, v2, v3, μ =>
    pb_b (pX7_power ((μ.1 19 1) + (1 : Int32)) (μ.1 19 0) μ) (fun b16 μ16 =>
    if b16 ≤ v3 then
      some (v2, μ16)
    else
    pb_b (pX7_getBy v3 v1 μ16) (fun b25 μ25 =>
    if b25 ≤ v2 then
      pX7_mostBy_J45 v1 (pX7_mostBy_L5 v1 n) v2 v3 b25 (μ25.1 19 15) μ25
    else
    pX7_mostBy_J45 v1 (pX7_mostBy_L5 v1 n) v2 v3 b25 v3 μ25))
def pX7_mostBy (v1 : Int32) (μ : pb_M) : Option (Int32 × pb_M) :=
  pX7_mostBy_L5 v1 pb_F (-9 : Int32) (0 : Int32) μ
abbrev wX7_mostBy (l : Launch) (E : pb_E) := pb_RW l E { frames := 3, cells := 0, slots := 0, locals := 72 } RX7 cX7_mostBy 5 (some .int) (fun _ => True) 0 0 (pb_Qf E (fun z : Int32 => some (.int z)))
set_option maxRecDepth 100000 in
set_option maxHeartbeats 4000000 in
theorem tX7_mostBy_J45 (l : Launch) (E : pb_E) (v1 : Int32) {S5 : Int32 → Int32 → pb_M → Option (Int32 × pb_M)} (hS5 : ∀ (w2 : Int32) (w3 : Int32) (μ : pb_M), wX7_mostBy l E 5 [some (.ref (E.2.1 19)), some (.int v1), some (.int w2), some (.int w3), none] [] μ (S5 w2 w3 μ)) : ∀ (v2 : Int32) (v3 : Int32) (v4 : Int32) (s0 : Int32) (μ : pb_M), wX7_mostBy l E 45 [some (.ref (E.2.1 19)), some (.int v1), some (.int v2), some (.int v3), some (.int v4)] [.int s0, .ref (E.2.1 19)] μ (pX7_mostBy_J45 v1 S5 v2 v3 v4 s0 μ) := by
  intro v2 v3 v4 s0 μ
  unfold pX7_mostBy_J45
  refine pb_putI 48 (j := 15) tyX7 tyX7_ok nmX7 in_X7 rfl (by decide) rfl rfl (by decide) fl_X7_165 rfl (by decide +kernel) dX7_mostBy_45 rfl ?_
  refine pb_iload 50 dX7_mostBy_48 rfl rfl ?_
  refine pb_iload_n 51 dX7_mostBy_50 rfl rfl rfl ?_
  refine pb_icmp_le 54 (tgt := 59) dX7_mostBy_51 (by decide) rfl (fun _ => ?_) (fun _ => ?_)
  · refine pb_iload_n 60 dX7_mostBy_59 rfl rfl rfl ?_
    refine pb_istore_n 61 (i := 2) (L' := [some (.ref (E.2.1 19)), some (.int v1), some (.int v2), some (.int v3), some (.int v4)]) dX7_mostBy_60 rfl (by decide) rfl rfl rfl ?_
    refine pb_iinc 64 (i := 3) (v := (v3 + (1 : Int32))) (L' := [some (.ref (E.2.1 19)), some (.int v1), some (.int v2), some (.int (v3 + (1 : Int32))), some (.int v4)]) dX7_mostBy_61 rfl rfl (by decide) rfl rfl rfl ?_
    refine pb_goto (tgt := 5) dX7_mostBy_64 (by decide) ?_
    refine pb_weakM (L' := [some (.ref (E.2.1 19)), some (.int v1), some (.int v2), some (.int (v3 + (1 : Int32))), none]) [true, true, true, true, false] rfl ?_
    exact hS5 v2 (v3 + (1 : Int32)) (pb_sA μ 19 (upd (μ.1 19) 15 s0))
  · refine pb_iload 56 dX7_mostBy_54 rfl rfl ?_
    refine pb_goto (tgt := 60) dX7_mostBy_56 (by decide) ?_
    refine pb_istore_n 61 (i := 2) (L' := [some (.ref (E.2.1 19)), some (.int v1), some (.int v4), some (.int v3), some (.int v4)]) dX7_mostBy_60 rfl (by decide) rfl rfl rfl ?_
    refine pb_iinc 64 (i := 3) (v := (v3 + (1 : Int32))) (L' := [some (.ref (E.2.1 19)), some (.int v1), some (.int v4), some (.int (v3 + (1 : Int32))), some (.int v4)]) dX7_mostBy_61 rfl rfl (by decide) rfl rfl rfl ?_
    refine pb_goto (tgt := 5) dX7_mostBy_64 (by decide) ?_
    refine pb_weakM (L' := [some (.ref (E.2.1 19)), some (.int v1), some (.int v4), some (.int (v3 + (1 : Int32))), none]) [true, true, true, true, false] rfl ?_
    exact hS5 v4 (v3 + (1 : Int32)) (pb_sA μ 19 (upd (μ.1 19) 15 s0))
set_option maxRecDepth 100000 in
set_option maxHeartbeats 4000000 in
theorem tX7_mostBy_L5 (l : Launch) (E : pb_E) (v1 : Int32)   : ∀ (n : Nat) (v2 : Int32) (v3 : Int32) (μ : pb_M), wX7_mostBy l E 5 [some (.ref (E.2.1 19)), some (.int v1), some (.int v2), some (.int v3), none] [] μ (pX7_mostBy_L5 v1 n v2 v3 μ) := by
  intro n
  induction n with
  | zero => intro v2 v3 μ; exact pb_none
  | succ n ih =>
    intro v2 v3 μ
    rw [pX7_mostBy_L5]
    refine pb_iload_n 6 dX7_mostBy_5 rfl rfl rfl ?_
    refine pb_aload_n 7 dX7_mostBy_6 rfl rfl rfl ?_
    refine pb_getI 10 (j := 1) in_X7 rfl (by decide) rfl rfl (by decide) fl_X7_94 dX7_mostBy_7 rfl ?_
    refine pb_iconst 11 (v := 1) dX7_mostBy_10 rfl (by decide) ?_
    refine pb_iadd 12 dX7_mostBy_11 rfl ?_
    refine pb_aload_n 13 dX7_mostBy_12 rfl rfl rfl ?_
    refine pb_getI 16 (j := 0) in_X7 rfl (by decide) rfl rfl (by decide) fl_X7_41 dX7_mostBy_13 rfl ?_
    refine cl_X7_power 19 ⟨by decide, by decide, by decide, by decide⟩ (Nat.le_of_ble_eq_true rfl) ml_X7_159 dX7_mostBy_16 rfl (fun b16 μ16 => ?_)
    refine pb_icmp_ge 22 (tgt := 67) dX7_mostBy_19 (by decide) rfl (fun _ => ?_) (fun _ => ?_)
    · refine pb_iload_n 68 dX7_mostBy_67 rfl rfl rfl ?_
      exact pb_iret dX7_mostBy_68
    · refine pb_aload_n 23 dX7_mostBy_22 rfl rfl rfl ?_
      refine pb_iload_n 24 dX7_mostBy_23 rfl rfl rfl ?_
      refine pb_iload_n 25 dX7_mostBy_24 rfl rfl rfl ?_
      refine cl_X7_getBy 28 ⟨by decide, by decide, by decide, by decide⟩ (Nat.le_of_ble_eq_true rfl) ml_X7_162 dX7_mostBy_25 rfl (fun b25 μ25 => ?_)
      refine pb_istore 30 (i := 4) (L' := [some (.ref (E.2.1 19)), some (.int v1), some (.int v2), some (.int v3), some (.int b25)]) dX7_mostBy_28 (by decide) rfl rfl rfl ?_
      refine pb_aload_n 31 dX7_mostBy_30 rfl rfl rfl ?_
      refine pb_iload 33 dX7_mostBy_31 rfl rfl ?_
      refine pb_iload_n 34 dX7_mostBy_33 rfl rfl rfl ?_
      refine pb_icmp_le 37 (tgt := 41) dX7_mostBy_34 (by decide) rfl (fun _ => ?_) (fun _ => ?_)
      · refine pb_aload_n 42 dX7_mostBy_41 rfl rfl rfl ?_
        refine pb_getI 45 (j := 15) in_X7 rfl (by decide) rfl rfl (by decide) fl_X7_165 dX7_mostBy_42 rfl ?_
        exact tX7_mostBy_J45 l E v1 ih v2 v3 b25 (μ25.1 19 15) μ25
      · refine pb_iload_n 38 dX7_mostBy_37 rfl rfl rfl ?_
        refine pb_goto (tgt := 45) dX7_mostBy_38 (by decide) ?_
        exact tX7_mostBy_J45 l E v1 ih v2 v3 b25 v3 μ25
set_option maxRecDepth 100000 in
set_option maxHeartbeats 4000000 in
theorem evX7_mostBy (l : Launch) (E : pb_E) (v1 : Int32)  (μ : pb_M) : ∀ b μ', pX7_mostBy v1 μ = some (b, μ') → pb_Ev l E yX7_mostBy cX7_mostBy 5 (some .int) { frames := 3, cells := 0, slots := 0, locals := 72 } [.ref (E.2.1 19), .int v1] μ ((fun z : Int32 => some (.int z)) b) μ' := by
  refine pb_enter (L := [some (.ref (E.2.1 19)), some (.int v1), none, none, none]) (by decide +kernel) (Nat.le_of_ble_eq_true rfl) (pb_same [none, none, none, none, none] rfl) (show wX7_mostBy l E 0 [some (.ref (E.2.1 19)), some (.int v1), none, none, none] [] μ (pX7_mostBy v1 μ) from ?_)
  unfold pX7_mostBy
  refine pb_bipush 2 (v := -9) dX7_mostBy_0 rfl (by decide) ?_
  refine pb_istore_n 3 (i := 2) (L' := [some (.ref (E.2.1 19)), some (.int v1), some (.int (-9 : Int32)), none, none]) dX7_mostBy_2 rfl (by decide) rfl rfl rfl ?_
  refine pb_iconst 4 (v := 0) dX7_mostBy_3 rfl (by decide) ?_
  refine pb_istore_n 5 (i := 3) (L' := [some (.ref (E.2.1 19)), some (.int v1), some (.int (-9 : Int32)), some (.int (0 : Int32)), none]) dX7_mostBy_4 rfl (by decide) rfl rfl rfl ?_
  exact tX7_mostBy_L5 l E v1 pb_F (-9 : Int32) (0 : Int32) μ
theorem mc_X7_mostBy : pb_MC yX7_mostBy cX7_mostBy 5 (some .int) 1 := ⟨pb_inW 1021 (by decide +kernel) (by decide +kernel), pb_inW 68 (by decide +kernel) (by decide +kernel), by decide +kernel, by decide +kernel, by decide +kernel⟩
theorem mi_X7_mostBy : Cond.instanceMethod yX7_mostBy ∈ pb_gw := pb_inW 1020 (by decide +kernel) (by decide +kernel)
theorem ms_X7_mostBy : Cond.selects (yX7_mostBy).cls yX7_mostBy yX7_mostBy ∈ pb_gw := pb_inW 48 (by decide +kernel) (by decide +kernel)
theorem cl_X7_mostBy {α : Type} {l : Launch} {E : pb_E} {R : Room} {own : String} {cc : ByteArray} {mL : Nat} {ret : Option FieldType} {Xs : State → Prop} {nc ns : Nat} {Qf : State → Array Value → List Frame → α → pb_M → State → Prop} {pc : Nat} {L : List (Option Value)} {S : List Value} {μ : pb_M} {f : Int32 → pb_M → Option (α × pb_M)} {v1 : Int32} {index : Nat} (q : Nat)  (hR : 3 + 1 ≤ R.frames ∧ 8 + (5 + 11) + 72 ≤ R.locals ∧ nc ≤ R.cells ∧ ns ≤ R.slots) (hW : (S.map fun v => v.category).sum ≤ 8) (hl1 : Cond.methodLink own index yX7_mostBy ∈ pb_gw) (hdg : decode cc pc = .ok (.invokevirtual index, 3)) (hq : pc + 3 = q) (k : ∀ b1 μ1, pb_RW l E R own cc mL ret Xs nc ns Qf q L (.int b1 :: S) μ1 (f b1 μ1)) : pb_RW l E R own cc mL ret Xs nc ns Qf pc L (.int v1 :: .ref (E.2.1 19) :: S) μ (pb_b (pX7_mostBy v1 μ) f) := pb_callV q (fun z : Int32 => some (.int z)) mc_X7_mostBy mi_X7_mostBy ms_X7_mostBy (fun b1 μ1 h => evX7_mostBy l E v1  μ b1 μ1 h) rfl (by decide) rfl rfl rfl rfl hR rfl hW hl1 hdg hq k
theorem ml_X7_168 : Cond.methodLink RX7 168 yX7_mostBy ∈ pb_gw := pb_inW 1018 (by decide +kernel) (by decide +kernel)
theorem ml_X7_171 : Cond.methodLink RX7 171 yX7_wayOf ∈ pb_gw := pb_inW 1029 (by decide +kernel) (by decide +kernel)
def pX7_each (v1 : Int32) (μ : pb_M) : Option (Int32 × pb_M) :=
  pb_b (pX7_mostBy (((1 : Int32) <<< ((μ.1 19 0) &&& 31)) - (1 : Int32)) μ) (fun b9 μ9 =>
  if v1 = (0 : Int32) then
    some (b9, μ9)
  else
  pb_b (pX7_wayOf (μ9.1 19 15) μ9) (fun b22 μ22 =>
  some (b22, μ22)))
abbrev wX7_each (l : Launch) (E : pb_E) := pb_RW l E { frames := 4, cells := 0, slots := 0, locals := 96 } RX7 cX7_each 3 (some .int) (fun _ => True) 0 0 (pb_Qf E (fun z : Int32 => some (.int z)))
set_option maxRecDepth 100000 in
set_option maxHeartbeats 4000000 in
theorem evX7_each (l : Launch) (E : pb_E) (v1 : Int32)  (μ : pb_M) : ∀ b μ', pX7_each v1 μ = some (b, μ') → pb_Ev l E yX7_each cX7_each 3 (some .int) { frames := 4, cells := 0, slots := 0, locals := 96 } [.ref (E.2.1 19), .int v1] μ ((fun z : Int32 => some (.int z)) b) μ' := by
  refine pb_enter (L := [some (.ref (E.2.1 19)), some (.int v1), none]) (by decide +kernel) (Nat.le_of_ble_eq_true rfl) (pb_same [none, none, none] rfl) (show wX7_each l E 0 [some (.ref (E.2.1 19)), some (.int v1), none] [] μ (pX7_each v1 μ) from ?_)
  unfold pX7_each
  refine pb_aload_n 1 dX7_each_0 rfl rfl rfl ?_
  refine pb_iconst 2 (v := 1) dX7_each_1 rfl (by decide) ?_
  refine pb_aload_n 3 dX7_each_2 rfl rfl rfl ?_
  refine pb_getI 6 (j := 0) in_X7 rfl (by decide) rfl rfl (by decide) fl_X7_41 dX7_each_3 rfl ?_
  refine pb_ishl 7 dX7_each_6 rfl ?_
  refine pb_iconst 8 (v := 1) dX7_each_7 rfl (by decide) ?_
  refine pb_isub 9 dX7_each_8 rfl ?_
  refine cl_X7_mostBy 12 ⟨by decide, by decide, by decide, by decide⟩ (Nat.le_of_ble_eq_true rfl) ml_X7_168 dX7_each_9 rfl (fun b9 μ9 => ?_)
  refine pb_istore_n 13 (i := 2) (L' := [some (.ref (E.2.1 19)), some (.int v1), some (.int b9)]) dX7_each_12 rfl (by decide) rfl rfl rfl ?_
  refine pb_iload_n 14 dX7_each_13 rfl rfl rfl ?_
  refine pb_if_eq 17 (tgt := 28) dX7_each_14 (by decide) rfl (fun _ => ?_) (fun _ => ?_)
  · refine pb_iload_n 29 dX7_each_28 rfl rfl rfl ?_
    exact pb_iret dX7_each_29
  · refine pb_aload_n 18 dX7_each_17 rfl rfl rfl ?_
    refine pb_aload_n 19 dX7_each_18 rfl rfl rfl ?_
    refine pb_getI 22 (j := 15) in_X7 rfl (by decide) rfl rfl (by decide) fl_X7_165 dX7_each_19 rfl ?_
    refine cl_X7_wayOf 25 ⟨by decide, by decide, by decide, by decide⟩ (Nat.le_of_ble_eq_true rfl) ml_X7_171 dX7_each_22 rfl (fun b22 μ22 => ?_)
    refine pb_goto (tgt := 29) dX7_each_25 (by decide) ?_
    exact pb_iret dX7_each_29
theorem mc_X7_each : pb_MC yX7_each cX7_each 3 (some .int) 1 := ⟨pb_inW 1017 (by decide +kernel) (by decide +kernel), pb_inW 68 (by decide +kernel) (by decide +kernel), by decide +kernel, by decide +kernel, by decide +kernel⟩
theorem mi_X7_each : Cond.instanceMethod yX7_each ∈ pb_gw := pb_inW 1015 (by decide +kernel) (by decide +kernel)
theorem ms_X7_each : Cond.selects (yX7_each).cls yX7_each yX7_each ∈ pb_gw := pb_inW 1016 (by decide +kernel) (by decide +kernel)
theorem cl_X7_each {α : Type} {l : Launch} {E : pb_E} {R : Room} {own : String} {cc : ByteArray} {mL : Nat} {ret : Option FieldType} {Xs : State → Prop} {nc ns : Nat} {Qf : State → Array Value → List Frame → α → pb_M → State → Prop} {pc : Nat} {L : List (Option Value)} {S : List Value} {μ : pb_M} {f : Int32 → pb_M → Option (α × pb_M)} {v1 : Int32} {index : Nat} (q : Nat)  (hR : 4 + 1 ≤ R.frames ∧ 8 + (3 + 11) + 96 ≤ R.locals ∧ nc ≤ R.cells ∧ ns ≤ R.slots) (hW : (S.map fun v => v.category).sum ≤ 8) (hl1 : Cond.methodLink own index yX7_each ∈ pb_gw) (hdg : decode cc pc = .ok (.invokevirtual index, 3)) (hq : pc + 3 = q) (k : ∀ b1 μ1, pb_RW l E R own cc mL ret Xs nc ns Qf q L (.int b1 :: S) μ1 (f b1 μ1)) : pb_RW l E R own cc mL ret Xs nc ns Qf pc L (.int v1 :: .ref (E.2.1 19) :: S) μ (pb_b (pX7_each v1 μ) f) := pb_callV q (fun z : Int32 => some (.int z)) mc_X7_each mi_X7_each ms_X7_each (fun b1 μ1 h => evX7_each l E v1  μ b1 μ1 h) rfl (by decide) rfl rfl rfl rfl hR rfl hW hl1 hdg hq k
def pX7_factorial_L4 (v0 : Int32) : Nat → Int32 → Int32 → pb_M → Option (Int32 × pb_M)
  | 0, _, _, _ => none
  | n + 1, v1, v2, μ =>
    if v0 < v2 then
      some (v1, μ)
    else
    pX7_factorial_L4 v0 n (v1 * v2) (v2 + (1 : Int32)) μ
def pX7_factorial (v0 : Int32) (μ : pb_M) : Option (Int32 × pb_M) :=
  pX7_factorial_L4 v0 pb_F (1 : Int32) (2 : Int32) μ
abbrev wX7_factorial (l : Launch) (E : pb_E) := pb_RW l E { frames := 0, cells := 0, slots := 0, locals := 0 } RX7 cX7_factorial 3 (some .int) (fun _ => True) 0 0 (pb_Qf E (fun z : Int32 => some (.int z)))
set_option maxRecDepth 100000 in
set_option maxHeartbeats 4000000 in
theorem tX7_factorial_L4 (l : Launch) (E : pb_E) (v0 : Int32)   : ∀ (n : Nat) (v1 : Int32) (v2 : Int32) (μ : pb_M), wX7_factorial l E 4 [some (.int v0), some (.int v1), some (.int v2)] [] μ (pX7_factorial_L4 v0 n v1 v2 μ) := by
  intro n
  induction n with
  | zero => intro v1 v2 μ; exact pb_none
  | succ n ih =>
    intro v1 v2 μ
    rw [pX7_factorial_L4]
    refine pb_iload_n 5 dX7_factorial_4 rfl rfl rfl ?_
    refine pb_iload_n 6 dX7_factorial_5 rfl rfl rfl ?_
    refine pb_icmp_gt 9 (tgt := 19) dX7_factorial_6 (by decide) rfl (fun _ => ?_) (fun _ => ?_)
    · refine pb_iload_n 20 dX7_factorial_19 rfl rfl rfl ?_
      exact pb_iret dX7_factorial_20
    · refine pb_iload_n 10 dX7_factorial_9 rfl rfl rfl ?_
      refine pb_iload_n 11 dX7_factorial_10 rfl rfl rfl ?_
      refine pb_imul 12 dX7_factorial_11 rfl ?_
      refine pb_istore_n 13 (i := 1) (L' := [some (.int v0), some (.int (v1 * v2)), some (.int v2)]) dX7_factorial_12 rfl (by decide) rfl rfl rfl ?_
      refine pb_iinc 16 (i := 2) (v := (v2 + (1 : Int32))) (L' := [some (.int v0), some (.int (v1 * v2)), some (.int (v2 + (1 : Int32)))]) dX7_factorial_13 rfl rfl (by decide) rfl rfl rfl ?_
      refine pb_goto (tgt := 4) dX7_factorial_16 (by decide) ?_
      exact ih (v1 * v2) (v2 + (1 : Int32)) μ
set_option maxRecDepth 100000 in
set_option maxHeartbeats 4000000 in
theorem evX7_factorial (l : Launch) (E : pb_E) (v0 : Int32)  (μ : pb_M) : ∀ b μ', pX7_factorial v0 μ = some (b, μ') → pb_Ev l E yX7_factorial cX7_factorial 3 (some .int) { frames := 0, cells := 0, slots := 0, locals := 0 } [.int v0] μ ((fun z : Int32 => some (.int z)) b) μ' := by
  refine pb_enter (L := [some (.int v0), none, none]) (by decide +kernel) (Nat.le_of_ble_eq_true rfl) (pb_same [none, none, none] rfl) (show wX7_factorial l E 0 [some (.int v0), none, none] [] μ (pX7_factorial v0 μ) from ?_)
  unfold pX7_factorial
  refine pb_iconst 1 (v := 1) dX7_factorial_0 rfl (by decide) ?_
  refine pb_istore_n 2 (i := 1) (L' := [some (.int v0), some (.int (1 : Int32)), none]) dX7_factorial_1 rfl (by decide) rfl rfl rfl ?_
  refine pb_iconst 3 (v := 2) dX7_factorial_2 rfl (by decide) ?_
  refine pb_istore_n 4 (i := 2) (L' := [some (.int v0), some (.int (1 : Int32)), some (.int (2 : Int32))]) dX7_factorial_3 rfl (by decide) rfl rfl rfl ?_
  exact tX7_factorial_L4 l E v0 pb_F (1 : Int32) (2 : Int32) μ
theorem mc_X7_factorial : pb_MC yX7_factorial cX7_factorial 3 (some .int) 1 := ⟨pb_inW 1039 (by decide +kernel) (by decide +kernel), pb_inW 68 (by decide +kernel) (by decide +kernel), by decide +kernel, by decide +kernel, by decide +kernel⟩
theorem ms_X7_factorial : Cond.static yX7_factorial ∈ pb_gw := pb_inW 1038 (by decide +kernel) (by decide +kernel)
theorem cl_X7_factorial {α : Type} {l : Launch} {E : pb_E} {R : Room} {own : String} {cc : ByteArray} {mL : Nat} {ret : Option FieldType} {Xs : State → Prop} {nc ns : Nat} {Qf : State → Array Value → List Frame → α → pb_M → State → Prop} {pc : Nat} {L : List (Option Value)} {S : List Value} {μ : pb_M} {f : Int32 → pb_M → Option (α × pb_M)} {v0 : Int32} {index : Nat} (q : Nat)  (hR : 0 + 1 ≤ R.frames ∧ 8 + (3 + 11) + 0 ≤ R.locals ∧ nc ≤ R.cells ∧ ns ≤ R.slots) (hW : (S.map fun v => v.category).sum ≤ 8) (hl1 : Cond.methodLink own index yX7_factorial ∈ pb_gw) (hdg : decode cc pc = .ok (.invokestatic index, 3)) (hq : pc + 3 = q) (k : ∀ b1 μ1, pb_RW l E R own cc mL ret Xs nc ns Qf q L (.int b1 :: S) μ1 (f b1 μ1)) : pb_RW l E R own cc mL ret Xs nc ns Qf pc L (.int v0 :: S) μ (pb_b (pX7_factorial v0 μ) f) := pb_callS q (fun z : Int32 => some (.int z)) mc_X7_factorial ms_X7_factorial (fun b1 μ1 h => evX7_factorial l E v0  μ b1 μ1 h) rfl rfl rfl hR rfl hW hl1 hdg hq k
def pX7_common_L13  : Nat → Int32 → Int32 → pb_M → Option (Int32 × pb_M)
  | 0, _, _, _ => none
  | n + 1, v2, v3, μ =>
    if v3 = (0 : Int32) then
      some (v2, μ)
    else
    if v3 = 0 then none else
    pX7_common_L13 n v3 (pb_rem v2 v3) μ
def pX7_common (v0 : Int32) (v1 : Int32) (μ : pb_M) : Option (Int32 × pb_M) :=
  if (0 : Int32) ≤ v0 then
    pX7_common_L13 pb_F v0 v1 μ
  else
  pX7_common_L13 pb_F (-v0) v1 μ
abbrev wX7_common (l : Launch) (E : pb_E) := pb_RW l E { frames := 0, cells := 0, slots := 0, locals := 0 } RX7 cX7_common 5 (some .int) (fun _ => True) 0 0 (pb_Qf E (fun z : Int32 => some (.int z)))
set_option maxRecDepth 100000 in
set_option maxHeartbeats 4000000 in
theorem tX7_common_L13 (l : Launch) (E : pb_E)    : ∀ (n : Nat) (v2 : Int32) (v3 : Int32) (μ : pb_M), wX7_common l E 13 [none, none, some (.int v2), some (.int v3), none] [] μ (pX7_common_L13 n v2 v3 μ) := by
  intro n
  induction n with
  | zero => intro v2 v3 μ; exact pb_none
  | succ n ih =>
    intro v2 v3 μ
    rw [pX7_common_L13]
    refine pb_iload_n 14 dX7_common_13 rfl rfl rfl ?_
    refine pb_if_eq 17 (tgt := 30) dX7_common_14 (by decide) rfl (fun _ => ?_) (fun _ => ?_)
    · refine pb_iload_n 31 dX7_common_30 rfl rfl rfl ?_
      exact pb_iret dX7_common_31
    · refine pb_iload_n 18 dX7_common_17 rfl rfl rfl ?_
      refine pb_iload_n 19 dX7_common_18 rfl rfl rfl ?_
      refine pb_guardN (fun hne => pb_irem 20 dX7_common_19 rfl hne ?_)
      refine pb_istore 22 (i := 4) (L' := [none, none, some (.int v2), some (.int v3), some (.int (pb_rem v2 v3))]) dX7_common_20 (by decide) rfl rfl rfl ?_
      refine pb_iload_n 23 dX7_common_22 rfl rfl rfl ?_
      refine pb_istore_n 24 (i := 2) (L' := [none, none, some (.int v3), some (.int v3), some (.int (pb_rem v2 v3))]) dX7_common_23 rfl (by decide) rfl rfl rfl ?_
      refine pb_iload 26 dX7_common_24 rfl rfl ?_
      refine pb_istore_n 27 (i := 3) (L' := [none, none, some (.int v3), some (.int (pb_rem v2 v3)), some (.int (pb_rem v2 v3))]) dX7_common_26 rfl (by decide) rfl rfl rfl ?_
      refine pb_goto (tgt := 13) dX7_common_27 (by decide) ?_
      refine pb_weakM (L' := [none, none, some (.int v3), some (.int (pb_rem v2 v3)), none]) [false, false, true, true, false] rfl ?_
      exact ih v3 (pb_rem v2 v3) μ
set_option maxRecDepth 100000 in
set_option maxHeartbeats 4000000 in
theorem evX7_common (l : Launch) (E : pb_E) (v0 : Int32) (v1 : Int32)  (μ : pb_M) : ∀ b μ', pX7_common v0 v1 μ = some (b, μ') → pb_Ev l E yX7_common cX7_common 5 (some .int) { frames := 0, cells := 0, slots := 0, locals := 0 } [.int v0, .int v1] μ ((fun z : Int32 => some (.int z)) b) μ' := by
  refine pb_enter (L := [some (.int v0), some (.int v1), none, none, none]) (by decide +kernel) (Nat.le_of_ble_eq_true rfl) (pb_same [none, none, none, none, none] rfl) (show wX7_common l E 0 [some (.int v0), some (.int v1), none, none, none] [] μ (pX7_common v0 v1 μ) from ?_)
  unfold pX7_common
  refine pb_iload_n 1 dX7_common_0 rfl rfl rfl ?_
  refine pb_if_ge 4 (tgt := 9) dX7_common_1 (by decide) rfl (fun _ => ?_) (fun _ => ?_)
  · refine pb_iload_n 10 dX7_common_9 rfl rfl rfl ?_
    refine pb_istore_n 11 (i := 2) (L' := [some (.int v0), some (.int v1), some (.int v0), none, none]) dX7_common_10 rfl (by decide) rfl rfl rfl ?_
    refine pb_iload_n 12 dX7_common_11 rfl rfl rfl ?_
    refine pb_istore_n 13 (i := 3) (L' := [some (.int v0), some (.int v1), some (.int v0), some (.int v1), none]) dX7_common_12 rfl (by decide) rfl rfl rfl ?_
    refine pb_weakM (L' := [none, none, some (.int v0), some (.int v1), none]) [false, false, true, true, false] rfl ?_
    exact tX7_common_L13 l E pb_F v0 v1 μ
  · refine pb_iload_n 5 dX7_common_4 rfl rfl rfl ?_
    refine pb_ineg 6 dX7_common_5 rfl ?_
    refine pb_goto (tgt := 10) dX7_common_6 (by decide) ?_
    refine pb_istore_n 11 (i := 2) (L' := [some (.int v0), some (.int v1), some (.int (-v0)), none, none]) dX7_common_10 rfl (by decide) rfl rfl rfl ?_
    refine pb_iload_n 12 dX7_common_11 rfl rfl rfl ?_
    refine pb_istore_n 13 (i := 3) (L' := [some (.int v0), some (.int v1), some (.int (-v0)), some (.int v1), none]) dX7_common_12 rfl (by decide) rfl rfl rfl ?_
    refine pb_weakM (L' := [none, none, some (.int (-v0)), some (.int v1), none]) [false, false, true, true, false] rfl ?_
    exact tX7_common_L13 l E pb_F (-v0) v1 μ
theorem mc_X7_common : pb_MC yX7_common cX7_common 5 (some .int) 2 := ⟨pb_inW 1042 (by decide +kernel) (by decide +kernel), pb_inW 68 (by decide +kernel) (by decide +kernel), by decide +kernel, by decide +kernel, by decide +kernel⟩
theorem ms_X7_common : Cond.static yX7_common ∈ pb_gw := pb_inW 1041 (by decide +kernel) (by decide +kernel)
theorem cl_X7_common {α : Type} {l : Launch} {E : pb_E} {R : Room} {own : String} {cc : ByteArray} {mL : Nat} {ret : Option FieldType} {Xs : State → Prop} {nc ns : Nat} {Qf : State → Array Value → List Frame → α → pb_M → State → Prop} {pc : Nat} {L : List (Option Value)} {S : List Value} {μ : pb_M} {f : Int32 → pb_M → Option (α × pb_M)} {v0 : Int32} {v1 : Int32} {index : Nat} (q : Nat)  (hR : 0 + 1 ≤ R.frames ∧ 8 + (5 + 11) + 0 ≤ R.locals ∧ nc ≤ R.cells ∧ ns ≤ R.slots) (hW : (S.map fun v => v.category).sum ≤ 8) (hl1 : Cond.methodLink own index yX7_common ∈ pb_gw) (hdg : decode cc pc = .ok (.invokestatic index, 3)) (hq : pc + 3 = q) (k : ∀ b1 μ1, pb_RW l E R own cc mL ret Xs nc ns Qf q L (.int b1 :: S) μ1 (f b1 μ1)) : pb_RW l E R own cc mL ret Xs nc ns Qf pc L (.int v1 :: .int v0 :: S) μ (pb_b (pX7_common v0 v1 μ) f) := pb_callS q (fun z : Int32 => some (.int z)) mc_X7_common ms_X7_common (fun b1 μ1 h => evX7_common l E v0 v1  μ b1 μ1 h) rfl rfl rfl hR rfl hW hl1 hdg hq k
theorem ml_X7_174 : Cond.methodLink RX7 174 yX7_factorial ∈ pb_gw := pb_inW 1037 (by decide +kernel) (by decide +kernel)
theorem ml_X7_177 : Cond.methodLink RX7 177 yX7_common ∈ pb_gw := pb_inW 1040 (by decide +kernel) (by decide +kernel)
def pX7_share_L15 (v1 : Int32) (v2 : Int32) (K90 : Int32 → pb_M → Option (Int32 × pb_M)) : Nat → Int32 → Int32 → pb_M → Option (Int32 × pb_M)
  | 0, _, _, _ => none
  | n + 1, v3, v4, μ =>
    if ((1 : Int32) <<< ((μ.1 19 0) &&& 31)) ≤ v4 then
      K90 v3 μ
    else
    pb_b (pX7_has v4 v1 μ) (fun b29 μ29 =>
    if b29 = (0 : Int32) then
      pb_b (pX7_ones v4 μ29) (fun b37 μ37 =>
      pb_b (pX7_factorial b37 μ37) (fun b40 μ40 =>
      pb_b (pX7_ones v4 μ40) (fun b51 μ51 =>
      pb_b (pX7_factorial (((μ40.1 19 0) - (1 : Int32)) - b51) μ51) (fun b55 μ55 =>
      pb_b (pX7_mostBy (v4 ||| ((1 : Int32) <<< (v1 &&& 31))) μ55) (fun b71 μ71 =>
      pb_b (pX7_mostBy v4 μ71) (fun b77 μ77 =>
      pX7_share_L15 v1 v2 K90 n (v3 + ((b40 * b55) * (b71 - b77))) (v4 + (1 : Int32)) μ77))))))
    else
    pX7_share_L15 v1 v2 K90 n v3 (v4 + (1 : Int32)) μ29)
def pX7_share (v1 : Int32) (v2 : Int32) (μ : pb_M) : Option (Int32 × pb_M) :=
  pb_b (pX7_isPerson v1 μ) (fun b2 μ2 =>
  if b2 = (0 : Int32) then
    some ((-1 : Int32), μ2)
  else
  pX7_share_L15 v1 v2 (fun x3k90 μk90 =>
    pb_b (pX7_factorial (μk90.1 19 0) μk90) (fun b95 μ95 =>
    pb_b (pX7_common x3k90 b95 μ95) (fun b98 μ98 =>
    if v2 = (0 : Int32) then
      pb_b (pX7_factorial (μ98.1 19 0) μ98) (fun b118 μ118 =>
      if b98 = 0 then none else
      some ((b118 / b98), μ118))
    else
    if b98 = 0 then none else
    some ((x3k90 / b98), μ98)))) pb_F (0 : Int32) (0 : Int32) μ2)
abbrev wX7_share (l : Launch) (E : pb_E) := pb_RW l E { frames := 4, cells := 0, slots := 0, locals := 96 } RX7 cX7_share 6 (some .int) (fun _ => True) 0 0 (pb_Qf E (fun z : Int32 => some (.int z)))
set_option maxRecDepth 100000 in
set_option maxHeartbeats 4000000 in
theorem tX7_share_L15 (l : Launch) (E : pb_E) (v1 : Int32) (v2 : Int32) {K90 : Int32 → pb_M → Option (Int32 × pb_M)} (hK90 : ∀ (w3 : Int32) (μ : pb_M), wX7_share l E 90 [some (.ref (E.2.1 19)), none, some (.int v2), some (.int w3), none, none] [] μ (K90 w3 μ)) : ∀ (n : Nat) (v3 : Int32) (v4 : Int32) (μ : pb_M), wX7_share l E 15 [some (.ref (E.2.1 19)), some (.int v1), some (.int v2), some (.int v3), some (.int v4), none] [] μ (pX7_share_L15 v1 v2 K90 n v3 v4 μ) := by
  intro n
  induction n with
  | zero => intro v3 v4 μ; exact pb_none
  | succ n ih =>
    intro v3 v4 μ
    rw [pX7_share_L15]
    refine pb_iload 17 dX7_share_15 rfl rfl ?_
    refine pb_iconst 18 (v := 1) dX7_share_17 rfl (by decide) ?_
    refine pb_aload_n 19 dX7_share_18 rfl rfl rfl ?_
    refine pb_getI 22 (j := 0) in_X7 rfl (by decide) rfl rfl (by decide) fl_X7_41 dX7_share_19 rfl ?_
    refine pb_ishl 23 dX7_share_22 rfl ?_
    refine pb_icmp_ge 26 (tgt := 90) dX7_share_23 (by decide) rfl (fun _ => ?_) (fun _ => ?_)
    · refine pb_weakM (L' := [some (.ref (E.2.1 19)), none, some (.int v2), some (.int v3), none, none]) [true, false, true, true, false, false] rfl ?_
      exact hK90 v3 μ
    · refine pb_iload 28 dX7_share_26 rfl rfl ?_
      refine pb_iload_n 29 dX7_share_28 rfl rfl rfl ?_
      refine cl_X7_has 32 ⟨by decide, by decide, by decide, by decide⟩ (Nat.le_of_ble_eq_true rfl) ml_X7_62 dX7_share_29 rfl (fun b29 μ29 => ?_)
      refine pb_if_ne 35 (tgt := 84) dX7_share_32 (by decide) rfl (fun _ => ?_) (fun _ => ?_)
      · refine pb_iload 37 dX7_share_35 rfl rfl ?_
        refine cl_X7_ones 40 ⟨by decide, by decide, by decide, by decide⟩ (Nat.le_of_ble_eq_true rfl) ml_X7_141 dX7_share_37 rfl (fun b37 μ37 => ?_)
        refine cl_X7_factorial 43 ⟨by decide, by decide, by decide, by decide⟩ (Nat.le_of_ble_eq_true rfl) ml_X7_174 dX7_share_40 rfl (fun b40 μ40 => ?_)
        refine pb_aload_n 44 dX7_share_43 rfl rfl rfl ?_
        refine pb_getI 47 (j := 0) in_X7 rfl (by decide) rfl rfl (by decide) fl_X7_41 dX7_share_44 rfl ?_
        refine pb_iconst 48 (v := 1) dX7_share_47 rfl (by decide) ?_
        refine pb_isub 49 dX7_share_48 rfl ?_
        refine pb_iload 51 dX7_share_49 rfl rfl ?_
        refine cl_X7_ones 54 ⟨by decide, by decide, by decide, by decide⟩ (Nat.le_of_ble_eq_true rfl) ml_X7_141 dX7_share_51 rfl (fun b51 μ51 => ?_)
        refine pb_isub 55 dX7_share_54 rfl ?_
        refine cl_X7_factorial 58 ⟨by decide, by decide, by decide, by decide⟩ (Nat.le_of_ble_eq_true rfl) ml_X7_174 dX7_share_55 rfl (fun b55 μ55 => ?_)
        refine pb_imul 59 dX7_share_58 rfl ?_
        refine pb_istore 61 (i := 5) (L' := [some (.ref (E.2.1 19)), some (.int v1), some (.int v2), some (.int v3), some (.int v4), some (.int (b40 * b55))]) dX7_share_59 (by decide) rfl rfl rfl ?_
        refine pb_iload_n 62 dX7_share_61 rfl rfl rfl ?_
        refine pb_iload 64 dX7_share_62 rfl rfl ?_
        refine pb_aload_n 65 dX7_share_64 rfl rfl rfl ?_
        refine pb_iload 67 dX7_share_65 rfl rfl ?_
        refine pb_iconst 68 (v := 1) dX7_share_67 rfl (by decide) ?_
        refine pb_iload_n 69 dX7_share_68 rfl rfl rfl ?_
        refine pb_ishl 70 dX7_share_69 rfl ?_
        refine pb_ior 71 dX7_share_70 rfl ?_
        refine cl_X7_mostBy 74 ⟨by decide, by decide, by decide, by decide⟩ (Nat.le_of_ble_eq_true rfl) ml_X7_168 dX7_share_71 rfl (fun b71 μ71 => ?_)
        refine pb_aload_n 75 dX7_share_74 rfl rfl rfl ?_
        refine pb_iload 77 dX7_share_75 rfl rfl ?_
        refine cl_X7_mostBy 80 ⟨by decide, by decide, by decide, by decide⟩ (Nat.le_of_ble_eq_true rfl) ml_X7_168 dX7_share_77 rfl (fun b77 μ77 => ?_)
        refine pb_isub 81 dX7_share_80 rfl ?_
        refine pb_imul 82 dX7_share_81 rfl ?_
        refine pb_iadd 83 dX7_share_82 rfl ?_
        refine pb_istore_n 84 (i := 3) (L' := [some (.ref (E.2.1 19)), some (.int v1), some (.int v2), some (.int (v3 + ((b40 * b55) * (b71 - b77)))), some (.int v4), some (.int (b40 * b55))]) dX7_share_83 rfl (by decide) rfl rfl rfl ?_
        refine pb_iinc 87 (i := 4) (v := (v4 + (1 : Int32))) (L' := [some (.ref (E.2.1 19)), some (.int v1), some (.int v2), some (.int (v3 + ((b40 * b55) * (b71 - b77)))), some (.int (v4 + (1 : Int32))), some (.int (b40 * b55))]) dX7_share_84 rfl rfl (by decide) rfl rfl rfl ?_
        refine pb_goto (tgt := 15) dX7_share_87 (by decide) ?_
        refine pb_weakM (L' := [some (.ref (E.2.1 19)), some (.int v1), some (.int v2), some (.int (v3 + ((b40 * b55) * (b71 - b77)))), some (.int (v4 + (1 : Int32))), none]) [true, true, true, true, true, false] rfl ?_
        exact ih (v3 + ((b40 * b55) * (b71 - b77))) (v4 + (1 : Int32)) μ77
      · refine pb_iinc 87 (i := 4) (v := (v4 + (1 : Int32))) (L' := [some (.ref (E.2.1 19)), some (.int v1), some (.int v2), some (.int v3), some (.int (v4 + (1 : Int32))), none]) dX7_share_84 rfl rfl (by decide) rfl rfl rfl ?_
        refine pb_goto (tgt := 15) dX7_share_87 (by decide) ?_
        exact ih v3 (v4 + (1 : Int32)) μ29
set_option maxRecDepth 100000 in
set_option maxHeartbeats 4000000 in
theorem evX7_share (l : Launch) (E : pb_E) (v1 : Int32) (v2 : Int32)  (μ : pb_M) : ∀ b μ', pX7_share v1 v2 μ = some (b, μ') → pb_Ev l E yX7_share cX7_share 6 (some .int) { frames := 4, cells := 0, slots := 0, locals := 96 } [.ref (E.2.1 19), .int v1, .int v2] μ ((fun z : Int32 => some (.int z)) b) μ' := by
  refine pb_enter (L := [some (.ref (E.2.1 19)), some (.int v1), some (.int v2), none, none, none]) (by decide +kernel) (Nat.le_of_ble_eq_true rfl) (pb_same [none, none, none, none, none, none] rfl) (show wX7_share l E 0 [some (.ref (E.2.1 19)), some (.int v1), some (.int v2), none, none, none] [] μ (pX7_share v1 v2 μ) from ?_)
  unfold pX7_share
  refine pb_aload_n 1 dX7_share_0 rfl rfl rfl ?_
  refine pb_iload_n 2 dX7_share_1 rfl rfl rfl ?_
  refine cl_X7_isPerson 5 ⟨by decide, by decide, by decide, by decide⟩ (Nat.le_of_ble_eq_true rfl) ml_X7_100 dX7_share_2 rfl (fun b2 μ2 => ?_)
  refine pb_if_ne 8 (tgt := 10) dX7_share_5 (by decide) rfl (fun _ => ?_) (fun _ => ?_)
  · refine pb_iconst 9 (v := -1) dX7_share_8 rfl (by decide) ?_
    exact pb_iret dX7_share_9
  · refine pb_iconst 11 (v := 0) dX7_share_10 rfl (by decide) ?_
    refine pb_istore_n 12 (i := 3) (L' := [some (.ref (E.2.1 19)), some (.int v1), some (.int v2), some (.int (0 : Int32)), none, none]) dX7_share_11 rfl (by decide) rfl rfl rfl ?_
    refine pb_iconst 13 (v := 0) dX7_share_12 rfl (by decide) ?_
    refine pb_istore 15 (i := 4) (L' := [some (.ref (E.2.1 19)), some (.int v1), some (.int v2), some (.int (0 : Int32)), some (.int (0 : Int32)), none]) dX7_share_13 (by decide) rfl rfl rfl ?_
    refine tX7_share_L15 l E v1 v2 (fun x3k90 μk90 => ?_) pb_F (0 : Int32) (0 : Int32) μ2
    refine pb_iload_n 91 dX7_share_90 rfl rfl rfl ?_
    refine pb_aload_n 92 dX7_share_91 rfl rfl rfl ?_
    refine pb_getI 95 (j := 0) in_X7 rfl (by decide) rfl rfl (by decide) fl_X7_41 dX7_share_92 rfl ?_
    refine cl_X7_factorial 98 ⟨by decide, by decide, by decide, by decide⟩ (Nat.le_of_ble_eq_true rfl) ml_X7_174 dX7_share_95 rfl (fun b95 μ95 => ?_)
    refine cl_X7_common 101 ⟨by decide, by decide, by decide, by decide⟩ (Nat.le_of_ble_eq_true rfl) ml_X7_177 dX7_share_98 rfl (fun b98 μ98 => ?_)
    refine pb_istore 103 (i := 4) (L' := [some (.ref (E.2.1 19)), none, some (.int v2), some (.int x3k90), some (.int b98), none]) dX7_share_101 (by decide) rfl rfl rfl ?_
    refine pb_iload_n 104 dX7_share_103 rfl rfl rfl ?_
    refine pb_if_eq 107 (tgt := 114) dX7_share_104 (by decide) rfl (fun _ => ?_) (fun _ => ?_)
    · refine pb_aload_n 115 dX7_share_114 rfl rfl rfl ?_
      refine pb_getI 118 (j := 0) in_X7 rfl (by decide) rfl rfl (by decide) fl_X7_41 dX7_share_115 rfl ?_
      refine cl_X7_factorial 121 ⟨by decide, by decide, by decide, by decide⟩ (Nat.le_of_ble_eq_true rfl) ml_X7_174 dX7_share_118 rfl (fun b118 μ118 => ?_)
      refine pb_iload 123 dX7_share_121 rfl rfl ?_
      refine pb_guardN (fun hne => pb_idiv 124 dX7_share_123 rfl hne ?_)
      exact pb_iret dX7_share_124
    · refine pb_iload_n 108 dX7_share_107 rfl rfl rfl ?_
      refine pb_iload 110 dX7_share_108 rfl rfl ?_
      refine pb_guardN (fun hne => pb_idiv 111 dX7_share_110 rfl hne ?_)
      refine pb_goto (tgt := 124) dX7_share_111 (by decide) ?_
      exact pb_iret dX7_share_124
theorem mc_X7_share : pb_MC yX7_share cX7_share 6 (some .int) 2 := ⟨pb_inW 1036 (by decide +kernel) (by decide +kernel), pb_inW 68 (by decide +kernel) (by decide +kernel), by decide +kernel, by decide +kernel, by decide +kernel⟩
theorem mi_X7_share : Cond.instanceMethod yX7_share ∈ pb_gw := pb_inW 1034 (by decide +kernel) (by decide +kernel)
theorem ms_X7_share : Cond.selects (yX7_share).cls yX7_share yX7_share ∈ pb_gw := pb_inW 1035 (by decide +kernel) (by decide +kernel)
theorem cl_X7_share {α : Type} {l : Launch} {E : pb_E} {R : Room} {own : String} {cc : ByteArray} {mL : Nat} {ret : Option FieldType} {Xs : State → Prop} {nc ns : Nat} {Qf : State → Array Value → List Frame → α → pb_M → State → Prop} {pc : Nat} {L : List (Option Value)} {S : List Value} {μ : pb_M} {f : Int32 → pb_M → Option (α × pb_M)} {v1 : Int32} {v2 : Int32} {index : Nat} (q : Nat)  (hR : 4 + 1 ≤ R.frames ∧ 8 + (6 + 11) + 96 ≤ R.locals ∧ nc ≤ R.cells ∧ ns ≤ R.slots) (hW : (S.map fun v => v.category).sum ≤ 8) (hl1 : Cond.methodLink own index yX7_share ∈ pb_gw) (hdg : decode cc pc = .ok (.invokevirtual index, 3)) (hq : pc + 3 = q) (k : ∀ b1 μ1, pb_RW l E R own cc mL ret Xs nc ns Qf q L (.int b1 :: S) μ1 (f b1 μ1)) : pb_RW l E R own cc mL ret Xs nc ns Qf pc L (.int v2 :: .int v1 :: .ref (E.2.1 19) :: S) μ (pb_b (pX7_share v1 v2 μ) f) := pb_callV q (fun z : Int32 => some (.int z)) mc_X7_share mi_X7_share ms_X7_share (fun b1 μ1 h => evX7_share l E v1 v2  μ b1 μ1 h) rfl (by decide) rfl rfl rfl rfl hR rfl hW hl1 hdg hq k
def pX7_leastOf_J66 (v1 : Int32) (v2 : Int32) (v3 : Int32) (S10 : Int32 → Int32 → Int32 → pb_M → Option (Int32 × pb_M)) (v4 : Int32) (v5 : Int32) (v6 : Int32) (v7 : Int32) (s0 : Int32) (μ : pb_M) : Option (Int32 × pb_M) :=
  pb_b (pX7_isPerson v7 μ) (fun b71 μ71 =>
  if b71 = (0 : Int32) then
    some ((-9 : Int32), μ71)
  else
  pb_b (pX7_isPerson s0 μ71) (fun b80 μ80 =>
  if b80 = (0 : Int32) then
    some ((-9 : Int32), μ80)
  else
  pb_b (pX7_has v4 v7 μ80) (fun b90 μ90 =>
  if b90 = (0 : Int32) then
    pb_b (pX7_debt (0 : Int32) v7 s0 μ90) (fun b105 μ105 =>
    if pb_in b105 90 then
      if (μ105.1 21 (b105).toNatClampNeg) = (0 : Int32) then
        some ((-9 : Int32), μ105)
      else
      pb_b (pX7_debt (0 : Int32) v7 s0 μ105) (fun b133 μ133 =>
      if pb_in b133 90 then
        if v5 ≤ (μ133.1 21 (b133).toNatClampNeg) then
          S10 (v4 ||| ((1 : Int32) <<< (v7 &&& 31))) v5 (v6 + (1 : Int32)) μ133
        else
        pb_b (pX7_debt (0 : Int32) v7 s0 μ133) (fun b151 μ151 =>
        if pb_in b151 90 then
          S10 (v4 ||| ((1 : Int32) <<< (v7 &&& 31))) (μ151.1 21 (b151).toNatClampNeg) (v6 + (1 : Int32)) μ151
        else none)
      else none)
    else none)
  else
  some ((-9 : Int32), μ90))))
def pX7_leastOf_L10 (v1 : Int32) (v2 : Int32) (v3 : Int32) : Nat → Int32 → Int32 → Int32 → pb_M → Option (Int32 × pb_M)
  | 0, _, _, _, _ => none
  | n + 1, v4, v5, v6, μ =>
    if v3 ≤ v6 then
      some (v5, μ)
    else
    pb_b (pX7_power (10 : Int32) ((v3 - (1 : Int32)) - v6) μ) (fun b25 μ25 =>
    if b25 = 0 then none else
    if v6 = (v3 - (1 : Int32)) then
      pX7_leastOf_J66 v1 v2 v3 (pX7_leastOf_L10 v1 v2 v3 n) v4 v5 v6 ((pb_rem (v2 / b25) (10 : Int32)) - (1 : Int32)) v1 μ25
    else
    pb_b (pX7_power (10 : Int32) ((v3 - (2 : Int32)) - v6) μ25) (fun b57 μ57 =>
    if b57 = 0 then none else
    pX7_leastOf_J66 v1 v2 v3 (pX7_leastOf_L10 v1 v2 v3 n) v4 v5 v6 ((pb_rem (v2 / b25) (10 : Int32)) - (1 : Int32)) ((pb_rem (v2 / b57) (10 : Int32)) - (1 : Int32)) μ57))
def pX7_leastOf (v1 : Int32) (v2 : Int32) (v3 : Int32) (μ : pb_M) : Option (Int32 × pb_M) :=
  pX7_leastOf_L10 v1 v2 v3 pb_F (0 : Int32) (100 : Int32) (0 : Int32) μ
abbrev wX7_leastOf (l : Launch) (E : pb_E) := pb_RW l E { frames := 2, cells := 0, slots := 0, locals := 46 } RX7 cX7_leastOf 9 (some .int) (fun _ => True) 0 0 (pb_Qf E (fun z : Int32 => some (.int z)))
set_option maxRecDepth 100000 in
set_option maxHeartbeats 4000000 in
theorem tX7_leastOf_J66 (l : Launch) (E : pb_E) (v1 : Int32) (v2 : Int32) (v3 : Int32) {S10 : Int32 → Int32 → Int32 → pb_M → Option (Int32 × pb_M)} (hS10 : ∀ (w4 : Int32) (w5 : Int32) (w6 : Int32) (μ : pb_M), wX7_leastOf l E 10 [some (.ref (E.2.1 19)), some (.int v1), some (.int v2), some (.int v3), some (.int w4), some (.int w5), some (.int w6), none, none] [] μ (S10 w4 w5 w6 μ)) : ∀ (v4 : Int32) (v5 : Int32) (v6 : Int32) (v7 : Int32) (s0 : Int32) (μ : pb_M), wX7_leastOf l E 66 [some (.ref (E.2.1 19)), some (.int v1), some (.int v2), some (.int v3), some (.int v4), some (.int v5), some (.int v6), some (.int v7), none] [.int s0] μ (pX7_leastOf_J66 v1 v2 v3 S10 v4 v5 v6 v7 s0 μ) := by
  intro v4 v5 v6 v7 s0 μ
  unfold pX7_leastOf_J66
  refine pb_istore 68 (i := 8) (L' := [some (.ref (E.2.1 19)), some (.int v1), some (.int v2), some (.int v3), some (.int v4), some (.int v5), some (.int v6), some (.int v7), some (.int s0)]) dX7_leastOf_66 (by decide) rfl rfl rfl ?_
  refine pb_aload_n 69 dX7_leastOf_68 rfl rfl rfl ?_
  refine pb_iload 71 dX7_leastOf_69 rfl rfl ?_
  refine cl_X7_isPerson 74 ⟨by decide, by decide, by decide, by decide⟩ (Nat.le_of_ble_eq_true rfl) ml_X7_100 dX7_leastOf_71 rfl (fun b71 μ71 => ?_)
  refine pb_if_eq 77 (tgt := 112) dX7_leastOf_74 (by decide) rfl (fun _ => ?_) (fun _ => ?_)
  · refine pb_bipush 114 (v := -9) dX7_leastOf_112 rfl (by decide) ?_
    exact pb_iret dX7_leastOf_114
  · refine pb_aload_n 78 dX7_leastOf_77 rfl rfl rfl ?_
    refine pb_iload 80 dX7_leastOf_78 rfl rfl ?_
    refine cl_X7_isPerson 83 ⟨by decide, by decide, by decide, by decide⟩ (Nat.le_of_ble_eq_true rfl) ml_X7_100 dX7_leastOf_80 rfl (fun b80 μ80 => ?_)
    refine pb_if_eq 86 (tgt := 112) dX7_leastOf_83 (by decide) rfl (fun _ => ?_) (fun _ => ?_)
    · refine pb_bipush 114 (v := -9) dX7_leastOf_112 rfl (by decide) ?_
      exact pb_iret dX7_leastOf_114
    · refine pb_iload 88 dX7_leastOf_86 rfl rfl ?_
      refine pb_iload 90 dX7_leastOf_88 rfl rfl ?_
      refine cl_X7_has 93 ⟨by decide, by decide, by decide, by decide⟩ (Nat.le_of_ble_eq_true rfl) ml_X7_62 dX7_leastOf_90 rfl (fun b90 μ90 => ?_)
      refine pb_if_ne 96 (tgt := 112) dX7_leastOf_93 (by decide) rfl (fun _ => ?_) (fun _ => ?_)
      · refine pb_aload_n 97 dX7_leastOf_96 rfl rfl rfl ?_
        refine pb_getR 100 (j := 3) (d := 21) in_X7 rfl (by decide) rfl rfl (by decide) fl_X7_13 dX7_leastOf_97 rfl ?_
        refine pb_iconst 101 (v := 0) dX7_leastOf_100 rfl (by decide) ?_
        refine pb_iload 103 dX7_leastOf_101 rfl rfl ?_
        refine pb_iload 105 dX7_leastOf_103 rfl rfl ?_
        refine cl_X7_debt 108 ⟨by decide, by decide, by decide, by decide⟩ (Nat.le_of_ble_eq_true rfl) ml_X7_104 dX7_leastOf_105 rfl (fun b105 μ105 => ?_)
        refine pb_guard (fun hin => pb_iald 109 rfl hin rfl dX7_leastOf_108 rfl ?_)
        refine pb_if_ne 112 (tgt := 115) dX7_leastOf_109 (by decide) rfl (fun _ => ?_) (fun _ => ?_)
        · refine pb_bipush 114 (v := -9) dX7_leastOf_112 rfl (by decide) ?_
          exact pb_iret dX7_leastOf_114
        · refine pb_iload 117 dX7_leastOf_115 rfl rfl ?_
          refine pb_iconst 118 (v := 1) dX7_leastOf_117 rfl (by decide) ?_
          refine pb_iload 120 dX7_leastOf_118 rfl rfl ?_
          refine pb_ishl 121 dX7_leastOf_120 rfl ?_
          refine pb_ior 122 dX7_leastOf_121 rfl ?_
          refine pb_istore 124 (i := 4) (L' := [some (.ref (E.2.1 19)), some (.int v1), some (.int v2), some (.int v3), some (.int (v4 ||| ((1 : Int32) <<< (v7 &&& 31)))), some (.int v5), some (.int v6), some (.int v7), some (.int s0)]) dX7_leastOf_122 (by decide) rfl rfl rfl ?_
          refine pb_aload_n 125 dX7_leastOf_124 rfl rfl rfl ?_
          refine pb_getR 128 (j := 3) (d := 21) in_X7 rfl (by decide) rfl rfl (by decide) fl_X7_13 dX7_leastOf_125 rfl ?_
          refine pb_iconst 129 (v := 0) dX7_leastOf_128 rfl (by decide) ?_
          refine pb_iload 131 dX7_leastOf_129 rfl rfl ?_
          refine pb_iload 133 dX7_leastOf_131 rfl rfl ?_
          refine cl_X7_debt 136 ⟨by decide, by decide, by decide, by decide⟩ (Nat.le_of_ble_eq_true rfl) ml_X7_104 dX7_leastOf_133 rfl (fun b133 μ133 => ?_)
          refine pb_guard (fun hin => pb_iald 137 rfl hin rfl dX7_leastOf_136 rfl ?_)
          refine pb_iload 139 dX7_leastOf_137 rfl rfl ?_
          refine pb_icmp_ge 142 (tgt := 158) dX7_leastOf_139 (by decide) rfl (fun _ => ?_) (fun _ => ?_)
          · refine pb_iload 160 dX7_leastOf_158 rfl rfl ?_
            refine pb_istore 162 (i := 5) (L' := [some (.ref (E.2.1 19)), some (.int v1), some (.int v2), some (.int v3), some (.int (v4 ||| ((1 : Int32) <<< (v7 &&& 31)))), some (.int v5), some (.int v6), some (.int v7), some (.int s0)]) dX7_leastOf_160 (by decide) rfl rfl rfl ?_
            refine pb_iinc 165 (i := 6) (v := (v6 + (1 : Int32))) (L' := [some (.ref (E.2.1 19)), some (.int v1), some (.int v2), some (.int v3), some (.int (v4 ||| ((1 : Int32) <<< (v7 &&& 31)))), some (.int v5), some (.int (v6 + (1 : Int32))), some (.int v7), some (.int s0)]) dX7_leastOf_162 rfl rfl (by decide) rfl rfl rfl ?_
            refine pb_goto (tgt := 10) dX7_leastOf_165 (by decide) ?_
            refine pb_weakM (L' := [some (.ref (E.2.1 19)), some (.int v1), some (.int v2), some (.int v3), some (.int (v4 ||| ((1 : Int32) <<< (v7 &&& 31)))), some (.int v5), some (.int (v6 + (1 : Int32))), none, none]) [true, true, true, true, true, true, true, false, false] rfl ?_
            exact hS10 (v4 ||| ((1 : Int32) <<< (v7 &&& 31))) v5 (v6 + (1 : Int32)) μ133
          · refine pb_aload_n 143 dX7_leastOf_142 rfl rfl rfl ?_
            refine pb_getR 146 (j := 3) (d := 21) in_X7 rfl (by decide) rfl rfl (by decide) fl_X7_13 dX7_leastOf_143 rfl ?_
            refine pb_iconst 147 (v := 0) dX7_leastOf_146 rfl (by decide) ?_
            refine pb_iload 149 dX7_leastOf_147 rfl rfl ?_
            refine pb_iload 151 dX7_leastOf_149 rfl rfl ?_
            refine cl_X7_debt 154 ⟨by decide, by decide, by decide, by decide⟩ (Nat.le_of_ble_eq_true rfl) ml_X7_104 dX7_leastOf_151 rfl (fun b151 μ151 => ?_)
            refine pb_guard (fun hin => pb_iald 155 rfl hin rfl dX7_leastOf_154 rfl ?_)
            refine pb_goto (tgt := 160) dX7_leastOf_155 (by decide) ?_
            refine pb_istore 162 (i := 5) (L' := [some (.ref (E.2.1 19)), some (.int v1), some (.int v2), some (.int v3), some (.int (v4 ||| ((1 : Int32) <<< (v7 &&& 31)))), some (.int (μ151.1 21 (b151).toNatClampNeg)), some (.int v6), some (.int v7), some (.int s0)]) dX7_leastOf_160 (by decide) rfl rfl rfl ?_
            refine pb_iinc 165 (i := 6) (v := (v6 + (1 : Int32))) (L' := [some (.ref (E.2.1 19)), some (.int v1), some (.int v2), some (.int v3), some (.int (v4 ||| ((1 : Int32) <<< (v7 &&& 31)))), some (.int (μ151.1 21 (b151).toNatClampNeg)), some (.int (v6 + (1 : Int32))), some (.int v7), some (.int s0)]) dX7_leastOf_162 rfl rfl (by decide) rfl rfl rfl ?_
            refine pb_goto (tgt := 10) dX7_leastOf_165 (by decide) ?_
            refine pb_weakM (L' := [some (.ref (E.2.1 19)), some (.int v1), some (.int v2), some (.int v3), some (.int (v4 ||| ((1 : Int32) <<< (v7 &&& 31)))), some (.int (μ151.1 21 (b151).toNatClampNeg)), some (.int (v6 + (1 : Int32))), none, none]) [true, true, true, true, true, true, true, false, false] rfl ?_
            exact hS10 (v4 ||| ((1 : Int32) <<< (v7 &&& 31))) (μ151.1 21 (b151).toNatClampNeg) (v6 + (1 : Int32)) μ151
      · refine pb_bipush 114 (v := -9) dX7_leastOf_112 rfl (by decide) ?_
        exact pb_iret dX7_leastOf_114
set_option maxRecDepth 100000 in
set_option maxHeartbeats 4000000 in
theorem tX7_leastOf_L10 (l : Launch) (E : pb_E) (v1 : Int32) (v2 : Int32) (v3 : Int32)   : ∀ (n : Nat) (v4 : Int32) (v5 : Int32) (v6 : Int32) (μ : pb_M), wX7_leastOf l E 10 [some (.ref (E.2.1 19)), some (.int v1), some (.int v2), some (.int v3), some (.int v4), some (.int v5), some (.int v6), none, none] [] μ (pX7_leastOf_L10 v1 v2 v3 n v4 v5 v6 μ) := by
  intro n
  induction n with
  | zero => intro v4 v5 v6 μ; exact pb_none
  | succ n ih =>
    intro v4 v5 v6 μ
    rw [pX7_leastOf_L10]
    refine pb_iload 12 dX7_leastOf_10 rfl rfl ?_
    refine pb_iload_n 13 dX7_leastOf_12 rfl rfl rfl ?_
    refine pb_icmp_ge 16 (tgt := 168) dX7_leastOf_13 (by decide) rfl (fun _ => ?_) (fun _ => ?_)
    · refine pb_iload 170 dX7_leastOf_168 rfl rfl ?_
      exact pb_iret dX7_leastOf_170
    · refine pb_iload_n 17 dX7_leastOf_16 rfl rfl rfl ?_
      refine pb_bipush 19 (v := 10) dX7_leastOf_17 rfl (by decide) ?_
      refine pb_iload_n 20 dX7_leastOf_19 rfl rfl rfl ?_
      refine pb_iconst 21 (v := 1) dX7_leastOf_20 rfl (by decide) ?_
      refine pb_isub 22 dX7_leastOf_21 rfl ?_
      refine pb_iload 24 dX7_leastOf_22 rfl rfl ?_
      refine pb_isub 25 dX7_leastOf_24 rfl ?_
      refine cl_X7_power 28 ⟨by decide, by decide, by decide, by decide⟩ (Nat.le_of_ble_eq_true rfl) ml_X7_159 dX7_leastOf_25 rfl (fun b25 μ25 => ?_)
      refine pb_guardN (fun hne => pb_idiv 29 dX7_leastOf_28 rfl hne ?_)
      refine pb_bipush 31 (v := 10) dX7_leastOf_29 rfl (by decide) ?_
      refine pb_irem 32 dX7_leastOf_31 rfl (by decide) ?_
      refine pb_iconst 33 (v := 1) dX7_leastOf_32 rfl (by decide) ?_
      refine pb_isub 34 dX7_leastOf_33 rfl ?_
      refine pb_istore 36 (i := 7) (L' := [some (.ref (E.2.1 19)), some (.int v1), some (.int v2), some (.int v3), some (.int v4), some (.int v5), some (.int v6), some (.int ((pb_rem (v2 / b25) (10 : Int32)) - (1 : Int32))), none]) dX7_leastOf_34 (by decide) rfl rfl rfl ?_
      refine pb_iload 38 dX7_leastOf_36 rfl rfl ?_
      refine pb_iload_n 39 dX7_leastOf_38 rfl rfl rfl ?_
      refine pb_iconst 40 (v := 1) dX7_leastOf_39 rfl (by decide) ?_
      refine pb_isub 41 dX7_leastOf_40 rfl ?_
      refine pb_icmp_ne 44 (tgt := 48) dX7_leastOf_41 (by decide) rfl (fun _ => ?_) (fun _ => ?_)
      · refine pb_iload_n 45 dX7_leastOf_44 rfl rfl rfl ?_
        refine pb_goto (tgt := 66) dX7_leastOf_45 (by decide) ?_
        exact tX7_leastOf_J66 l E v1 v2 v3 ih v4 v5 v6 ((pb_rem (v2 / b25) (10 : Int32)) - (1 : Int32)) v1 μ25
      · refine pb_iload_n 49 dX7_leastOf_48 rfl rfl rfl ?_
        refine pb_bipush 51 (v := 10) dX7_leastOf_49 rfl (by decide) ?_
        refine pb_iload_n 52 dX7_leastOf_51 rfl rfl rfl ?_
        refine pb_iconst 53 (v := 2) dX7_leastOf_52 rfl (by decide) ?_
        refine pb_isub 54 dX7_leastOf_53 rfl ?_
        refine pb_iload 56 dX7_leastOf_54 rfl rfl ?_
        refine pb_isub 57 dX7_leastOf_56 rfl ?_
        refine cl_X7_power 60 ⟨by decide, by decide, by decide, by decide⟩ (Nat.le_of_ble_eq_true rfl) ml_X7_159 dX7_leastOf_57 rfl (fun b57 μ57 => ?_)
        refine pb_guardN (fun hne => pb_idiv 61 dX7_leastOf_60 rfl hne ?_)
        refine pb_bipush 63 (v := 10) dX7_leastOf_61 rfl (by decide) ?_
        refine pb_irem 64 dX7_leastOf_63 rfl (by decide) ?_
        refine pb_iconst 65 (v := 1) dX7_leastOf_64 rfl (by decide) ?_
        refine pb_isub 66 dX7_leastOf_65 rfl ?_
        exact tX7_leastOf_J66 l E v1 v2 v3 ih v4 v5 v6 ((pb_rem (v2 / b25) (10 : Int32)) - (1 : Int32)) ((pb_rem (v2 / b57) (10 : Int32)) - (1 : Int32)) μ57
set_option maxRecDepth 100000 in
set_option maxHeartbeats 4000000 in
theorem evX7_leastOf (l : Launch) (E : pb_E) (v1 : Int32) (v2 : Int32) (v3 : Int32)  (μ : pb_M) : ∀ b μ', pX7_leastOf v1 v2 v3 μ = some (b, μ') → pb_Ev l E yX7_leastOf cX7_leastOf 9 (some .int) { frames := 2, cells := 0, slots := 0, locals := 46 } [.ref (E.2.1 19), .int v1, .int v2, .int v3] μ ((fun z : Int32 => some (.int z)) b) μ' := by
  refine pb_enter (L := [some (.ref (E.2.1 19)), some (.int v1), some (.int v2), some (.int v3), none, none, none, none, none]) (by decide +kernel) (Nat.le_of_ble_eq_true rfl) (pb_same [none, none, none, none, none, none, none, none, none] rfl) (show wX7_leastOf l E 0 [some (.ref (E.2.1 19)), some (.int v1), some (.int v2), some (.int v3), none, none, none, none, none] [] μ (pX7_leastOf v1 v2 v3 μ) from ?_)
  unfold pX7_leastOf
  refine pb_iconst 1 (v := 0) dX7_leastOf_0 rfl (by decide) ?_
  refine pb_istore 3 (i := 4) (L' := [some (.ref (E.2.1 19)), some (.int v1), some (.int v2), some (.int v3), some (.int (0 : Int32)), none, none, none, none]) dX7_leastOf_1 (by decide) rfl rfl rfl ?_
  refine pb_bipush 5 (v := 100) dX7_leastOf_3 rfl (by decide) ?_
  refine pb_istore 7 (i := 5) (L' := [some (.ref (E.2.1 19)), some (.int v1), some (.int v2), some (.int v3), some (.int (0 : Int32)), some (.int (100 : Int32)), none, none, none]) dX7_leastOf_5 (by decide) rfl rfl rfl ?_
  refine pb_iconst 8 (v := 0) dX7_leastOf_7 rfl (by decide) ?_
  refine pb_istore 10 (i := 6) (L' := [some (.ref (E.2.1 19)), some (.int v1), some (.int v2), some (.int v3), some (.int (0 : Int32)), some (.int (100 : Int32)), some (.int (0 : Int32)), none, none]) dX7_leastOf_8 (by decide) rfl rfl rfl ?_
  exact tX7_leastOf_L10 l E v1 v2 v3 pb_F (0 : Int32) (100 : Int32) (0 : Int32) μ
theorem mc_X7_leastOf : pb_MC yX7_leastOf cX7_leastOf 9 (some .int) 3 := ⟨pb_inW 1054 (by decide +kernel) (by decide +kernel), pb_inW 68 (by decide +kernel) (by decide +kernel), by decide +kernel, by decide +kernel, by decide +kernel⟩
theorem mi_X7_leastOf : Cond.instanceMethod yX7_leastOf ∈ pb_gw := pb_inW 1053 (by decide +kernel) (by decide +kernel)
theorem ms_X7_leastOf : Cond.selects (yX7_leastOf).cls yX7_leastOf yX7_leastOf ∈ pb_gw := pb_inW 52 (by decide +kernel) (by decide +kernel)
theorem cl_X7_leastOf {α : Type} {l : Launch} {E : pb_E} {R : Room} {own : String} {cc : ByteArray} {mL : Nat} {ret : Option FieldType} {Xs : State → Prop} {nc ns : Nat} {Qf : State → Array Value → List Frame → α → pb_M → State → Prop} {pc : Nat} {L : List (Option Value)} {S : List Value} {μ : pb_M} {f : Int32 → pb_M → Option (α × pb_M)} {v1 : Int32} {v2 : Int32} {v3 : Int32} {index : Nat} (q : Nat)  (hR : 2 + 1 ≤ R.frames ∧ 8 + (9 + 11) + 46 ≤ R.locals ∧ nc ≤ R.cells ∧ ns ≤ R.slots) (hW : (S.map fun v => v.category).sum ≤ 8) (hl1 : Cond.methodLink own index yX7_leastOf ∈ pb_gw) (hdg : decode cc pc = .ok (.invokevirtual index, 3)) (hq : pc + 3 = q) (k : ∀ b1 μ1, pb_RW l E R own cc mL ret Xs nc ns Qf q L (.int b1 :: S) μ1 (f b1 μ1)) : pb_RW l E R own cc mL ret Xs nc ns Qf pc L (.int v3 :: .int v2 :: .int v1 :: .ref (E.2.1 19) :: S) μ (pb_b (pX7_leastOf v1 v2 v3 μ) f) := pb_callV q (fun z : Int32 => some (.int z)) mc_X7_leastOf mi_X7_leastOf ms_X7_leastOf (fun b1 μ1 h => evX7_leastOf l E v1 v2 v3  μ b1 μ1 h) rfl (by decide) rfl rfl rfl rfl hR rfl hW hl1 hdg hq k
theorem fl_X7_183 : Cond.fieldLink RX7 183 (TX7 16).1 (TX7 16).2.1 (TX7 16).2.2.1 ∈ pb_gw := pb_inW 800 (by decide +kernel) (by decide +kernel)
theorem ml_X7_180 : Cond.methodLink RX7 180 yX7_leastOf ∈ pb_gw := pb_inW 1051 (by decide +kernel) (by decide +kernel)
def pX7_layRing_L23 (v1 : Int32) (v2 : Int32) (v3 : Int32) (K68 : pb_M → Option (Int32 × pb_M)) : Nat → Int32 → pb_M → Option (Int32 × pb_M)
  | 0, _, _ => none
  | n + 1, v4, μ =>
    pb_b (pX7_power (10 : Int32) (v2 - (1 : Int32)) μ) (fun b31 μ31 =>
    if (v3 + b31) ≤ v4 then
      K68 μ31
    else
    pb_b (pX7_leastOf v1 v4 v2 μ31) (fun b44 μ44 =>
    if ((pb_sA μ44 19 (upd (μ44.1 19) 16 b44)).1 19 16) = (-9 : Int32) then
      pX7_layRing_L23 v1 v2 v3 K68 n (v4 + (1 : Int32)) (pb_sA μ44 19 (upd (μ44.1 19) 16 b44))
    else
    some (v4, (pb_sA μ44 19 (upd (μ44.1 19) 16 b44)))))
def pX7_layRing_L2 (v1 : Int32) : Nat → Int32 → pb_M → Option (Int32 × pb_M)
  | 0, _, _ => none
  | n + 1, v2, μ =>
    if (5 : Int32) ≤ v2 then
      some ((-9 : Int32), (pb_sA μ 19 (upd (μ.1 19) 16 (-9 : Int32))))
    else
    pb_b (pX7_power (10 : Int32) (v2 - (1 : Int32)) μ) (fun b15 μ15 =>
    pX7_layRing_L23 v1 v2 ((v1 + (1 : Int32)) * b15) (fun μk68 =>
      pX7_layRing_L2 v1 n (v2 + (1 : Int32)) μk68) pb_F ((v1 + (1 : Int32)) * b15) μ15)
def pX7_layRing (v1 : Int32) (μ : pb_M) : Option (Int32 × pb_M) :=
  pX7_layRing_L2 v1 pb_F (2 : Int32) μ
abbrev wX7_layRing (l : Launch) (E : pb_E) := pb_RW l E { frames := 3, cells := 0, slots := 0, locals := 74 } RX7 cX7_layRing 5 (some .int) (fun _ => True) 0 0 (pb_Qf E (fun z : Int32 => some (.int z)))
set_option maxRecDepth 100000 in
set_option maxHeartbeats 4000000 in
theorem tX7_layRing_L23 (l : Launch) (E : pb_E) (v1 : Int32) (v2 : Int32) (v3 : Int32) {K68 : pb_M → Option (Int32 × pb_M)} (hK68 : ∀  (μ : pb_M), wX7_layRing l E 68 [some (.ref (E.2.1 19)), some (.int v1), some (.int v2), none, none] [] μ (K68  μ)) : ∀ (n : Nat) (v4 : Int32) (μ : pb_M), wX7_layRing l E 23 [some (.ref (E.2.1 19)), some (.int v1), some (.int v2), some (.int v3), some (.int v4)] [] μ (pX7_layRing_L23 v1 v2 v3 K68 n v4 μ) := by
  intro n
  induction n with
  | zero => intro v4 μ; exact pb_none
  | succ n ih =>
    intro v4 μ
    rw [pX7_layRing_L23]
    refine pb_iload 25 dX7_layRing_23 rfl rfl ?_
    refine pb_iload_n 26 dX7_layRing_25 rfl rfl rfl ?_
    refine pb_bipush 28 (v := 10) dX7_layRing_26 rfl (by decide) ?_
    refine pb_iload_n 29 dX7_layRing_28 rfl rfl rfl ?_
    refine pb_iconst 30 (v := 1) dX7_layRing_29 rfl (by decide) ?_
    refine pb_isub 31 dX7_layRing_30 rfl ?_
    refine cl_X7_power 34 ⟨by decide, by decide, by decide, by decide⟩ (Nat.le_of_ble_eq_true rfl) ml_X7_159 dX7_layRing_31 rfl (fun b31 μ31 => ?_)
    refine pb_iadd 35 dX7_layRing_34 rfl ?_
    refine pb_icmp_ge 38 (tgt := 68) dX7_layRing_35 (by decide) rfl (fun _ => ?_) (fun _ => ?_)
    · refine pb_weakM (L' := [some (.ref (E.2.1 19)), some (.int v1), some (.int v2), none, none]) [true, true, true, false, false] rfl ?_
      exact hK68 μ31
    · refine pb_aload_n 39 dX7_layRing_38 rfl rfl rfl ?_
      refine pb_aload_n 40 dX7_layRing_39 rfl rfl rfl ?_
      refine pb_iload_n 41 dX7_layRing_40 rfl rfl rfl ?_
      refine pb_iload 43 dX7_layRing_41 rfl rfl ?_
      refine pb_iload_n 44 dX7_layRing_43 rfl rfl rfl ?_
      refine cl_X7_leastOf 47 ⟨by decide, by decide, by decide, by decide⟩ (Nat.le_of_ble_eq_true rfl) ml_X7_180 dX7_layRing_44 rfl (fun b44 μ44 => ?_)
      refine pb_putI 50 (j := 16) tyX7 tyX7_ok nmX7 in_X7 rfl (by decide) rfl rfl (by decide) fl_X7_183 rfl (by decide +kernel) dX7_layRing_47 rfl ?_
      refine pb_aload_n 51 dX7_layRing_50 rfl rfl rfl ?_
      refine pb_getI 54 (j := 16) in_X7 rfl (by decide) rfl rfl (by decide) fl_X7_183 dX7_layRing_51 rfl ?_
      refine pb_bipush 56 (v := -9) dX7_layRing_54 rfl (by decide) ?_
      refine pb_icmp_eq 59 (tgt := 62) dX7_layRing_56 (by decide) rfl (fun _ => ?_) (fun _ => ?_)
      · refine pb_iinc 65 (i := 4) (v := (v4 + (1 : Int32))) (L' := [some (.ref (E.2.1 19)), some (.int v1), some (.int v2), some (.int v3), some (.int (v4 + (1 : Int32)))]) dX7_layRing_62 rfl rfl (by decide) rfl rfl rfl ?_
        refine pb_goto (tgt := 23) dX7_layRing_65 (by decide) ?_
        exact ih (v4 + (1 : Int32)) (pb_sA μ44 19 (upd (μ44.1 19) 16 b44))
      · refine pb_iload 61 dX7_layRing_59 rfl rfl ?_
        exact pb_iret dX7_layRing_61
set_option maxRecDepth 100000 in
set_option maxHeartbeats 4000000 in
theorem tX7_layRing_L2 (l : Launch) (E : pb_E) (v1 : Int32)   : ∀ (n : Nat) (v2 : Int32) (μ : pb_M), wX7_layRing l E 2 [some (.ref (E.2.1 19)), some (.int v1), some (.int v2), none, none] [] μ (pX7_layRing_L2 v1 n v2 μ) := by
  intro n
  induction n with
  | zero => intro v2 μ; exact pb_none
  | succ n ih =>
    intro v2 μ
    rw [pX7_layRing_L2]
    refine pb_iload_n 3 dX7_layRing_2 rfl rfl rfl ?_
    refine pb_iconst 4 (v := 5) dX7_layRing_3 rfl (by decide) ?_
    refine pb_icmp_ge 7 (tgt := 74) dX7_layRing_4 (by decide) rfl (fun _ => ?_) (fun _ => ?_)
    · refine pb_aload_n 75 dX7_layRing_74 rfl rfl rfl ?_
      refine pb_bipush 77 (v := -9) dX7_layRing_75 rfl (by decide) ?_
      refine pb_putI 80 (j := 16) tyX7 tyX7_ok nmX7 in_X7 rfl (by decide) rfl rfl (by decide) fl_X7_183 rfl (by decide +kernel) dX7_layRing_77 rfl ?_
      refine pb_bipush 82 (v := -9) dX7_layRing_80 rfl (by decide) ?_
      exact pb_iret dX7_layRing_82
    · refine pb_iload_n 8 dX7_layRing_7 rfl rfl rfl ?_
      refine pb_iconst 9 (v := 1) dX7_layRing_8 rfl (by decide) ?_
      refine pb_iadd 10 dX7_layRing_9 rfl ?_
      refine pb_bipush 12 (v := 10) dX7_layRing_10 rfl (by decide) ?_
      refine pb_iload_n 13 dX7_layRing_12 rfl rfl rfl ?_
      refine pb_iconst 14 (v := 1) dX7_layRing_13 rfl (by decide) ?_
      refine pb_isub 15 dX7_layRing_14 rfl ?_
      refine cl_X7_power 18 ⟨by decide, by decide, by decide, by decide⟩ (Nat.le_of_ble_eq_true rfl) ml_X7_159 dX7_layRing_15 rfl (fun b15 μ15 => ?_)
      refine pb_imul 19 dX7_layRing_18 rfl ?_
      refine pb_istore_n 20 (i := 3) (L' := [some (.ref (E.2.1 19)), some (.int v1), some (.int v2), some (.int ((v1 + (1 : Int32)) * b15)), none]) dX7_layRing_19 rfl (by decide) rfl rfl rfl ?_
      refine pb_iload_n 21 dX7_layRing_20 rfl rfl rfl ?_
      refine pb_istore 23 (i := 4) (L' := [some (.ref (E.2.1 19)), some (.int v1), some (.int v2), some (.int ((v1 + (1 : Int32)) * b15)), some (.int ((v1 + (1 : Int32)) * b15))]) dX7_layRing_21 (by decide) rfl rfl rfl ?_
      refine tX7_layRing_L23 l E v1 v2 ((v1 + (1 : Int32)) * b15) (fun μk68 => ?_) pb_F ((v1 + (1 : Int32)) * b15) μ15
      refine pb_iinc 71 (i := 2) (v := (v2 + (1 : Int32))) (L' := [some (.ref (E.2.1 19)), some (.int v1), some (.int (v2 + (1 : Int32))), none, none]) dX7_layRing_68 rfl rfl (by decide) rfl rfl rfl ?_
      refine pb_goto (tgt := 2) dX7_layRing_71 (by decide) ?_
      exact ih (v2 + (1 : Int32)) μk68
set_option maxRecDepth 100000 in
set_option maxHeartbeats 4000000 in
theorem evX7_layRing (l : Launch) (E : pb_E) (v1 : Int32)  (μ : pb_M) : ∀ b μ', pX7_layRing v1 μ = some (b, μ') → pb_Ev l E yX7_layRing cX7_layRing 5 (some .int) { frames := 3, cells := 0, slots := 0, locals := 74 } [.ref (E.2.1 19), .int v1] μ ((fun z : Int32 => some (.int z)) b) μ' := by
  refine pb_enter (L := [some (.ref (E.2.1 19)), some (.int v1), none, none, none]) (by decide +kernel) (Nat.le_of_ble_eq_true rfl) (pb_same [none, none, none, none, none] rfl) (show wX7_layRing l E 0 [some (.ref (E.2.1 19)), some (.int v1), none, none, none] [] μ (pX7_layRing v1 μ) from ?_)
  unfold pX7_layRing
  refine pb_iconst 1 (v := 2) dX7_layRing_0 rfl (by decide) ?_
  refine pb_istore_n 2 (i := 2) (L' := [some (.ref (E.2.1 19)), some (.int v1), some (.int (2 : Int32)), none, none]) dX7_layRing_1 rfl (by decide) rfl rfl rfl ?_
  exact tX7_layRing_L2 l E v1 pb_F (2 : Int32) μ
theorem mc_X7_layRing : pb_MC yX7_layRing cX7_layRing 5 (some .int) 1 := ⟨pb_inW 1050 (by decide +kernel) (by decide +kernel), pb_inW 68 (by decide +kernel) (by decide +kernel), by decide +kernel, by decide +kernel, by decide +kernel⟩
theorem mi_X7_layRing : Cond.instanceMethod yX7_layRing ∈ pb_gw := pb_inW 1049 (by decide +kernel) (by decide +kernel)
theorem ms_X7_layRing : Cond.selects (yX7_layRing).cls yX7_layRing yX7_layRing ∈ pb_gw := pb_inW 51 (by decide +kernel) (by decide +kernel)
theorem cl_X7_layRing {α : Type} {l : Launch} {E : pb_E} {R : Room} {own : String} {cc : ByteArray} {mL : Nat} {ret : Option FieldType} {Xs : State → Prop} {nc ns : Nat} {Qf : State → Array Value → List Frame → α → pb_M → State → Prop} {pc : Nat} {L : List (Option Value)} {S : List Value} {μ : pb_M} {f : Int32 → pb_M → Option (α × pb_M)} {v1 : Int32} {index : Nat} (q : Nat)  (hR : 3 + 1 ≤ R.frames ∧ 8 + (5 + 11) + 74 ≤ R.locals ∧ nc ≤ R.cells ∧ ns ≤ R.slots) (hW : (S.map fun v => v.category).sum ≤ 8) (hl1 : Cond.methodLink own index yX7_layRing ∈ pb_gw) (hdg : decode cc pc = .ok (.invokevirtual index, 3)) (hq : pc + 3 = q) (k : ∀ b1 μ1, pb_RW l E R own cc mL ret Xs nc ns Qf q L (.int b1 :: S) μ1 (f b1 μ1)) : pb_RW l E R own cc mL ret Xs nc ns Qf pc L (.int v1 :: .ref (E.2.1 19) :: S) μ (pb_b (pX7_layRing v1 μ) f) := pb_callV q (fun z : Int32 => some (.int z)) mc_X7_layRing mi_X7_layRing ms_X7_layRing (fun b1 μ1 h => evX7_layRing l E v1  μ b1 μ1 h) rfl (by decide) rfl rfl rfl rfl hR rfl hW hl1 hdg hq k
