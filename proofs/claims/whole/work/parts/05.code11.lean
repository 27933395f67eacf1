def pX6_ways_L4 (v0 : Int32) (v1 : Int32) : Nat → Int32 → Int32 → pb_M → Option (Int32 × pb_M)
  | 0, _, _, _ => none
  | n + 1, v2, v3, μ =>
    if v1 ≤ v3 then
      some (v2, μ)
    else
    if (v3 + (1 : Int32)) = 0 then none else
    pX6_ways_L4 v0 v1 n ((v2 * (v0 - v3)) / (v3 + (1 : Int32))) (v3 + (1 : Int32)) μ
def pX6_ways (v0 : Int32) (v1 : Int32) (μ : pb_M) : Option (Int32 × pb_M) :=
  pX6_ways_L4 v0 v1 pb_F (1 : Int32) (0 : Int32) μ
abbrev wX6_ways (l : Launch) (E : pb_E) := pb_RW l E { frames := 0, cells := 0, slots := 0, locals := 0 } RX6 cX6_ways 4 (some .int) (fun _ => True) 0 0 (pb_Qf E (fun z : Int32 => some (.int z)))
set_option maxRecDepth 100000 in
set_option maxHeartbeats 4000000 in
theorem tX6_ways_L4 (l : Launch) (E : pb_E) (v0 : Int32) (v1 : Int32)   : ∀ (n : Nat) (v2 : Int32) (v3 : Int32) (μ : pb_M), wX6_ways l E 4 [some (.int v0), some (.int v1), some (.int v2), some (.int v3)] [] μ (pX6_ways_L4 v0 v1 n v2 v3 μ) := by
  intro n
  induction n with
  | zero => intro v2 v3 μ; exact pb_none
  | succ n ih =>
    intro v2 v3 μ
    rw [pX6_ways_L4]
    refine pb_iload_n 5 dX6_ways_4 rfl rfl rfl ?_
    refine pb_iload_n 6 dX6_ways_5 rfl rfl rfl ?_
    refine pb_icmp_ge 9 (tgt := 25) dX6_ways_6 (by decide) rfl (fun _ => ?_) (fun _ => ?_)
    · refine pb_iload_n 26 dX6_ways_25 rfl rfl rfl ?_
      exact pb_iret dX6_ways_26
    · refine pb_iload_n 10 dX6_ways_9 rfl rfl rfl ?_
      refine pb_iload_n 11 dX6_ways_10 rfl rfl rfl ?_
      refine pb_iload_n 12 dX6_ways_11 rfl rfl rfl ?_
      refine pb_isub 13 dX6_ways_12 rfl ?_
      refine pb_imul 14 dX6_ways_13 rfl ?_
      refine pb_iload_n 15 dX6_ways_14 rfl rfl rfl ?_
      refine pb_iconst 16 (v := 1) dX6_ways_15 rfl (by decide) ?_
      refine pb_iadd 17 dX6_ways_16 rfl ?_
      refine pb_guardN (fun hne => pb_idiv 18 dX6_ways_17 rfl hne ?_)
      refine pb_istore_n 19 (i := 2) (L' := [some (.int v0), some (.int v1), some (.int ((v2 * (v0 - v3)) / (v3 + (1 : Int32)))), some (.int v3)]) dX6_ways_18 rfl (by decide) rfl rfl rfl ?_
      refine pb_iinc 22 (i := 3) (v := (v3 + (1 : Int32))) (L' := [some (.int v0), some (.int v1), some (.int ((v2 * (v0 - v3)) / (v3 + (1 : Int32)))), some (.int (v3 + (1 : Int32)))]) dX6_ways_19 rfl rfl (by decide) rfl rfl rfl ?_
      refine pb_goto (tgt := 4) dX6_ways_22 (by decide) ?_
      exact ih ((v2 * (v0 - v3)) / (v3 + (1 : Int32))) (v3 + (1 : Int32)) μ
set_option maxRecDepth 100000 in
set_option maxHeartbeats 4000000 in
theorem evX6_ways (l : Launch) (E : pb_E) (v0 : Int32) (v1 : Int32)  (μ : pb_M) : ∀ b μ', pX6_ways v0 v1 μ = some (b, μ') → pb_Ev l E yX6_ways cX6_ways 4 (some .int) { frames := 0, cells := 0, slots := 0, locals := 0 } [.int v0, .int v1] μ ((fun z : Int32 => some (.int z)) b) μ' := by
  refine pb_enter (L := [some (.int v0), some (.int v1), none, none]) (by decide +kernel) (Nat.le_of_ble_eq_true rfl) (pb_same [none, none, none, none] rfl) (show wX6_ways l E 0 [some (.int v0), some (.int v1), none, none] [] μ (pX6_ways v0 v1 μ) from ?_)
  unfold pX6_ways
  refine pb_iconst 1 (v := 1) dX6_ways_0 rfl (by decide) ?_
  refine pb_istore_n 2 (i := 2) (L' := [some (.int v0), some (.int v1), some (.int (1 : Int32)), none]) dX6_ways_1 rfl (by decide) rfl rfl rfl ?_
  refine pb_iconst 3 (v := 0) dX6_ways_2 rfl (by decide) ?_
  refine pb_istore_n 4 (i := 3) (L' := [some (.int v0), some (.int v1), some (.int (1 : Int32)), some (.int (0 : Int32))]) dX6_ways_3 rfl (by decide) rfl rfl rfl ?_
  exact tX6_ways_L4 l E v0 v1 pb_F (1 : Int32) (0 : Int32) μ
theorem mc_X6_ways : pb_MC yX6_ways cX6_ways 4 (some .int) 2 := ⟨pb_inW 736 (by decide +kernel) (by decide +kernel), pb_inW 61 (by decide +kernel) (by decide +kernel), by decide +kernel, by decide +kernel, by decide +kernel⟩
theorem ms_X6_ways : Cond.static yX6_ways ∈ pb_gw := pb_inW 735 (by decide +kernel) (by decide +kernel)
theorem cl_X6_ways {α : Type} {l : Launch} {E : pb_E} {R : Room} {own : String} {cc : ByteArray} {mL : Nat} {ret : Option FieldType} {Xs : State → Prop} {nc ns : Nat} {Qf : State → Array Value → List Frame → α → pb_M → State → Prop} {pc : Nat} {L : List (Option Value)} {S : List Value} {μ : pb_M} {f : Int32 → pb_M → Option (α × pb_M)} {v0 : Int32} {v1 : Int32} {index : Nat} (q : Nat)  (hR : 0 + 1 ≤ R.frames ∧ 8 + (4 + 11) + 0 ≤ R.locals ∧ nc ≤ R.cells ∧ ns ≤ R.slots) (hW : (S.map fun v => v.category).sum ≤ 8) (hl1 : Cond.methodLink own index yX6_ways ∈ pb_gw) (hdg : decode cc pc = .ok (.invokestatic index, 3)) (hq : pc + 3 = q) (k : ∀ b1 μ1, pb_RW l E R own cc mL ret Xs nc ns Qf q L (.int b1 :: S) μ1 (f b1 μ1)) : pb_RW l E R own cc mL ret Xs nc ns Qf pc L (.int v1 :: .int v0 :: S) μ (pb_b (pX6_ways v0 v1 μ) f) := pb_callS q (fun z : Int32 => some (.int z)) mc_X6_ways ms_X6_ways (fun b1 μ1 h => evX6_ways l E v0 v1  μ b1 μ1 h) rfl rfl rfl hR rfl hW hl1 hdg hq k
def pX6_power_L4 (v0 : Int32) (v1 : Int32) : Nat → Int32 → Int32 → pb_M → Option (Int32 × pb_M)
  | 0, _, _, _ => none
  | n + 1, v2, v3, μ =>
    if v1 ≤ v3 then
      some (v2, μ)
    else
    pX6_power_L4 v0 v1 n (v2 * v0) (v3 + (1 : Int32)) μ
def pX6_power (v0 : Int32) (v1 : Int32) (μ : pb_M) : Option (Int32 × pb_M) :=
  pX6_power_L4 v0 v1 pb_F (1 : Int32) (0 : Int32) μ
abbrev wX6_power (l : Launch) (E : pb_E) := pb_RW l E { frames := 0, cells := 0, slots := 0, locals := 0 } RX6 cX6_power 4 (some .int) (fun _ => True) 0 0 (pb_Qf E (fun z : Int32 => some (.int z)))
set_option maxRecDepth 100000 in
set_option maxHeartbeats 4000000 in
theorem tX6_power_L4 (l : Launch) (E : pb_E) (v0 : Int32) (v1 : Int32)   : ∀ (n : Nat) (v2 : Int32) (v3 : Int32) (μ : pb_M), wX6_power l E 4 [some (.int v0), some (.int v1), some (.int v2), some (.int v3)] [] μ (pX6_power_L4 v0 v1 n v2 v3 μ) := by
  intro n
  induction n with
  | zero => intro v2 v3 μ; exact pb_none
  | succ n ih =>
    intro v2 v3 μ
    rw [pX6_power_L4]
    refine pb_iload_n 5 dX6_power_4 rfl rfl rfl ?_
    refine pb_iload_n 6 dX6_power_5 rfl rfl rfl ?_
    refine pb_icmp_ge 9 (tgt := 19) dX6_power_6 (by decide) rfl (fun _ => ?_) (fun _ => ?_)
    · refine pb_iload_n 20 dX6_power_19 rfl rfl rfl ?_
      exact pb_iret dX6_power_20
    · refine pb_iload_n 10 dX6_power_9 rfl rfl rfl ?_
      refine pb_iload_n 11 dX6_power_10 rfl rfl rfl ?_
      refine pb_imul 12 dX6_power_11 rfl ?_
      refine pb_istore_n 13 (i := 2) (L' := [some (.int v0), some (.int v1), some (.int (v2 * v0)), some (.int v3)]) dX6_power_12 rfl (by decide) rfl rfl rfl ?_
      refine pb_iinc 16 (i := 3) (v := (v3 + (1 : Int32))) (L' := [some (.int v0), some (.int v1), some (.int (v2 * v0)), some (.int (v3 + (1 : Int32)))]) dX6_power_13 rfl rfl (by decide) rfl rfl rfl ?_
      refine pb_goto (tgt := 4) dX6_power_16 (by decide) ?_
      exact ih (v2 * v0) (v3 + (1 : Int32)) μ
set_option maxRecDepth 100000 in
set_option maxHeartbeats 4000000 in
theorem evX6_power (l : Launch) (E : pb_E) (v0 : Int32) (v1 : Int32)  (μ : pb_M) : ∀ b μ', pX6_power v0 v1 μ = some (b, μ') → pb_Ev l E yX6_power cX6_power 4 (some .int) { frames := 0, cells := 0, slots := 0, locals := 0 } [.int v0, .int v1] μ ((fun z : Int32 => some (.int z)) b) μ' := by
  refine pb_enter (L := [some (.int v0), some (.int v1), none, none]) (by decide +kernel) (Nat.le_of_ble_eq_true rfl) (pb_same [none, none, none, none] rfl) (show wX6_power l E 0 [some (.int v0), some (.int v1), none, none] [] μ (pX6_power v0 v1 μ) from ?_)
  unfold pX6_power
  refine pb_iconst 1 (v := 1) dX6_power_0 rfl (by decide) ?_
  refine pb_istore_n 2 (i := 2) (L' := [some (.int v0), some (.int v1), some (.int (1 : Int32)), none]) dX6_power_1 rfl (by decide) rfl rfl rfl ?_
  refine pb_iconst 3 (v := 0) dX6_power_2 rfl (by decide) ?_
  refine pb_istore_n 4 (i := 3) (L' := [some (.int v0), some (.int v1), some (.int (1 : Int32)), some (.int (0 : Int32))]) dX6_power_3 rfl (by decide) rfl rfl rfl ?_
  exact tX6_power_L4 l E v0 v1 pb_F (1 : Int32) (0 : Int32) μ
theorem mc_X6_power : pb_MC yX6_power cX6_power 4 (some .int) 2 := ⟨pb_inW 739 (by decide +kernel) (by decide +kernel), pb_inW 61 (by decide +kernel) (by decide +kernel), by decide +kernel, by decide +kernel, by decide +kernel⟩
theorem ms_X6_power : Cond.static yX6_power ∈ pb_gw := pb_inW 738 (by decide +kernel) (by decide +kernel)
theorem cl_X6_power {α : Type} {l : Launch} {E : pb_E} {R : Room} {own : String} {cc : ByteArray} {mL : Nat} {ret : Option FieldType} {Xs : State → Prop} {nc ns : Nat} {Qf : State → Array Value → List Frame → α → pb_M → State → Prop} {pc : Nat} {L : List (Option Value)} {S : List Value} {μ : pb_M} {f : Int32 → pb_M → Option (α × pb_M)} {v0 : Int32} {v1 : Int32} {index : Nat} (q : Nat)  (hR : 0 + 1 ≤ R.frames ∧ 8 + (4 + 11) + 0 ≤ R.locals ∧ nc ≤ R.cells ∧ ns ≤ R.slots) (hW : (S.map fun v => v.category).sum ≤ 8) (hl1 : Cond.methodLink own index yX6_power ∈ pb_gw) (hdg : decode cc pc = .ok (.invokestatic index, 3)) (hq : pc + 3 = q) (k : ∀ b1 μ1, pb_RW l E R own cc mL ret Xs nc ns Qf q L (.int b1 :: S) μ1 (f b1 μ1)) : pb_RW l E R own cc mL ret Xs nc ns Qf pc L (.int v1 :: .int v0 :: S) μ (pb_b (pX6_power v0 v1 μ) f) := pb_callS q (fun z : Int32 => some (.int z)) mc_X6_power ms_X6_power (fun b1 μ1 h => evX6_power l E v0 v1  μ b1 μ1 h) rfl rfl rfl hR rfl hW hl1 hdg hq k
theorem ml_X6_247 : Cond.methodLink RX6 247 yX6_ways ∈ pb_gw := pb_inW 734 (by decide +kernel) (by decide +kernel)
theorem ml_X6_250 : Cond.methodLink RX6 250 yX6_power ∈ pb_gw := pb_inW 737 (by decide +kernel) (by decide +kernel)
def pX6_chance (v1 : Int32) (v2 : Int32) (v3 : Int32) (μ : pb_M) : Option (Int32 × pb_M) :=
  if v1 < (0 : Int32) then
    some ((-2 : Int32), μ)
  else
  if (5 : Int32) < v1 then
    some ((-2 : Int32), μ)
  else
  if v2 < (0 : Int32) then
    some ((-2 : Int32), μ)
  else
  if v2 ≤ (10 : Int32) then
    pb_b (pX5_shutBeasts 4 μ) (fun b26 μ26 =>
    pb_b (pJ6_bitCount_0f7a4 b26 μ26) (fun b29 μ29 =>
    if (0 : Int32) ≤ (b29 - v1) then
      pb_b (pX6_ways b29 v1 μ29) (fun b55 μ55 =>
      pb_b (pX6_power v2 v1 μ55) (fun b60 μ60 =>
      pb_b (pX6_power ((10 : Int32) - v2) (b29 - v1) μ60) (fun b70 μ70 =>
      pb_b (pX6_power (10 : Int32) b29 μ70) (fun b82 μ82 =>
      pb_b (pX6_fraction ((b55 * b60) * b70) b82 v3 μ82) (fun b86 μ86 =>
      some (b86, μ86))))))
    else
    pb_b (pX6_fraction (0 : Int32) (1 : Int32) v3 μ29) (fun b48 μ48 =>
    some (b48, μ48))))
  else
  some ((-2 : Int32), μ)
abbrev wX6_chance (l : Launch) (E : pb_E) := pb_RW l E { frames := 3, cells := 0, slots := 0, locals := 64 } RX6 cX6_chance 7 (some .int) (fun _ => True) 0 0 (pb_Qf E (fun z : Int32 => some (.int z)))
set_option maxRecDepth 100000 in
set_option maxHeartbeats 4000000 in
theorem evX6_chance (l : Launch) (E : pb_E) (v1 : Int32) (v2 : Int32) (v3 : Int32)  (μ : pb_M) : ∀ b μ', pX6_chance v1 v2 v3 μ = some (b, μ') → pb_Ev l E yX6_chance cX6_chance 7 (some .int) { frames := 3, cells := 0, slots := 0, locals := 64 } [.ref (E.2.1 0), .int v1, .int v2, .int v3] μ ((fun z : Int32 => some (.int z)) b) μ' := by
  refine pb_enter (L := [some (.ref (E.2.1 0)), some (.int v1), some (.int v2), some (.int v3), none, none, none]) (by decide +kernel) (Nat.le_of_ble_eq_true rfl) (pb_same [none, none, none, none, none, none, none] rfl) (show wX6_chance l E 0 [some (.ref (E.2.1 0)), some (.int v1), some (.int v2), some (.int v3), none, none, none] [] μ (pX6_chance v1 v2 v3 μ) from ?_)
  unfold pX6_chance
  refine pb_iload_n 1 dX6_chance_0 rfl rfl rfl ?_
  refine pb_if_lt 4 (tgt := 19) dX6_chance_1 (by decide) rfl (fun _ => ?_) (fun _ => ?_)
  · refine pb_bipush 21 (v := -2) dX6_chance_19 rfl (by decide) ?_
    exact pb_iret dX6_chance_21
  · refine pb_iload_n 5 dX6_chance_4 rfl rfl rfl ?_
    refine pb_iconst 6 (v := 5) dX6_chance_5 rfl (by decide) ?_
    refine pb_icmp_gt 9 (tgt := 19) dX6_chance_6 (by decide) rfl (fun _ => ?_) (fun _ => ?_)
    · refine pb_bipush 21 (v := -2) dX6_chance_19 rfl (by decide) ?_
      exact pb_iret dX6_chance_21
    · refine pb_iload_n 10 dX6_chance_9 rfl rfl rfl ?_
      refine pb_if_lt 13 (tgt := 19) dX6_chance_10 (by decide) rfl (fun _ => ?_) (fun _ => ?_)
      · refine pb_bipush 21 (v := -2) dX6_chance_19 rfl (by decide) ?_
        exact pb_iret dX6_chance_21
      · refine pb_iload_n 14 dX6_chance_13 rfl rfl rfl ?_
        refine pb_bipush 16 (v := 10) dX6_chance_14 rfl (by decide) ?_
        refine pb_icmp_le 19 (tgt := 22) dX6_chance_16 (by decide) rfl (fun _ => ?_) (fun _ => ?_)
        · refine pb_aload_n 23 dX6_chance_22 rfl rfl rfl ?_
          refine pb_getR 26 (j := 1) (d := 4) in_X6 rfl (by decide) rfl rfl (by decide) fl_X6_19 dX6_chance_23 rfl ?_
          refine cl_X5_shutBeasts 29 pb_V4 ⟨by decide, by decide, by decide, by decide⟩ (Nat.le_of_ble_eq_true rfl) ml_X6_152 dX6_chance_26 rfl (fun b26 μ26 => ?_)
          refine cl_J6_bitCount_0f7a4 32 ⟨by decide, by decide, by decide, by decide⟩ (Nat.le_of_ble_eq_true rfl) ml_X6_155 dX6_chance_29 rfl (fun b29 μ29 => ?_)
          refine pb_istore 34 (i := 4) (L' := [some (.ref (E.2.1 0)), some (.int v1), some (.int v2), some (.int v3), some (.int b29), none, none]) dX6_chance_32 (by decide) rfl rfl rfl ?_
          refine pb_iload 36 dX6_chance_34 rfl rfl ?_
          refine pb_iload_n 37 dX6_chance_36 rfl rfl rfl ?_
          refine pb_isub 38 dX6_chance_37 rfl ?_
          refine pb_istore 40 (i := 5) (L' := [some (.ref (E.2.1 0)), some (.int v1), some (.int v2), some (.int v3), some (.int b29), some (.int (b29 - v1)), none]) dX6_chance_38 (by decide) rfl rfl rfl ?_
          refine pb_iload 42 dX6_chance_40 rfl rfl ?_
          refine pb_if_ge 45 (tgt := 52) dX6_chance_42 (by decide) rfl (fun _ => ?_) (fun _ => ?_)
          · refine pb_iload 54 dX6_chance_52 rfl rfl ?_
            refine pb_iload_n 55 dX6_chance_54 rfl rfl rfl ?_
            refine cl_X6_ways 58 ⟨by decide, by decide, by decide, by decide⟩ (Nat.le_of_ble_eq_true rfl) ml_X6_247 dX6_chance_55 rfl (fun b55 μ55 => ?_)
            refine pb_iload_n 59 dX6_chance_58 rfl rfl rfl ?_
            refine pb_iload_n 60 dX6_chance_59 rfl rfl rfl ?_
            refine cl_X6_power 63 ⟨by decide, by decide, by decide, by decide⟩ (Nat.le_of_ble_eq_true rfl) ml_X6_250 dX6_chance_60 rfl (fun b60 μ60 => ?_)
            refine pb_imul 64 dX6_chance_63 rfl ?_
            refine pb_bipush 66 (v := 10) dX6_chance_64 rfl (by decide) ?_
            refine pb_iload_n 67 dX6_chance_66 rfl rfl rfl ?_
            refine pb_isub 68 dX6_chance_67 rfl ?_
            refine pb_iload 70 dX6_chance_68 rfl rfl ?_
            refine cl_X6_power 73 ⟨by decide, by decide, by decide, by decide⟩ (Nat.le_of_ble_eq_true rfl) ml_X6_250 dX6_chance_70 rfl (fun b70 μ70 => ?_)
            refine pb_imul 74 dX6_chance_73 rfl ?_
            refine pb_istore 76 (i := 6) (L' := [some (.ref (E.2.1 0)), some (.int v1), some (.int v2), some (.int v3), some (.int b29), some (.int (b29 - v1)), some (.int ((b55 * b60) * b70))]) dX6_chance_74 (by decide) rfl rfl rfl ?_
            refine pb_iload 78 dX6_chance_76 rfl rfl ?_
            refine pb_bipush 80 (v := 10) dX6_chance_78 rfl (by decide) ?_
            refine pb_iload 82 dX6_chance_80 rfl rfl ?_
            refine cl_X6_power 85 ⟨by decide, by decide, by decide, by decide⟩ (Nat.le_of_ble_eq_true rfl) ml_X6_250 dX6_chance_82 rfl (fun b82 μ82 => ?_)
            refine pb_iload_n 86 dX6_chance_85 rfl rfl rfl ?_
            refine cl_X6_fraction 89 ⟨by decide, by decide, by decide, by decide⟩ (Nat.le_of_ble_eq_true rfl) ml_X6_209 dX6_chance_86 rfl (fun b86 μ86 => ?_)
            exact pb_iret dX6_chance_89
          · refine pb_iconst 46 (v := 0) dX6_chance_45 rfl (by decide) ?_
            refine pb_iconst 47 (v := 1) dX6_chance_46 rfl (by decide) ?_
            refine pb_iload_n 48 dX6_chance_47 rfl rfl rfl ?_
            refine cl_X6_fraction 51 ⟨by decide, by decide, by decide, by decide⟩ (Nat.le_of_ble_eq_true rfl) ml_X6_209 dX6_chance_48 rfl (fun b48 μ48 => ?_)
            exact pb_iret dX6_chance_51
        · refine pb_bipush 21 (v := -2) dX6_chance_19 rfl (by decide) ?_
          exact pb_iret dX6_chance_21
theorem mc_X6_chance : pb_MC yX6_chance cX6_chance 7 (some .int) 3 := ⟨pb_inW 733 (by decide +kernel) (by decide +kernel), pb_inW 61 (by decide +kernel) (by decide +kernel), by decide +kernel, by decide +kernel, by decide +kernel⟩
theorem mi_X6_chance : Cond.instanceMethod yX6_chance ∈ pb_gw := pb_inW 731 (by decide +kernel) (by decide +kernel)
theorem ms_X6_chance : Cond.selects (yX6_chance).cls yX6_chance yX6_chance ∈ pb_gw := pb_inW 732 (by decide +kernel) (by decide +kernel)
theorem cl_X6_chance {α : Type} {l : Launch} {E : pb_E} {R : Room} {own : String} {cc : ByteArray} {mL : Nat} {ret : Option FieldType} {Xs : State → Prop} {nc ns : Nat} {Qf : State → Array Value → List Frame → α → pb_M → State → Prop} {pc : Nat} {L : List (Option Value)} {S : List Value} {μ : pb_M} {f : Int32 → pb_M → Option (α × pb_M)} {v1 : Int32} {v2 : Int32} {v3 : Int32} {index : Nat} (q : Nat)  (hR : 3 + 1 ≤ R.frames ∧ 8 + (7 + 11) + 64 ≤ R.locals ∧ nc ≤ R.cells ∧ ns ≤ R.slots) (hW : (S.map fun v => v.category).sum ≤ 8) (hl1 : Cond.methodLink own index yX6_chance ∈ pb_gw) (hdg : decode cc pc = .ok (.invokevirtual index, 3)) (hq : pc + 3 = q) (k : ∀ b1 μ1, pb_RW l E R own cc mL ret Xs nc ns Qf q L (.int b1 :: S) μ1 (f b1 μ1)) : pb_RW l E R own cc mL ret Xs nc ns Qf pc L (.int v3 :: .int v2 :: .int v1 :: .ref (E.2.1 0) :: S) μ (pb_b (pX6_chance v1 v2 v3 μ) f) := pb_callV q (fun z : Int32 => some (.int z)) mc_X6_chance mi_X6_chance ms_X6_chance (fun b1 μ1 h => evX6_chance l E v1 v2 v3  μ b1 μ1 h) rfl (by decide) rfl rfl rfl rfl hR rfl hW hl1 hdg hq k
theorem fl_X6_253 : Cond.fieldLink RX6 253 (TX6 10).1 (TX6 10).2.1 (TX6 10).2.2.1 ∈ pb_gw := pb_inW 188 (by decide +kernel) (by decide +kernel)
def pX6_seed (v1 : Int64) (μ : pb_M) : Option (Int64 × pb_M) :=
  some ((μ.2 0), (pb_sL μ 0 v1))
abbrev wX6_seed (l : Launch) (E : pb_E) := pb_RW l E { frames := 0, cells := 0, slots := 0, locals := 0 } RX6 cX6_seed 5 (some .long) (fun _ => True) 0 0 (pb_Qf E (fun z : Int64 => some (.long z)))
set_option maxRecDepth 100000 in
set_option maxHeartbeats 4000000 in
theorem evX6_seed (l : Launch) (E : pb_E) (v1 : Int64)  (μ : pb_M) : ∀ b μ', pX6_seed v1 μ = some (b, μ') → pb_Ev l E yX6_seed cX6_seed 5 (some .long) { frames := 0, cells := 0, slots := 0, locals := 0 } [.ref (E.2.1 0), .long v1] μ ((fun z : Int64 => some (.long z)) b) μ' := by
  refine pb_enter (L := [some (.ref (E.2.1 0)), some (.long v1), none, none, none]) (by decide +kernel) (Nat.le_of_ble_eq_true rfl) (pb_same [none, none, none, none, none] rfl) (show wX6_seed l E 0 [some (.ref (E.2.1 0)), some (.long v1), none, none, none] [] μ (pX6_seed v1 μ) from ?_)
  unfold pX6_seed
  refine pb_aload_n 1 dX6_seed_0 rfl rfl rfl ?_
  refine pb_getL 4 (j := 10) in_X6 rfl (by decide) rfl rfl (by decide) fl_X6_253 dX6_seed_1 rfl ?_
  refine pb_lstore_n 5 (i := 3) (L' := [some (.ref (E.2.1 0)), some (.long v1), none, some (.long (μ.2 0)), none]) dX6_seed_4 rfl (by decide) rfl rfl rfl ?_
  refine pb_aload_n 6 dX6_seed_5 rfl rfl rfl ?_
  refine pb_lload_n 7 dX6_seed_6 rfl rfl rfl ?_
  refine pb_putL 10 (j := 10) tyX6 tyX6_ok nmX6 in_X6 rfl (by decide) rfl rfl one_X6 (by decide) fl_X6_253 rfl (by decide +kernel) dX6_seed_7 rfl ?_
  refine pb_lload_n 11 dX6_seed_10 rfl rfl rfl ?_
  exact pb_lret dX6_seed_11
theorem mc_X6_seed : pb_MC yX6_seed cX6_seed 5 (some .long) 1 := ⟨pb_inW 743 (by decide +kernel) (by decide +kernel), pb_inW 61 (by decide +kernel) (by decide +kernel), by decide +kernel, by decide +kernel, by decide +kernel⟩
theorem mi_X6_seed : Cond.instanceMethod yX6_seed ∈ pb_gw := pb_inW 741 (by decide +kernel) (by decide +kernel)
theorem ms_X6_seed : Cond.selects (yX6_seed).cls yX6_seed yX6_seed ∈ pb_gw := pb_inW 742 (by decide +kernel) (by decide +kernel)
theorem cl_X6_seed {α : Type} {l : Launch} {E : pb_E} {R : Room} {own : String} {cc : ByteArray} {mL : Nat} {ret : Option FieldType} {Xs : State → Prop} {nc ns : Nat} {Qf : State → Array Value → List Frame → α → pb_M → State → Prop} {pc : Nat} {L : List (Option Value)} {S : List Value} {μ : pb_M} {f : Int64 → pb_M → Option (α × pb_M)} {v1 : Int64} {index : Nat} (q : Nat)  (hR : 0 + 1 ≤ R.frames ∧ 8 + (5 + 11) + 0 ≤ R.locals ∧ nc ≤ R.cells ∧ ns ≤ R.slots) (hW : (S.map fun v => v.category).sum ≤ 8) (hl1 : Cond.methodLink own index yX6_seed ∈ pb_gw) (hdg : decode cc pc = .ok (.invokevirtual index, 3)) (hq : pc + 3 = q) (k : ∀ b1 μ1, pb_RW l E R own cc mL ret Xs nc ns Qf q L (.long b1 :: S) μ1 (f b1 μ1)) : pb_RW l E R own cc mL ret Xs nc ns Qf pc L (.long v1 :: .ref (E.2.1 0) :: S) μ (pb_b (pX6_seed v1 μ) f) := pb_callV q (fun z : Int64 => some (.long z)) mc_X6_seed mi_X6_seed ms_X6_seed (fun b1 μ1 h => evX6_seed l E v1  μ b1 μ1 h) rfl (by decide) rfl rfl rfl rfl hR rfl hW hl1 hdg hq k
def pX6_keepAllRipe_L2  : Nat → Int32 → pb_M → Option (Unit × pb_M)
  | 0, _, _ => none
  | n + 1, v1, μ =>
    pb_b (pX5_beasts 6 μ) (fun b7 μ7 =>
    if b7 ≤ v1 then
      some ((), μ7)
    else
    pb_b (pX6_keepIfRipe v1 μ7) (fun b15 μ15 =>
    pX6_keepAllRipe_L2 n (v1 + (1 : Int32)) μ15))
def pX6_keepAllRipe  (μ : pb_M) : Option (Unit × pb_M) :=
  pX6_keepAllRipe_L2 pb_F (0 : Int32) μ
abbrev wX6_keepAllRipe (l : Launch) (E : pb_E) := pb_RW l E { frames := 4, cells := 0, slots := 0, locals := 89 } RX6 cX6_keepAllRipe 2 none (fun _ => True) 0 0 (pb_Qf E (fun _ : Unit => none))
set_option maxRecDepth 100000 in
set_option maxHeartbeats 4000000 in
theorem tX6_keepAllRipe_L2 (l : Launch) (E : pb_E)    : ∀ (n : Nat) (v1 : Int32) (μ : pb_M), wX6_keepAllRipe l E 2 [some (.ref (E.2.1 0)), some (.int v1)] [] μ (pX6_keepAllRipe_L2 n v1 μ) := by
  intro n
  induction n with
  | zero => intro v1 μ; exact pb_none
  | succ n ih =>
    intro v1 μ
    rw [pX6_keepAllRipe_L2]
    refine pb_iload_n 3 dX6_keepAllRipe_2 rfl rfl rfl ?_
    refine pb_aload_n 4 dX6_keepAllRipe_3 rfl rfl rfl ?_
    refine pb_getR 7 (j := 2) (d := 6) in_X6 rfl (by decide) rfl rfl (by decide) fl_X6_23 dX6_keepAllRipe_4 rfl ?_
    refine cl_X5_beasts 10 pb_V6 ⟨by decide, by decide, by decide, by decide⟩ (Nat.le_of_ble_eq_true rfl) ml_X6_88 dX6_keepAllRipe_7 rfl (fun b7 μ7 => ?_)
    refine pb_icmp_ge 13 (tgt := 25) dX6_keepAllRipe_10 (by decide) rfl (fun _ => ?_) (fun _ => ?_)
    · exact pb_vret dX6_keepAllRipe_25
    · refine pb_aload_n 14 dX6_keepAllRipe_13 rfl rfl rfl ?_
      refine pb_iload_n 15 dX6_keepAllRipe_14 rfl rfl rfl ?_
      refine cl_X6_keepIfRipe 18 ⟨by decide, by decide, by decide, by decide⟩ (Nat.le_of_ble_eq_true rfl) ml_X6_286 dX6_keepAllRipe_15 rfl (fun b15 μ15 => ?_)
      refine pb_pop 19 dX6_keepAllRipe_18 rfl rfl ?_
      refine pb_iinc 22 (i := 1) (v := (v1 + (1 : Int32))) (L' := [some (.ref (E.2.1 0)), some (.int (v1 + (1 : Int32)))]) dX6_keepAllRipe_19 rfl rfl (by decide) rfl rfl rfl ?_
      refine pb_goto (tgt := 2) dX6_keepAllRipe_22 (by decide) ?_
      exact ih (v1 + (1 : Int32)) μ15
set_option maxRecDepth 100000 in
set_option maxHeartbeats 4000000 in
theorem evX6_keepAllRipe (l : Launch) (E : pb_E)   (μ : pb_M) : ∀ b μ', pX6_keepAllRipe  μ = some (b, μ') → pb_Ev l E yX6_keepAllRipe cX6_keepAllRipe 2 none { frames := 4, cells := 0, slots := 0, locals := 89 } [.ref (E.2.1 0)] μ ((fun _ : Unit => none) b) μ' := by
  refine pb_enter (L := [some (.ref (E.2.1 0)), none]) (by decide +kernel) (Nat.le_of_ble_eq_true rfl) (pb_same [none, none] rfl) (show wX6_keepAllRipe l E 0 [some (.ref (E.2.1 0)), none] [] μ (pX6_keepAllRipe  μ) from ?_)
  unfold pX6_keepAllRipe
  refine pb_iconst 1 (v := 0) dX6_keepAllRipe_0 rfl (by decide) ?_
  refine pb_istore_n 2 (i := 1) (L' := [some (.ref (E.2.1 0)), some (.int (0 : Int32))]) dX6_keepAllRipe_1 rfl (by decide) rfl rfl rfl ?_
  exact tX6_keepAllRipe_L2 l E pb_F (0 : Int32) μ
theorem mc_X6_keepAllRipe : pb_MC yX6_keepAllRipe cX6_keepAllRipe 2 none 0 := ⟨pb_inW 753 (by decide +kernel) (by decide +kernel), pb_inW 61 (by decide +kernel) (by decide +kernel), by decide +kernel, by decide +kernel, by decide +kernel⟩
theorem mi_X6_keepAllRipe : Cond.instanceMethod yX6_keepAllRipe ∈ pb_gw := pb_inW 752 (by decide +kernel) (by decide +kernel)
theorem ms_X6_keepAllRipe : Cond.selects (yX6_keepAllRipe).cls yX6_keepAllRipe yX6_keepAllRipe ∈ pb_gw := pb_inW 26 (by decide +kernel) (by decide +kernel)
theorem cl_X6_keepAllRipe {α : Type} {l : Launch} {E : pb_E} {R : Room} {own : String} {cc : ByteArray} {mL : Nat} {ret : Option FieldType} {Xs : State → Prop} {nc ns : Nat} {Qf : State → Array Value → List Frame → α → pb_M → State → Prop} {pc : Nat} {L : List (Option Value)} {S : List Value} {μ : pb_M} {f : Unit → pb_M → Option (α × pb_M)}  {index : Nat} (q : Nat)  (hR : 4 + 1 ≤ R.frames ∧ 8 + (2 + 11) + 89 ≤ R.locals ∧ nc ≤ R.cells ∧ ns ≤ R.slots) (hW : (S.map fun v => v.category).sum ≤ 8) (hl1 : Cond.methodLink own index yX6_keepAllRipe ∈ pb_gw) (hdg : decode cc pc = .ok (.invokevirtual index, 3)) (hq : pc + 3 = q) (k : ∀ b1 μ1, pb_RW l E R own cc mL ret Xs nc ns Qf q L S μ1 (f b1 μ1)) : pb_RW l E R own cc mL ret Xs nc ns Qf pc L (.ref (E.2.1 0) :: S) μ (pb_b (pX6_keepAllRipe  μ) f) := pb_callV q (fun _ : Unit => none) mc_X6_keepAllRipe mi_X6_keepAllRipe ms_X6_keepAllRipe (fun b1 μ1 h => evX6_keepAllRipe l E   μ b1 μ1 h) rfl (by decide) rfl rfl rfl rfl hR rfl hW hl1 hdg hq k
theorem kc_X6_257 : Cond.constantLong RX6 257 (6364136223846793005 : Int64) ∈ pb_gw := pb_inW 748 (by decide +kernel) (by decide +kernel)
theorem kc_X6_259 : Cond.constantLong RX6 259 (1442695040888963407 : Int64) ∈ pb_gw := pb_inW 749 (by decide +kernel) (by decide +kernel)
theorem ml_X6_264 : Cond.methodLink RX6 264 yX6_keepAllRipe ∈ pb_gw := pb_inW 750 (by decide +kernel) (by decide +kernel)
theorem ml_X6_267 : Cond.methodLink RX6 267 yX5_owedByAll ∈ pb_gw := pb_inW 754 (by decide +kernel) (by decide +kernel)
def pX6_villages_L27 (v1 : Int32) (K90 : pb_M → Option (Int32 × pb_M)) : Nat → Int32 → pb_M → Option (Int32 × pb_M)
  | 0, _, _ => none
  | n + 1, v2, μ =>
    if v1 ≤ v2 then
      K90 μ
    else
    pb_b (pX6_driveIfFree ((pb_rem (((((pb_sL μ 0 (((μ.2 0) * (6364136223846793005 : Int64)) + (1442695040888963407 : Int64))).2 0)).toUInt64 >>> (((33 : Int32)).toInt64.toUInt64 &&& Int64.toUInt64 63)).toInt64).toInt32 (30 : Int32)) / (6 : Int32)) (pb_rem (pb_rem (((((pb_sL μ 0 (((μ.2 0) * (6364136223846793005 : Int64)) + (1442695040888963407 : Int64))).2 0)).toUInt64 >>> (((33 : Int32)).toInt64.toUInt64 &&& Int64.toUInt64 63)).toInt64).toInt32 (30 : Int32)) (6 : Int32)) (pb_sL μ 0 (((μ.2 0) * (6364136223846793005 : Int64)) + (1442695040888963407 : Int64)))) (fun b69 μ69 =>
    pb_b (pX5_passDay 6 μ69) (fun b77 μ77 =>
    pb_b (pX6_keepAllRipe μ77) (fun b81 μ81 =>
    pX6_villages_L27 v1 K90 n (v2 + (1 : Int32)) μ81)))
def pX6_villages (v1 : Int32) (μ : pb_M) : Option (Int32 × pb_M) :=
  if v1 < (1 : Int32) then
    some ((-2 : Int32), μ)
  else
  if v1 ≤ (30 : Int32) then
    pb_b (pX5_copyFrom 6 4 μ) (fun b22 μ22 =>
    pX6_villages_L27 v1 (fun μk90 =>
      pb_b (pX5_owedByAll 6 μk90) (fun b94 μ94 =>
      some (b94, μ94))) pb_F (0 : Int32) μ22)
  else
  some ((-2 : Int32), μ)
abbrev wX6_villages (l : Launch) (E : pb_E) := pb_RW l E { frames := 5, cells := 0, slots := 0, locals := 110 } RX6 cX6_villages 4 (some .int) (fun _ => True) 0 0 (pb_Qf E (fun z : Int32 => some (.int z)))
set_option maxRecDepth 100000 in
set_option maxHeartbeats 4000000 in
theorem tX6_villages_L27 (l : Launch) (E : pb_E) (v1 : Int32) {K90 : pb_M → Option (Int32 × pb_M)} (hK90 : ∀  (μ : pb_M), wX6_villages l E 90 [some (.ref (E.2.1 0)), none, none, none] [] μ (K90  μ)) : ∀ (n : Nat) (v2 : Int32) (μ : pb_M), wX6_villages l E 27 [some (.ref (E.2.1 0)), some (.int v1), some (.int v2), none] [] μ (pX6_villages_L27 v1 K90 n v2 μ) := by
  intro n
  induction n with
  | zero => intro v2 μ; exact pb_none
  | succ n ih =>
    intro v2 μ
    rw [pX6_villages_L27]
    refine pb_iload_n 28 dX6_villages_27 rfl rfl rfl ?_
    refine pb_iload_n 29 dX6_villages_28 rfl rfl rfl ?_
    refine pb_icmp_ge 32 (tgt := 90) dX6_villages_29 (by decide) rfl (fun _ => ?_) (fun _ => ?_)
    · refine pb_weakM (L' := [some (.ref (E.2.1 0)), none, none, none]) [true, false, false, false] rfl ?_
      exact hK90 μ
    · refine pb_aload_n 33 dX6_villages_32 rfl rfl rfl ?_
      refine pb_aload_n 34 dX6_villages_33 rfl rfl rfl ?_
      refine pb_getL 37 (j := 10) in_X6 rfl (by decide) rfl rfl (by decide) fl_X6_253 dX6_villages_34 rfl ?_
      refine pb_ldc2 40 kc_X6_257 dX6_villages_37 rfl ?_
      refine pb_lmul 41 dX6_villages_40 rfl ?_
      refine pb_ldc2 44 kc_X6_259 dX6_villages_41 rfl ?_
      refine pb_ladd 45 dX6_villages_44 rfl ?_
      refine pb_putL 48 (j := 10) tyX6 tyX6_ok nmX6 in_X6 rfl (by decide) rfl rfl one_X6 (by decide) fl_X6_253 rfl (by decide +kernel) dX6_villages_45 rfl ?_
      refine pb_aload_n 49 dX6_villages_48 rfl rfl rfl ?_
      refine pb_getL 52 (j := 10) in_X6 rfl (by decide) rfl rfl (by decide) fl_X6_253 dX6_villages_49 rfl ?_
      refine pb_bipush 54 (v := 33) dX6_villages_52 rfl (by decide) ?_
      refine pb_lushr 55 dX6_villages_54 rfl ?_
      refine pb_l2i 56 dX6_villages_55 rfl ?_
      refine pb_bipush 58 (v := 30) dX6_villages_56 rfl (by decide) ?_
      refine pb_irem 59 dX6_villages_58 rfl (by decide) ?_
      refine pb_istore_n 60 (i := 3) (L' := [some (.ref (E.2.1 0)), some (.int v1), some (.int v2), some (.int (pb_rem (((((pb_sL μ 0 (((μ.2 0) * (6364136223846793005 : Int64)) + (1442695040888963407 : Int64))).2 0)).toUInt64 >>> (((33 : Int32)).toInt64.toUInt64 &&& Int64.toUInt64 63)).toInt64).toInt32 (30 : Int32)))]) dX6_villages_59 rfl (by decide) rfl rfl rfl ?_
      refine pb_aload_n 61 dX6_villages_60 rfl rfl rfl ?_
      refine pb_iload_n 62 dX6_villages_61 rfl rfl rfl ?_
      refine pb_bipush 64 (v := 6) dX6_villages_62 rfl (by decide) ?_
      refine pb_idiv 65 dX6_villages_64 rfl (by decide) ?_
      refine pb_iload_n 66 dX6_villages_65 rfl rfl rfl ?_
      refine pb_bipush 68 (v := 6) dX6_villages_66 rfl (by decide) ?_
      refine pb_irem 69 dX6_villages_68 rfl (by decide) ?_
      refine cl_X6_driveIfFree 72 ⟨by decide, by decide, by decide, by decide⟩ (Nat.le_of_ble_eq_true rfl) ml_X6_261 dX6_villages_69 rfl (fun b69 μ69 => ?_)
      refine pb_pop 73 dX6_villages_72 rfl rfl ?_
      refine pb_aload_n 74 dX6_villages_73 rfl rfl rfl ?_
      refine pb_getR 77 (j := 2) (d := 6) in_X6 rfl (by decide) rfl rfl (by decide) fl_X6_23 dX6_villages_74 rfl ?_
      refine cl_X5_passDay 80 pb_V6 ⟨by decide, by decide, by decide, by decide⟩ (Nat.le_of_ble_eq_true rfl) ml_X6_149 dX6_villages_77 rfl (fun b77 μ77 => ?_)
      refine pb_aload_n 81 dX6_villages_80 rfl rfl rfl ?_
      refine cl_X6_keepAllRipe 84 ⟨by decide, by decide, by decide, by decide⟩ (Nat.le_of_ble_eq_true rfl) ml_X6_264 dX6_villages_81 rfl (fun b81 μ81 => ?_)
      refine pb_iinc 87 (i := 2) (v := (v2 + (1 : Int32))) (L' := [some (.ref (E.2.1 0)), some (.int v1), some (.int (v2 + (1 : Int32))), some (.int (pb_rem (((((pb_sL μ 0 (((μ.2 0) * (6364136223846793005 : Int64)) + (1442695040888963407 : Int64))).2 0)).toUInt64 >>> (((33 : Int32)).toInt64.toUInt64 &&& Int64.toUInt64 63)).toInt64).toInt32 (30 : Int32)))]) dX6_villages_84 rfl rfl (by decide) rfl rfl rfl ?_
      refine pb_goto (tgt := 27) dX6_villages_87 (by decide) ?_
      refine pb_weakM (L' := [some (.ref (E.2.1 0)), some (.int v1), some (.int (v2 + (1 : Int32))), none]) [true, true, true, false] rfl ?_
      exact ih (v2 + (1 : Int32)) μ81
set_option maxRecDepth 100000 in
set_option maxHeartbeats 4000000 in
theorem evX6_villages (l : Launch) (E : pb_E) (v1 : Int32)  (μ : pb_M) : ∀ b μ', pX6_villages v1 μ = some (b, μ') → pb_Ev l E yX6_villages cX6_villages 4 (some .int) { frames := 5, cells := 0, slots := 0, locals := 110 } [.ref (E.2.1 0), .int v1] μ ((fun z : Int32 => some (.int z)) b) μ' := by
  refine pb_enter (L := [some (.ref (E.2.1 0)), some (.int v1), none, none]) (by decide +kernel) (Nat.le_of_ble_eq_true rfl) (pb_same [none, none, none, none] rfl) (show wX6_villages l E 0 [some (.ref (E.2.1 0)), some (.int v1), none, none] [] μ (pX6_villages v1 μ) from ?_)
  unfold pX6_villages
  refine pb_iload_n 1 dX6_villages_0 rfl rfl rfl ?_
  refine pb_iconst 2 (v := 1) dX6_villages_1 rfl (by decide) ?_
  refine pb_icmp_lt 5 (tgt := 11) dX6_villages_2 (by decide) rfl (fun _ => ?_) (fun _ => ?_)
  · refine pb_bipush 13 (v := -2) dX6_villages_11 rfl (by decide) ?_
    exact pb_iret dX6_villages_13
  · refine pb_iload_n 6 dX6_villages_5 rfl rfl rfl ?_
    refine pb_bipush 8 (v := 30) dX6_villages_6 rfl (by decide) ?_
    refine pb_icmp_le 11 (tgt := 14) dX6_villages_8 (by decide) rfl (fun _ => ?_) (fun _ => ?_)
    · refine pb_aload_n 15 dX6_villages_14 rfl rfl rfl ?_
      refine pb_getR 18 (j := 2) (d := 6) in_X6 rfl (by decide) rfl rfl (by decide) fl_X6_23 dX6_villages_15 rfl ?_
      refine pb_aload_n 19 dX6_villages_18 rfl rfl rfl ?_
      refine pb_getR 22 (j := 1) (d := 4) in_X6 rfl (by decide) rfl rfl (by decide) fl_X6_19 dX6_villages_19 rfl ?_
      refine cl_X5_copyFrom 25 pb_V6 pb_V4 ⟨by decide, by decide, by decide, by decide⟩ (Nat.le_of_ble_eq_true rfl) ml_X6_76 dX6_villages_22 rfl (fun b22 μ22 => ?_)
      refine pb_iconst 26 (v := 0) dX6_villages_25 rfl (by decide) ?_
      refine pb_istore_n 27 (i := 2) (L' := [some (.ref (E.2.1 0)), some (.int v1), some (.int (0 : Int32)), none]) dX6_villages_26 rfl (by decide) rfl rfl rfl ?_
      refine tX6_villages_L27 l E v1 (fun μk90 => ?_) pb_F (0 : Int32) μ22
      refine pb_aload_n 91 dX6_villages_90 rfl rfl rfl ?_
      refine pb_getR 94 (j := 2) (d := 6) in_X6 rfl (by decide) rfl rfl (by decide) fl_X6_23 dX6_villages_91 rfl ?_
      refine cl_X5_owedByAll 97 pb_V6 ⟨by decide, by decide, by decide, by decide⟩ (Nat.le_of_ble_eq_true rfl) ml_X6_267 dX6_villages_94 rfl (fun b94 μ94 => ?_)
      exact pb_iret dX6_villages_97
    · refine pb_bipush 13 (v := -2) dX6_villages_11 rfl (by decide) ?_
      exact pb_iret dX6_villages_13
theorem mc_X6_villages : pb_MC yX6_villages cX6_villages 4 (some .int) 1 := ⟨pb_inW 747 (by decide +kernel) (by decide +kernel), pb_inW 61 (by decide +kernel) (by decide +kernel), by decide +kernel, by decide +kernel, by decide +kernel⟩
theorem mi_X6_villages : Cond.instanceMethod yX6_villages ∈ pb_gw := pb_inW 745 (by decide +kernel) (by decide +kernel)
theorem ms_X6_villages : Cond.selects (yX6_villages).cls yX6_villages yX6_villages ∈ pb_gw := pb_inW 746 (by decide +kernel) (by decide +kernel)
theorem cl_X6_villages {α : Type} {l : Launch} {E : pb_E} {R : Room} {own : String} {cc : ByteArray} {mL : Nat} {ret : Option FieldType} {Xs : State → Prop} {nc ns : Nat} {Qf : State → Array Value → List Frame → α → pb_M → State → Prop} {pc : Nat} {L : List (Option Value)} {S : List Value} {μ : pb_M} {f : Int32 → pb_M → Option (α × pb_M)} {v1 : Int32} {index : Nat} (q : Nat)  (hR : 5 + 1 ≤ R.frames ∧ 8 + (4 + 11) + 110 ≤ R.locals ∧ nc ≤ R.cells ∧ ns ≤ R.slots) (hW : (S.map fun v => v.category).sum ≤ 8) (hl1 : Cond.methodLink own index yX6_villages ∈ pb_gw) (hdg : decode cc pc = .ok (.invokevirtual index, 3)) (hq : pc + 3 = q) (k : ∀ b1 μ1, pb_RW l E R own cc mL ret Xs nc ns Qf q L (.int b1 :: S) μ1 (f b1 μ1)) : pb_RW l E R own cc mL ret Xs nc ns Qf pc L (.int v1 :: .ref (E.2.1 0) :: S) μ (pb_b (pX6_villages v1 μ) f) := pb_callV q (fun z : Int32 => some (.int z)) mc_X6_villages mi_X6_villages ms_X6_villages (fun b1 μ1 h => evX6_villages l E v1  μ b1 μ1 h) rfl (by decide) rfl rfl rfl rfl hR rfl hW hl1 hdg hq k
theorem fl_X6_54 : Cond.fieldLink RX6 54 (TX6 7).1 (TX6 7).2.1 (TX6 7).2.2.1 ∈ pb_gw := pb_inW 185 (by decide +kernel) (by decide +kernel)
theorem ml_X6_270 : Cond.methodLink RX6 270 yX5_store ∈ pb_gw := pb_inW 763 (by decide +kernel) (by decide +kernel)
theorem ml_X6_274 : Cond.methodLink RX6 274 yX5_dayNow ∈ pb_gw := pb_inW 764 (by decide +kernel) (by decide +kernel)
def pX6_keep (v1 : Int32) (μ : pb_M) : Option (Int32 × pb_M) :=
  if v1 < (0 : Int32) then
    some ((-1 : Int32), μ)
  else
  if v1 < (2 : Int32) then
    pb_b (pX5_store 4 17 v1 μ) (fun b20 μ20 =>
    pb_b (pX5_dayNow 4 (pb_sA μ20 0 (upd (μ20.1 0) 9 ((μ20.1 0 9) ||| ((1 : Int32) <<< (v1 &&& 31)))))) (fun b39 μ39 =>
    some (b39, μ39)))
  else
  some ((-1 : Int32), μ)
abbrev wX6_keep (l : Launch) (E : pb_E) := pb_RW l E { frames := 2, cells := 0, slots := 0, locals := 40 } RX6 cX6_keep 2 (some .int) (fun _ => True) 0 0 (pb_Qf E (fun z : Int32 => some (.int z)))
set_option maxRecDepth 100000 in
set_option maxHeartbeats 4000000 in
theorem evX6_keep (l : Launch) (E : pb_E) (v1 : Int32)  (μ : pb_M) : ∀ b μ', pX6_keep v1 μ = some (b, μ') → pb_Ev l E yX6_keep cX6_keep 2 (some .int) { frames := 2, cells := 0, slots := 0, locals := 40 } [.ref (E.2.1 0), .int v1] μ ((fun z : Int32 => some (.int z)) b) μ' := by
  refine pb_enter (L := [some (.ref (E.2.1 0)), some (.int v1)]) (by decide +kernel) (Nat.le_of_ble_eq_true rfl) (pb_same [none, none] rfl) (show wX6_keep l E 0 [some (.ref (E.2.1 0)), some (.int v1)] [] μ (pX6_keep v1 μ) from ?_)
  unfold pX6_keep
  refine pb_iload_n 1 dX6_keep_0 rfl rfl rfl ?_
  refine pb_if_lt 4 (tgt := 9) dX6_keep_1 (by decide) rfl (fun _ => ?_) (fun _ => ?_)
  · refine pb_iconst 10 (v := -1) dX6_keep_9 rfl (by decide) ?_
    exact pb_iret dX6_keep_10
  · refine pb_iload_n 5 dX6_keep_4 rfl rfl rfl ?_
    refine pb_iconst 6 (v := 2) dX6_keep_5 rfl (by decide) ?_
    refine pb_icmp_lt 9 (tgt := 11) dX6_keep_6 (by decide) rfl (fun _ => ?_) (fun _ => ?_)
    · refine pb_aload_n 12 dX6_keep_11 rfl rfl rfl ?_
      refine pb_getR 15 (j := 1) (d := 4) in_X6 rfl (by decide) rfl rfl (by decide) fl_X6_19 dX6_keep_12 rfl ?_
      refine pb_aload_n 16 dX6_keep_15 rfl rfl rfl ?_
      refine pb_getR 19 (j := 7) (d := 17) in_X6 rfl (by decide) rfl rfl (by decide) fl_X6_54 dX6_keep_16 rfl ?_
      refine pb_iload_n 20 dX6_keep_19 rfl rfl rfl ?_
      refine cl_X5_store 23 pb_V4 pb_R17 ⟨by decide, by decide, by decide, by decide⟩ (Nat.le_of_ble_eq_true rfl) ml_X6_270 dX6_keep_20 rfl (fun b20 μ20 => ?_)
      refine pb_aload_n 24 dX6_keep_23 rfl rfl rfl ?_
      refine pb_dup 25 dX6_keep_24 rfl rfl ?_
      refine pb_getI 28 (j := 9) in_X6 rfl (by decide) rfl rfl (by decide) fl_X6_81 dX6_keep_25 rfl ?_
      refine pb_iconst 29 (v := 1) dX6_keep_28 rfl (by decide) ?_
      refine pb_iload_n 30 dX6_keep_29 rfl rfl rfl ?_
      refine pb_ishl 31 dX6_keep_30 rfl ?_
      refine pb_ior 32 dX6_keep_31 rfl ?_
      refine pb_putI 35 (j := 9) tyX6 tyX6_ok nmX6 in_X6 rfl (by decide) rfl rfl (by decide) fl_X6_81 rfl (by decide +kernel) dX6_keep_32 rfl ?_
      refine pb_aload_n 36 dX6_keep_35 rfl rfl rfl ?_
      refine pb_getR 39 (j := 1) (d := 4) in_X6 rfl (by decide) rfl rfl (by decide) fl_X6_19 dX6_keep_36 rfl ?_
      refine cl_X5_dayNow 42 pb_V4 ⟨by decide, by decide, by decide, by decide⟩ (Nat.le_of_ble_eq_true rfl) ml_X6_274 dX6_keep_39 rfl (fun b39 μ39 => ?_)
      exact pb_iret dX6_keep_42
    · refine pb_iconst 10 (v := -1) dX6_keep_9 rfl (by decide) ?_
      exact pb_iret dX6_keep_10
theorem mc_X6_keep : pb_MC yX6_keep cX6_keep 2 (some .int) 1 := ⟨pb_inW 762 (by decide +kernel) (by decide +kernel), pb_inW 61 (by decide +kernel) (by decide +kernel), by decide +kernel, by decide +kernel, by decide +kernel⟩
theorem mi_X6_keep : Cond.instanceMethod yX6_keep ∈ pb_gw := pb_inW 760 (by decide +kernel) (by decide +kernel)
theorem ms_X6_keep : Cond.selects (yX6_keep).cls yX6_keep yX6_keep ∈ pb_gw := pb_inW 761 (by decide +kernel) (by decide +kernel)
theorem cl_X6_keep {α : Type} {l : Launch} {E : pb_E} {R : Room} {own : String} {cc : ByteArray} {mL : Nat} {ret : Option FieldType} {Xs : State → Prop} {nc ns : Nat} {Qf : State → Array Value → List Frame → α → pb_M → State → Prop} {pc : Nat} {L : List (Option Value)} {S : List Value} {μ : pb_M} {f : Int32 → pb_M → Option (α × pb_M)} {v1 : Int32} {index : Nat} (q : Nat)  (hR : 2 + 1 ≤ R.frames ∧ 8 + (2 + 11) + 40 ≤ R.locals ∧ nc ≤ R.cells ∧ ns ≤ R.slots) (hW : (S.map fun v => v.category).sum ≤ 8) (hl1 : Cond.methodLink own index yX6_keep ∈ pb_gw) (hdg : decode cc pc = .ok (.invokevirtual index, 3)) (hq : pc + 3 = q) (k : ∀ b1 μ1, pb_RW l E R own cc mL ret Xs nc ns Qf q L (.int b1 :: S) μ1 (f b1 μ1)) : pb_RW l E R own cc mL ret Xs nc ns Qf pc L (.int v1 :: .ref (E.2.1 0) :: S) μ (pb_b (pX6_keep v1 μ) f) := pb_callV q (fun z : Int32 => some (.int z)) mc_X6_keep mi_X6_keep ms_X6_keep (fun b1 μ1 h => evX6_keep l E v1  μ b1 μ1 h) rfl (by decide) rfl rfl rfl rfl hR rfl hW hl1 hdg hq k
theorem ml_X6_277 : Cond.methodLink RX6 277 yX5_fetch ∈ pb_gw := pb_inW 769 (by decide +kernel) (by decide +kernel)
def pX6_again (v1 : Int32) (μ : pb_M) : Option (Int32 × pb_M) :=
  if v1 < (0 : Int32) then
    some ((-1 : Int32), μ)
  else
  if v1 < (2 : Int32) then
    pb_b (pX6_has (μ.1 0 9) v1 μ) (fun b16 μ16 =>
    if b16 = (0 : Int32) then
      some ((-3 : Int32), μ16)
    else
    pb_b (pX5_fetch 4 17 v1 μ16) (fun b34 μ34 =>
    pb_b (pX0_clear μ34) (fun b41 μ41 =>
    pb_b (pX5_dayNow 4 μ41) (fun b48 μ48 =>
    some (b48, μ48)))))
  else
  some ((-1 : Int32), μ)
abbrev wX6_again (l : Launch) (E : pb_E) := pb_RW l E { frames := 2, cells := 0, slots := 0, locals := 40 } RX6 cX6_again 2 (some .int) (fun _ => True) 0 0 (pb_Qf E (fun z : Int32 => some (.int z)))
set_option maxRecDepth 100000 in
set_option maxHeartbeats 4000000 in
theorem evX6_again (l : Launch) (E : pb_E) (v1 : Int32)  (μ : pb_M) : ∀ b μ', pX6_again v1 μ = some (b, μ') → pb_Ev l E yX6_again cX6_again 2 (some .int) { frames := 2, cells := 0, slots := 0, locals := 40 } [.ref (E.2.1 0), .int v1] μ ((fun z : Int32 => some (.int z)) b) μ' := by
  refine pb_enter (L := [some (.ref (E.2.1 0)), some (.int v1)]) (by decide +kernel) (Nat.le_of_ble_eq_true rfl) (pb_same [none, none] rfl) (show wX6_again l E 0 [some (.ref (E.2.1 0)), some (.int v1)] [] μ (pX6_again v1 μ) from ?_)
  unfold pX6_again
  refine pb_iload_n 1 dX6_again_0 rfl rfl rfl ?_
  refine pb_if_lt 4 (tgt := 9) dX6_again_1 (by decide) rfl (fun _ => ?_) (fun _ => ?_)
  · refine pb_iconst 10 (v := -1) dX6_again_9 rfl (by decide) ?_
    exact pb_iret dX6_again_10
  · refine pb_iload_n 5 dX6_again_4 rfl rfl rfl ?_
    refine pb_iconst 6 (v := 2) dX6_again_5 rfl (by decide) ?_
    refine pb_icmp_lt 9 (tgt := 11) dX6_again_6 (by decide) rfl (fun _ => ?_) (fun _ => ?_)
    · refine pb_aload_n 12 dX6_again_11 rfl rfl rfl ?_
      refine pb_getI 15 (j := 9) in_X6 rfl (by decide) rfl rfl (by decide) fl_X6_81 dX6_again_12 rfl ?_
      refine pb_iload_n 16 dX6_again_15 rfl rfl rfl ?_
      refine cl_X6_has 19 ⟨by decide, by decide, by decide, by decide⟩ (Nat.le_of_ble_eq_true rfl) ml_X6_186 dX6_again_16 rfl (fun b16 μ16 => ?_)
      refine pb_if_ne 22 (tgt := 25) dX6_again_19 (by decide) rfl (fun _ => ?_) (fun _ => ?_)
      · refine pb_bipush 24 (v := -3) dX6_again_22 rfl (by decide) ?_
        exact pb_iret dX6_again_24
      · refine pb_aload_n 26 dX6_again_25 rfl rfl rfl ?_
        refine pb_getR 29 (j := 1) (d := 4) in_X6 rfl (by decide) rfl rfl (by decide) fl_X6_19 dX6_again_26 rfl ?_
        refine pb_aload_n 30 dX6_again_29 rfl rfl rfl ?_
        refine pb_getR 33 (j := 7) (d := 17) in_X6 rfl (by decide) rfl rfl (by decide) fl_X6_54 dX6_again_30 rfl ?_
        refine pb_iload_n 34 dX6_again_33 rfl rfl rfl ?_
        refine cl_X5_fetch 37 pb_V4 pb_R17 ⟨by decide, by decide, by decide, by decide⟩ (Nat.le_of_ble_eq_true rfl) ml_X6_277 dX6_again_34 rfl (fun b34 μ34 => ?_)
        refine pb_aload_n 38 dX6_again_37 rfl rfl rfl ?_
        refine pb_getR 41 (j := 3) (d := 8) in_X6 rfl (by decide) rfl rfl (by decide) fl_X6_29 dX6_again_38 rfl ?_
        refine cl_X0_clear 44 ⟨by decide, by decide, by decide, by decide⟩ (Nat.le_of_ble_eq_true rfl) ml_X6_80 dX6_again_41 rfl (fun b41 μ41 => ?_)
        refine pb_aload_n 45 dX6_again_44 rfl rfl rfl ?_
        refine pb_getR 48 (j := 1) (d := 4) in_X6 rfl (by decide) rfl rfl (by decide) fl_X6_19 dX6_again_45 rfl ?_
        refine cl_X5_dayNow 51 pb_V4 ⟨by decide, by decide, by decide, by decide⟩ (Nat.le_of_ble_eq_true rfl) ml_X6_274 dX6_again_48 rfl (fun b48 μ48 => ?_)
        exact pb_iret dX6_again_51
    · refine pb_iconst 10 (v := -1) dX6_again_9 rfl (by decide) ?_
      exact pb_iret dX6_again_10
theorem mc_X6_again : pb_MC yX6_again cX6_again 2 (some .int) 1 := ⟨pb_inW 768 (by decide +kernel) (by decide +kernel), pb_inW 61 (by decide +kernel) (by decide +kernel), by decide +kernel, by decide +kernel, by decide +kernel⟩
theorem mi_X6_again : Cond.instanceMethod yX6_again ∈ pb_gw := pb_inW 766 (by decide +kernel) (by decide +kernel)
theorem ms_X6_again : Cond.selects (yX6_again).cls yX6_again yX6_again ∈ pb_gw := pb_inW 767 (by decide +kernel) (by decide +kernel)
theorem cl_X6_again {α : Type} {l : Launch} {E : pb_E} {R : Room} {own : String} {cc : ByteArray} {mL : Nat} {ret : Option FieldType} {Xs : State → Prop} {nc ns : Nat} {Qf : State → Array Value → List Frame → α → pb_M → State → Prop} {pc : Nat} {L : List (Option Value)} {S : List Value} {μ : pb_M} {f : Int32 → pb_M → Option (α × pb_M)} {v1 : Int32} {index : Nat} (q : Nat)  (hR : 2 + 1 ≤ R.frames ∧ 8 + (2 + 11) + 40 ≤ R.locals ∧ nc ≤ R.cells ∧ ns ≤ R.slots) (hW : (S.map fun v => v.category).sum ≤ 8) (hl1 : Cond.methodLink own index yX6_again ∈ pb_gw) (hdg : decode cc pc = .ok (.invokevirtual index, 3)) (hq : pc + 3 = q) (k : ∀ b1 μ1, pb_RW l E R own cc mL ret Xs nc ns Qf q L (.int b1 :: S) μ1 (f b1 μ1)) : pb_RW l E R own cc mL ret Xs nc ns Qf pc L (.int v1 :: .ref (E.2.1 0) :: S) μ (pb_b (pX6_again v1 μ) f) := pb_callV q (fun z : Int32 => some (.int z)) mc_X6_again mi_X6_again ms_X6_again (fun b1 μ1 h => evX6_again l E v1  μ b1 μ1 h) rfl (by decide) rfl rfl rfl rfl hR rfl hW hl1 hdg hq k
theorem ml_X6_280 : Cond.methodLink RX6 280 yX5_deadBeasts ∈ pb_gw := pb_inW 774 (by decide +kernel) (by decide +kernel)
def pX6_count (v1 : Int32) (μ : pb_M) : Option (Int32 × pb_M) :=
  if v1 = (0 : Int32) then
    pb_b (pX4_length μ) (fun b52 μ52 =>
    some (b52, μ52))
  else
  if v1 = (1 : Int32) then
    pb_b (pX5_people 4 μ) (fun b60 μ60 =>
    some (b60, μ60))
  else
  if v1 = (2 : Int32) then
    pb_b (pX5_beasts 4 μ) (fun b68 μ68 =>
    some (b68, μ68))
  else
  if v1 = (3 : Int32) then
    pb_b (pX5_dayNow 4 μ) (fun b76 μ76 =>
    some (b76, μ76))
  else
  if v1 = (4 : Int32) then
    pb_b (pX5_shutBeasts 4 μ) (fun b84 μ84 =>
    some (b84, μ84))
  else
  if v1 = (5 : Int32) then
    pb_b (pX5_deadBeasts 4 μ) (fun b92 μ92 =>
    some (b92, μ92))
  else
  if v1 = (6 : Int32) then
    pb_b (pX5_owedByAll 4 μ) (fun b100 μ100 =>
    some (b100, μ100))
  else
  if v1 = (7 : Int32) then
    pb_b (pX0_size μ) (fun b108 μ108 =>
    some (b108, μ108))
  else
  some ((-2 : Int32), μ)
abbrev wX6_count (l : Launch) (E : pb_E) := pb_RW l E { frames := 3, cells := 0, slots := 0, locals := 67 } RX6 cX6_count 2 (some .int) (fun _ => True) 0 0 (pb_Qf E (fun z : Int32 => some (.int z)))
set_option maxRecDepth 100000 in
set_option maxHeartbeats 4000000 in
theorem evX6_count (l : Launch) (E : pb_E) (v1 : Int32)  (μ : pb_M) : ∀ b μ', pX6_count v1 μ = some (b, μ') → pb_Ev l E yX6_count cX6_count 2 (some .int) { frames := 3, cells := 0, slots := 0, locals := 67 } [.ref (E.2.1 0), .int v1] μ ((fun z : Int32 => some (.int z)) b) μ' := by
  refine pb_enter (L := [some (.ref (E.2.1 0)), some (.int v1)]) (by decide +kernel) (Nat.le_of_ble_eq_true rfl) (pb_same [none, none] rfl) (show wX6_count l E 0 [some (.ref (E.2.1 0)), some (.int v1)] [] μ (pX6_count v1 μ) from ?_)
  unfold pX6_count
  refine pb_iload_n 1 dX6_count_0 rfl rfl rfl ?_
  refine pb_ite (fun c0 => ?_) (fun c0 => ?_)
  · refine pb_tableK (tgt := 48) 0 c0 dX6_count_1 (by decide) (by decide) (by rfl) (by decide) ?_
    refine pb_aload_n 49 dX6_count_48 rfl rfl rfl ?_
    refine pb_getR 52 (j := 0) (d := 1) in_X6 rfl (by decide) rfl rfl (by decide) fl_X6_10 dX6_count_49 rfl ?_
    refine cl_X4_length 55 ⟨by decide, by decide, by decide, by decide⟩ (Nat.le_of_ble_eq_true rfl) ml_X6_65 dX6_count_52 rfl (fun b52 μ52 => ?_)
    exact pb_iret dX6_count_55
  · refine pb_ite (fun c1 => ?_) (fun c1 => ?_)
    · refine pb_tableK (tgt := 56) 1 c1 dX6_count_1 (by decide) (by decide) (by rfl) (by decide) ?_
      refine pb_aload_n 57 dX6_count_56 rfl rfl rfl ?_
      refine pb_getR 60 (j := 1) (d := 4) in_X6 rfl (by decide) rfl rfl (by decide) fl_X6_19 dX6_count_57 rfl ?_
      refine cl_X5_people 63 pb_V4 ⟨by decide, by decide, by decide, by decide⟩ (Nat.le_of_ble_eq_true rfl) ml_X6_85 dX6_count_60 rfl (fun b60 μ60 => ?_)
      exact pb_iret dX6_count_63
    · refine pb_ite (fun c2 => ?_) (fun c2 => ?_)
      · refine pb_tableK (tgt := 64) 2 c2 dX6_count_1 (by decide) (by decide) (by rfl) (by decide) ?_
        refine pb_aload_n 65 dX6_count_64 rfl rfl rfl ?_
        refine pb_getR 68 (j := 1) (d := 4) in_X6 rfl (by decide) rfl rfl (by decide) fl_X6_19 dX6_count_65 rfl ?_
        refine cl_X5_beasts 71 pb_V4 ⟨by decide, by decide, by decide, by decide⟩ (Nat.le_of_ble_eq_true rfl) ml_X6_88 dX6_count_68 rfl (fun b68 μ68 => ?_)
        exact pb_iret dX6_count_71
      · refine pb_ite (fun c3 => ?_) (fun c3 => ?_)
        · refine pb_tableK (tgt := 72) 3 c3 dX6_count_1 (by decide) (by decide) (by rfl) (by decide) ?_
          refine pb_aload_n 73 dX6_count_72 rfl rfl rfl ?_
          refine pb_getR 76 (j := 1) (d := 4) in_X6 rfl (by decide) rfl rfl (by decide) fl_X6_19 dX6_count_73 rfl ?_
          refine cl_X5_dayNow 79 pb_V4 ⟨by decide, by decide, by decide, by decide⟩ (Nat.le_of_ble_eq_true rfl) ml_X6_274 dX6_count_76 rfl (fun b76 μ76 => ?_)
          exact pb_iret dX6_count_79
        · refine pb_ite (fun c4 => ?_) (fun c4 => ?_)
          · refine pb_tableK (tgt := 80) 4 c4 dX6_count_1 (by decide) (by decide) (by rfl) (by decide) ?_
            refine pb_aload_n 81 dX6_count_80 rfl rfl rfl ?_
            refine pb_getR 84 (j := 1) (d := 4) in_X6 rfl (by decide) rfl rfl (by decide) fl_X6_19 dX6_count_81 rfl ?_
            refine cl_X5_shutBeasts 87 pb_V4 ⟨by decide, by decide, by decide, by decide⟩ (Nat.le_of_ble_eq_true rfl) ml_X6_152 dX6_count_84 rfl (fun b84 μ84 => ?_)
            exact pb_iret dX6_count_87
          · refine pb_ite (fun c5 => ?_) (fun c5 => ?_)
            · refine pb_tableK (tgt := 88) 5 c5 dX6_count_1 (by decide) (by decide) (by rfl) (by decide) ?_
              refine pb_aload_n 89 dX6_count_88 rfl rfl rfl ?_
              refine pb_getR 92 (j := 1) (d := 4) in_X6 rfl (by decide) rfl rfl (by decide) fl_X6_19 dX6_count_89 rfl ?_
              refine cl_X5_deadBeasts 95 pb_V4 ⟨by decide, by decide, by decide, by decide⟩ (Nat.le_of_ble_eq_true rfl) ml_X6_280 dX6_count_92 rfl (fun b92 μ92 => ?_)
              exact pb_iret dX6_count_95
            · refine pb_ite (fun c6 => ?_) (fun c6 => ?_)
              · refine pb_tableK (tgt := 96) 6 c6 dX6_count_1 (by decide) (by decide) (by rfl) (by decide) ?_
                refine pb_aload_n 97 dX6_count_96 rfl rfl rfl ?_
                refine pb_getR 100 (j := 1) (d := 4) in_X6 rfl (by decide) rfl rfl (by decide) fl_X6_19 dX6_count_97 rfl ?_
                refine cl_X5_owedByAll 103 pb_V4 ⟨by decide, by decide, by decide, by decide⟩ (Nat.le_of_ble_eq_true rfl) ml_X6_267 dX6_count_100 rfl (fun b100 μ100 => ?_)
                exact pb_iret dX6_count_103
              · refine pb_ite (fun c7 => ?_) (fun c7 => ?_)
                · refine pb_tableK (tgt := 104) 7 c7 dX6_count_1 (by decide) (by decide) (by rfl) (by decide) ?_
                  refine pb_aload_n 105 dX6_count_104 rfl rfl rfl ?_
                  refine pb_getR 108 (j := 3) (d := 8) in_X6 rfl (by decide) rfl rfl (by decide) fl_X6_29 dX6_count_105 rfl ?_
                  refine cl_X0_size 111 ⟨by decide, by decide, by decide, by decide⟩ (Nat.le_of_ble_eq_true rfl) ml_X6_180 dX6_count_108 rfl (fun b108 μ108 => ?_)
                  exact pb_iret dX6_count_111
                · refine pb_tableD (tgt := 112) dX6_count_1 (by have e0 := lv_neT (a := 0) c0 (by decide); have e1 := lv_neT (a := 1) c1 (by decide); have e2 := lv_neT (a := 2) c2 (by decide); have e3 := lv_neT (a := 3) c3 (by decide); have e4 := lv_neT (a := 4) c4 (by decide); have e5 := lv_neT (a := 5) c5 (by decide); have e6 := lv_neT (a := 6) c6 (by decide); have e7 := lv_neT (a := 7) c7 (by decide); omega) (by decide) ?_
                  refine pb_bipush 114 (v := -2) dX6_count_112 rfl (by decide) ?_
                  exact pb_iret dX6_count_114
theorem mc_X6_count : pb_MC yX6_count cX6_count 2 (some .int) 1 := ⟨pb_inW 773 (by decide +kernel) (by decide +kernel), pb_inW 61 (by decide +kernel) (by decide +kernel), by decide +kernel, by decide +kernel, by decide +kernel⟩
theorem mi_X6_count : Cond.instanceMethod yX6_count ∈ pb_gw := pb_inW 771 (by decide +kernel) (by decide +kernel)
theorem ms_X6_count : Cond.selects (yX6_count).cls yX6_count yX6_count ∈ pb_gw := pb_inW 772 (by decide +kernel) (by decide +kernel)
theorem cl_X6_count {α : Type} {l : Launch} {E : pb_E} {R : Room} {own : String} {cc : ByteArray} {mL : Nat} {ret : Option FieldType} {Xs : State → Prop} {nc ns : Nat} {Qf : State → Array Value → List Frame → α → pb_M → State → Prop} {pc : Nat} {L : List (Option Value)} {S : List Value} {μ : pb_M} {f : Int32 → pb_M → Option (α × pb_M)} {v1 : Int32} {index : Nat} (q : Nat)  (hR : 3 + 1 ≤ R.frames ∧ 8 + (2 + 11) + 67 ≤ R.locals ∧ nc ≤ R.cells ∧ ns ≤ R.slots) (hW : (S.map fun v => v.category).sum ≤ 8) (hl1 : Cond.methodLink own index yX6_count ∈ pb_gw) (hdg : decode cc pc = .ok (.invokevirtual index, 3)) (hq : pc + 3 = q) (k : ∀ b1 μ1, pb_RW l E R own cc mL ret Xs nc ns Qf q L (.int b1 :: S) μ1 (f b1 μ1)) : pb_RW l E R own cc mL ret Xs nc ns Qf pc L (.int v1 :: .ref (E.2.1 0) :: S) μ (pb_b (pX6_count v1 μ) f) := pb_callV q (fun z : Int32 => some (.int z)) mc_X6_count mi_X6_count ms_X6_count (fun b1 μ1 h => evX6_count l E v1  μ b1 μ1 h) rfl (by decide) rfl rfl rfl rfl hR rfl hW hl1 hdg hq k
def pX7_in (v0 : Int64) (v2 : Int64) (v4 : Int64) (μ : pb_M) : Option (Int32 × pb_M) :=
  if (lg_cmp v0 v2) < (0 : Int32) then
    some ((0 : Int32), μ)
  else
  if (0 : Int32) < (lg_cmp v0 v4) then
    some ((0 : Int32), μ)
  else
  some ((1 : Int32), μ)
abbrev wX7_in (l : Launch) (E : pb_E) := pb_RW l E { frames := 0, cells := 0, slots := 0, locals := 0 } RX7 cX7_in 6 (some .boolean) (fun _ => True) 0 0 (pb_Qf E (fun z : Int32 => some (.int z)))
set_option maxRecDepth 100000 in
set_option maxHeartbeats 4000000 in
theorem evX7_in (l : Launch) (E : pb_E) (v0 : Int64) (v2 : Int64) (v4 : Int64)  (μ : pb_M) : ∀ b μ', pX7_in v0 v2 v4 μ = some (b, μ') → pb_Ev l E yX7_in cX7_in 6 (some .boolean) { frames := 0, cells := 0, slots := 0, locals := 0 } [.long v0, .long v2, .long v4] μ ((fun z : Int32 => some (.int z)) b) μ' := by
  refine pb_enter (L := [some (.long v0), none, some (.long v2), none, some (.long v4), none]) (by decide +kernel) (Nat.le_of_ble_eq_true rfl) (pb_same [none, none, none, none, none, none] rfl) (show wX7_in l E 0 [some (.long v0), none, some (.long v2), none, some (.long v4), none] [] μ (pX7_in v0 v2 v4 μ) from ?_)
  unfold pX7_in
  refine pb_lload_n 1 dX7_in_0 rfl rfl rfl ?_
  refine pb_lload_n 2 dX7_in_1 rfl rfl rfl ?_
  refine pb_lcmp 3 dX7_in_2 rfl ?_
  refine pb_if_lt 6 (tgt := 17) dX7_in_3 (by decide) rfl (fun _ => ?_) (fun _ => ?_)
  · refine pb_iconst 18 (v := 0) dX7_in_17 rfl (by decide) ?_
    exact pb_zret rfl dX7_in_18
  · refine pb_lload_n 7 dX7_in_6 rfl rfl rfl ?_
    refine pb_lload 9 dX7_in_7 rfl rfl ?_
    refine pb_lcmp 10 dX7_in_9 rfl ?_
    refine pb_if_gt 13 (tgt := 17) dX7_in_10 (by decide) rfl (fun _ => ?_) (fun _ => ?_)
    · refine pb_iconst 18 (v := 0) dX7_in_17 rfl (by decide) ?_
      exact pb_zret rfl dX7_in_18
    · refine pb_iconst 14 (v := 1) dX7_in_13 rfl (by decide) ?_
      refine pb_goto (tgt := 18) dX7_in_14 (by decide) ?_
      exact pb_zret rfl dX7_in_18
theorem mc_X7_in : pb_MC yX7_in cX7_in 6 (some .boolean) 3 := ⟨pb_inW 859 (by decide +kernel) (by decide +kernel), pb_inW 68 (by decide +kernel) (by decide +kernel), by decide +kernel, by decide +kernel, by decide +kernel⟩
theorem ms_X7_in : Cond.static yX7_in ∈ pb_gw := pb_inW 858 (by decide +kernel) (by decide +kernel)
theorem cl_X7_in {α : Type} {l : Launch} {E : pb_E} {R : Room} {own : String} {cc : ByteArray} {mL : Nat} {ret : Option FieldType} {Xs : State → Prop} {nc ns : Nat} {Qf : State → Array Value → List Frame → α → pb_M → State → Prop} {pc : Nat} {L : List (Option Value)} {S : List Value} {μ : pb_M} {f : Int32 → pb_M → Option (α × pb_M)} {v0 : Int64} {v2 : Int64} {v4 : Int64} {index : Nat} (q : Nat)  (hR : 0 + 1 ≤ R.frames ∧ 8 + (6 + 11) + 0 ≤ R.locals ∧ nc ≤ R.cells ∧ ns ≤ R.slots) (hW : (S.map fun v => v.category).sum ≤ 8) (hl1 : Cond.methodLink own index yX7_in ∈ pb_gw) (hdg : decode cc pc = .ok (.invokestatic index, 3)) (hq : pc + 3 = q) (k : ∀ b1 μ1, pb_RW l E R own cc mL ret Xs nc ns Qf q L (.int b1 :: S) μ1 (f b1 μ1)) : pb_RW l E R own cc mL ret Xs nc ns Qf pc L (.long v4 :: .long v2 :: .long v0 :: S) μ (pb_b (pX7_in v0 v2 v4 μ) f) := pb_callS q (fun z : Int32 => some (.int z)) mc_X7_in ms_X7_in (fun b1 μ1 h => evX7_in l E v0 v2 v4  μ b1 μ1 h) rfl rfl rfl hR rfl hW hl1 hdg hq k
def pX7_has (v0 : Int32) (v1 : Int32) (μ : pb_M) : Option (Int32 × pb_M) :=
  if ((v0 >>> (v1 &&& 31)) &&& (1 : Int32)) = (1 : Int32) then
    some ((1 : Int32), μ)
  else
  some ((0 : Int32), μ)
abbrev wX7_has (l : Launch) (E : pb_E) := pb_RW l E { frames := 0, cells := 0, slots := 0, locals := 0 } RX7 cX7_has 2 (some .boolean) (fun _ => True) 0 0 (pb_Qf E (fun z : Int32 => some (.int z)))
set_option maxRecDepth 100000 in
set_option maxHeartbeats 4000000 in
theorem evX7_has (l : Launch) (E : pb_E) (v0 : Int32) (v1 : Int32)  (μ : pb_M) : ∀ b μ', pX7_has v0 v1 μ = some (b, μ') → pb_Ev l E yX7_has cX7_has 2 (some .boolean) { frames := 0, cells := 0, slots := 0, locals := 0 } [.int v0, .int v1] μ ((fun z : Int32 => some (.int z)) b) μ' := by
  refine pb_enter (L := [some (.int v0), some (.int v1)]) (by decide +kernel) (Nat.le_of_ble_eq_true rfl) (pb_same [none, none] rfl) (show wX7_has l E 0 [some (.int v0), some (.int v1)] [] μ (pX7_has v0 v1 μ) from ?_)
  unfold pX7_has
  refine pb_iload_n 1 dX7_has_0 rfl rfl rfl ?_
  refine pb_iload_n 2 dX7_has_1 rfl rfl rfl ?_
  refine pb_ishr 3 dX7_has_2 rfl ?_
  refine pb_iconst 4 (v := 1) dX7_has_3 rfl (by decide) ?_
  refine pb_iand 5 dX7_has_4 rfl ?_
  refine pb_iconst 6 (v := 1) dX7_has_5 rfl (by decide) ?_
  refine pb_icmp_ne 9 (tgt := 13) dX7_has_6 (by decide) rfl (fun _ => ?_) (fun _ => ?_)
  · refine pb_iconst 10 (v := 1) dX7_has_9 rfl (by decide) ?_
    refine pb_goto (tgt := 14) dX7_has_10 (by decide) ?_
    exact pb_zret rfl dX7_has_14
  · refine pb_iconst 14 (v := 0) dX7_has_13 rfl (by decide) ?_
    exact pb_zret rfl dX7_has_14
theorem mc_X7_has : pb_MC yX7_has cX7_has 2 (some .boolean) 2 := ⟨pb_inW 895 (by decide +kernel) (by decide +kernel), pb_inW 68 (by decide +kernel) (by decide +kernel), by decide +kernel, by decide +kernel, by decide +kernel⟩
theorem ms_X7_has : Cond.static yX7_has ∈ pb_gw := pb_inW 894 (by decide +kernel) (by decide +kernel)
theorem cl_X7_has {α : Type} {l : Launch} {E : pb_E} {R : Room} {own : String} {cc : ByteArray} {mL : Nat} {ret : Option FieldType} {Xs : State → Prop} {nc ns : Nat} {Qf : State → Array Value → List Frame → α → pb_M → State → Prop} {pc : Nat} {L : List (Option Value)} {S : List Value} {μ : pb_M} {f : Int32 → pb_M → Option (α × pb_M)} {v0 : Int32} {v1 : Int32} {index : Nat} (q : Nat)  (hR : 0 + 1 ≤ R.frames ∧ 8 + (2 + 11) + 0 ≤ R.locals ∧ nc ≤ R.cells ∧ ns ≤ R.slots) (hW : (S.map fun v => v.category).sum ≤ 8) (hl1 : Cond.methodLink own index yX7_has ∈ pb_gw) (hdg : decode cc pc = .ok (.invokestatic index, 3)) (hq : pc + 3 = q) (k : ∀ b1 μ1, pb_RW l E R own cc mL ret Xs nc ns Qf q L (.int b1 :: S) μ1 (f b1 μ1)) : pb_RW l E R own cc mL ret Xs nc ns Qf pc L (.int v1 :: .int v0 :: S) μ (pb_b (pX7_has v0 v1 μ) f) := pb_callS q (fun z : Int32 => some (.int z)) mc_X7_has ms_X7_has (fun b1 μ1 h => evX7_has l E v0 v1  μ b1 μ1 h) rfl rfl rfl hR rfl hW hl1 hdg hq k
def pX7_ones_L4 (v0 : Int32) : Nat → Int32 → Int32 → pb_M → Option (Int32 × pb_M)
  | 0, _, _, _ => none
  | n + 1, v1, v2, μ =>
    if (5 : Int32) ≤ v2 then
      some (v1, μ)
    else
    pX7_ones_L4 v0 n (v1 + ((v0 >>> (v2 &&& 31)) &&& (1 : Int32))) (v2 + (1 : Int32)) μ
def pX7_ones (v0 : Int32) (μ : pb_M) : Option (Int32 × pb_M) :=
  pX7_ones_L4 v0 pb_F (0 : Int32) (0 : Int32) μ
abbrev wX7_ones (l : Launch) (E : pb_E) := pb_RW l E { frames := 0, cells := 0, slots := 0, locals := 0 } RX7 cX7_ones 3 (some .int) (fun _ => True) 0 0 (pb_Qf E (fun z : Int32 => some (.int z)))
set_option maxRecDepth 100000 in
set_option maxHeartbeats 4000000 in
theorem tX7_ones_L4 (l : Launch) (E : pb_E) (v0 : Int32)   : ∀ (n : Nat) (v1 : Int32) (v2 : Int32) (μ : pb_M), wX7_ones l E 4 [some (.int v0), some (.int v1), some (.int v2)] [] μ (pX7_ones_L4 v0 n v1 v2 μ) := by
  intro n
  induction n with
  | zero => intro v1 v2 μ; exact pb_none
  | succ n ih =>
    intro v1 v2 μ
    rw [pX7_ones_L4]
    refine pb_iload_n 5 dX7_ones_4 rfl rfl rfl ?_
    refine pb_iconst 6 (v := 5) dX7_ones_5 rfl (by decide) ?_
    refine pb_icmp_ge 9 (tgt := 23) dX7_ones_6 (by decide) rfl (fun _ => ?_) (fun _ => ?_)
    · refine pb_iload_n 24 dX7_ones_23 rfl rfl rfl ?_
      exact pb_iret dX7_ones_24
    · refine pb_iload_n 10 dX7_ones_9 rfl rfl rfl ?_
      refine pb_iload_n 11 dX7_ones_10 rfl rfl rfl ?_
      refine pb_iload_n 12 dX7_ones_11 rfl rfl rfl ?_
      refine pb_ishr 13 dX7_ones_12 rfl ?_
      refine pb_iconst 14 (v := 1) dX7_ones_13 rfl (by decide) ?_
      refine pb_iand 15 dX7_ones_14 rfl ?_
      refine pb_iadd 16 dX7_ones_15 rfl ?_
      refine pb_istore_n 17 (i := 1) (L' := [some (.int v0), some (.int (v1 + ((v0 >>> (v2 &&& 31)) &&& (1 : Int32)))), some (.int v2)]) dX7_ones_16 rfl (by decide) rfl rfl rfl ?_
      refine pb_iinc 20 (i := 2) (v := (v2 + (1 : Int32))) (L' := [some (.int v0), some (.int (v1 + ((v0 >>> (v2 &&& 31)) &&& (1 : Int32)))), some (.int (v2 + (1 : Int32)))]) dX7_ones_17 rfl rfl (by decide) rfl rfl rfl ?_
      refine pb_goto (tgt := 4) dX7_ones_20 (by decide) ?_
      exact ih (v1 + ((v0 >>> (v2 &&& 31)) &&& (1 : Int32))) (v2 + (1 : Int32)) μ
set_option maxRecDepth 100000 in
set_option maxHeartbeats 4000000 in
theorem evX7_ones (l : Launch) (E : pb_E) (v0 : Int32)  (μ : pb_M) : ∀ b μ', pX7_ones v0 μ = some (b, μ') → pb_Ev l E yX7_ones cX7_ones 3 (some .int) { frames := 0, cells := 0, slots := 0, locals := 0 } [.int v0] μ ((fun z : Int32 => some (.int z)) b) μ' := by
  refine pb_enter (L := [some (.int v0), none, none]) (by decide +kernel) (Nat.le_of_ble_eq_true rfl) (pb_same [none, none, none] rfl) (show wX7_ones l E 0 [some (.int v0), none, none] [] μ (pX7_ones v0 μ) from ?_)
  unfold pX7_ones
  refine pb_iconst 1 (v := 0) dX7_ones_0 rfl (by decide) ?_
  refine pb_istore_n 2 (i := 1) (L' := [some (.int v0), some (.int (0 : Int32)), none]) dX7_ones_1 rfl (by decide) rfl rfl rfl ?_
  refine pb_iconst 3 (v := 0) dX7_ones_2 rfl (by decide) ?_
  refine pb_istore_n 4 (i := 2) (L' := [some (.int v0), some (.int (0 : Int32)), some (.int (0 : Int32))]) dX7_ones_3 rfl (by decide) rfl rfl rfl ?_
  exact tX7_ones_L4 l E v0 pb_F (0 : Int32) (0 : Int32) μ
theorem mc_X7_ones : pb_MC yX7_ones cX7_ones 3 (some .int) 1 := ⟨pb_inW 965 (by decide +kernel) (by decide +kernel), pb_inW 68 (by decide +kernel) (by decide +kernel), by decide +kernel, by decide +kernel, by decide +kernel⟩
theorem ms_X7_ones : Cond.static yX7_ones ∈ pb_gw := pb_inW 964 (by decide +kernel) (by decide +kernel)
theorem cl_X7_ones {α : Type} {l : Launch} {E : pb_E} {R : Room} {own : String} {cc : ByteArray} {mL : Nat} {ret : Option FieldType} {Xs : State → Prop} {nc ns : Nat} {Qf : State → Array Value → List Frame → α → pb_M → State → Prop} {pc : Nat} {L : List (Option Value)} {S : List Value} {μ : pb_M} {f : Int32 → pb_M → Option (α × pb_M)} {v0 : Int32} {index : Nat} (q : Nat)  (hR : 0 + 1 ≤ R.frames ∧ 8 + (3 + 11) + 0 ≤ R.locals ∧ nc ≤ R.cells ∧ ns ≤ R.slots) (hW : (S.map fun v => v.category).sum ≤ 8) (hl1 : Cond.methodLink own index yX7_ones ∈ pb_gw) (hdg : decode cc pc = .ok (.invokestatic index, 3)) (hq : pc + 3 = q) (k : ∀ b1 μ1, pb_RW l E R own cc mL ret Xs nc ns Qf q L (.int b1 :: S) μ1 (f b1 μ1)) : pb_RW l E R own cc mL ret Xs nc ns Qf pc L (.int v0 :: S) μ (pb_b (pX7_ones v0 μ) f) := pb_callS q (fun z : Int32 => some (.int z)) mc_X7_ones ms_X7_ones (fun b1 μ1 h => evX7_ones l E v0  μ b1 μ1 h) rfl rfl rfl hR rfl hW hl1 hdg hq k
