def pX5_hayOf (h0 : Nat) (v1 : Int32) (μ : pb_M) : Option (Int32 × pb_M) :=
  if pb_in ((3 : Int32) + v1) 52 then
    some ((μ.1 (h0 + 1) (((3 : Int32) + v1)).toNatClampNeg), μ)
  else none
abbrev wX5_hayOf (l : Launch) (E : pb_E) := pb_RW l E { frames := 0, cells := 0, slots := 0, locals := 0 } RX5 cX5_hayOf 2 (some .int) (fun _ => True) 0 0 (pb_Qf E (fun z : Int32 => some (.int z)))
set_option maxRecDepth 100000 in
set_option maxHeartbeats 4000000 in
theorem evX5_hayOf (l : Launch) (E : pb_E) (h0 : Nat) (v1 : Int32) (hv0 : pb_V h0) (μ : pb_M) : ∀ b μ', pX5_hayOf h0 v1 μ = some (b, μ') → pb_Ev l E yX5_hayOf cX5_hayOf 2 (some .int) { frames := 0, cells := 0, slots := 0, locals := 0 } [.ref (E.2.1 h0), .int v1] μ ((fun z : Int32 => some (.int z)) b) μ' := by
  refine pb_enter (L := [some (.ref (E.2.1 h0)), some (.int v1)]) (by decide +kernel) (Nat.le_of_ble_eq_true rfl) (pb_same [none, none] rfl) (show wX5_hayOf l E 0 [some (.ref (E.2.1 h0)), some (.int v1)] [] μ (pX5_hayOf h0 v1 μ) from ?_)
  unfold pX5_hayOf
  refine pb_aload_n 1 dX5_hayOf_0 rfl rfl rfl ?_
  refine pb_getR 4 (j := 0) (d := (h0 + 1)) in_X5 rfl (by decide) hv0.1 rfl (by decide) fl_X5_11 dX5_hayOf_1 rfl ?_
  refine pb_iconst 5 (v := 3) dX5_hayOf_4 rfl (by decide) ?_
  refine pb_iload_n 6 dX5_hayOf_5 rfl rfl rfl ?_
  refine pb_iadd 7 dX5_hayOf_6 rfl ?_
  refine pb_guard (fun hin => pb_iald 8 hv0.2 hin rfl dX5_hayOf_7 rfl ?_)
  exact pb_iret dX5_hayOf_8
theorem mc_X5_hayOf : pb_MC yX5_hayOf cX5_hayOf 2 (some .int) 1 := ⟨pb_inW 344 (by decide +kernel) (by decide +kernel), pb_inW 63 (by decide +kernel) (by decide +kernel), by decide +kernel, by decide +kernel, by decide +kernel⟩
theorem mi_X5_hayOf : Cond.instanceMethod yX5_hayOf ∈ pb_gw := pb_inW 342 (by decide +kernel) (by decide +kernel)
theorem ms_X5_hayOf : Cond.selects (yX5_hayOf).cls yX5_hayOf yX5_hayOf ∈ pb_gw := pb_inW 343 (by decide +kernel) (by decide +kernel)
theorem cl_X5_hayOf {α : Type} {l : Launch} {E : pb_E} {R : Room} {own : String} {cc : ByteArray} {mL : Nat} {ret : Option FieldType} {Xs : State → Prop} {nc ns : Nat} {Qf : State → Array Value → List Frame → α → pb_M → State → Prop} {pc : Nat} {L : List (Option Value)} {S : List Value} {μ : pb_M} {f : Int32 → pb_M → Option (α × pb_M)} {h0 : Nat} {v1 : Int32} {index : Nat} (q : Nat) (hv0 : pb_V h0) (hR : 0 + 1 ≤ R.frames ∧ 8 + (2 + 11) + 0 ≤ R.locals ∧ nc ≤ R.cells ∧ ns ≤ R.slots) (hW : (S.map fun v => v.category).sum ≤ 8) (hl1 : Cond.methodLink own index yX5_hayOf ∈ pb_gw) (hdg : decode cc pc = .ok (.invokevirtual index, 3)) (hq : pc + 3 = q) (k : ∀ b1 μ1, pb_RW l E R own cc mL ret Xs nc ns Qf q L (.int b1 :: S) μ1 (f b1 μ1)) : pb_RW l E R own cc mL ret Xs nc ns Qf pc L (.int v1 :: .ref (E.2.1 h0) :: S) μ (pb_b (pX5_hayOf h0 v1 μ) f) := pb_callV q (fun z : Int32 => some (.int z)) mc_X5_hayOf mi_X5_hayOf ms_X5_hayOf (fun b1 μ1 h => evX5_hayOf l E h0 v1 hv0 μ b1 μ1 h) hv0.1 (by decide) rfl rfl rfl rfl hR rfl hW hl1 hdg hq k
def pX5_moneyOf (h0 : Nat) (v1 : Int32) (μ : pb_M) : Option (Int32 × pb_M) :=
  if pb_in ((7 : Int32) + v1) 52 then
    some ((μ.1 (h0 + 1) (((7 : Int32) + v1)).toNatClampNeg), μ)
  else none
abbrev wX5_moneyOf (l : Launch) (E : pb_E) := pb_RW l E { frames := 0, cells := 0, slots := 0, locals := 0 } RX5 cX5_moneyOf 2 (some .int) (fun _ => True) 0 0 (pb_Qf E (fun z : Int32 => some (.int z)))
set_option maxRecDepth 100000 in
set_option maxHeartbeats 4000000 in
theorem evX5_moneyOf (l : Launch) (E : pb_E) (h0 : Nat) (v1 : Int32) (hv0 : pb_V h0) (μ : pb_M) : ∀ b μ', pX5_moneyOf h0 v1 μ = some (b, μ') → pb_Ev l E yX5_moneyOf cX5_moneyOf 2 (some .int) { frames := 0, cells := 0, slots := 0, locals := 0 } [.ref (E.2.1 h0), .int v1] μ ((fun z : Int32 => some (.int z)) b) μ' := by
  refine pb_enter (L := [some (.ref (E.2.1 h0)), some (.int v1)]) (by decide +kernel) (Nat.le_of_ble_eq_true rfl) (pb_same [none, none] rfl) (show wX5_moneyOf l E 0 [some (.ref (E.2.1 h0)), some (.int v1)] [] μ (pX5_moneyOf h0 v1 μ) from ?_)
  unfold pX5_moneyOf
  refine pb_aload_n 1 dX5_moneyOf_0 rfl rfl rfl ?_
  refine pb_getR 4 (j := 0) (d := (h0 + 1)) in_X5 rfl (by decide) hv0.1 rfl (by decide) fl_X5_11 dX5_moneyOf_1 rfl ?_
  refine pb_bipush 6 (v := 7) dX5_moneyOf_4 rfl (by decide) ?_
  refine pb_iload_n 7 dX5_moneyOf_6 rfl rfl rfl ?_
  refine pb_iadd 8 dX5_moneyOf_7 rfl ?_
  refine pb_guard (fun hin => pb_iald 9 hv0.2 hin rfl dX5_moneyOf_8 rfl ?_)
  exact pb_iret dX5_moneyOf_9
theorem mc_X5_moneyOf : pb_MC yX5_moneyOf cX5_moneyOf 2 (some .int) 1 := ⟨pb_inW 348 (by decide +kernel) (by decide +kernel), pb_inW 63 (by decide +kernel) (by decide +kernel), by decide +kernel, by decide +kernel, by decide +kernel⟩
theorem mi_X5_moneyOf : Cond.instanceMethod yX5_moneyOf ∈ pb_gw := pb_inW 346 (by decide +kernel) (by decide +kernel)
theorem ms_X5_moneyOf : Cond.selects (yX5_moneyOf).cls yX5_moneyOf yX5_moneyOf ∈ pb_gw := pb_inW 347 (by decide +kernel) (by decide +kernel)
theorem cl_X5_moneyOf {α : Type} {l : Launch} {E : pb_E} {R : Room} {own : String} {cc : ByteArray} {mL : Nat} {ret : Option FieldType} {Xs : State → Prop} {nc ns : Nat} {Qf : State → Array Value → List Frame → α → pb_M → State → Prop} {pc : Nat} {L : List (Option Value)} {S : List Value} {μ : pb_M} {f : Int32 → pb_M → Option (α × pb_M)} {h0 : Nat} {v1 : Int32} {index : Nat} (q : Nat) (hv0 : pb_V h0) (hR : 0 + 1 ≤ R.frames ∧ 8 + (2 + 11) + 0 ≤ R.locals ∧ nc ≤ R.cells ∧ ns ≤ R.slots) (hW : (S.map fun v => v.category).sum ≤ 8) (hl1 : Cond.methodLink own index yX5_moneyOf ∈ pb_gw) (hdg : decode cc pc = .ok (.invokevirtual index, 3)) (hq : pc + 3 = q) (k : ∀ b1 μ1, pb_RW l E R own cc mL ret Xs nc ns Qf q L (.int b1 :: S) μ1 (f b1 μ1)) : pb_RW l E R own cc mL ret Xs nc ns Qf pc L (.int v1 :: .ref (E.2.1 h0) :: S) μ (pb_b (pX5_moneyOf h0 v1 μ) f) := pb_callV q (fun z : Int32 => some (.int z)) mc_X5_moneyOf mi_X5_moneyOf ms_X5_moneyOf (fun b1 μ1 h => evX5_moneyOf l E h0 v1 hv0 μ b1 μ1 h) hv0.1 (by decide) rfl rfl rfl rfl hR rfl hW hl1 hdg hq k
def pX5_daysOf (h0 : Nat) (v1 : Int32) (μ : pb_M) : Option (Int32 × pb_M) :=
  if pb_in ((47 : Int32) + v1) 52 then
    some ((μ.1 (h0 + 1) (((47 : Int32) + v1)).toNatClampNeg), μ)
  else none
abbrev wX5_daysOf (l : Launch) (E : pb_E) := pb_RW l E { frames := 0, cells := 0, slots := 0, locals := 0 } RX5 cX5_daysOf 2 (some .int) (fun _ => True) 0 0 (pb_Qf E (fun z : Int32 => some (.int z)))
set_option maxRecDepth 100000 in
set_option maxHeartbeats 4000000 in
theorem evX5_daysOf (l : Launch) (E : pb_E) (h0 : Nat) (v1 : Int32) (hv0 : pb_V h0) (μ : pb_M) : ∀ b μ', pX5_daysOf h0 v1 μ = some (b, μ') → pb_Ev l E yX5_daysOf cX5_daysOf 2 (some .int) { frames := 0, cells := 0, slots := 0, locals := 0 } [.ref (E.2.1 h0), .int v1] μ ((fun z : Int32 => some (.int z)) b) μ' := by
  refine pb_enter (L := [some (.ref (E.2.1 h0)), some (.int v1)]) (by decide +kernel) (Nat.le_of_ble_eq_true rfl) (pb_same [none, none] rfl) (show wX5_daysOf l E 0 [some (.ref (E.2.1 h0)), some (.int v1)] [] μ (pX5_daysOf h0 v1 μ) from ?_)
  unfold pX5_daysOf
  refine pb_aload_n 1 dX5_daysOf_0 rfl rfl rfl ?_
  refine pb_getR 4 (j := 0) (d := (h0 + 1)) in_X5 rfl (by decide) hv0.1 rfl (by decide) fl_X5_11 dX5_daysOf_1 rfl ?_
  refine pb_bipush 6 (v := 47) dX5_daysOf_4 rfl (by decide) ?_
  refine pb_iload_n 7 dX5_daysOf_6 rfl rfl rfl ?_
  refine pb_iadd 8 dX5_daysOf_7 rfl ?_
  refine pb_guard (fun hin => pb_iald 9 hv0.2 hin rfl dX5_daysOf_8 rfl ?_)
  exact pb_iret dX5_daysOf_9
theorem mc_X5_daysOf : pb_MC yX5_daysOf cX5_daysOf 2 (some .int) 1 := ⟨pb_inW 389 (by decide +kernel) (by decide +kernel), pb_inW 63 (by decide +kernel) (by decide +kernel), by decide +kernel, by decide +kernel, by decide +kernel⟩
theorem mi_X5_daysOf : Cond.instanceMethod yX5_daysOf ∈ pb_gw := pb_inW 387 (by decide +kernel) (by decide +kernel)
theorem ms_X5_daysOf : Cond.selects (yX5_daysOf).cls yX5_daysOf yX5_daysOf ∈ pb_gw := pb_inW 388 (by decide +kernel) (by decide +kernel)
theorem cl_X5_daysOf {α : Type} {l : Launch} {E : pb_E} {R : Room} {own : String} {cc : ByteArray} {mL : Nat} {ret : Option FieldType} {Xs : State → Prop} {nc ns : Nat} {Qf : State → Array Value → List Frame → α → pb_M → State → Prop} {pc : Nat} {L : List (Option Value)} {S : List Value} {μ : pb_M} {f : Int32 → pb_M → Option (α × pb_M)} {h0 : Nat} {v1 : Int32} {index : Nat} (q : Nat) (hv0 : pb_V h0) (hR : 0 + 1 ≤ R.frames ∧ 8 + (2 + 11) + 0 ≤ R.locals ∧ nc ≤ R.cells ∧ ns ≤ R.slots) (hW : (S.map fun v => v.category).sum ≤ 8) (hl1 : Cond.methodLink own index yX5_daysOf ∈ pb_gw) (hdg : decode cc pc = .ok (.invokevirtual index, 3)) (hq : pc + 3 = q) (k : ∀ b1 μ1, pb_RW l E R own cc mL ret Xs nc ns Qf q L (.int b1 :: S) μ1 (f b1 μ1)) : pb_RW l E R own cc mL ret Xs nc ns Qf pc L (.int v1 :: .ref (E.2.1 h0) :: S) μ (pb_b (pX5_daysOf h0 v1 μ) f) := pb_callV q (fun z : Int32 => some (.int z)) mc_X5_daysOf mi_X5_daysOf ms_X5_daysOf (fun b1 μ1 h => evX5_daysOf l E h0 v1 hv0 μ b1 μ1 h) hv0.1 (by decide) rfl rfl rfl rfl hR rfl hW hl1 hdg hq k
theorem ml_X5_45 : Cond.methodLink RX5 45 yX5_daysOf ∈ pb_gw := pb_inW 504 (by decide +kernel) (by decide +kernel)
def pX5_isRipe (h0 : Nat) (v1 : Int32) (μ : pb_M) : Option (Int32 × pb_M) :=
  pb_b (pX5_isShut h0 v1 μ) (fun b2 μ2 =>
  if b2 = (0 : Int32) then
    some ((0 : Int32), μ2)
  else
  pb_b (pX5_daysOf h0 v1 μ2) (fun b10 μ10 =>
  if b10 < (3 : Int32) then
    some ((0 : Int32), μ10)
  else
  some ((1 : Int32), μ10)))
abbrev wX5_isRipe (l : Launch) (E : pb_E) := pb_RW l E { frames := 2, cells := 0, slots := 0, locals := 42 } RX5 cX5_isRipe 2 (some .boolean) (fun _ => True) 0 0 (pb_Qf E (fun z : Int32 => some (.int z)))
set_option maxRecDepth 100000 in
set_option maxHeartbeats 4000000 in
theorem evX5_isRipe (l : Launch) (E : pb_E) (h0 : Nat) (v1 : Int32) (hv0 : pb_V h0) (μ : pb_M) : ∀ b μ', pX5_isRipe h0 v1 μ = some (b, μ') → pb_Ev l E yX5_isRipe cX5_isRipe 2 (some .boolean) { frames := 2, cells := 0, slots := 0, locals := 42 } [.ref (E.2.1 h0), .int v1] μ ((fun z : Int32 => some (.int z)) b) μ' := by
  refine pb_enter (L := [some (.ref (E.2.1 h0)), some (.int v1)]) (by decide +kernel) (Nat.le_of_ble_eq_true rfl) (pb_same [none, none] rfl) (show wX5_isRipe l E 0 [some (.ref (E.2.1 h0)), some (.int v1)] [] μ (pX5_isRipe h0 v1 μ) from ?_)
  unfold pX5_isRipe
  refine pb_aload_n 1 dX5_isRipe_0 rfl rfl rfl ?_
  refine pb_iload_n 2 dX5_isRipe_1 rfl rfl rfl ?_
  refine cl_X5_isShut 5 hv0 ⟨by decide, by decide, by decide, by decide⟩ (Nat.le_of_ble_eq_true rfl) ml_X5_41 dX5_isRipe_2 rfl (fun b2 μ2 => ?_)
  refine pb_if_eq 8 (tgt := 21) dX5_isRipe_5 (by decide) rfl (fun _ => ?_) (fun _ => ?_)
  · refine pb_iconst 22 (v := 0) dX5_isRipe_21 rfl (by decide) ?_
    exact pb_zret rfl dX5_isRipe_22
  · refine pb_aload_n 9 dX5_isRipe_8 rfl rfl rfl ?_
    refine pb_iload_n 10 dX5_isRipe_9 rfl rfl rfl ?_
    refine cl_X5_daysOf 13 hv0 ⟨by decide, by decide, by decide, by decide⟩ (Nat.le_of_ble_eq_true rfl) ml_X5_45 dX5_isRipe_10 rfl (fun b10 μ10 => ?_)
    refine pb_iconst 14 (v := 3) dX5_isRipe_13 rfl (by decide) ?_
    refine pb_icmp_lt 17 (tgt := 21) dX5_isRipe_14 (by decide) rfl (fun _ => ?_) (fun _ => ?_)
    · refine pb_iconst 22 (v := 0) dX5_isRipe_21 rfl (by decide) ?_
      exact pb_zret rfl dX5_isRipe_22
    · refine pb_iconst 18 (v := 1) dX5_isRipe_17 rfl (by decide) ?_
      refine pb_goto (tgt := 22) dX5_isRipe_18 (by decide) ?_
      exact pb_zret rfl dX5_isRipe_22
theorem mc_X5_isRipe : pb_MC yX5_isRipe cX5_isRipe 2 (some .boolean) 1 := ⟨pb_inW 503 (by decide +kernel) (by decide +kernel), pb_inW 63 (by decide +kernel) (by decide +kernel), by decide +kernel, by decide +kernel, by decide +kernel⟩
theorem mi_X5_isRipe : Cond.instanceMethod yX5_isRipe ∈ pb_gw := pb_inW 501 (by decide +kernel) (by decide +kernel)
theorem ms_X5_isRipe : Cond.selects (yX5_isRipe).cls yX5_isRipe yX5_isRipe ∈ pb_gw := pb_inW 502 (by decide +kernel) (by decide +kernel)
theorem cl_X5_isRipe {α : Type} {l : Launch} {E : pb_E} {R : Room} {own : String} {cc : ByteArray} {mL : Nat} {ret : Option FieldType} {Xs : State → Prop} {nc ns : Nat} {Qf : State → Array Value → List Frame → α → pb_M → State → Prop} {pc : Nat} {L : List (Option Value)} {S : List Value} {μ : pb_M} {f : Int32 → pb_M → Option (α × pb_M)} {h0 : Nat} {v1 : Int32} {index : Nat} (q : Nat) (hv0 : pb_V h0) (hR : 2 + 1 ≤ R.frames ∧ 8 + (2 + 11) + 42 ≤ R.locals ∧ nc ≤ R.cells ∧ ns ≤ R.slots) (hW : (S.map fun v => v.category).sum ≤ 8) (hl1 : Cond.methodLink own index yX5_isRipe ∈ pb_gw) (hdg : decode cc pc = .ok (.invokevirtual index, 3)) (hq : pc + 3 = q) (k : ∀ b1 μ1, pb_RW l E R own cc mL ret Xs nc ns Qf q L (.int b1 :: S) μ1 (f b1 μ1)) : pb_RW l E R own cc mL ret Xs nc ns Qf pc L (.int v1 :: .ref (E.2.1 h0) :: S) μ (pb_b (pX5_isRipe h0 v1 μ) f) := pb_callV q (fun z : Int32 => some (.int z)) mc_X5_isRipe mi_X5_isRipe ms_X5_isRipe (fun b1 μ1 h => evX5_isRipe l E h0 v1 hv0 μ b1 μ1 h) hv0.1 (by decide) rfl rfl rfl rfl hR rfl hW hl1 hdg hq k
def pX5_shutBeasts_L4 (h0 : Nat) : Nat → Int32 → Int32 → pb_M → Option (Int32 × pb_M)
  | 0, _, _, _ => none
  | n + 1, v1, v2, μ =>
    pb_b (pX5_beasts h0 μ) (fun b6 μ6 =>
    if b6 ≤ v2 then
      some (v1, μ6)
    else
    pb_b (pX5_isShut h0 v2 μ6) (fun b15 μ15 =>
    if b15 = (0 : Int32) then
      pX5_shutBeasts_L4 h0 n (v1 ||| (0 : Int32)) (v2 + (1 : Int32)) μ15
    else
    pX5_shutBeasts_L4 h0 n (v1 ||| ((1 : Int32) <<< (v2 &&& 31))) (v2 + (1 : Int32)) μ15))
def pX5_shutBeasts (h0 : Nat) (μ : pb_M) : Option (Int32 × pb_M) :=
  pX5_shutBeasts_L4 h0 pb_F (0 : Int32) (0 : Int32) μ
abbrev wX5_shutBeasts (l : Launch) (E : pb_E) := pb_RW l E { frames := 2, cells := 0, slots := 0, locals := 42 } RX5 cX5_shutBeasts 3 (some .int) (fun _ => True) 0 0 (pb_Qf E (fun z : Int32 => some (.int z)))
set_option maxRecDepth 100000 in
set_option maxHeartbeats 4000000 in
theorem tX5_shutBeasts_L4 (l : Launch) (E : pb_E) (h0 : Nat) (hv0 : pb_V h0)   : ∀ (n : Nat) (v1 : Int32) (v2 : Int32) (μ : pb_M), wX5_shutBeasts l E 4 [some (.ref (E.2.1 h0)), some (.int v1), some (.int v2)] [] μ (pX5_shutBeasts_L4 h0 n v1 v2 μ) := by
  intro n
  induction n with
  | zero => intro v1 v2 μ; exact pb_none
  | succ n ih =>
    intro v1 v2 μ
    rw [pX5_shutBeasts_L4]
    refine pb_iload_n 5 dX5_shutBeasts_4 rfl rfl rfl ?_
    refine pb_aload_n 6 dX5_shutBeasts_5 rfl rfl rfl ?_
    refine cl_X5_beasts 9 hv0 ⟨by decide, by decide, by decide, by decide⟩ (Nat.le_of_ble_eq_true rfl) ml_X5_31 dX5_shutBeasts_6 rfl (fun b6 μ6 => ?_)
    refine pb_icmp_ge 12 (tgt := 36) dX5_shutBeasts_9 (by decide) rfl (fun _ => ?_) (fun _ => ?_)
    · refine pb_iload_n 37 dX5_shutBeasts_36 rfl rfl rfl ?_
      exact pb_iret dX5_shutBeasts_37
    · refine pb_iload_n 13 dX5_shutBeasts_12 rfl rfl rfl ?_
      refine pb_aload_n 14 dX5_shutBeasts_13 rfl rfl rfl ?_
      refine pb_iload_n 15 dX5_shutBeasts_14 rfl rfl rfl ?_
      refine cl_X5_isShut 18 hv0 ⟨by decide, by decide, by decide, by decide⟩ (Nat.le_of_ble_eq_true rfl) ml_X5_41 dX5_shutBeasts_15 rfl (fun b15 μ15 => ?_)
      refine pb_if_eq 21 (tgt := 27) dX5_shutBeasts_18 (by decide) rfl (fun _ => ?_) (fun _ => ?_)
      · refine pb_iconst 28 (v := 0) dX5_shutBeasts_27 rfl (by decide) ?_
        refine pb_ior 29 dX5_shutBeasts_28 rfl ?_
        refine pb_istore_n 30 (i := 1) (L' := [some (.ref (E.2.1 h0)), some (.int (v1 ||| (0 : Int32))), some (.int v2)]) dX5_shutBeasts_29 rfl (by decide) rfl rfl rfl ?_
        refine pb_iinc 33 (i := 2) (v := (v2 + (1 : Int32))) (L' := [some (.ref (E.2.1 h0)), some (.int (v1 ||| (0 : Int32))), some (.int (v2 + (1 : Int32)))]) dX5_shutBeasts_30 rfl rfl (by decide) rfl rfl rfl ?_
        refine pb_goto (tgt := 4) dX5_shutBeasts_33 (by decide) ?_
        exact ih (v1 ||| (0 : Int32)) (v2 + (1 : Int32)) μ15
      · refine pb_iconst 22 (v := 1) dX5_shutBeasts_21 rfl (by decide) ?_
        refine pb_iload_n 23 dX5_shutBeasts_22 rfl rfl rfl ?_
        refine pb_ishl 24 dX5_shutBeasts_23 rfl ?_
        refine pb_goto (tgt := 28) dX5_shutBeasts_24 (by decide) ?_
        refine pb_ior 29 dX5_shutBeasts_28 rfl ?_
        refine pb_istore_n 30 (i := 1) (L' := [some (.ref (E.2.1 h0)), some (.int (v1 ||| ((1 : Int32) <<< (v2 &&& 31)))), some (.int v2)]) dX5_shutBeasts_29 rfl (by decide) rfl rfl rfl ?_
        refine pb_iinc 33 (i := 2) (v := (v2 + (1 : Int32))) (L' := [some (.ref (E.2.1 h0)), some (.int (v1 ||| ((1 : Int32) <<< (v2 &&& 31)))), some (.int (v2 + (1 : Int32)))]) dX5_shutBeasts_30 rfl rfl (by decide) rfl rfl rfl ?_
        refine pb_goto (tgt := 4) dX5_shutBeasts_33 (by decide) ?_
        exact ih (v1 ||| ((1 : Int32) <<< (v2 &&& 31))) (v2 + (1 : Int32)) μ15
set_option maxRecDepth 100000 in
set_option maxHeartbeats 4000000 in
theorem evX5_shutBeasts (l : Launch) (E : pb_E) (h0 : Nat) (hv0 : pb_V h0) (μ : pb_M) : ∀ b μ', pX5_shutBeasts h0 μ = some (b, μ') → pb_Ev l E yX5_shutBeasts cX5_shutBeasts 3 (some .int) { frames := 2, cells := 0, slots := 0, locals := 42 } [.ref (E.2.1 h0)] μ ((fun z : Int32 => some (.int z)) b) μ' := by
  refine pb_enter (L := [some (.ref (E.2.1 h0)), none, none]) (by decide +kernel) (Nat.le_of_ble_eq_true rfl) (pb_same [none, none, none] rfl) (show wX5_shutBeasts l E 0 [some (.ref (E.2.1 h0)), none, none] [] μ (pX5_shutBeasts h0 μ) from ?_)
  unfold pX5_shutBeasts
  refine pb_iconst 1 (v := 0) dX5_shutBeasts_0 rfl (by decide) ?_
  refine pb_istore_n 2 (i := 1) (L' := [some (.ref (E.2.1 h0)), some (.int (0 : Int32)), none]) dX5_shutBeasts_1 rfl (by decide) rfl rfl rfl ?_
  refine pb_iconst 3 (v := 0) dX5_shutBeasts_2 rfl (by decide) ?_
  refine pb_istore_n 4 (i := 2) (L' := [some (.ref (E.2.1 h0)), some (.int (0 : Int32)), some (.int (0 : Int32))]) dX5_shutBeasts_3 rfl (by decide) rfl rfl rfl ?_
  exact tX5_shutBeasts_L4 l E h0 hv0 pb_F (0 : Int32) (0 : Int32) μ
theorem mc_X5_shutBeasts : pb_MC yX5_shutBeasts cX5_shutBeasts 3 (some .int) 0 := ⟨pb_inW 463 (by decide +kernel) (by decide +kernel), pb_inW 63 (by decide +kernel) (by decide +kernel), by decide +kernel, by decide +kernel, by decide +kernel⟩
theorem mi_X5_shutBeasts : Cond.instanceMethod yX5_shutBeasts ∈ pb_gw := pb_inW 461 (by decide +kernel) (by decide +kernel)
theorem ms_X5_shutBeasts : Cond.selects (yX5_shutBeasts).cls yX5_shutBeasts yX5_shutBeasts ∈ pb_gw := pb_inW 462 (by decide +kernel) (by decide +kernel)
theorem cl_X5_shutBeasts {α : Type} {l : Launch} {E : pb_E} {R : Room} {own : String} {cc : ByteArray} {mL : Nat} {ret : Option FieldType} {Xs : State → Prop} {nc ns : Nat} {Qf : State → Array Value → List Frame → α → pb_M → State → Prop} {pc : Nat} {L : List (Option Value)} {S : List Value} {μ : pb_M} {f : Int32 → pb_M → Option (α × pb_M)} {h0 : Nat} {index : Nat} (q : Nat) (hv0 : pb_V h0) (hR : 2 + 1 ≤ R.frames ∧ 8 + (3 + 11) + 42 ≤ R.locals ∧ nc ≤ R.cells ∧ ns ≤ R.slots) (hW : (S.map fun v => v.category).sum ≤ 8) (hl1 : Cond.methodLink own index yX5_shutBeasts ∈ pb_gw) (hdg : decode cc pc = .ok (.invokevirtual index, 3)) (hq : pc + 3 = q) (k : ∀ b1 μ1, pb_RW l E R own cc mL ret Xs nc ns Qf q L (.int b1 :: S) μ1 (f b1 μ1)) : pb_RW l E R own cc mL ret Xs nc ns Qf pc L (.ref (E.2.1 h0) :: S) μ (pb_b (pX5_shutBeasts h0 μ) f) := pb_callV q (fun z : Int32 => some (.int z)) mc_X5_shutBeasts mi_X5_shutBeasts ms_X5_shutBeasts (fun b1 μ1 h => evX5_shutBeasts l E h0 hv0 μ b1 μ1 h) hv0.1 (by decide) rfl rfl rfl rfl hR rfl hW hl1 hdg hq k
def pX5_deadBeasts_L4 (h0 : Nat) : Nat → Int32 → Int32 → pb_M → Option (Int32 × pb_M)
  | 0, _, _, _ => none
  | n + 1, v1, v2, μ =>
    pb_b (pX5_beasts h0 μ) (fun b6 μ6 =>
    if b6 ≤ v2 then
      some (v1, μ6)
    else
    pb_b (pX5_isDead h0 v2 μ6) (fun b15 μ15 =>
    if b15 = (0 : Int32) then
      pX5_deadBeasts_L4 h0 n (v1 ||| (0 : Int32)) (v2 + (1 : Int32)) μ15
    else
    pX5_deadBeasts_L4 h0 n (v1 ||| ((1 : Int32) <<< (v2 &&& 31))) (v2 + (1 : Int32)) μ15))
def pX5_deadBeasts (h0 : Nat) (μ : pb_M) : Option (Int32 × pb_M) :=
  pX5_deadBeasts_L4 h0 pb_F (0 : Int32) (0 : Int32) μ
abbrev wX5_deadBeasts (l : Launch) (E : pb_E) := pb_RW l E { frames := 2, cells := 0, slots := 0, locals := 42 } RX5 cX5_deadBeasts 3 (some .int) (fun _ => True) 0 0 (pb_Qf E (fun z : Int32 => some (.int z)))
set_option maxRecDepth 100000 in
set_option maxHeartbeats 4000000 in
theorem tX5_deadBeasts_L4 (l : Launch) (E : pb_E) (h0 : Nat) (hv0 : pb_V h0)   : ∀ (n : Nat) (v1 : Int32) (v2 : Int32) (μ : pb_M), wX5_deadBeasts l E 4 [some (.ref (E.2.1 h0)), some (.int v1), some (.int v2)] [] μ (pX5_deadBeasts_L4 h0 n v1 v2 μ) := by
  intro n
  induction n with
  | zero => intro v1 v2 μ; exact pb_none
  | succ n ih =>
    intro v1 v2 μ
    rw [pX5_deadBeasts_L4]
    refine pb_iload_n 5 dX5_deadBeasts_4 rfl rfl rfl ?_
    refine pb_aload_n 6 dX5_deadBeasts_5 rfl rfl rfl ?_
    refine cl_X5_beasts 9 hv0 ⟨by decide, by decide, by decide, by decide⟩ (Nat.le_of_ble_eq_true rfl) ml_X5_31 dX5_deadBeasts_6 rfl (fun b6 μ6 => ?_)
    refine pb_icmp_ge 12 (tgt := 36) dX5_deadBeasts_9 (by decide) rfl (fun _ => ?_) (fun _ => ?_)
    · refine pb_iload_n 37 dX5_deadBeasts_36 rfl rfl rfl ?_
      exact pb_iret dX5_deadBeasts_37
    · refine pb_iload_n 13 dX5_deadBeasts_12 rfl rfl rfl ?_
      refine pb_aload_n 14 dX5_deadBeasts_13 rfl rfl rfl ?_
      refine pb_iload_n 15 dX5_deadBeasts_14 rfl rfl rfl ?_
      refine cl_X5_isDead 18 hv0 ⟨by decide, by decide, by decide, by decide⟩ (Nat.le_of_ble_eq_true rfl) ml_X5_51 dX5_deadBeasts_15 rfl (fun b15 μ15 => ?_)
      refine pb_if_eq 21 (tgt := 27) dX5_deadBeasts_18 (by decide) rfl (fun _ => ?_) (fun _ => ?_)
      · refine pb_iconst 28 (v := 0) dX5_deadBeasts_27 rfl (by decide) ?_
        refine pb_ior 29 dX5_deadBeasts_28 rfl ?_
        refine pb_istore_n 30 (i := 1) (L' := [some (.ref (E.2.1 h0)), some (.int (v1 ||| (0 : Int32))), some (.int v2)]) dX5_deadBeasts_29 rfl (by decide) rfl rfl rfl ?_
        refine pb_iinc 33 (i := 2) (v := (v2 + (1 : Int32))) (L' := [some (.ref (E.2.1 h0)), some (.int (v1 ||| (0 : Int32))), some (.int (v2 + (1 : Int32)))]) dX5_deadBeasts_30 rfl rfl (by decide) rfl rfl rfl ?_
        refine pb_goto (tgt := 4) dX5_deadBeasts_33 (by decide) ?_
        exact ih (v1 ||| (0 : Int32)) (v2 + (1 : Int32)) μ15
      · refine pb_iconst 22 (v := 1) dX5_deadBeasts_21 rfl (by decide) ?_
        refine pb_iload_n 23 dX5_deadBeasts_22 rfl rfl rfl ?_
        refine pb_ishl 24 dX5_deadBeasts_23 rfl ?_
        refine pb_goto (tgt := 28) dX5_deadBeasts_24 (by decide) ?_
        refine pb_ior 29 dX5_deadBeasts_28 rfl ?_
        refine pb_istore_n 30 (i := 1) (L' := [some (.ref (E.2.1 h0)), some (.int (v1 ||| ((1 : Int32) <<< (v2 &&& 31)))), some (.int v2)]) dX5_deadBeasts_29 rfl (by decide) rfl rfl rfl ?_
        refine pb_iinc 33 (i := 2) (v := (v2 + (1 : Int32))) (L' := [some (.ref (E.2.1 h0)), some (.int (v1 ||| ((1 : Int32) <<< (v2 &&& 31)))), some (.int (v2 + (1 : Int32)))]) dX5_deadBeasts_30 rfl rfl (by decide) rfl rfl rfl ?_
        refine pb_goto (tgt := 4) dX5_deadBeasts_33 (by decide) ?_
        exact ih (v1 ||| ((1 : Int32) <<< (v2 &&& 31))) (v2 + (1 : Int32)) μ15
set_option maxRecDepth 100000 in
set_option maxHeartbeats 4000000 in
theorem evX5_deadBeasts (l : Launch) (E : pb_E) (h0 : Nat) (hv0 : pb_V h0) (μ : pb_M) : ∀ b μ', pX5_deadBeasts h0 μ = some (b, μ') → pb_Ev l E yX5_deadBeasts cX5_deadBeasts 3 (some .int) { frames := 2, cells := 0, slots := 0, locals := 42 } [.ref (E.2.1 h0)] μ ((fun z : Int32 => some (.int z)) b) μ' := by
  refine pb_enter (L := [some (.ref (E.2.1 h0)), none, none]) (by decide +kernel) (Nat.le_of_ble_eq_true rfl) (pb_same [none, none, none] rfl) (show wX5_deadBeasts l E 0 [some (.ref (E.2.1 h0)), none, none] [] μ (pX5_deadBeasts h0 μ) from ?_)
  unfold pX5_deadBeasts
  refine pb_iconst 1 (v := 0) dX5_deadBeasts_0 rfl (by decide) ?_
  refine pb_istore_n 2 (i := 1) (L' := [some (.ref (E.2.1 h0)), some (.int (0 : Int32)), none]) dX5_deadBeasts_1 rfl (by decide) rfl rfl rfl ?_
  refine pb_iconst 3 (v := 0) dX5_deadBeasts_2 rfl (by decide) ?_
  refine pb_istore_n 4 (i := 2) (L' := [some (.ref (E.2.1 h0)), some (.int (0 : Int32)), some (.int (0 : Int32))]) dX5_deadBeasts_3 rfl (by decide) rfl rfl rfl ?_
  exact tX5_deadBeasts_L4 l E h0 hv0 pb_F (0 : Int32) (0 : Int32) μ
theorem mc_X5_deadBeasts : pb_MC yX5_deadBeasts cX5_deadBeasts 3 (some .int) 0 := ⟨pb_inW 777 (by decide +kernel) (by decide +kernel), pb_inW 63 (by decide +kernel) (by decide +kernel), by decide +kernel, by decide +kernel, by decide +kernel⟩
theorem mi_X5_deadBeasts : Cond.instanceMethod yX5_deadBeasts ∈ pb_gw := pb_inW 775 (by decide +kernel) (by decide +kernel)
theorem ms_X5_deadBeasts : Cond.selects (yX5_deadBeasts).cls yX5_deadBeasts yX5_deadBeasts ∈ pb_gw := pb_inW 776 (by decide +kernel) (by decide +kernel)
theorem cl_X5_deadBeasts {α : Type} {l : Launch} {E : pb_E} {R : Room} {own : String} {cc : ByteArray} {mL : Nat} {ret : Option FieldType} {Xs : State → Prop} {nc ns : Nat} {Qf : State → Array Value → List Frame → α → pb_M → State → Prop} {pc : Nat} {L : List (Option Value)} {S : List Value} {μ : pb_M} {f : Int32 → pb_M → Option (α × pb_M)} {h0 : Nat} {index : Nat} (q : Nat) (hv0 : pb_V h0) (hR : 2 + 1 ≤ R.frames ∧ 8 + (3 + 11) + 42 ≤ R.locals ∧ nc ≤ R.cells ∧ ns ≤ R.slots) (hW : (S.map fun v => v.category).sum ≤ 8) (hl1 : Cond.methodLink own index yX5_deadBeasts ∈ pb_gw) (hdg : decode cc pc = .ok (.invokevirtual index, 3)) (hq : pc + 3 = q) (k : ∀ b1 μ1, pb_RW l E R own cc mL ret Xs nc ns Qf q L (.int b1 :: S) μ1 (f b1 μ1)) : pb_RW l E R own cc mL ret Xs nc ns Qf pc L (.ref (E.2.1 h0) :: S) μ (pb_b (pX5_deadBeasts h0 μ) f) := pb_callV q (fun z : Int32 => some (.int z)) mc_X5_deadBeasts mi_X5_deadBeasts ms_X5_deadBeasts (fun b1 μ1 h => evX5_deadBeasts l E h0 hv0 μ b1 μ1 h) hv0.1 (by decide) rfl rfl rfl rfl hR rfl hW hl1 hdg hq k
def pX5_owedBy_L4 (h0 : Nat) (v1 : Int32) : Nat → Int32 → Int32 → pb_M → Option (Int32 × pb_M)
  | 0, _, _, _ => none
  | n + 1, v2, v3, μ =>
    pb_b (pX5_people h0 μ) (fun b6 μ6 =>
    if b6 ≤ v3 then
      some (v2, μ6)
    else
    pb_b (pX5_debt h0 v1 v3 μ6) (fun b16 μ16 =>
    pX5_owedBy_L4 h0 v1 n (v2 + b16) (v3 + (1 : Int32)) μ16))
def pX5_owedBy (h0 : Nat) (v1 : Int32) (μ : pb_M) : Option (Int32 × pb_M) :=
  pX5_owedBy_L4 h0 v1 pb_F (0 : Int32) (0 : Int32) μ
abbrev wX5_owedBy (l : Launch) (E : pb_E) := pb_RW l E { frames := 1, cells := 0, slots := 0, locals := 22 } RX5 cX5_owedBy 4 (some .int) (fun _ => True) 0 0 (pb_Qf E (fun z : Int32 => some (.int z)))
set_option maxRecDepth 100000 in
set_option maxHeartbeats 4000000 in
theorem tX5_owedBy_L4 (l : Launch) (E : pb_E) (h0 : Nat) (hv0 : pb_V h0) (v1 : Int32)   : ∀ (n : Nat) (v2 : Int32) (v3 : Int32) (μ : pb_M), wX5_owedBy l E 4 [some (.ref (E.2.1 h0)), some (.int v1), some (.int v2), some (.int v3)] [] μ (pX5_owedBy_L4 h0 v1 n v2 v3 μ) := by
  intro n
  induction n with
  | zero => intro v2 v3 μ; exact pb_none
  | succ n ih =>
    intro v2 v3 μ
    rw [pX5_owedBy_L4]
    refine pb_iload_n 5 dX5_owedBy_4 rfl rfl rfl ?_
    refine pb_aload_n 6 dX5_owedBy_5 rfl rfl rfl ?_
    refine cl_X5_people 9 hv0 ⟨by decide, by decide, by decide, by decide⟩ (Nat.le_of_ble_eq_true rfl) ml_X5_27 dX5_owedBy_6 rfl (fun b6 μ6 => ?_)
    refine pb_icmp_ge 12 (tgt := 27) dX5_owedBy_9 (by decide) rfl (fun _ => ?_) (fun _ => ?_)
    · refine pb_iload_n 28 dX5_owedBy_27 rfl rfl rfl ?_
      exact pb_iret dX5_owedBy_28
    · refine pb_iload_n 13 dX5_owedBy_12 rfl rfl rfl ?_
      refine pb_aload_n 14 dX5_owedBy_13 rfl rfl rfl ?_
      refine pb_iload_n 15 dX5_owedBy_14 rfl rfl rfl ?_
      refine pb_iload_n 16 dX5_owedBy_15 rfl rfl rfl ?_
      refine cl_X5_debt 19 hv0 ⟨by decide, by decide, by decide, by decide⟩ (Nat.le_of_ble_eq_true rfl) ml_X5_58 dX5_owedBy_16 rfl (fun b16 μ16 => ?_)
      refine pb_iadd 20 dX5_owedBy_19 rfl ?_
      refine pb_istore_n 21 (i := 2) (L' := [some (.ref (E.2.1 h0)), some (.int v1), some (.int (v2 + b16)), some (.int v3)]) dX5_owedBy_20 rfl (by decide) rfl rfl rfl ?_
      refine pb_iinc 24 (i := 3) (v := (v3 + (1 : Int32))) (L' := [some (.ref (E.2.1 h0)), some (.int v1), some (.int (v2 + b16)), some (.int (v3 + (1 : Int32)))]) dX5_owedBy_21 rfl rfl (by decide) rfl rfl rfl ?_
      refine pb_goto (tgt := 4) dX5_owedBy_24 (by decide) ?_
      exact ih (v2 + b16) (v3 + (1 : Int32)) μ16
set_option maxRecDepth 100000 in
set_option maxHeartbeats 4000000 in
theorem evX5_owedBy (l : Launch) (E : pb_E) (h0 : Nat) (v1 : Int32) (hv0 : pb_V h0) (μ : pb_M) : ∀ b μ', pX5_owedBy h0 v1 μ = some (b, μ') → pb_Ev l E yX5_owedBy cX5_owedBy 4 (some .int) { frames := 1, cells := 0, slots := 0, locals := 22 } [.ref (E.2.1 h0), .int v1] μ ((fun z : Int32 => some (.int z)) b) μ' := by
  refine pb_enter (L := [some (.ref (E.2.1 h0)), some (.int v1), none, none]) (by decide +kernel) (Nat.le_of_ble_eq_true rfl) (pb_same [none, none, none, none] rfl) (show wX5_owedBy l E 0 [some (.ref (E.2.1 h0)), some (.int v1), none, none] [] μ (pX5_owedBy h0 v1 μ) from ?_)
  unfold pX5_owedBy
  refine pb_iconst 1 (v := 0) dX5_owedBy_0 rfl (by decide) ?_
  refine pb_istore_n 2 (i := 2) (L' := [some (.ref (E.2.1 h0)), some (.int v1), some (.int (0 : Int32)), none]) dX5_owedBy_1 rfl (by decide) rfl rfl rfl ?_
  refine pb_iconst 3 (v := 0) dX5_owedBy_2 rfl (by decide) ?_
  refine pb_istore_n 4 (i := 3) (L' := [some (.ref (E.2.1 h0)), some (.int v1), some (.int (0 : Int32)), some (.int (0 : Int32))]) dX5_owedBy_3 rfl (by decide) rfl rfl rfl ?_
  exact tX5_owedBy_L4 l E h0 hv0 v1 pb_F (0 : Int32) (0 : Int32) μ
theorem mc_X5_owedBy : pb_MC yX5_owedBy cX5_owedBy 4 (some .int) 1 := ⟨pb_inW 360 (by decide +kernel) (by decide +kernel), pb_inW 63 (by decide +kernel) (by decide +kernel), by decide +kernel, by decide +kernel, by decide +kernel⟩
theorem mi_X5_owedBy : Cond.instanceMethod yX5_owedBy ∈ pb_gw := pb_inW 358 (by decide +kernel) (by decide +kernel)
theorem ms_X5_owedBy : Cond.selects (yX5_owedBy).cls yX5_owedBy yX5_owedBy ∈ pb_gw := pb_inW 359 (by decide +kernel) (by decide +kernel)
theorem cl_X5_owedBy {α : Type} {l : Launch} {E : pb_E} {R : Room} {own : String} {cc : ByteArray} {mL : Nat} {ret : Option FieldType} {Xs : State → Prop} {nc ns : Nat} {Qf : State → Array Value → List Frame → α → pb_M → State → Prop} {pc : Nat} {L : List (Option Value)} {S : List Value} {μ : pb_M} {f : Int32 → pb_M → Option (α × pb_M)} {h0 : Nat} {v1 : Int32} {index : Nat} (q : Nat) (hv0 : pb_V h0) (hR : 1 + 1 ≤ R.frames ∧ 8 + (4 + 11) + 22 ≤ R.locals ∧ nc ≤ R.cells ∧ ns ≤ R.slots) (hW : (S.map fun v => v.category).sum ≤ 8) (hl1 : Cond.methodLink own index yX5_owedBy ∈ pb_gw) (hdg : decode cc pc = .ok (.invokevirtual index, 3)) (hq : pc + 3 = q) (k : ∀ b1 μ1, pb_RW l E R own cc mL ret Xs nc ns Qf q L (.int b1 :: S) μ1 (f b1 μ1)) : pb_RW l E R own cc mL ret Xs nc ns Qf pc L (.int v1 :: .ref (E.2.1 h0) :: S) μ (pb_b (pX5_owedBy h0 v1 μ) f) := pb_callV q (fun z : Int32 => some (.int z)) mc_X5_owedBy mi_X5_owedBy ms_X5_owedBy (fun b1 μ1 h => evX5_owedBy l E h0 v1 hv0 μ b1 μ1 h) hv0.1 (by decide) rfl rfl rfl rfl hR rfl hW hl1 hdg hq k
def pX5_owedTo_L4 (h0 : Nat) (v1 : Int32) : Nat → Int32 → Int32 → pb_M → Option (Int32 × pb_M)
  | 0, _, _, _ => none
  | n + 1, v2, v3, μ =>
    pb_b (pX5_people h0 μ) (fun b6 μ6 =>
    if b6 ≤ v3 then
      some (v2, μ6)
    else
    pb_b (pX5_debt h0 v3 v1 μ6) (fun b16 μ16 =>
    pX5_owedTo_L4 h0 v1 n (v2 + b16) (v3 + (1 : Int32)) μ16))
def pX5_owedTo (h0 : Nat) (v1 : Int32) (μ : pb_M) : Option (Int32 × pb_M) :=
  pX5_owedTo_L4 h0 v1 pb_F (0 : Int32) (0 : Int32) μ
abbrev wX5_owedTo (l : Launch) (E : pb_E) := pb_RW l E { frames := 1, cells := 0, slots := 0, locals := 22 } RX5 cX5_owedTo 4 (some .int) (fun _ => True) 0 0 (pb_Qf E (fun z : Int32 => some (.int z)))
set_option maxRecDepth 100000 in
set_option maxHeartbeats 4000000 in
theorem tX5_owedTo_L4 (l : Launch) (E : pb_E) (h0 : Nat) (hv0 : pb_V h0) (v1 : Int32)   : ∀ (n : Nat) (v2 : Int32) (v3 : Int32) (μ : pb_M), wX5_owedTo l E 4 [some (.ref (E.2.1 h0)), some (.int v1), some (.int v2), some (.int v3)] [] μ (pX5_owedTo_L4 h0 v1 n v2 v3 μ) := by
  intro n
  induction n with
  | zero => intro v2 v3 μ; exact pb_none
  | succ n ih =>
    intro v2 v3 μ
    rw [pX5_owedTo_L4]
    refine pb_iload_n 5 dX5_owedTo_4 rfl rfl rfl ?_
    refine pb_aload_n 6 dX5_owedTo_5 rfl rfl rfl ?_
    refine cl_X5_people 9 hv0 ⟨by decide, by decide, by decide, by decide⟩ (Nat.le_of_ble_eq_true rfl) ml_X5_27 dX5_owedTo_6 rfl (fun b6 μ6 => ?_)
    refine pb_icmp_ge 12 (tgt := 27) dX5_owedTo_9 (by decide) rfl (fun _ => ?_) (fun _ => ?_)
    · refine pb_iload_n 28 dX5_owedTo_27 rfl rfl rfl ?_
      exact pb_iret dX5_owedTo_28
    · refine pb_iload_n 13 dX5_owedTo_12 rfl rfl rfl ?_
      refine pb_aload_n 14 dX5_owedTo_13 rfl rfl rfl ?_
      refine pb_iload_n 15 dX5_owedTo_14 rfl rfl rfl ?_
      refine pb_iload_n 16 dX5_owedTo_15 rfl rfl rfl ?_
      refine cl_X5_debt 19 hv0 ⟨by decide, by decide, by decide, by decide⟩ (Nat.le_of_ble_eq_true rfl) ml_X5_58 dX5_owedTo_16 rfl (fun b16 μ16 => ?_)
      refine pb_iadd 20 dX5_owedTo_19 rfl ?_
      refine pb_istore_n 21 (i := 2) (L' := [some (.ref (E.2.1 h0)), some (.int v1), some (.int (v2 + b16)), some (.int v3)]) dX5_owedTo_20 rfl (by decide) rfl rfl rfl ?_
      refine pb_iinc 24 (i := 3) (v := (v3 + (1 : Int32))) (L' := [some (.ref (E.2.1 h0)), some (.int v1), some (.int (v2 + b16)), some (.int (v3 + (1 : Int32)))]) dX5_owedTo_21 rfl rfl (by decide) rfl rfl rfl ?_
      refine pb_goto (tgt := 4) dX5_owedTo_24 (by decide) ?_
      exact ih (v2 + b16) (v3 + (1 : Int32)) μ16
set_option maxRecDepth 100000 in
set_option maxHeartbeats 4000000 in
theorem evX5_owedTo (l : Launch) (E : pb_E) (h0 : Nat) (v1 : Int32) (hv0 : pb_V h0) (μ : pb_M) : ∀ b μ', pX5_owedTo h0 v1 μ = some (b, μ') → pb_Ev l E yX5_owedTo cX5_owedTo 4 (some .int) { frames := 1, cells := 0, slots := 0, locals := 22 } [.ref (E.2.1 h0), .int v1] μ ((fun z : Int32 => some (.int z)) b) μ' := by
  refine pb_enter (L := [some (.ref (E.2.1 h0)), some (.int v1), none, none]) (by decide +kernel) (Nat.le_of_ble_eq_true rfl) (pb_same [none, none, none, none] rfl) (show wX5_owedTo l E 0 [some (.ref (E.2.1 h0)), some (.int v1), none, none] [] μ (pX5_owedTo h0 v1 μ) from ?_)
  unfold pX5_owedTo
  refine pb_iconst 1 (v := 0) dX5_owedTo_0 rfl (by decide) ?_
  refine pb_istore_n 2 (i := 2) (L' := [some (.ref (E.2.1 h0)), some (.int v1), some (.int (0 : Int32)), none]) dX5_owedTo_1 rfl (by decide) rfl rfl rfl ?_
  refine pb_iconst 3 (v := 0) dX5_owedTo_2 rfl (by decide) ?_
  refine pb_istore_n 4 (i := 3) (L' := [some (.ref (E.2.1 h0)), some (.int v1), some (.int (0 : Int32)), some (.int (0 : Int32))]) dX5_owedTo_3 rfl (by decide) rfl rfl rfl ?_
  exact tX5_owedTo_L4 l E h0 hv0 v1 pb_F (0 : Int32) (0 : Int32) μ
theorem mc_X5_owedTo : pb_MC yX5_owedTo cX5_owedTo 4 (some .int) 1 := ⟨pb_inW 364 (by decide +kernel) (by decide +kernel), pb_inW 63 (by decide +kernel) (by decide +kernel), by decide +kernel, by decide +kernel, by decide +kernel⟩
theorem mi_X5_owedTo : Cond.instanceMethod yX5_owedTo ∈ pb_gw := pb_inW 362 (by decide +kernel) (by decide +kernel)
theorem ms_X5_owedTo : Cond.selects (yX5_owedTo).cls yX5_owedTo yX5_owedTo ∈ pb_gw := pb_inW 363 (by decide +kernel) (by decide +kernel)
theorem cl_X5_owedTo {α : Type} {l : Launch} {E : pb_E} {R : Room} {own : String} {cc : ByteArray} {mL : Nat} {ret : Option FieldType} {Xs : State → Prop} {nc ns : Nat} {Qf : State → Array Value → List Frame → α → pb_M → State → Prop} {pc : Nat} {L : List (Option Value)} {S : List Value} {μ : pb_M} {f : Int32 → pb_M → Option (α × pb_M)} {h0 : Nat} {v1 : Int32} {index : Nat} (q : Nat) (hv0 : pb_V h0) (hR : 1 + 1 ≤ R.frames ∧ 8 + (4 + 11) + 22 ≤ R.locals ∧ nc ≤ R.cells ∧ ns ≤ R.slots) (hW : (S.map fun v => v.category).sum ≤ 8) (hl1 : Cond.methodLink own index yX5_owedTo ∈ pb_gw) (hdg : decode cc pc = .ok (.invokevirtual index, 3)) (hq : pc + 3 = q) (k : ∀ b1 μ1, pb_RW l E R own cc mL ret Xs nc ns Qf q L (.int b1 :: S) μ1 (f b1 μ1)) : pb_RW l E R own cc mL ret Xs nc ns Qf pc L (.int v1 :: .ref (E.2.1 h0) :: S) μ (pb_b (pX5_owedTo h0 v1 μ) f) := pb_callV q (fun z : Int32 => some (.int z)) mc_X5_owedTo mi_X5_owedTo ms_X5_owedTo (fun b1 μ1 h => evX5_owedTo l E h0 v1 hv0 μ b1 μ1 h) hv0.1 (by decide) rfl rfl rfl rfl hR rfl hW hl1 hdg hq k
theorem ml_X5_61 : Cond.methodLink RX5 61 yX5_owedBy ∈ pb_gw := pb_inW 758 (by decide +kernel) (by decide +kernel)
def pX5_owedByAll_L4 (h0 : Nat) : Nat → Int32 → Int32 → pb_M → Option (Int32 × pb_M)
  | 0, _, _, _ => none
  | n + 1, v1, v2, μ =>
    pb_b (pX5_people h0 μ) (fun b6 μ6 =>
    if b6 ≤ v2 then
      some (v1, μ6)
    else
    pb_b (pX5_owedBy h0 v2 μ6) (fun b15 μ15 =>
    pX5_owedByAll_L4 h0 n (v1 + b15) (v2 + (1 : Int32)) μ15))
def pX5_owedByAll (h0 : Nat) (μ : pb_M) : Option (Int32 × pb_M) :=
  pX5_owedByAll_L4 h0 pb_F (0 : Int32) (0 : Int32) μ
abbrev wX5_owedByAll (l : Launch) (E : pb_E) := pb_RW l E { frames := 2, cells := 0, slots := 0, locals := 45 } RX5 cX5_owedByAll 3 (some .int) (fun _ => True) 0 0 (pb_Qf E (fun z : Int32 => some (.int z)))
set_option maxRecDepth 100000 in
set_option maxHeartbeats 4000000 in
theorem tX5_owedByAll_L4 (l : Launch) (E : pb_E) (h0 : Nat) (hv0 : pb_V h0)   : ∀ (n : Nat) (v1 : Int32) (v2 : Int32) (μ : pb_M), wX5_owedByAll l E 4 [some (.ref (E.2.1 h0)), some (.int v1), some (.int v2)] [] μ (pX5_owedByAll_L4 h0 n v1 v2 μ) := by
  intro n
  induction n with
  | zero => intro v1 v2 μ; exact pb_none
  | succ n ih =>
    intro v1 v2 μ
    rw [pX5_owedByAll_L4]
    refine pb_iload_n 5 dX5_owedByAll_4 rfl rfl rfl ?_
    refine pb_aload_n 6 dX5_owedByAll_5 rfl rfl rfl ?_
    refine cl_X5_people 9 hv0 ⟨by decide, by decide, by decide, by decide⟩ (Nat.le_of_ble_eq_true rfl) ml_X5_27 dX5_owedByAll_6 rfl (fun b6 μ6 => ?_)
    refine pb_icmp_ge 12 (tgt := 26) dX5_owedByAll_9 (by decide) rfl (fun _ => ?_) (fun _ => ?_)
    · refine pb_iload_n 27 dX5_owedByAll_26 rfl rfl rfl ?_
      exact pb_iret dX5_owedByAll_27
    · refine pb_iload_n 13 dX5_owedByAll_12 rfl rfl rfl ?_
      refine pb_aload_n 14 dX5_owedByAll_13 rfl rfl rfl ?_
      refine pb_iload_n 15 dX5_owedByAll_14 rfl rfl rfl ?_
      refine cl_X5_owedBy 18 hv0 ⟨by decide, by decide, by decide, by decide⟩ (Nat.le_of_ble_eq_true rfl) ml_X5_61 dX5_owedByAll_15 rfl (fun b15 μ15 => ?_)
      refine pb_iadd 19 dX5_owedByAll_18 rfl ?_
      refine pb_istore_n 20 (i := 1) (L' := [some (.ref (E.2.1 h0)), some (.int (v1 + b15)), some (.int v2)]) dX5_owedByAll_19 rfl (by decide) rfl rfl rfl ?_
      refine pb_iinc 23 (i := 2) (v := (v2 + (1 : Int32))) (L' := [some (.ref (E.2.1 h0)), some (.int (v1 + b15)), some (.int (v2 + (1 : Int32)))]) dX5_owedByAll_20 rfl rfl (by decide) rfl rfl rfl ?_
      refine pb_goto (tgt := 4) dX5_owedByAll_23 (by decide) ?_
      exact ih (v1 + b15) (v2 + (1 : Int32)) μ15
set_option maxRecDepth 100000 in
set_option maxHeartbeats 4000000 in
theorem evX5_owedByAll (l : Launch) (E : pb_E) (h0 : Nat) (hv0 : pb_V h0) (μ : pb_M) : ∀ b μ', pX5_owedByAll h0 μ = some (b, μ') → pb_Ev l E yX5_owedByAll cX5_owedByAll 3 (some .int) { frames := 2, cells := 0, slots := 0, locals := 45 } [.ref (E.2.1 h0)] μ ((fun z : Int32 => some (.int z)) b) μ' := by
  refine pb_enter (L := [some (.ref (E.2.1 h0)), none, none]) (by decide +kernel) (Nat.le_of_ble_eq_true rfl) (pb_same [none, none, none] rfl) (show wX5_owedByAll l E 0 [some (.ref (E.2.1 h0)), none, none] [] μ (pX5_owedByAll h0 μ) from ?_)
  unfold pX5_owedByAll
  refine pb_iconst 1 (v := 0) dX5_owedByAll_0 rfl (by decide) ?_
  refine pb_istore_n 2 (i := 1) (L' := [some (.ref (E.2.1 h0)), some (.int (0 : Int32)), none]) dX5_owedByAll_1 rfl (by decide) rfl rfl rfl ?_
  refine pb_iconst 3 (v := 0) dX5_owedByAll_2 rfl (by decide) ?_
  refine pb_istore_n 4 (i := 2) (L' := [some (.ref (E.2.1 h0)), some (.int (0 : Int32)), some (.int (0 : Int32))]) dX5_owedByAll_3 rfl (by decide) rfl rfl rfl ?_
  exact tX5_owedByAll_L4 l E h0 hv0 pb_F (0 : Int32) (0 : Int32) μ
theorem mc_X5_owedByAll : pb_MC yX5_owedByAll cX5_owedByAll 3 (some .int) 0 := ⟨pb_inW 757 (by decide +kernel) (by decide +kernel), pb_inW 63 (by decide +kernel) (by decide +kernel), by decide +kernel, by decide +kernel, by decide +kernel⟩
theorem mi_X5_owedByAll : Cond.instanceMethod yX5_owedByAll ∈ pb_gw := pb_inW 755 (by decide +kernel) (by decide +kernel)
theorem ms_X5_owedByAll : Cond.selects (yX5_owedByAll).cls yX5_owedByAll yX5_owedByAll ∈ pb_gw := pb_inW 756 (by decide +kernel) (by decide +kernel)
theorem cl_X5_owedByAll {α : Type} {l : Launch} {E : pb_E} {R : Room} {own : String} {cc : ByteArray} {mL : Nat} {ret : Option FieldType} {Xs : State → Prop} {nc ns : Nat} {Qf : State → Array Value → List Frame → α → pb_M → State → Prop} {pc : Nat} {L : List (Option Value)} {S : List Value} {μ : pb_M} {f : Int32 → pb_M → Option (α × pb_M)} {h0 : Nat} {index : Nat} (q : Nat) (hv0 : pb_V h0) (hR : 2 + 1 ≤ R.frames ∧ 8 + (3 + 11) + 45 ≤ R.locals ∧ nc ≤ R.cells ∧ ns ≤ R.slots) (hW : (S.map fun v => v.category).sum ≤ 8) (hl1 : Cond.methodLink own index yX5_owedByAll ∈ pb_gw) (hdg : decode cc pc = .ok (.invokevirtual index, 3)) (hq : pc + 3 = q) (k : ∀ b1 μ1, pb_RW l E R own cc mL ret Xs nc ns Qf q L (.int b1 :: S) μ1 (f b1 μ1)) : pb_RW l E R own cc mL ret Xs nc ns Qf pc L (.ref (E.2.1 h0) :: S) μ (pb_b (pX5_owedByAll h0 μ) f) := pb_callV q (fun z : Int32 => some (.int z)) mc_X5_owedByAll mi_X5_owedByAll ms_X5_owedByAll (fun b1 μ1 h => evX5_owedByAll l E h0 hv0 μ b1 μ1 h) hv0.1 (by decide) rfl rfl rfl rfl hR rfl hW hl1 hdg hq k
theorem ml_X5_86 : Cond.methodLink RX5 86 Lib.Math.max.name ∈ pb_gw := pb_inW 453 (by decide +kernel) (by decide +kernel)
def pX5_lessenDebt (h0 : Nat) (v1 : Int32) (v2 : Int32) (v3 : Int32) (μ : pb_M) : Option (Unit × pb_M) :=
  pb_b (pX5_debt h0 v1 v2 μ) (fun b7 μ7 =>
  pb_b (pX5_oweNow h0 v1 v2 (if (0 : Int32) < (b7 - v3) then (b7 - v3) else (0 : Int32)) μ7) (fun b15 μ15 =>
  some ((), μ15)))
abbrev wX5_lessenDebt (l : Launch) (E : pb_E) := pb_RW l E { frames := 1, cells := 0, slots := 0, locals := 23 } RX5 cX5_lessenDebt 4 none (fun _ => True) 0 0 (pb_Qf E (fun _ : Unit => none))
set_option maxRecDepth 100000 in
set_option maxHeartbeats 4000000 in
theorem evX5_lessenDebt (l : Launch) (E : pb_E) (h0 : Nat) (v1 : Int32) (v2 : Int32) (v3 : Int32) (hv0 : pb_V h0) (μ : pb_M) : ∀ b μ', pX5_lessenDebt h0 v1 v2 v3 μ = some (b, μ') → pb_Ev l E yX5_lessenDebt cX5_lessenDebt 4 none { frames := 1, cells := 0, slots := 0, locals := 23 } [.ref (E.2.1 h0), .int v1, .int v2, .int v3] μ ((fun _ : Unit => none) b) μ' := by
  refine pb_enter (L := [some (.ref (E.2.1 h0)), some (.int v1), some (.int v2), some (.int v3)]) (by decide +kernel) (Nat.le_of_ble_eq_true rfl) (pb_same [none, none, none, none] rfl) (show wX5_lessenDebt l E 0 [some (.ref (E.2.1 h0)), some (.int v1), some (.int v2), some (.int v3)] [] μ (pX5_lessenDebt h0 v1 v2 v3 μ) from ?_)
  unfold pX5_lessenDebt
  refine pb_aload_n 1 dX5_lessenDebt_0 rfl rfl rfl ?_
  refine pb_iload_n 2 dX5_lessenDebt_1 rfl rfl rfl ?_
  refine pb_iload_n 3 dX5_lessenDebt_2 rfl rfl rfl ?_
  refine pb_iconst 4 (v := 0) dX5_lessenDebt_3 rfl (by decide) ?_
  refine pb_aload_n 5 dX5_lessenDebt_4 rfl rfl rfl ?_
  refine pb_iload_n 6 dX5_lessenDebt_5 rfl rfl rfl ?_
  refine pb_iload_n 7 dX5_lessenDebt_6 rfl rfl rfl ?_
  refine cl_X5_debt 10 hv0 ⟨by decide, by decide, by decide, by decide⟩ (Nat.le_of_ble_eq_true rfl) ml_X5_58 dX5_lessenDebt_7 rfl (fun b7 μ7 => ?_)
  refine pb_iload_n 11 dX5_lessenDebt_10 rfl rfl rfl ?_
  refine pb_isub 12 dX5_lessenDebt_11 rfl ?_
  refine pb_max 15 ml_X5_86 km_max1 km_2 km_max3 ⟨by decide, Nat.le_of_ble_eq_true rfl, by decide, by decide⟩ dX5_lessenDebt_12 rfl ?_
  refine cl_X5_oweNow 18 hv0 ⟨by decide, by decide, by decide, by decide⟩ (Nat.le_of_ble_eq_true rfl) ml_X5_82 dX5_lessenDebt_15 rfl (fun b15 μ15 => ?_)
  exact pb_vret dX5_lessenDebt_18
theorem mc_X5_lessenDebt : pb_MC yX5_lessenDebt cX5_lessenDebt 4 none 3 := ⟨pb_inW 481 (by decide +kernel) (by decide +kernel), pb_inW 63 (by decide +kernel) (by decide +kernel), by decide +kernel, by decide +kernel, by decide +kernel⟩
theorem mi_X5_lessenDebt : Cond.instanceMethod yX5_lessenDebt ∈ pb_gw := pb_inW 480 (by decide +kernel) (by decide +kernel)
theorem ms_X5_lessenDebt : Cond.selects (yX5_lessenDebt).cls yX5_lessenDebt yX5_lessenDebt ∈ pb_gw := pb_inW 8 (by decide +kernel) (by decide +kernel)
theorem cl_X5_lessenDebt {α : Type} {l : Launch} {E : pb_E} {R : Room} {own : String} {cc : ByteArray} {mL : Nat} {ret : Option FieldType} {Xs : State → Prop} {nc ns : Nat} {Qf : State → Array Value → List Frame → α → pb_M → State → Prop} {pc : Nat} {L : List (Option Value)} {S : List Value} {μ : pb_M} {f : Unit → pb_M → Option (α × pb_M)} {h0 : Nat} {v1 : Int32} {v2 : Int32} {v3 : Int32} {index : Nat} (q : Nat) (hv0 : pb_V h0) (hR : 1 + 1 ≤ R.frames ∧ 8 + (4 + 11) + 23 ≤ R.locals ∧ nc ≤ R.cells ∧ ns ≤ R.slots) (hW : (S.map fun v => v.category).sum ≤ 8) (hl1 : Cond.methodLink own index yX5_lessenDebt ∈ pb_gw) (hdg : decode cc pc = .ok (.invokevirtual index, 3)) (hq : pc + 3 = q) (k : ∀ b1 μ1, pb_RW l E R own cc mL ret Xs nc ns Qf q L S μ1 (f b1 μ1)) : pb_RW l E R own cc mL ret Xs nc ns Qf pc L (.int v3 :: .int v2 :: .int v1 :: .ref (E.2.1 h0) :: S) μ (pb_b (pX5_lessenDebt h0 v1 v2 v3 μ) f) := pb_callV q (fun _ : Unit => none) mc_X5_lessenDebt mi_X5_lessenDebt ms_X5_lessenDebt (fun b1 μ1 h => evX5_lessenDebt l E h0 v1 v2 v3 hv0 μ b1 μ1 h) hv0.1 (by decide) rfl rfl rfl rfl hR rfl hW hl1 hdg hq k
def pX5_shutIn (h0 : Nat) (v1 : Int32) (v2 : Int32) (μ : pb_M) : Option (Unit × pb_M) :=
  if pb_in ((42 : Int32) + v2) 52 then
    if pb_in ((47 : Int32) + v2) 52 then
      some ((), (pb_sA (pb_sA μ (h0 + 1) (upd (μ.1 (h0 + 1)) (((42 : Int32) + v2)).toNatClampNeg v1)) (h0 + 1) (upd ((pb_sA μ (h0 + 1) (upd (μ.1 (h0 + 1)) (((42 : Int32) + v2)).toNatClampNeg v1)).1 (h0 + 1)) (((47 : Int32) + v2)).toNatClampNeg (0 : Int32))))
    else none
  else none
abbrev wX5_shutIn (l : Launch) (E : pb_E) := pb_RW l E { frames := 0, cells := 0, slots := 0, locals := 0 } RX5 cX5_shutIn 3 none (fun _ => True) 0 0 (pb_Qf E (fun _ : Unit => none))
set_option maxRecDepth 100000 in
set_option maxHeartbeats 4000000 in
theorem evX5_shutIn (l : Launch) (E : pb_E) (h0 : Nat) (v1 : Int32) (v2 : Int32) (hv0 : pb_V h0) (μ : pb_M) : ∀ b μ', pX5_shutIn h0 v1 v2 μ = some (b, μ') → pb_Ev l E yX5_shutIn cX5_shutIn 3 none { frames := 0, cells := 0, slots := 0, locals := 0 } [.ref (E.2.1 h0), .int v1, .int v2] μ ((fun _ : Unit => none) b) μ' := by
  refine pb_enter (L := [some (.ref (E.2.1 h0)), some (.int v1), some (.int v2)]) (by decide +kernel) (Nat.le_of_ble_eq_true rfl) (pb_same [none, none, none] rfl) (show wX5_shutIn l E 0 [some (.ref (E.2.1 h0)), some (.int v1), some (.int v2)] [] μ (pX5_shutIn h0 v1 v2 μ) from ?_)
  unfold pX5_shutIn
  refine pb_aload_n 1 dX5_shutIn_0 rfl rfl rfl ?_
  refine pb_getR 4 (j := 0) (d := (h0 + 1)) in_X5 rfl (by decide) hv0.1 rfl (by decide) fl_X5_11 dX5_shutIn_1 rfl ?_
  refine pb_bipush 6 (v := 42) dX5_shutIn_4 rfl (by decide) ?_
  refine pb_iload_n 7 dX5_shutIn_6 rfl rfl rfl ?_
  refine pb_iadd 8 dX5_shutIn_7 rfl ?_
  refine pb_iload_n 9 dX5_shutIn_8 rfl rfl rfl ?_
  refine pb_guard (fun hin => pb_iast 10 hv0.2 hin rfl dX5_shutIn_9 rfl ?_)
  refine pb_aload_n 11 dX5_shutIn_10 rfl rfl rfl ?_
  refine pb_getR 14 (j := 0) (d := (h0 + 1)) in_X5 rfl (by decide) hv0.1 rfl (by decide) fl_X5_11 dX5_shutIn_11 rfl ?_
  refine pb_bipush 16 (v := 47) dX5_shutIn_14 rfl (by decide) ?_
  refine pb_iload_n 17 dX5_shutIn_16 rfl rfl rfl ?_
  refine pb_iadd 18 dX5_shutIn_17 rfl ?_
  refine pb_iconst 19 (v := 0) dX5_shutIn_18 rfl (by decide) ?_
  refine pb_guard (fun hin => pb_iast 20 hv0.2 hin rfl dX5_shutIn_19 rfl ?_)
  exact pb_vret dX5_shutIn_20
theorem mc_X5_shutIn : pb_MC yX5_shutIn cX5_shutIn 3 none 2 := ⟨pb_inW 438 (by decide +kernel) (by decide +kernel), pb_inW 63 (by decide +kernel) (by decide +kernel), by decide +kernel, by decide +kernel, by decide +kernel⟩
theorem mi_X5_shutIn : Cond.instanceMethod yX5_shutIn ∈ pb_gw := pb_inW 436 (by decide +kernel) (by decide +kernel)
theorem ms_X5_shutIn : Cond.selects (yX5_shutIn).cls yX5_shutIn yX5_shutIn ∈ pb_gw := pb_inW 437 (by decide +kernel) (by decide +kernel)
theorem cl_X5_shutIn {α : Type} {l : Launch} {E : pb_E} {R : Room} {own : String} {cc : ByteArray} {mL : Nat} {ret : Option FieldType} {Xs : State → Prop} {nc ns : Nat} {Qf : State → Array Value → List Frame → α → pb_M → State → Prop} {pc : Nat} {L : List (Option Value)} {S : List Value} {μ : pb_M} {f : Unit → pb_M → Option (α × pb_M)} {h0 : Nat} {v1 : Int32} {v2 : Int32} {index : Nat} (q : Nat) (hv0 : pb_V h0) (hR : 0 + 1 ≤ R.frames ∧ 8 + (3 + 11) + 0 ≤ R.locals ∧ nc ≤ R.cells ∧ ns ≤ R.slots) (hW : (S.map fun v => v.category).sum ≤ 8) (hl1 : Cond.methodLink own index yX5_shutIn ∈ pb_gw) (hdg : decode cc pc = .ok (.invokevirtual index, 3)) (hq : pc + 3 = q) (k : ∀ b1 μ1, pb_RW l E R own cc mL ret Xs nc ns Qf q L S μ1 (f b1 μ1)) : pb_RW l E R own cc mL ret Xs nc ns Qf pc L (.int v2 :: .int v1 :: .ref (E.2.1 h0) :: S) μ (pb_b (pX5_shutIn h0 v1 v2 μ) f) := pb_callV q (fun _ : Unit => none) mc_X5_shutIn mi_X5_shutIn ms_X5_shutIn (fun b1 μ1 h => evX5_shutIn l E h0 v1 v2 hv0 μ b1 μ1 h) hv0.1 (by decide) rfl rfl rfl rfl hR rfl hW hl1 hdg hq k
def pX5_goHome (h0 : Nat) (v1 : Int32) (μ : pb_M) : Option (Unit × pb_M) :=
  if pb_in ((42 : Int32) + v1) 52 then
    if pb_in ((47 : Int32) + v1) 52 then
      some ((), (pb_sA (pb_sA μ (h0 + 1) (upd (μ.1 (h0 + 1)) (((42 : Int32) + v1)).toNatClampNeg (-9 : Int32))) (h0 + 1) (upd ((pb_sA μ (h0 + 1) (upd (μ.1 (h0 + 1)) (((42 : Int32) + v1)).toNatClampNeg (-9 : Int32))).1 (h0 + 1)) (((47 : Int32) + v1)).toNatClampNeg (0 : Int32))))
    else none
  else none
abbrev wX5_goHome (l : Launch) (E : pb_E) := pb_RW l E { frames := 0, cells := 0, slots := 0, locals := 0 } RX5 cX5_goHome 2 none (fun _ => True) 0 0 (pb_Qf E (fun _ : Unit => none))
set_option maxRecDepth 100000 in
set_option maxHeartbeats 4000000 in
theorem evX5_goHome (l : Launch) (E : pb_E) (h0 : Nat) (v1 : Int32) (hv0 : pb_V h0) (μ : pb_M) : ∀ b μ', pX5_goHome h0 v1 μ = some (b, μ') → pb_Ev l E yX5_goHome cX5_goHome 2 none { frames := 0, cells := 0, slots := 0, locals := 0 } [.ref (E.2.1 h0), .int v1] μ ((fun _ : Unit => none) b) μ' := by
  refine pb_enter (L := [some (.ref (E.2.1 h0)), some (.int v1)]) (by decide +kernel) (Nat.le_of_ble_eq_true rfl) (pb_same [none, none] rfl) (show wX5_goHome l E 0 [some (.ref (E.2.1 h0)), some (.int v1)] [] μ (pX5_goHome h0 v1 μ) from ?_)
  unfold pX5_goHome
  refine pb_aload_n 1 dX5_goHome_0 rfl rfl rfl ?_
  refine pb_getR 4 (j := 0) (d := (h0 + 1)) in_X5 rfl (by decide) hv0.1 rfl (by decide) fl_X5_11 dX5_goHome_1 rfl ?_
  refine pb_bipush 6 (v := 42) dX5_goHome_4 rfl (by decide) ?_
  refine pb_iload_n 7 dX5_goHome_6 rfl rfl rfl ?_
  refine pb_iadd 8 dX5_goHome_7 rfl ?_
  refine pb_bipush 10 (v := -9) dX5_goHome_8 rfl (by decide) ?_
  refine pb_guard (fun hin => pb_iast 11 hv0.2 hin rfl dX5_goHome_10 rfl ?_)
  refine pb_aload_n 12 dX5_goHome_11 rfl rfl rfl ?_
  refine pb_getR 15 (j := 0) (d := (h0 + 1)) in_X5 rfl (by decide) hv0.1 rfl (by decide) fl_X5_11 dX5_goHome_12 rfl ?_
  refine pb_bipush 17 (v := 47) dX5_goHome_15 rfl (by decide) ?_
  refine pb_iload_n 18 dX5_goHome_17 rfl rfl rfl ?_
  refine pb_iadd 19 dX5_goHome_18 rfl ?_
  refine pb_iconst 20 (v := 0) dX5_goHome_19 rfl (by decide) ?_
  refine pb_guard (fun hin => pb_iast 21 hv0.2 hin rfl dX5_goHome_20 rfl ?_)
  exact pb_vret dX5_goHome_21
theorem mc_X5_goHome : pb_MC yX5_goHome cX5_goHome 2 none 1 := ⟨pb_inW 459 (by decide +kernel) (by decide +kernel), pb_inW 63 (by decide +kernel) (by decide +kernel), by decide +kernel, by decide +kernel, by decide +kernel⟩
theorem mi_X5_goHome : Cond.instanceMethod yX5_goHome ∈ pb_gw := pb_inW 458 (by decide +kernel) (by decide +kernel)
theorem ms_X5_goHome : Cond.selects (yX5_goHome).cls yX5_goHome yX5_goHome ∈ pb_gw := pb_inW 7 (by decide +kernel) (by decide +kernel)
theorem cl_X5_goHome {α : Type} {l : Launch} {E : pb_E} {R : Room} {own : String} {cc : ByteArray} {mL : Nat} {ret : Option FieldType} {Xs : State → Prop} {nc ns : Nat} {Qf : State → Array Value → List Frame → α → pb_M → State → Prop} {pc : Nat} {L : List (Option Value)} {S : List Value} {μ : pb_M} {f : Unit → pb_M → Option (α × pb_M)} {h0 : Nat} {v1 : Int32} {index : Nat} (q : Nat) (hv0 : pb_V h0) (hR : 0 + 1 ≤ R.frames ∧ 8 + (2 + 11) + 0 ≤ R.locals ∧ nc ≤ R.cells ∧ ns ≤ R.slots) (hW : (S.map fun v => v.category).sum ≤ 8) (hl1 : Cond.methodLink own index yX5_goHome ∈ pb_gw) (hdg : decode cc pc = .ok (.invokevirtual index, 3)) (hq : pc + 3 = q) (k : ∀ b1 μ1, pb_RW l E R own cc mL ret Xs nc ns Qf q L S μ1 (f b1 μ1)) : pb_RW l E R own cc mL ret Xs nc ns Qf pc L (.int v1 :: .ref (E.2.1 h0) :: S) μ (pb_b (pX5_goHome h0 v1 μ) f) := pb_callV q (fun _ : Unit => none) mc_X5_goHome mi_X5_goHome ms_X5_goHome (fun b1 μ1 h => evX5_goHome l E h0 v1 hv0 μ b1 μ1 h) hv0.1 (by decide) rfl rfl rfl rfl hR rfl hW hl1 hdg hq k
theorem ml_X5_93 : Cond.methodLink RX5 93 yX5_hayOf ∈ pb_gw := pb_inW 452 (by decide +kernel) (by decide +kernel)
theorem ml_X5_96 : Cond.methodLink RX5 96 yX5_goHome ∈ pb_gw := pb_inW 456 (by decide +kernel) (by decide +kernel)
def pX5_feed_J54 (h0 : Nat) (v1 : Int32) (s0 : Int32) (μ : pb_M) : Option (Unit × pb_M) :=
  pb_b (pX5_worthOf h0 v1 μ) (fun b66 μ66 =>
  if pb_in ((32 : Int32) + v1) 52 then
    pb_b (pX5_isDead h0 v1 (pb_sA μ66 (h0 + 1) (upd (μ66.1 (h0 + 1)) (((32 : Int32) + v1)).toNatClampNeg (if (0 : Int32) < (b66 - s0) then (b66 - s0) else (0 : Int32))))) (fun b77 μ77 =>
    if b77 = (0 : Int32) then
      some ((), μ77)
    else
    pb_b (pX5_goHome h0 v1 μ77) (fun b85 μ85 =>
    some ((), μ85)))
  else none)
def pX5_feed (h0 : Nat) (v1 : Int32) (μ : pb_M) : Option (Unit × pb_M) :=
  pb_b (pX5_ownerOf h0 v1 μ) (fun b2 μ2 =>
  if pb_in ((47 : Int32) + v1) 52 then
    if pb_in ((47 : Int32) + v1) 52 then
      pb_b (pX5_hayOf h0 b2 (pb_sA μ2 (h0 + 1) (upd (μ2.1 (h0 + 1)) (((47 : Int32) + v1)).toNatClampNeg ((μ2.1 (h0 + 1) (((47 : Int32) + v1)).toNatClampNeg) + (1 : Int32))))) (fun b21 μ21 =>
      if b21 ≤ (0 : Int32) then
        pb_b (pX5_kindOf h0 v1 μ21) (fun b42 μ42 =>
        if b42 = (2 : Int32) then
          pX5_feed_J54 h0 v1 (2 : Int32) μ42
        else
        pX5_feed_J54 h0 v1 (1 : Int32) μ42)
      else
      if pb_in ((3 : Int32) + b2) 52 then
        if pb_in ((3 : Int32) + b2) 52 then
          some ((), (pb_sA μ21 (h0 + 1) (upd (μ21.1 (h0 + 1)) (((3 : Int32) + b2)).toNatClampNeg ((μ21.1 (h0 + 1) (((3 : Int32) + b2)).toNatClampNeg) - (1 : Int32)))))
        else none
      else none)
    else none
  else none)
abbrev wX5_feed (l : Launch) (E : pb_E) := pb_RW l E { frames := 2, cells := 0, slots := 0, locals := 42 } RX5 cX5_feed 4 none (fun _ => True) 0 0 (pb_Qf E (fun _ : Unit => none))
set_option maxRecDepth 100000 in
set_option maxHeartbeats 4000000 in
theorem tX5_feed_J54 (l : Launch) (E : pb_E) (h0 : Nat) (hv0 : pb_V h0)   : ∀ (v1 : Int32) (s0 : Int32) (μ : pb_M), wX5_feed l E 54 [some (.ref (E.2.1 h0)), some (.int v1), none, none] [.int s0] μ (pX5_feed_J54 h0 v1 s0 μ) := by
  intro v1 s0 μ
  unfold pX5_feed_J54
  refine pb_istore_n 55 (i := 3) (L' := [some (.ref (E.2.1 h0)), some (.int v1), none, some (.int s0)]) dX5_feed_54 rfl (by decide) rfl rfl rfl ?_
  refine pb_aload_n 56 dX5_feed_55 rfl rfl rfl ?_
  refine pb_getR 59 (j := 0) (d := (h0 + 1)) in_X5 rfl (by decide) hv0.1 rfl (by decide) fl_X5_11 dX5_feed_56 rfl ?_
  refine pb_bipush 61 (v := 32) dX5_feed_59 rfl (by decide) ?_
  refine pb_iload_n 62 dX5_feed_61 rfl rfl rfl ?_
  refine pb_iadd 63 dX5_feed_62 rfl ?_
  refine pb_iconst 64 (v := 0) dX5_feed_63 rfl (by decide) ?_
  refine pb_aload_n 65 dX5_feed_64 rfl rfl rfl ?_
  refine pb_iload_n 66 dX5_feed_65 rfl rfl rfl ?_
  refine cl_X5_worthOf 69 hv0 ⟨by decide, by decide, by decide, by decide⟩ (Nat.le_of_ble_eq_true rfl) ml_X5_34 dX5_feed_66 rfl (fun b66 μ66 => ?_)
  refine pb_iload_n 70 dX5_feed_69 rfl rfl rfl ?_
  refine pb_isub 71 dX5_feed_70 rfl ?_
  refine pb_max 74 ml_X5_86 km_max1 km_2 km_max3 ⟨by decide, Nat.le_of_ble_eq_true rfl, by decide, by decide⟩ dX5_feed_71 rfl ?_
  refine pb_guard (fun hin => pb_iast 75 hv0.2 hin rfl dX5_feed_74 rfl ?_)
  refine pb_aload_n 76 dX5_feed_75 rfl rfl rfl ?_
  refine pb_iload_n 77 dX5_feed_76 rfl rfl rfl ?_
  refine cl_X5_isDead 80 hv0 ⟨by decide, by decide, by decide, by decide⟩ (Nat.le_of_ble_eq_true rfl) ml_X5_51 dX5_feed_77 rfl (fun b77 μ77 => ?_)
  refine pb_if_eq 83 (tgt := 88) dX5_feed_80 (by decide) rfl (fun _ => ?_) (fun _ => ?_)
  · exact pb_vret dX5_feed_88
  · refine pb_aload_n 84 dX5_feed_83 rfl rfl rfl ?_
    refine pb_iload_n 85 dX5_feed_84 rfl rfl rfl ?_
    refine cl_X5_goHome 88 hv0 ⟨by decide, by decide, by decide, by decide⟩ (Nat.le_of_ble_eq_true rfl) ml_X5_96 dX5_feed_85 rfl (fun b85 μ85 => ?_)
    exact pb_vret dX5_feed_88
set_option maxRecDepth 100000 in
set_option maxHeartbeats 4000000 in
theorem evX5_feed (l : Launch) (E : pb_E) (h0 : Nat) (v1 : Int32) (hv0 : pb_V h0) (μ : pb_M) : ∀ b μ', pX5_feed h0 v1 μ = some (b, μ') → pb_Ev l E yX5_feed cX5_feed 4 none { frames := 2, cells := 0, slots := 0, locals := 42 } [.ref (E.2.1 h0), .int v1] μ ((fun _ : Unit => none) b) μ' := by
  refine pb_enter (L := [some (.ref (E.2.1 h0)), some (.int v1), none, none]) (by decide +kernel) (Nat.le_of_ble_eq_true rfl) (pb_same [none, none, none, none] rfl) (show wX5_feed l E 0 [some (.ref (E.2.1 h0)), some (.int v1), none, none] [] μ (pX5_feed h0 v1 μ) from ?_)
  unfold pX5_feed
  refine pb_aload_n 1 dX5_feed_0 rfl rfl rfl ?_
  refine pb_iload_n 2 dX5_feed_1 rfl rfl rfl ?_
  refine cl_X5_ownerOf 5 hv0 ⟨by decide, by decide, by decide, by decide⟩ (Nat.le_of_ble_eq_true rfl) ml_X5_48 dX5_feed_2 rfl (fun b2 μ2 => ?_)
  refine pb_istore_n 6 (i := 2) (L' := [some (.ref (E.2.1 h0)), some (.int v1), some (.int b2), none]) dX5_feed_5 rfl (by decide) rfl rfl rfl ?_
  refine pb_aload_n 7 dX5_feed_6 rfl rfl rfl ?_
  refine pb_getR 10 (j := 0) (d := (h0 + 1)) in_X5 rfl (by decide) hv0.1 rfl (by decide) fl_X5_11 dX5_feed_7 rfl ?_
  refine pb_bipush 12 (v := 47) dX5_feed_10 rfl (by decide) ?_
  refine pb_iload_n 13 dX5_feed_12 rfl rfl rfl ?_
  refine pb_iadd 14 dX5_feed_13 rfl ?_
  refine pb_dup2 15 dX5_feed_14 rfl rfl rfl ?_
  refine pb_guard (fun hin => pb_iald 16 hv0.2 hin rfl dX5_feed_15 rfl ?_)
  refine pb_iconst 17 (v := 1) dX5_feed_16 rfl (by decide) ?_
  refine pb_iadd 18 dX5_feed_17 rfl ?_
  refine pb_guard (fun hin => pb_iast 19 hv0.2 hin rfl dX5_feed_18 rfl ?_)
  refine pb_aload_n 20 dX5_feed_19 rfl rfl rfl ?_
  refine pb_iload_n 21 dX5_feed_20 rfl rfl rfl ?_
  refine cl_X5_hayOf 24 hv0 ⟨by decide, by decide, by decide, by decide⟩ (Nat.le_of_ble_eq_true rfl) ml_X5_93 dX5_feed_21 rfl (fun b21 μ21 => ?_)
  refine pb_if_le 27 (tgt := 40) dX5_feed_24 (by decide) rfl (fun _ => ?_) (fun _ => ?_)
  · refine pb_aload_n 41 dX5_feed_40 rfl rfl rfl ?_
    refine pb_iload_n 42 dX5_feed_41 rfl rfl rfl ?_
    refine cl_X5_kindOf 45 hv0 ⟨by decide, by decide, by decide, by decide⟩ (Nat.le_of_ble_eq_true rfl) ml_X5_64 dX5_feed_42 rfl (fun b42 μ42 => ?_)
    refine pb_iconst 46 (v := 2) dX5_feed_45 rfl (by decide) ?_
    refine pb_icmp_ne 49 (tgt := 53) dX5_feed_46 (by decide) rfl (fun _ => ?_) (fun _ => ?_)
    · refine pb_iconst 50 (v := 2) dX5_feed_49 rfl (by decide) ?_
      refine pb_goto (tgt := 54) dX5_feed_50 (by decide) ?_
      refine pb_weakM (L' := [some (.ref (E.2.1 h0)), some (.int v1), none, none]) [true, true, false, false] rfl ?_
      exact tX5_feed_J54 l E h0 hv0 v1 (2 : Int32) μ42
    · refine pb_iconst 54 (v := 1) dX5_feed_53 rfl (by decide) ?_
      refine pb_weakM (L' := [some (.ref (E.2.1 h0)), some (.int v1), none, none]) [true, true, false, false] rfl ?_
      exact tX5_feed_J54 l E h0 hv0 v1 (1 : Int32) μ42
  · refine pb_aload_n 28 dX5_feed_27 rfl rfl rfl ?_
    refine pb_getR 31 (j := 0) (d := (h0 + 1)) in_X5 rfl (by decide) hv0.1 rfl (by decide) fl_X5_11 dX5_feed_28 rfl ?_
    refine pb_iconst 32 (v := 3) dX5_feed_31 rfl (by decide) ?_
    refine pb_iload_n 33 dX5_feed_32 rfl rfl rfl ?_
    refine pb_iadd 34 dX5_feed_33 rfl ?_
    refine pb_dup2 35 dX5_feed_34 rfl rfl rfl ?_
    refine pb_guard (fun hin => pb_iald 36 hv0.2 hin rfl dX5_feed_35 rfl ?_)
    refine pb_iconst 37 (v := 1) dX5_feed_36 rfl (by decide) ?_
    refine pb_isub 38 dX5_feed_37 rfl ?_
    refine pb_guard (fun hin => pb_iast 39 hv0.2 hin rfl dX5_feed_38 rfl ?_)
    exact pb_vret dX5_feed_39
theorem mc_X5_feed : pb_MC yX5_feed cX5_feed 4 none 1 := ⟨pb_inW 451 (by decide +kernel) (by decide +kernel), pb_inW 63 (by decide +kernel) (by decide +kernel), by decide +kernel, by decide +kernel, by decide +kernel⟩
theorem mi_X5_feed : Cond.instanceMethod yX5_feed ∈ pb_gw := pb_inW 450 (by decide +kernel) (by decide +kernel)
theorem ms_X5_feed : Cond.selects (yX5_feed).cls yX5_feed yX5_feed ∈ pb_gw := pb_inW 6 (by decide +kernel) (by decide +kernel)
theorem cl_X5_feed {α : Type} {l : Launch} {E : pb_E} {R : Room} {own : String} {cc : ByteArray} {mL : Nat} {ret : Option FieldType} {Xs : State → Prop} {nc ns : Nat} {Qf : State → Array Value → List Frame → α → pb_M → State → Prop} {pc : Nat} {L : List (Option Value)} {S : List Value} {μ : pb_M} {f : Unit → pb_M → Option (α × pb_M)} {h0 : Nat} {v1 : Int32} {index : Nat} (q : Nat) (hv0 : pb_V h0) (hR : 2 + 1 ≤ R.frames ∧ 8 + (4 + 11) + 42 ≤ R.locals ∧ nc ≤ R.cells ∧ ns ≤ R.slots) (hW : (S.map fun v => v.category).sum ≤ 8) (hl1 : Cond.methodLink own index yX5_feed ∈ pb_gw) (hdg : decode cc pc = .ok (.invokevirtual index, 3)) (hq : pc + 3 = q) (k : ∀ b1 μ1, pb_RW l E R own cc mL ret Xs nc ns Qf q L S μ1 (f b1 μ1)) : pb_RW l E R own cc mL ret Xs nc ns Qf pc L (.int v1 :: .ref (E.2.1 h0) :: S) μ (pb_b (pX5_feed h0 v1 μ) f) := pb_callV q (fun _ : Unit => none) mc_X5_feed mi_X5_feed ms_X5_feed (fun b1 μ1 h => evX5_feed l E h0 v1 hv0 μ b1 μ1 h) hv0.1 (by decide) rfl rfl rfl rfl hR rfl hW hl1 hdg hq k
