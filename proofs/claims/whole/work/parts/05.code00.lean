theorem fl_X5_11 : Cond.fieldLink RX5 11 (TX5 0).1 (TX5 0).2.1 (TX5 0).2.2.1 ∈ pb_gw := pb_inW 104 (by decide +kernel) (by decide +kernel)
def pX5_ownerOf (h0 : Nat) (v1 : Int32) (μ : pb_M) : Option (Int32 × pb_M) :=
  if pb_in ((27 : Int32) + v1) 52 then
    some ((μ.1 (h0 + 1) (((27 : Int32) + v1)).toNatClampNeg), μ)
  else none
abbrev wX5_ownerOf (l : Launch) (E : pb_E) := pb_RW l E { frames := 0, cells := 0, slots := 0, locals := 0 } RX5 cX5_ownerOf 2 (some .int) (fun _ => True) 0 0 (pb_Qf E (fun z : Int32 => some (.int z)))
set_option maxRecDepth 100000 in
set_option maxHeartbeats 4000000 in
theorem evX5_ownerOf (l : Launch) (E : pb_E) (h0 : Nat) (v1 : Int32) (hv0 : pb_V h0) (μ : pb_M) : ∀ b μ', pX5_ownerOf h0 v1 μ = some (b, μ') → pb_Ev l E yX5_ownerOf cX5_ownerOf 2 (some .int) { frames := 0, cells := 0, slots := 0, locals := 0 } [.ref (E.2.1 h0), .int v1] μ ((fun z : Int32 => some (.int z)) b) μ' := by
  refine pb_enter (L := [some (.ref (E.2.1 h0)), some (.int v1)]) (by decide +kernel) (Nat.le_of_ble_eq_true rfl) (pb_same [none, none] rfl) (show wX5_ownerOf l E 0 [some (.ref (E.2.1 h0)), some (.int v1)] [] μ (pX5_ownerOf h0 v1 μ) from ?_)
  unfold pX5_ownerOf
  refine pb_aload_n 1 dX5_ownerOf_0 rfl rfl rfl ?_
  refine pb_getR 4 (j := 0) (d := (h0 + 1)) in_X5 rfl (by decide) hv0.1 rfl (by decide) fl_X5_11 dX5_ownerOf_1 rfl ?_
  refine pb_bipush 6 (v := 27) dX5_ownerOf_4 rfl (by decide) ?_
  refine pb_iload_n 7 dX5_ownerOf_6 rfl rfl rfl ?_
  refine pb_iadd 8 dX5_ownerOf_7 rfl ?_
  refine pb_guard (fun hin => pb_iald 9 hv0.2 hin rfl dX5_ownerOf_8 rfl ?_)
  exact pb_iret dX5_ownerOf_9
theorem mc_X5_ownerOf : pb_MC yX5_ownerOf cX5_ownerOf 2 (some .int) 1 := ⟨pb_inW 356 (by decide +kernel) (by decide +kernel), pb_inW 63 (by decide +kernel) (by decide +kernel), by decide +kernel, by decide +kernel, by decide +kernel⟩
theorem mi_X5_ownerOf : Cond.instanceMethod yX5_ownerOf ∈ pb_gw := pb_inW 354 (by decide +kernel) (by decide +kernel)
theorem ms_X5_ownerOf : Cond.selects (yX5_ownerOf).cls yX5_ownerOf yX5_ownerOf ∈ pb_gw := pb_inW 355 (by decide +kernel) (by decide +kernel)
theorem cl_X5_ownerOf {α : Type} {l : Launch} {E : pb_E} {R : Room} {own : String} {cc : ByteArray} {mL : Nat} {ret : Option FieldType} {Xs : State → Prop} {nc ns : Nat} {Qf : State → Array Value → List Frame → α → pb_M → State → Prop} {pc : Nat} {L : List (Option Value)} {S : List Value} {μ : pb_M} {f : Int32 → pb_M → Option (α × pb_M)} {h0 : Nat} {v1 : Int32} {index : Nat} (q : Nat) (hv0 : pb_V h0) (hR : 0 + 1 ≤ R.frames ∧ 8 + (2 + 11) + 0 ≤ R.locals ∧ nc ≤ R.cells ∧ ns ≤ R.slots) (hW : (S.map fun v => v.category).sum ≤ 8) (hl1 : Cond.methodLink own index yX5_ownerOf ∈ pb_gw) (hdg : decode cc pc = .ok (.invokevirtual index, 3)) (hq : pc + 3 = q) (k : ∀ b1 μ1, pb_RW l E R own cc mL ret Xs nc ns Qf q L (.int b1 :: S) μ1 (f b1 μ1)) : pb_RW l E R own cc mL ret Xs nc ns Qf pc L (.int v1 :: .ref (E.2.1 h0) :: S) μ (pb_b (pX5_ownerOf h0 v1 μ) f) := pb_callV q (fun z : Int32 => some (.int z)) mc_X5_ownerOf mi_X5_ownerOf ms_X5_ownerOf (fun b1 μ1 h => evX5_ownerOf l E h0 v1 hv0 μ b1 μ1 h) hv0.1 (by decide) rfl rfl rfl rfl hR rfl hW hl1 hdg hq k
def pX5_worthOf (h0 : Nat) (v1 : Int32) (μ : pb_M) : Option (Int32 × pb_M) :=
  if pb_in ((32 : Int32) + v1) 52 then
    some ((μ.1 (h0 + 1) (((32 : Int32) + v1)).toNatClampNeg), μ)
  else none
abbrev wX5_worthOf (l : Launch) (E : pb_E) := pb_RW l E { frames := 0, cells := 0, slots := 0, locals := 0 } RX5 cX5_worthOf 2 (some .int) (fun _ => True) 0 0 (pb_Qf E (fun z : Int32 => some (.int z)))
set_option maxRecDepth 100000 in
set_option maxHeartbeats 4000000 in
theorem evX5_worthOf (l : Launch) (E : pb_E) (h0 : Nat) (v1 : Int32) (hv0 : pb_V h0) (μ : pb_M) : ∀ b μ', pX5_worthOf h0 v1 μ = some (b, μ') → pb_Ev l E yX5_worthOf cX5_worthOf 2 (some .int) { frames := 0, cells := 0, slots := 0, locals := 0 } [.ref (E.2.1 h0), .int v1] μ ((fun z : Int32 => some (.int z)) b) μ' := by
  refine pb_enter (L := [some (.ref (E.2.1 h0)), some (.int v1)]) (by decide +kernel) (Nat.le_of_ble_eq_true rfl) (pb_same [none, none] rfl) (show wX5_worthOf l E 0 [some (.ref (E.2.1 h0)), some (.int v1)] [] μ (pX5_worthOf h0 v1 μ) from ?_)
  unfold pX5_worthOf
  refine pb_aload_n 1 dX5_worthOf_0 rfl rfl rfl ?_
  refine pb_getR 4 (j := 0) (d := (h0 + 1)) in_X5 rfl (by decide) hv0.1 rfl (by decide) fl_X5_11 dX5_worthOf_1 rfl ?_
  refine pb_bipush 6 (v := 32) dX5_worthOf_4 rfl (by decide) ?_
  refine pb_iload_n 7 dX5_worthOf_6 rfl rfl rfl ?_
  refine pb_iadd 8 dX5_worthOf_7 rfl ?_
  refine pb_guard (fun hin => pb_iald 9 hv0.2 hin rfl dX5_worthOf_8 rfl ?_)
  exact pb_iret dX5_worthOf_9
theorem mc_X5_worthOf : pb_MC yX5_worthOf cX5_worthOf 2 (some .int) 1 := ⟨pb_inW 377 (by decide +kernel) (by decide +kernel), pb_inW 63 (by decide +kernel) (by decide +kernel), by decide +kernel, by decide +kernel, by decide +kernel⟩
theorem mi_X5_worthOf : Cond.instanceMethod yX5_worthOf ∈ pb_gw := pb_inW 375 (by decide +kernel) (by decide +kernel)
theorem ms_X5_worthOf : Cond.selects (yX5_worthOf).cls yX5_worthOf yX5_worthOf ∈ pb_gw := pb_inW 376 (by decide +kernel) (by decide +kernel)
theorem cl_X5_worthOf {α : Type} {l : Launch} {E : pb_E} {R : Room} {own : String} {cc : ByteArray} {mL : Nat} {ret : Option FieldType} {Xs : State → Prop} {nc ns : Nat} {Qf : State → Array Value → List Frame → α → pb_M → State → Prop} {pc : Nat} {L : List (Option Value)} {S : List Value} {μ : pb_M} {f : Int32 → pb_M → Option (α × pb_M)} {h0 : Nat} {v1 : Int32} {index : Nat} (q : Nat) (hv0 : pb_V h0) (hR : 0 + 1 ≤ R.frames ∧ 8 + (2 + 11) + 0 ≤ R.locals ∧ nc ≤ R.cells ∧ ns ≤ R.slots) (hW : (S.map fun v => v.category).sum ≤ 8) (hl1 : Cond.methodLink own index yX5_worthOf ∈ pb_gw) (hdg : decode cc pc = .ok (.invokevirtual index, 3)) (hq : pc + 3 = q) (k : ∀ b1 μ1, pb_RW l E R own cc mL ret Xs nc ns Qf q L (.int b1 :: S) μ1 (f b1 μ1)) : pb_RW l E R own cc mL ret Xs nc ns Qf pc L (.int v1 :: .ref (E.2.1 h0) :: S) μ (pb_b (pX5_worthOf h0 v1 μ) f) := pb_callV q (fun z : Int32 => some (.int z)) mc_X5_worthOf mi_X5_worthOf ms_X5_worthOf (fun b1 μ1 h => evX5_worthOf l E h0 v1 hv0 μ b1 μ1 h) hv0.1 (by decide) rfl rfl rfl rfl hR rfl hW hl1 hdg hq k
theorem ml_X5_34 : Cond.methodLink RX5 34 yX5_worthOf ∈ pb_gw := pb_inW 394 (by decide +kernel) (by decide +kernel)
def pX5_isDead (h0 : Nat) (v1 : Int32) (μ : pb_M) : Option (Int32 × pb_M) :=
  pb_b (pX5_worthOf h0 v1 μ) (fun b2 μ2 =>
  if b2 = (0 : Int32) then
    some ((1 : Int32), μ2)
  else
  some ((0 : Int32), μ2))
abbrev wX5_isDead (l : Launch) (E : pb_E) := pb_RW l E { frames := 1, cells := 0, slots := 0, locals := 21 } RX5 cX5_isDead 2 (some .boolean) (fun _ => True) 0 0 (pb_Qf E (fun z : Int32 => some (.int z)))
set_option maxRecDepth 100000 in
set_option maxHeartbeats 4000000 in
theorem evX5_isDead (l : Launch) (E : pb_E) (h0 : Nat) (v1 : Int32) (hv0 : pb_V h0) (μ : pb_M) : ∀ b μ', pX5_isDead h0 v1 μ = some (b, μ') → pb_Ev l E yX5_isDead cX5_isDead 2 (some .boolean) { frames := 1, cells := 0, slots := 0, locals := 21 } [.ref (E.2.1 h0), .int v1] μ ((fun z : Int32 => some (.int z)) b) μ' := by
  refine pb_enter (L := [some (.ref (E.2.1 h0)), some (.int v1)]) (by decide +kernel) (Nat.le_of_ble_eq_true rfl) (pb_same [none, none] rfl) (show wX5_isDead l E 0 [some (.ref (E.2.1 h0)), some (.int v1)] [] μ (pX5_isDead h0 v1 μ) from ?_)
  unfold pX5_isDead
  refine pb_aload_n 1 dX5_isDead_0 rfl rfl rfl ?_
  refine pb_iload_n 2 dX5_isDead_1 rfl rfl rfl ?_
  refine cl_X5_worthOf 5 hv0 ⟨by decide, by decide, by decide, by decide⟩ (Nat.le_of_ble_eq_true rfl) ml_X5_34 dX5_isDead_2 rfl (fun b2 μ2 => ?_)
  refine pb_if_ne 8 (tgt := 12) dX5_isDead_5 (by decide) rfl (fun _ => ?_) (fun _ => ?_)
  · refine pb_iconst 9 (v := 1) dX5_isDead_8 rfl (by decide) ?_
    refine pb_goto (tgt := 13) dX5_isDead_9 (by decide) ?_
    exact pb_zret rfl dX5_isDead_13
  · refine pb_iconst 13 (v := 0) dX5_isDead_12 rfl (by decide) ?_
    exact pb_zret rfl dX5_isDead_13
theorem mc_X5_isDead : pb_MC yX5_isDead cX5_isDead 2 (some .boolean) 1 := ⟨pb_inW 393 (by decide +kernel) (by decide +kernel), pb_inW 63 (by decide +kernel) (by decide +kernel), by decide +kernel, by decide +kernel, by decide +kernel⟩
theorem mi_X5_isDead : Cond.instanceMethod yX5_isDead ∈ pb_gw := pb_inW 391 (by decide +kernel) (by decide +kernel)
theorem ms_X5_isDead : Cond.selects (yX5_isDead).cls yX5_isDead yX5_isDead ∈ pb_gw := pb_inW 392 (by decide +kernel) (by decide +kernel)
theorem cl_X5_isDead {α : Type} {l : Launch} {E : pb_E} {R : Room} {own : String} {cc : ByteArray} {mL : Nat} {ret : Option FieldType} {Xs : State → Prop} {nc ns : Nat} {Qf : State → Array Value → List Frame → α → pb_M → State → Prop} {pc : Nat} {L : List (Option Value)} {S : List Value} {μ : pb_M} {f : Int32 → pb_M → Option (α × pb_M)} {h0 : Nat} {v1 : Int32} {index : Nat} (q : Nat) (hv0 : pb_V h0) (hR : 1 + 1 ≤ R.frames ∧ 8 + (2 + 11) + 21 ≤ R.locals ∧ nc ≤ R.cells ∧ ns ≤ R.slots) (hW : (S.map fun v => v.category).sum ≤ 8) (hl1 : Cond.methodLink own index yX5_isDead ∈ pb_gw) (hdg : decode cc pc = .ok (.invokevirtual index, 3)) (hq : pc + 3 = q) (k : ∀ b1 μ1, pb_RW l E R own cc mL ret Xs nc ns Qf q L (.int b1 :: S) μ1 (f b1 μ1)) : pb_RW l E R own cc mL ret Xs nc ns Qf pc L (.int v1 :: .ref (E.2.1 h0) :: S) μ (pb_b (pX5_isDead h0 v1 μ) f) := pb_callV q (fun z : Int32 => some (.int z)) mc_X5_isDead mi_X5_isDead ms_X5_isDead (fun b1 μ1 h => evX5_isDead l E h0 v1 hv0 μ b1 μ1 h) hv0.1 (by decide) rfl rfl rfl rfl hR rfl hW hl1 hdg hq k
def pX5_holderOf (h0 : Nat) (v1 : Int32) (μ : pb_M) : Option (Int32 × pb_M) :=
  if pb_in ((42 : Int32) + v1) 52 then
    some ((μ.1 (h0 + 1) (((42 : Int32) + v1)).toNatClampNeg), μ)
  else none
abbrev wX5_holderOf (l : Launch) (E : pb_E) := pb_RW l E { frames := 0, cells := 0, slots := 0, locals := 0 } RX5 cX5_holderOf 2 (some .int) (fun _ => True) 0 0 (pb_Qf E (fun z : Int32 => some (.int z)))
set_option maxRecDepth 100000 in
set_option maxHeartbeats 4000000 in
theorem evX5_holderOf (l : Launch) (E : pb_E) (h0 : Nat) (v1 : Int32) (hv0 : pb_V h0) (μ : pb_M) : ∀ b μ', pX5_holderOf h0 v1 μ = some (b, μ') → pb_Ev l E yX5_holderOf cX5_holderOf 2 (some .int) { frames := 0, cells := 0, slots := 0, locals := 0 } [.ref (E.2.1 h0), .int v1] μ ((fun z : Int32 => some (.int z)) b) μ' := by
  refine pb_enter (L := [some (.ref (E.2.1 h0)), some (.int v1)]) (by decide +kernel) (Nat.le_of_ble_eq_true rfl) (pb_same [none, none] rfl) (show wX5_holderOf l E 0 [some (.ref (E.2.1 h0)), some (.int v1)] [] μ (pX5_holderOf h0 v1 μ) from ?_)
  unfold pX5_holderOf
  refine pb_aload_n 1 dX5_holderOf_0 rfl rfl rfl ?_
  refine pb_getR 4 (j := 0) (d := (h0 + 1)) in_X5 rfl (by decide) hv0.1 rfl (by decide) fl_X5_11 dX5_holderOf_1 rfl ?_
  refine pb_bipush 6 (v := 42) dX5_holderOf_4 rfl (by decide) ?_
  refine pb_iload_n 7 dX5_holderOf_6 rfl rfl rfl ?_
  refine pb_iadd 8 dX5_holderOf_7 rfl ?_
  refine pb_guard (fun hin => pb_iald 9 hv0.2 hin rfl dX5_holderOf_8 rfl ?_)
  exact pb_iret dX5_holderOf_9
theorem mc_X5_holderOf : pb_MC yX5_holderOf cX5_holderOf 2 (some .int) 1 := ⟨pb_inW 385 (by decide +kernel) (by decide +kernel), pb_inW 63 (by decide +kernel) (by decide +kernel), by decide +kernel, by decide +kernel, by decide +kernel⟩
theorem mi_X5_holderOf : Cond.instanceMethod yX5_holderOf ∈ pb_gw := pb_inW 383 (by decide +kernel) (by decide +kernel)
theorem ms_X5_holderOf : Cond.selects (yX5_holderOf).cls yX5_holderOf yX5_holderOf ∈ pb_gw := pb_inW 384 (by decide +kernel) (by decide +kernel)
theorem cl_X5_holderOf {α : Type} {l : Launch} {E : pb_E} {R : Room} {own : String} {cc : ByteArray} {mL : Nat} {ret : Option FieldType} {Xs : State → Prop} {nc ns : Nat} {Qf : State → Array Value → List Frame → α → pb_M → State → Prop} {pc : Nat} {L : List (Option Value)} {S : List Value} {μ : pb_M} {f : Int32 → pb_M → Option (α × pb_M)} {h0 : Nat} {v1 : Int32} {index : Nat} (q : Nat) (hv0 : pb_V h0) (hR : 0 + 1 ≤ R.frames ∧ 8 + (2 + 11) + 0 ≤ R.locals ∧ nc ≤ R.cells ∧ ns ≤ R.slots) (hW : (S.map fun v => v.category).sum ≤ 8) (hl1 : Cond.methodLink own index yX5_holderOf ∈ pb_gw) (hdg : decode cc pc = .ok (.invokevirtual index, 3)) (hq : pc + 3 = q) (k : ∀ b1 μ1, pb_RW l E R own cc mL ret Xs nc ns Qf q L (.int b1 :: S) μ1 (f b1 μ1)) : pb_RW l E R own cc mL ret Xs nc ns Qf pc L (.int v1 :: .ref (E.2.1 h0) :: S) μ (pb_b (pX5_holderOf h0 v1 μ) f) := pb_callV q (fun z : Int32 => some (.int z)) mc_X5_holderOf mi_X5_holderOf ms_X5_holderOf (fun b1 μ1 h => evX5_holderOf l E h0 v1 hv0 μ b1 μ1 h) hv0.1 (by decide) rfl rfl rfl rfl hR rfl hW hl1 hdg hq k
theorem ml_X5_38 : Cond.methodLink RX5 38 yX5_holderOf ∈ pb_gw := pb_inW 413 (by decide +kernel) (by decide +kernel)
def pX5_isShut (h0 : Nat) (v1 : Int32) (μ : pb_M) : Option (Int32 × pb_M) :=
  pb_b (pX5_holderOf h0 v1 μ) (fun b2 μ2 =>
  if b2 = (-9 : Int32) then
    some ((0 : Int32), μ2)
  else
  some ((1 : Int32), μ2))
abbrev wX5_isShut (l : Launch) (E : pb_E) := pb_RW l E { frames := 1, cells := 0, slots := 0, locals := 21 } RX5 cX5_isShut 2 (some .boolean) (fun _ => True) 0 0 (pb_Qf E (fun z : Int32 => some (.int z)))
set_option maxRecDepth 100000 in
set_option maxHeartbeats 4000000 in
theorem evX5_isShut (l : Launch) (E : pb_E) (h0 : Nat) (v1 : Int32) (hv0 : pb_V h0) (μ : pb_M) : ∀ b μ', pX5_isShut h0 v1 μ = some (b, μ') → pb_Ev l E yX5_isShut cX5_isShut 2 (some .boolean) { frames := 1, cells := 0, slots := 0, locals := 21 } [.ref (E.2.1 h0), .int v1] μ ((fun z : Int32 => some (.int z)) b) μ' := by
  refine pb_enter (L := [some (.ref (E.2.1 h0)), some (.int v1)]) (by decide +kernel) (Nat.le_of_ble_eq_true rfl) (pb_same [none, none] rfl) (show wX5_isShut l E 0 [some (.ref (E.2.1 h0)), some (.int v1)] [] μ (pX5_isShut h0 v1 μ) from ?_)
  unfold pX5_isShut
  refine pb_aload_n 1 dX5_isShut_0 rfl rfl rfl ?_
  refine pb_iload_n 2 dX5_isShut_1 rfl rfl rfl ?_
  refine cl_X5_holderOf 5 hv0 ⟨by decide, by decide, by decide, by decide⟩ (Nat.le_of_ble_eq_true rfl) ml_X5_38 dX5_isShut_2 rfl (fun b2 μ2 => ?_)
  refine pb_bipush 7 (v := -9) dX5_isShut_5 rfl (by decide) ?_
  refine pb_icmp_eq 10 (tgt := 14) dX5_isShut_7 (by decide) rfl (fun _ => ?_) (fun _ => ?_)
  · refine pb_iconst 15 (v := 0) dX5_isShut_14 rfl (by decide) ?_
    exact pb_zret rfl dX5_isShut_15
  · refine pb_iconst 11 (v := 1) dX5_isShut_10 rfl (by decide) ?_
    refine pb_goto (tgt := 15) dX5_isShut_11 (by decide) ?_
    exact pb_zret rfl dX5_isShut_15
theorem mc_X5_isShut : pb_MC yX5_isShut cX5_isShut 2 (some .boolean) 1 := ⟨pb_inW 412 (by decide +kernel) (by decide +kernel), pb_inW 63 (by decide +kernel) (by decide +kernel), by decide +kernel, by decide +kernel, by decide +kernel⟩
theorem mi_X5_isShut : Cond.instanceMethod yX5_isShut ∈ pb_gw := pb_inW 410 (by decide +kernel) (by decide +kernel)
theorem ms_X5_isShut : Cond.selects (yX5_isShut).cls yX5_isShut yX5_isShut ∈ pb_gw := pb_inW 411 (by decide +kernel) (by decide +kernel)
theorem cl_X5_isShut {α : Type} {l : Launch} {E : pb_E} {R : Room} {own : String} {cc : ByteArray} {mL : Nat} {ret : Option FieldType} {Xs : State → Prop} {nc ns : Nat} {Qf : State → Array Value → List Frame → α → pb_M → State → Prop} {pc : Nat} {L : List (Option Value)} {S : List Value} {μ : pb_M} {f : Int32 → pb_M → Option (α × pb_M)} {h0 : Nat} {v1 : Int32} {index : Nat} (q : Nat) (hv0 : pb_V h0) (hR : 1 + 1 ≤ R.frames ∧ 8 + (2 + 11) + 21 ≤ R.locals ∧ nc ≤ R.cells ∧ ns ≤ R.slots) (hW : (S.map fun v => v.category).sum ≤ 8) (hl1 : Cond.methodLink own index yX5_isShut ∈ pb_gw) (hdg : decode cc pc = .ok (.invokevirtual index, 3)) (hq : pc + 3 = q) (k : ∀ b1 μ1, pb_RW l E R own cc mL ret Xs nc ns Qf q L (.int b1 :: S) μ1 (f b1 μ1)) : pb_RW l E R own cc mL ret Xs nc ns Qf pc L (.int v1 :: .ref (E.2.1 h0) :: S) μ (pb_b (pX5_isShut h0 v1 μ) f) := pb_callV q (fun z : Int32 => some (.int z)) mc_X5_isShut mi_X5_isShut ms_X5_isShut (fun b1 μ1 h => evX5_isShut l E h0 v1 hv0 μ b1 μ1 h) hv0.1 (by decide) rfl rfl rfl rfl hR rfl hW hl1 hdg hq k
def pX5_debt (h0 : Nat) (v1 : Int32) (v2 : Int32) (μ : pb_M) : Option (Int32 × pb_M) :=
  if pb_in (((11 : Int32) + (v1 * (4 : Int32))) + v2) 52 then
    some ((μ.1 (h0 + 1) ((((11 : Int32) + (v1 * (4 : Int32))) + v2)).toNatClampNeg), μ)
  else none
abbrev wX5_debt (l : Launch) (E : pb_E) := pb_RW l E { frames := 0, cells := 0, slots := 0, locals := 0 } RX5 cX5_debt 3 (some .int) (fun _ => True) 0 0 (pb_Qf E (fun z : Int32 => some (.int z)))
set_option maxRecDepth 100000 in
set_option maxHeartbeats 4000000 in
theorem evX5_debt (l : Launch) (E : pb_E) (h0 : Nat) (v1 : Int32) (v2 : Int32) (hv0 : pb_V h0) (μ : pb_M) : ∀ b μ', pX5_debt h0 v1 v2 μ = some (b, μ') → pb_Ev l E yX5_debt cX5_debt 3 (some .int) { frames := 0, cells := 0, slots := 0, locals := 0 } [.ref (E.2.1 h0), .int v1, .int v2] μ ((fun z : Int32 => some (.int z)) b) μ' := by
  refine pb_enter (L := [some (.ref (E.2.1 h0)), some (.int v1), some (.int v2)]) (by decide +kernel) (Nat.le_of_ble_eq_true rfl) (pb_same [none, none, none] rfl) (show wX5_debt l E 0 [some (.ref (E.2.1 h0)), some (.int v1), some (.int v2)] [] μ (pX5_debt h0 v1 v2 μ) from ?_)
  unfold pX5_debt
  refine pb_aload_n 1 dX5_debt_0 rfl rfl rfl ?_
  refine pb_getR 4 (j := 0) (d := (h0 + 1)) in_X5 rfl (by decide) hv0.1 rfl (by decide) fl_X5_11 dX5_debt_1 rfl ?_
  refine pb_bipush 6 (v := 11) dX5_debt_4 rfl (by decide) ?_
  refine pb_iload_n 7 dX5_debt_6 rfl rfl rfl ?_
  refine pb_iconst 8 (v := 4) dX5_debt_7 rfl (by decide) ?_
  refine pb_imul 9 dX5_debt_8 rfl ?_
  refine pb_iadd 10 dX5_debt_9 rfl ?_
  refine pb_iload_n 11 dX5_debt_10 rfl rfl rfl ?_
  refine pb_iadd 12 dX5_debt_11 rfl ?_
  refine pb_guard (fun hin => pb_iald 13 hv0.2 hin rfl dX5_debt_12 rfl ?_)
  exact pb_iret dX5_debt_13
theorem mc_X5_debt : pb_MC yX5_debt cX5_debt 3 (some .int) 2 := ⟨pb_inW 311 (by decide +kernel) (by decide +kernel), pb_inW 63 (by decide +kernel) (by decide +kernel), by decide +kernel, by decide +kernel, by decide +kernel⟩
theorem mi_X5_debt : Cond.instanceMethod yX5_debt ∈ pb_gw := pb_inW 309 (by decide +kernel) (by decide +kernel)
theorem ms_X5_debt : Cond.selects (yX5_debt).cls yX5_debt yX5_debt ∈ pb_gw := pb_inW 310 (by decide +kernel) (by decide +kernel)
theorem cl_X5_debt {α : Type} {l : Launch} {E : pb_E} {R : Room} {own : String} {cc : ByteArray} {mL : Nat} {ret : Option FieldType} {Xs : State → Prop} {nc ns : Nat} {Qf : State → Array Value → List Frame → α → pb_M → State → Prop} {pc : Nat} {L : List (Option Value)} {S : List Value} {μ : pb_M} {f : Int32 → pb_M → Option (α × pb_M)} {h0 : Nat} {v1 : Int32} {v2 : Int32} {index : Nat} (q : Nat) (hv0 : pb_V h0) (hR : 0 + 1 ≤ R.frames ∧ 8 + (3 + 11) + 0 ≤ R.locals ∧ nc ≤ R.cells ∧ ns ≤ R.slots) (hW : (S.map fun v => v.category).sum ≤ 8) (hl1 : Cond.methodLink own index yX5_debt ∈ pb_gw) (hdg : decode cc pc = .ok (.invokevirtual index, 3)) (hq : pc + 3 = q) (k : ∀ b1 μ1, pb_RW l E R own cc mL ret Xs nc ns Qf q L (.int b1 :: S) μ1 (f b1 μ1)) : pb_RW l E R own cc mL ret Xs nc ns Qf pc L (.int v2 :: .int v1 :: .ref (E.2.1 h0) :: S) μ (pb_b (pX5_debt h0 v1 v2 μ) f) := pb_callV q (fun z : Int32 => some (.int z)) mc_X5_debt mi_X5_debt ms_X5_debt (fun b1 μ1 h => evX5_debt l E h0 v1 v2 hv0 μ b1 μ1 h) hv0.1 (by decide) rfl rfl rfl rfl hR rfl hW hl1 hdg hq k
def pX5_kindOf (h0 : Nat) (v1 : Int32) (μ : pb_M) : Option (Int32 × pb_M) :=
  if pb_in ((37 : Int32) + v1) 52 then
    some ((μ.1 (h0 + 1) (((37 : Int32) + v1)).toNatClampNeg), μ)
  else none
abbrev wX5_kindOf (l : Launch) (E : pb_E) := pb_RW l E { frames := 0, cells := 0, slots := 0, locals := 0 } RX5 cX5_kindOf 2 (some .int) (fun _ => True) 0 0 (pb_Qf E (fun z : Int32 => some (.int z)))
set_option maxRecDepth 100000 in
set_option maxHeartbeats 4000000 in
theorem evX5_kindOf (l : Launch) (E : pb_E) (h0 : Nat) (v1 : Int32) (hv0 : pb_V h0) (μ : pb_M) : ∀ b μ', pX5_kindOf h0 v1 μ = some (b, μ') → pb_Ev l E yX5_kindOf cX5_kindOf 2 (some .int) { frames := 0, cells := 0, slots := 0, locals := 0 } [.ref (E.2.1 h0), .int v1] μ ((fun z : Int32 => some (.int z)) b) μ' := by
  refine pb_enter (L := [some (.ref (E.2.1 h0)), some (.int v1)]) (by decide +kernel) (Nat.le_of_ble_eq_true rfl) (pb_same [none, none] rfl) (show wX5_kindOf l E 0 [some (.ref (E.2.1 h0)), some (.int v1)] [] μ (pX5_kindOf h0 v1 μ) from ?_)
  unfold pX5_kindOf
  refine pb_aload_n 1 dX5_kindOf_0 rfl rfl rfl ?_
  refine pb_getR 4 (j := 0) (d := (h0 + 1)) in_X5 rfl (by decide) hv0.1 rfl (by decide) fl_X5_11 dX5_kindOf_1 rfl ?_
  refine pb_bipush 6 (v := 37) dX5_kindOf_4 rfl (by decide) ?_
  refine pb_iload_n 7 dX5_kindOf_6 rfl rfl rfl ?_
  refine pb_iadd 8 dX5_kindOf_7 rfl ?_
  refine pb_guard (fun hin => pb_iald 9 hv0.2 hin rfl dX5_kindOf_8 rfl ?_)
  exact pb_iret dX5_kindOf_9
theorem mc_X5_kindOf : pb_MC yX5_kindOf cX5_kindOf 2 (some .int) 1 := ⟨pb_inW 381 (by decide +kernel) (by decide +kernel), pb_inW 63 (by decide +kernel) (by decide +kernel), by decide +kernel, by decide +kernel, by decide +kernel⟩
theorem mi_X5_kindOf : Cond.instanceMethod yX5_kindOf ∈ pb_gw := pb_inW 379 (by decide +kernel) (by decide +kernel)
theorem ms_X5_kindOf : Cond.selects (yX5_kindOf).cls yX5_kindOf yX5_kindOf ∈ pb_gw := pb_inW 380 (by decide +kernel) (by decide +kernel)
theorem cl_X5_kindOf {α : Type} {l : Launch} {E : pb_E} {R : Room} {own : String} {cc : ByteArray} {mL : Nat} {ret : Option FieldType} {Xs : State → Prop} {nc ns : Nat} {Qf : State → Array Value → List Frame → α → pb_M → State → Prop} {pc : Nat} {L : List (Option Value)} {S : List Value} {μ : pb_M} {f : Int32 → pb_M → Option (α × pb_M)} {h0 : Nat} {v1 : Int32} {index : Nat} (q : Nat) (hv0 : pb_V h0) (hR : 0 + 1 ≤ R.frames ∧ 8 + (2 + 11) + 0 ≤ R.locals ∧ nc ≤ R.cells ∧ ns ≤ R.slots) (hW : (S.map fun v => v.category).sum ≤ 8) (hl1 : Cond.methodLink own index yX5_kindOf ∈ pb_gw) (hdg : decode cc pc = .ok (.invokevirtual index, 3)) (hq : pc + 3 = q) (k : ∀ b1 μ1, pb_RW l E R own cc mL ret Xs nc ns Qf q L (.int b1 :: S) μ1 (f b1 μ1)) : pb_RW l E R own cc mL ret Xs nc ns Qf pc L (.int v1 :: .ref (E.2.1 h0) :: S) μ (pb_b (pX5_kindOf h0 v1 μ) f) := pb_callV q (fun z : Int32 => some (.int z)) mc_X5_kindOf mi_X5_kindOf ms_X5_kindOf (fun b1 μ1 h => evX5_kindOf l E h0 v1 hv0 μ b1 μ1 h) hv0.1 (by decide) rfl rfl rfl rfl hR rfl hW hl1 hdg hq k
def pX5_dayNow (h0 : Nat) (μ : pb_M) : Option (Int32 × pb_M) :=
  some ((μ.1 (h0 + 1) 2), μ)
abbrev wX5_dayNow (l : Launch) (E : pb_E) := pb_RW l E { frames := 0, cells := 0, slots := 0, locals := 0 } RX5 cX5_dayNow 1 (some .int) (fun _ => True) 0 0 (pb_Qf E (fun z : Int32 => some (.int z)))
set_option maxRecDepth 100000 in
set_option maxHeartbeats 4000000 in
theorem evX5_dayNow (l : Launch) (E : pb_E) (h0 : Nat) (hv0 : pb_V h0) (μ : pb_M) : ∀ b μ', pX5_dayNow h0 μ = some (b, μ') → pb_Ev l E yX5_dayNow cX5_dayNow 1 (some .int) { frames := 0, cells := 0, slots := 0, locals := 0 } [.ref (E.2.1 h0)] μ ((fun z : Int32 => some (.int z)) b) μ' := by
  refine pb_enter (L := [some (.ref (E.2.1 h0))]) (by decide +kernel) (Nat.le_of_ble_eq_true rfl) (pb_same [none] rfl) (show wX5_dayNow l E 0 [some (.ref (E.2.1 h0))] [] μ (pX5_dayNow h0 μ) from ?_)
  unfold pX5_dayNow
  refine pb_aload_n 1 dX5_dayNow_0 rfl rfl rfl ?_
  refine pb_getR 4 (j := 0) (d := (h0 + 1)) in_X5 rfl (by decide) hv0.1 rfl (by decide) fl_X5_11 dX5_dayNow_1 rfl ?_
  refine pb_iconst 5 (v := 2) dX5_dayNow_4 rfl (by decide) ?_
  refine pb_iald 6 (j := 2) hv0.2 (by decide) (by decide) dX5_dayNow_5 rfl ?_
  exact pb_iret dX5_dayNow_6
theorem mc_X5_dayNow : pb_MC yX5_dayNow cX5_dayNow 1 (some .int) 0 := ⟨pb_inW 422 (by decide +kernel) (by decide +kernel), pb_inW 63 (by decide +kernel) (by decide +kernel), by decide +kernel, by decide +kernel, by decide +kernel⟩
theorem mi_X5_dayNow : Cond.instanceMethod yX5_dayNow ∈ pb_gw := pb_inW 420 (by decide +kernel) (by decide +kernel)
theorem ms_X5_dayNow : Cond.selects (yX5_dayNow).cls yX5_dayNow yX5_dayNow ∈ pb_gw := pb_inW 421 (by decide +kernel) (by decide +kernel)
theorem cl_X5_dayNow {α : Type} {l : Launch} {E : pb_E} {R : Room} {own : String} {cc : ByteArray} {mL : Nat} {ret : Option FieldType} {Xs : State → Prop} {nc ns : Nat} {Qf : State → Array Value → List Frame → α → pb_M → State → Prop} {pc : Nat} {L : List (Option Value)} {S : List Value} {μ : pb_M} {f : Int32 → pb_M → Option (α × pb_M)} {h0 : Nat} {index : Nat} (q : Nat) (hv0 : pb_V h0) (hR : 0 + 1 ≤ R.frames ∧ 8 + (1 + 11) + 0 ≤ R.locals ∧ nc ≤ R.cells ∧ ns ≤ R.slots) (hW : (S.map fun v => v.category).sum ≤ 8) (hl1 : Cond.methodLink own index yX5_dayNow ∈ pb_gw) (hdg : decode cc pc = .ok (.invokevirtual index, 3)) (hq : pc + 3 = q) (k : ∀ b1 μ1, pb_RW l E R own cc mL ret Xs nc ns Qf q L (.int b1 :: S) μ1 (f b1 μ1)) : pb_RW l E R own cc mL ret Xs nc ns Qf pc L (.ref (E.2.1 h0) :: S) μ (pb_b (pX5_dayNow h0 μ) f) := pb_callV q (fun z : Int32 => some (.int z)) mc_X5_dayNow mi_X5_dayNow ms_X5_dayNow (fun b1 μ1 h => evX5_dayNow l E h0 hv0 μ b1 μ1 h) hv0.1 (by decide) rfl rfl rfl rfl hR rfl hW hl1 hdg hq k
def pJ9_floorMod_7cf53 (v0 : Int32) (v1 : Int32) (μ : pb_M) : Option (Int32 × pb_M) :=
  if v1 = 0 then none else
  if (0 : Int32) ≤ (v0 ^^^ v1) then
    some ((pb_rem v0 v1), μ)
  else
  if (pb_rem v0 v1) = (0 : Int32) then
    some ((pb_rem v0 v1), μ)
  else
  some (((pb_rem v0 v1) + v1), μ)
abbrev wJ9_floorMod_7cf53 (l : Launch) (E : pb_E) := pb_RW l E { frames := 0, cells := 0, slots := 0, locals := 0 } RJ9 cJ9_floorMod_7cf53 3 (some .int) (fun _ => True) 0 0 (pb_Qf E (fun z : Int32 => some (.int z)))
set_option maxRecDepth 100000 in
set_option maxHeartbeats 4000000 in
theorem evJ9_floorMod_7cf53 (l : Launch) (E : pb_E) (v0 : Int32) (v1 : Int32)  (μ : pb_M) : ∀ b μ', pJ9_floorMod_7cf53 v0 v1 μ = some (b, μ') → pb_Ev l E yJ9_floorMod_7cf53 cJ9_floorMod_7cf53 3 (some .int) { frames := 0, cells := 0, slots := 0, locals := 0 } [.int v0, .int v1] μ ((fun z : Int32 => some (.int z)) b) μ' := by
  refine pb_enter (L := [some (.int v0), some (.int v1), none]) (by decide +kernel) (Nat.le_of_ble_eq_true rfl) (pb_same [none, none, none] rfl) (show wJ9_floorMod_7cf53 l E 0 [some (.int v0), some (.int v1), none] [] μ (pJ9_floorMod_7cf53 v0 v1 μ) from ?_)
  unfold pJ9_floorMod_7cf53
  refine pb_iload_n 1 dJ9_floorMod_7cf53_0 rfl rfl rfl ?_
  refine pb_iload_n 2 dJ9_floorMod_7cf53_1 rfl rfl rfl ?_
  refine pb_guardN (fun hne => pb_irem 3 dJ9_floorMod_7cf53_2 rfl hne ?_)
  refine pb_istore_n 4 (i := 2) (L' := [some (.int v0), some (.int v1), some (.int (pb_rem v0 v1))]) dJ9_floorMod_7cf53_3 rfl (by decide) rfl rfl rfl ?_
  refine pb_iload_n 5 dJ9_floorMod_7cf53_4 rfl rfl rfl ?_
  refine pb_iload_n 6 dJ9_floorMod_7cf53_5 rfl rfl rfl ?_
  refine pb_ixor 7 dJ9_floorMod_7cf53_6 rfl ?_
  refine pb_if_ge 10 (tgt := 18) dJ9_floorMod_7cf53_7 (by decide) rfl (fun _ => ?_) (fun _ => ?_)
  · refine pb_iload_n 19 dJ9_floorMod_7cf53_18 rfl rfl rfl ?_
    exact pb_iret dJ9_floorMod_7cf53_19
  · refine pb_iload_n 11 dJ9_floorMod_7cf53_10 rfl rfl rfl ?_
    refine pb_if_eq 14 (tgt := 18) dJ9_floorMod_7cf53_11 (by decide) rfl (fun _ => ?_) (fun _ => ?_)
    · refine pb_iload_n 19 dJ9_floorMod_7cf53_18 rfl rfl rfl ?_
      exact pb_iret dJ9_floorMod_7cf53_19
    · refine pb_iload_n 15 dJ9_floorMod_7cf53_14 rfl rfl rfl ?_
      refine pb_iload_n 16 dJ9_floorMod_7cf53_15 rfl rfl rfl ?_
      refine pb_iadd 17 dJ9_floorMod_7cf53_16 rfl ?_
      exact pb_iret dJ9_floorMod_7cf53_17
theorem mc_J9_floorMod_7cf53 : pb_MC yJ9_floorMod_7cf53 cJ9_floorMod_7cf53 3 (some .int) 2 := ⟨pb_inW 425 (by decide +kernel) (by decide +kernel), pb_inW 70 (by decide +kernel) (by decide +kernel), by decide +kernel, by decide +kernel, by decide +kernel⟩
theorem ms_J9_floorMod_7cf53 : Cond.static yJ9_floorMod_7cf53 ∈ pb_gw := pb_inW 424 (by decide +kernel) (by decide +kernel)
theorem cl_J9_floorMod_7cf53 {α : Type} {l : Launch} {E : pb_E} {R : Room} {own : String} {cc : ByteArray} {mL : Nat} {ret : Option FieldType} {Xs : State → Prop} {nc ns : Nat} {Qf : State → Array Value → List Frame → α → pb_M → State → Prop} {pc : Nat} {L : List (Option Value)} {S : List Value} {μ : pb_M} {f : Int32 → pb_M → Option (α × pb_M)} {v0 : Int32} {v1 : Int32} {index : Nat} (q : Nat)  (hR : 0 + 1 ≤ R.frames ∧ 8 + (3 + 11) + 0 ≤ R.locals ∧ nc ≤ R.cells ∧ ns ≤ R.slots) (hW : (S.map fun v => v.category).sum ≤ 8) (hl1 : Cond.methodLink own index yJ9_floorMod_7cf53 ∈ pb_gw) (hdg : decode cc pc = .ok (.invokestatic index, 3)) (hq : pc + 3 = q) (k : ∀ b1 μ1, pb_RW l E R own cc mL ret Xs nc ns Qf q L (.int b1 :: S) μ1 (f b1 μ1)) : pb_RW l E R own cc mL ret Xs nc ns Qf pc L (.int v1 :: .int v0 :: S) μ (pb_b (pJ9_floorMod_7cf53 v0 v1 μ) f) := pb_callS q (fun z : Int32 => some (.int z)) mc_J9_floorMod_7cf53 ms_J9_floorMod_7cf53 (fun b1 μ1 h => evJ9_floorMod_7cf53 l E v0 v1  μ b1 μ1 h) rfl rfl rfl hR rfl hW hl1 hdg hq k
theorem ml_X5_71 : Cond.methodLink RX5 71 yX5_dayNow ∈ pb_gw := pb_inW 419 (by decide +kernel) (by decide +kernel)
theorem ml_X5_74 : Cond.methodLink RX5 74 yJ9_floorMod_7cf53 ∈ pb_gw := pb_inW 423 (by decide +kernel) (by decide +kernel)
def pX5_isMarch (h0 : Nat) (μ : pb_M) : Option (Int32 × pb_M) :=
  pb_b (pX5_dayNow h0 μ) (fun b1 μ1 =>
  pb_b (pJ9_floorMod_7cf53 b1 (12 : Int32) μ1) (fun b6 μ6 =>
  if (3 : Int32) ≤ b6 then
    some ((0 : Int32), μ6)
  else
  some ((1 : Int32), μ6)))
abbrev wX5_isMarch (l : Launch) (E : pb_E) := pb_RW l E { frames := 1, cells := 0, slots := 0, locals := 22 } RX5 cX5_isMarch 1 (some .boolean) (fun _ => True) 0 0 (pb_Qf E (fun z : Int32 => some (.int z)))
set_option maxRecDepth 100000 in
set_option maxHeartbeats 4000000 in
theorem evX5_isMarch (l : Launch) (E : pb_E) (h0 : Nat) (hv0 : pb_V h0) (μ : pb_M) : ∀ b μ', pX5_isMarch h0 μ = some (b, μ') → pb_Ev l E yX5_isMarch cX5_isMarch 1 (some .boolean) { frames := 1, cells := 0, slots := 0, locals := 22 } [.ref (E.2.1 h0)] μ ((fun z : Int32 => some (.int z)) b) μ' := by
  refine pb_enter (L := [some (.ref (E.2.1 h0))]) (by decide +kernel) (Nat.le_of_ble_eq_true rfl) (pb_same [none] rfl) (show wX5_isMarch l E 0 [some (.ref (E.2.1 h0))] [] μ (pX5_isMarch h0 μ) from ?_)
  unfold pX5_isMarch
  refine pb_aload_n 1 dX5_isMarch_0 rfl rfl rfl ?_
  refine cl_X5_dayNow 4 hv0 ⟨by decide, by decide, by decide, by decide⟩ (Nat.le_of_ble_eq_true rfl) ml_X5_71 dX5_isMarch_1 rfl (fun b1 μ1 => ?_)
  refine pb_bipush 6 (v := 12) dX5_isMarch_4 rfl (by decide) ?_
  refine cl_J9_floorMod_7cf53 9 ⟨by decide, by decide, by decide, by decide⟩ (Nat.le_of_ble_eq_true rfl) ml_X5_74 dX5_isMarch_6 rfl (fun b6 μ6 => ?_)
  refine pb_iconst 10 (v := 3) dX5_isMarch_9 rfl (by decide) ?_
  refine pb_icmp_ge 13 (tgt := 17) dX5_isMarch_10 (by decide) rfl (fun _ => ?_) (fun _ => ?_)
  · refine pb_iconst 18 (v := 0) dX5_isMarch_17 rfl (by decide) ?_
    exact pb_zret rfl dX5_isMarch_18
  · refine pb_iconst 14 (v := 1) dX5_isMarch_13 rfl (by decide) ?_
    refine pb_goto (tgt := 18) dX5_isMarch_14 (by decide) ?_
    exact pb_zret rfl dX5_isMarch_18
theorem mc_X5_isMarch : pb_MC yX5_isMarch cX5_isMarch 1 (some .boolean) 0 := ⟨pb_inW 418 (by decide +kernel) (by decide +kernel), pb_inW 63 (by decide +kernel) (by decide +kernel), by decide +kernel, by decide +kernel, by decide +kernel⟩
theorem mi_X5_isMarch : Cond.instanceMethod yX5_isMarch ∈ pb_gw := pb_inW 417 (by decide +kernel) (by decide +kernel)
theorem ms_X5_isMarch : Cond.selects (yX5_isMarch).cls yX5_isMarch yX5_isMarch ∈ pb_gw := pb_inW 5 (by decide +kernel) (by decide +kernel)
theorem cl_X5_isMarch {α : Type} {l : Launch} {E : pb_E} {R : Room} {own : String} {cc : ByteArray} {mL : Nat} {ret : Option FieldType} {Xs : State → Prop} {nc ns : Nat} {Qf : State → Array Value → List Frame → α → pb_M → State → Prop} {pc : Nat} {L : List (Option Value)} {S : List Value} {μ : pb_M} {f : Int32 → pb_M → Option (α × pb_M)} {h0 : Nat} {index : Nat} (q : Nat) (hv0 : pb_V h0) (hR : 1 + 1 ≤ R.frames ∧ 8 + (1 + 11) + 22 ≤ R.locals ∧ nc ≤ R.cells ∧ ns ≤ R.slots) (hW : (S.map fun v => v.category).sum ≤ 8) (hl1 : Cond.methodLink own index yX5_isMarch ∈ pb_gw) (hdg : decode cc pc = .ok (.invokevirtual index, 3)) (hq : pc + 3 = q) (k : ∀ b1 μ1, pb_RW l E R own cc mL ret Xs nc ns Qf q L (.int b1 :: S) μ1 (f b1 μ1)) : pb_RW l E R own cc mL ret Xs nc ns Qf pc L (.ref (E.2.1 h0) :: S) μ (pb_b (pX5_isMarch h0 μ) f) := pb_callV q (fun z : Int32 => some (.int z)) mc_X5_isMarch mi_X5_isMarch ms_X5_isMarch (fun b1 μ1 h => evX5_isMarch l E h0 hv0 μ b1 μ1 h) hv0.1 (by decide) rfl rfl rfl rfl hR rfl hW hl1 hdg hq k
theorem ml_X5_41 : Cond.methodLink RX5 41 yX5_isShut ∈ pb_gw := pb_inW 409 (by decide +kernel) (by decide +kernel)
theorem ml_X5_48 : Cond.methodLink RX5 48 yX5_ownerOf ∈ pb_gw := pb_inW 353 (by decide +kernel) (by decide +kernel)
theorem ml_X5_51 : Cond.methodLink RX5 51 yX5_isDead ∈ pb_gw := pb_inW 408 (by decide +kernel) (by decide +kernel)
theorem ml_X5_58 : Cond.methodLink RX5 58 yX5_debt ∈ pb_gw := pb_inW 308 (by decide +kernel) (by decide +kernel)
theorem ml_X5_64 : Cond.methodLink RX5 64 yX5_kindOf ∈ pb_gw := pb_inW 414 (by decide +kernel) (by decide +kernel)
theorem ml_X5_67 : Cond.methodLink RX5 67 yX5_isMarch ∈ pb_gw := pb_inW 415 (by decide +kernel) (by decide +kernel)
def pX5_clauseFor (h0 : Nat) (v1 : Int32) (v2 : Int32) (μ : pb_M) : Option (Int32 × pb_M) :=
  pb_b (pX5_ownerOf h0 v2 μ) (fun b2 μ2 =>
  if b2 = v1 then
    some ((1 : Int32), μ2)
  else
  pb_b (pX5_isDead h0 v2 μ2) (fun b15 μ15 =>
  if b15 = (0 : Int32) then
    pb_b (pX5_isShut h0 v2 μ15) (fun b25 μ25 =>
    if b25 = (0 : Int32) then
      pb_b (pX5_debt h0 b2 v1 μ25) (fun b36 μ36 =>
      if b36 = (0 : Int32) then
        some ((4 : Int32), μ36)
      else
      pb_b (pX5_kindOf h0 v2 μ36) (fun b46 μ46 =>
      if b46 = (1 : Int32) then
        pb_b (pX5_isMarch h0 μ46) (fun b54 μ54 =>
        if b54 = (0 : Int32) then
          pb_b (pX5_kindOf h0 v2 μ54) (fun b64 μ64 =>
          if b64 = (3 : Int32) then
            some ((6 : Int32), μ64)
          else
          some ((0 : Int32), μ64))
        else
        some ((5 : Int32), μ54))
      else
      pb_b (pX5_kindOf h0 v2 μ46) (fun b64 μ64 =>
      if b64 = (3 : Int32) then
        some ((6 : Int32), μ64)
      else
      some ((0 : Int32), μ64))))
    else
    some ((3 : Int32), μ25))
  else
  some ((2 : Int32), μ15)))
abbrev wX5_clauseFor (l : Launch) (E : pb_E) := pb_RW l E { frames := 2, cells := 0, slots := 0, locals := 42 } RX5 cX5_clauseFor 4 (some .int) (fun _ => True) 0 0 (pb_Qf E (fun z : Int32 => some (.int z)))
set_option maxRecDepth 100000 in
set_option maxHeartbeats 4000000 in
theorem evX5_clauseFor (l : Launch) (E : pb_E) (h0 : Nat) (v1 : Int32) (v2 : Int32) (hv0 : pb_V h0) (μ : pb_M) : ∀ b μ', pX5_clauseFor h0 v1 v2 μ = some (b, μ') → pb_Ev l E yX5_clauseFor cX5_clauseFor 4 (some .int) { frames := 2, cells := 0, slots := 0, locals := 42 } [.ref (E.2.1 h0), .int v1, .int v2] μ ((fun z : Int32 => some (.int z)) b) μ' := by
  refine pb_enter (L := [some (.ref (E.2.1 h0)), some (.int v1), some (.int v2), none]) (by decide +kernel) (Nat.le_of_ble_eq_true rfl) (pb_same [none, none, none, none] rfl) (show wX5_clauseFor l E 0 [some (.ref (E.2.1 h0)), some (.int v1), some (.int v2), none] [] μ (pX5_clauseFor h0 v1 v2 μ) from ?_)
  unfold pX5_clauseFor
  refine pb_aload_n 1 dX5_clauseFor_0 rfl rfl rfl ?_
  refine pb_iload_n 2 dX5_clauseFor_1 rfl rfl rfl ?_
  refine cl_X5_ownerOf 5 hv0 ⟨by decide, by decide, by decide, by decide⟩ (Nat.le_of_ble_eq_true rfl) ml_X5_48 dX5_clauseFor_2 rfl (fun b2 μ2 => ?_)
  refine pb_istore_n 6 (i := 3) (L' := [some (.ref (E.2.1 h0)), some (.int v1), some (.int v2), some (.int b2)]) dX5_clauseFor_5 rfl (by decide) rfl rfl rfl ?_
  refine pb_iload_n 7 dX5_clauseFor_6 rfl rfl rfl ?_
  refine pb_iload_n 8 dX5_clauseFor_7 rfl rfl rfl ?_
  refine pb_icmp_ne 11 (tgt := 13) dX5_clauseFor_8 (by decide) rfl (fun _ => ?_) (fun _ => ?_)
  · refine pb_iconst 12 (v := 1) dX5_clauseFor_11 rfl (by decide) ?_
    exact pb_iret dX5_clauseFor_12
  · refine pb_aload_n 14 dX5_clauseFor_13 rfl rfl rfl ?_
    refine pb_iload_n 15 dX5_clauseFor_14 rfl rfl rfl ?_
    refine cl_X5_isDead 18 hv0 ⟨by decide, by decide, by decide, by decide⟩ (Nat.le_of_ble_eq_true rfl) ml_X5_51 dX5_clauseFor_15 rfl (fun b15 μ15 => ?_)
    refine pb_if_eq 21 (tgt := 23) dX5_clauseFor_18 (by decide) rfl (fun _ => ?_) (fun _ => ?_)
    · refine pb_aload_n 24 dX5_clauseFor_23 rfl rfl rfl ?_
      refine pb_iload_n 25 dX5_clauseFor_24 rfl rfl rfl ?_
      refine cl_X5_isShut 28 hv0 ⟨by decide, by decide, by decide, by decide⟩ (Nat.le_of_ble_eq_true rfl) ml_X5_41 dX5_clauseFor_25 rfl (fun b25 μ25 => ?_)
      refine pb_if_eq 31 (tgt := 33) dX5_clauseFor_28 (by decide) rfl (fun _ => ?_) (fun _ => ?_)
      · refine pb_aload_n 34 dX5_clauseFor_33 rfl rfl rfl ?_
        refine pb_iload_n 35 dX5_clauseFor_34 rfl rfl rfl ?_
        refine pb_iload_n 36 dX5_clauseFor_35 rfl rfl rfl ?_
        refine cl_X5_debt 39 hv0 ⟨by decide, by decide, by decide, by decide⟩ (Nat.le_of_ble_eq_true rfl) ml_X5_58 dX5_clauseFor_36 rfl (fun b36 μ36 => ?_)
        refine pb_if_ne 42 (tgt := 44) dX5_clauseFor_39 (by decide) rfl (fun _ => ?_) (fun _ => ?_)
        · refine pb_iconst 43 (v := 4) dX5_clauseFor_42 rfl (by decide) ?_
          exact pb_iret dX5_clauseFor_43
        · refine pb_aload_n 45 dX5_clauseFor_44 rfl rfl rfl ?_
          refine pb_iload_n 46 dX5_clauseFor_45 rfl rfl rfl ?_
          refine cl_X5_kindOf 49 hv0 ⟨by decide, by decide, by decide, by decide⟩ (Nat.le_of_ble_eq_true rfl) ml_X5_64 dX5_clauseFor_46 rfl (fun b46 μ46 => ?_)
          refine pb_iconst 50 (v := 1) dX5_clauseFor_49 rfl (by decide) ?_
          refine pb_icmp_ne 53 (tgt := 62) dX5_clauseFor_50 (by decide) rfl (fun _ => ?_) (fun _ => ?_)
          · refine pb_aload_n 54 dX5_clauseFor_53 rfl rfl rfl ?_
            refine cl_X5_isMarch 57 hv0 ⟨by decide, by decide, by decide, by decide⟩ (Nat.le_of_ble_eq_true rfl) ml_X5_67 dX5_clauseFor_54 rfl (fun b54 μ54 => ?_)
            refine pb_if_eq 60 (tgt := 62) dX5_clauseFor_57 (by decide) rfl (fun _ => ?_) (fun _ => ?_)
            · refine pb_aload_n 63 dX5_clauseFor_62 rfl rfl rfl ?_
              refine pb_iload_n 64 dX5_clauseFor_63 rfl rfl rfl ?_
              refine cl_X5_kindOf 67 hv0 ⟨by decide, by decide, by decide, by decide⟩ (Nat.le_of_ble_eq_true rfl) ml_X5_64 dX5_clauseFor_64 rfl (fun b64 μ64 => ?_)
              refine pb_iconst 68 (v := 3) dX5_clauseFor_67 rfl (by decide) ?_
              refine pb_icmp_ne 71 (tgt := 76) dX5_clauseFor_68 (by decide) rfl (fun _ => ?_) (fun _ => ?_)
              · refine pb_bipush 73 (v := 6) dX5_clauseFor_71 rfl (by decide) ?_
                refine pb_goto (tgt := 77) dX5_clauseFor_73 (by decide) ?_
                exact pb_iret dX5_clauseFor_77
              · refine pb_iconst 77 (v := 0) dX5_clauseFor_76 rfl (by decide) ?_
                exact pb_iret dX5_clauseFor_77
            · refine pb_iconst 61 (v := 5) dX5_clauseFor_60 rfl (by decide) ?_
              exact pb_iret dX5_clauseFor_61
          · refine pb_aload_n 63 dX5_clauseFor_62 rfl rfl rfl ?_
            refine pb_iload_n 64 dX5_clauseFor_63 rfl rfl rfl ?_
            refine cl_X5_kindOf 67 hv0 ⟨by decide, by decide, by decide, by decide⟩ (Nat.le_of_ble_eq_true rfl) ml_X5_64 dX5_clauseFor_64 rfl (fun b64 μ64 => ?_)
            refine pb_iconst 68 (v := 3) dX5_clauseFor_67 rfl (by decide) ?_
            refine pb_icmp_ne 71 (tgt := 76) dX5_clauseFor_68 (by decide) rfl (fun _ => ?_) (fun _ => ?_)
            · refine pb_bipush 73 (v := 6) dX5_clauseFor_71 rfl (by decide) ?_
              refine pb_goto (tgt := 77) dX5_clauseFor_73 (by decide) ?_
              exact pb_iret dX5_clauseFor_77
            · refine pb_iconst 77 (v := 0) dX5_clauseFor_76 rfl (by decide) ?_
              exact pb_iret dX5_clauseFor_77
      · refine pb_iconst 32 (v := 3) dX5_clauseFor_31 rfl (by decide) ?_
        exact pb_iret dX5_clauseFor_32
    · refine pb_iconst 22 (v := 2) dX5_clauseFor_21 rfl (by decide) ?_
      exact pb_iret dX5_clauseFor_22
theorem mc_X5_clauseFor : pb_MC yX5_clauseFor cX5_clauseFor 4 (some .int) 2 := ⟨pb_inW 407 (by decide +kernel) (by decide +kernel), pb_inW 63 (by decide +kernel) (by decide +kernel), by decide +kernel, by decide +kernel, by decide +kernel⟩
theorem mi_X5_clauseFor : Cond.instanceMethod yX5_clauseFor ∈ pb_gw := pb_inW 405 (by decide +kernel) (by decide +kernel)
theorem ms_X5_clauseFor : Cond.selects (yX5_clauseFor).cls yX5_clauseFor yX5_clauseFor ∈ pb_gw := pb_inW 406 (by decide +kernel) (by decide +kernel)
theorem cl_X5_clauseFor {α : Type} {l : Launch} {E : pb_E} {R : Room} {own : String} {cc : ByteArray} {mL : Nat} {ret : Option FieldType} {Xs : State → Prop} {nc ns : Nat} {Qf : State → Array Value → List Frame → α → pb_M → State → Prop} {pc : Nat} {L : List (Option Value)} {S : List Value} {μ : pb_M} {f : Int32 → pb_M → Option (α × pb_M)} {h0 : Nat} {v1 : Int32} {v2 : Int32} {index : Nat} (q : Nat) (hv0 : pb_V h0) (hR : 2 + 1 ≤ R.frames ∧ 8 + (4 + 11) + 42 ≤ R.locals ∧ nc ≤ R.cells ∧ ns ≤ R.slots) (hW : (S.map fun v => v.category).sum ≤ 8) (hl1 : Cond.methodLink own index yX5_clauseFor ∈ pb_gw) (hdg : decode cc pc = .ok (.invokevirtual index, 3)) (hq : pc + 3 = q) (k : ∀ b1 μ1, pb_RW l E R own cc mL ret Xs nc ns Qf q L (.int b1 :: S) μ1 (f b1 μ1)) : pb_RW l E R own cc mL ret Xs nc ns Qf pc L (.int v2 :: .int v1 :: .ref (E.2.1 h0) :: S) μ (pb_b (pX5_clauseFor h0 v1 v2 μ) f) := pb_callV q (fun z : Int32 => some (.int z)) mc_X5_clauseFor mi_X5_clauseFor ms_X5_clauseFor (fun b1 μ1 h => evX5_clauseFor l E h0 v1 v2 hv0 μ b1 μ1 h) hv0.1 (by decide) rfl rfl rfl rfl hR rfl hW hl1 hdg hq k
def pX5_beasts (h0 : Nat) (μ : pb_M) : Option (Int32 × pb_M) :=
  some ((μ.1 (h0 + 1) 1), μ)
abbrev wX5_beasts (l : Launch) (E : pb_E) := pb_RW l E { frames := 0, cells := 0, slots := 0, locals := 0 } RX5 cX5_beasts 1 (some .int) (fun _ => True) 0 0 (pb_Qf E (fun z : Int32 => some (.int z)))
set_option maxRecDepth 100000 in
set_option maxHeartbeats 4000000 in
theorem evX5_beasts (l : Launch) (E : pb_E) (h0 : Nat) (hv0 : pb_V h0) (μ : pb_M) : ∀ b μ', pX5_beasts h0 μ = some (b, μ') → pb_Ev l E yX5_beasts cX5_beasts 1 (some .int) { frames := 0, cells := 0, slots := 0, locals := 0 } [.ref (E.2.1 h0)] μ ((fun z : Int32 => some (.int z)) b) μ' := by
  refine pb_enter (L := [some (.ref (E.2.1 h0))]) (by decide +kernel) (Nat.le_of_ble_eq_true rfl) (pb_same [none] rfl) (show wX5_beasts l E 0 [some (.ref (E.2.1 h0))] [] μ (pX5_beasts h0 μ) from ?_)
  unfold pX5_beasts
  refine pb_aload_n 1 dX5_beasts_0 rfl rfl rfl ?_
  refine pb_getR 4 (j := 0) (d := (h0 + 1)) in_X5 rfl (by decide) hv0.1 rfl (by decide) fl_X5_11 dX5_beasts_1 rfl ?_
  refine pb_iconst 5 (v := 1) dX5_beasts_4 rfl (by decide) ?_
  refine pb_iald 6 (j := 1) hv0.2 (by decide) (by decide) dX5_beasts_5 rfl ?_
  exact pb_iret dX5_beasts_6
theorem mc_X5_beasts : pb_MC yX5_beasts cX5_beasts 1 (some .int) 0 := ⟨pb_inW 261 (by decide +kernel) (by decide +kernel), pb_inW 63 (by decide +kernel) (by decide +kernel), by decide +kernel, by decide +kernel, by decide +kernel⟩
theorem mi_X5_beasts : Cond.instanceMethod yX5_beasts ∈ pb_gw := pb_inW 259 (by decide +kernel) (by decide +kernel)
theorem ms_X5_beasts : Cond.selects (yX5_beasts).cls yX5_beasts yX5_beasts ∈ pb_gw := pb_inW 260 (by decide +kernel) (by decide +kernel)
theorem cl_X5_beasts {α : Type} {l : Launch} {E : pb_E} {R : Room} {own : String} {cc : ByteArray} {mL : Nat} {ret : Option FieldType} {Xs : State → Prop} {nc ns : Nat} {Qf : State → Array Value → List Frame → α → pb_M → State → Prop} {pc : Nat} {L : List (Option Value)} {S : List Value} {μ : pb_M} {f : Int32 → pb_M → Option (α × pb_M)} {h0 : Nat} {index : Nat} (q : Nat) (hv0 : pb_V h0) (hR : 0 + 1 ≤ R.frames ∧ 8 + (1 + 11) + 0 ≤ R.locals ∧ nc ≤ R.cells ∧ ns ≤ R.slots) (hW : (S.map fun v => v.category).sum ≤ 8) (hl1 : Cond.methodLink own index yX5_beasts ∈ pb_gw) (hdg : decode cc pc = .ok (.invokevirtual index, 3)) (hq : pc + 3 = q) (k : ∀ b1 μ1, pb_RW l E R own cc mL ret Xs nc ns Qf q L (.int b1 :: S) μ1 (f b1 μ1)) : pb_RW l E R own cc mL ret Xs nc ns Qf pc L (.ref (E.2.1 h0) :: S) μ (pb_b (pX5_beasts h0 μ) f) := pb_callV q (fun z : Int32 => some (.int z)) mc_X5_beasts mi_X5_beasts ms_X5_beasts (fun b1 μ1 h => evX5_beasts l E h0 hv0 μ b1 μ1 h) hv0.1 (by decide) rfl rfl rfl rfl hR rfl hW hl1 hdg hq k
theorem ml_X5_31 : Cond.methodLink RX5 31 yX5_beasts ∈ pb_gw := pb_inW 303 (by decide +kernel) (by decide +kernel)
def pX5_beastsOf_L4 (h0 : Nat) (v1 : Int32) : Nat → Int32 → Int32 → pb_M → Option (Int32 × pb_M)
  | 0, _, _, _ => none
  | n + 1, v2, v3, μ =>
    pb_b (pX5_beasts h0 μ) (fun b6 μ6 =>
    if b6 ≤ v3 then
      some (v2, μ6)
    else
    pb_b (pX5_ownerOf h0 v3 μ6) (fun b15 μ15 =>
    if b15 = v1 then
      pX5_beastsOf_L4 h0 v1 n (v2 ||| ((1 : Int32) <<< (v3 &&& 31))) (v3 + (1 : Int32)) μ15
    else
    pX5_beastsOf_L4 h0 v1 n (v2 ||| (0 : Int32)) (v3 + (1 : Int32)) μ15))
def pX5_beastsOf (h0 : Nat) (v1 : Int32) (μ : pb_M) : Option (Int32 × pb_M) :=
  pX5_beastsOf_L4 h0 v1 pb_F (0 : Int32) (0 : Int32) μ
abbrev wX5_beastsOf (l : Launch) (E : pb_E) := pb_RW l E { frames := 1, cells := 0, slots := 0, locals := 21 } RX5 cX5_beastsOf 4 (some .int) (fun _ => True) 0 0 (pb_Qf E (fun z : Int32 => some (.int z)))
set_option maxRecDepth 100000 in
set_option maxHeartbeats 4000000 in
theorem tX5_beastsOf_L4 (l : Launch) (E : pb_E) (h0 : Nat) (hv0 : pb_V h0) (v1 : Int32)   : ∀ (n : Nat) (v2 : Int32) (v3 : Int32) (μ : pb_M), wX5_beastsOf l E 4 [some (.ref (E.2.1 h0)), some (.int v1), some (.int v2), some (.int v3)] [] μ (pX5_beastsOf_L4 h0 v1 n v2 v3 μ) := by
  intro n
  induction n with
  | zero => intro v2 v3 μ; exact pb_none
  | succ n ih =>
    intro v2 v3 μ
    rw [pX5_beastsOf_L4]
    refine pb_iload_n 5 dX5_beastsOf_4 rfl rfl rfl ?_
    refine pb_aload_n 6 dX5_beastsOf_5 rfl rfl rfl ?_
    refine cl_X5_beasts 9 hv0 ⟨by decide, by decide, by decide, by decide⟩ (Nat.le_of_ble_eq_true rfl) ml_X5_31 dX5_beastsOf_6 rfl (fun b6 μ6 => ?_)
    refine pb_icmp_ge 12 (tgt := 37) dX5_beastsOf_9 (by decide) rfl (fun _ => ?_) (fun _ => ?_)
    · refine pb_iload_n 38 dX5_beastsOf_37 rfl rfl rfl ?_
      exact pb_iret dX5_beastsOf_38
    · refine pb_iload_n 13 dX5_beastsOf_12 rfl rfl rfl ?_
      refine pb_aload_n 14 dX5_beastsOf_13 rfl rfl rfl ?_
      refine pb_iload_n 15 dX5_beastsOf_14 rfl rfl rfl ?_
      refine cl_X5_ownerOf 18 hv0 ⟨by decide, by decide, by decide, by decide⟩ (Nat.le_of_ble_eq_true rfl) ml_X5_48 dX5_beastsOf_15 rfl (fun b15 μ15 => ?_)
      refine pb_iload_n 19 dX5_beastsOf_18 rfl rfl rfl ?_
      refine pb_icmp_ne 22 (tgt := 28) dX5_beastsOf_19 (by decide) rfl (fun _ => ?_) (fun _ => ?_)
      · refine pb_iconst 23 (v := 1) dX5_beastsOf_22 rfl (by decide) ?_
        refine pb_iload_n 24 dX5_beastsOf_23 rfl rfl rfl ?_
        refine pb_ishl 25 dX5_beastsOf_24 rfl ?_
        refine pb_goto (tgt := 29) dX5_beastsOf_25 (by decide) ?_
        refine pb_ior 30 dX5_beastsOf_29 rfl ?_
        refine pb_istore_n 31 (i := 2) (L' := [some (.ref (E.2.1 h0)), some (.int v1), some (.int (v2 ||| ((1 : Int32) <<< (v3 &&& 31)))), some (.int v3)]) dX5_beastsOf_30 rfl (by decide) rfl rfl rfl ?_
        refine pb_iinc 34 (i := 3) (v := (v3 + (1 : Int32))) (L' := [some (.ref (E.2.1 h0)), some (.int v1), some (.int (v2 ||| ((1 : Int32) <<< (v3 &&& 31)))), some (.int (v3 + (1 : Int32)))]) dX5_beastsOf_31 rfl rfl (by decide) rfl rfl rfl ?_
        refine pb_goto (tgt := 4) dX5_beastsOf_34 (by decide) ?_
        exact ih (v2 ||| ((1 : Int32) <<< (v3 &&& 31))) (v3 + (1 : Int32)) μ15
      · refine pb_iconst 29 (v := 0) dX5_beastsOf_28 rfl (by decide) ?_
        refine pb_ior 30 dX5_beastsOf_29 rfl ?_
        refine pb_istore_n 31 (i := 2) (L' := [some (.ref (E.2.1 h0)), some (.int v1), some (.int (v2 ||| (0 : Int32))), some (.int v3)]) dX5_beastsOf_30 rfl (by decide) rfl rfl rfl ?_
        refine pb_iinc 34 (i := 3) (v := (v3 + (1 : Int32))) (L' := [some (.ref (E.2.1 h0)), some (.int v1), some (.int (v2 ||| (0 : Int32))), some (.int (v3 + (1 : Int32)))]) dX5_beastsOf_31 rfl rfl (by decide) rfl rfl rfl ?_
        refine pb_goto (tgt := 4) dX5_beastsOf_34 (by decide) ?_
        exact ih (v2 ||| (0 : Int32)) (v3 + (1 : Int32)) μ15
set_option maxRecDepth 100000 in
set_option maxHeartbeats 4000000 in
theorem evX5_beastsOf (l : Launch) (E : pb_E) (h0 : Nat) (v1 : Int32) (hv0 : pb_V h0) (μ : pb_M) : ∀ b μ', pX5_beastsOf h0 v1 μ = some (b, μ') → pb_Ev l E yX5_beastsOf cX5_beastsOf 4 (some .int) { frames := 1, cells := 0, slots := 0, locals := 21 } [.ref (E.2.1 h0), .int v1] μ ((fun z : Int32 => some (.int z)) b) μ' := by
  refine pb_enter (L := [some (.ref (E.2.1 h0)), some (.int v1), none, none]) (by decide +kernel) (Nat.le_of_ble_eq_true rfl) (pb_same [none, none, none, none] rfl) (show wX5_beastsOf l E 0 [some (.ref (E.2.1 h0)), some (.int v1), none, none] [] μ (pX5_beastsOf h0 v1 μ) from ?_)
  unfold pX5_beastsOf
  refine pb_iconst 1 (v := 0) dX5_beastsOf_0 rfl (by decide) ?_
  refine pb_istore_n 2 (i := 2) (L' := [some (.ref (E.2.1 h0)), some (.int v1), some (.int (0 : Int32)), none]) dX5_beastsOf_1 rfl (by decide) rfl rfl rfl ?_
  refine pb_iconst 3 (v := 0) dX5_beastsOf_2 rfl (by decide) ?_
  refine pb_istore_n 4 (i := 3) (L' := [some (.ref (E.2.1 h0)), some (.int v1), some (.int (0 : Int32)), some (.int (0 : Int32))]) dX5_beastsOf_3 rfl (by decide) rfl rfl rfl ?_
  exact tX5_beastsOf_L4 l E h0 hv0 v1 pb_F (0 : Int32) (0 : Int32) μ
theorem mc_X5_beastsOf : pb_MC yX5_beastsOf cX5_beastsOf 4 (some .int) 1 := ⟨pb_inW 352 (by decide +kernel) (by decide +kernel), pb_inW 63 (by decide +kernel) (by decide +kernel), by decide +kernel, by decide +kernel, by decide +kernel⟩
theorem mi_X5_beastsOf : Cond.instanceMethod yX5_beastsOf ∈ pb_gw := pb_inW 350 (by decide +kernel) (by decide +kernel)
theorem ms_X5_beastsOf : Cond.selects (yX5_beastsOf).cls yX5_beastsOf yX5_beastsOf ∈ pb_gw := pb_inW 351 (by decide +kernel) (by decide +kernel)
theorem cl_X5_beastsOf {α : Type} {l : Launch} {E : pb_E} {R : Room} {own : String} {cc : ByteArray} {mL : Nat} {ret : Option FieldType} {Xs : State → Prop} {nc ns : Nat} {Qf : State → Array Value → List Frame → α → pb_M → State → Prop} {pc : Nat} {L : List (Option Value)} {S : List Value} {μ : pb_M} {f : Int32 → pb_M → Option (α × pb_M)} {h0 : Nat} {v1 : Int32} {index : Nat} (q : Nat) (hv0 : pb_V h0) (hR : 1 + 1 ≤ R.frames ∧ 8 + (4 + 11) + 21 ≤ R.locals ∧ nc ≤ R.cells ∧ ns ≤ R.slots) (hW : (S.map fun v => v.category).sum ≤ 8) (hl1 : Cond.methodLink own index yX5_beastsOf ∈ pb_gw) (hdg : decode cc pc = .ok (.invokevirtual index, 3)) (hq : pc + 3 = q) (k : ∀ b1 μ1, pb_RW l E R own cc mL ret Xs nc ns Qf q L (.int b1 :: S) μ1 (f b1 μ1)) : pb_RW l E R own cc mL ret Xs nc ns Qf pc L (.int v1 :: .ref (E.2.1 h0) :: S) μ (pb_b (pX5_beastsOf h0 v1 μ) f) := pb_callV q (fun z : Int32 => some (.int z)) mc_X5_beastsOf mi_X5_beastsOf ms_X5_beastsOf (fun b1 μ1 h => evX5_beastsOf l E h0 v1 hv0 μ b1 μ1 h) hv0.1 (by decide) rfl rfl rfl rfl hR rfl hW hl1 hdg hq k
