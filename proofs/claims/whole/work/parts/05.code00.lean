theorem fl_X0_17 : Cond.fieldLink RX0 17 (TX0 1).1 (TX0 1).2.1 (TX0 1).2.2.1 ∈ pb_gw := pb_inW 115 (by decide +kernel) (by decide +kernel)
def pX0_size  (μ : pb_M) : Option (Int32 × pb_M) :=
  some ((μ.1 8 1), μ)
abbrev wX0_size (l : Launch) (E : pb_E) := pb_RW l E { frames := 0, cells := 0, slots := 0, locals := 0 } RX0 cX0_size 1 (some .int) (fun _ => True) 0 0 (pb_Qf E (fun z : Int32 => some (.int z)))
set_option maxRecDepth 100000 in
set_option maxHeartbeats 4000000 in
theorem evX0_size (l : Launch) (E : pb_E)   (μ : pb_M) : ∀ b μ', pX0_size  μ = some (b, μ') → pb_Ev l E yX0_size cX0_size 1 (some .int) { frames := 0, cells := 0, slots := 0, locals := 0 } [.ref (E.2.1 8)] μ ((fun z : Int32 => some (.int z)) b) μ' := by
  refine pb_enter (L := [some (.ref (E.2.1 8))]) (by decide +kernel) (Nat.le_of_ble_eq_true rfl) (pb_same [none] rfl) (show wX0_size l E 0 [some (.ref (E.2.1 8))] [] μ (pX0_size  μ) from ?_)
  unfold pX0_size
  refine pb_aload_n 1 dX0_size_0 rfl rfl rfl ?_
  refine pb_getI 4 (j := 1) in_X0 rfl (by decide) rfl rfl (by decide) fl_X0_17 dX0_size_1 rfl ?_
  exact pb_iret dX0_size_4
theorem mc_X0_size : pb_MC yX0_size cX0_size 1 (some .int) 0 := ⟨pb_inW 524 (by decide +kernel) (by decide +kernel), pb_inW 64 (by decide +kernel) (by decide +kernel), by decide +kernel, by decide +kernel, by decide +kernel⟩
theorem mi_X0_size : Cond.instanceMethod yX0_size ∈ pb_gw := pb_inW 522 (by decide +kernel) (by decide +kernel)
theorem ms_X0_size : Cond.selects (yX0_size).cls yX0_size yX0_size ∈ pb_gw := pb_inW 523 (by decide +kernel) (by decide +kernel)
theorem cl_X0_size {α : Type} {l : Launch} {E : pb_E} {R : Room} {own : String} {cc : ByteArray} {mL : Nat} {ret : Option FieldType} {Xs : State → Prop} {nc ns : Nat} {Qf : State → Array Value → List Frame → α → pb_M → State → Prop} {pc : Nat} {L : List (Option Value)} {S : List Value} {μ : pb_M} {f : Int32 → pb_M → Option (α × pb_M)}  {index : Nat} (q : Nat)  (hR : 0 + 1 ≤ R.frames ∧ 8 + (1 + 11) + 0 ≤ R.locals ∧ nc ≤ R.cells ∧ ns ≤ R.slots) (hW : (S.map fun v => v.category).sum ≤ 8) (hl1 : Cond.methodLink own index yX0_size ∈ pb_gw) (hdg : decode cc pc = .ok (.invokevirtual index, 3)) (hq : pc + 3 = q) (k : ∀ b1 μ1, pb_RW l E R own cc mL ret Xs nc ns Qf q L (.int b1 :: S) μ1 (f b1 μ1)) : pb_RW l E R own cc mL ret Xs nc ns Qf pc L (.ref (E.2.1 8) :: S) μ (pb_b (pX0_size  μ) f) := pb_callV q (fun z : Int32 => some (.int z)) mc_X0_size mi_X0_size ms_X0_size (fun b1 μ1 h => evX0_size l E   μ b1 μ1 h) rfl (by decide) rfl rfl rfl rfl hR rfl hW hl1 hdg hq k
theorem fl_X0_21 : Cond.fieldLink RX0 21 (TX0 2).1 (TX0 2).2.1 (TX0 2).2.2.1 ∈ pb_gw := pb_inW 116 (by decide +kernel) (by decide +kernel)
def pX0_clear  (μ : pb_M) : Option (Unit × pb_M) :=
  some ((), (pb_sA (pb_sA μ 8 (upd (μ.1 8) 1 (0 : Int32))) 8 (upd ((pb_sA μ 8 (upd (μ.1 8) 1 (0 : Int32))).1 8) 2 (0 : Int32))))
abbrev wX0_clear (l : Launch) (E : pb_E) := pb_RW l E { frames := 0, cells := 0, slots := 0, locals := 0 } RX0 cX0_clear 1 none (fun _ => True) 0 0 (pb_Qf E (fun _ : Unit => none))
set_option maxRecDepth 100000 in
set_option maxHeartbeats 4000000 in
theorem evX0_clear (l : Launch) (E : pb_E)   (μ : pb_M) : ∀ b μ', pX0_clear  μ = some (b, μ') → pb_Ev l E yX0_clear cX0_clear 1 none { frames := 0, cells := 0, slots := 0, locals := 0 } [.ref (E.2.1 8)] μ ((fun _ : Unit => none) b) μ' := by
  refine pb_enter (L := [some (.ref (E.2.1 8))]) (by decide +kernel) (Nat.le_of_ble_eq_true rfl) (pb_same [none] rfl) (show wX0_clear l E 0 [some (.ref (E.2.1 8))] [] μ (pX0_clear  μ) from ?_)
  unfold pX0_clear
  refine pb_aload_n 1 dX0_clear_0 rfl rfl rfl ?_
  refine pb_iconst 2 (v := 0) dX0_clear_1 rfl (by decide) ?_
  refine pb_putI 5 (j := 1) tyX0 tyX0_ok nmX0 in_X0 rfl (by decide) rfl rfl (by decide) fl_X0_17 rfl (by decide +kernel) dX0_clear_2 rfl ?_
  refine pb_aload_n 6 dX0_clear_5 rfl rfl rfl ?_
  refine pb_iconst 7 (v := 0) dX0_clear_6 rfl (by decide) ?_
  refine pb_putI 10 (j := 2) tyX0 tyX0_ok nmX0 in_X0 rfl (by decide) rfl rfl (by decide) fl_X0_21 rfl (by decide +kernel) dX0_clear_7 rfl ?_
  exact pb_vret dX0_clear_10
theorem mc_X0_clear : pb_MC yX0_clear cX0_clear 1 none 0 := ⟨pb_inW 333 (by decide +kernel) (by decide +kernel), pb_inW 64 (by decide +kernel) (by decide +kernel), by decide +kernel, by decide +kernel, by decide +kernel⟩
theorem mi_X0_clear : Cond.instanceMethod yX0_clear ∈ pb_gw := pb_inW 331 (by decide +kernel) (by decide +kernel)
theorem ms_X0_clear : Cond.selects (yX0_clear).cls yX0_clear yX0_clear ∈ pb_gw := pb_inW 332 (by decide +kernel) (by decide +kernel)
theorem cl_X0_clear {α : Type} {l : Launch} {E : pb_E} {R : Room} {own : String} {cc : ByteArray} {mL : Nat} {ret : Option FieldType} {Xs : State → Prop} {nc ns : Nat} {Qf : State → Array Value → List Frame → α → pb_M → State → Prop} {pc : Nat} {L : List (Option Value)} {S : List Value} {μ : pb_M} {f : Unit → pb_M → Option (α × pb_M)}  {index : Nat} (q : Nat)  (hR : 0 + 1 ≤ R.frames ∧ 8 + (1 + 11) + 0 ≤ R.locals ∧ nc ≤ R.cells ∧ ns ≤ R.slots) (hW : (S.map fun v => v.category).sum ≤ 8) (hl1 : Cond.methodLink own index yX0_clear ∈ pb_gw) (hdg : decode cc pc = .ok (.invokevirtual index, 3)) (hq : pc + 3 = q) (k : ∀ b1 μ1, pb_RW l E R own cc mL ret Xs nc ns Qf q L S μ1 (f b1 μ1)) : pb_RW l E R own cc mL ret Xs nc ns Qf pc L (.ref (E.2.1 8) :: S) μ (pb_b (pX0_clear  μ) f) := pb_callV q (fun _ : Unit => none) mc_X0_clear mi_X0_clear ms_X0_clear (fun b1 μ1 h => evX0_clear l E   μ b1 μ1 h) rfl (by decide) rfl rfl rfl rfl hR rfl hW hl1 hdg hq k
theorem fl_X5_11 : Cond.fieldLink RX5 11 (TX5 0).1 (TX5 0).2.1 (TX5 0).2.2.1 ∈ pb_gw := pb_inW 104 (by decide +kernel) (by decide +kernel)
theorem ml_X5_21 : Cond.methodLink RX5 21 arraycopyName ∈ pb_gw := pb_inW 327 (by decide +kernel) (by decide +kernel)
def pX5_store (h0 : Nat) (h1 : Nat) (v2 : Int32) (μ : pb_M) : Option (Unit × pb_M) :=
  if pb_cp (0 : Int32) (v2 * (52 : Int32)) (52 : Int32) 52 (pb_ln h1) then
    some ((), (pb_sA μ h1 (va_cpy (μ.1 (h0 + 1)) (μ.1 h1) ((0 : Int32)).toNatClampNeg ((v2 * (52 : Int32))).toNatClampNeg ((52 : Int32)).toNatClampNeg)))
  else none
abbrev wX5_store (l : Launch) (E : pb_E) := pb_RW l E { frames := 1, cells := 0, slots := 0, locals := 18 } RX5 cX5_store 3 none (fun _ => True) 0 0 (pb_Qf E (fun _ : Unit => none))
set_option maxRecDepth 100000 in
set_option maxHeartbeats 4000000 in
theorem evX5_store (l : Launch) (E : pb_E) (h0 : Nat) (h1 : Nat) (v2 : Int32) (hv0 : pb_V h0) (hv1 : pb_R h1) (μ : pb_M) : ∀ b μ', pX5_store h0 h1 v2 μ = some (b, μ') → pb_Ev l E yX5_store cX5_store 3 none { frames := 1, cells := 0, slots := 0, locals := 18 } [.ref (E.2.1 h0), .ref (E.2.1 h1), .int v2] μ ((fun _ : Unit => none) b) μ' := by
  refine pb_enter (L := [some (.ref (E.2.1 h0)), some (.ref (E.2.1 h1)), some (.int v2)]) (by decide +kernel) (Nat.le_of_ble_eq_true rfl) (pb_same [none, none, none] rfl) (show wX5_store l E 0 [some (.ref (E.2.1 h0)), some (.ref (E.2.1 h1)), some (.int v2)] [] μ (pX5_store h0 h1 v2 μ) from ?_)
  unfold pX5_store
  refine pb_aload_n 1 dX5_store_0 rfl rfl rfl ?_
  refine pb_getR 4 (j := 0) (d := (h0 + 1)) in_X5 rfl (by decide) hv0.1 rfl (by decide) fl_X5_11 dX5_store_1 rfl ?_
  refine pb_iconst 5 (v := 0) dX5_store_4 rfl (by decide) ?_
  refine pb_aload_n 6 dX5_store_5 rfl rfl rfl ?_
  refine pb_iload_n 7 dX5_store_6 rfl rfl rfl ?_
  refine pb_bipush 9 (v := 52) dX5_store_7 rfl (by decide) ?_
  refine pb_imul 10 dX5_store_9 rfl ?_
  refine pb_bipush 12 (v := 52) dX5_store_10 rfl (by decide) ?_
  refine pb_guard (fun hcp => pb_copy 15 ml_X5_21 km_c2 km_c3 km_c4 hv0.2 hv1 hcp ⟨by decide, Nat.le_of_ble_eq_true rfl⟩ dX5_store_12 rfl ?_)
  exact pb_vret dX5_store_15
theorem mc_X5_store : pb_MC yX5_store cX5_store 3 none 2 := ⟨pb_inW 433 (by decide +kernel) (by decide +kernel), pb_inW 63 (by decide +kernel) (by decide +kernel), by decide +kernel, by decide +kernel, by decide +kernel⟩
theorem mi_X5_store : Cond.instanceMethod yX5_store ∈ pb_gw := pb_inW 431 (by decide +kernel) (by decide +kernel)
theorem ms_X5_store : Cond.selects (yX5_store).cls yX5_store yX5_store ∈ pb_gw := pb_inW 432 (by decide +kernel) (by decide +kernel)
theorem cl_X5_store {α : Type} {l : Launch} {E : pb_E} {R : Room} {own : String} {cc : ByteArray} {mL : Nat} {ret : Option FieldType} {Xs : State → Prop} {nc ns : Nat} {Qf : State → Array Value → List Frame → α → pb_M → State → Prop} {pc : Nat} {L : List (Option Value)} {S : List Value} {μ : pb_M} {f : Unit → pb_M → Option (α × pb_M)} {h0 : Nat} {h1 : Nat} {v2 : Int32} {index : Nat} (q : Nat) (hv0 : pb_V h0) (hv1 : pb_R h1) (hR : 1 + 1 ≤ R.frames ∧ 8 + (3 + 11) + 18 ≤ R.locals ∧ nc ≤ R.cells ∧ ns ≤ R.slots) (hW : (S.map fun v => v.category).sum ≤ 8) (hl1 : Cond.methodLink own index yX5_store ∈ pb_gw) (hdg : decode cc pc = .ok (.invokevirtual index, 3)) (hq : pc + 3 = q) (k : ∀ b1 μ1, pb_RW l E R own cc mL ret Xs nc ns Qf q L S μ1 (f b1 μ1)) : pb_RW l E R own cc mL ret Xs nc ns Qf pc L (.int v2 :: .ref (E.2.1 h1) :: .ref (E.2.1 h0) :: S) μ (pb_b (pX5_store h0 h1 v2 μ) f) := pb_callV q (fun _ : Unit => none) mc_X5_store mi_X5_store ms_X5_store (fun b1 μ1 h => evX5_store l E h0 h1 v2 hv0 hv1 μ b1 μ1 h) hv0.1 (by decide) rfl rfl rfl rfl hR rfl hW hl1 hdg hq k
theorem fl_X0_11 : Cond.fieldLink RX0 11 (TX0 0).1 (TX0 0).2.1 (TX0 0).2.2.1 ∈ pb_gw := pb_inW 114 (by decide +kernel) (by decide +kernel)
theorem ml_X0_24 : Cond.methodLink RX0 24 yX5_store ∈ pb_gw := pb_inW 430 (by decide +kernel) (by decide +kernel)
theorem ml_X0_28 : Cond.methodLink RX0 28 Lib.Math.min.name ∈ pb_gw := pb_inW 434 (by decide +kernel) (by decide +kernel)
def pX0_remember (h1 : Nat) (μ : pb_M) : Option (Unit × pb_M) :=
  pb_b (pX5_store h1 9 (μ.1 8 2) μ) (fun b9 μ9 =>
  some ((), (pb_sA (pb_sA μ9 8 (upd (μ9.1 8) 2 (pb_rem ((μ9.1 8 2) + (1 : Int32)) (14 : Int32)))) 8 (upd ((pb_sA μ9 8 (upd (μ9.1 8) 2 (pb_rem ((μ9.1 8 2) + (1 : Int32)) (14 : Int32)))).1 8) 1 (if (((pb_sA μ9 8 (upd (μ9.1 8) 2 (pb_rem ((μ9.1 8 2) + (1 : Int32)) (14 : Int32)))).1 8 1) + (1 : Int32)) < (14 : Int32) then (((pb_sA μ9 8 (upd (μ9.1 8) 2 (pb_rem ((μ9.1 8 2) + (1 : Int32)) (14 : Int32)))).1 8 1) + (1 : Int32)) else (14 : Int32))))))
abbrev wX0_remember (l : Launch) (E : pb_E) := pb_RW l E { frames := 2, cells := 0, slots := 0, locals := 40 } RX0 cX0_remember 2 none (fun _ => True) 0 0 (pb_Qf E (fun _ : Unit => none))
set_option maxRecDepth 100000 in
set_option maxHeartbeats 4000000 in
theorem evX0_remember (l : Launch) (E : pb_E) (h1 : Nat) (hv1 : pb_V h1) (μ : pb_M) : ∀ b μ', pX0_remember h1 μ = some (b, μ') → pb_Ev l E yX0_remember cX0_remember 2 none { frames := 2, cells := 0, slots := 0, locals := 40 } [.ref (E.2.1 8), .ref (E.2.1 h1)] μ ((fun _ : Unit => none) b) μ' := by
  refine pb_enter (L := [some (.ref (E.2.1 8)), some (.ref (E.2.1 h1))]) (by decide +kernel) (Nat.le_of_ble_eq_true rfl) (pb_same [none, none] rfl) (show wX0_remember l E 0 [some (.ref (E.2.1 8)), some (.ref (E.2.1 h1))] [] μ (pX0_remember h1 μ) from ?_)
  unfold pX0_remember
  refine pb_aload_n 1 dX0_remember_0 rfl rfl rfl ?_
  refine pb_aload_n 2 dX0_remember_1 rfl rfl rfl ?_
  refine pb_getR 5 (j := 0) (d := 9) in_X0 rfl (by decide) rfl rfl (by decide) fl_X0_11 dX0_remember_2 rfl ?_
  refine pb_aload_n 6 dX0_remember_5 rfl rfl rfl ?_
  refine pb_getI 9 (j := 2) in_X0 rfl (by decide) rfl rfl (by decide) fl_X0_21 dX0_remember_6 rfl ?_
  refine cl_X5_store 12 hv1 pb_R9 ⟨by decide, by decide, by decide, by decide⟩ (Nat.le_of_ble_eq_true rfl) ml_X0_24 dX0_remember_9 rfl (fun b9 μ9 => ?_)
  refine pb_aload_n 13 dX0_remember_12 rfl rfl rfl ?_
  refine pb_aload_n 14 dX0_remember_13 rfl rfl rfl ?_
  refine pb_getI 17 (j := 2) in_X0 rfl (by decide) rfl rfl (by decide) fl_X0_21 dX0_remember_14 rfl ?_
  refine pb_iconst 18 (v := 1) dX0_remember_17 rfl (by decide) ?_
  refine pb_iadd 19 dX0_remember_18 rfl ?_
  refine pb_bipush 21 (v := 14) dX0_remember_19 rfl (by decide) ?_
  refine pb_irem 22 dX0_remember_21 rfl (by decide) ?_
  refine pb_putI 25 (j := 2) tyX0 tyX0_ok nmX0 in_X0 rfl (by decide) rfl rfl (by decide) fl_X0_21 rfl (by decide +kernel) dX0_remember_22 rfl ?_
  refine pb_aload_n 26 dX0_remember_25 rfl rfl rfl ?_
  refine pb_bipush 28 (v := 14) dX0_remember_26 rfl (by decide) ?_
  refine pb_aload_n 29 dX0_remember_28 rfl rfl rfl ?_
  refine pb_getI 32 (j := 1) in_X0 rfl (by decide) rfl rfl (by decide) fl_X0_17 dX0_remember_29 rfl ?_
  refine pb_iconst 33 (v := 1) dX0_remember_32 rfl (by decide) ?_
  refine pb_iadd 34 dX0_remember_33 rfl ?_
  refine pb_min 37 ml_X0_28 km_min1 km_2 km_min3 ⟨by decide, Nat.le_of_ble_eq_true rfl, by decide, by decide⟩ dX0_remember_34 rfl ?_
  refine pb_putI 40 (j := 1) tyX0 tyX0_ok nmX0 in_X0 rfl (by decide) rfl rfl (by decide) fl_X0_17 rfl (by decide +kernel) dX0_remember_37 rfl ?_
  exact pb_vret dX0_remember_40
theorem mc_X0_remember : pb_MC yX0_remember cX0_remember 2 none 1 := ⟨pb_inW 429 (by decide +kernel) (by decide +kernel), pb_inW 64 (by decide +kernel) (by decide +kernel), by decide +kernel, by decide +kernel, by decide +kernel⟩
theorem mi_X0_remember : Cond.instanceMethod yX0_remember ∈ pb_gw := pb_inW 427 (by decide +kernel) (by decide +kernel)
theorem ms_X0_remember : Cond.selects (yX0_remember).cls yX0_remember yX0_remember ∈ pb_gw := pb_inW 428 (by decide +kernel) (by decide +kernel)
theorem cl_X0_remember {α : Type} {l : Launch} {E : pb_E} {R : Room} {own : String} {cc : ByteArray} {mL : Nat} {ret : Option FieldType} {Xs : State → Prop} {nc ns : Nat} {Qf : State → Array Value → List Frame → α → pb_M → State → Prop} {pc : Nat} {L : List (Option Value)} {S : List Value} {μ : pb_M} {f : Unit → pb_M → Option (α × pb_M)} {h1 : Nat} {index : Nat} (q : Nat) (hv1 : pb_V h1) (hR : 2 + 1 ≤ R.frames ∧ 8 + (2 + 11) + 40 ≤ R.locals ∧ nc ≤ R.cells ∧ ns ≤ R.slots) (hW : (S.map fun v => v.category).sum ≤ 8) (hl1 : Cond.methodLink own index yX0_remember ∈ pb_gw) (hdg : decode cc pc = .ok (.invokevirtual index, 3)) (hq : pc + 3 = q) (k : ∀ b1 μ1, pb_RW l E R own cc mL ret Xs nc ns Qf q L S μ1 (f b1 μ1)) : pb_RW l E R own cc mL ret Xs nc ns Qf pc L (.ref (E.2.1 h1) :: .ref (E.2.1 8) :: S) μ (pb_b (pX0_remember h1 μ) f) := pb_callV q (fun _ : Unit => none) mc_X0_remember mi_X0_remember ms_X0_remember (fun b1 μ1 h => evX0_remember l E h1 hv1 μ b1 μ1 h) rfl (by decide) rfl rfl rfl rfl hR rfl hW hl1 hdg hq k
def pX5_fetch (h0 : Nat) (h1 : Nat) (v2 : Int32) (μ : pb_M) : Option (Unit × pb_M) :=
  if pb_cp (v2 * (52 : Int32)) (0 : Int32) (52 : Int32) (pb_ln h1) 52 then
    some ((), (pb_sA μ (h0 + 1) (va_cpy (μ.1 h1) (μ.1 (h0 + 1)) ((v2 * (52 : Int32))).toNatClampNeg ((0 : Int32)).toNatClampNeg ((52 : Int32)).toNatClampNeg)))
  else none
abbrev wX5_fetch (l : Launch) (E : pb_E) := pb_RW l E { frames := 1, cells := 0, slots := 0, locals := 18 } RX5 cX5_fetch 3 none (fun _ => True) 0 0 (pb_Qf E (fun _ : Unit => none))
set_option maxRecDepth 100000 in
set_option maxHeartbeats 4000000 in
theorem evX5_fetch (l : Launch) (E : pb_E) (h0 : Nat) (h1 : Nat) (v2 : Int32) (hv0 : pb_V h0) (hv1 : pb_R h1) (μ : pb_M) : ∀ b μ', pX5_fetch h0 h1 v2 μ = some (b, μ') → pb_Ev l E yX5_fetch cX5_fetch 3 none { frames := 1, cells := 0, slots := 0, locals := 18 } [.ref (E.2.1 h0), .ref (E.2.1 h1), .int v2] μ ((fun _ : Unit => none) b) μ' := by
  refine pb_enter (L := [some (.ref (E.2.1 h0)), some (.ref (E.2.1 h1)), some (.int v2)]) (by decide +kernel) (Nat.le_of_ble_eq_true rfl) (pb_same [none, none, none] rfl) (show wX5_fetch l E 0 [some (.ref (E.2.1 h0)), some (.ref (E.2.1 h1)), some (.int v2)] [] μ (pX5_fetch h0 h1 v2 μ) from ?_)
  unfold pX5_fetch
  refine pb_aload_n 1 dX5_fetch_0 rfl rfl rfl ?_
  refine pb_iload_n 2 dX5_fetch_1 rfl rfl rfl ?_
  refine pb_bipush 4 (v := 52) dX5_fetch_2 rfl (by decide) ?_
  refine pb_imul 5 dX5_fetch_4 rfl ?_
  refine pb_aload_n 6 dX5_fetch_5 rfl rfl rfl ?_
  refine pb_getR 9 (j := 0) (d := (h0 + 1)) in_X5 rfl (by decide) hv0.1 rfl (by decide) fl_X5_11 dX5_fetch_6 rfl ?_
  refine pb_iconst 10 (v := 0) dX5_fetch_9 rfl (by decide) ?_
  refine pb_bipush 12 (v := 52) dX5_fetch_10 rfl (by decide) ?_
  refine pb_guard (fun hcp => pb_copy 15 ml_X5_21 km_c2 km_c3 km_c4 hv1 hv0.2 hcp ⟨by decide, Nat.le_of_ble_eq_true rfl⟩ dX5_fetch_12 rfl ?_)
  exact pb_vret dX5_fetch_15
theorem mc_X5_fetch : pb_MC yX5_fetch cX5_fetch 3 none 2 := ⟨pb_inW 520 (by decide +kernel) (by decide +kernel), pb_inW 63 (by decide +kernel) (by decide +kernel), by decide +kernel, by decide +kernel, by decide +kernel⟩
theorem mi_X5_fetch : Cond.instanceMethod yX5_fetch ∈ pb_gw := pb_inW 518 (by decide +kernel) (by decide +kernel)
theorem ms_X5_fetch : Cond.selects (yX5_fetch).cls yX5_fetch yX5_fetch ∈ pb_gw := pb_inW 519 (by decide +kernel) (by decide +kernel)
theorem cl_X5_fetch {α : Type} {l : Launch} {E : pb_E} {R : Room} {own : String} {cc : ByteArray} {mL : Nat} {ret : Option FieldType} {Xs : State → Prop} {nc ns : Nat} {Qf : State → Array Value → List Frame → α → pb_M → State → Prop} {pc : Nat} {L : List (Option Value)} {S : List Value} {μ : pb_M} {f : Unit → pb_M → Option (α × pb_M)} {h0 : Nat} {h1 : Nat} {v2 : Int32} {index : Nat} (q : Nat) (hv0 : pb_V h0) (hv1 : pb_R h1) (hR : 1 + 1 ≤ R.frames ∧ 8 + (3 + 11) + 18 ≤ R.locals ∧ nc ≤ R.cells ∧ ns ≤ R.slots) (hW : (S.map fun v => v.category).sum ≤ 8) (hl1 : Cond.methodLink own index yX5_fetch ∈ pb_gw) (hdg : decode cc pc = .ok (.invokevirtual index, 3)) (hq : pc + 3 = q) (k : ∀ b1 μ1, pb_RW l E R own cc mL ret Xs nc ns Qf q L S μ1 (f b1 μ1)) : pb_RW l E R own cc mL ret Xs nc ns Qf pc L (.int v2 :: .ref (E.2.1 h1) :: .ref (E.2.1 h0) :: S) μ (pb_b (pX5_fetch h0 h1 v2 μ) f) := pb_callV q (fun _ : Unit => none) mc_X5_fetch mi_X5_fetch ms_X5_fetch (fun b1 μ1 h => evX5_fetch l E h0 h1 v2 hv0 hv1 μ b1 μ1 h) hv0.1 (by decide) rfl rfl rfl rfl hR rfl hW hl1 hdg hq k
theorem ml_X0_34 : Cond.methodLink RX0 34 yX5_fetch ∈ pb_gw := pb_inW 517 (by decide +kernel) (by decide +kernel)
def pX0_takeBack (h1 : Nat) (μ : pb_M) : Option (Int32 × pb_M) :=
  if (μ.1 8 1) = (0 : Int32) then
    some ((0 : Int32), μ)
  else
  pb_b (pX5_fetch h1 9 ((pb_sA (pb_sA μ 8 (upd (μ.1 8) 2 (pb_rem (((μ.1 8 2) + (14 : Int32)) - (1 : Int32)) (14 : Int32)))) 8 (upd ((pb_sA μ 8 (upd (μ.1 8) 2 (pb_rem (((μ.1 8 2) + (14 : Int32)) - (1 : Int32)) (14 : Int32)))).1 8) 1 (((pb_sA μ 8 (upd (μ.1 8) 2 (pb_rem (((μ.1 8 2) + (14 : Int32)) - (1 : Int32)) (14 : Int32)))).1 8 1) - (1 : Int32)))).1 8 2) (pb_sA (pb_sA μ 8 (upd (μ.1 8) 2 (pb_rem (((μ.1 8 2) + (14 : Int32)) - (1 : Int32)) (14 : Int32)))) 8 (upd ((pb_sA μ 8 (upd (μ.1 8) 2 (pb_rem (((μ.1 8 2) + (14 : Int32)) - (1 : Int32)) (14 : Int32)))).1 8) 1 (((pb_sA μ 8 (upd (μ.1 8) 2 (pb_rem (((μ.1 8 2) + (14 : Int32)) - (1 : Int32)) (14 : Int32)))).1 8 1) - (1 : Int32))))) (fun b44 μ44 =>
  some ((1 : Int32), μ44))
abbrev wX0_takeBack (l : Launch) (E : pb_E) := pb_RW l E { frames := 2, cells := 0, slots := 0, locals := 40 } RX0 cX0_takeBack 2 (some .boolean) (fun _ => True) 0 0 (pb_Qf E (fun z : Int32 => some (.int z)))
set_option maxRecDepth 100000 in
set_option maxHeartbeats 4000000 in
theorem evX0_takeBack (l : Launch) (E : pb_E) (h1 : Nat) (hv1 : pb_V h1) (μ : pb_M) : ∀ b μ', pX0_takeBack h1 μ = some (b, μ') → pb_Ev l E yX0_takeBack cX0_takeBack 2 (some .boolean) { frames := 2, cells := 0, slots := 0, locals := 40 } [.ref (E.2.1 8), .ref (E.2.1 h1)] μ ((fun z : Int32 => some (.int z)) b) μ' := by
  refine pb_enter (L := [some (.ref (E.2.1 8)), some (.ref (E.2.1 h1))]) (by decide +kernel) (Nat.le_of_ble_eq_true rfl) (pb_same [none, none] rfl) (show wX0_takeBack l E 0 [some (.ref (E.2.1 8)), some (.ref (E.2.1 h1))] [] μ (pX0_takeBack h1 μ) from ?_)
  unfold pX0_takeBack
  refine pb_aload_n 1 dX0_takeBack_0 rfl rfl rfl ?_
  refine pb_getI 4 (j := 1) in_X0 rfl (by decide) rfl rfl (by decide) fl_X0_17 dX0_takeBack_1 rfl ?_
  refine pb_if_ne 7 (tgt := 9) dX0_takeBack_4 (by decide) rfl (fun _ => ?_) (fun _ => ?_)
  · refine pb_iconst 8 (v := 0) dX0_takeBack_7 rfl (by decide) ?_
    exact pb_zret rfl dX0_takeBack_8
  · refine pb_aload_n 10 dX0_takeBack_9 rfl rfl rfl ?_
    refine pb_aload_n 11 dX0_takeBack_10 rfl rfl rfl ?_
    refine pb_getI 14 (j := 2) in_X0 rfl (by decide) rfl rfl (by decide) fl_X0_21 dX0_takeBack_11 rfl ?_
    refine pb_bipush 16 (v := 14) dX0_takeBack_14 rfl (by decide) ?_
    refine pb_iadd 17 dX0_takeBack_16 rfl ?_
    refine pb_iconst 18 (v := 1) dX0_takeBack_17 rfl (by decide) ?_
    refine pb_isub 19 dX0_takeBack_18 rfl ?_
    refine pb_bipush 21 (v := 14) dX0_takeBack_19 rfl (by decide) ?_
    refine pb_irem 22 dX0_takeBack_21 rfl (by decide) ?_
    refine pb_putI 25 (j := 2) tyX0 tyX0_ok nmX0 in_X0 rfl (by decide) rfl rfl (by decide) fl_X0_21 rfl (by decide +kernel) dX0_takeBack_22 rfl ?_
    refine pb_aload_n 26 dX0_takeBack_25 rfl rfl rfl ?_
    refine pb_dup 27 dX0_takeBack_26 rfl rfl ?_
    refine pb_getI 30 (j := 1) in_X0 rfl (by decide) rfl rfl (by decide) fl_X0_17 dX0_takeBack_27 rfl ?_
    refine pb_iconst 31 (v := 1) dX0_takeBack_30 rfl (by decide) ?_
    refine pb_isub 32 dX0_takeBack_31 rfl ?_
    refine pb_putI 35 (j := 1) tyX0 tyX0_ok nmX0 in_X0 rfl (by decide) rfl rfl (by decide) fl_X0_17 rfl (by decide +kernel) dX0_takeBack_32 rfl ?_
    refine pb_aload_n 36 dX0_takeBack_35 rfl rfl rfl ?_
    refine pb_aload_n 37 dX0_takeBack_36 rfl rfl rfl ?_
    refine pb_getR 40 (j := 0) (d := 9) in_X0 rfl (by decide) rfl rfl (by decide) fl_X0_11 dX0_takeBack_37 rfl ?_
    refine pb_aload_n 41 dX0_takeBack_40 rfl rfl rfl ?_
    refine pb_getI 44 (j := 2) in_X0 rfl (by decide) rfl rfl (by decide) fl_X0_21 dX0_takeBack_41 rfl ?_
    refine cl_X5_fetch 47 hv1 pb_R9 ⟨by decide, by decide, by decide, by decide⟩ (Nat.le_of_ble_eq_true rfl) ml_X0_34 dX0_takeBack_44 rfl (fun b44 μ44 => ?_)
    refine pb_iconst 48 (v := 1) dX0_takeBack_47 rfl (by decide) ?_
    exact pb_zret rfl dX0_takeBack_48
theorem mc_X0_takeBack : pb_MC yX0_takeBack cX0_takeBack 2 (some .boolean) 1 := ⟨pb_inW 516 (by decide +kernel) (by decide +kernel), pb_inW 64 (by decide +kernel) (by decide +kernel), by decide +kernel, by decide +kernel, by decide +kernel⟩
theorem mi_X0_takeBack : Cond.instanceMethod yX0_takeBack ∈ pb_gw := pb_inW 514 (by decide +kernel) (by decide +kernel)
theorem ms_X0_takeBack : Cond.selects (yX0_takeBack).cls yX0_takeBack yX0_takeBack ∈ pb_gw := pb_inW 515 (by decide +kernel) (by decide +kernel)
theorem cl_X0_takeBack {α : Type} {l : Launch} {E : pb_E} {R : Room} {own : String} {cc : ByteArray} {mL : Nat} {ret : Option FieldType} {Xs : State → Prop} {nc ns : Nat} {Qf : State → Array Value → List Frame → α → pb_M → State → Prop} {pc : Nat} {L : List (Option Value)} {S : List Value} {μ : pb_M} {f : Int32 → pb_M → Option (α × pb_M)} {h1 : Nat} {index : Nat} (q : Nat) (hv1 : pb_V h1) (hR : 2 + 1 ≤ R.frames ∧ 8 + (2 + 11) + 40 ≤ R.locals ∧ nc ≤ R.cells ∧ ns ≤ R.slots) (hW : (S.map fun v => v.category).sum ≤ 8) (hl1 : Cond.methodLink own index yX0_takeBack ∈ pb_gw) (hdg : decode cc pc = .ok (.invokevirtual index, 3)) (hq : pc + 3 = q) (k : ∀ b1 μ1, pb_RW l E R own cc mL ret Xs nc ns Qf q L (.int b1 :: S) μ1 (f b1 μ1)) : pb_RW l E R own cc mL ret Xs nc ns Qf pc L (.ref (E.2.1 h1) :: .ref (E.2.1 8) :: S) μ (pb_b (pX0_takeBack h1 μ) f) := pb_callV q (fun z : Int32 => some (.int z)) mc_X0_takeBack mi_X0_takeBack ms_X0_takeBack (fun b1 μ1 h => evX0_takeBack l E h1 hv1 μ b1 μ1 h) rfl (by decide) rfl rfl rfl rfl hR rfl hW hl1 hdg hq k
def pX5_debt (h0 : Nat) (v1 : Int32) (v2 : Int32) (μ : pb_M) : Option (Int32 × pb_M) :=
  if pb_in (((11 : Int32) + (v1 * (4 : Int32))) + v2) 52 then
    some ((μ.1 (h0 + 1) ((((11 : Int32) + (v1 * (4 : Int32))) + v2)).toNatClampNeg), μ)
  else none
abbrev wX5_debt (l : Launch) (E : pb_E) := pb_RW l E { frames := 0, cells := 0, slots := 0, locals := 0 } RX5 cX5_debt 3 (some .int) (fun _ => True) 0 0 (pb_Qf E (fun z : Int32 => some (.int z)))
set_option maxRecDepth 100000 in
set_option maxHeartbeats 4000000 in
theorem evX5_debt (l : Launch) (E : pb_E) (h0 : Nat) (v1 : Int32) (v2 : Int32) (hv0 : pb_V h0) (μ : pb_M) : ∀ b μ', pX5_debt h0 v1 v2 μ = some (b, μ') → pb_Ev l E yX5_debt cX5_debt 3 (some .int) { frames := 0, cells := 0, slots := 0, locals := 0 } [.ref (E.2.1 h0), .int v1, .int v2] μ ((fun z : Int32 => some (.int z)) b) μ' := by
  refine pb_enter (L := [some (.ref (E.2.1 h0)), some (.int v1), some (.int v2)]) (by decide +kernel) (Nat.le_of_ble_eq_true rfl) (pb_same [none, none, none] rfl) (show wX5_debt l E 0 [some (.ref (E.2.1 h0)), some (.int v1), some (.int v2)] [] μ (pX5_debt h0 v1 v2 μ) from ?_)
  unfold pX5_debt
  refine pb_aload_n 1 dX5_debt_0 rfl rfl rfl ?_
  refine pb_getR 4 (j := 0) (d := (h0 + 1)) in_X5 rfl (by decide) hv0.1 rfl (by decide) fl_X5_11 dX5_debt_1 rfl ?_
  refine pb_bipush 6 (v := 11) dX5_debt_4 rfl (by decide) ?_
  refine pb_iload_n 7 dX5_debt_6 rfl rfl rfl ?_
  refine pb_iconst 8 (v := 4) dX5_debt_7 rfl (by decide) ?_
  refine pb_imul 9 dX5_debt_8 rfl ?_
  refine pb_iadd 10 dX5_debt_9 rfl ?_
  refine pb_iload_n 11 dX5_debt_10 rfl rfl rfl ?_
  refine pb_iadd 12 dX5_debt_11 rfl ?_
  refine pb_guard (fun hin => pb_iald 13 hv0.2 hin rfl dX5_debt_12 rfl ?_)
  exact pb_iret dX5_debt_13
theorem mc_X5_debt : pb_MC yX5_debt cX5_debt 3 (some .int) 2 := ⟨pb_inW 311 (by decide +kernel) (by decide +kernel), pb_inW 63 (by decide +kernel) (by decide +kernel), by decide +kernel, by decide +kernel, by decide +kernel⟩
theorem mi_X5_debt : Cond.instanceMethod yX5_debt ∈ pb_gw := pb_inW 309 (by decide +kernel) (by decide +kernel)
theorem ms_X5_debt : Cond.selects (yX5_debt).cls yX5_debt yX5_debt ∈ pb_gw := pb_inW 310 (by decide +kernel) (by decide +kernel)
theorem cl_X5_debt {α : Type} {l : Launch} {E : pb_E} {R : Room} {own : String} {cc : ByteArray} {mL : Nat} {ret : Option FieldType} {Xs : State → Prop} {nc ns : Nat} {Qf : State → Array Value → List Frame → α → pb_M → State → Prop} {pc : Nat} {L : List (Option Value)} {S : List Value} {μ : pb_M} {f : Int32 → pb_M → Option (α × pb_M)} {h0 : Nat} {v1 : Int32} {v2 : Int32} {index : Nat} (q : Nat) (hv0 : pb_V h0) (hR : 0 + 1 ≤ R.frames ∧ 8 + (3 + 11) + 0 ≤ R.locals ∧ nc ≤ R.cells ∧ ns ≤ R.slots) (hW : (S.map fun v => v.category).sum ≤ 8) (hl1 : Cond.methodLink own index yX5_debt ∈ pb_gw) (hdg : decode cc pc = .ok (.invokevirtual index, 3)) (hq : pc + 3 = q) (k : ∀ b1 μ1, pb_RW l E R own cc mL ret Xs nc ns Qf q L (.int b1 :: S) μ1 (f b1 μ1)) : pb_RW l E R own cc mL ret Xs nc ns Qf pc L (.int v2 :: .int v1 :: .ref (E.2.1 h0) :: S) μ (pb_b (pX5_debt h0 v1 v2 μ) f) := pb_callV q (fun z : Int32 => some (.int z)) mc_X5_debt mi_X5_debt ms_X5_debt (fun b1 μ1 h => evX5_debt l E h0 v1 v2 hv0 μ b1 μ1 h) hv0.1 (by decide) rfl rfl rfl rfl hR rfl hW hl1 hdg hq k
def pX5_beasts (h0 : Nat) (μ : pb_M) : Option (Int32 × pb_M) :=
  some ((μ.1 (h0 + 1) 1), μ)
abbrev wX5_beasts (l : Launch) (E : pb_E) := pb_RW l E { frames := 0, cells := 0, slots := 0, locals := 0 } RX5 cX5_beasts 1 (some .int) (fun _ => True) 0 0 (pb_Qf E (fun z : Int32 => some (.int z)))
set_option maxRecDepth 100000 in
set_option maxHeartbeats 4000000 in
theorem evX5_beasts (l : Launch) (E : pb_E) (h0 : Nat) (hv0 : pb_V h0) (μ : pb_M) : ∀ b μ', pX5_beasts h0 μ = some (b, μ') → pb_Ev l E yX5_beasts cX5_beasts 1 (some .int) { frames := 0, cells := 0, slots := 0, locals := 0 } [.ref (E.2.1 h0)] μ ((fun z : Int32 => some (.int z)) b) μ' := by
  refine pb_enter (L := [some (.ref (E.2.1 h0))]) (by decide +kernel) (Nat.le_of_ble_eq_true rfl) (pb_same [none] rfl) (show wX5_beasts l E 0 [some (.ref (E.2.1 h0))] [] μ (pX5_beasts h0 μ) from ?_)
  unfold pX5_beasts
  refine pb_aload_n 1 dX5_beasts_0 rfl rfl rfl ?_
  refine pb_getR 4 (j := 0) (d := (h0 + 1)) in_X5 rfl (by decide) hv0.1 rfl (by decide) fl_X5_11 dX5_beasts_1 rfl ?_
  refine pb_iconst 5 (v := 1) dX5_beasts_4 rfl (by decide) ?_
  refine pb_iald 6 (j := 1) hv0.2 (by decide) (by decide) dX5_beasts_5 rfl ?_
  exact pb_iret dX5_beasts_6
theorem mc_X5_beasts : pb_MC yX5_beasts cX5_beasts 1 (some .int) 0 := ⟨pb_inW 261 (by decide +kernel) (by decide +kernel), pb_inW 63 (by decide +kernel) (by decide +kernel), by decide +kernel, by decide +kernel, by decide +kernel⟩
theorem mi_X5_beasts : Cond.instanceMethod yX5_beasts ∈ pb_gw := pb_inW 259 (by decide +kernel) (by decide +kernel)
theorem ms_X5_beasts : Cond.selects (yX5_beasts).cls yX5_beasts yX5_beasts ∈ pb_gw := pb_inW 260 (by decide +kernel) (by decide +kernel)
theorem cl_X5_beasts {α : Type} {l : Launch} {E : pb_E} {R : Room} {own : String} {cc : ByteArray} {mL : Nat} {ret : Option FieldType} {Xs : State → Prop} {nc ns : Nat} {Qf : State → Array Value → List Frame → α → pb_M → State → Prop} {pc : Nat} {L : List (Option Value)} {S : List Value} {μ : pb_M} {f : Int32 → pb_M → Option (α × pb_M)} {h0 : Nat} {index : Nat} (q : Nat) (hv0 : pb_V h0) (hR : 0 + 1 ≤ R.frames ∧ 8 + (1 + 11) + 0 ≤ R.locals ∧ nc ≤ R.cells ∧ ns ≤ R.slots) (hW : (S.map fun v => v.category).sum ≤ 8) (hl1 : Cond.methodLink own index yX5_beasts ∈ pb_gw) (hdg : decode cc pc = .ok (.invokevirtual index, 3)) (hq : pc + 3 = q) (k : ∀ b1 μ1, pb_RW l E R own cc mL ret Xs nc ns Qf q L (.int b1 :: S) μ1 (f b1 μ1)) : pb_RW l E R own cc mL ret Xs nc ns Qf pc L (.ref (E.2.1 h0) :: S) μ (pb_b (pX5_beasts h0 μ) f) := pb_callV q (fun z : Int32 => some (.int z)) mc_X5_beasts mi_X5_beasts ms_X5_beasts (fun b1 μ1 h => evX5_beasts l E h0 hv0 μ b1 μ1 h) hv0.1 (by decide) rfl rfl rfl rfl hR rfl hW hl1 hdg hq k
def pX5_ownerOf (h0 : Nat) (v1 : Int32) (μ : pb_M) : Option (Int32 × pb_M) :=
  if pb_in ((27 : Int32) + v1) 52 then
    some ((μ.1 (h0 + 1) (((27 : Int32) + v1)).toNatClampNeg), μ)
  else none
abbrev wX5_ownerOf (l : Launch) (E : pb_E) := pb_RW l E { frames := 0, cells := 0, slots := 0, locals := 0 } RX5 cX5_ownerOf 2 (some .int) (fun _ => True) 0 0 (pb_Qf E (fun z : Int32 => some (.int z)))
set_option maxRecDepth 100000 in
set_option maxHeartbeats 4000000 in
theorem evX5_ownerOf (l : Launch) (E : pb_E) (h0 : Nat) (v1 : Int32) (hv0 : pb_V h0) (μ : pb_M) : ∀ b μ', pX5_ownerOf h0 v1 μ = some (b, μ') → pb_Ev l E yX5_ownerOf cX5_ownerOf 2 (some .int) { frames := 0, cells := 0, slots := 0, locals := 0 } [.ref (E.2.1 h0), .int v1] μ ((fun z : Int32 => some (.int z)) b) μ' := by
  refine pb_enter (L := [some (.ref (E.2.1 h0)), some (.int v1)]) (by decide +kernel) (Nat.le_of_ble_eq_true rfl) (pb_same [none, none] rfl) (show wX5_ownerOf l E 0 [some (.ref (E.2.1 h0)), some (.int v1)] [] μ (pX5_ownerOf h0 v1 μ) from ?_)
  unfold pX5_ownerOf
  refine pb_aload_n 1 dX5_ownerOf_0 rfl rfl rfl ?_
  refine pb_getR 4 (j := 0) (d := (h0 + 1)) in_X5 rfl (by decide) hv0.1 rfl (by decide) fl_X5_11 dX5_ownerOf_1 rfl ?_
  refine pb_bipush 6 (v := 27) dX5_ownerOf_4 rfl (by decide) ?_
  refine pb_iload_n 7 dX5_ownerOf_6 rfl rfl rfl ?_
  refine pb_iadd 8 dX5_ownerOf_7 rfl ?_
  refine pb_guard (fun hin => pb_iald 9 hv0.2 hin rfl dX5_ownerOf_8 rfl ?_)
  exact pb_iret dX5_ownerOf_9
theorem mc_X5_ownerOf : pb_MC yX5_ownerOf cX5_ownerOf 2 (some .int) 1 := ⟨pb_inW 356 (by decide +kernel) (by decide +kernel), pb_inW 63 (by decide +kernel) (by decide +kernel), by decide +kernel, by decide +kernel, by decide +kernel⟩
theorem mi_X5_ownerOf : Cond.instanceMethod yX5_ownerOf ∈ pb_gw := pb_inW 354 (by decide +kernel) (by decide +kernel)
theorem ms_X5_ownerOf : Cond.selects (yX5_ownerOf).cls yX5_ownerOf yX5_ownerOf ∈ pb_gw := pb_inW 355 (by decide +kernel) (by decide +kernel)
theorem cl_X5_ownerOf {α : Type} {l : Launch} {E : pb_E} {R : Room} {own : String} {cc : ByteArray} {mL : Nat} {ret : Option FieldType} {Xs : State → Prop} {nc ns : Nat} {Qf : State → Array Value → List Frame → α → pb_M → State → Prop} {pc : Nat} {L : List (Option Value)} {S : List Value} {μ : pb_M} {f : Int32 → pb_M → Option (α × pb_M)} {h0 : Nat} {v1 : Int32} {index : Nat} (q : Nat) (hv0 : pb_V h0) (hR : 0 + 1 ≤ R.frames ∧ 8 + (2 + 11) + 0 ≤ R.locals ∧ nc ≤ R.cells ∧ ns ≤ R.slots) (hW : (S.map fun v => v.category).sum ≤ 8) (hl1 : Cond.methodLink own index yX5_ownerOf ∈ pb_gw) (hdg : decode cc pc = .ok (.invokevirtual index, 3)) (hq : pc + 3 = q) (k : ∀ b1 μ1, pb_RW l E R own cc mL ret Xs nc ns Qf q L (.int b1 :: S) μ1 (f b1 μ1)) : pb_RW l E R own cc mL ret Xs nc ns Qf pc L (.int v1 :: .ref (E.2.1 h0) :: S) μ (pb_b (pX5_ownerOf h0 v1 μ) f) := pb_callV q (fun z : Int32 => some (.int z)) mc_X5_ownerOf mi_X5_ownerOf ms_X5_ownerOf (fun b1 μ1 h => evX5_ownerOf l E h0 v1 hv0 μ b1 μ1 h) hv0.1 (by decide) rfl rfl rfl rfl hR rfl hW hl1 hdg hq k
def pX5_worthOf (h0 : Nat) (v1 : Int32) (μ : pb_M) : Option (Int32 × pb_M) :=
  if pb_in ((32 : Int32) + v1) 52 then
    some ((μ.1 (h0 + 1) (((32 : Int32) + v1)).toNatClampNeg), μ)
  else none
abbrev wX5_worthOf (l : Launch) (E : pb_E) := pb_RW l E { frames := 0, cells := 0, slots := 0, locals := 0 } RX5 cX5_worthOf 2 (some .int) (fun _ => True) 0 0 (pb_Qf E (fun z : Int32 => some (.int z)))
set_option maxRecDepth 100000 in
set_option maxHeartbeats 4000000 in
theorem evX5_worthOf (l : Launch) (E : pb_E) (h0 : Nat) (v1 : Int32) (hv0 : pb_V h0) (μ : pb_M) : ∀ b μ', pX5_worthOf h0 v1 μ = some (b, μ') → pb_Ev l E yX5_worthOf cX5_worthOf 2 (some .int) { frames := 0, cells := 0, slots := 0, locals := 0 } [.ref (E.2.1 h0), .int v1] μ ((fun z : Int32 => some (.int z)) b) μ' := by
  refine pb_enter (L := [some (.ref (E.2.1 h0)), some (.int v1)]) (by decide +kernel) (Nat.le_of_ble_eq_true rfl) (pb_same [none, none] rfl) (show wX5_worthOf l E 0 [some (.ref (E.2.1 h0)), some (.int v1)] [] μ (pX5_worthOf h0 v1 μ) from ?_)
  unfold pX5_worthOf
  refine pb_aload_n 1 dX5_worthOf_0 rfl rfl rfl ?_
  refine pb_getR 4 (j := 0) (d := (h0 + 1)) in_X5 rfl (by decide) hv0.1 rfl (by decide) fl_X5_11 dX5_worthOf_1 rfl ?_
  refine pb_bipush 6 (v := 32) dX5_worthOf_4 rfl (by decide) ?_
  refine pb_iload_n 7 dX5_worthOf_6 rfl rfl rfl ?_
  refine pb_iadd 8 dX5_worthOf_7 rfl ?_
  refine pb_guard (fun hin => pb_iald 9 hv0.2 hin rfl dX5_worthOf_8 rfl ?_)
  exact pb_iret dX5_worthOf_9
theorem mc_X5_worthOf : pb_MC yX5_worthOf cX5_worthOf 2 (some .int) 1 := ⟨pb_inW 377 (by decide +kernel) (by decide +kernel), pb_inW 63 (by decide +kernel) (by decide +kernel), by decide +kernel, by decide +kernel, by decide +kernel⟩
theorem mi_X5_worthOf : Cond.instanceMethod yX5_worthOf ∈ pb_gw := pb_inW 375 (by decide +kernel) (by decide +kernel)
theorem ms_X5_worthOf : Cond.selects (yX5_worthOf).cls yX5_worthOf yX5_worthOf ∈ pb_gw := pb_inW 376 (by decide +kernel) (by decide +kernel)
theorem cl_X5_worthOf {α : Type} {l : Launch} {E : pb_E} {R : Room} {own : String} {cc : ByteArray} {mL : Nat} {ret : Option FieldType} {Xs : State → Prop} {nc ns : Nat} {Qf : State → Array Value → List Frame → α → pb_M → State → Prop} {pc : Nat} {L : List (Option Value)} {S : List Value} {μ : pb_M} {f : Int32 → pb_M → Option (α × pb_M)} {h0 : Nat} {v1 : Int32} {index : Nat} (q : Nat) (hv0 : pb_V h0) (hR : 0 + 1 ≤ R.frames ∧ 8 + (2 + 11) + 0 ≤ R.locals ∧ nc ≤ R.cells ∧ ns ≤ R.slots) (hW : (S.map fun v => v.category).sum ≤ 8) (hl1 : Cond.methodLink own index yX5_worthOf ∈ pb_gw) (hdg : decode cc pc = .ok (.invokevirtual index, 3)) (hq : pc + 3 = q) (k : ∀ b1 μ1, pb_RW l E R own cc mL ret Xs nc ns Qf q L (.int b1 :: S) μ1 (f b1 μ1)) : pb_RW l E R own cc mL ret Xs nc ns Qf pc L (.int v1 :: .ref (E.2.1 h0) :: S) μ (pb_b (pX5_worthOf h0 v1 μ) f) := pb_callV q (fun z : Int32 => some (.int z)) mc_X5_worthOf mi_X5_worthOf ms_X5_worthOf (fun b1 μ1 h => evX5_worthOf l E h0 v1 hv0 μ b1 μ1 h) hv0.1 (by decide) rfl rfl rfl rfl hR rfl hW hl1 hdg hq k
theorem ml_X5_34 : Cond.methodLink RX5 34 yX5_worthOf ∈ pb_gw := pb_inW 394 (by decide +kernel) (by decide +kernel)
def pX5_isDead (h0 : Nat) (v1 : Int32) (μ : pb_M) : Option (Int32 × pb_M) :=
  pb_b (pX5_worthOf h0 v1 μ) (fun b2 μ2 =>
  if b2 = (0 : Int32) then
    some ((1 : Int32), μ2)
  else
  some ((0 : Int32), μ2))
abbrev wX5_isDead (l : Launch) (E : pb_E) := pb_RW l E { frames := 1, cells := 0, slots := 0, locals := 21 } RX5 cX5_isDead 2 (some .boolean) (fun _ => True) 0 0 (pb_Qf E (fun z : Int32 => some (.int z)))
set_option maxRecDepth 100000 in
set_option maxHeartbeats 4000000 in
theorem evX5_isDead (l : Launch) (E : pb_E) (h0 : Nat) (v1 : Int32) (hv0 : pb_V h0) (μ : pb_M) : ∀ b μ', pX5_isDead h0 v1 μ = some (b, μ') → pb_Ev l E yX5_isDead cX5_isDead 2 (some .boolean) { frames := 1, cells := 0, slots := 0, locals := 21 } [.ref (E.2.1 h0), .int v1] μ ((fun z : Int32 => some (.int z)) b) μ' := by
  refine pb_enter (L := [some (.ref (E.2.1 h0)), some (.int v1)]) (by decide +kernel) (Nat.le_of_ble_eq_true rfl) (pb_same [none, none] rfl) (show wX5_isDead l E 0 [some (.ref (E.2.1 h0)), some (.int v1)] [] μ (pX5_isDead h0 v1 μ) from ?_)
  unfold pX5_isDead
  refine pb_aload_n 1 dX5_isDead_0 rfl rfl rfl ?_
  refine pb_iload_n 2 dX5_isDead_1 rfl rfl rfl ?_
  refine cl_X5_worthOf 5 hv0 ⟨by decide, by decide, by decide, by decide⟩ (Nat.le_of_ble_eq_true rfl) ml_X5_34 dX5_isDead_2 rfl (fun b2 μ2 => ?_)
  refine pb_if_ne 8 (tgt := 12) dX5_isDead_5 (by decide) rfl (fun _ => ?_) (fun _ => ?_)
  · refine pb_iconst 9 (v := 1) dX5_isDead_8 rfl (by decide) ?_
    refine pb_goto (tgt := 13) dX5_isDead_9 (by decide) ?_
    exact pb_zret rfl dX5_isDead_13
  · refine pb_iconst 13 (v := 0) dX5_isDead_12 rfl (by decide) ?_
    exact pb_zret rfl dX5_isDead_13
theorem mc_X5_isDead : pb_MC yX5_isDead cX5_isDead 2 (some .boolean) 1 := ⟨pb_inW 393 (by decide +kernel) (by decide +kernel), pb_inW 63 (by decide +kernel) (by decide +kernel), by decide +kernel, by decide +kernel, by decide +kernel⟩
theorem mi_X5_isDead : Cond.instanceMethod yX5_isDead ∈ pb_gw := pb_inW 391 (by decide +kernel) (by decide +kernel)
theorem ms_X5_isDead : Cond.selects (yX5_isDead).cls yX5_isDead yX5_isDead ∈ pb_gw := pb_inW 392 (by decide +kernel) (by decide +kernel)
theorem cl_X5_isDead {α : Type} {l : Launch} {E : pb_E} {R : Room} {own : String} {cc : ByteArray} {mL : Nat} {ret : Option FieldType} {Xs : State → Prop} {nc ns : Nat} {Qf : State → Array Value → List Frame → α → pb_M → State → Prop} {pc : Nat} {L : List (Option Value)} {S : List Value} {μ : pb_M} {f : Int32 → pb_M → Option (α × pb_M)} {h0 : Nat} {v1 : Int32} {index : Nat} (q : Nat) (hv0 : pb_V h0) (hR : 1 + 1 ≤ R.frames ∧ 8 + (2 + 11) + 21 ≤ R.locals ∧ nc ≤ R.cells ∧ ns ≤ R.slots) (hW : (S.map fun v => v.category).sum ≤ 8) (hl1 : Cond.methodLink own index yX5_isDead ∈ pb_gw) (hdg : decode cc pc = .ok (.invokevirtual index, 3)) (hq : pc + 3 = q) (k : ∀ b1 μ1, pb_RW l E R own cc mL ret Xs nc ns Qf q L (.int b1 :: S) μ1 (f b1 μ1)) : pb_RW l E R own cc mL ret Xs nc ns Qf pc L (.int v1 :: .ref (E.2.1 h0) :: S) μ (pb_b (pX5_isDead h0 v1 μ) f) := pb_callV q (fun z : Int32 => some (.int z)) mc_X5_isDead mi_X5_isDead ms_X5_isDead (fun b1 μ1 h => evX5_isDead l E h0 v1 hv0 μ b1 μ1 h) hv0.1 (by decide) rfl rfl rfl rfl hR rfl hW hl1 hdg hq k
def pX5_holderOf (h0 : Nat) (v1 : Int32) (μ : pb_M) : Option (Int32 × pb_M) :=
  if pb_in ((42 : Int32) + v1) 52 then
    some ((μ.1 (h0 + 1) (((42 : Int32) + v1)).toNatClampNeg), μ)
  else none
abbrev wX5_holderOf (l : Launch) (E : pb_E) := pb_RW l E { frames := 0, cells := 0, slots := 0, locals := 0 } RX5 cX5_holderOf 2 (some .int) (fun _ => True) 0 0 (pb_Qf E (fun z : Int32 => some (.int z)))
set_option maxRecDepth 100000 in
set_option maxHeartbeats 4000000 in
theorem evX5_holderOf (l : Launch) (E : pb_E) (h0 : Nat) (v1 : Int32) (hv0 : pb_V h0) (μ : pb_M) : ∀ b μ', pX5_holderOf h0 v1 μ = some (b, μ') → pb_Ev l E yX5_holderOf cX5_holderOf 2 (some .int) { frames := 0, cells := 0, slots := 0, locals := 0 } [.ref (E.2.1 h0), .int v1] μ ((fun z : Int32 => some (.int z)) b) μ' := by
  refine pb_enter (L := [some (.ref (E.2.1 h0)), some (.int v1)]) (by decide +kernel) (Nat.le_of_ble_eq_true rfl) (pb_same [none, none] rfl) (show wX5_holderOf l E 0 [some (.ref (E.2.1 h0)), some (.int v1)] [] μ (pX5_holderOf h0 v1 μ) from ?_)
  unfold pX5_holderOf
  refine pb_aload_n 1 dX5_holderOf_0 rfl rfl rfl ?_
  refine pb_getR 4 (j := 0) (d := (h0 + 1)) in_X5 rfl (by decide) hv0.1 rfl (by decide) fl_X5_11 dX5_holderOf_1 rfl ?_
  refine pb_bipush 6 (v := 42) dX5_holderOf_4 rfl (by decide) ?_
  refine pb_iload_n 7 dX5_holderOf_6 rfl rfl rfl ?_
  refine pb_iadd 8 dX5_holderOf_7 rfl ?_
  refine pb_guard (fun hin => pb_iald 9 hv0.2 hin rfl dX5_holderOf_8 rfl ?_)
  exact pb_iret dX5_holderOf_9
theorem mc_X5_holderOf : pb_MC yX5_holderOf cX5_holderOf 2 (some .int) 1 := ⟨pb_inW 385 (by decide +kernel) (by decide +kernel), pb_inW 63 (by decide +kernel) (by decide +kernel), by decide +kernel, by decide +kernel, by decide +kernel⟩
theorem mi_X5_holderOf : Cond.instanceMethod yX5_holderOf ∈ pb_gw := pb_inW 383 (by decide +kernel) (by decide +kernel)
theorem ms_X5_holderOf : Cond.selects (yX5_holderOf).cls yX5_holderOf yX5_holderOf ∈ pb_gw := pb_inW 384 (by decide +kernel) (by decide +kernel)
theorem cl_X5_holderOf {α : Type} {l : Launch} {E : pb_E} {R : Room} {own : String} {cc : ByteArray} {mL : Nat} {ret : Option FieldType} {Xs : State → Prop} {nc ns : Nat} {Qf : State → Array Value → List Frame → α → pb_M → State → Prop} {pc : Nat} {L : List (Option Value)} {S : List Value} {μ : pb_M} {f : Int32 → pb_M → Option (α × pb_M)} {h0 : Nat} {v1 : Int32} {index : Nat} (q : Nat) (hv0 : pb_V h0) (hR : 0 + 1 ≤ R.frames ∧ 8 + (2 + 11) + 0 ≤ R.locals ∧ nc ≤ R.cells ∧ ns ≤ R.slots) (hW : (S.map fun v => v.category).sum ≤ 8) (hl1 : Cond.methodLink own index yX5_holderOf ∈ pb_gw) (hdg : decode cc pc = .ok (.invokevirtual index, 3)) (hq : pc + 3 = q) (k : ∀ b1 μ1, pb_RW l E R own cc mL ret Xs nc ns Qf q L (.int b1 :: S) μ1 (f b1 μ1)) : pb_RW l E R own cc mL ret Xs nc ns Qf pc L (.int v1 :: .ref (E.2.1 h0) :: S) μ (pb_b (pX5_holderOf h0 v1 μ) f) := pb_callV q (fun z : Int32 => some (.int z)) mc_X5_holderOf mi_X5_holderOf ms_X5_holderOf (fun b1 μ1 h => evX5_holderOf l E h0 v1 hv0 μ b1 μ1 h) hv0.1 (by decide) rfl rfl rfl rfl hR rfl hW hl1 hdg hq k
theorem ml_X5_38 : Cond.methodLink RX5 38 yX5_holderOf ∈ pb_gw := pb_inW 413 (by decide +kernel) (by decide +kernel)
def pX5_isShut (h0 : Nat) (v1 : Int32) (μ : pb_M) : Option (Int32 × pb_M) :=
  pb_b (pX5_holderOf h0 v1 μ) (fun b2 μ2 =>
  if b2 = (-9 : Int32) then
    some ((0 : Int32), μ2)
  else
  some ((1 : Int32), μ2))
abbrev wX5_isShut (l : Launch) (E : pb_E) := pb_RW l E { frames := 1, cells := 0, slots := 0, locals := 21 } RX5 cX5_isShut 2 (some .boolean) (fun _ => True) 0 0 (pb_Qf E (fun z : Int32 => some (.int z)))
set_option maxRecDepth 100000 in
set_option maxHeartbeats 4000000 in
theorem evX5_isShut (l : Launch) (E : pb_E) (h0 : Nat) (v1 : Int32) (hv0 : pb_V h0) (μ : pb_M) : ∀ b μ', pX5_isShut h0 v1 μ = some (b, μ') → pb_Ev l E yX5_isShut cX5_isShut 2 (some .boolean) { frames := 1, cells := 0, slots := 0, locals := 21 } [.ref (E.2.1 h0), .int v1] μ ((fun z : Int32 => some (.int z)) b) μ' := by
  refine pb_enter (L := [some (.ref (E.2.1 h0)), some (.int v1)]) (by decide +kernel) (Nat.le_of_ble_eq_true rfl) (pb_same [none, none] rfl) (show wX5_isShut l E 0 [some (.ref (E.2.1 h0)), some (.int v1)] [] μ (pX5_isShut h0 v1 μ) from ?_)
  unfold pX5_isShut
  refine pb_aload_n 1 dX5_isShut_0 rfl rfl rfl ?_
  refine pb_iload_n 2 dX5_isShut_1 rfl rfl rfl ?_
  refine cl_X5_holderOf 5 hv0 ⟨by decide, by decide, by decide, by decide⟩ (Nat.le_of_ble_eq_true rfl) ml_X5_38 dX5_isShut_2 rfl (fun b2 μ2 => ?_)
  refine pb_bipush 7 (v := -9) dX5_isShut_5 rfl (by decide) ?_
  refine pb_icmp_eq 10 (tgt := 14) dX5_isShut_7 (by decide) rfl (fun _ => ?_) (fun _ => ?_)
  · refine pb_iconst 15 (v := 0) dX5_isShut_14 rfl (by decide) ?_
    exact pb_zret rfl dX5_isShut_15
  · refine pb_iconst 11 (v := 1) dX5_isShut_10 rfl (by decide) ?_
    refine pb_goto (tgt := 15) dX5_isShut_11 (by decide) ?_
    exact pb_zret rfl dX5_isShut_15
theorem mc_X5_isShut : pb_MC yX5_isShut cX5_isShut 2 (some .boolean) 1 := ⟨pb_inW 412 (by decide +kernel) (by decide +kernel), pb_inW 63 (by decide +kernel) (by decide +kernel), by decide +kernel, by decide +kernel, by decide +kernel⟩
theorem mi_X5_isShut : Cond.instanceMethod yX5_isShut ∈ pb_gw := pb_inW 410 (by decide +kernel) (by decide +kernel)
theorem ms_X5_isShut : Cond.selects (yX5_isShut).cls yX5_isShut yX5_isShut ∈ pb_gw := pb_inW 411 (by decide +kernel) (by decide +kernel)
theorem cl_X5_isShut {α : Type} {l : Launch} {E : pb_E} {R : Room} {own : String} {cc : ByteArray} {mL : Nat} {ret : Option FieldType} {Xs : State → Prop} {nc ns : Nat} {Qf : State → Array Value → List Frame → α → pb_M → State → Prop} {pc : Nat} {L : List (Option Value)} {S : List Value} {μ : pb_M} {f : Int32 → pb_M → Option (α × pb_M)} {h0 : Nat} {v1 : Int32} {index : Nat} (q : Nat) (hv0 : pb_V h0) (hR : 1 + 1 ≤ R.frames ∧ 8 + (2 + 11) + 21 ≤ R.locals ∧ nc ≤ R.cells ∧ ns ≤ R.slots) (hW : (S.map fun v => v.category).sum ≤ 8) (hl1 : Cond.methodLink own index yX5_isShut ∈ pb_gw) (hdg : decode cc pc = .ok (.invokevirtual index, 3)) (hq : pc + 3 = q) (k : ∀ b1 μ1, pb_RW l E R own cc mL ret Xs nc ns Qf q L (.int b1 :: S) μ1 (f b1 μ1)) : pb_RW l E R own cc mL ret Xs nc ns Qf pc L (.int v1 :: .ref (E.2.1 h0) :: S) μ (pb_b (pX5_isShut h0 v1 μ) f) := pb_callV q (fun z : Int32 => some (.int z)) mc_X5_isShut mi_X5_isShut ms_X5_isShut (fun b1 μ1 h => evX5_isShut l E h0 v1 hv0 μ b1 μ1 h) hv0.1 (by decide) rfl rfl rfl rfl hR rfl hW hl1 hdg hq k
def pX5_kindOf (h0 : Nat) (v1 : Int32) (μ : pb_M) : Option (Int32 × pb_M) :=
  if pb_in ((37 : Int32) + v1) 52 then
    some ((μ.1 (h0 + 1) (((37 : Int32) + v1)).toNatClampNeg), μ)
  else none
abbrev wX5_kindOf (l : Launch) (E : pb_E) := pb_RW l E { frames := 0, cells := 0, slots := 0, locals := 0 } RX5 cX5_kindOf 2 (some .int) (fun _ => True) 0 0 (pb_Qf E (fun z : Int32 => some (.int z)))
set_option maxRecDepth 100000 in
set_option maxHeartbeats 4000000 in
theorem evX5_kindOf (l : Launch) (E : pb_E) (h0 : Nat) (v1 : Int32) (hv0 : pb_V h0) (μ : pb_M) : ∀ b μ', pX5_kindOf h0 v1 μ = some (b, μ') → pb_Ev l E yX5_kindOf cX5_kindOf 2 (some .int) { frames := 0, cells := 0, slots := 0, locals := 0 } [.ref (E.2.1 h0), .int v1] μ ((fun z : Int32 => some (.int z)) b) μ' := by
  refine pb_enter (L := [some (.ref (E.2.1 h0)), some (.int v1)]) (by decide +kernel) (Nat.le_of_ble_eq_true rfl) (pb_same [none, none] rfl) (show wX5_kindOf l E 0 [some (.ref (E.2.1 h0)), some (.int v1)] [] μ (pX5_kindOf h0 v1 μ) from ?_)
  unfold pX5_kindOf
  refine pb_aload_n 1 dX5_kindOf_0 rfl rfl rfl ?_
  refine pb_getR 4 (j := 0) (d := (h0 + 1)) in_X5 rfl (by decide) hv0.1 rfl (by decide) fl_X5_11 dX5_kindOf_1 rfl ?_
  refine pb_bipush 6 (v := 37) dX5_kindOf_4 rfl (by decide) ?_
  refine pb_iload_n 7 dX5_kindOf_6 rfl rfl rfl ?_
  refine pb_iadd 8 dX5_kindOf_7 rfl ?_
  refine pb_guard (fun hin => pb_iald 9 hv0.2 hin rfl dX5_kindOf_8 rfl ?_)
  exact pb_iret dX5_kindOf_9
theorem mc_X5_kindOf : pb_MC yX5_kindOf cX5_kindOf 2 (some .int) 1 := ⟨pb_inW 381 (by decide +kernel) (by decide +kernel), pb_inW 63 (by decide +kernel) (by decide +kernel), by decide +kernel, by decide +kernel, by decide +kernel⟩
theorem mi_X5_kindOf : Cond.instanceMethod yX5_kindOf ∈ pb_gw := pb_inW 379 (by decide +kernel) (by decide +kernel)
theorem ms_X5_kindOf : Cond.selects (yX5_kindOf).cls yX5_kindOf yX5_kindOf ∈ pb_gw := pb_inW 380 (by decide +kernel) (by decide +kernel)
theorem cl_X5_kindOf {α : Type} {l : Launch} {E : pb_E} {R : Room} {own : String} {cc : ByteArray} {mL : Nat} {ret : Option FieldType} {Xs : State → Prop} {nc ns : Nat} {Qf : State → Array Value → List Frame → α → pb_M → State → Prop} {pc : Nat} {L : List (Option Value)} {S : List Value} {μ : pb_M} {f : Int32 → pb_M → Option (α × pb_M)} {h0 : Nat} {v1 : Int32} {index : Nat} (q : Nat) (hv0 : pb_V h0) (hR : 0 + 1 ≤ R.frames ∧ 8 + (2 + 11) + 0 ≤ R.locals ∧ nc ≤ R.cells ∧ ns ≤ R.slots) (hW : (S.map fun v => v.category).sum ≤ 8) (hl1 : Cond.methodLink own index yX5_kindOf ∈ pb_gw) (hdg : decode cc pc = .ok (.invokevirtual index, 3)) (hq : pc + 3 = q) (k : ∀ b1 μ1, pb_RW l E R own cc mL ret Xs nc ns Qf q L (.int b1 :: S) μ1 (f b1 μ1)) : pb_RW l E R own cc mL ret Xs nc ns Qf pc L (.int v1 :: .ref (E.2.1 h0) :: S) μ (pb_b (pX5_kindOf h0 v1 μ) f) := pb_callV q (fun z : Int32 => some (.int z)) mc_X5_kindOf mi_X5_kindOf ms_X5_kindOf (fun b1 μ1 h => evX5_kindOf l E h0 v1 hv0 μ b1 μ1 h) hv0.1 (by decide) rfl rfl rfl rfl hR rfl hW hl1 hdg hq k
def pX5_dayNow (h0 : Nat) (μ : pb_M) : Option (Int32 × pb_M) :=
  some ((μ.1 (h0 + 1) 2), μ)
abbrev wX5_dayNow (l : Launch) (E : pb_E) := pb_RW l E { frames := 0, cells := 0, slots := 0, locals := 0 } RX5 cX5_dayNow 1 (some .int) (fun _ => True) 0 0 (pb_Qf E (fun z : Int32 => some (.int z)))
set_option maxRecDepth 100000 in
set_option maxHeartbeats 4000000 in
theorem evX5_dayNow (l : Launch) (E : pb_E) (h0 : Nat) (hv0 : pb_V h0) (μ : pb_M) : ∀ b μ', pX5_dayNow h0 μ = some (b, μ') → pb_Ev l E yX5_dayNow cX5_dayNow 1 (some .int) { frames := 0, cells := 0, slots := 0, locals := 0 } [.ref (E.2.1 h0)] μ ((fun z : Int32 => some (.int z)) b) μ' := by
  refine pb_enter (L := [some (.ref (E.2.1 h0))]) (by decide +kernel) (Nat.le_of_ble_eq_true rfl) (pb_same [none] rfl) (show wX5_dayNow l E 0 [some (.ref (E.2.1 h0))] [] μ (pX5_dayNow h0 μ) from ?_)
  unfold pX5_dayNow
  refine pb_aload_n 1 dX5_dayNow_0 rfl rfl rfl ?_
  refine pb_getR 4 (j := 0) (d := (h0 + 1)) in_X5 rfl (by decide) hv0.1 rfl (by decide) fl_X5_11 dX5_dayNow_1 rfl ?_
  refine pb_iconst 5 (v := 2) dX5_dayNow_4 rfl (by decide) ?_
  refine pb_iald 6 (j := 2) hv0.2 (by decide) (by decide) dX5_dayNow_5 rfl ?_
  exact pb_iret dX5_dayNow_6
theorem mc_X5_dayNow : pb_MC yX5_dayNow cX5_dayNow 1 (some .int) 0 := ⟨pb_inW 422 (by decide +kernel) (by decide +kernel), pb_inW 63 (by decide +kernel) (by decide +kernel), by decide +kernel, by decide +kernel, by decide +kernel⟩
theorem mi_X5_dayNow : Cond.instanceMethod yX5_dayNow ∈ pb_gw := pb_inW 420 (by decide +kernel) (by decide +kernel)
theorem ms_X5_dayNow : Cond.selects (yX5_dayNow).cls yX5_dayNow yX5_dayNow ∈ pb_gw := pb_inW 421 (by decide +kernel) (by decide +kernel)
theorem cl_X5_dayNow {α : Type} {l : Launch} {E : pb_E} {R : Room} {own : String} {cc : ByteArray} {mL : Nat} {ret : Option FieldType} {Xs : State → Prop} {nc ns : Nat} {Qf : State → Array Value → List Frame → α → pb_M → State → Prop} {pc : Nat} {L : List (Option Value)} {S : List Value} {μ : pb_M} {f : Int32 → pb_M → Option (α × pb_M)} {h0 : Nat} {index : Nat} (q : Nat) (hv0 : pb_V h0) (hR : 0 + 1 ≤ R.frames ∧ 8 + (1 + 11) + 0 ≤ R.locals ∧ nc ≤ R.cells ∧ ns ≤ R.slots) (hW : (S.map fun v => v.category).sum ≤ 8) (hl1 : Cond.methodLink own index yX5_dayNow ∈ pb_gw) (hdg : decode cc pc = .ok (.invokevirtual index, 3)) (hq : pc + 3 = q) (k : ∀ b1 μ1, pb_RW l E R own cc mL ret Xs nc ns Qf q L (.int b1 :: S) μ1 (f b1 μ1)) : pb_RW l E R own cc mL ret Xs nc ns Qf pc L (.ref (E.2.1 h0) :: S) μ (pb_b (pX5_dayNow h0 μ) f) := pb_callV q (fun z : Int32 => some (.int z)) mc_X5_dayNow mi_X5_dayNow ms_X5_dayNow (fun b1 μ1 h => evX5_dayNow l E h0 hv0 μ b1 μ1 h) hv0.1 (by decide) rfl rfl rfl rfl hR rfl hW hl1 hdg hq k
def pJ9_floorMod_7cf53 (v0 : Int32) (v1 : Int32) (μ : pb_M) : Option (Int32 × pb_M) :=
  if v1 = 0 then none else
  if (0 : Int32) ≤ (v0 ^^^ v1) then
    some ((pb_rem v0 v1), μ)
  else
  if (pb_rem v0 v1) = (0 : Int32) then
    some ((pb_rem v0 v1), μ)
  else
  some (((pb_rem v0 v1) + v1), μ)
abbrev wJ9_floorMod_7cf53 (l : Launch) (E : pb_E) := pb_RW l E { frames := 0, cells := 0, slots := 0, locals := 0 } RJ9 cJ9_floorMod_7cf53 3 (some .int) (fun _ => True) 0 0 (pb_Qf E (fun z : Int32 => some (.int z)))
set_option maxRecDepth 100000 in
set_option maxHeartbeats 4000000 in
theorem evJ9_floorMod_7cf53 (l : Launch) (E : pb_E) (v0 : Int32) (v1 : Int32)  (μ : pb_M) : ∀ b μ', pJ9_floorMod_7cf53 v0 v1 μ = some (b, μ') → pb_Ev l E yJ9_floorMod_7cf53 cJ9_floorMod_7cf53 3 (some .int) { frames := 0, cells := 0, slots := 0, locals := 0 } [.int v0, .int v1] μ ((fun z : Int32 => some (.int z)) b) μ' := by
  refine pb_enter (L := [some (.int v0), some (.int v1), none]) (by decide +kernel) (Nat.le_of_ble_eq_true rfl) (pb_same [none, none, none] rfl) (show wJ9_floorMod_7cf53 l E 0 [some (.int v0), some (.int v1), none] [] μ (pJ9_floorMod_7cf53 v0 v1 μ) from ?_)
  unfold pJ9_floorMod_7cf53
  refine pb_iload_n 1 dJ9_floorMod_7cf53_0 rfl rfl rfl ?_
  refine pb_iload_n 2 dJ9_floorMod_7cf53_1 rfl rfl rfl ?_
  refine pb_guardN (fun hne => pb_irem 3 dJ9_floorMod_7cf53_2 rfl hne ?_)
  refine pb_istore_n 4 (i := 2) (L' := [some (.int v0), some (.int v1), some (.int (pb_rem v0 v1))]) dJ9_floorMod_7cf53_3 rfl (by decide) rfl rfl rfl ?_
  refine pb_iload_n 5 dJ9_floorMod_7cf53_4 rfl rfl rfl ?_
  refine pb_iload_n 6 dJ9_floorMod_7cf53_5 rfl rfl rfl ?_
  refine pb_ixor 7 dJ9_floorMod_7cf53_6 rfl ?_
  refine pb_if_ge 10 (tgt := 18) dJ9_floorMod_7cf53_7 (by decide) rfl (fun _ => ?_) (fun _ => ?_)
  · refine pb_iload_n 19 dJ9_floorMod_7cf53_18 rfl rfl rfl ?_
    exact pb_iret dJ9_floorMod_7cf53_19
  · refine pb_iload_n 11 dJ9_floorMod_7cf53_10 rfl rfl rfl ?_
    refine pb_if_eq 14 (tgt := 18) dJ9_floorMod_7cf53_11 (by decide) rfl (fun _ => ?_) (fun _ => ?_)
    · refine pb_iload_n 19 dJ9_floorMod_7cf53_18 rfl rfl rfl ?_
      exact pb_iret dJ9_floorMod_7cf53_19
    · refine pb_iload_n 15 dJ9_floorMod_7cf53_14 rfl rfl rfl ?_
      refine pb_iload_n 16 dJ9_floorMod_7cf53_15 rfl rfl rfl ?_
      refine pb_iadd 17 dJ9_floorMod_7cf53_16 rfl ?_
      exact pb_iret dJ9_floorMod_7cf53_17
theorem mc_J9_floorMod_7cf53 : pb_MC yJ9_floorMod_7cf53 cJ9_floorMod_7cf53 3 (some .int) 2 := ⟨pb_inW 425 (by decide +kernel) (by decide +kernel), pb_inW 70 (by decide +kernel) (by decide +kernel), by decide +kernel, by decide +kernel, by decide +kernel⟩
theorem ms_J9_floorMod_7cf53 : Cond.static yJ9_floorMod_7cf53 ∈ pb_gw := pb_inW 424 (by decide +kernel) (by decide +kernel)
theorem cl_J9_floorMod_7cf53 {α : Type} {l : Launch} {E : pb_E} {R : Room} {own : String} {cc : ByteArray} {mL : Nat} {ret : Option FieldType} {Xs : State → Prop} {nc ns : Nat} {Qf : State → Array Value → List Frame → α → pb_M → State → Prop} {pc : Nat} {L : List (Option Value)} {S : List Value} {μ : pb_M} {f : Int32 → pb_M → Option (α × pb_M)} {v0 : Int32} {v1 : Int32} {index : Nat} (q : Nat)  (hR : 0 + 1 ≤ R.frames ∧ 8 + (3 + 11) + 0 ≤ R.locals ∧ nc ≤ R.cells ∧ ns ≤ R.slots) (hW : (S.map fun v => v.category).sum ≤ 8) (hl1 : Cond.methodLink own index yJ9_floorMod_7cf53 ∈ pb_gw) (hdg : decode cc pc = .ok (.invokestatic index, 3)) (hq : pc + 3 = q) (k : ∀ b1 μ1, pb_RW l E R own cc mL ret Xs nc ns Qf q L (.int b1 :: S) μ1 (f b1 μ1)) : pb_RW l E R own cc mL ret Xs nc ns Qf pc L (.int v1 :: .int v0 :: S) μ (pb_b (pJ9_floorMod_7cf53 v0 v1 μ) f) := pb_callS q (fun z : Int32 => some (.int z)) mc_J9_floorMod_7cf53 ms_J9_floorMod_7cf53 (fun b1 μ1 h => evJ9_floorMod_7cf53 l E v0 v1  μ b1 μ1 h) rfl rfl rfl hR rfl hW hl1 hdg hq k
theorem ml_X5_71 : Cond.methodLink RX5 71 yX5_dayNow ∈ pb_gw := pb_inW 419 (by decide +kernel) (by decide +kernel)
theorem ml_X5_74 : Cond.methodLink RX5 74 yJ9_floorMod_7cf53 ∈ pb_gw := pb_inW 423 (by decide +kernel) (by decide +kernel)
def pX5_isMarch (h0 : Nat) (μ : pb_M) : Option (Int32 × pb_M) :=
  pb_b (pX5_dayNow h0 μ) (fun b1 μ1 =>
  pb_b (pJ9_floorMod_7cf53 b1 (12 : Int32) μ1) (fun b6 μ6 =>
  if (3 : Int32) ≤ b6 then
    some ((0 : Int32), μ6)
  else
  some ((1 : Int32), μ6)))
abbrev wX5_isMarch (l : Launch) (E : pb_E) := pb_RW l E { frames := 1, cells := 0, slots := 0, locals := 22 } RX5 cX5_isMarch 1 (some .boolean) (fun _ => True) 0 0 (pb_Qf E (fun z : Int32 => some (.int z)))
set_option maxRecDepth 100000 in
set_option maxHeartbeats 4000000 in
theorem evX5_isMarch (l : Launch) (E : pb_E) (h0 : Nat) (hv0 : pb_V h0) (μ : pb_M) : ∀ b μ', pX5_isMarch h0 μ = some (b, μ') → pb_Ev l E yX5_isMarch cX5_isMarch 1 (some .boolean) { frames := 1, cells := 0, slots := 0, locals := 22 } [.ref (E.2.1 h0)] μ ((fun z : Int32 => some (.int z)) b) μ' := by
  refine pb_enter (L := [some (.ref (E.2.1 h0))]) (by decide +kernel) (Nat.le_of_ble_eq_true rfl) (pb_same [none] rfl) (show wX5_isMarch l E 0 [some (.ref (E.2.1 h0))] [] μ (pX5_isMarch h0 μ) from ?_)
  unfold pX5_isMarch
  refine pb_aload_n 1 dX5_isMarch_0 rfl rfl rfl ?_
  refine cl_X5_dayNow 4 hv0 ⟨by decide, by decide, by decide, by decide⟩ (Nat.le_of_ble_eq_true rfl) ml_X5_71 dX5_isMarch_1 rfl (fun b1 μ1 => ?_)
  refine pb_bipush 6 (v := 12) dX5_isMarch_4 rfl (by decide) ?_
  refine cl_J9_floorMod_7cf53 9 ⟨by decide, by decide, by decide, by decide⟩ (Nat.le_of_ble_eq_true rfl) ml_X5_74 dX5_isMarch_6 rfl (fun b6 μ6 => ?_)
  refine pb_iconst 10 (v := 3) dX5_isMarch_9 rfl (by decide) ?_
  refine pb_icmp_ge 13 (tgt := 17) dX5_isMarch_10 (by decide) rfl (fun _ => ?_) (fun _ => ?_)
  · refine pb_iconst 18 (v := 0) dX5_isMarch_17 rfl (by decide) ?_
    exact pb_zret rfl dX5_isMarch_18
  · refine pb_iconst 14 (v := 1) dX5_isMarch_13 rfl (by decide) ?_
    refine pb_goto (tgt := 18) dX5_isMarch_14 (by decide) ?_
    exact pb_zret rfl dX5_isMarch_18
theorem mc_X5_isMarch : pb_MC yX5_isMarch cX5_isMarch 1 (some .boolean) 0 := ⟨pb_inW 418 (by decide +kernel) (by decide +kernel), pb_inW 63 (by decide +kernel) (by decide +kernel), by decide +kernel, by decide +kernel, by decide +kernel⟩
theorem mi_X5_isMarch : Cond.instanceMethod yX5_isMarch ∈ pb_gw := pb_inW 417 (by decide +kernel) (by decide +kernel)
theorem ms_X5_isMarch : Cond.selects (yX5_isMarch).cls yX5_isMarch yX5_isMarch ∈ pb_gw := pb_inW 5 (by decide +kernel) (by decide +kernel)
theorem cl_X5_isMarch {α : Type} {l : Launch} {E : pb_E} {R : Room} {own : String} {cc : ByteArray} {mL : Nat} {ret : Option FieldType} {Xs : State → Prop} {nc ns : Nat} {Qf : State → Array Value → List Frame → α → pb_M → State → Prop} {pc : Nat} {L : List (Option Value)} {S : List Value} {μ : pb_M} {f : Int32 → pb_M → Option (α × pb_M)} {h0 : Nat} {index : Nat} (q : Nat) (hv0 : pb_V h0) (hR : 1 + 1 ≤ R.frames ∧ 8 + (1 + 11) + 22 ≤ R.locals ∧ nc ≤ R.cells ∧ ns ≤ R.slots) (hW : (S.map fun v => v.category).sum ≤ 8) (hl1 : Cond.methodLink own index yX5_isMarch ∈ pb_gw) (hdg : decode cc pc = .ok (.invokevirtual index, 3)) (hq : pc + 3 = q) (k : ∀ b1 μ1, pb_RW l E R own cc mL ret Xs nc ns Qf q L (.int b1 :: S) μ1 (f b1 μ1)) : pb_RW l E R own cc mL ret Xs nc ns Qf pc L (.ref (E.2.1 h0) :: S) μ (pb_b (pX5_isMarch h0 μ) f) := pb_callV q (fun z : Int32 => some (.int z)) mc_X5_isMarch mi_X5_isMarch ms_X5_isMarch (fun b1 μ1 h => evX5_isMarch l E h0 hv0 μ b1 μ1 h) hv0.1 (by decide) rfl rfl rfl rfl hR rfl hW hl1 hdg hq k
theorem ml_X5_41 : Cond.methodLink RX5 41 yX5_isShut ∈ pb_gw := pb_inW 409 (by decide +kernel) (by decide +kernel)
theorem ml_X5_48 : Cond.methodLink RX5 48 yX5_ownerOf ∈ pb_gw := pb_inW 353 (by decide +kernel) (by decide +kernel)
theorem ml_X5_51 : Cond.methodLink RX5 51 yX5_isDead ∈ pb_gw := pb_inW 408 (by decide +kernel) (by decide +kernel)
theorem ml_X5_58 : Cond.methodLink RX5 58 yX5_debt ∈ pb_gw := pb_inW 308 (by decide +kernel) (by decide +kernel)
theorem ml_X5_64 : Cond.methodLink RX5 64 yX5_kindOf ∈ pb_gw := pb_inW 414 (by decide +kernel) (by decide +kernel)
theorem ml_X5_67 : Cond.methodLink RX5 67 yX5_isMarch ∈ pb_gw := pb_inW 415 (by decide +kernel) (by decide +kernel)
def pX5_clauseFor (h0 : Nat) (v1 : Int32) (v2 : Int32) (μ : pb_M) : Option (Int32 × pb_M) :=
  pb_b (pX5_ownerOf h0 v2 μ) (fun b2 μ2 =>
  if b2 = v1 then
    some ((1 : Int32), μ2)
  else
  pb_b (pX5_isDead h0 v2 μ2) (fun b15 μ15 =>
  if b15 = (0 : Int32) then
    pb_b (pX5_isShut h0 v2 μ15) (fun b25 μ25 =>
    if b25 = (0 : Int32) then
      pb_b (pX5_debt h0 b2 v1 μ25) (fun b36 μ36 =>
      if b36 = (0 : Int32) then
        some ((4 : Int32), μ36)
      else
      pb_b (pX5_kindOf h0 v2 μ36) (fun b46 μ46 =>
      if b46 = (1 : Int32) then
        pb_b (pX5_isMarch h0 μ46) (fun b54 μ54 =>
        if b54 = (0 : Int32) then
          pb_b (pX5_kindOf h0 v2 μ54) (fun b64 μ64 =>
          if b64 = (3 : Int32) then
            some ((6 : Int32), μ64)
          else
          some ((0 : Int32), μ64))
        else
        some ((5 : Int32), μ54))
      else
      pb_b (pX5_kindOf h0 v2 μ46) (fun b64 μ64 =>
      if b64 = (3 : Int32) then
        some ((6 : Int32), μ64)
      else
      some ((0 : Int32), μ64))))
    else
    some ((3 : Int32), μ25))
  else
  some ((2 : Int32), μ15)))
abbrev wX5_clauseFor (l : Launch) (E : pb_E) := pb_RW l E { frames := 2, cells := 0, slots := 0, locals := 42 } RX5 cX5_clauseFor 4 (some .int) (fun _ => True) 0 0 (pb_Qf E (fun z : Int32 => some (.int z)))
set_option maxRecDepth 100000 in
set_option maxHeartbeats 4000000 in
theorem evX5_clauseFor (l : Launch) (E : pb_E) (h0 : Nat) (v1 : Int32) (v2 : Int32) (hv0 : pb_V h0) (μ : pb_M) : ∀ b μ', pX5_clauseFor h0 v1 v2 μ = some (b, μ') → pb_Ev l E yX5_clauseFor cX5_clauseFor 4 (some .int) { frames := 2, cells := 0, slots := 0, locals := 42 } [.ref (E.2.1 h0), .int v1, .int v2] μ ((fun z : Int32 => some (.int z)) b) μ' := by
  refine pb_enter (L := [some (.ref (E.2.1 h0)), some (.int v1), some (.int v2), none]) (by decide +kernel) (Nat.le_of_ble_eq_true rfl) (pb_same [none, none, none, none] rfl) (show wX5_clauseFor l E 0 [some (.ref (E.2.1 h0)), some (.int v1), some (.int v2), none] [] μ (pX5_clauseFor h0 v1 v2 μ) from ?_)
  unfold pX5_clauseFor
  refine pb_aload_n 1 dX5_clauseFor_0 rfl rfl rfl ?_
  refine pb_iload_n 2 dX5_clauseFor_1 rfl rfl rfl ?_
  refine cl_X5_ownerOf 5 hv0 ⟨by decide, by decide, by decide, by decide⟩ (Nat.le_of_ble_eq_true rfl) ml_X5_48 dX5_clauseFor_2 rfl (fun b2 μ2 => ?_)
  refine pb_istore_n 6 (i := 3) (L' := [some (.ref (E.2.1 h0)), some (.int v1), some (.int v2), some (.int b2)]) dX5_clauseFor_5 rfl (by decide) rfl rfl rfl ?_
  refine pb_iload_n 7 dX5_clauseFor_6 rfl rfl rfl ?_
  refine pb_iload_n 8 dX5_clauseFor_7 rfl rfl rfl ?_
  refine pb_icmp_ne 11 (tgt := 13) dX5_clauseFor_8 (by decide) rfl (fun _ => ?_) (fun _ => ?_)
  · refine pb_iconst 12 (v := 1) dX5_clauseFor_11 rfl (by decide) ?_
    exact pb_iret dX5_clauseFor_12
  · refine pb_aload_n 14 dX5_clauseFor_13 rfl rfl rfl ?_
    refine pb_iload_n 15 dX5_clauseFor_14 rfl rfl rfl ?_
    refine cl_X5_isDead 18 hv0 ⟨by decide, by decide, by decide, by decide⟩ (Nat.le_of_ble_eq_true rfl) ml_X5_51 dX5_clauseFor_15 rfl (fun b15 μ15 => ?_)
    refine pb_if_eq 21 (tgt := 23) dX5_clauseFor_18 (by decide) rfl (fun _ => ?_) (fun _ => ?_)
    · refine pb_aload_n 24 dX5_clauseFor_23 rfl rfl rfl ?_
      refine pb_iload_n 25 dX5_clauseFor_24 rfl rfl rfl ?_
      refine cl_X5_isShut 28 hv0 ⟨by decide, by decide, by decide, by decide⟩ (Nat.le_of_ble_eq_true rfl) ml_X5_41 dX5_clauseFor_25 rfl (fun b25 μ25 => ?_)
      refine pb_if_eq 31 (tgt := 33) dX5_clauseFor_28 (by decide) rfl (fun _ => ?_) (fun _ => ?_)
      · refine pb_aload_n 34 dX5_clauseFor_33 rfl rfl rfl ?_
        refine pb_iload_n 35 dX5_clauseFor_34 rfl rfl rfl ?_
        refine pb_iload_n 36 dX5_clauseFor_35 rfl rfl rfl ?_
        refine cl_X5_debt 39 hv0 ⟨by decide, by decide, by decide, by decide⟩ (Nat.le_of_ble_eq_true rfl) ml_X5_58 dX5_clauseFor_36 rfl (fun b36 μ36 => ?_)
        refine pb_if_ne 42 (tgt := 44) dX5_clauseFor_39 (by decide) rfl (fun _ => ?_) (fun _ => ?_)
        · refine pb_iconst 43 (v := 4) dX5_clauseFor_42 rfl (by decide) ?_
          exact pb_iret dX5_clauseFor_43
        · refine pb_aload_n 45 dX5_clauseFor_44 rfl rfl rfl ?_
          refine pb_iload_n 46 dX5_clauseFor_45 rfl rfl rfl ?_
          refine cl_X5_kindOf 49 hv0 ⟨by decide, by decide, by decide, by decide⟩ (Nat.le_of_ble_eq_true rfl) ml_X5_64 dX5_clauseFor_46 rfl (fun b46 μ46 => ?_)
          refine pb_iconst 50 (v := 1) dX5_clauseFor_49 rfl (by decide) ?_
          refine pb_icmp_ne 53 (tgt := 62) dX5_clauseFor_50 (by decide) rfl (fun _ => ?_) (fun _ => ?_)
          · refine pb_aload_n 54 dX5_clauseFor_53 rfl rfl rfl ?_
            refine cl_X5_isMarch 57 hv0 ⟨by decide, by decide, by decide, by decide⟩ (Nat.le_of_ble_eq_true rfl) ml_X5_67 dX5_clauseFor_54 rfl (fun b54 μ54 => ?_)
            refine pb_if_eq 60 (tgt := 62) dX5_clauseFor_57 (by decide) rfl (fun _ => ?_) (fun _ => ?_)
            · refine pb_aload_n 63 dX5_clauseFor_62 rfl rfl rfl ?_
              refine pb_iload_n 64 dX5_clauseFor_63 rfl rfl rfl ?_
              refine cl_X5_kindOf 67 hv0 ⟨by decide, by decide, by decide, by decide⟩ (Nat.le_of_ble_eq_true rfl) ml_X5_64 dX5_clauseFor_64 rfl (fun b64 μ64 => ?_)
              refine pb_iconst 68 (v := 3) dX5_clauseFor_67 rfl (by decide) ?_
              refine pb_icmp_ne 71 (tgt := 76) dX5_clauseFor_68 (by decide) rfl (fun _ => ?_) (fun _ => ?_)
              · refine pb_bipush 73 (v := 6) dX5_clauseFor_71 rfl (by decide) ?_
                refine pb_goto (tgt := 77) dX5_clauseFor_73 (by decide) ?_
                exact pb_iret dX5_clauseFor_77
              · refine pb_iconst 77 (v := 0) dX5_clauseFor_76 rfl (by decide) ?_
                exact pb_iret dX5_clauseFor_77
            · refine pb_iconst 61 (v := 5) dX5_clauseFor_60 rfl (by decide) ?_
              exact pb_iret dX5_clauseFor_61
          · refine pb_aload_n 63 dX5_clauseFor_62 rfl rfl rfl ?_
            refine pb_iload_n 64 dX5_clauseFor_63 rfl rfl rfl ?_
            refine cl_X5_kindOf 67 hv0 ⟨by decide, by decide, by decide, by decide⟩ (Nat.le_of_ble_eq_true rfl) ml_X5_64 dX5_clauseFor_64 rfl (fun b64 μ64 => ?_)
            refine pb_iconst 68 (v := 3) dX5_clauseFor_67 rfl (by decide) ?_
            refine pb_icmp_ne 71 (tgt := 76) dX5_clauseFor_68 (by decide) rfl (fun _ => ?_) (fun _ => ?_)
            · refine pb_bipush 73 (v := 6) dX5_clauseFor_71 rfl (by decide) ?_
              refine pb_goto (tgt := 77) dX5_clauseFor_73 (by decide) ?_
              exact pb_iret dX5_clauseFor_77
            · refine pb_iconst 77 (v := 0) dX5_clauseFor_76 rfl (by decide) ?_
              exact pb_iret dX5_clauseFor_77
      · refine pb_iconst 32 (v := 3) dX5_clauseFor_31 rfl (by decide) ?_
        exact pb_iret dX5_clauseFor_32
    · refine pb_iconst 22 (v := 2) dX5_clauseFor_21 rfl (by decide) ?_
      exact pb_iret dX5_clauseFor_22
theorem mc_X5_clauseFor : pb_MC yX5_clauseFor cX5_clauseFor 4 (some .int) 2 := ⟨pb_inW 407 (by decide +kernel) (by decide +kernel), pb_inW 63 (by decide +kernel) (by decide +kernel), by decide +kernel, by decide +kernel, by decide +kernel⟩
theorem mi_X5_clauseFor : Cond.instanceMethod yX5_clauseFor ∈ pb_gw := pb_inW 405 (by decide +kernel) (by decide +kernel)
theorem ms_X5_clauseFor : Cond.selects (yX5_clauseFor).cls yX5_clauseFor yX5_clauseFor ∈ pb_gw := pb_inW 406 (by decide +kernel) (by decide +kernel)
theorem cl_X5_clauseFor {α : Type} {l : Launch} {E : pb_E} {R : Room} {own : String} {cc : ByteArray} {mL : Nat} {ret : Option FieldType} {Xs : State → Prop} {nc ns : Nat} {Qf : State → Array Value → List Frame → α → pb_M → State → Prop} {pc : Nat} {L : List (Option Value)} {S : List Value} {μ : pb_M} {f : Int32 → pb_M → Option (α × pb_M)} {h0 : Nat} {v1 : Int32} {v2 : Int32} {index : Nat} (q : Nat) (hv0 : pb_V h0) (hR : 2 + 1 ≤ R.frames ∧ 8 + (4 + 11) + 42 ≤ R.locals ∧ nc ≤ R.cells ∧ ns ≤ R.slots) (hW : (S.map fun v => v.category).sum ≤ 8) (hl1 : Cond.methodLink own index yX5_clauseFor ∈ pb_gw) (hdg : decode cc pc = .ok (.invokevirtual index, 3)) (hq : pc + 3 = q) (k : ∀ b1 μ1, pb_RW l E R own cc mL ret Xs nc ns Qf q L (.int b1 :: S) μ1 (f b1 μ1)) : pb_RW l E R own cc mL ret Xs nc ns Qf pc L (.int v2 :: .int v1 :: .ref (E.2.1 h0) :: S) μ (pb_b (pX5_clauseFor h0 v1 v2 μ) f) := pb_callV q (fun z : Int32 => some (.int z)) mc_X5_clauseFor mi_X5_clauseFor ms_X5_clauseFor (fun b1 μ1 h => evX5_clauseFor l E h0 v1 v2 hv0 μ b1 μ1 h) hv0.1 (by decide) rfl rfl rfl rfl hR rfl hW hl1 hdg hq k
