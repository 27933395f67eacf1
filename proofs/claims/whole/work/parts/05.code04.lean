theorem ml_X3_52 : Cond.methodLink RX3 52 Lib.Math.min.name ∈ pb_gw := pb_inW 644 (by decide +kernel) (by decide +kernel)
def pX3_leastDebt_L5 (h1 : Nat) : Nat → Int32 → Int32 → pb_M → Option (Int32 × pb_M)
  | 0, _, _, _ => none
  | n + 1, v2, v3, μ =>
    if (μ.1 12 2) ≤ v3 then
      some (v2, μ)
    else
    if (μ.1 12 2) ≤ (v3 + (1 : Int32)) then
      if pb_in v3 4 then
        pb_b (pX5_debt h1 (μ.1 14 (v3).toNatClampNeg) (μ.1 14 0) μ) (fun b52 μ52 =>
        pX3_leastDebt_L5 h1 n (if b52 < v2 then b52 else v2) (v3 + (1 : Int32)) μ52)
      else none
    else
    if pb_in (v3 + (1 : Int32)) 4 then
      if pb_in v3 4 then
        pb_b (pX5_debt h1 (μ.1 14 (v3).toNatClampNeg) (μ.1 14 ((v3 + (1 : Int32))).toNatClampNeg) μ) (fun b52 μ52 =>
        pX3_leastDebt_L5 h1 n (if b52 < v2 then b52 else v2) (v3 + (1 : Int32)) μ52)
      else none
    else none
def pX3_leastDebt (h1 : Nat) (μ : pb_M) : Option (Int32 × pb_M) :=
  pX3_leastDebt_L5 h1 pb_F (99 : Int32) (0 : Int32) μ
abbrev wX3_leastDebt (l : Launch) (E : pb_E) := pb_RW l E { frames := 1, cells := 0, slots := 0, locals := 22 } RX3 cX3_leastDebt 5 (some .int) (fun _ => True) 0 0 (pb_Qf E (fun z : Int32 => some (.int z)))
set_option maxRecDepth 100000 in
set_option maxHeartbeats 4000000 in
theorem tX3_leastDebt_L5 (l : Launch) (E : pb_E) (h1 : Nat) (hv1 : pb_V h1)   : ∀ (n : Nat) (v2 : Int32) (v3 : Int32) (μ : pb_M), wX3_leastDebt l E 5 [some (.ref (E.2.1 12)), some (.ref (E.2.1 h1)), some (.int v2), some (.int v3), none] [] μ (pX3_leastDebt_L5 h1 n v2 v3 μ) := by
  intro n
  induction n with
  | zero => intro v2 v3 μ; exact pb_none
  | succ n ih =>
    intro v2 v3 μ
    rw [pX3_leastDebt_L5]
    refine pb_iload_n 6 dX3_leastDebt_5 rfl rfl rfl ?_
    refine pb_aload_n 7 dX3_leastDebt_6 rfl rfl rfl ?_
    refine pb_getI 10 (j := 2) in_X3 rfl (by decide) rfl rfl (by decide) fl_X3_18 dX3_leastDebt_7 rfl ?_
    refine pb_icmp_ge 13 (tgt := 65) dX3_leastDebt_10 (by decide) rfl (fun _ => ?_) (fun _ => ?_)
    · refine pb_iload_n 66 dX3_leastDebt_65 rfl rfl rfl ?_
      exact pb_iret dX3_leastDebt_66
    · refine pb_iload_n 14 dX3_leastDebt_13 rfl rfl rfl ?_
      refine pb_iconst 15 (v := 1) dX3_leastDebt_14 rfl (by decide) ?_
      refine pb_iadd 16 dX3_leastDebt_15 rfl ?_
      refine pb_aload_n 17 dX3_leastDebt_16 rfl rfl rfl ?_
      refine pb_getI 20 (j := 2) in_X3 rfl (by decide) rfl rfl (by decide) fl_X3_18 dX3_leastDebt_17 rfl ?_
      refine pb_icmp_ge 23 (tgt := 34) dX3_leastDebt_20 (by decide) rfl (fun _ => ?_) (fun _ => ?_)
      · refine pb_aload_n 35 dX3_leastDebt_34 rfl rfl rfl ?_
        refine pb_getR 38 (j := 1) (d := 14) in_X3 rfl (by decide) rfl rfl (by decide) fl_X3_15 dX3_leastDebt_35 rfl ?_
        refine pb_iconst 39 (v := 0) dX3_leastDebt_38 rfl (by decide) ?_
        refine pb_iald 40 (j := 0) rfl (by decide) (by decide) dX3_leastDebt_39 rfl ?_
        refine pb_istore 42 (i := 4) (L' := [some (.ref (E.2.1 12)), some (.ref (E.2.1 h1)), some (.int v2), some (.int v3), some (.int (μ.1 14 0))]) dX3_leastDebt_40 (by decide) rfl rfl rfl ?_
        refine pb_iload_n 43 dX3_leastDebt_42 rfl rfl rfl ?_
        refine pb_aload_n 44 dX3_leastDebt_43 rfl rfl rfl ?_
        refine pb_aload_n 45 dX3_leastDebt_44 rfl rfl rfl ?_
        refine pb_getR 48 (j := 1) (d := 14) in_X3 rfl (by decide) rfl rfl (by decide) fl_X3_15 dX3_leastDebt_45 rfl ?_
        refine pb_iload_n 49 dX3_leastDebt_48 rfl rfl rfl ?_
        refine pb_guard (fun hin => pb_iald 50 rfl hin rfl dX3_leastDebt_49 rfl ?_)
        refine pb_iload 52 dX3_leastDebt_50 rfl rfl ?_
        refine cl_X5_debt 55 hv1 ⟨by decide, by decide, by decide, by decide⟩ (Nat.le_of_ble_eq_true rfl) ml_X3_44 dX3_leastDebt_52 rfl (fun b52 μ52 => ?_)
        refine pb_min 58 ml_X3_52 km_min1 km_2 km_min3 ⟨by decide, Nat.le_of_ble_eq_true rfl, by decide, by decide⟩ dX3_leastDebt_55 rfl ?_
        refine pb_istore_n 59 (i := 2) (L' := [some (.ref (E.2.1 12)), some (.ref (E.2.1 h1)), some (.int (if b52 < v2 then b52 else v2)), some (.int v3), some (.int (μ.1 14 0))]) dX3_leastDebt_58 rfl (by decide) rfl rfl rfl ?_
        refine pb_iinc 62 (i := 3) (v := (v3 + (1 : Int32))) (L' := [some (.ref (E.2.1 12)), some (.ref (E.2.1 h1)), some (.int (if b52 < v2 then b52 else v2)), some (.int (v3 + (1 : Int32))), some (.int (μ.1 14 0))]) dX3_leastDebt_59 rfl rfl (by decide) rfl rfl rfl ?_
        refine pb_goto (tgt := 5) dX3_leastDebt_62 (by decide) ?_
        refine pb_weakM (L' := [some (.ref (E.2.1 12)), some (.ref (E.2.1 h1)), some (.int (if b52 < v2 then b52 else v2)), some (.int (v3 + (1 : Int32))), none]) [true, true, true, true, false] rfl ?_
        exact ih (if b52 < v2 then b52 else v2) (v3 + (1 : Int32)) μ52
      · refine pb_aload_n 24 dX3_leastDebt_23 rfl rfl rfl ?_
        refine pb_getR 27 (j := 1) (d := 14) in_X3 rfl (by decide) rfl rfl (by decide) fl_X3_15 dX3_leastDebt_24 rfl ?_
        refine pb_iload_n 28 dX3_leastDebt_27 rfl rfl rfl ?_
        refine pb_iconst 29 (v := 1) dX3_leastDebt_28 rfl (by decide) ?_
        refine pb_iadd 30 dX3_leastDebt_29 rfl ?_
        refine pb_guard (fun hin => pb_iald 31 rfl hin rfl dX3_leastDebt_30 rfl ?_)
        refine pb_goto (tgt := 40) dX3_leastDebt_31 (by decide) ?_
        refine pb_istore 42 (i := 4) (L' := [some (.ref (E.2.1 12)), some (.ref (E.2.1 h1)), some (.int v2), some (.int v3), some (.int (μ.1 14 ((v3 + (1 : Int32))).toNatClampNeg))]) dX3_leastDebt_40 (by decide) rfl rfl rfl ?_
        refine pb_iload_n 43 dX3_leastDebt_42 rfl rfl rfl ?_
        refine pb_aload_n 44 dX3_leastDebt_43 rfl rfl rfl ?_
        refine pb_aload_n 45 dX3_leastDebt_44 rfl rfl rfl ?_
        refine pb_getR 48 (j := 1) (d := 14) in_X3 rfl (by decide) rfl rfl (by decide) fl_X3_15 dX3_leastDebt_45 rfl ?_
        refine pb_iload_n 49 dX3_leastDebt_48 rfl rfl rfl ?_
        refine pb_guard (fun hin => pb_iald 50 rfl hin rfl dX3_leastDebt_49 rfl ?_)
        refine pb_iload 52 dX3_leastDebt_50 rfl rfl ?_
        refine cl_X5_debt 55 hv1 ⟨by decide, by decide, by decide, by decide⟩ (Nat.le_of_ble_eq_true rfl) ml_X3_44 dX3_leastDebt_52 rfl (fun b52 μ52 => ?_)
        refine pb_min 58 ml_X3_52 km_min1 km_2 km_min3 ⟨by decide, Nat.le_of_ble_eq_true rfl, by decide, by decide⟩ dX3_leastDebt_55 rfl ?_
        refine pb_istore_n 59 (i := 2) (L' := [some (.ref (E.2.1 12)), some (.ref (E.2.1 h1)), some (.int (if b52 < v2 then b52 else v2)), some (.int v3), some (.int (μ.1 14 ((v3 + (1 : Int32))).toNatClampNeg))]) dX3_leastDebt_58 rfl (by decide) rfl rfl rfl ?_
        refine pb_iinc 62 (i := 3) (v := (v3 + (1 : Int32))) (L' := [some (.ref (E.2.1 12)), some (.ref (E.2.1 h1)), some (.int (if b52 < v2 then b52 else v2)), some (.int (v3 + (1 : Int32))), some (.int (μ.1 14 ((v3 + (1 : Int32))).toNatClampNeg))]) dX3_leastDebt_59 rfl rfl (by decide) rfl rfl rfl ?_
        refine pb_goto (tgt := 5) dX3_leastDebt_62 (by decide) ?_
        refine pb_weakM (L' := [some (.ref (E.2.1 12)), some (.ref (E.2.1 h1)), some (.int (if b52 < v2 then b52 else v2)), some (.int (v3 + (1 : Int32))), none]) [true, true, true, true, false] rfl ?_
        exact ih (if b52 < v2 then b52 else v2) (v3 + (1 : Int32)) μ52
set_option maxRecDepth 100000 in
set_option maxHeartbeats 4000000 in
theorem evX3_leastDebt (l : Launch) (E : pb_E) (h1 : Nat) (hv1 : pb_V h1) (μ : pb_M) : ∀ b μ', pX3_leastDebt h1 μ = some (b, μ') → pb_Ev l E yX3_leastDebt cX3_leastDebt 5 (some .int) { frames := 1, cells := 0, slots := 0, locals := 22 } [.ref (E.2.1 12), .ref (E.2.1 h1)] μ ((fun z : Int32 => some (.int z)) b) μ' := by
  refine pb_enter (L := [some (.ref (E.2.1 12)), some (.ref (E.2.1 h1)), none, none, none]) (by decide +kernel) (Nat.le_of_ble_eq_true rfl) (pb_same [none, none, none, none, none] rfl) (show wX3_leastDebt l E 0 [some (.ref (E.2.1 12)), some (.ref (E.2.1 h1)), none, none, none] [] μ (pX3_leastDebt h1 μ) from ?_)
  unfold pX3_leastDebt
  refine pb_bipush 2 (v := 99) dX3_leastDebt_0 rfl (by decide) ?_
  refine pb_istore_n 3 (i := 2) (L' := [some (.ref (E.2.1 12)), some (.ref (E.2.1 h1)), some (.int (99 : Int32)), none, none]) dX3_leastDebt_2 rfl (by decide) rfl rfl rfl ?_
  refine pb_iconst 4 (v := 0) dX3_leastDebt_3 rfl (by decide) ?_
  refine pb_istore_n 5 (i := 3) (L' := [some (.ref (E.2.1 12)), some (.ref (E.2.1 h1)), some (.int (99 : Int32)), some (.int (0 : Int32)), none]) dX3_leastDebt_4 rfl (by decide) rfl rfl rfl ?_
  exact tX3_leastDebt_L5 l E h1 hv1 pb_F (99 : Int32) (0 : Int32) μ
theorem mc_X3_leastDebt : pb_MC yX3_leastDebt cX3_leastDebt 5 (some .int) 1 := ⟨pb_inW 643 (by decide +kernel) (by decide +kernel), pb_inW 66 (by decide +kernel) (by decide +kernel), by decide +kernel, by decide +kernel, by decide +kernel⟩
theorem mi_X3_leastDebt : Cond.instanceMethod yX3_leastDebt ∈ pb_gw := pb_inW 641 (by decide +kernel) (by decide +kernel)
theorem ms_X3_leastDebt : Cond.selects (yX3_leastDebt).cls yX3_leastDebt yX3_leastDebt ∈ pb_gw := pb_inW 642 (by decide +kernel) (by decide +kernel)
theorem cl_X3_leastDebt {α : Type} {l : Launch} {E : pb_E} {R : Room} {own : String} {cc : ByteArray} {mL : Nat} {ret : Option FieldType} {Xs : State → Prop} {nc ns : Nat} {Qf : State → Array Value → List Frame → α → pb_M → State → Prop} {pc : Nat} {L : List (Option Value)} {S : List Value} {μ : pb_M} {f : Int32 → pb_M → Option (α × pb_M)} {h1 : Nat} {index : Nat} (q : Nat) (hv1 : pb_V h1) (hR : 1 + 1 ≤ R.frames ∧ 8 + (5 + 11) + 22 ≤ R.locals ∧ nc ≤ R.cells ∧ ns ≤ R.slots) (hW : (S.map fun v => v.category).sum ≤ 8) (hl1 : Cond.methodLink own index yX3_leastDebt ∈ pb_gw) (hdg : decode cc pc = .ok (.invokevirtual index, 3)) (hq : pc + 3 = q) (k : ∀ b1 μ1, pb_RW l E R own cc mL ret Xs nc ns Qf q L (.int b1 :: S) μ1 (f b1 μ1)) : pb_RW l E R own cc mL ret Xs nc ns Qf pc L (.ref (E.2.1 h1) :: .ref (E.2.1 12) :: S) μ (pb_b (pX3_leastDebt h1 μ) f) := pb_callV q (fun z : Int32 => some (.int z)) mc_X3_leastDebt mi_X3_leastDebt ms_X3_leastDebt (fun b1 μ1 h => evX3_leastDebt l E h1 hv1 μ b1 μ1 h) rfl (by decide) rfl rfl rfl rfl hR rfl hW hl1 hdg hq k
theorem fl_X4_18 : Cond.fieldLink RX4 18 (TX4 2).1 (TX4 2).2.1 (TX4 2).2.2.1 ∈ pb_gw := pb_inW 89 (by decide +kernel) (by decide +kernel)
def pX4_length  (μ : pb_M) : Option (Int32 × pb_M) :=
  some ((μ.1 1 2), μ)
abbrev wX4_length (l : Launch) (E : pb_E) := pb_RW l E { frames := 0, cells := 0, slots := 0, locals := 0 } RX4 cX4_length 1 (some .int) (fun _ => True) 0 0 (pb_Qf E (fun z : Int32 => some (.int z)))
set_option maxRecDepth 100000 in
set_option maxHeartbeats 4000000 in
theorem evX4_length (l : Launch) (E : pb_E)   (μ : pb_M) : ∀ b μ', pX4_length  μ = some (b, μ') → pb_Ev l E yX4_length cX4_length 1 (some .int) { frames := 0, cells := 0, slots := 0, locals := 0 } [.ref (E.2.1 1)] μ ((fun z : Int32 => some (.int z)) b) μ' := by
  refine pb_enter (L := [some (.ref (E.2.1 1))]) (by decide +kernel) (Nat.le_of_ble_eq_true rfl) (pb_same [none] rfl) (show wX4_length l E 0 [some (.ref (E.2.1 1))] [] μ (pX4_length  μ) from ?_)
  unfold pX4_length
  refine pb_aload_n 1 dX4_length_0 rfl rfl rfl ?_
  refine pb_getI 4 (j := 2) in_X4 rfl (by decide) rfl rfl (by decide) fl_X4_18 dX4_length_1 rfl ?_
  exact pb_iret dX4_length_4
theorem mc_X4_length : pb_MC yX4_length cX4_length 1 (some .int) 0 := ⟨pb_inW 223 (by decide +kernel) (by decide +kernel), pb_inW 62 (by decide +kernel) (by decide +kernel), by decide +kernel, by decide +kernel, by decide +kernel⟩
theorem mi_X4_length : Cond.instanceMethod yX4_length ∈ pb_gw := pb_inW 221 (by decide +kernel) (by decide +kernel)
theorem ms_X4_length : Cond.selects (yX4_length).cls yX4_length yX4_length ∈ pb_gw := pb_inW 222 (by decide +kernel) (by decide +kernel)
theorem cl_X4_length {α : Type} {l : Launch} {E : pb_E} {R : Room} {own : String} {cc : ByteArray} {mL : Nat} {ret : Option FieldType} {Xs : State → Prop} {nc ns : Nat} {Qf : State → Array Value → List Frame → α → pb_M → State → Prop} {pc : Nat} {L : List (Option Value)} {S : List Value} {μ : pb_M} {f : Int32 → pb_M → Option (α × pb_M)}  {index : Nat} (q : Nat)  (hR : 0 + 1 ≤ R.frames ∧ 8 + (1 + 11) + 0 ≤ R.locals ∧ nc ≤ R.cells ∧ ns ≤ R.slots) (hW : (S.map fun v => v.category).sum ≤ 8) (hl1 : Cond.methodLink own index yX4_length ∈ pb_gw) (hdg : decode cc pc = .ok (.invokevirtual index, 3)) (hq : pc + 3 = q) (k : ∀ b1 μ1, pb_RW l E R own cc mL ret Xs nc ns Qf q L (.int b1 :: S) μ1 (f b1 μ1)) : pb_RW l E R own cc mL ret Xs nc ns Qf pc L (.ref (E.2.1 1) :: S) μ (pb_b (pX4_length  μ) f) := pb_callV q (fun z : Int32 => some (.int z)) mc_X4_length mi_X4_length ms_X4_length (fun b1 μ1 h => evX4_length l E   μ b1 μ1 h) rfl (by decide) rfl rfl rfl rfl hR rfl hW hl1 hdg hq k
def pX4_clear  (μ : pb_M) : Option (Unit × pb_M) :=
  some ((), (pb_sA μ 1 (upd (μ.1 1) 2 (0 : Int32))))
abbrev wX4_clear (l : Launch) (E : pb_E) := pb_RW l E { frames := 0, cells := 0, slots := 0, locals := 0 } RX4 cX4_clear 1 none (fun _ => True) 0 0 (pb_Qf E (fun _ : Unit => none))
set_option maxRecDepth 100000 in
set_option maxHeartbeats 4000000 in
theorem evX4_clear (l : Launch) (E : pb_E)   (μ : pb_M) : ∀ b μ', pX4_clear  μ = some (b, μ') → pb_Ev l E yX4_clear cX4_clear 1 none { frames := 0, cells := 0, slots := 0, locals := 0 } [.ref (E.2.1 1)] μ ((fun _ : Unit => none) b) μ' := by
  refine pb_enter (L := [some (.ref (E.2.1 1))]) (by decide +kernel) (Nat.le_of_ble_eq_true rfl) (pb_same [none] rfl) (show wX4_clear l E 0 [some (.ref (E.2.1 1))] [] μ (pX4_clear  μ) from ?_)
  unfold pX4_clear
  refine pb_aload_n 1 dX4_clear_0 rfl rfl rfl ?_
  refine pb_iconst 2 (v := 0) dX4_clear_1 rfl (by decide) ?_
  refine pb_putI 5 (j := 2) tyX4 tyX4_ok nmX4 in_X4 rfl (by decide) rfl rfl (by decide) fl_X4_18 rfl (by decide +kernel) dX4_clear_2 rfl ?_
  exact pb_vret dX4_clear_5
theorem mc_X4_clear : pb_MC yX4_clear cX4_clear 1 none 0 := ⟨pb_inW 231 (by decide +kernel) (by decide +kernel), pb_inW 62 (by decide +kernel) (by decide +kernel), by decide +kernel, by decide +kernel, by decide +kernel⟩
theorem mi_X4_clear : Cond.instanceMethod yX4_clear ∈ pb_gw := pb_inW 229 (by decide +kernel) (by decide +kernel)
theorem ms_X4_clear : Cond.selects (yX4_clear).cls yX4_clear yX4_clear ∈ pb_gw := pb_inW 230 (by decide +kernel) (by decide +kernel)
theorem cl_X4_clear {α : Type} {l : Launch} {E : pb_E} {R : Room} {own : String} {cc : ByteArray} {mL : Nat} {ret : Option FieldType} {Xs : State → Prop} {nc ns : Nat} {Qf : State → Array Value → List Frame → α → pb_M → State → Prop} {pc : Nat} {L : List (Option Value)} {S : List Value} {μ : pb_M} {f : Unit → pb_M → Option (α × pb_M)}  {index : Nat} (q : Nat)  (hR : 0 + 1 ≤ R.frames ∧ 8 + (1 + 11) + 0 ≤ R.locals ∧ nc ≤ R.cells ∧ ns ≤ R.slots) (hW : (S.map fun v => v.category).sum ≤ 8) (hl1 : Cond.methodLink own index yX4_clear ∈ pb_gw) (hdg : decode cc pc = .ok (.invokevirtual index, 3)) (hq : pc + 3 = q) (k : ∀ b1 μ1, pb_RW l E R own cc mL ret Xs nc ns Qf q L S μ1 (f b1 μ1)) : pb_RW l E R own cc mL ret Xs nc ns Qf pc L (.ref (E.2.1 1) :: S) μ (pb_b (pX4_clear  μ) f) := pb_callV q (fun _ : Unit => none) mc_X4_clear mi_X4_clear ms_X4_clear (fun b1 μ1 h => evX4_clear l E   μ b1 μ1 h) rfl (by decide) rfl rfl rfl rfl hR rfl hW hl1 hdg hq k
theorem fl_X4_9 : Cond.fieldLink RX4 9 (TX4 0).1 (TX4 0).2.1 (TX4 0).2.2.1 ∈ pb_gw := pb_inW 87 (by decide +kernel) (by decide +kernel)
def pX4_append (v1 : Int32) (μ : pb_M) : Option (Int32 × pb_M) :=
  if (μ.1 1 2) < (56 : Int32) then
    if pb_in (μ.1 1 2) 56 then
      some ((1 : Int32), (pb_sA (pb_sA μ 2 (upd (μ.1 2) ((μ.1 1 2)).toNatClampNeg v1)) 1 (upd ((pb_sA μ 2 (upd (μ.1 2) ((μ.1 1 2)).toNatClampNeg v1)).1 1) 2 (((pb_sA μ 2 (upd (μ.1 2) ((μ.1 1 2)).toNatClampNeg v1)).1 1 2) + (1 : Int32)))))
    else none
  else
  some ((0 : Int32), μ)
abbrev wX4_append (l : Launch) (E : pb_E) := pb_RW l E { frames := 0, cells := 0, slots := 0, locals := 0 } RX4 cX4_append 2 (some .boolean) (fun _ => True) 0 0 (pb_Qf E (fun z : Int32 => some (.int z)))
set_option maxRecDepth 100000 in
set_option maxHeartbeats 4000000 in
theorem evX4_append (l : Launch) (E : pb_E) (v1 : Int32)  (μ : pb_M) : ∀ b μ', pX4_append v1 μ = some (b, μ') → pb_Ev l E yX4_append cX4_append 2 (some .boolean) { frames := 0, cells := 0, slots := 0, locals := 0 } [.ref (E.2.1 1), .int v1] μ ((fun z : Int32 => some (.int z)) b) μ' := by
  refine pb_enter (L := [some (.ref (E.2.1 1)), some (.int v1)]) (by decide +kernel) (Nat.le_of_ble_eq_true rfl) (pb_same [none, none] rfl) (show wX4_append l E 0 [some (.ref (E.2.1 1)), some (.int v1)] [] μ (pX4_append v1 μ) from ?_)
  unfold pX4_append
  refine pb_aload_n 1 dX4_append_0 rfl rfl rfl ?_
  refine pb_getI 4 (j := 2) in_X4 rfl (by decide) rfl rfl (by decide) fl_X4_18 dX4_append_1 rfl ?_
  refine pb_bipush 6 (v := 56) dX4_append_4 rfl (by decide) ?_
  refine pb_icmp_lt 9 (tgt := 11) dX4_append_6 (by decide) rfl (fun _ => ?_) (fun _ => ?_)
  · refine pb_aload_n 12 dX4_append_11 rfl rfl rfl ?_
    refine pb_getR 15 (j := 0) (d := 2) in_X4 rfl (by decide) rfl rfl (by decide) fl_X4_9 dX4_append_12 rfl ?_
    refine pb_aload_n 16 dX4_append_15 rfl rfl rfl ?_
    refine pb_getI 19 (j := 2) in_X4 rfl (by decide) rfl rfl (by decide) fl_X4_18 dX4_append_16 rfl ?_
    refine pb_iload_n 20 dX4_append_19 rfl rfl rfl ?_
    refine pb_guard (fun hin => pb_iast 21 rfl hin rfl dX4_append_20 rfl ?_)
    refine pb_aload_n 22 dX4_append_21 rfl rfl rfl ?_
    refine pb_dup 23 dX4_append_22 rfl rfl ?_
    refine pb_getI 26 (j := 2) in_X4 rfl (by decide) rfl rfl (by decide) fl_X4_18 dX4_append_23 rfl ?_
    refine pb_iconst 27 (v := 1) dX4_append_26 rfl (by decide) ?_
    refine pb_iadd 28 dX4_append_27 rfl ?_
    refine pb_putI 31 (j := 2) tyX4 tyX4_ok nmX4 in_X4 rfl (by decide) rfl rfl (by decide) fl_X4_18 rfl (by decide +kernel) dX4_append_28 rfl ?_
    refine pb_iconst 32 (v := 1) dX4_append_31 rfl (by decide) ?_
    exact pb_zret rfl dX4_append_32
  · refine pb_iconst 10 (v := 0) dX4_append_9 rfl (by decide) ?_
    exact pb_zret rfl dX4_append_10
theorem mc_X4_append : pb_MC yX4_append cX4_append 2 (some .boolean) 1 := ⟨pb_inW 219 (by decide +kernel) (by decide +kernel), pb_inW 62 (by decide +kernel) (by decide +kernel), by decide +kernel, by decide +kernel, by decide +kernel⟩
theorem mi_X4_append : Cond.instanceMethod yX4_append ∈ pb_gw := pb_inW 217 (by decide +kernel) (by decide +kernel)
theorem ms_X4_append : Cond.selects (yX4_append).cls yX4_append yX4_append ∈ pb_gw := pb_inW 218 (by decide +kernel) (by decide +kernel)
theorem cl_X4_append {α : Type} {l : Launch} {E : pb_E} {R : Room} {own : String} {cc : ByteArray} {mL : Nat} {ret : Option FieldType} {Xs : State → Prop} {nc ns : Nat} {Qf : State → Array Value → List Frame → α → pb_M → State → Prop} {pc : Nat} {L : List (Option Value)} {S : List Value} {μ : pb_M} {f : Int32 → pb_M → Option (α × pb_M)} {v1 : Int32} {index : Nat} (q : Nat)  (hR : 0 + 1 ≤ R.frames ∧ 8 + (2 + 11) + 0 ≤ R.locals ∧ nc ≤ R.cells ∧ ns ≤ R.slots) (hW : (S.map fun v => v.category).sum ≤ 8) (hl1 : Cond.methodLink own index yX4_append ∈ pb_gw) (hdg : decode cc pc = .ok (.invokevirtual index, 3)) (hq : pc + 3 = q) (k : ∀ b1 μ1, pb_RW l E R own cc mL ret Xs nc ns Qf q L (.int b1 :: S) μ1 (f b1 μ1)) : pb_RW l E R own cc mL ret Xs nc ns Qf pc L (.int v1 :: .ref (E.2.1 1) :: S) μ (pb_b (pX4_append v1 μ) f) := pb_callV q (fun z : Int32 => some (.int z)) mc_X4_append mi_X4_append ms_X4_append (fun b1 μ1 h => evX4_append l E v1  μ b1 μ1 h) rfl (by decide) rfl rfl rfl rfl hR rfl hW hl1 hdg hq k
def pJ7_fill_53178_L5 (h0 : Nat) (v1 : Int32) (v3 : Int32) : Nat → Int32 → pb_M → Option (Unit × pb_M)
  | 0, _, _ => none
  | n + 1, v2, μ =>
    if v3 ≤ v2 then
      some ((), μ)
    else
    if pb_in v2 (pb_ln h0) then
      pJ7_fill_53178_L5 h0 v1 v3 n (v2 + (1 : Int32)) (pb_sA μ h0 (upd (μ.1 h0) (v2).toNatClampNeg v1))
    else none
def pJ7_fill_53178 (h0 : Nat) (v1 : Int32) (μ : pb_M) : Option (Unit × pb_M) :=
  pJ7_fill_53178_L5 h0 v1 (Int32.ofNat (pb_ln h0)) pb_F (0 : Int32) μ
abbrev wJ7_fill_53178 (l : Launch) (E : pb_E) := pb_RW l E { frames := 0, cells := 0, slots := 0, locals := 0 } RJ7 cJ7_fill_53178 4 none (fun _ => True) 0 0 (pb_Qf E (fun _ : Unit => none))
set_option maxRecDepth 100000 in
set_option maxHeartbeats 4000000 in
theorem tJ7_fill_53178_L5 (l : Launch) (E : pb_E) (h0 : Nat) (hv0 : pb_R h0) (v1 : Int32) (v3 : Int32)   : ∀ (n : Nat) (v2 : Int32) (μ : pb_M), wJ7_fill_53178 l E 5 [some (.ref (E.2.1 h0)), some (.int v1), some (.int v2), some (.int v3)] [] μ (pJ7_fill_53178_L5 h0 v1 v3 n v2 μ) := by
  intro n
  induction n with
  | zero => intro v2 μ; exact pb_none
  | succ n ih =>
    intro v2 μ
    rw [pJ7_fill_53178_L5]
    refine pb_iload_n 6 dJ7_fill_53178_5 rfl rfl rfl ?_
    refine pb_iload_n 7 dJ7_fill_53178_6 rfl rfl rfl ?_
    refine pb_icmp_ge 10 (tgt := 20) dJ7_fill_53178_7 (by decide) rfl (fun _ => ?_) (fun _ => ?_)
    · exact pb_vret dJ7_fill_53178_20
    · refine pb_aload_n 11 dJ7_fill_53178_10 rfl rfl rfl ?_
      refine pb_iload_n 12 dJ7_fill_53178_11 rfl rfl rfl ?_
      refine pb_iload_n 13 dJ7_fill_53178_12 rfl rfl rfl ?_
      refine pb_guard (fun hin => pb_iast 14 hv0 hin rfl dJ7_fill_53178_13 rfl ?_)
      refine pb_iinc 17 (i := 2) (v := (v2 + (1 : Int32))) (L' := [some (.ref (E.2.1 h0)), some (.int v1), some (.int (v2 + (1 : Int32))), some (.int v3)]) dJ7_fill_53178_14 rfl rfl (by decide) rfl rfl rfl ?_
      refine pb_goto (tgt := 5) dJ7_fill_53178_17 (by decide) ?_
      exact ih (v2 + (1 : Int32)) (pb_sA μ h0 (upd (μ.1 h0) (v2).toNatClampNeg v1))
set_option maxRecDepth 100000 in
set_option maxHeartbeats 4000000 in
theorem evJ7_fill_53178 (l : Launch) (E : pb_E) (h0 : Nat) (v1 : Int32) (hv0 : pb_R h0) (μ : pb_M) : ∀ b μ', pJ7_fill_53178 h0 v1 μ = some (b, μ') → pb_Ev l E yJ7_fill_53178 cJ7_fill_53178 4 none { frames := 0, cells := 0, slots := 0, locals := 0 } [.ref (E.2.1 h0), .int v1] μ ((fun _ : Unit => none) b) μ' := by
  refine pb_enter (L := [some (.ref (E.2.1 h0)), some (.int v1), none, none]) (by decide +kernel) (Nat.le_of_ble_eq_true rfl) (pb_same [none, none, none, none] rfl) (show wJ7_fill_53178 l E 0 [some (.ref (E.2.1 h0)), some (.int v1), none, none] [] μ (pJ7_fill_53178 h0 v1 μ) from ?_)
  unfold pJ7_fill_53178
  refine pb_iconst 1 (v := 0) dJ7_fill_53178_0 rfl (by decide) ?_
  refine pb_istore_n 2 (i := 2) (L' := [some (.ref (E.2.1 h0)), some (.int v1), some (.int (0 : Int32)), none]) dJ7_fill_53178_1 rfl (by decide) rfl rfl rfl ?_
  refine pb_aload_n 3 dJ7_fill_53178_2 rfl rfl rfl ?_
  refine pb_alen 4 hv0 rfl dJ7_fill_53178_3 rfl ?_
  refine pb_istore_n 5 (i := 3) (L' := [some (.ref (E.2.1 h0)), some (.int v1), some (.int (0 : Int32)), some (.int (Int32.ofNat (pb_ln h0)))]) dJ7_fill_53178_4 rfl (by decide) rfl rfl rfl ?_
  exact tJ7_fill_53178_L5 l E h0 hv0 v1 (Int32.ofNat (pb_ln h0)) pb_F (0 : Int32) μ
theorem mc_J7_fill_53178 : pb_MC yJ7_fill_53178 cJ7_fill_53178 4 none 2 := ⟨pb_inW 246 (by decide +kernel) (by decide +kernel), pb_inW 69 (by decide +kernel) (by decide +kernel), by decide +kernel, by decide +kernel, by decide +kernel⟩
theorem ms_J7_fill_53178 : Cond.static yJ7_fill_53178 ∈ pb_gw := pb_inW 245 (by decide +kernel) (by decide +kernel)
theorem cl_J7_fill_53178 {α : Type} {l : Launch} {E : pb_E} {R : Room} {own : String} {cc : ByteArray} {mL : Nat} {ret : Option FieldType} {Xs : State → Prop} {nc ns : Nat} {Qf : State → Array Value → List Frame → α → pb_M → State → Prop} {pc : Nat} {L : List (Option Value)} {S : List Value} {μ : pb_M} {f : Unit → pb_M → Option (α × pb_M)} {h0 : Nat} {v1 : Int32} {index : Nat} (q : Nat) (hv0 : pb_R h0) (hR : 0 + 1 ≤ R.frames ∧ 8 + (4 + 11) + 0 ≤ R.locals ∧ nc ≤ R.cells ∧ ns ≤ R.slots) (hW : (S.map fun v => v.category).sum ≤ 8) (hl1 : Cond.methodLink own index yJ7_fill_53178 ∈ pb_gw) (hdg : decode cc pc = .ok (.invokestatic index, 3)) (hq : pc + 3 = q) (k : ∀ b1 μ1, pb_RW l E R own cc mL ret Xs nc ns Qf q L S μ1 (f b1 μ1)) : pb_RW l E R own cc mL ret Xs nc ns Qf pc L (.int v1 :: .ref (E.2.1 h0) :: S) μ (pb_b (pJ7_fill_53178 h0 v1 μ) f) := pb_callS q (fun _ : Unit => none) mc_J7_fill_53178 ms_J7_fill_53178 (fun b1 μ1 h => evJ7_fill_53178 l E h0 v1 hv0 μ b1 μ1 h) rfl rfl rfl hR rfl hW hl1 hdg hq k
theorem ml_X5_15 : Cond.methodLink RX5 15 yJ7_fill_53178 ∈ pb_gw := pb_inW 244 (by decide +kernel) (by decide +kernel)
def pX5_clear (h0 : Nat) (μ : pb_M) : Option (Unit × pb_M) :=
  pb_b (pJ7_fill_53178 (h0 + 1) (0 : Int32) μ) (fun b5 μ5 =>
  some ((), μ5))
abbrev wX5_clear (l : Launch) (E : pb_E) := pb_RW l E { frames := 1, cells := 0, slots := 0, locals := 23 } RX5 cX5_clear 1 none (fun _ => True) 0 0 (pb_Qf E (fun _ : Unit => none))
set_option maxRecDepth 100000 in
set_option maxHeartbeats 4000000 in
theorem evX5_clear (l : Launch) (E : pb_E) (h0 : Nat) (hv0 : pb_V h0) (μ : pb_M) : ∀ b μ', pX5_clear h0 μ = some (b, μ') → pb_Ev l E yX5_clear cX5_clear 1 none { frames := 1, cells := 0, slots := 0, locals := 23 } [.ref (E.2.1 h0)] μ ((fun _ : Unit => none) b) μ' := by
  refine pb_enter (L := [some (.ref (E.2.1 h0))]) (by decide +kernel) (Nat.le_of_ble_eq_true rfl) (pb_same [none] rfl) (show wX5_clear l E 0 [some (.ref (E.2.1 h0))] [] μ (pX5_clear h0 μ) from ?_)
  unfold pX5_clear
  refine pb_aload_n 1 dX5_clear_0 rfl rfl rfl ?_
  refine pb_getR 4 (j := 0) (d := (h0 + 1)) in_X5 rfl (by decide) hv0.1 rfl (by decide) fl_X5_11 dX5_clear_1 rfl ?_
  refine pb_iconst 5 (v := 0) dX5_clear_4 rfl (by decide) ?_
  refine cl_J7_fill_53178 8 (pb_R.of hv0.2) ⟨by decide, by decide, by decide, by decide⟩ (Nat.le_of_ble_eq_true rfl) ml_X5_15 dX5_clear_5 rfl (fun b5 μ5 => ?_)
  exact pb_vret dX5_clear_8
theorem mc_X5_clear : pb_MC yX5_clear cX5_clear 1 none 0 := ⟨pb_inW 243 (by decide +kernel) (by decide +kernel), pb_inW 63 (by decide +kernel) (by decide +kernel), by decide +kernel, by decide +kernel, by decide +kernel⟩
theorem mi_X5_clear : Cond.instanceMethod yX5_clear ∈ pb_gw := pb_inW 241 (by decide +kernel) (by decide +kernel)
theorem ms_X5_clear : Cond.selects (yX5_clear).cls yX5_clear yX5_clear ∈ pb_gw := pb_inW 242 (by decide +kernel) (by decide +kernel)
theorem cl_X5_clear {α : Type} {l : Launch} {E : pb_E} {R : Room} {own : String} {cc : ByteArray} {mL : Nat} {ret : Option FieldType} {Xs : State → Prop} {nc ns : Nat} {Qf : State → Array Value → List Frame → α → pb_M → State → Prop} {pc : Nat} {L : List (Option Value)} {S : List Value} {μ : pb_M} {f : Unit → pb_M → Option (α × pb_M)} {h0 : Nat} {index : Nat} (q : Nat) (hv0 : pb_V h0) (hR : 1 + 1 ≤ R.frames ∧ 8 + (1 + 11) + 23 ≤ R.locals ∧ nc ≤ R.cells ∧ ns ≤ R.slots) (hW : (S.map fun v => v.category).sum ≤ 8) (hl1 : Cond.methodLink own index yX5_clear ∈ pb_gw) (hdg : decode cc pc = .ok (.invokevirtual index, 3)) (hq : pc + 3 = q) (k : ∀ b1 μ1, pb_RW l E R own cc mL ret Xs nc ns Qf q L S μ1 (f b1 μ1)) : pb_RW l E R own cc mL ret Xs nc ns Qf pc L (.ref (E.2.1 h0) :: S) μ (pb_b (pX5_clear h0 μ) f) := pb_callV q (fun _ : Unit => none) mc_X5_clear mi_X5_clear ms_X5_clear (fun b1 μ1 h => evX5_clear l E h0 hv0 μ b1 μ1 h) hv0.1 (by decide) rfl rfl rfl rfl hR rfl hW hl1 hdg hq k
def pX5_isPairLeft (h0 : Nat) (v1 : Int32) (v2 : Int32) (μ : pb_M) : Option (Int32 × pb_M) :=
  if v1 = v2 then
    some ((0 : Int32), μ)
  else
  if pb_in (((11 : Int32) + (v1 * (4 : Int32))) + v2) 52 then
    if (μ.1 (h0 + 1) ((((11 : Int32) + (v1 * (4 : Int32))) + v2)).toNatClampNeg) = (0 : Int32) then
      some ((1 : Int32), μ)
    else
    some ((0 : Int32), μ)
  else none
abbrev wX5_isPairLeft (l : Launch) (E : pb_E) := pb_RW l E { frames := 0, cells := 0, slots := 0, locals := 0 } RX5 cX5_isPairLeft 3 (some .boolean) (fun _ => True) 0 0 (pb_Qf E (fun z : Int32 => some (.int z)))
set_option maxRecDepth 100000 in
set_option maxHeartbeats 4000000 in
theorem evX5_isPairLeft (l : Launch) (E : pb_E) (h0 : Nat) (v1 : Int32) (v2 : Int32) (hv0 : pb_V h0) (μ : pb_M) : ∀ b μ', pX5_isPairLeft h0 v1 v2 μ = some (b, μ') → pb_Ev l E yX5_isPairLeft cX5_isPairLeft 3 (some .boolean) { frames := 0, cells := 0, slots := 0, locals := 0 } [.ref (E.2.1 h0), .int v1, .int v2] μ ((fun z : Int32 => some (.int z)) b) μ' := by
  refine pb_enter (L := [some (.ref (E.2.1 h0)), some (.int v1), some (.int v2)]) (by decide +kernel) (Nat.le_of_ble_eq_true rfl) (pb_same [none, none, none] rfl) (show wX5_isPairLeft l E 0 [some (.ref (E.2.1 h0)), some (.int v1), some (.int v2)] [] μ (pX5_isPairLeft h0 v1 v2 μ) from ?_)
  unfold pX5_isPairLeft
  refine pb_iload_n 1 dX5_isPairLeft_0 rfl rfl rfl ?_
  refine pb_iload_n 2 dX5_isPairLeft_1 rfl rfl rfl ?_
  refine pb_icmp_eq 5 (tgt := 25) dX5_isPairLeft_2 (by decide) rfl (fun _ => ?_) (fun _ => ?_)
  · refine pb_iconst 26 (v := 0) dX5_isPairLeft_25 rfl (by decide) ?_
    exact pb_zret rfl dX5_isPairLeft_26
  · refine pb_aload_n 6 dX5_isPairLeft_5 rfl rfl rfl ?_
    refine pb_getR 9 (j := 0) (d := (h0 + 1)) in_X5 rfl (by decide) hv0.1 rfl (by decide) fl_X5_11 dX5_isPairLeft_6 rfl ?_
    refine pb_bipush 11 (v := 11) dX5_isPairLeft_9 rfl (by decide) ?_
    refine pb_iload_n 12 dX5_isPairLeft_11 rfl rfl rfl ?_
    refine pb_iconst 13 (v := 4) dX5_isPairLeft_12 rfl (by decide) ?_
    refine pb_imul 14 dX5_isPairLeft_13 rfl ?_
    refine pb_iadd 15 dX5_isPairLeft_14 rfl ?_
    refine pb_iload_n 16 dX5_isPairLeft_15 rfl rfl rfl ?_
    refine pb_iadd 17 dX5_isPairLeft_16 rfl ?_
    refine pb_guard (fun hin => pb_iald 18 hv0.2 hin rfl dX5_isPairLeft_17 rfl ?_)
    refine pb_if_ne 21 (tgt := 25) dX5_isPairLeft_18 (by decide) rfl (fun _ => ?_) (fun _ => ?_)
    · refine pb_iconst 22 (v := 1) dX5_isPairLeft_21 rfl (by decide) ?_
      refine pb_goto (tgt := 26) dX5_isPairLeft_22 (by decide) ?_
      exact pb_zret rfl dX5_isPairLeft_26
    · refine pb_iconst 26 (v := 0) dX5_isPairLeft_25 rfl (by decide) ?_
      exact pb_zret rfl dX5_isPairLeft_26
theorem mc_X5_isPairLeft : pb_MC yX5_isPairLeft cX5_isPairLeft 3 (some .boolean) 2 := ⟨pb_inW 271 (by decide +kernel) (by decide +kernel), pb_inW 63 (by decide +kernel) (by decide +kernel), by decide +kernel, by decide +kernel, by decide +kernel⟩
theorem mi_X5_isPairLeft : Cond.instanceMethod yX5_isPairLeft ∈ pb_gw := pb_inW 269 (by decide +kernel) (by decide +kernel)
theorem ms_X5_isPairLeft : Cond.selects (yX5_isPairLeft).cls yX5_isPairLeft yX5_isPairLeft ∈ pb_gw := pb_inW 270 (by decide +kernel) (by decide +kernel)
theorem cl_X5_isPairLeft {α : Type} {l : Launch} {E : pb_E} {R : Room} {own : String} {cc : ByteArray} {mL : Nat} {ret : Option FieldType} {Xs : State → Prop} {nc ns : Nat} {Qf : State → Array Value → List Frame → α → pb_M → State → Prop} {pc : Nat} {L : List (Option Value)} {S : List Value} {μ : pb_M} {f : Int32 → pb_M → Option (α × pb_M)} {h0 : Nat} {v1 : Int32} {v2 : Int32} {index : Nat} (q : Nat) (hv0 : pb_V h0) (hR : 0 + 1 ≤ R.frames ∧ 8 + (3 + 11) + 0 ≤ R.locals ∧ nc ≤ R.cells ∧ ns ≤ R.slots) (hW : (S.map fun v => v.category).sum ≤ 8) (hl1 : Cond.methodLink own index yX5_isPairLeft ∈ pb_gw) (hdg : decode cc pc = .ok (.invokevirtual index, 3)) (hq : pc + 3 = q) (k : ∀ b1 μ1, pb_RW l E R own cc mL ret Xs nc ns Qf q L (.int b1 :: S) μ1 (f b1 μ1)) : pb_RW l E R own cc mL ret Xs nc ns Qf pc L (.int v2 :: .int v1 :: .ref (E.2.1 h0) :: S) μ (pb_b (pX5_isPairLeft h0 v1 v2 μ) f) := pb_callV q (fun z : Int32 => some (.int z)) mc_X5_isPairLeft mi_X5_isPairLeft ms_X5_isPairLeft (fun b1 μ1 h => evX5_isPairLeft l E h0 v1 v2 hv0 μ b1 μ1 h) hv0.1 (by decide) rfl rfl rfl rfl hR rfl hW hl1 hdg hq k
theorem ml_X4_47 : Cond.methodLink RX4 47 yX5_people ∈ pb_gw := pb_inW 254 (by decide +kernel) (by decide +kernel)
theorem ml_X4_71 : Cond.methodLink RX4 71 yX5_isPairLeft ∈ pb_gw := pb_inW 268 (by decide +kernel) (by decide +kernel)
def pX4_somePairIsLeftOf_L2 (h0 : Nat) (v1 : Int32) : Nat → Int32 → pb_M → Option (Int32 × pb_M)
  | 0, _, _ => none
  | n + 1, v2, μ =>
    pb_b (pX5_people h0 μ) (fun b4 μ4 =>
    if b4 ≤ v2 then
      some ((0 : Int32), μ4)
    else
    pb_b (pX5_isPairLeft h0 v1 v2 μ4) (fun b13 μ13 =>
    if b13 = (0 : Int32) then
      pX4_somePairIsLeftOf_L2 h0 v1 n (v2 + (1 : Int32)) μ13
    else
    some ((1 : Int32), μ13)))
def pX4_somePairIsLeftOf (h0 : Nat) (v1 : Int32) (μ : pb_M) : Option (Int32 × pb_M) :=
  pX4_somePairIsLeftOf_L2 h0 v1 pb_F (0 : Int32) μ
abbrev wX4_somePairIsLeftOf (l : Launch) (E : pb_E) := pb_RW l E { frames := 1, cells := 0, slots := 0, locals := 22 } RX4 cX4_somePairIsLeftOf 3 (some .boolean) (fun _ => True) 0 0 (pb_Qf E (fun z : Int32 => some (.int z)))
set_option maxRecDepth 100000 in
set_option maxHeartbeats 4000000 in
theorem tX4_somePairIsLeftOf_L2 (l : Launch) (E : pb_E) (h0 : Nat) (hv0 : pb_V h0) (v1 : Int32)   : ∀ (n : Nat) (v2 : Int32) (μ : pb_M), wX4_somePairIsLeftOf l E 2 [some (.ref (E.2.1 h0)), some (.int v1), some (.int v2)] [] μ (pX4_somePairIsLeftOf_L2 h0 v1 n v2 μ) := by
  intro n
  induction n with
  | zero => intro v2 μ; exact pb_none
  | succ n ih =>
    intro v2 μ
    rw [pX4_somePairIsLeftOf_L2]
    refine pb_iload_n 3 dX4_somePairIsLeftOf_2 rfl rfl rfl ?_
    refine pb_aload_n 4 dX4_somePairIsLeftOf_3 rfl rfl rfl ?_
    refine cl_X5_people 7 hv0 ⟨by decide, by decide, by decide, by decide⟩ (Nat.le_of_ble_eq_true rfl) ml_X4_47 dX4_somePairIsLeftOf_4 rfl (fun b4 μ4 => ?_)
    refine pb_icmp_ge 10 (tgt := 27) dX4_somePairIsLeftOf_7 (by decide) rfl (fun _ => ?_) (fun _ => ?_)
    · refine pb_iconst 28 (v := 0) dX4_somePairIsLeftOf_27 rfl (by decide) ?_
      exact pb_zret rfl dX4_somePairIsLeftOf_28
    · refine pb_aload_n 11 dX4_somePairIsLeftOf_10 rfl rfl rfl ?_
      refine pb_iload_n 12 dX4_somePairIsLeftOf_11 rfl rfl rfl ?_
      refine pb_iload_n 13 dX4_somePairIsLeftOf_12 rfl rfl rfl ?_
      refine cl_X5_isPairLeft 16 hv0 ⟨by decide, by decide, by decide, by decide⟩ (Nat.le_of_ble_eq_true rfl) ml_X4_71 dX4_somePairIsLeftOf_13 rfl (fun b13 μ13 => ?_)
      refine pb_if_eq 19 (tgt := 21) dX4_somePairIsLeftOf_16 (by decide) rfl (fun _ => ?_) (fun _ => ?_)
      · refine pb_iinc 24 (i := 2) (v := (v2 + (1 : Int32))) (L' := [some (.ref (E.2.1 h0)), some (.int v1), some (.int (v2 + (1 : Int32)))]) dX4_somePairIsLeftOf_21 rfl rfl (by decide) rfl rfl rfl ?_
        refine pb_goto (tgt := 2) dX4_somePairIsLeftOf_24 (by decide) ?_
        exact ih (v2 + (1 : Int32)) μ13
      · refine pb_iconst 20 (v := 1) dX4_somePairIsLeftOf_19 rfl (by decide) ?_
        exact pb_zret rfl dX4_somePairIsLeftOf_20
set_option maxRecDepth 100000 in
set_option maxHeartbeats 4000000 in
theorem evX4_somePairIsLeftOf (l : Launch) (E : pb_E) (h0 : Nat) (v1 : Int32) (hv0 : pb_V h0) (μ : pb_M) : ∀ b μ', pX4_somePairIsLeftOf h0 v1 μ = some (b, μ') → pb_Ev l E yX4_somePairIsLeftOf cX4_somePairIsLeftOf 3 (some .boolean) { frames := 1, cells := 0, slots := 0, locals := 22 } [.ref (E.2.1 h0), .int v1] μ ((fun z : Int32 => some (.int z)) b) μ' := by
  refine pb_enter (L := [some (.ref (E.2.1 h0)), some (.int v1), none]) (by decide +kernel) (Nat.le_of_ble_eq_true rfl) (pb_same [none, none, none] rfl) (show wX4_somePairIsLeftOf l E 0 [some (.ref (E.2.1 h0)), some (.int v1), none] [] μ (pX4_somePairIsLeftOf h0 v1 μ) from ?_)
  unfold pX4_somePairIsLeftOf
  refine pb_iconst 1 (v := 0) dX4_somePairIsLeftOf_0 rfl (by decide) ?_
  refine pb_istore_n 2 (i := 2) (L' := [some (.ref (E.2.1 h0)), some (.int v1), some (.int (0 : Int32))]) dX4_somePairIsLeftOf_1 rfl (by decide) rfl rfl rfl ?_
  exact tX4_somePairIsLeftOf_L2 l E h0 hv0 v1 pb_F (0 : Int32) μ
theorem mc_X4_somePairIsLeftOf : pb_MC yX4_somePairIsLeftOf cX4_somePairIsLeftOf 3 (some .boolean) 2 := ⟨pb_inW 267 (by decide +kernel) (by decide +kernel), pb_inW 62 (by decide +kernel) (by decide +kernel), by decide +kernel, by decide +kernel, by decide +kernel⟩
theorem ms_X4_somePairIsLeftOf : Cond.static yX4_somePairIsLeftOf ∈ pb_gw := pb_inW 266 (by decide +kernel) (by decide +kernel)
theorem cl_X4_somePairIsLeftOf {α : Type} {l : Launch} {E : pb_E} {R : Room} {own : String} {cc : ByteArray} {mL : Nat} {ret : Option FieldType} {Xs : State → Prop} {nc ns : Nat} {Qf : State → Array Value → List Frame → α → pb_M → State → Prop} {pc : Nat} {L : List (Option Value)} {S : List Value} {μ : pb_M} {f : Int32 → pb_M → Option (α × pb_M)} {h0 : Nat} {v1 : Int32} {index : Nat} (q : Nat) (hv0 : pb_V h0) (hR : 1 + 1 ≤ R.frames ∧ 8 + (3 + 11) + 22 ≤ R.locals ∧ nc ≤ R.cells ∧ ns ≤ R.slots) (hW : (S.map fun v => v.category).sum ≤ 8) (hl1 : Cond.methodLink own index yX4_somePairIsLeftOf ∈ pb_gw) (hdg : decode cc pc = .ok (.invokestatic index, 3)) (hq : pc + 3 = q) (k : ∀ b1 μ1, pb_RW l E R own cc mL ret Xs nc ns Qf q L (.int b1 :: S) μ1 (f b1 μ1)) : pb_RW l E R own cc mL ret Xs nc ns Qf pc L (.int v1 :: .ref (E.2.1 h0) :: S) μ (pb_b (pX4_somePairIsLeftOf h0 v1 μ) f) := pb_callS q (fun z : Int32 => some (.int z)) mc_X4_somePairIsLeftOf ms_X4_somePairIsLeftOf (fun b1 μ1 h => evX4_somePairIsLeftOf l E h0 v1 hv0 μ b1 μ1 h) rfl rfl rfl hR rfl hW hl1 hdg hq k
theorem ml_X4_68 : Cond.methodLink RX4 68 yX4_somePairIsLeftOf ∈ pb_gw := pb_inW 265 (by decide +kernel) (by decide +kernel)
def pX4_somePairIsLeft_L2 (h0 : Nat) : Nat → Int32 → pb_M → Option (Int32 × pb_M)
  | 0, _, _ => none
  | n + 1, v1, μ =>
    pb_b (pX5_people h0 μ) (fun b4 μ4 =>
    if b4 ≤ v1 then
      some ((0 : Int32), μ4)
    else
    pb_b (pX4_somePairIsLeftOf h0 v1 μ4) (fun b12 μ12 =>
    if b12 = (0 : Int32) then
      pX4_somePairIsLeft_L2 h0 n (v1 + (1 : Int32)) μ12
    else
    some ((1 : Int32), μ12)))
def pX4_somePairIsLeft (h0 : Nat) (μ : pb_M) : Option (Int32 × pb_M) :=
  pX4_somePairIsLeft_L2 h0 pb_F (0 : Int32) μ
abbrev wX4_somePairIsLeft (l : Launch) (E : pb_E) := pb_RW l E { frames := 2, cells := 0, slots := 0, locals := 44 } RX4 cX4_somePairIsLeft 2 (some .boolean) (fun _ => True) 0 0 (pb_Qf E (fun z : Int32 => some (.int z)))
set_option maxRecDepth 100000 in
set_option maxHeartbeats 4000000 in
theorem tX4_somePairIsLeft_L2 (l : Launch) (E : pb_E) (h0 : Nat) (hv0 : pb_V h0)   : ∀ (n : Nat) (v1 : Int32) (μ : pb_M), wX4_somePairIsLeft l E 2 [some (.ref (E.2.1 h0)), some (.int v1)] [] μ (pX4_somePairIsLeft_L2 h0 n v1 μ) := by
  intro n
  induction n with
  | zero => intro v1 μ; exact pb_none
  | succ n ih =>
    intro v1 μ
    rw [pX4_somePairIsLeft_L2]
    refine pb_iload_n 3 dX4_somePairIsLeft_2 rfl rfl rfl ?_
    refine pb_aload_n 4 dX4_somePairIsLeft_3 rfl rfl rfl ?_
    refine cl_X5_people 7 hv0 ⟨by decide, by decide, by decide, by decide⟩ (Nat.le_of_ble_eq_true rfl) ml_X4_47 dX4_somePairIsLeft_4 rfl (fun b4 μ4 => ?_)
    refine pb_icmp_ge 10 (tgt := 26) dX4_somePairIsLeft_7 (by decide) rfl (fun _ => ?_) (fun _ => ?_)
    · refine pb_iconst 27 (v := 0) dX4_somePairIsLeft_26 rfl (by decide) ?_
      exact pb_zret rfl dX4_somePairIsLeft_27
    · refine pb_aload_n 11 dX4_somePairIsLeft_10 rfl rfl rfl ?_
      refine pb_iload_n 12 dX4_somePairIsLeft_11 rfl rfl rfl ?_
      refine cl_X4_somePairIsLeftOf 15 hv0 ⟨by decide, by decide, by decide, by decide⟩ (Nat.le_of_ble_eq_true rfl) ml_X4_68 dX4_somePairIsLeft_12 rfl (fun b12 μ12 => ?_)
      refine pb_if_eq 18 (tgt := 20) dX4_somePairIsLeft_15 (by decide) rfl (fun _ => ?_) (fun _ => ?_)
      · refine pb_iinc 23 (i := 1) (v := (v1 + (1 : Int32))) (L' := [some (.ref (E.2.1 h0)), some (.int (v1 + (1 : Int32)))]) dX4_somePairIsLeft_20 rfl rfl (by decide) rfl rfl rfl ?_
        refine pb_goto (tgt := 2) dX4_somePairIsLeft_23 (by decide) ?_
        exact ih (v1 + (1 : Int32)) μ12
      · refine pb_iconst 19 (v := 1) dX4_somePairIsLeft_18 rfl (by decide) ?_
        exact pb_zret rfl dX4_somePairIsLeft_19
set_option maxRecDepth 100000 in
set_option maxHeartbeats 4000000 in
theorem evX4_somePairIsLeft (l : Launch) (E : pb_E) (h0 : Nat) (hv0 : pb_V h0) (μ : pb_M) : ∀ b μ', pX4_somePairIsLeft h0 μ = some (b, μ') → pb_Ev l E yX4_somePairIsLeft cX4_somePairIsLeft 2 (some .boolean) { frames := 2, cells := 0, slots := 0, locals := 44 } [.ref (E.2.1 h0)] μ ((fun z : Int32 => some (.int z)) b) μ' := by
  refine pb_enter (L := [some (.ref (E.2.1 h0)), none]) (by decide +kernel) (Nat.le_of_ble_eq_true rfl) (pb_same [none, none] rfl) (show wX4_somePairIsLeft l E 0 [some (.ref (E.2.1 h0)), none] [] μ (pX4_somePairIsLeft h0 μ) from ?_)
  unfold pX4_somePairIsLeft
  refine pb_iconst 1 (v := 0) dX4_somePairIsLeft_0 rfl (by decide) ?_
  refine pb_istore_n 2 (i := 1) (L' := [some (.ref (E.2.1 h0)), some (.int (0 : Int32))]) dX4_somePairIsLeft_1 rfl (by decide) rfl rfl rfl ?_
  exact tX4_somePairIsLeft_L2 l E h0 hv0 pb_F (0 : Int32) μ
theorem mc_X4_somePairIsLeft : pb_MC yX4_somePairIsLeft cX4_somePairIsLeft 2 (some .boolean) 1 := ⟨pb_inW 264 (by decide +kernel) (by decide +kernel), pb_inW 62 (by decide +kernel) (by decide +kernel), by decide +kernel, by decide +kernel, by decide +kernel⟩
theorem ms_X4_somePairIsLeft : Cond.static yX4_somePairIsLeft ∈ pb_gw := pb_inW 263 (by decide +kernel) (by decide +kernel)
theorem cl_X4_somePairIsLeft {α : Type} {l : Launch} {E : pb_E} {R : Room} {own : String} {cc : ByteArray} {mL : Nat} {ret : Option FieldType} {Xs : State → Prop} {nc ns : Nat} {Qf : State → Array Value → List Frame → α → pb_M → State → Prop} {pc : Nat} {L : List (Option Value)} {S : List Value} {μ : pb_M} {f : Int32 → pb_M → Option (α × pb_M)} {h0 : Nat} {index : Nat} (q : Nat) (hv0 : pb_V h0) (hR : 2 + 1 ≤ R.frames ∧ 8 + (2 + 11) + 44 ≤ R.locals ∧ nc ≤ R.cells ∧ ns ≤ R.slots) (hW : (S.map fun v => v.category).sum ≤ 8) (hl1 : Cond.methodLink own index yX4_somePairIsLeft ∈ pb_gw) (hdg : decode cc pc = .ok (.invokestatic index, 3)) (hq : pc + 3 = q) (k : ∀ b1 μ1, pb_RW l E R own cc mL ret Xs nc ns Qf q L (.int b1 :: S) μ1 (f b1 μ1)) : pb_RW l E R own cc mL ret Xs nc ns Qf pc L (.ref (E.2.1 h0) :: S) μ (pb_b (pX4_somePairIsLeft h0 μ) f) := pb_callS q (fun z : Int32 => some (.int z)) mc_X4_somePairIsLeft ms_X4_somePairIsLeft (fun b1 μ1 h => evX4_somePairIsLeft l E h0 hv0 μ b1 μ1 h) rfl rfl rfl hR rfl hW hl1 hdg hq k
theorem ml_X4_51 : Cond.methodLink RX4 51 yX5_beasts ∈ pb_gw := pb_inW 258 (by decide +kernel) (by decide +kernel)
theorem ml_X4_54 : Cond.methodLink RX4 54 yX4_somePairIsLeft ∈ pb_gw := pb_inW 262 (by decide +kernel) (by decide +kernel)
def pX4_canBegin (h0 : Nat) (v1 : Int32) (μ : pb_M) : Option (Int32 × pb_M) :=
  if v1 = (66 : Int32) then
    pb_b (pX5_people h0 μ) (fun b51 μ51 =>
    if b51 ≤ (0 : Int32) then
      some ((0 : Int32), μ51)
    else
    pb_b (pX5_beasts h0 μ51) (fun b58 μ58 =>
    if (5 : Int32) ≤ b58 then
      some ((0 : Int32), μ58)
    else
    some ((1 : Int32), μ58)))
  else
  if v1 = (68 : Int32) then
    pb_b (pX4_somePairIsLeft h0 μ) (fun b72 μ72 =>
    if b72 = 0 ∨ b72 = 1 then some (b72, μ72) else none)
  else
  if v1 = (80 : Int32) then
    pb_b (pX5_people h0 μ) (fun b37 μ37 =>
    if (4 : Int32) ≤ b37 then
      some ((0 : Int32), μ37)
    else
    some ((1 : Int32), μ37))
  else
  some ((0 : Int32), μ)
abbrev wX4_canBegin (l : Launch) (E : pb_E) := pb_RW l E { frames := 3, cells := 0, slots := 0, locals := 65 } RX4 cX4_canBegin 2 (some .boolean) (fun _ => True) 0 0 (pb_Qf E (fun z : Int32 => some (.int z)))
set_option maxRecDepth 100000 in
set_option maxHeartbeats 4000000 in
theorem evX4_canBegin (l : Launch) (E : pb_E) (h0 : Nat) (v1 : Int32) (hv0 : pb_V h0) (μ : pb_M) : ∀ b μ', pX4_canBegin h0 v1 μ = some (b, μ') → pb_Ev l E yX4_canBegin cX4_canBegin 2 (some .boolean) { frames := 3, cells := 0, slots := 0, locals := 65 } [.ref (E.2.1 h0), .int v1] μ ((fun z : Int32 => some (.int z)) b) μ' := by
  refine pb_enter (L := [some (.ref (E.2.1 h0)), some (.int v1)]) (by decide +kernel) (Nat.le_of_ble_eq_true rfl) (pb_same [none, none] rfl) (show wX4_canBegin l E 0 [some (.ref (E.2.1 h0)), some (.int v1)] [] μ (pX4_canBegin h0 v1 μ) from ?_)
  unfold pX4_canBegin
  refine pb_iload_n 1 dX4_canBegin_0 rfl rfl rfl ?_
  refine pb_ite (fun c0 => ?_) (fun c0 => ?_)
  · refine pb_lookup (off := 49) (tgt := 50) dX4_canBegin_1 (by decide) (by rw [c0]; rfl) (by decide) ?_
    refine pb_aload_n 51 dX4_canBegin_50 rfl rfl rfl ?_
    refine cl_X5_people 54 hv0 ⟨by decide, by decide, by decide, by decide⟩ (Nat.le_of_ble_eq_true rfl) ml_X4_47 dX4_canBegin_51 rfl (fun b51 μ51 => ?_)
    refine pb_if_le 57 (tgt := 69) dX4_canBegin_54 (by decide) rfl (fun _ => ?_) (fun _ => ?_)
    · refine pb_iconst 70 (v := 0) dX4_canBegin_69 rfl (by decide) ?_
      exact pb_zret rfl dX4_canBegin_70
    · refine pb_aload_n 58 dX4_canBegin_57 rfl rfl rfl ?_
      refine cl_X5_beasts 61 hv0 ⟨by decide, by decide, by decide, by decide⟩ (Nat.le_of_ble_eq_true rfl) ml_X4_51 dX4_canBegin_58 rfl (fun b58 μ58 => ?_)
      refine pb_iconst 62 (v := 5) dX4_canBegin_61 rfl (by decide) ?_
      refine pb_icmp_ge 65 (tgt := 69) dX4_canBegin_62 (by decide) rfl (fun _ => ?_) (fun _ => ?_)
      · refine pb_iconst 70 (v := 0) dX4_canBegin_69 rfl (by decide) ?_
        exact pb_zret rfl dX4_canBegin_70
      · refine pb_iconst 66 (v := 1) dX4_canBegin_65 rfl (by decide) ?_
        refine pb_goto (tgt := 70) dX4_canBegin_66 (by decide) ?_
        exact pb_zret rfl dX4_canBegin_70
  · refine pb_ite (fun c1 => ?_) (fun c1 => ?_)
    · refine pb_lookup (off := 70) (tgt := 71) dX4_canBegin_1 (by decide) (by rw [c1]; rfl) (by decide) ?_
      refine pb_aload_n 72 dX4_canBegin_71 rfl rfl rfl ?_
      refine cl_X4_somePairIsLeft 75 hv0 ⟨by decide, by decide, by decide, by decide⟩ (Nat.le_of_ble_eq_true rfl) ml_X4_54 dX4_canBegin_72 rfl (fun b72 μ72 => ?_)
      exact pb_zretG dX4_canBegin_75
    · refine pb_ite (fun c2 => ?_) (fun c2 => ?_)
      · refine pb_lookup (off := 35) (tgt := 36) dX4_canBegin_1 (by decide) (by rw [c2]; rfl) (by decide) ?_
        refine pb_aload_n 37 dX4_canBegin_36 rfl rfl rfl ?_
        refine cl_X5_people 40 hv0 ⟨by decide, by decide, by decide, by decide⟩ (Nat.le_of_ble_eq_true rfl) ml_X4_47 dX4_canBegin_37 rfl (fun b37 μ37 => ?_)
        refine pb_iconst 41 (v := 4) dX4_canBegin_40 rfl (by decide) ?_
        refine pb_icmp_ge 44 (tgt := 48) dX4_canBegin_41 (by decide) rfl (fun _ => ?_) (fun _ => ?_)
        · refine pb_iconst 49 (v := 0) dX4_canBegin_48 rfl (by decide) ?_
          exact pb_zret rfl dX4_canBegin_49
        · refine pb_iconst 45 (v := 1) dX4_canBegin_44 rfl (by decide) ?_
          refine pb_goto (tgt := 49) dX4_canBegin_45 (by decide) ?_
          exact pb_zret rfl dX4_canBegin_49
      · refine pb_lookup (off := 75) (tgt := 76) dX4_canBegin_1 (by decide) (by show Op.lookupswitch.offset [(66, 49), (68, 70), (80, 35)] 75 _ = _; rw [lv_osw c0 (by decide), lv_osw c1 (by decide), lv_osw c2 (by decide)]; rfl) (by decide) ?_
        refine pb_iconst 77 (v := 0) dX4_canBegin_76 rfl (by decide) ?_
        exact pb_zret rfl dX4_canBegin_77
theorem mc_X4_canBegin : pb_MC yX4_canBegin cX4_canBegin 2 (some .boolean) 2 := ⟨pb_inW 253 (by decide +kernel) (by decide +kernel), pb_inW 62 (by decide +kernel) (by decide +kernel), by decide +kernel, by decide +kernel, by decide +kernel⟩
theorem ms_X4_canBegin : Cond.static yX4_canBegin ∈ pb_gw := pb_inW 252 (by decide +kernel) (by decide +kernel)
theorem cl_X4_canBegin {α : Type} {l : Launch} {E : pb_E} {R : Room} {own : String} {cc : ByteArray} {mL : Nat} {ret : Option FieldType} {Xs : State → Prop} {nc ns : Nat} {Qf : State → Array Value → List Frame → α → pb_M → State → Prop} {pc : Nat} {L : List (Option Value)} {S : List Value} {μ : pb_M} {f : Int32 → pb_M → Option (α × pb_M)} {h0 : Nat} {v1 : Int32} {index : Nat} (q : Nat) (hv0 : pb_V h0) (hR : 3 + 1 ≤ R.frames ∧ 8 + (2 + 11) + 65 ≤ R.locals ∧ nc ≤ R.cells ∧ ns ≤ R.slots) (hW : (S.map fun v => v.category).sum ≤ 8) (hl1 : Cond.methodLink own index yX4_canBegin ∈ pb_gw) (hdg : decode cc pc = .ok (.invokestatic index, 3)) (hq : pc + 3 = q) (k : ∀ b1 μ1, pb_RW l E R own cc mL ret Xs nc ns Qf q L (.int b1 :: S) μ1 (f b1 μ1)) : pb_RW l E R own cc mL ret Xs nc ns Qf pc L (.int v1 :: .ref (E.2.1 h0) :: S) μ (pb_b (pX4_canBegin h0 v1 μ) f) := pb_callS q (fun z : Int32 => some (.int z)) mc_X4_canBegin ms_X4_canBegin (fun b1 μ1 h => evX4_canBegin l E h0 v1 hv0 μ b1 μ1 h) rfl rfl rfl hR rfl hW hl1 hdg hq k
def pX4_figuresOf (v0 : Int32) (μ : pb_M) : Option (Int32 × pb_M) :=
  if v0 = (80 : Int32) then
    some ((2 : Int32), μ)
  else
  some ((3 : Int32), μ)
abbrev wX4_figuresOf (l : Launch) (E : pb_E) := pb_RW l E { frames := 0, cells := 0, slots := 0, locals := 0 } RX4 cX4_figuresOf 1 (some .int) (fun _ => True) 0 0 (pb_Qf E (fun z : Int32 => some (.int z)))
set_option maxRecDepth 100000 in
set_option maxHeartbeats 4000000 in
theorem evX4_figuresOf (l : Launch) (E : pb_E) (v0 : Int32)  (μ : pb_M) : ∀ b μ', pX4_figuresOf v0 μ = some (b, μ') → pb_Ev l E yX4_figuresOf cX4_figuresOf 1 (some .int) { frames := 0, cells := 0, slots := 0, locals := 0 } [.int v0] μ ((fun z : Int32 => some (.int z)) b) μ' := by
  refine pb_enter (L := [some (.int v0)]) (by decide +kernel) (Nat.le_of_ble_eq_true rfl) (pb_same [none] rfl) (show wX4_figuresOf l E 0 [some (.int v0)] [] μ (pX4_figuresOf v0 μ) from ?_)
  unfold pX4_figuresOf
  refine pb_iload_n 1 dX4_figuresOf_0 rfl rfl rfl ?_
  refine pb_bipush 3 (v := 80) dX4_figuresOf_1 rfl (by decide) ?_
  refine pb_icmp_ne 6 (tgt := 10) dX4_figuresOf_3 (by decide) rfl (fun _ => ?_) (fun _ => ?_)
  · refine pb_iconst 7 (v := 2) dX4_figuresOf_6 rfl (by decide) ?_
    refine pb_goto (tgt := 11) dX4_figuresOf_7 (by decide) ?_
    exact pb_iret dX4_figuresOf_11
  · refine pb_iconst 11 (v := 3) dX4_figuresOf_10 rfl (by decide) ?_
    exact pb_iret dX4_figuresOf_11
theorem mc_X4_figuresOf : pb_MC yX4_figuresOf cX4_figuresOf 1 (some .int) 1 := ⟨pb_inW 274 (by decide +kernel) (by decide +kernel), pb_inW 62 (by decide +kernel) (by decide +kernel), by decide +kernel, by decide +kernel, by decide +kernel⟩
theorem ms_X4_figuresOf : Cond.static yX4_figuresOf ∈ pb_gw := pb_inW 273 (by decide +kernel) (by decide +kernel)
theorem cl_X4_figuresOf {α : Type} {l : Launch} {E : pb_E} {R : Room} {own : String} {cc : ByteArray} {mL : Nat} {ret : Option FieldType} {Xs : State → Prop} {nc ns : Nat} {Qf : State → Array Value → List Frame → α → pb_M → State → Prop} {pc : Nat} {L : List (Option Value)} {S : List Value} {μ : pb_M} {f : Int32 → pb_M → Option (α × pb_M)} {v0 : Int32} {index : Nat} (q : Nat)  (hR : 0 + 1 ≤ R.frames ∧ 8 + (1 + 11) + 0 ≤ R.locals ∧ nc ≤ R.cells ∧ ns ≤ R.slots) (hW : (S.map fun v => v.category).sum ≤ 8) (hl1 : Cond.methodLink own index yX4_figuresOf ∈ pb_gw) (hdg : decode cc pc = .ok (.invokestatic index, 3)) (hq : pc + 3 = q) (k : ∀ b1 μ1, pb_RW l E R own cc mL ret Xs nc ns Qf q L (.int b1 :: S) μ1 (f b1 μ1)) : pb_RW l E R own cc mL ret Xs nc ns Qf pc L (.int v0 :: S) μ (pb_b (pX4_figuresOf v0 μ) f) := pb_callS q (fun z : Int32 => some (.int z)) mc_X4_figuresOf ms_X4_figuresOf (fun b1 μ1 h => evX4_figuresOf l E v0  μ b1 μ1 h) rfl rfl rfl hR rfl hW hl1 hdg hq k
theorem ml_X5_27 : Cond.methodLink RX5 27 yX5_people ∈ pb_gw := pb_inW 286 (by decide +kernel) (by decide +kernel)
def pX5_hasPerson (h0 : Nat) (v1 : Int32) (μ : pb_M) : Option (Int32 × pb_M) :=
  if v1 < (0 : Int32) then
    some ((0 : Int32), μ)
  else
  pb_b (pX5_people h0 μ) (fun b6 μ6 =>
  if b6 ≤ v1 then
    some ((0 : Int32), μ6)
  else
  some ((1 : Int32), μ6))
abbrev wX5_hasPerson (l : Launch) (E : pb_E) := pb_RW l E { frames := 1, cells := 0, slots := 0, locals := 20 } RX5 cX5_hasPerson 2 (some .boolean) (fun _ => True) 0 0 (pb_Qf E (fun z : Int32 => some (.int z)))
set_option maxRecDepth 100000 in
set_option maxHeartbeats 4000000 in
theorem evX5_hasPerson (l : Launch) (E : pb_E) (h0 : Nat) (v1 : Int32) (hv0 : pb_V h0) (μ : pb_M) : ∀ b μ', pX5_hasPerson h0 v1 μ = some (b, μ') → pb_Ev l E yX5_hasPerson cX5_hasPerson 2 (some .boolean) { frames := 1, cells := 0, slots := 0, locals := 20 } [.ref (E.2.1 h0), .int v1] μ ((fun z : Int32 => some (.int z)) b) μ' := by
  refine pb_enter (L := [some (.ref (E.2.1 h0)), some (.int v1)]) (by decide +kernel) (Nat.le_of_ble_eq_true rfl) (pb_same [none, none] rfl) (show wX5_hasPerson l E 0 [some (.ref (E.2.1 h0)), some (.int v1)] [] μ (pX5_hasPerson h0 v1 μ) from ?_)
  unfold pX5_hasPerson
  refine pb_iload_n 1 dX5_hasPerson_0 rfl rfl rfl ?_
  refine pb_if_lt 4 (tgt := 16) dX5_hasPerson_1 (by decide) rfl (fun _ => ?_) (fun _ => ?_)
  · refine pb_iconst 17 (v := 0) dX5_hasPerson_16 rfl (by decide) ?_
    exact pb_zret rfl dX5_hasPerson_17
  · refine pb_iload_n 5 dX5_hasPerson_4 rfl rfl rfl ?_
    refine pb_aload_n 6 dX5_hasPerson_5 rfl rfl rfl ?_
    refine cl_X5_people 9 hv0 ⟨by decide, by decide, by decide, by decide⟩ (Nat.le_of_ble_eq_true rfl) ml_X5_27 dX5_hasPerson_6 rfl (fun b6 μ6 => ?_)
    refine pb_icmp_ge 12 (tgt := 16) dX5_hasPerson_9 (by decide) rfl (fun _ => ?_) (fun _ => ?_)
    · refine pb_iconst 17 (v := 0) dX5_hasPerson_16 rfl (by decide) ?_
      exact pb_zret rfl dX5_hasPerson_17
    · refine pb_iconst 13 (v := 1) dX5_hasPerson_12 rfl (by decide) ?_
      refine pb_goto (tgt := 17) dX5_hasPerson_13 (by decide) ?_
      exact pb_zret rfl dX5_hasPerson_17
theorem mc_X5_hasPerson : pb_MC yX5_hasPerson cX5_hasPerson 2 (some .boolean) 1 := ⟨pb_inW 285 (by decide +kernel) (by decide +kernel), pb_inW 63 (by decide +kernel) (by decide +kernel), by decide +kernel, by decide +kernel, by decide +kernel⟩
theorem mi_X5_hasPerson : Cond.instanceMethod yX5_hasPerson ∈ pb_gw := pb_inW 283 (by decide +kernel) (by decide +kernel)
theorem ms_X5_hasPerson : Cond.selects (yX5_hasPerson).cls yX5_hasPerson yX5_hasPerson ∈ pb_gw := pb_inW 284 (by decide +kernel) (by decide +kernel)
theorem cl_X5_hasPerson {α : Type} {l : Launch} {E : pb_E} {R : Room} {own : String} {cc : ByteArray} {mL : Nat} {ret : Option FieldType} {Xs : State → Prop} {nc ns : Nat} {Qf : State → Array Value → List Frame → α → pb_M → State → Prop} {pc : Nat} {L : List (Option Value)} {S : List Value} {μ : pb_M} {f : Int32 → pb_M → Option (α × pb_M)} {h0 : Nat} {v1 : Int32} {index : Nat} (q : Nat) (hv0 : pb_V h0) (hR : 1 + 1 ≤ R.frames ∧ 8 + (2 + 11) + 20 ≤ R.locals ∧ nc ≤ R.cells ∧ ns ≤ R.slots) (hW : (S.map fun v => v.category).sum ≤ 8) (hl1 : Cond.methodLink own index yX5_hasPerson ∈ pb_gw) (hdg : decode cc pc = .ok (.invokevirtual index, 3)) (hq : pc + 3 = q) (k : ∀ b1 μ1, pb_RW l E R own cc mL ret Xs nc ns Qf q L (.int b1 :: S) μ1 (f b1 μ1)) : pb_RW l E R own cc mL ret Xs nc ns Qf pc L (.int v1 :: .ref (E.2.1 h0) :: S) μ (pb_b (pX5_hasPerson h0 v1 μ) f) := pb_callV q (fun z : Int32 => some (.int z)) mc_X5_hasPerson mi_X5_hasPerson ms_X5_hasPerson (fun b1 μ1 h => evX5_hasPerson l E h0 v1 hv0 μ b1 μ1 h) hv0.1 (by decide) rfl rfl rfl rfl hR rfl hW hl1 hdg hq k
theorem ml_X4_64 : Cond.methodLink RX4 64 yX5_hasPerson ∈ pb_gw := pb_inW 282 (by decide +kernel) (by decide +kernel)
def pX4_beastFigureFits (h0 : Nat) (v1 : Int32) (v2 : Int32) (μ : pb_M) : Option (Int32 × pb_M) :=
  if v1 = (0 : Int32) then
    pb_b (pX5_hasPerson h0 v2 μ) (fun b30 μ30 =>
    if b30 = 0 ∨ b30 = 1 then some (b30, μ30) else none)
  else
  if v1 = (1 : Int32) then
    if v2 < (1 : Int32) then
      some ((0 : Int32), μ)
    else
    some ((1 : Int32), μ)
  else
  if v2 < (0 : Int32) then
    some ((0 : Int32), μ)
  else
  if (3 : Int32) < v2 then
    some ((0 : Int32), μ)
  else
  some ((1 : Int32), μ)
abbrev wX4_beastFigureFits (l : Launch) (E : pb_E) := pb_RW l E { frames := 2, cells := 0, slots := 0, locals := 41 } RX4 cX4_beastFigureFits 3 (some .boolean) (fun _ => True) 0 0 (pb_Qf E (fun z : Int32 => some (.int z)))
set_option maxRecDepth 100000 in
set_option maxHeartbeats 4000000 in
theorem evX4_beastFigureFits (l : Launch) (E : pb_E) (h0 : Nat) (v1 : Int32) (v2 : Int32) (hv0 : pb_V h0) (μ : pb_M) : ∀ b μ', pX4_beastFigureFits h0 v1 v2 μ = some (b, μ') → pb_Ev l E yX4_beastFigureFits cX4_beastFigureFits 3 (some .boolean) { frames := 2, cells := 0, slots := 0, locals := 41 } [.ref (E.2.1 h0), .int v1, .int v2] μ ((fun z : Int32 => some (.int z)) b) μ' := by
  refine pb_enter (L := [some (.ref (E.2.1 h0)), some (.int v1), some (.int v2)]) (by decide +kernel) (Nat.le_of_ble_eq_true rfl) (pb_same [none, none, none] rfl) (show wX4_beastFigureFits l E 0 [some (.ref (E.2.1 h0)), some (.int v1), some (.int v2)] [] μ (pX4_beastFigureFits h0 v1 v2 μ) from ?_)
  unfold pX4_beastFigureFits
  refine pb_iload_n 1 dX4_beastFigureFits_0 rfl rfl rfl ?_
  refine pb_ite (fun c0 => ?_) (fun c0 => ?_)
  · refine pb_lookup (off := 27) (tgt := 28) dX4_beastFigureFits_1 (by decide) (by rw [c0]; rfl) (by decide) ?_
    refine pb_aload_n 29 dX4_beastFigureFits_28 rfl rfl rfl ?_
    refine pb_iload_n 30 dX4_beastFigureFits_29 rfl rfl rfl ?_
    refine cl_X5_hasPerson 33 hv0 ⟨by decide, by decide, by decide, by decide⟩ (Nat.le_of_ble_eq_true rfl) ml_X4_64 dX4_beastFigureFits_30 rfl (fun b30 μ30 => ?_)
    exact pb_zretG dX4_beastFigureFits_33
  · refine pb_ite (fun c1 => ?_) (fun c1 => ?_)
    · refine pb_lookup (off := 33) (tgt := 34) dX4_beastFigureFits_1 (by decide) (by rw [c1]; rfl) (by decide) ?_
      refine pb_iload_n 35 dX4_beastFigureFits_34 rfl rfl rfl ?_
      refine pb_iconst 36 (v := 1) dX4_beastFigureFits_35 rfl (by decide) ?_
      refine pb_icmp_lt 39 (tgt := 43) dX4_beastFigureFits_36 (by decide) rfl (fun _ => ?_) (fun _ => ?_)
      · refine pb_iconst 44 (v := 0) dX4_beastFigureFits_43 rfl (by decide) ?_
        exact pb_zret rfl dX4_beastFigureFits_44
      · refine pb_iconst 40 (v := 1) dX4_beastFigureFits_39 rfl (by decide) ?_
        refine pb_goto (tgt := 44) dX4_beastFigureFits_40 (by decide) ?_
        exact pb_zret rfl dX4_beastFigureFits_44
    · refine pb_lookup (off := 44) (tgt := 45) dX4_beastFigureFits_1 (by decide) (by show Op.lookupswitch.offset [(0, 27), (1, 33)] 44 _ = _; rw [lv_osw c0 (by decide), lv_osw c1 (by decide)]; rfl) (by decide) ?_
      refine pb_iload_n 46 dX4_beastFigureFits_45 rfl rfl rfl ?_
      refine pb_if_lt 49 (tgt := 58) dX4_beastFigureFits_46 (by decide) rfl (fun _ => ?_) (fun _ => ?_)
      · refine pb_iconst 59 (v := 0) dX4_beastFigureFits_58 rfl (by decide) ?_
        exact pb_zret rfl dX4_beastFigureFits_59
      · refine pb_iload_n 50 dX4_beastFigureFits_49 rfl rfl rfl ?_
        refine pb_iconst 51 (v := 3) dX4_beastFigureFits_50 rfl (by decide) ?_
        refine pb_icmp_gt 54 (tgt := 58) dX4_beastFigureFits_51 (by decide) rfl (fun _ => ?_) (fun _ => ?_)
        · refine pb_iconst 59 (v := 0) dX4_beastFigureFits_58 rfl (by decide) ?_
          exact pb_zret rfl dX4_beastFigureFits_59
        · refine pb_iconst 55 (v := 1) dX4_beastFigureFits_54 rfl (by decide) ?_
          refine pb_goto (tgt := 59) dX4_beastFigureFits_55 (by decide) ?_
          exact pb_zret rfl dX4_beastFigureFits_59
theorem mc_X4_beastFigureFits : pb_MC yX4_beastFigureFits cX4_beastFigureFits 3 (some .boolean) 3 := ⟨pb_inW 281 (by decide +kernel) (by decide +kernel), pb_inW 62 (by decide +kernel) (by decide +kernel), by decide +kernel, by decide +kernel, by decide +kernel⟩
theorem ms_X4_beastFigureFits : Cond.static yX4_beastFigureFits ∈ pb_gw := pb_inW 280 (by decide +kernel) (by decide +kernel)
theorem cl_X4_beastFigureFits {α : Type} {l : Launch} {E : pb_E} {R : Room} {own : String} {cc : ByteArray} {mL : Nat} {ret : Option FieldType} {Xs : State → Prop} {nc ns : Nat} {Qf : State → Array Value → List Frame → α → pb_M → State → Prop} {pc : Nat} {L : List (Option Value)} {S : List Value} {μ : pb_M} {f : Int32 → pb_M → Option (α × pb_M)} {h0 : Nat} {v1 : Int32} {v2 : Int32} {index : Nat} (q : Nat) (hv0 : pb_V h0) (hR : 2 + 1 ≤ R.frames ∧ 8 + (3 + 11) + 41 ≤ R.locals ∧ nc ≤ R.cells ∧ ns ≤ R.slots) (hW : (S.map fun v => v.category).sum ≤ 8) (hl1 : Cond.methodLink own index yX4_beastFigureFits ∈ pb_gw) (hdg : decode cc pc = .ok (.invokestatic index, 3)) (hq : pc + 3 = q) (k : ∀ b1 μ1, pb_RW l E R own cc mL ret Xs nc ns Qf q L (.int b1 :: S) μ1 (f b1 μ1)) : pb_RW l E R own cc mL ret Xs nc ns Qf pc L (.int v2 :: .int v1 :: .ref (E.2.1 h0) :: S) μ (pb_b (pX4_beastFigureFits h0 v1 v2 μ) f) := pb_callS q (fun z : Int32 => some (.int z)) mc_X4_beastFigureFits ms_X4_beastFigureFits (fun b1 μ1 h => evX4_beastFigureFits l E h0 v1 v2 hv0 μ b1 μ1 h) rfl rfl rfl hR rfl hW hl1 hdg hq k
theorem fl_X4_15 : Cond.fieldLink RX4 15 (TX4 1).1 (TX4 1).2.1 (TX4 1).2.2.1 ∈ pb_gw := pb_inW 88 (by decide +kernel) (by decide +kernel)
def pX4_debtFigureFits (h1 : Nat) (v2 : Int32) (v3 : Int32) (μ : pb_M) : Option (Int32 × pb_M) :=
  if v2 = (0 : Int32) then
    pb_b (pX5_hasPerson h1 v3 μ) (fun b30 μ30 =>
    if b30 = (0 : Int32) then
      some ((0 : Int32), μ30)
    else
    pb_b (pX4_somePairIsLeftOf h1 v3 μ30) (fun b38 μ38 =>
    if b38 = (0 : Int32) then
      some ((0 : Int32), μ38)
    else
    some ((1 : Int32), μ38)))
  else
  if v2 = (1 : Int32) then
    pb_b (pX5_hasPerson h1 v3 μ) (fun b52 μ52 =>
    if b52 = (0 : Int32) then
      some ((0 : Int32), μ52)
    else
    pb_b (pX5_isPairLeft h1 (μ52.1 3 0) v3 μ52) (fun b66 μ66 =>
    if b66 = (0 : Int32) then
      some ((0 : Int32), μ66)
    else
    some ((1 : Int32), μ66)))
  else
  if v3 < (1 : Int32) then
    some ((0 : Int32), μ)
  else
  some ((1 : Int32), μ)
abbrev wX4_debtFigureFits (l : Launch) (E : pb_E) := pb_RW l E { frames := 2, cells := 0, slots := 0, locals := 44 } RX4 cX4_debtFigureFits 4 (some .boolean) (fun _ => True) 0 0 (pb_Qf E (fun z : Int32 => some (.int z)))
set_option maxRecDepth 100000 in
set_option maxHeartbeats 4000000 in
theorem evX4_debtFigureFits (l : Launch) (E : pb_E) (h1 : Nat) (v2 : Int32) (v3 : Int32) (hv1 : pb_V h1) (μ : pb_M) : ∀ b μ', pX4_debtFigureFits h1 v2 v3 μ = some (b, μ') → pb_Ev l E yX4_debtFigureFits cX4_debtFigureFits 4 (some .boolean) { frames := 2, cells := 0, slots := 0, locals := 44 } [.ref (E.2.1 1), .ref (E.2.1 h1), .int v2, .int v3] μ ((fun z : Int32 => some (.int z)) b) μ' := by
  refine pb_enter (L := [some (.ref (E.2.1 1)), some (.ref (E.2.1 h1)), some (.int v2), some (.int v3)]) (by decide +kernel) (Nat.le_of_ble_eq_true rfl) (pb_same [none, none, none, none] rfl) (show wX4_debtFigureFits l E 0 [some (.ref (E.2.1 1)), some (.ref (E.2.1 h1)), some (.int v2), some (.int v3)] [] μ (pX4_debtFigureFits h1 v2 v3 μ) from ?_)
  unfold pX4_debtFigureFits
  refine pb_iload_n 1 dX4_debtFigureFits_0 rfl rfl rfl ?_
  refine pb_ite (fun c0 => ?_) (fun c0 => ?_)
  · refine pb_lookup (off := 27) (tgt := 28) dX4_debtFigureFits_1 (by decide) (by rw [c0]; rfl) (by decide) ?_
    refine pb_aload_n 29 dX4_debtFigureFits_28 rfl rfl rfl ?_
    refine pb_iload_n 30 dX4_debtFigureFits_29 rfl rfl rfl ?_
    refine cl_X5_hasPerson 33 hv1 ⟨by decide, by decide, by decide, by decide⟩ (Nat.le_of_ble_eq_true rfl) ml_X4_64 dX4_debtFigureFits_30 rfl (fun b30 μ30 => ?_)
    refine pb_if_eq 36 (tgt := 48) dX4_debtFigureFits_33 (by decide) rfl (fun _ => ?_) (fun _ => ?_)
    · refine pb_iconst 49 (v := 0) dX4_debtFigureFits_48 rfl (by decide) ?_
      exact pb_zret rfl dX4_debtFigureFits_49
    · refine pb_aload_n 37 dX4_debtFigureFits_36 rfl rfl rfl ?_
      refine pb_iload_n 38 dX4_debtFigureFits_37 rfl rfl rfl ?_
      refine cl_X4_somePairIsLeftOf 41 hv1 ⟨by decide, by decide, by decide, by decide⟩ (Nat.le_of_ble_eq_true rfl) ml_X4_68 dX4_debtFigureFits_38 rfl (fun b38 μ38 => ?_)
      refine pb_if_eq 44 (tgt := 48) dX4_debtFigureFits_41 (by decide) rfl (fun _ => ?_) (fun _ => ?_)
      · refine pb_iconst 49 (v := 0) dX4_debtFigureFits_48 rfl (by decide) ?_
        exact pb_zret rfl dX4_debtFigureFits_49
      · refine pb_iconst 45 (v := 1) dX4_debtFigureFits_44 rfl (by decide) ?_
        refine pb_goto (tgt := 49) dX4_debtFigureFits_45 (by decide) ?_
        exact pb_zret rfl dX4_debtFigureFits_49
  · refine pb_ite (fun c1 => ?_) (fun c1 => ?_)
    · refine pb_lookup (off := 49) (tgt := 50) dX4_debtFigureFits_1 (by decide) (by rw [c1]; rfl) (by decide) ?_
      refine pb_aload_n 51 dX4_debtFigureFits_50 rfl rfl rfl ?_
      refine pb_iload_n 52 dX4_debtFigureFits_51 rfl rfl rfl ?_
      refine cl_X5_hasPerson 55 hv1 ⟨by decide, by decide, by decide, by decide⟩ (Nat.le_of_ble_eq_true rfl) ml_X4_64 dX4_debtFigureFits_52 rfl (fun b52 μ52 => ?_)
      refine pb_if_eq 58 (tgt := 76) dX4_debtFigureFits_55 (by decide) rfl (fun _ => ?_) (fun _ => ?_)
      · refine pb_iconst 77 (v := 0) dX4_debtFigureFits_76 rfl (by decide) ?_
        exact pb_zret rfl dX4_debtFigureFits_77
      · refine pb_aload_n 59 dX4_debtFigureFits_58 rfl rfl rfl ?_
        refine pb_aload_n 60 dX4_debtFigureFits_59 rfl rfl rfl ?_
        refine pb_getR 63 (j := 1) (d := 3) in_X4 rfl (by decide) rfl rfl (by decide) fl_X4_15 dX4_debtFigureFits_60 rfl ?_
        refine pb_iconst 64 (v := 0) dX4_debtFigureFits_63 rfl (by decide) ?_
        refine pb_iald 65 (j := 0) rfl (by decide) (by decide) dX4_debtFigureFits_64 rfl ?_
        refine pb_iload_n 66 dX4_debtFigureFits_65 rfl rfl rfl ?_
        refine cl_X5_isPairLeft 69 hv1 ⟨by decide, by decide, by decide, by decide⟩ (Nat.le_of_ble_eq_true rfl) ml_X4_71 dX4_debtFigureFits_66 rfl (fun b66 μ66 => ?_)
        refine pb_if_eq 72 (tgt := 76) dX4_debtFigureFits_69 (by decide) rfl (fun _ => ?_) (fun _ => ?_)
        · refine pb_iconst 77 (v := 0) dX4_debtFigureFits_76 rfl (by decide) ?_
          exact pb_zret rfl dX4_debtFigureFits_77
        · refine pb_iconst 73 (v := 1) dX4_debtFigureFits_72 rfl (by decide) ?_
          refine pb_goto (tgt := 77) dX4_debtFigureFits_73 (by decide) ?_
          exact pb_zret rfl dX4_debtFigureFits_77
    · refine pb_lookup (off := 77) (tgt := 78) dX4_debtFigureFits_1 (by decide) (by show Op.lookupswitch.offset [(0, 27), (1, 49)] 77 _ = _; rw [lv_osw c0 (by decide), lv_osw c1 (by decide)]; rfl) (by decide) ?_
      refine pb_iload_n 79 dX4_debtFigureFits_78 rfl rfl rfl ?_
      refine pb_iconst 80 (v := 1) dX4_debtFigureFits_79 rfl (by decide) ?_
      refine pb_icmp_lt 83 (tgt := 87) dX4_debtFigureFits_80 (by decide) rfl (fun _ => ?_) (fun _ => ?_)
      · refine pb_iconst 88 (v := 0) dX4_debtFigureFits_87 rfl (by decide) ?_
        exact pb_zret rfl dX4_debtFigureFits_88
      · refine pb_iconst 84 (v := 1) dX4_debtFigureFits_83 rfl (by decide) ?_
        refine pb_goto (tgt := 88) dX4_debtFigureFits_84 (by decide) ?_
        exact pb_zret rfl dX4_debtFigureFits_88
theorem mc_X4_debtFigureFits : pb_MC yX4_debtFigureFits cX4_debtFigureFits 4 (some .boolean) 3 := ⟨pb_inW 290 (by decide +kernel) (by decide +kernel), pb_inW 62 (by decide +kernel) (by decide +kernel), by decide +kernel, by decide +kernel, by decide +kernel⟩
theorem mi_X4_debtFigureFits : Cond.instanceMethod yX4_debtFigureFits ∈ pb_gw := pb_inW 289 (by decide +kernel) (by decide +kernel)
theorem ms_X4_debtFigureFits : Cond.selects (yX4_debtFigureFits).cls yX4_debtFigureFits yX4_debtFigureFits ∈ pb_gw := pb_inW 2 (by decide +kernel) (by decide +kernel)
theorem cl_X4_debtFigureFits {α : Type} {l : Launch} {E : pb_E} {R : Room} {own : String} {cc : ByteArray} {mL : Nat} {ret : Option FieldType} {Xs : State → Prop} {nc ns : Nat} {Qf : State → Array Value → List Frame → α → pb_M → State → Prop} {pc : Nat} {L : List (Option Value)} {S : List Value} {μ : pb_M} {f : Int32 → pb_M → Option (α × pb_M)} {h1 : Nat} {v2 : Int32} {v3 : Int32} {index : Nat} (q : Nat) (hv1 : pb_V h1) (hR : 2 + 1 ≤ R.frames ∧ 8 + (4 + 11) + 44 ≤ R.locals ∧ nc ≤ R.cells ∧ ns ≤ R.slots) (hW : (S.map fun v => v.category).sum ≤ 8) (hl1 : Cond.methodLink own index yX4_debtFigureFits ∈ pb_gw) (hdg : decode cc pc = .ok (.invokevirtual index, 3)) (hq : pc + 3 = q) (k : ∀ b1 μ1, pb_RW l E R own cc mL ret Xs nc ns Qf q L (.int b1 :: S) μ1 (f b1 μ1)) : pb_RW l E R own cc mL ret Xs nc ns Qf pc L (.int v3 :: .int v2 :: .ref (E.2.1 h1) :: .ref (E.2.1 1) :: S) μ (pb_b (pX4_debtFigureFits h1 v2 v3 μ) f) := pb_callV q (fun z : Int32 => some (.int z)) mc_X4_debtFigureFits mi_X4_debtFigureFits ms_X4_debtFigureFits (fun b1 μ1 h => evX4_debtFigureFits l E h1 v2 v3 hv1 μ b1 μ1 h) rfl (by decide) rfl rfl rfl rfl hR rfl hW hl1 hdg hq k
