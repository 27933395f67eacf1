theorem fl_X7_22 : Cond.fieldLink RX7 22 (TX7 8).1 (TX7 8).2.1 (TX7 8).2.2.1 ∈ pb_gw := pb_inW 792 (by decide +kernel) (by decide +kernel)
theorem fl_X7_51 : Cond.fieldLink RX7 51 (TX7 9).1 (TX7 9).2.1 (TX7 9).2.2.1 ∈ pb_gw := pb_inW 793 (by decide +kernel) (by decide +kernel)
theorem kc_X7_45 : Cond.constantLong RX7 45 (255 : Int64) ∈ pb_gw := pb_inW 856 (by decide +kernel) (by decide +kernel)
theorem ml_X7_47 : Cond.methodLink RX7 47 yX7_in ∈ pb_gw := pb_inW 857 (by decide +kernel) (by decide +kernel)
def pX7_write (v1 : Int32) (μ : pb_M) : Option (Int32 × pb_M) :=
  pb_b (pX7_in (v1).toInt64 (0 : Int64) (255 : Int64) μ) (fun b6 μ6 =>
  if b6 = (0 : Int32) then
    some ((-2 : Int32), μ6)
  else
  if (μ6.1 19 9) = (56 : Int32) then
    some ((-4 : Int32), μ6)
  else
  if pb_in (μ6.1 19 9) 56 then
    some (((pb_sA (pb_sA μ6 24 (upd (μ6.1 24) ((μ6.1 19 9)).toNatClampNeg v1)) 19 (upd ((pb_sA μ6 24 (upd (μ6.1 24) ((μ6.1 19 9)).toNatClampNeg v1)).1 19) 9 (((pb_sA μ6 24 (upd (μ6.1 24) ((μ6.1 19 9)).toNatClampNeg v1)).1 19 9) + (1 : Int32)))).1 19 9), (pb_sA (pb_sA μ6 24 (upd (μ6.1 24) ((μ6.1 19 9)).toNatClampNeg v1)) 19 (upd ((pb_sA μ6 24 (upd (μ6.1 24) ((μ6.1 19 9)).toNatClampNeg v1)).1 19) 9 (((pb_sA μ6 24 (upd (μ6.1 24) ((μ6.1 19 9)).toNatClampNeg v1)).1 19 9) + (1 : Int32)))))
  else none)
abbrev wX7_write (l : Launch) (E : pb_E) := pb_RW l E { frames := 1, cells := 0, slots := 0, locals := 25 } RX7 cX7_write 2 (some .int) (fun _ => True) 0 0 (pb_Qf E (fun z : Int32 => some (.int z)))
set_option maxRecDepth 100000 in
set_option maxHeartbeats 4000000 in
theorem evX7_write (l : Launch) (E : pb_E) (v1 : Int32)  (μ : pb_M) : ∀ b μ', pX7_write v1 μ = some (b, μ') → pb_Ev l E yX7_write cX7_write 2 (some .int) { frames := 1, cells := 0, slots := 0, locals := 25 } [.ref (E.2.1 19), .int v1] μ ((fun z : Int32 => some (.int z)) b) μ' := by
  refine pb_enter (L := [some (.ref (E.2.1 19)), some (.int v1)]) (by decide +kernel) (Nat.le_of_ble_eq_true rfl) (pb_same [none, none] rfl) (show wX7_write l E 0 [some (.ref (E.2.1 19)), some (.int v1)] [] μ (pX7_write v1 μ) from ?_)
  unfold pX7_write
  refine pb_iload_n 1 dX7_write_0 rfl rfl rfl ?_
  refine pb_i2l 2 dX7_write_1 rfl ?_
  refine pb_lconst 3 (v := 0) dX7_write_2 rfl (by decide) ?_
  refine pb_ldc2 6 kc_X7_45 dX7_write_3 rfl ?_
  refine cl_X7_in 9 ⟨by decide, by decide, by decide, by decide⟩ (Nat.le_of_ble_eq_true rfl) ml_X7_47 dX7_write_6 rfl (fun b6 μ6 => ?_)
  refine pb_if_ne 12 (tgt := 15) dX7_write_9 (by decide) rfl (fun _ => ?_) (fun _ => ?_)
  · refine pb_bipush 14 (v := -2) dX7_write_12 rfl (by decide) ?_
    exact pb_iret dX7_write_14
  · refine pb_aload_n 16 dX7_write_15 rfl rfl rfl ?_
    refine pb_getI 19 (j := 9) in_X7 rfl (by decide) rfl rfl (by decide) fl_X7_51 dX7_write_16 rfl ?_
    refine pb_bipush 21 (v := 56) dX7_write_19 rfl (by decide) ?_
    refine pb_icmp_ne 24 (tgt := 27) dX7_write_21 (by decide) rfl (fun _ => ?_) (fun _ => ?_)
    · refine pb_bipush 26 (v := -4) dX7_write_24 rfl (by decide) ?_
      exact pb_iret dX7_write_26
    · refine pb_aload_n 28 dX7_write_27 rfl rfl rfl ?_
      refine pb_getR 31 (j := 8) (d := 24) in_X7 rfl (by decide) rfl rfl (by decide) fl_X7_22 dX7_write_28 rfl ?_
      refine pb_aload_n 32 dX7_write_31 rfl rfl rfl ?_
      refine pb_getI 35 (j := 9) in_X7 rfl (by decide) rfl rfl (by decide) fl_X7_51 dX7_write_32 rfl ?_
      refine pb_iload_n 36 dX7_write_35 rfl rfl rfl ?_
      refine pb_guard (fun hin => pb_iast 37 rfl hin rfl dX7_write_36 rfl ?_)
      refine pb_aload_n 38 dX7_write_37 rfl rfl rfl ?_
      refine pb_dup 39 dX7_write_38 rfl rfl ?_
      refine pb_getI 42 (j := 9) in_X7 rfl (by decide) rfl rfl (by decide) fl_X7_51 dX7_write_39 rfl ?_
      refine pb_iconst 43 (v := 1) dX7_write_42 rfl (by decide) ?_
      refine pb_iadd 44 dX7_write_43 rfl ?_
      refine pb_putI 47 (j := 9) tyX7 tyX7_ok nmX7 in_X7 rfl (by decide) rfl rfl (by decide) fl_X7_51 rfl (by decide +kernel) dX7_write_44 rfl ?_
      refine pb_aload_n 48 dX7_write_47 rfl rfl rfl ?_
      refine pb_getI 51 (j := 9) in_X7 rfl (by decide) rfl rfl (by decide) fl_X7_51 dX7_write_48 rfl ?_
      exact pb_iret dX7_write_51
theorem mc_X7_write : pb_MC yX7_write cX7_write 2 (some .int) 1 := ⟨pb_inW 855 (by decide +kernel) (by decide +kernel), pb_inW 68 (by decide +kernel) (by decide +kernel), by decide +kernel, by decide +kernel, by decide +kernel⟩
theorem mi_X7_write : Cond.instanceMethod yX7_write ∈ pb_gw := pb_inW 853 (by decide +kernel) (by decide +kernel)
theorem ms_X7_write : Cond.selects (yX7_write).cls yX7_write yX7_write ∈ pb_gw := pb_inW 854 (by decide +kernel) (by decide +kernel)
theorem cl_X7_write {α : Type} {l : Launch} {E : pb_E} {R : Room} {own : String} {cc : ByteArray} {mL : Nat} {ret : Option FieldType} {Xs : State → Prop} {nc ns : Nat} {Qf : State → Array Value → List Frame → α → pb_M → State → Prop} {pc : Nat} {L : List (Option Value)} {S : List Value} {μ : pb_M} {f : Int32 → pb_M → Option (α × pb_M)} {v1 : Int32} {index : Nat} (q : Nat)  (hR : 1 + 1 ≤ R.frames ∧ 8 + (2 + 11) + 25 ≤ R.locals ∧ nc ≤ R.cells ∧ ns ≤ R.slots) (hW : (S.map fun v => v.category).sum ≤ 8) (hl1 : Cond.methodLink own index yX7_write ∈ pb_gw) (hdg : decode cc pc = .ok (.invokevirtual index, 3)) (hq : pc + 3 = q) (k : ∀ b1 μ1, pb_RW l E R own cc mL ret Xs nc ns Qf q L (.int b1 :: S) μ1 (f b1 μ1)) : pb_RW l E R own cc mL ret Xs nc ns Qf pc L (.int v1 :: .ref (E.2.1 19) :: S) μ (pb_b (pX7_write v1 μ) f) := pb_callV q (fun z : Int32 => some (.int z)) mc_X7_write mi_X7_write ms_X7_write (fun b1 μ1 h => evX7_write l E v1  μ b1 μ1 h) rfl (by decide) rfl rfl rfl rfl hR rfl hW hl1 hdg hq k
def pX7_wipe  (μ : pb_M) : Option (Int32 × pb_M) :=
  some ((μ.1 19 9), (pb_sA μ 19 (upd (μ.1 19) 9 (0 : Int32))))
abbrev wX7_wipe (l : Launch) (E : pb_E) := pb_RW l E { frames := 0, cells := 0, slots := 0, locals := 0 } RX7 cX7_wipe 2 (some .int) (fun _ => True) 0 0 (pb_Qf E (fun z : Int32 => some (.int z)))
set_option maxRecDepth 100000 in
set_option maxHeartbeats 4000000 in
theorem evX7_wipe (l : Launch) (E : pb_E)   (μ : pb_M) : ∀ b μ', pX7_wipe  μ = some (b, μ') → pb_Ev l E yX7_wipe cX7_wipe 2 (some .int) { frames := 0, cells := 0, slots := 0, locals := 0 } [.ref (E.2.1 19)] μ ((fun z : Int32 => some (.int z)) b) μ' := by
  refine pb_enter (L := [some (.ref (E.2.1 19)), none]) (by decide +kernel) (Nat.le_of_ble_eq_true rfl) (pb_same [none, none] rfl) (show wX7_wipe l E 0 [some (.ref (E.2.1 19)), none] [] μ (pX7_wipe  μ) from ?_)
  unfold pX7_wipe
  refine pb_aload_n 1 dX7_wipe_0 rfl rfl rfl ?_
  refine pb_getI 4 (j := 9) in_X7 rfl (by decide) rfl rfl (by decide) fl_X7_51 dX7_wipe_1 rfl ?_
  refine pb_istore_n 5 (i := 1) (L' := [some (.ref (E.2.1 19)), some (.int (μ.1 19 9))]) dX7_wipe_4 rfl (by decide) rfl rfl rfl ?_
  refine pb_aload_n 6 dX7_wipe_5 rfl rfl rfl ?_
  refine pb_iconst 7 (v := 0) dX7_wipe_6 rfl (by decide) ?_
  refine pb_putI 10 (j := 9) tyX7 tyX7_ok nmX7 in_X7 rfl (by decide) rfl rfl (by decide) fl_X7_51 rfl (by decide +kernel) dX7_wipe_7 rfl ?_
  refine pb_iload_n 11 dX7_wipe_10 rfl rfl rfl ?_
  exact pb_iret dX7_wipe_11
theorem mc_X7_wipe : pb_MC yX7_wipe cX7_wipe 2 (some .int) 0 := ⟨pb_inW 863 (by decide +kernel) (by decide +kernel), pb_inW 68 (by decide +kernel) (by decide +kernel), by decide +kernel, by decide +kernel, by decide +kernel⟩
theorem mi_X7_wipe : Cond.instanceMethod yX7_wipe ∈ pb_gw := pb_inW 861 (by decide +kernel) (by decide +kernel)
theorem ms_X7_wipe : Cond.selects (yX7_wipe).cls yX7_wipe yX7_wipe ∈ pb_gw := pb_inW 862 (by decide +kernel) (by decide +kernel)
theorem cl_X7_wipe {α : Type} {l : Launch} {E : pb_E} {R : Room} {own : String} {cc : ByteArray} {mL : Nat} {ret : Option FieldType} {Xs : State → Prop} {nc ns : Nat} {Qf : State → Array Value → List Frame → α → pb_M → State → Prop} {pc : Nat} {L : List (Option Value)} {S : List Value} {μ : pb_M} {f : Int32 → pb_M → Option (α × pb_M)}  {index : Nat} (q : Nat)  (hR : 0 + 1 ≤ R.frames ∧ 8 + (2 + 11) + 0 ≤ R.locals ∧ nc ≤ R.cells ∧ ns ≤ R.slots) (hW : (S.map fun v => v.category).sum ≤ 8) (hl1 : Cond.methodLink own index yX7_wipe ∈ pb_gw) (hdg : decode cc pc = .ok (.invokevirtual index, 3)) (hq : pc + 3 = q) (k : ∀ b1 μ1, pb_RW l E R own cc mL ret Xs nc ns Qf q L (.int b1 :: S) μ1 (f b1 μ1)) : pb_RW l E R own cc mL ret Xs nc ns Qf pc L (.ref (E.2.1 19) :: S) μ (pb_b (pX7_wipe  μ) f) := pb_callV q (fun z : Int32 => some (.int z)) mc_X7_wipe mi_X7_wipe ms_X7_wipe (fun b1 μ1 h => evX7_wipe l E   μ b1 μ1 h) rfl (by decide) rfl rfl rfl rfl hR rfl hW hl1 hdg hq k
theorem fl_X7_54 : Cond.fieldLink RX7 54 (TX7 11).1 (TX7 11).2.1 (TX7 11).2.2.1 ∈ pb_gw := pb_inW 795 (by decide +kernel) (by decide +kernel)
theorem fl_X7_57 : Cond.fieldLink RX7 57 (TX7 10).1 (TX7 10).2.1 (TX7 10).2.2.1 ∈ pb_gw := pb_inW 794 (by decide +kernel) (by decide +kernel)
def pX7_figure_J37 (v1 : Int32) (v2 : Int32) (s0 : Int32) (μ : pb_M) : Option (Int32 × pb_M) :=
  pb_b (pX7_in (s0).toInt64 (v1).toInt64 (v2).toInt64 μ) (fun b44 μ44 =>
  if b44 = (0 : Int32) then
    if (μ44.1 19 11) = (-9 : Int32) then
      some (v1, (pb_sA μ44 19 (upd (μ44.1 19) 11 (μ44.1 19 10))))
    else
    some (v1, (pb_sA μ44 19 (upd (μ44.1 19) 11 (μ44.1 19 11))))
  else
  some (s0, (pb_sA μ44 19 (upd (μ44.1 19) 10 ((μ44.1 19 10) + (1 : Int32))))))
def pX7_figure_J35 (v1 : Int32) (v2 : Int32) (μ : pb_M) : Option (Int32 × pb_M) :=
  pX7_figure_J37 v1 v2 (-9 : Int32) μ
def pX7_figure (v1 : Int32) (v2 : Int32) (μ : pb_M) : Option (Int32 × pb_M) :=
  if (μ.1 19 11) = (-9 : Int32) then
    if (μ.1 19 9) ≤ (μ.1 19 10) then
      pX7_figure_J35 v1 v2 μ
    else
    if pb_in (μ.1 19 10) 56 then
      pX7_figure_J37 v1 v2 ((μ.1 24 ((μ.1 19 10)).toNatClampNeg) - (48 : Int32)) μ
    else none
  else
  pX7_figure_J35 v1 v2 μ
abbrev wX7_figure (l : Launch) (E : pb_E) := pb_RW l E { frames := 1, cells := 0, slots := 0, locals := 25 } RX7 cX7_figure 4 (some .int) (fun _ => True) 0 0 (pb_Qf E (fun z : Int32 => some (.int z)))
set_option maxRecDepth 100000 in
set_option maxHeartbeats 4000000 in
theorem tX7_figure_J37 (l : Launch) (E : pb_E)    : ∀ (v1 : Int32) (v2 : Int32) (s0 : Int32) (μ : pb_M), wX7_figure l E 37 [some (.ref (E.2.1 19)), some (.int v1), some (.int v2), none] [.int s0] μ (pX7_figure_J37 v1 v2 s0 μ) := by
  intro v1 v2 s0 μ
  unfold pX7_figure_J37
  refine pb_istore_n 38 (i := 3) (L' := [some (.ref (E.2.1 19)), some (.int v1), some (.int v2), some (.int s0)]) dX7_figure_37 rfl (by decide) rfl rfl rfl ?_
  refine pb_iload_n 39 dX7_figure_38 rfl rfl rfl ?_
  refine pb_i2l 40 dX7_figure_39 rfl ?_
  refine pb_iload_n 41 dX7_figure_40 rfl rfl rfl ?_
  refine pb_i2l 42 dX7_figure_41 rfl ?_
  refine pb_iload_n 43 dX7_figure_42 rfl rfl rfl ?_
  refine pb_i2l 44 dX7_figure_43 rfl ?_
  refine cl_X7_in 47 ⟨by decide, by decide, by decide, by decide⟩ (Nat.le_of_ble_eq_true rfl) ml_X7_47 dX7_figure_44 rfl (fun b44 μ44 => ?_)
  refine pb_if_ne 50 (tgt := 76) dX7_figure_47 (by decide) rfl (fun _ => ?_) (fun _ => ?_)
  · refine pb_aload_n 51 dX7_figure_50 rfl rfl rfl ?_
    refine pb_aload_n 52 dX7_figure_51 rfl rfl rfl ?_
    refine pb_getI 55 (j := 11) in_X7 rfl (by decide) rfl rfl (by decide) fl_X7_54 dX7_figure_52 rfl ?_
    refine pb_bipush 57 (v := -9) dX7_figure_55 rfl (by decide) ?_
    refine pb_icmp_ne 60 (tgt := 67) dX7_figure_57 (by decide) rfl (fun _ => ?_) (fun _ => ?_)
    · refine pb_aload_n 61 dX7_figure_60 rfl rfl rfl ?_
      refine pb_getI 64 (j := 10) in_X7 rfl (by decide) rfl rfl (by decide) fl_X7_57 dX7_figure_61 rfl ?_
      refine pb_goto (tgt := 71) dX7_figure_64 (by decide) ?_
      refine pb_putI 74 (j := 11) tyX7 tyX7_ok nmX7 in_X7 rfl (by decide) rfl rfl (by decide) fl_X7_54 rfl (by decide +kernel) dX7_figure_71 rfl ?_
      refine pb_iload_n 75 dX7_figure_74 rfl rfl rfl ?_
      exact pb_iret dX7_figure_75
    · refine pb_aload_n 68 dX7_figure_67 rfl rfl rfl ?_
      refine pb_getI 71 (j := 11) in_X7 rfl (by decide) rfl rfl (by decide) fl_X7_54 dX7_figure_68 rfl ?_
      refine pb_putI 74 (j := 11) tyX7 tyX7_ok nmX7 in_X7 rfl (by decide) rfl rfl (by decide) fl_X7_54 rfl (by decide +kernel) dX7_figure_71 rfl ?_
      refine pb_iload_n 75 dX7_figure_74 rfl rfl rfl ?_
      exact pb_iret dX7_figure_75
  · refine pb_aload_n 77 dX7_figure_76 rfl rfl rfl ?_
    refine pb_dup 78 dX7_figure_77 rfl rfl ?_
    refine pb_getI 81 (j := 10) in_X7 rfl (by decide) rfl rfl (by decide) fl_X7_57 dX7_figure_78 rfl ?_
    refine pb_iconst 82 (v := 1) dX7_figure_81 rfl (by decide) ?_
    refine pb_iadd 83 dX7_figure_82 rfl ?_
    refine pb_putI 86 (j := 10) tyX7 tyX7_ok nmX7 in_X7 rfl (by decide) rfl rfl (by decide) fl_X7_57 rfl (by decide +kernel) dX7_figure_83 rfl ?_
    refine pb_iload_n 87 dX7_figure_86 rfl rfl rfl ?_
    exact pb_iret dX7_figure_87
set_option maxRecDepth 100000 in
set_option maxHeartbeats 4000000 in
theorem tX7_figure_J35 (l : Launch) (E : pb_E)    : ∀ (v1 : Int32) (v2 : Int32) (μ : pb_M), wX7_figure l E 35 [some (.ref (E.2.1 19)), some (.int v1), some (.int v2), none] [] μ (pX7_figure_J35 v1 v2 μ) := by
  intro v1 v2 μ
  unfold pX7_figure_J35
  refine pb_bipush 37 (v := -9) dX7_figure_35 rfl (by decide) ?_
  exact tX7_figure_J37 l E v1 v2 (-9 : Int32) μ
set_option maxRecDepth 100000 in
set_option maxHeartbeats 4000000 in
theorem evX7_figure (l : Launch) (E : pb_E) (v1 : Int32) (v2 : Int32)  (μ : pb_M) : ∀ b μ', pX7_figure v1 v2 μ = some (b, μ') → pb_Ev l E yX7_figure cX7_figure 4 (some .int) { frames := 1, cells := 0, slots := 0, locals := 25 } [.ref (E.2.1 19), .int v1, .int v2] μ ((fun z : Int32 => some (.int z)) b) μ' := by
  refine pb_enter (L := [some (.ref (E.2.1 19)), some (.int v1), some (.int v2), none]) (by decide +kernel) (Nat.le_of_ble_eq_true rfl) (pb_same [none, none, none, none] rfl) (show wX7_figure l E 0 [some (.ref (E.2.1 19)), some (.int v1), some (.int v2), none] [] μ (pX7_figure v1 v2 μ) from ?_)
  unfold pX7_figure
  refine pb_aload_n 1 dX7_figure_0 rfl rfl rfl ?_
  refine pb_getI 4 (j := 11) in_X7 rfl (by decide) rfl rfl (by decide) fl_X7_54 dX7_figure_1 rfl ?_
  refine pb_bipush 6 (v := -9) dX7_figure_4 rfl (by decide) ?_
  refine pb_icmp_ne 9 (tgt := 35) dX7_figure_6 (by decide) rfl (fun _ => ?_) (fun _ => ?_)
  · refine pb_aload_n 10 dX7_figure_9 rfl rfl rfl ?_
    refine pb_getI 13 (j := 10) in_X7 rfl (by decide) rfl rfl (by decide) fl_X7_57 dX7_figure_10 rfl ?_
    refine pb_aload_n 14 dX7_figure_13 rfl rfl rfl ?_
    refine pb_getI 17 (j := 9) in_X7 rfl (by decide) rfl rfl (by decide) fl_X7_51 dX7_figure_14 rfl ?_
    refine pb_icmp_ge 20 (tgt := 35) dX7_figure_17 (by decide) rfl (fun _ => ?_) (fun _ => ?_)
    · exact tX7_figure_J35 l E v1 v2 μ
    · refine pb_aload_n 21 dX7_figure_20 rfl rfl rfl ?_
      refine pb_getR 24 (j := 8) (d := 24) in_X7 rfl (by decide) rfl rfl (by decide) fl_X7_22 dX7_figure_21 rfl ?_
      refine pb_aload_n 25 dX7_figure_24 rfl rfl rfl ?_
      refine pb_getI 28 (j := 10) in_X7 rfl (by decide) rfl rfl (by decide) fl_X7_57 dX7_figure_25 rfl ?_
      refine pb_guard (fun hin => pb_iald 29 rfl hin rfl dX7_figure_28 rfl ?_)
      refine pb_bipush 31 (v := 48) dX7_figure_29 rfl (by decide) ?_
      refine pb_isub 32 dX7_figure_31 rfl ?_
      refine pb_goto (tgt := 37) dX7_figure_32 (by decide) ?_
      exact tX7_figure_J37 l E v1 v2 ((μ.1 24 ((μ.1 19 10)).toNatClampNeg) - (48 : Int32)) μ
  · exact tX7_figure_J35 l E v1 v2 μ
theorem mc_X7_figure : pb_MC yX7_figure cX7_figure 4 (some .int) 2 := ⟨pb_inW 879 (by decide +kernel) (by decide +kernel), pb_inW 68 (by decide +kernel) (by decide +kernel), by decide +kernel, by decide +kernel, by decide +kernel⟩
theorem mi_X7_figure : Cond.instanceMethod yX7_figure ∈ pb_gw := pb_inW 878 (by decide +kernel) (by decide +kernel)
theorem ms_X7_figure : Cond.selects (yX7_figure).cls yX7_figure yX7_figure ∈ pb_gw := pb_inW 29 (by decide +kernel) (by decide +kernel)
theorem cl_X7_figure {α : Type} {l : Launch} {E : pb_E} {R : Room} {own : String} {cc : ByteArray} {mL : Nat} {ret : Option FieldType} {Xs : State → Prop} {nc ns : Nat} {Qf : State → Array Value → List Frame → α → pb_M → State → Prop} {pc : Nat} {L : List (Option Value)} {S : List Value} {μ : pb_M} {f : Int32 → pb_M → Option (α × pb_M)} {v1 : Int32} {v2 : Int32} {index : Nat} (q : Nat)  (hR : 1 + 1 ≤ R.frames ∧ 8 + (4 + 11) + 25 ≤ R.locals ∧ nc ≤ R.cells ∧ ns ≤ R.slots) (hW : (S.map fun v => v.category).sum ≤ 8) (hl1 : Cond.methodLink own index yX7_figure ∈ pb_gw) (hdg : decode cc pc = .ok (.invokevirtual index, 3)) (hq : pc + 3 = q) (k : ∀ b1 μ1, pb_RW l E R own cc mL ret Xs nc ns Qf q L (.int b1 :: S) μ1 (f b1 μ1)) : pb_RW l E R own cc mL ret Xs nc ns Qf pc L (.int v2 :: .int v1 :: .ref (E.2.1 19) :: S) μ (pb_b (pX7_figure v1 v2 μ) f) := pb_callV q (fun z : Int32 => some (.int z)) mc_X7_figure mi_X7_figure ms_X7_figure (fun b1 μ1 h => evX7_figure l E v1 v2  μ b1 μ1 h) rfl (by decide) rfl rfl rfl rfl hR rfl hW hl1 hdg hq k
theorem kc_X7_60 : Cond.constantLong RX7 60 (9 : Int64) ∈ pb_gw := pb_inW 892 (by decide +kernel) (by decide +kernel)
theorem ml_X7_62 : Cond.methodLink RX7 62 yX7_has ∈ pb_gw := pb_inW 893 (by decide +kernel) (by decide +kernel)
def pX7_figureOf_J58  (μ : pb_M) : Option (Int32 × pb_M) :=
  if (μ.1 19 11) = (-9 : Int32) then
    some ((0 : Int32), (pb_sA μ 19 (upd (μ.1 19) 11 (μ.1 19 10))))
  else
  some ((0 : Int32), (pb_sA μ 19 (upd (μ.1 19) 11 (μ.1 19 11))))
def pX7_figureOf_J37 (v1 : Int32) (s0 : Int32) (μ : pb_M) : Option (Int32 × pb_M) :=
  pb_b (pX7_in (s0).toInt64 (0 : Int64) (9 : Int64) μ) (fun b44 μ44 =>
  if b44 = (0 : Int32) then
    pX7_figureOf_J58 μ44
  else
  pb_b (pX7_has v1 s0 μ44) (fun b52 μ52 =>
  if b52 = (0 : Int32) then
    pX7_figureOf_J58 μ52
  else
  some (s0, (pb_sA μ52 19 (upd (μ52.1 19) 10 ((μ52.1 19 10) + (1 : Int32)))))))
def pX7_figureOf_J35 (v1 : Int32) (μ : pb_M) : Option (Int32 × pb_M) :=
  pX7_figureOf_J37 v1 (-9 : Int32) μ
def pX7_figureOf (v1 : Int32) (μ : pb_M) : Option (Int32 × pb_M) :=
  if (μ.1 19 11) = (-9 : Int32) then
    if (μ.1 19 9) ≤ (μ.1 19 10) then
      pX7_figureOf_J35 v1 μ
    else
    if pb_in (μ.1 19 10) 56 then
      pX7_figureOf_J37 v1 ((μ.1 24 ((μ.1 19 10)).toNatClampNeg) - (48 : Int32)) μ
    else none
  else
  pX7_figureOf_J35 v1 μ
abbrev wX7_figureOf (l : Launch) (E : pb_E) := pb_RW l E { frames := 1, cells := 0, slots := 0, locals := 25 } RX7 cX7_figureOf 3 (some .int) (fun _ => True) 0 0 (pb_Qf E (fun z : Int32 => some (.int z)))
set_option maxRecDepth 100000 in
set_option maxHeartbeats 4000000 in
theorem tX7_figureOf_J58 (l : Launch) (E : pb_E)    : ∀  (μ : pb_M), wX7_figureOf l E 58 [some (.ref (E.2.1 19)), none, none] [] μ (pX7_figureOf_J58  μ) := by
  intro  μ
  unfold pX7_figureOf_J58
  refine pb_aload_n 59 dX7_figureOf_58 rfl rfl rfl ?_
  refine pb_aload_n 60 dX7_figureOf_59 rfl rfl rfl ?_
  refine pb_getI 63 (j := 11) in_X7 rfl (by decide) rfl rfl (by decide) fl_X7_54 dX7_figureOf_60 rfl ?_
  refine pb_bipush 65 (v := -9) dX7_figureOf_63 rfl (by decide) ?_
  refine pb_icmp_ne 68 (tgt := 75) dX7_figureOf_65 (by decide) rfl (fun _ => ?_) (fun _ => ?_)
  · refine pb_aload_n 69 dX7_figureOf_68 rfl rfl rfl ?_
    refine pb_getI 72 (j := 10) in_X7 rfl (by decide) rfl rfl (by decide) fl_X7_57 dX7_figureOf_69 rfl ?_
    refine pb_goto (tgt := 79) dX7_figureOf_72 (by decide) ?_
    refine pb_putI 82 (j := 11) tyX7 tyX7_ok nmX7 in_X7 rfl (by decide) rfl rfl (by decide) fl_X7_54 rfl (by decide +kernel) dX7_figureOf_79 rfl ?_
    refine pb_iconst 83 (v := 0) dX7_figureOf_82 rfl (by decide) ?_
    exact pb_iret dX7_figureOf_83
  · refine pb_aload_n 76 dX7_figureOf_75 rfl rfl rfl ?_
    refine pb_getI 79 (j := 11) in_X7 rfl (by decide) rfl rfl (by decide) fl_X7_54 dX7_figureOf_76 rfl ?_
    refine pb_putI 82 (j := 11) tyX7 tyX7_ok nmX7 in_X7 rfl (by decide) rfl rfl (by decide) fl_X7_54 rfl (by decide +kernel) dX7_figureOf_79 rfl ?_
    refine pb_iconst 83 (v := 0) dX7_figureOf_82 rfl (by decide) ?_
    exact pb_iret dX7_figureOf_83
set_option maxRecDepth 100000 in
set_option maxHeartbeats 4000000 in
theorem tX7_figureOf_J37 (l : Launch) (E : pb_E)    : ∀ (v1 : Int32) (s0 : Int32) (μ : pb_M), wX7_figureOf l E 37 [some (.ref (E.2.1 19)), some (.int v1), none] [.int s0] μ (pX7_figureOf_J37 v1 s0 μ) := by
  intro v1 s0 μ
  unfold pX7_figureOf_J37
  refine pb_istore_n 38 (i := 2) (L' := [some (.ref (E.2.1 19)), some (.int v1), some (.int s0)]) dX7_figureOf_37 rfl (by decide) rfl rfl rfl ?_
  refine pb_iload_n 39 dX7_figureOf_38 rfl rfl rfl ?_
  refine pb_i2l 40 dX7_figureOf_39 rfl ?_
  refine pb_lconst 41 (v := 0) dX7_figureOf_40 rfl (by decide) ?_
  refine pb_ldc2 44 kc_X7_60 dX7_figureOf_41 rfl ?_
  refine cl_X7_in 47 ⟨by decide, by decide, by decide, by decide⟩ (Nat.le_of_ble_eq_true rfl) ml_X7_47 dX7_figureOf_44 rfl (fun b44 μ44 => ?_)
  refine pb_if_eq 50 (tgt := 58) dX7_figureOf_47 (by decide) rfl (fun _ => ?_) (fun _ => ?_)
  · refine pb_weakM (L' := [some (.ref (E.2.1 19)), none, none]) [true, false, false] rfl ?_
    exact tX7_figureOf_J58 l E μ44
  · refine pb_iload_n 51 dX7_figureOf_50 rfl rfl rfl ?_
    refine pb_iload_n 52 dX7_figureOf_51 rfl rfl rfl ?_
    refine cl_X7_has 55 ⟨by decide, by decide, by decide, by decide⟩ (Nat.le_of_ble_eq_true rfl) ml_X7_62 dX7_figureOf_52 rfl (fun b52 μ52 => ?_)
    refine pb_if_ne 58 (tgt := 84) dX7_figureOf_55 (by decide) rfl (fun _ => ?_) (fun _ => ?_)
    · refine pb_weakM (L' := [some (.ref (E.2.1 19)), none, none]) [true, false, false] rfl ?_
      exact tX7_figureOf_J58 l E μ52
    · refine pb_aload_n 85 dX7_figureOf_84 rfl rfl rfl ?_
      refine pb_dup 86 dX7_figureOf_85 rfl rfl ?_
      refine pb_getI 89 (j := 10) in_X7 rfl (by decide) rfl rfl (by decide) fl_X7_57 dX7_figureOf_86 rfl ?_
      refine pb_iconst 90 (v := 1) dX7_figureOf_89 rfl (by decide) ?_
      refine pb_iadd 91 dX7_figureOf_90 rfl ?_
      refine pb_putI 94 (j := 10) tyX7 tyX7_ok nmX7 in_X7 rfl (by decide) rfl rfl (by decide) fl_X7_57 rfl (by decide +kernel) dX7_figureOf_91 rfl ?_
      refine pb_iload_n 95 dX7_figureOf_94 rfl rfl rfl ?_
      exact pb_iret dX7_figureOf_95
set_option maxRecDepth 100000 in
set_option maxHeartbeats 4000000 in
theorem tX7_figureOf_J35 (l : Launch) (E : pb_E)    : ∀ (v1 : Int32) (μ : pb_M), wX7_figureOf l E 35 [some (.ref (E.2.1 19)), some (.int v1), none] [] μ (pX7_figureOf_J35 v1 μ) := by
  intro v1 μ
  unfold pX7_figureOf_J35
  refine pb_bipush 37 (v := -9) dX7_figureOf_35 rfl (by decide) ?_
  exact tX7_figureOf_J37 l E v1 (-9 : Int32) μ
set_option maxRecDepth 100000 in
set_option maxHeartbeats 4000000 in
theorem evX7_figureOf (l : Launch) (E : pb_E) (v1 : Int32)  (μ : pb_M) : ∀ b μ', pX7_figureOf v1 μ = some (b, μ') → pb_Ev l E yX7_figureOf cX7_figureOf 3 (some .int) { frames := 1, cells := 0, slots := 0, locals := 25 } [.ref (E.2.1 19), .int v1] μ ((fun z : Int32 => some (.int z)) b) μ' := by
  refine pb_enter (L := [some (.ref (E.2.1 19)), some (.int v1), none]) (by decide +kernel) (Nat.le_of_ble_eq_true rfl) (pb_same [none, none, none] rfl) (show wX7_figureOf l E 0 [some (.ref (E.2.1 19)), some (.int v1), none] [] μ (pX7_figureOf v1 μ) from ?_)
  unfold pX7_figureOf
  refine pb_aload_n 1 dX7_figureOf_0 rfl rfl rfl ?_
  refine pb_getI 4 (j := 11) in_X7 rfl (by decide) rfl rfl (by decide) fl_X7_54 dX7_figureOf_1 rfl ?_
  refine pb_bipush 6 (v := -9) dX7_figureOf_4 rfl (by decide) ?_
  refine pb_icmp_ne 9 (tgt := 35) dX7_figureOf_6 (by decide) rfl (fun _ => ?_) (fun _ => ?_)
  · refine pb_aload_n 10 dX7_figureOf_9 rfl rfl rfl ?_
    refine pb_getI 13 (j := 10) in_X7 rfl (by decide) rfl rfl (by decide) fl_X7_57 dX7_figureOf_10 rfl ?_
    refine pb_aload_n 14 dX7_figureOf_13 rfl rfl rfl ?_
    refine pb_getI 17 (j := 9) in_X7 rfl (by decide) rfl rfl (by decide) fl_X7_51 dX7_figureOf_14 rfl ?_
    refine pb_icmp_ge 20 (tgt := 35) dX7_figureOf_17 (by decide) rfl (fun _ => ?_) (fun _ => ?_)
    · exact tX7_figureOf_J35 l E v1 μ
    · refine pb_aload_n 21 dX7_figureOf_20 rfl rfl rfl ?_
      refine pb_getR 24 (j := 8) (d := 24) in_X7 rfl (by decide) rfl rfl (by decide) fl_X7_22 dX7_figureOf_21 rfl ?_
      refine pb_aload_n 25 dX7_figureOf_24 rfl rfl rfl ?_
      refine pb_getI 28 (j := 10) in_X7 rfl (by decide) rfl rfl (by decide) fl_X7_57 dX7_figureOf_25 rfl ?_
      refine pb_guard (fun hin => pb_iald 29 rfl hin rfl dX7_figureOf_28 rfl ?_)
      refine pb_bipush 31 (v := 48) dX7_figureOf_29 rfl (by decide) ?_
      refine pb_isub 32 dX7_figureOf_31 rfl ?_
      refine pb_goto (tgt := 37) dX7_figureOf_32 (by decide) ?_
      exact tX7_figureOf_J37 l E v1 ((μ.1 24 ((μ.1 19 10)).toNatClampNeg) - (48 : Int32)) μ
  · exact tX7_figureOf_J35 l E v1 μ
theorem mc_X7_figureOf : pb_MC yX7_figureOf cX7_figureOf 3 (some .int) 1 := ⟨pb_inW 891 (by decide +kernel) (by decide +kernel), pb_inW 68 (by decide +kernel) (by decide +kernel), by decide +kernel, by decide +kernel, by decide +kernel⟩
theorem mi_X7_figureOf : Cond.instanceMethod yX7_figureOf ∈ pb_gw := pb_inW 890 (by decide +kernel) (by decide +kernel)
theorem ms_X7_figureOf : Cond.selects (yX7_figureOf).cls yX7_figureOf yX7_figureOf ∈ pb_gw := pb_inW 32 (by decide +kernel) (by decide +kernel)
theorem cl_X7_figureOf {α : Type} {l : Launch} {E : pb_E} {R : Room} {own : String} {cc : ByteArray} {mL : Nat} {ret : Option FieldType} {Xs : State → Prop} {nc ns : Nat} {Qf : State → Array Value → List Frame → α → pb_M → State → Prop} {pc : Nat} {L : List (Option Value)} {S : List Value} {μ : pb_M} {f : Int32 → pb_M → Option (α × pb_M)} {v1 : Int32} {index : Nat} (q : Nat)  (hR : 1 + 1 ≤ R.frames ∧ 8 + (3 + 11) + 25 ≤ R.locals ∧ nc ≤ R.cells ∧ ns ≤ R.slots) (hW : (S.map fun v => v.category).sum ≤ 8) (hl1 : Cond.methodLink own index yX7_figureOf ∈ pb_gw) (hdg : decode cc pc = .ok (.invokevirtual index, 3)) (hq : pc + 3 = q) (k : ∀ b1 μ1, pb_RW l E R own cc mL ret Xs nc ns Qf q L (.int b1 :: S) μ1 (f b1 μ1)) : pb_RW l E R own cc mL ret Xs nc ns Qf pc L (.int v1 :: .ref (E.2.1 19) :: S) μ (pb_b (pX7_figureOf v1 μ) f) := pb_callV q (fun z : Int32 => some (.int z)) mc_X7_figureOf mi_X7_figureOf ms_X7_figureOf (fun b1 μ1 h => evX7_figureOf l E v1  μ b1 μ1 h) rfl (by decide) rfl rfl rfl rfl hR rfl hW hl1 hdg hq k
theorem fl_X7_16 : Cond.fieldLink RX7 16 (TX7 4).1 (TX7 4).2.1 (TX7 4).2.2.1 ∈ pb_gw := pb_inW 788 (by decide +kernel) (by decide +kernel)
theorem fl_X7_66 : Cond.fieldLink RX7 66 (TX7 6).1 (TX7 6).2.1 (TX7 6).2.2.1 ∈ pb_gw := pb_inW 790 (by decide +kernel) (by decide +kernel)
def pX7_debtsLeft_L4 (v1 : Int32) : Nat → Int32 → Int32 → pb_M → Option (Int32 × pb_M)
  | 0, _, _, _ => none
  | n + 1, v2, v3, μ =>
    if (μ.1 19 6) ≤ v3 then
      some (v2, μ)
    else
    if v3 = v1 then
      pX7_debtsLeft_L4 v1 n (v2 ||| (0 : Int32)) (v3 + (1 : Int32)) μ
    else
    if pb_in (((28 : Int32) + ((4 : Int32) * v1)) + v3) 45 then
      if (μ.1 22 ((((28 : Int32) + ((4 : Int32) * v1)) + v3)).toNatClampNeg) = (0 : Int32) then
        pX7_debtsLeft_L4 v1 n (v2 ||| ((1 : Int32) <<< (v3 &&& 31))) (v3 + (1 : Int32)) μ
      else
      pX7_debtsLeft_L4 v1 n (v2 ||| (0 : Int32)) (v3 + (1 : Int32)) μ
    else none
def pX7_debtsLeft (v1 : Int32) (μ : pb_M) : Option (Int32 × pb_M) :=
  pX7_debtsLeft_L4 v1 pb_F (0 : Int32) (0 : Int32) μ
abbrev wX7_debtsLeft (l : Launch) (E : pb_E) := pb_RW l E { frames := 0, cells := 0, slots := 0, locals := 0 } RX7 cX7_debtsLeft 4 (some .int) (fun _ => True) 0 0 (pb_Qf E (fun z : Int32 => some (.int z)))
set_option maxRecDepth 100000 in
set_option maxHeartbeats 4000000 in
theorem tX7_debtsLeft_L4 (l : Launch) (E : pb_E) (v1 : Int32)   : ∀ (n : Nat) (v2 : Int32) (v3 : Int32) (μ : pb_M), wX7_debtsLeft l E 4 [some (.ref (E.2.1 19)), some (.int v1), some (.int v2), some (.int v3)] [] μ (pX7_debtsLeft_L4 v1 n v2 v3 μ) := by
  intro n
  induction n with
  | zero => intro v2 v3 μ; exact pb_none
  | succ n ih =>
    intro v2 v3 μ
    rw [pX7_debtsLeft_L4]
    refine pb_iload_n 5 dX7_debtsLeft_4 rfl rfl rfl ?_
    refine pb_aload_n 6 dX7_debtsLeft_5 rfl rfl rfl ?_
    refine pb_getI 9 (j := 6) in_X7 rfl (by decide) rfl rfl (by decide) fl_X7_66 dX7_debtsLeft_6 rfl ?_
    refine pb_icmp_ge 12 (tgt := 49) dX7_debtsLeft_9 (by decide) rfl (fun _ => ?_) (fun _ => ?_)
    · refine pb_iload_n 50 dX7_debtsLeft_49 rfl rfl rfl ?_
      exact pb_iret dX7_debtsLeft_50
    · refine pb_iload_n 13 dX7_debtsLeft_12 rfl rfl rfl ?_
      refine pb_iload_n 14 dX7_debtsLeft_13 rfl rfl rfl ?_
      refine pb_iload_n 15 dX7_debtsLeft_14 rfl rfl rfl ?_
      refine pb_icmp_eq 18 (tgt := 40) dX7_debtsLeft_15 (by decide) rfl (fun _ => ?_) (fun _ => ?_)
      · refine pb_iconst 41 (v := 0) dX7_debtsLeft_40 rfl (by decide) ?_
        refine pb_ior 42 dX7_debtsLeft_41 rfl ?_
        refine pb_istore_n 43 (i := 2) (L' := [some (.ref (E.2.1 19)), some (.int v1), some (.int (v2 ||| (0 : Int32))), some (.int v3)]) dX7_debtsLeft_42 rfl (by decide) rfl rfl rfl ?_
        refine pb_iinc 46 (i := 3) (v := (v3 + (1 : Int32))) (L' := [some (.ref (E.2.1 19)), some (.int v1), some (.int (v2 ||| (0 : Int32))), some (.int (v3 + (1 : Int32)))]) dX7_debtsLeft_43 rfl rfl (by decide) rfl rfl rfl ?_
        refine pb_goto (tgt := 4) dX7_debtsLeft_46 (by decide) ?_
        exact ih (v2 ||| (0 : Int32)) (v3 + (1 : Int32)) μ
      · refine pb_aload_n 19 dX7_debtsLeft_18 rfl rfl rfl ?_
        refine pb_getR 22 (j := 4) (d := 22) in_X7 rfl (by decide) rfl rfl (by decide) fl_X7_16 dX7_debtsLeft_19 rfl ?_
        refine pb_bipush 24 (v := 28) dX7_debtsLeft_22 rfl (by decide) ?_
        refine pb_iconst 25 (v := 4) dX7_debtsLeft_24 rfl (by decide) ?_
        refine pb_iload_n 26 dX7_debtsLeft_25 rfl rfl rfl ?_
        refine pb_imul 27 dX7_debtsLeft_26 rfl ?_
        refine pb_iadd 28 dX7_debtsLeft_27 rfl ?_
        refine pb_iload_n 29 dX7_debtsLeft_28 rfl rfl rfl ?_
        refine pb_iadd 30 dX7_debtsLeft_29 rfl ?_
        refine pb_guard (fun hin => pb_iald 31 rfl hin rfl dX7_debtsLeft_30 rfl ?_)
        refine pb_if_ne 34 (tgt := 40) dX7_debtsLeft_31 (by decide) rfl (fun _ => ?_) (fun _ => ?_)
        · refine pb_iconst 35 (v := 1) dX7_debtsLeft_34 rfl (by decide) ?_
          refine pb_iload_n 36 dX7_debtsLeft_35 rfl rfl rfl ?_
          refine pb_ishl 37 dX7_debtsLeft_36 rfl ?_
          refine pb_goto (tgt := 41) dX7_debtsLeft_37 (by decide) ?_
          refine pb_ior 42 dX7_debtsLeft_41 rfl ?_
          refine pb_istore_n 43 (i := 2) (L' := [some (.ref (E.2.1 19)), some (.int v1), some (.int (v2 ||| ((1 : Int32) <<< (v3 &&& 31)))), some (.int v3)]) dX7_debtsLeft_42 rfl (by decide) rfl rfl rfl ?_
          refine pb_iinc 46 (i := 3) (v := (v3 + (1 : Int32))) (L' := [some (.ref (E.2.1 19)), some (.int v1), some (.int (v2 ||| ((1 : Int32) <<< (v3 &&& 31)))), some (.int (v3 + (1 : Int32)))]) dX7_debtsLeft_43 rfl rfl (by decide) rfl rfl rfl ?_
          refine pb_goto (tgt := 4) dX7_debtsLeft_46 (by decide) ?_
          exact ih (v2 ||| ((1 : Int32) <<< (v3 &&& 31))) (v3 + (1 : Int32)) μ
        · refine pb_iconst 41 (v := 0) dX7_debtsLeft_40 rfl (by decide) ?_
          refine pb_ior 42 dX7_debtsLeft_41 rfl ?_
          refine pb_istore_n 43 (i := 2) (L' := [some (.ref (E.2.1 19)), some (.int v1), some (.int (v2 ||| (0 : Int32))), some (.int v3)]) dX7_debtsLeft_42 rfl (by decide) rfl rfl rfl ?_
          refine pb_iinc 46 (i := 3) (v := (v3 + (1 : Int32))) (L' := [some (.ref (E.2.1 19)), some (.int v1), some (.int (v2 ||| (0 : Int32))), some (.int (v3 + (1 : Int32)))]) dX7_debtsLeft_43 rfl rfl (by decide) rfl rfl rfl ?_
          refine pb_goto (tgt := 4) dX7_debtsLeft_46 (by decide) ?_
          exact ih (v2 ||| (0 : Int32)) (v3 + (1 : Int32)) μ
set_option maxRecDepth 100000 in
set_option maxHeartbeats 4000000 in
theorem evX7_debtsLeft (l : Launch) (E : pb_E) (v1 : Int32)  (μ : pb_M) : ∀ b μ', pX7_debtsLeft v1 μ = some (b, μ') → pb_Ev l E yX7_debtsLeft cX7_debtsLeft 4 (some .int) { frames := 0, cells := 0, slots := 0, locals := 0 } [.ref (E.2.1 19), .int v1] μ ((fun z : Int32 => some (.int z)) b) μ' := by
  refine pb_enter (L := [some (.ref (E.2.1 19)), some (.int v1), none, none]) (by decide +kernel) (Nat.le_of_ble_eq_true rfl) (pb_same [none, none, none, none] rfl) (show wX7_debtsLeft l E 0 [some (.ref (E.2.1 19)), some (.int v1), none, none] [] μ (pX7_debtsLeft v1 μ) from ?_)
  unfold pX7_debtsLeft
  refine pb_iconst 1 (v := 0) dX7_debtsLeft_0 rfl (by decide) ?_
  refine pb_istore_n 2 (i := 2) (L' := [some (.ref (E.2.1 19)), some (.int v1), some (.int (0 : Int32)), none]) dX7_debtsLeft_1 rfl (by decide) rfl rfl rfl ?_
  refine pb_iconst 3 (v := 0) dX7_debtsLeft_2 rfl (by decide) ?_
  refine pb_istore_n 4 (i := 3) (L' := [some (.ref (E.2.1 19)), some (.int v1), some (.int (0 : Int32)), some (.int (0 : Int32))]) dX7_debtsLeft_3 rfl (by decide) rfl rfl rfl ?_
  exact tX7_debtsLeft_L4 l E v1 pb_F (0 : Int32) (0 : Int32) μ
theorem mc_X7_debtsLeft : pb_MC yX7_debtsLeft cX7_debtsLeft 4 (some .int) 1 := ⟨pb_inW 887 (by decide +kernel) (by decide +kernel), pb_inW 68 (by decide +kernel) (by decide +kernel), by decide +kernel, by decide +kernel, by decide +kernel⟩
theorem mi_X7_debtsLeft : Cond.instanceMethod yX7_debtsLeft ∈ pb_gw := pb_inW 886 (by decide +kernel) (by decide +kernel)
theorem ms_X7_debtsLeft : Cond.selects (yX7_debtsLeft).cls yX7_debtsLeft yX7_debtsLeft ∈ pb_gw := pb_inW 31 (by decide +kernel) (by decide +kernel)
theorem cl_X7_debtsLeft {α : Type} {l : Launch} {E : pb_E} {R : Room} {own : String} {cc : ByteArray} {mL : Nat} {ret : Option FieldType} {Xs : State → Prop} {nc ns : Nat} {Qf : State → Array Value → List Frame → α → pb_M → State → Prop} {pc : Nat} {L : List (Option Value)} {S : List Value} {μ : pb_M} {f : Int32 → pb_M → Option (α × pb_M)} {v1 : Int32} {index : Nat} (q : Nat)  (hR : 0 + 1 ≤ R.frames ∧ 8 + (4 + 11) + 0 ≤ R.locals ∧ nc ≤ R.cells ∧ ns ≤ R.slots) (hW : (S.map fun v => v.category).sum ≤ 8) (hl1 : Cond.methodLink own index yX7_debtsLeft ∈ pb_gw) (hdg : decode cc pc = .ok (.invokevirtual index, 3)) (hq : pc + 3 = q) (k : ∀ b1 μ1, pb_RW l E R own cc mL ret Xs nc ns Qf q L (.int b1 :: S) μ1 (f b1 μ1)) : pb_RW l E R own cc mL ret Xs nc ns Qf pc L (.int v1 :: .ref (E.2.1 19) :: S) μ (pb_b (pX7_debtsLeft v1 μ) f) := pb_callV q (fun z : Int32 => some (.int z)) mc_X7_debtsLeft mi_X7_debtsLeft ms_X7_debtsLeft (fun b1 μ1 h => evX7_debtsLeft l E v1  μ b1 μ1 h) rfl (by decide) rfl rfl rfl rfl hR rfl hW hl1 hdg hq k
theorem ml_X7_69 : Cond.methodLink RX7 69 yX7_debtsLeft ∈ pb_gw := pb_inW 884 (by decide +kernel) (by decide +kernel)
def pX7_debtorsLeft_L4  : Nat → Int32 → Int32 → pb_M → Option (Int32 × pb_M)
  | 0, _, _, _ => none
  | n + 1, v1, v2, μ =>
    if (μ.1 19 6) ≤ v2 then
      some (v1, μ)
    else
    pb_b (pX7_debtsLeft v2 μ) (fun b15 μ15 =>
    if b15 = (0 : Int32) then
      pX7_debtorsLeft_L4 n (v1 ||| (0 : Int32)) (v2 + (1 : Int32)) μ15
    else
    pX7_debtorsLeft_L4 n (v1 ||| ((1 : Int32) <<< (v2 &&& 31))) (v2 + (1 : Int32)) μ15)
def pX7_debtorsLeft  (μ : pb_M) : Option (Int32 × pb_M) :=
  pX7_debtorsLeft_L4 pb_F (0 : Int32) (0 : Int32) μ
abbrev wX7_debtorsLeft (l : Launch) (E : pb_E) := pb_RW l E { frames := 1, cells := 0, slots := 0, locals := 23 } RX7 cX7_debtorsLeft 3 (some .int) (fun _ => True) 0 0 (pb_Qf E (fun z : Int32 => some (.int z)))
set_option maxRecDepth 100000 in
set_option maxHeartbeats 4000000 in
theorem tX7_debtorsLeft_L4 (l : Launch) (E : pb_E)    : ∀ (n : Nat) (v1 : Int32) (v2 : Int32) (μ : pb_M), wX7_debtorsLeft l E 4 [some (.ref (E.2.1 19)), some (.int v1), some (.int v2)] [] μ (pX7_debtorsLeft_L4 n v1 v2 μ) := by
  intro n
  induction n with
  | zero => intro v1 v2 μ; exact pb_none
  | succ n ih =>
    intro v1 v2 μ
    rw [pX7_debtorsLeft_L4]
    refine pb_iload_n 5 dX7_debtorsLeft_4 rfl rfl rfl ?_
    refine pb_aload_n 6 dX7_debtorsLeft_5 rfl rfl rfl ?_
    refine pb_getI 9 (j := 6) in_X7 rfl (by decide) rfl rfl (by decide) fl_X7_66 dX7_debtorsLeft_6 rfl ?_
    refine pb_icmp_ge 12 (tgt := 36) dX7_debtorsLeft_9 (by decide) rfl (fun _ => ?_) (fun _ => ?_)
    · refine pb_iload_n 37 dX7_debtorsLeft_36 rfl rfl rfl ?_
      exact pb_iret dX7_debtorsLeft_37
    · refine pb_iload_n 13 dX7_debtorsLeft_12 rfl rfl rfl ?_
      refine pb_aload_n 14 dX7_debtorsLeft_13 rfl rfl rfl ?_
      refine pb_iload_n 15 dX7_debtorsLeft_14 rfl rfl rfl ?_
      refine cl_X7_debtsLeft 18 ⟨by decide, by decide, by decide, by decide⟩ (Nat.le_of_ble_eq_true rfl) ml_X7_69 dX7_debtorsLeft_15 rfl (fun b15 μ15 => ?_)
      refine pb_if_eq 21 (tgt := 27) dX7_debtorsLeft_18 (by decide) rfl (fun _ => ?_) (fun _ => ?_)
      · refine pb_iconst 28 (v := 0) dX7_debtorsLeft_27 rfl (by decide) ?_
        refine pb_ior 29 dX7_debtorsLeft_28 rfl ?_
        refine pb_istore_n 30 (i := 1) (L' := [some (.ref (E.2.1 19)), some (.int (v1 ||| (0 : Int32))), some (.int v2)]) dX7_debtorsLeft_29 rfl (by decide) rfl rfl rfl ?_
        refine pb_iinc 33 (i := 2) (v := (v2 + (1 : Int32))) (L' := [some (.ref (E.2.1 19)), some (.int (v1 ||| (0 : Int32))), some (.int (v2 + (1 : Int32)))]) dX7_debtorsLeft_30 rfl rfl (by decide) rfl rfl rfl ?_
        refine pb_goto (tgt := 4) dX7_debtorsLeft_33 (by decide) ?_
        exact ih (v1 ||| (0 : Int32)) (v2 + (1 : Int32)) μ15
      · refine pb_iconst 22 (v := 1) dX7_debtorsLeft_21 rfl (by decide) ?_
        refine pb_iload_n 23 dX7_debtorsLeft_22 rfl rfl rfl ?_
        refine pb_ishl 24 dX7_debtorsLeft_23 rfl ?_
        refine pb_goto (tgt := 28) dX7_debtorsLeft_24 (by decide) ?_
        refine pb_ior 29 dX7_debtorsLeft_28 rfl ?_
        refine pb_istore_n 30 (i := 1) (L' := [some (.ref (E.2.1 19)), some (.int (v1 ||| ((1 : Int32) <<< (v2 &&& 31)))), some (.int v2)]) dX7_debtorsLeft_29 rfl (by decide) rfl rfl rfl ?_
        refine pb_iinc 33 (i := 2) (v := (v2 + (1 : Int32))) (L' := [some (.ref (E.2.1 19)), some (.int (v1 ||| ((1 : Int32) <<< (v2 &&& 31)))), some (.int (v2 + (1 : Int32)))]) dX7_debtorsLeft_30 rfl rfl (by decide) rfl rfl rfl ?_
        refine pb_goto (tgt := 4) dX7_debtorsLeft_33 (by decide) ?_
        exact ih (v1 ||| ((1 : Int32) <<< (v2 &&& 31))) (v2 + (1 : Int32)) μ15
set_option maxRecDepth 100000 in
set_option maxHeartbeats 4000000 in
theorem evX7_debtorsLeft (l : Launch) (E : pb_E)   (μ : pb_M) : ∀ b μ', pX7_debtorsLeft  μ = some (b, μ') → pb_Ev l E yX7_debtorsLeft cX7_debtorsLeft 3 (some .int) { frames := 1, cells := 0, slots := 0, locals := 23 } [.ref (E.2.1 19)] μ ((fun z : Int32 => some (.int z)) b) μ' := by
  refine pb_enter (L := [some (.ref (E.2.1 19)), none, none]) (by decide +kernel) (Nat.le_of_ble_eq_true rfl) (pb_same [none, none, none] rfl) (show wX7_debtorsLeft l E 0 [some (.ref (E.2.1 19)), none, none] [] μ (pX7_debtorsLeft  μ) from ?_)
  unfold pX7_debtorsLeft
  refine pb_iconst 1 (v := 0) dX7_debtorsLeft_0 rfl (by decide) ?_
  refine pb_istore_n 2 (i := 1) (L' := [some (.ref (E.2.1 19)), some (.int (0 : Int32)), none]) dX7_debtorsLeft_1 rfl (by decide) rfl rfl rfl ?_
  refine pb_iconst 3 (v := 0) dX7_debtorsLeft_2 rfl (by decide) ?_
  refine pb_istore_n 4 (i := 2) (L' := [some (.ref (E.2.1 19)), some (.int (0 : Int32)), some (.int (0 : Int32))]) dX7_debtorsLeft_3 rfl (by decide) rfl rfl rfl ?_
  exact tX7_debtorsLeft_L4 l E pb_F (0 : Int32) (0 : Int32) μ
theorem mc_X7_debtorsLeft : pb_MC yX7_debtorsLeft cX7_debtorsLeft 3 (some .int) 0 := ⟨pb_inW 883 (by decide +kernel) (by decide +kernel), pb_inW 68 (by decide +kernel) (by decide +kernel), by decide +kernel, by decide +kernel, by decide +kernel⟩
theorem mi_X7_debtorsLeft : Cond.instanceMethod yX7_debtorsLeft ∈ pb_gw := pb_inW 882 (by decide +kernel) (by decide +kernel)
theorem ms_X7_debtorsLeft : Cond.selects (yX7_debtorsLeft).cls yX7_debtorsLeft yX7_debtorsLeft ∈ pb_gw := pb_inW 30 (by decide +kernel) (by decide +kernel)
theorem cl_X7_debtorsLeft {α : Type} {l : Launch} {E : pb_E} {R : Room} {own : String} {cc : ByteArray} {mL : Nat} {ret : Option FieldType} {Xs : State → Prop} {nc ns : Nat} {Qf : State → Array Value → List Frame → α → pb_M → State → Prop} {pc : Nat} {L : List (Option Value)} {S : List Value} {μ : pb_M} {f : Int32 → pb_M → Option (α × pb_M)}  {index : Nat} (q : Nat)  (hR : 1 + 1 ≤ R.frames ∧ 8 + (3 + 11) + 23 ≤ R.locals ∧ nc ≤ R.cells ∧ ns ≤ R.slots) (hW : (S.map fun v => v.category).sum ≤ 8) (hl1 : Cond.methodLink own index yX7_debtorsLeft ∈ pb_gw) (hdg : decode cc pc = .ok (.invokevirtual index, 3)) (hq : pc + 3 = q) (k : ∀ b1 μ1, pb_RW l E R own cc mL ret Xs nc ns Qf q L (.int b1 :: S) μ1 (f b1 μ1)) : pb_RW l E R own cc mL ret Xs nc ns Qf pc L (.ref (E.2.1 19) :: S) μ (pb_b (pX7_debtorsLeft  μ) f) := pb_callV q (fun z : Int32 => some (.int z)) mc_X7_debtorsLeft mi_X7_debtorsLeft ms_X7_debtorsLeft (fun b1 μ1 h => evX7_debtorsLeft l E   μ b1 μ1 h) rfl (by decide) rfl rfl rfl rfl hR rfl hW hl1 hdg hq k
theorem fl_X7_19 : Cond.fieldLink RX7 19 (TX7 5).1 (TX7 5).2.1 (TX7 5).2.2.1 ∈ pb_gw := pb_inW 789 (by decide +kernel) (by decide +kernel)
theorem fl_X7_73 : Cond.fieldLink RX7 73 (TX7 7).1 (TX7 7).2.1 (TX7 7).2.2.1 ∈ pb_gw := pb_inW 791 (by decide +kernel) (by decide +kernel)
theorem ml_X7_80 : Cond.methodLink RX7 80 yX7_figure ∈ pb_gw := pb_inW 876 (by decide +kernel) (by decide +kernel)
theorem ml_X7_84 : Cond.methodLink RX7 84 yX7_debtorsLeft ∈ pb_gw := pb_inW 880 (by decide +kernel) (by decide +kernel)
theorem ml_X7_88 : Cond.methodLink RX7 88 yX7_figureOf ∈ pb_gw := pb_inW 888 (by decide +kernel) (by decide +kernel)
def pX7_readPart_J186 (v1 : Int32) (μ : pb_M) : Option (Unit × pb_M) :=
  if v1 = (68 : Int32) then
    pb_b (pX7_debtorsLeft μ) (fun b193 μ193 =>
    if b193 = (0 : Int32) then
      some ((), (pb_sA μ193 19 (upd (μ193.1 19) 11 (μ193.1 19 10))))
    else
    pb_b (pX7_debtorsLeft (pb_sA μ193 19 (upd (μ193.1 19) 10 ((μ193.1 19 10) + (1 : Int32))))) (fun b211 μ211 =>
    pb_b (pX7_figureOf b211 μ211) (fun b214 μ214 =>
    pb_b (pX7_debtsLeft b214 μ214) (fun b221 μ221 =>
    pb_b (pX7_figureOf b221 μ221) (fun b224 μ224 =>
    pb_b (pX7_figure (1 : Int32) (9 : Int32) μ224) (fun b232 μ232 =>
    if (μ232.1 19 11) = (-9 : Int32) then
      if pb_in (((28 : Int32) + ((4 : Int32) * b214)) + b224) 45 then
        some ((), (pb_sA μ232 22 (upd (μ232.1 22) ((((28 : Int32) + ((4 : Int32) * b214)) + b224)).toNatClampNeg b232)))
      else none
    else
    some ((), μ232)))))))
  else
  some ((), (pb_sA μ 19 (upd (μ.1 19) 11 (μ.1 19 10))))
def pX7_readPart_J71 (v1 : Int32) (μ : pb_M) : Option (Unit × pb_M) :=
  if v1 = (66 : Int32) then
    if (5 : Int32) ≤ (μ.1 19 7) then
      pX7_readPart_J186 v1 μ
    else
    if (μ.1 19 6) ≤ (0 : Int32) then
      pX7_readPart_J186 v1 μ
    else
    pb_b (pX7_figure (0 : Int32) (((pb_sA μ 19 (upd (μ.1 19) 10 ((μ.1 19 10) + (1 : Int32)))).1 19 6) - (1 : Int32)) (pb_sA μ 19 (upd (μ.1 19) 10 ((μ.1 19 10) + (1 : Int32))))) (fun b121 μ121 =>
    if pb_in ((8 : Int32) + ((pb_sA μ 19 (upd (μ.1 19) 10 ((μ.1 19 10) + (1 : Int32)))).1 19 7)) 45 then
      pb_b (pX7_figure (1 : Int32) (9 : Int32) (pb_sA μ121 22 (upd (μ121.1 22) (((8 : Int32) + ((pb_sA μ 19 (upd (μ.1 19) 10 ((μ.1 19 10) + (1 : Int32)))).1 19 7))).toNatClampNeg b121))) (fun b140 μ140 =>
      if pb_in ((13 : Int32) + ((pb_sA μ121 22 (upd (μ121.1 22) (((8 : Int32) + ((pb_sA μ 19 (upd (μ.1 19) 10 ((μ.1 19 10) + (1 : Int32)))).1 19 7))).toNatClampNeg b121)).1 19 7)) 45 then
        pb_b (pX7_figure (0 : Int32) (3 : Int32) (pb_sA μ140 22 (upd (μ140.1 22) (((13 : Int32) + ((pb_sA μ121 22 (upd (μ121.1 22) (((8 : Int32) + ((pb_sA μ 19 (upd (μ.1 19) 10 ((μ.1 19 10) + (1 : Int32)))).1 19 7))).toNatClampNeg b121)).1 19 7))).toNatClampNeg b140))) (fun b155 μ155 =>
        if pb_in ((pb_sA μ140 22 (upd (μ140.1 22) (((13 : Int32) + ((pb_sA μ121 22 (upd (μ121.1 22) (((8 : Int32) + ((pb_sA μ 19 (upd (μ.1 19) 10 ((μ.1 19 10) + (1 : Int32)))).1 19 7))).toNatClampNeg b121)).1 19 7))).toNatClampNeg b140)).1 19 7) 5 then
          if pb_in ((18 : Int32) + ((pb_sA μ155 23 (upd (μ155.1 23) (((pb_sA μ140 22 (upd (μ140.1 22) (((13 : Int32) + ((pb_sA μ121 22 (upd (μ121.1 22) (((8 : Int32) + ((pb_sA μ 19 (upd (μ.1 19) 10 ((μ.1 19 10) + (1 : Int32)))).1 19 7))).toNatClampNeg b121)).1 19 7))).toNatClampNeg b140)).1 19 7)).toNatClampNeg b155)).1 19 7)) 45 then
            some ((), (pb_sA (pb_sA (pb_sA μ155 23 (upd (μ155.1 23) (((pb_sA μ140 22 (upd (μ140.1 22) (((13 : Int32) + ((pb_sA μ121 22 (upd (μ121.1 22) (((8 : Int32) + ((pb_sA μ 19 (upd (μ.1 19) 10 ((μ.1 19 10) + (1 : Int32)))).1 19 7))).toNatClampNeg b121)).1 19 7))).toNatClampNeg b140)).1 19 7)).toNatClampNeg b155)) 22 (upd ((pb_sA μ155 23 (upd (μ155.1 23) (((pb_sA μ140 22 (upd (μ140.1 22) (((13 : Int32) + ((pb_sA μ121 22 (upd (μ121.1 22) (((8 : Int32) + ((pb_sA μ 19 (upd (μ.1 19) 10 ((μ.1 19 10) + (1 : Int32)))).1 19 7))).toNatClampNeg b121)).1 19 7))).toNatClampNeg b140)).1 19 7)).toNatClampNeg b155)).1 22) (((18 : Int32) + ((pb_sA μ155 23 (upd (μ155.1 23) (((pb_sA μ140 22 (upd (μ140.1 22) (((13 : Int32) + ((pb_sA μ121 22 (upd (μ121.1 22) (((8 : Int32) + ((pb_sA μ 19 (upd (μ.1 19) 10 ((μ.1 19 10) + (1 : Int32)))).1 19 7))).toNatClampNeg b121)).1 19 7))).toNatClampNeg b140)).1 19 7)).toNatClampNeg b155)).1 19 7))).toNatClampNeg (-9 : Int32))) 19 (upd ((pb_sA (pb_sA μ155 23 (upd (μ155.1 23) (((pb_sA μ140 22 (upd (μ140.1 22) (((13 : Int32) + ((pb_sA μ121 22 (upd (μ121.1 22) (((8 : Int32) + ((pb_sA μ 19 (upd (μ.1 19) 10 ((μ.1 19 10) + (1 : Int32)))).1 19 7))).toNatClampNeg b121)).1 19 7))).toNatClampNeg b140)).1 19 7)).toNatClampNeg b155)) 22 (upd ((pb_sA μ155 23 (upd (μ155.1 23) (((pb_sA μ140 22 (upd (μ140.1 22) (((13 : Int32) + ((pb_sA μ121 22 (upd (μ121.1 22) (((8 : Int32) + ((pb_sA μ 19 (upd (μ.1 19) 10 ((μ.1 19 10) + (1 : Int32)))).1 19 7))).toNatClampNeg b121)).1 19 7))).toNatClampNeg b140)).1 19 7)).toNatClampNeg b155)).1 22) (((18 : Int32) + ((pb_sA μ155 23 (upd (μ155.1 23) (((pb_sA μ140 22 (upd (μ140.1 22) (((13 : Int32) + ((pb_sA μ121 22 (upd (μ121.1 22) (((8 : Int32) + ((pb_sA μ 19 (upd (μ.1 19) 10 ((μ.1 19 10) + (1 : Int32)))).1 19 7))).toNatClampNeg b121)).1 19 7))).toNatClampNeg b140)).1 19 7)).toNatClampNeg b155)).1 19 7))).toNatClampNeg (-9 : Int32))).1 19) 7 (((pb_sA (pb_sA μ155 23 (upd (μ155.1 23) (((pb_sA μ140 22 (upd (μ140.1 22) (((13 : Int32) + ((pb_sA μ121 22 (upd (μ121.1 22) (((8 : Int32) + ((pb_sA μ 19 (upd (μ.1 19) 10 ((μ.1 19 10) + (1 : Int32)))).1 19 7))).toNatClampNeg b121)).1 19 7))).toNatClampNeg b140)).1 19 7)).toNatClampNeg b155)) 22 (upd ((pb_sA μ155 23 (upd (μ155.1 23) (((pb_sA μ140 22 (upd (μ140.1 22) (((13 : Int32) + ((pb_sA μ121 22 (upd (μ121.1 22) (((8 : Int32) + ((pb_sA μ 19 (upd (μ.1 19) 10 ((μ.1 19 10) + (1 : Int32)))).1 19 7))).toNatClampNeg b121)).1 19 7))).toNatClampNeg b140)).1 19 7)).toNatClampNeg b155)).1 22) (((18 : Int32) + ((pb_sA μ155 23 (upd (μ155.1 23) (((pb_sA μ140 22 (upd (μ140.1 22) (((13 : Int32) + ((pb_sA μ121 22 (upd (μ121.1 22) (((8 : Int32) + ((pb_sA μ 19 (upd (μ.1 19) 10 ((μ.1 19 10) + (1 : Int32)))).1 19 7))).toNatClampNeg b121)).1 19 7))).toNatClampNeg b140)).1 19 7)).toNatClampNeg b155)).1 19 7))).toNatClampNeg (-9 : Int32))).1 19 7) + (1 : Int32)))))
          else none
        else none)
      else none)
    else none)
  else
  pX7_readPart_J186 v1 μ
def pX7_readPart (v1 : Int32) (μ : pb_M) : Option (Unit × pb_M) :=
  if v1 = (80 : Int32) then
    if (4 : Int32) ≤ (μ.1 19 6) then
      pX7_readPart_J71 v1 μ
    else
    pb_b (pX7_figure (0 : Int32) (9 : Int32) (pb_sA μ 19 (upd (μ.1 19) 10 ((μ.1 19 10) + (1 : Int32))))) (fun b36 μ36 =>
    if pb_in ((pb_sA μ 19 (upd (μ.1 19) 10 ((μ.1 19 10) + (1 : Int32)))).1 19 6) 45 then
      pb_b (pX7_figure (0 : Int32) (9 : Int32) (pb_sA μ36 22 (upd (μ36.1 22) (((pb_sA μ 19 (upd (μ.1 19) 10 ((μ.1 19 10) + (1 : Int32)))).1 19 6)).toNatClampNeg b36))) (fun b54 μ54 =>
      if pb_in ((4 : Int32) + ((pb_sA μ36 22 (upd (μ36.1 22) (((pb_sA μ 19 (upd (μ.1 19) 10 ((μ.1 19 10) + (1 : Int32)))).1 19 6)).toNatClampNeg b36)).1 19 6)) 45 then
        some ((), (pb_sA (pb_sA μ54 22 (upd (μ54.1 22) (((4 : Int32) + ((pb_sA μ36 22 (upd (μ36.1 22) (((pb_sA μ 19 (upd (μ.1 19) 10 ((μ.1 19 10) + (1 : Int32)))).1 19 6)).toNatClampNeg b36)).1 19 6))).toNatClampNeg b54)) 19 (upd ((pb_sA μ54 22 (upd (μ54.1 22) (((4 : Int32) + ((pb_sA μ36 22 (upd (μ36.1 22) (((pb_sA μ 19 (upd (μ.1 19) 10 ((μ.1 19 10) + (1 : Int32)))).1 19 6)).toNatClampNeg b36)).1 19 6))).toNatClampNeg b54)).1 19) 6 (((pb_sA μ54 22 (upd (μ54.1 22) (((4 : Int32) + ((pb_sA μ36 22 (upd (μ36.1 22) (((pb_sA μ 19 (upd (μ.1 19) 10 ((μ.1 19 10) + (1 : Int32)))).1 19 6)).toNatClampNeg b36)).1 19 6))).toNatClampNeg b54)).1 19 6) + (1 : Int32)))))
      else none)
    else none)
  else
  pX7_readPart_J71 v1 μ
abbrev wX7_readPart (l : Launch) (E : pb_E) := pb_RW l E { frames := 2, cells := 0, slots := 0, locals := 48 } RX7 cX7_readPart 5 none (fun _ => True) 0 0 (pb_Qf E (fun _ : Unit => none))
set_option maxRecDepth 100000 in
set_option maxHeartbeats 4000000 in
theorem tX7_readPart_J186 (l : Launch) (E : pb_E)    : ∀ (v1 : Int32) (μ : pb_M), wX7_readPart l E 186 [some (.ref (E.2.1 19)), some (.int v1), none, none, none] [] μ (pX7_readPart_J186 v1 μ) := by
  intro v1 μ
  unfold pX7_readPart_J186
  refine pb_iload_n 187 dX7_readPart_186 rfl rfl rfl ?_
  refine pb_bipush 189 (v := 68) dX7_readPart_187 rfl (by decide) ?_
  refine pb_icmp_ne 192 (tgt := 264) dX7_readPart_189 (by decide) rfl (fun _ => ?_) (fun _ => ?_)
  · refine pb_aload_n 193 dX7_readPart_192 rfl rfl rfl ?_
    refine cl_X7_debtorsLeft 196 ⟨by decide, by decide, by decide, by decide⟩ (Nat.le_of_ble_eq_true rfl) ml_X7_84 dX7_readPart_193 rfl (fun b193 μ193 => ?_)
    refine pb_if_eq 199 (tgt := 264) dX7_readPart_196 (by decide) rfl (fun _ => ?_) (fun _ => ?_)
    · refine pb_aload_n 265 dX7_readPart_264 rfl rfl rfl ?_
      refine pb_aload_n 266 dX7_readPart_265 rfl rfl rfl ?_
      refine pb_getI 269 (j := 10) in_X7 rfl (by decide) rfl rfl (by decide) fl_X7_57 dX7_readPart_266 rfl ?_
      refine pb_putI 272 (j := 11) tyX7 tyX7_ok nmX7 in_X7 rfl (by decide) rfl rfl (by decide) fl_X7_54 rfl (by decide +kernel) dX7_readPart_269 rfl ?_
      exact pb_vret dX7_readPart_272
    · refine pb_aload_n 200 dX7_readPart_199 rfl rfl rfl ?_
      refine pb_dup 201 dX7_readPart_200 rfl rfl ?_
      refine pb_getI 204 (j := 10) in_X7 rfl (by decide) rfl rfl (by decide) fl_X7_57 dX7_readPart_201 rfl ?_
      refine pb_iconst 205 (v := 1) dX7_readPart_204 rfl (by decide) ?_
      refine pb_iadd 206 dX7_readPart_205 rfl ?_
      refine pb_putI 209 (j := 10) tyX7 tyX7_ok nmX7 in_X7 rfl (by decide) rfl rfl (by decide) fl_X7_57 rfl (by decide +kernel) dX7_readPart_206 rfl ?_
      refine pb_aload_n 210 dX7_readPart_209 rfl rfl rfl ?_
      refine pb_aload_n 211 dX7_readPart_210 rfl rfl rfl ?_
      refine cl_X7_debtorsLeft 214 ⟨by decide, by decide, by decide, by decide⟩ (Nat.le_of_ble_eq_true rfl) ml_X7_84 dX7_readPart_211 rfl (fun b211 μ211 => ?_)
      refine cl_X7_figureOf 217 ⟨by decide, by decide, by decide, by decide⟩ (Nat.le_of_ble_eq_true rfl) ml_X7_88 dX7_readPart_214 rfl (fun b214 μ214 => ?_)
      refine pb_istore_n 218 (i := 2) (L' := [some (.ref (E.2.1 19)), some (.int v1), some (.int b214), none, none]) dX7_readPart_217 rfl (by decide) rfl rfl rfl ?_
      refine pb_aload_n 219 dX7_readPart_218 rfl rfl rfl ?_
      refine pb_aload_n 220 dX7_readPart_219 rfl rfl rfl ?_
      refine pb_iload_n 221 dX7_readPart_220 rfl rfl rfl ?_
      refine cl_X7_debtsLeft 224 ⟨by decide, by decide, by decide, by decide⟩ (Nat.le_of_ble_eq_true rfl) ml_X7_69 dX7_readPart_221 rfl (fun b221 μ221 => ?_)
      refine cl_X7_figureOf 227 ⟨by decide, by decide, by decide, by decide⟩ (Nat.le_of_ble_eq_true rfl) ml_X7_88 dX7_readPart_224 rfl (fun b224 μ224 => ?_)
      refine pb_istore_n 228 (i := 3) (L' := [some (.ref (E.2.1 19)), some (.int v1), some (.int b214), some (.int b224), none]) dX7_readPart_227 rfl (by decide) rfl rfl rfl ?_
      refine pb_aload_n 229 dX7_readPart_228 rfl rfl rfl ?_
      refine pb_iconst 230 (v := 1) dX7_readPart_229 rfl (by decide) ?_
      refine pb_bipush 232 (v := 9) dX7_readPart_230 rfl (by decide) ?_
      refine cl_X7_figure 235 ⟨by decide, by decide, by decide, by decide⟩ (Nat.le_of_ble_eq_true rfl) ml_X7_80 dX7_readPart_232 rfl (fun b232 μ232 => ?_)
      refine pb_istore 237 (i := 4) (L' := [some (.ref (E.2.1 19)), some (.int v1), some (.int b214), some (.int b224), some (.int b232)]) dX7_readPart_235 (by decide) rfl rfl rfl ?_
      refine pb_aload_n 238 dX7_readPart_237 rfl rfl rfl ?_
      refine pb_getI 241 (j := 11) in_X7 rfl (by decide) rfl rfl (by decide) fl_X7_54 dX7_readPart_238 rfl ?_
      refine pb_bipush 243 (v := -9) dX7_readPart_241 rfl (by decide) ?_
      refine pb_icmp_ne 246 (tgt := 261) dX7_readPart_243 (by decide) rfl (fun _ => ?_) (fun _ => ?_)
      · refine pb_aload_n 247 dX7_readPart_246 rfl rfl rfl ?_
        refine pb_getR 250 (j := 4) (d := 22) in_X7 rfl (by decide) rfl rfl (by decide) fl_X7_16 dX7_readPart_247 rfl ?_
        refine pb_bipush 252 (v := 28) dX7_readPart_250 rfl (by decide) ?_
        refine pb_iconst 253 (v := 4) dX7_readPart_252 rfl (by decide) ?_
        refine pb_iload_n 254 dX7_readPart_253 rfl rfl rfl ?_
        refine pb_imul 255 dX7_readPart_254 rfl ?_
        refine pb_iadd 256 dX7_readPart_255 rfl ?_
        refine pb_iload_n 257 dX7_readPart_256 rfl rfl rfl ?_
        refine pb_iadd 258 dX7_readPart_257 rfl ?_
        refine pb_iload 260 dX7_readPart_258 rfl rfl ?_
        refine pb_guard (fun hin => pb_iast 261 rfl hin rfl dX7_readPart_260 rfl ?_)
        refine pb_goto (tgt := 272) dX7_readPart_261 (by decide) ?_
        exact pb_vret dX7_readPart_272
      · refine pb_goto (tgt := 272) dX7_readPart_261 (by decide) ?_
        exact pb_vret dX7_readPart_272
  · refine pb_aload_n 265 dX7_readPart_264 rfl rfl rfl ?_
    refine pb_aload_n 266 dX7_readPart_265 rfl rfl rfl ?_
    refine pb_getI 269 (j := 10) in_X7 rfl (by decide) rfl rfl (by decide) fl_X7_57 dX7_readPart_266 rfl ?_
    refine pb_putI 272 (j := 11) tyX7 tyX7_ok nmX7 in_X7 rfl (by decide) rfl rfl (by decide) fl_X7_54 rfl (by decide +kernel) dX7_readPart_269 rfl ?_
    exact pb_vret dX7_readPart_272
set_option maxRecDepth 100000 in
set_option maxHeartbeats 4000000 in
theorem tX7_readPart_J71 (l : Launch) (E : pb_E)    : ∀ (v1 : Int32) (μ : pb_M), wX7_readPart l E 71 [some (.ref (E.2.1 19)), some (.int v1), none, none, none] [] μ (pX7_readPart_J71 v1 μ) := by
  intro v1 μ
  unfold pX7_readPart_J71
  refine pb_iload_n 72 dX7_readPart_71 rfl rfl rfl ?_
  refine pb_bipush 74 (v := 66) dX7_readPart_72 rfl (by decide) ?_
  refine pb_icmp_ne 77 (tgt := 186) dX7_readPart_74 (by decide) rfl (fun _ => ?_) (fun _ => ?_)
  · refine pb_aload_n 78 dX7_readPart_77 rfl rfl rfl ?_
    refine pb_getI 81 (j := 7) in_X7 rfl (by decide) rfl rfl (by decide) fl_X7_73 dX7_readPart_78 rfl ?_
    refine pb_iconst 82 (v := 5) dX7_readPart_81 rfl (by decide) ?_
    refine pb_icmp_ge 85 (tgt := 186) dX7_readPart_82 (by decide) rfl (fun _ => ?_) (fun _ => ?_)
    · exact tX7_readPart_J186 l E v1 μ
    · refine pb_aload_n 86 dX7_readPart_85 rfl rfl rfl ?_
      refine pb_getI 89 (j := 6) in_X7 rfl (by decide) rfl rfl (by decide) fl_X7_66 dX7_readPart_86 rfl ?_
      refine pb_if_le 92 (tgt := 186) dX7_readPart_89 (by decide) rfl (fun _ => ?_) (fun _ => ?_)
      · exact tX7_readPart_J186 l E v1 μ
      · refine pb_aload_n 93 dX7_readPart_92 rfl rfl rfl ?_
        refine pb_dup 94 dX7_readPart_93 rfl rfl ?_
        refine pb_getI 97 (j := 10) in_X7 rfl (by decide) rfl rfl (by decide) fl_X7_57 dX7_readPart_94 rfl ?_
        refine pb_iconst 98 (v := 1) dX7_readPart_97 rfl (by decide) ?_
        refine pb_iadd 99 dX7_readPart_98 rfl ?_
        refine pb_putI 102 (j := 10) tyX7 tyX7_ok nmX7 in_X7 rfl (by decide) rfl rfl (by decide) fl_X7_57 rfl (by decide +kernel) dX7_readPart_99 rfl ?_
        refine pb_aload_n 103 dX7_readPart_102 rfl rfl rfl ?_
        refine pb_getR 106 (j := 4) (d := 22) in_X7 rfl (by decide) rfl rfl (by decide) fl_X7_16 dX7_readPart_103 rfl ?_
        refine pb_bipush 108 (v := 8) dX7_readPart_106 rfl (by decide) ?_
        refine pb_aload_n 109 dX7_readPart_108 rfl rfl rfl ?_
        refine pb_getI 112 (j := 7) in_X7 rfl (by decide) rfl rfl (by decide) fl_X7_73 dX7_readPart_109 rfl ?_
        refine pb_iadd 113 dX7_readPart_112 rfl ?_
        refine pb_aload_n 114 dX7_readPart_113 rfl rfl rfl ?_
        refine pb_iconst 115 (v := 0) dX7_readPart_114 rfl (by decide) ?_
        refine pb_aload_n 116 dX7_readPart_115 rfl rfl rfl ?_
        refine pb_getI 119 (j := 6) in_X7 rfl (by decide) rfl rfl (by decide) fl_X7_66 dX7_readPart_116 rfl ?_
        refine pb_iconst 120 (v := 1) dX7_readPart_119 rfl (by decide) ?_
        refine pb_isub 121 dX7_readPart_120 rfl ?_
        refine cl_X7_figure 124 ⟨by decide, by decide, by decide, by decide⟩ (Nat.le_of_ble_eq_true rfl) ml_X7_80 dX7_readPart_121 rfl (fun b121 μ121 => ?_)
        refine pb_guard (fun hin => pb_iast 125 rfl hin rfl dX7_readPart_124 rfl ?_)
        refine pb_aload_n 126 dX7_readPart_125 rfl rfl rfl ?_
        refine pb_getR 129 (j := 4) (d := 22) in_X7 rfl (by decide) rfl rfl (by decide) fl_X7_16 dX7_readPart_126 rfl ?_
        refine pb_bipush 131 (v := 13) dX7_readPart_129 rfl (by decide) ?_
        refine pb_aload_n 132 dX7_readPart_131 rfl rfl rfl ?_
        refine pb_getI 135 (j := 7) in_X7 rfl (by decide) rfl rfl (by decide) fl_X7_73 dX7_readPart_132 rfl ?_
        refine pb_iadd 136 dX7_readPart_135 rfl ?_
        refine pb_aload_n 137 dX7_readPart_136 rfl rfl rfl ?_
        refine pb_iconst 138 (v := 1) dX7_readPart_137 rfl (by decide) ?_
        refine pb_bipush 140 (v := 9) dX7_readPart_138 rfl (by decide) ?_
        refine cl_X7_figure 143 ⟨by decide, by decide, by decide, by decide⟩ (Nat.le_of_ble_eq_true rfl) ml_X7_80 dX7_readPart_140 rfl (fun b140 μ140 => ?_)
        refine pb_guard (fun hin => pb_iast 144 rfl hin rfl dX7_readPart_143 rfl ?_)
        refine pb_aload_n 145 dX7_readPart_144 rfl rfl rfl ?_
        refine pb_getR 148 (j := 5) (d := 23) in_X7 rfl (by decide) rfl rfl (by decide) fl_X7_19 dX7_readPart_145 rfl ?_
        refine pb_aload_n 149 dX7_readPart_148 rfl rfl rfl ?_
        refine pb_getI 152 (j := 7) in_X7 rfl (by decide) rfl rfl (by decide) fl_X7_73 dX7_readPart_149 rfl ?_
        refine pb_aload_n 153 dX7_readPart_152 rfl rfl rfl ?_
        refine pb_iconst 154 (v := 0) dX7_readPart_153 rfl (by decide) ?_
        refine pb_iconst 155 (v := 3) dX7_readPart_154 rfl (by decide) ?_
        refine cl_X7_figure 158 ⟨by decide, by decide, by decide, by decide⟩ (Nat.le_of_ble_eq_true rfl) ml_X7_80 dX7_readPart_155 rfl (fun b155 μ155 => ?_)
        refine pb_guard (fun hin => pb_iast 159 rfl hin rfl dX7_readPart_158 rfl ?_)
        refine pb_aload_n 160 dX7_readPart_159 rfl rfl rfl ?_
        refine pb_getR 163 (j := 4) (d := 22) in_X7 rfl (by decide) rfl rfl (by decide) fl_X7_16 dX7_readPart_160 rfl ?_
        refine pb_bipush 165 (v := 18) dX7_readPart_163 rfl (by decide) ?_
        refine pb_aload_n 166 dX7_readPart_165 rfl rfl rfl ?_
        refine pb_getI 169 (j := 7) in_X7 rfl (by decide) rfl rfl (by decide) fl_X7_73 dX7_readPart_166 rfl ?_
        refine pb_iadd 170 dX7_readPart_169 rfl ?_
        refine pb_bipush 172 (v := -9) dX7_readPart_170 rfl (by decide) ?_
        refine pb_guard (fun hin => pb_iast 173 rfl hin rfl dX7_readPart_172 rfl ?_)
        refine pb_aload_n 174 dX7_readPart_173 rfl rfl rfl ?_
        refine pb_dup 175 dX7_readPart_174 rfl rfl ?_
        refine pb_getI 178 (j := 7) in_X7 rfl (by decide) rfl rfl (by decide) fl_X7_73 dX7_readPart_175 rfl ?_
        refine pb_iconst 179 (v := 1) dX7_readPart_178 rfl (by decide) ?_
        refine pb_iadd 180 dX7_readPart_179 rfl ?_
        refine pb_putI 183 (j := 7) tyX7 tyX7_ok nmX7 in_X7 rfl (by decide) rfl rfl (by decide) fl_X7_73 rfl (by decide +kernel) dX7_readPart_180 rfl ?_
        refine pb_goto (tgt := 272) dX7_readPart_183 (by decide) ?_
        exact pb_vret dX7_readPart_272
  · exact tX7_readPart_J186 l E v1 μ
set_option maxRecDepth 100000 in
set_option maxHeartbeats 4000000 in
theorem evX7_readPart (l : Launch) (E : pb_E) (v1 : Int32)  (μ : pb_M) : ∀ b μ', pX7_readPart v1 μ = some (b, μ') → pb_Ev l E yX7_readPart cX7_readPart 5 none { frames := 2, cells := 0, slots := 0, locals := 48 } [.ref (E.2.1 19), .int v1] μ ((fun _ : Unit => none) b) μ' := by
  refine pb_enter (L := [some (.ref (E.2.1 19)), some (.int v1), none, none, none]) (by decide +kernel) (Nat.le_of_ble_eq_true rfl) (pb_same [none, none, none, none, none] rfl) (show wX7_readPart l E 0 [some (.ref (E.2.1 19)), some (.int v1), none, none, none] [] μ (pX7_readPart v1 μ) from ?_)
  unfold pX7_readPart
  refine pb_iload_n 1 dX7_readPart_0 rfl rfl rfl ?_
  refine pb_bipush 3 (v := 80) dX7_readPart_1 rfl (by decide) ?_
  refine pb_icmp_ne 6 (tgt := 71) dX7_readPart_3 (by decide) rfl (fun _ => ?_) (fun _ => ?_)
  · refine pb_aload_n 7 dX7_readPart_6 rfl rfl rfl ?_
    refine pb_getI 10 (j := 6) in_X7 rfl (by decide) rfl rfl (by decide) fl_X7_66 dX7_readPart_7 rfl ?_
    refine pb_iconst 11 (v := 4) dX7_readPart_10 rfl (by decide) ?_
    refine pb_icmp_ge 14 (tgt := 71) dX7_readPart_11 (by decide) rfl (fun _ => ?_) (fun _ => ?_)
    · exact tX7_readPart_J71 l E v1 μ
    · refine pb_aload_n 15 dX7_readPart_14 rfl rfl rfl ?_
      refine pb_dup 16 dX7_readPart_15 rfl rfl ?_
      refine pb_getI 19 (j := 10) in_X7 rfl (by decide) rfl rfl (by decide) fl_X7_57 dX7_readPart_16 rfl ?_
      refine pb_iconst 20 (v := 1) dX7_readPart_19 rfl (by decide) ?_
      refine pb_iadd 21 dX7_readPart_20 rfl ?_
      refine pb_putI 24 (j := 10) tyX7 tyX7_ok nmX7 in_X7 rfl (by decide) rfl rfl (by decide) fl_X7_57 rfl (by decide +kernel) dX7_readPart_21 rfl ?_
      refine pb_aload_n 25 dX7_readPart_24 rfl rfl rfl ?_
      refine pb_getR 28 (j := 4) (d := 22) in_X7 rfl (by decide) rfl rfl (by decide) fl_X7_16 dX7_readPart_25 rfl ?_
      refine pb_aload_n 29 dX7_readPart_28 rfl rfl rfl ?_
      refine pb_getI 32 (j := 6) in_X7 rfl (by decide) rfl rfl (by decide) fl_X7_66 dX7_readPart_29 rfl ?_
      refine pb_aload_n 33 dX7_readPart_32 rfl rfl rfl ?_
      refine pb_iconst 34 (v := 0) dX7_readPart_33 rfl (by decide) ?_
      refine pb_bipush 36 (v := 9) dX7_readPart_34 rfl (by decide) ?_
      refine cl_X7_figure 39 ⟨by decide, by decide, by decide, by decide⟩ (Nat.le_of_ble_eq_true rfl) ml_X7_80 dX7_readPart_36 rfl (fun b36 μ36 => ?_)
      refine pb_guard (fun hin => pb_iast 40 rfl hin rfl dX7_readPart_39 rfl ?_)
      refine pb_aload_n 41 dX7_readPart_40 rfl rfl rfl ?_
      refine pb_getR 44 (j := 4) (d := 22) in_X7 rfl (by decide) rfl rfl (by decide) fl_X7_16 dX7_readPart_41 rfl ?_
      refine pb_iconst 45 (v := 4) dX7_readPart_44 rfl (by decide) ?_
      refine pb_aload_n 46 dX7_readPart_45 rfl rfl rfl ?_
      refine pb_getI 49 (j := 6) in_X7 rfl (by decide) rfl rfl (by decide) fl_X7_66 dX7_readPart_46 rfl ?_
      refine pb_iadd 50 dX7_readPart_49 rfl ?_
      refine pb_aload_n 51 dX7_readPart_50 rfl rfl rfl ?_
      refine pb_iconst 52 (v := 0) dX7_readPart_51 rfl (by decide) ?_
      refine pb_bipush 54 (v := 9) dX7_readPart_52 rfl (by decide) ?_
      refine cl_X7_figure 57 ⟨by decide, by decide, by decide, by decide⟩ (Nat.le_of_ble_eq_true rfl) ml_X7_80 dX7_readPart_54 rfl (fun b54 μ54 => ?_)
      refine pb_guard (fun hin => pb_iast 58 rfl hin rfl dX7_readPart_57 rfl ?_)
      refine pb_aload_n 59 dX7_readPart_58 rfl rfl rfl ?_
      refine pb_dup 60 dX7_readPart_59 rfl rfl ?_
      refine pb_getI 63 (j := 6) in_X7 rfl (by decide) rfl rfl (by decide) fl_X7_66 dX7_readPart_60 rfl ?_
      refine pb_iconst 64 (v := 1) dX7_readPart_63 rfl (by decide) ?_
      refine pb_iadd 65 dX7_readPart_64 rfl ?_
      refine pb_putI 68 (j := 6) tyX7 tyX7_ok nmX7 in_X7 rfl (by decide) rfl rfl (by decide) fl_X7_66 rfl (by decide +kernel) dX7_readPart_65 rfl ?_
      refine pb_goto (tgt := 272) dX7_readPart_68 (by decide) ?_
      exact pb_vret dX7_readPart_272
  · exact tX7_readPart_J71 l E v1 μ
theorem mc_X7_readPart : pb_MC yX7_readPart cX7_readPart 5 none 1 := ⟨pb_inW 875 (by decide +kernel) (by decide +kernel), pb_inW 68 (by decide +kernel) (by decide +kernel), by decide +kernel, by decide +kernel, by decide +kernel⟩
theorem mi_X7_readPart : Cond.instanceMethod yX7_readPart ∈ pb_gw := pb_inW 874 (by decide +kernel) (by decide +kernel)
theorem ms_X7_readPart : Cond.selects (yX7_readPart).cls yX7_readPart yX7_readPart ∈ pb_gw := pb_inW 28 (by decide +kernel) (by decide +kernel)
theorem cl_X7_readPart {α : Type} {l : Launch} {E : pb_E} {R : Room} {own : String} {cc : ByteArray} {mL : Nat} {ret : Option FieldType} {Xs : State → Prop} {nc ns : Nat} {Qf : State → Array Value → List Frame → α → pb_M → State → Prop} {pc : Nat} {L : List (Option Value)} {S : List Value} {μ : pb_M} {f : Unit → pb_M → Option (α × pb_M)} {v1 : Int32} {index : Nat} (q : Nat)  (hR : 2 + 1 ≤ R.frames ∧ 8 + (5 + 11) + 48 ≤ R.locals ∧ nc ≤ R.cells ∧ ns ≤ R.slots) (hW : (S.map fun v => v.category).sum ≤ 8) (hl1 : Cond.methodLink own index yX7_readPart ∈ pb_gw) (hdg : decode cc pc = .ok (.invokevirtual index, 3)) (hq : pc + 3 = q) (k : ∀ b1 μ1, pb_RW l E R own cc mL ret Xs nc ns Qf q L S μ1 (f b1 μ1)) : pb_RW l E R own cc mL ret Xs nc ns Qf pc L (.int v1 :: .ref (E.2.1 19) :: S) μ (pb_b (pX7_readPart v1 μ) f) := pb_callV q (fun _ : Unit => none) mc_X7_readPart mi_X7_readPart ms_X7_readPart (fun b1 μ1 h => evX7_readPart l E v1  μ b1 μ1 h) rfl (by decide) rfl rfl rfl rfl hR rfl hW hl1 hdg hq k
