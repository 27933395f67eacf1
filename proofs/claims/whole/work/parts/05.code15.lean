theorem fl_X7_126 : Cond.fieldLink RX7 126 (TX7 13).1 (TX7 13).2.1 (TX7 13).2.2.1 ∈ pb_gw := pb_inW 797 (by decide +kernel) (by decide +kernel)
theorem fl_X7_25 : Cond.fieldLink RX7 25 (TX7 14).1 (TX7 14).2.1 (TX7 14).2.2.1 ∈ pb_gw := pb_inW 798 (by decide +kernel) (by decide +kernel)
def pX7_keepAct_L2 (K34 : pb_M → Option (Unit × pb_M)) : Nat → Int32 → pb_M → Option (Unit × pb_M)
  | 0, _, _ => none
  | n + 1, v1, μ =>
    if (45 : Int32) ≤ v1 then
      K34 μ
    else
    if pb_in v1 90 then
      if pb_in (((45 : Int32) * (μ.1 19 13)) + v1) 630 then
        pX7_keepAct_L2 K34 n (v1 + (1 : Int32)) (pb_sA μ 25 (upd (μ.1 25) ((((45 : Int32) * (μ.1 19 13)) + v1)).toNatClampNeg (μ.1 21 (v1).toNatClampNeg)))
      else none
    else none
def pX7_keepAct  (μ : pb_M) : Option (Unit × pb_M) :=
  pX7_keepAct_L2 (fun μk34 =>
    if (14 : Int32) ≤ ((pb_sA μk34 19 (upd (μk34.1 19) 13 (pb_rem ((μk34.1 19 13) + (1 : Int32)) (14 : Int32)))).1 19 12) then
      some ((), (pb_sA (pb_sA μk34 19 (upd (μk34.1 19) 13 (pb_rem ((μk34.1 19 13) + (1 : Int32)) (14 : Int32)))) 19 (upd ((pb_sA μk34 19 (upd (μk34.1 19) 13 (pb_rem ((μk34.1 19 13) + (1 : Int32)) (14 : Int32)))).1 19) 12 (14 : Int32))))
    else
    some ((), (pb_sA (pb_sA μk34 19 (upd (μk34.1 19) 13 (pb_rem ((μk34.1 19 13) + (1 : Int32)) (14 : Int32)))) 19 (upd ((pb_sA μk34 19 (upd (μk34.1 19) 13 (pb_rem ((μk34.1 19 13) + (1 : Int32)) (14 : Int32)))).1 19) 12 (((pb_sA μk34 19 (upd (μk34.1 19) 13 (pb_rem ((μk34.1 19 13) + (1 : Int32)) (14 : Int32)))).1 19 12) + (1 : Int32)))))) pb_F (0 : Int32) μ
abbrev wX7_keepAct (l : Launch) (E : pb_E) := pb_RW l E { frames := 0, cells := 0, slots := 0, locals := 0 } RX7 cX7_keepAct 2 none (fun _ => True) 0 0 (pb_Qf E (fun _ : Unit => none))
set_option maxRecDepth 100000 in
set_option maxHeartbeats 4000000 in
theorem tX7_keepAct_L2 (l : Launch) (E : pb_E)  {K34 : pb_M → Option (Unit × pb_M)} (hK34 : ∀  (μ : pb_M), wX7_keepAct l E 34 [some (.ref (E.2.1 19)), none] [] μ (K34  μ)) : ∀ (n : Nat) (v1 : Int32) (μ : pb_M), wX7_keepAct l E 2 [some (.ref (E.2.1 19)), some (.int v1)] [] μ (pX7_keepAct_L2 K34 n v1 μ) := by
  intro n
  induction n with
  | zero => intro v1 μ; exact pb_none
  | succ n ih =>
    intro v1 μ
    rw [pX7_keepAct_L2]
    refine pb_iload_n 3 dX7_keepAct_2 rfl rfl rfl ?_
    refine pb_bipush 5 (v := 45) dX7_keepAct_3 rfl (by decide) ?_
    refine pb_icmp_ge 8 (tgt := 34) dX7_keepAct_5 (by decide) rfl (fun _ => ?_) (fun _ => ?_)
    · refine pb_weakM (L' := [some (.ref (E.2.1 19)), none]) [true, false] rfl ?_
      exact hK34 μ
    · refine pb_aload_n 9 dX7_keepAct_8 rfl rfl rfl ?_
      refine pb_getR 12 (j := 14) (d := 25) in_X7 rfl (by decide) rfl rfl (by decide) fl_X7_25 dX7_keepAct_9 rfl ?_
      refine pb_bipush 14 (v := 45) dX7_keepAct_12 rfl (by decide) ?_
      refine pb_aload_n 15 dX7_keepAct_14 rfl rfl rfl ?_
      refine pb_getI 18 (j := 13) in_X7 rfl (by decide) rfl rfl (by decide) fl_X7_126 dX7_keepAct_15 rfl ?_
      refine pb_imul 19 dX7_keepAct_18 rfl ?_
      refine pb_iload_n 20 dX7_keepAct_19 rfl rfl rfl ?_
      refine pb_iadd 21 dX7_keepAct_20 rfl ?_
      refine pb_aload_n 22 dX7_keepAct_21 rfl rfl rfl ?_
      refine pb_getR 25 (j := 3) (d := 21) in_X7 rfl (by decide) rfl rfl (by decide) fl_X7_13 dX7_keepAct_22 rfl ?_
      refine pb_iload_n 26 dX7_keepAct_25 rfl rfl rfl ?_
      refine pb_guard (fun hin => pb_iald 27 rfl hin rfl dX7_keepAct_26 rfl ?_)
      refine pb_guard (fun hin => pb_iast 28 rfl hin rfl dX7_keepAct_27 rfl ?_)
      refine pb_iinc 31 (i := 1) (v := (v1 + (1 : Int32))) (L' := [some (.ref (E.2.1 19)), some (.int (v1 + (1 : Int32)))]) dX7_keepAct_28 rfl rfl (by decide) rfl rfl rfl ?_
      refine pb_goto (tgt := 2) dX7_keepAct_31 (by decide) ?_
      exact ih (v1 + (1 : Int32)) (pb_sA μ 25 (upd (μ.1 25) ((((45 : Int32) * (μ.1 19 13)) + v1)).toNatClampNeg (μ.1 21 (v1).toNatClampNeg)))
set_option maxRecDepth 100000 in
set_option maxHeartbeats 4000000 in
theorem evX7_keepAct (l : Launch) (E : pb_E)   (μ : pb_M) : ∀ b μ', pX7_keepAct  μ = some (b, μ') → pb_Ev l E yX7_keepAct cX7_keepAct 2 none { frames := 0, cells := 0, slots := 0, locals := 0 } [.ref (E.2.1 19)] μ ((fun _ : Unit => none) b) μ' := by
  refine pb_enter (L := [some (.ref (E.2.1 19)), none]) (by decide +kernel) (Nat.le_of_ble_eq_true rfl) (pb_same [none, none] rfl) (show wX7_keepAct l E 0 [some (.ref (E.2.1 19)), none] [] μ (pX7_keepAct  μ) from ?_)
  unfold pX7_keepAct
  refine pb_iconst 1 (v := 0) dX7_keepAct_0 rfl (by decide) ?_
  refine pb_istore_n 2 (i := 1) (L' := [some (.ref (E.2.1 19)), some (.int (0 : Int32))]) dX7_keepAct_1 rfl (by decide) rfl rfl rfl ?_
  refine tX7_keepAct_L2 l E (fun μk34 => ?_) pb_F (0 : Int32) μ
  refine pb_aload_n 35 dX7_keepAct_34 rfl rfl rfl ?_
  refine pb_aload_n 36 dX7_keepAct_35 rfl rfl rfl ?_
  refine pb_getI 39 (j := 13) in_X7 rfl (by decide) rfl rfl (by decide) fl_X7_126 dX7_keepAct_36 rfl ?_
  refine pb_iconst 40 (v := 1) dX7_keepAct_39 rfl (by decide) ?_
  refine pb_iadd 41 dX7_keepAct_40 rfl ?_
  refine pb_bipush 43 (v := 14) dX7_keepAct_41 rfl (by decide) ?_
  refine pb_irem 44 dX7_keepAct_43 rfl (by decide) ?_
  refine pb_putI 47 (j := 13) tyX7 tyX7_ok nmX7 in_X7 rfl (by decide) rfl rfl (by decide) fl_X7_126 rfl (by decide +kernel) dX7_keepAct_44 rfl ?_
  refine pb_aload_n 48 dX7_keepAct_47 rfl rfl rfl ?_
  refine pb_aload_n 49 dX7_keepAct_48 rfl rfl rfl ?_
  refine pb_getI 52 (j := 12) in_X7 rfl (by decide) rfl rfl (by decide) fl_X7_97 dX7_keepAct_49 rfl ?_
  refine pb_bipush 54 (v := 14) dX7_keepAct_52 rfl (by decide) ?_
  refine pb_icmp_ge 57 (tgt := 66) dX7_keepAct_54 (by decide) rfl (fun _ => ?_) (fun _ => ?_)
  · refine pb_bipush 68 (v := 14) dX7_keepAct_66 rfl (by decide) ?_
    refine pb_putI 71 (j := 12) tyX7 tyX7_ok nmX7 in_X7 rfl (by decide) rfl rfl (by decide) fl_X7_97 rfl (by decide +kernel) dX7_keepAct_68 rfl ?_
    exact pb_vret dX7_keepAct_71
  · refine pb_aload_n 58 dX7_keepAct_57 rfl rfl rfl ?_
    refine pb_getI 61 (j := 12) in_X7 rfl (by decide) rfl rfl (by decide) fl_X7_97 dX7_keepAct_58 rfl ?_
    refine pb_iconst 62 (v := 1) dX7_keepAct_61 rfl (by decide) ?_
    refine pb_iadd 63 dX7_keepAct_62 rfl ?_
    refine pb_goto (tgt := 68) dX7_keepAct_63 (by decide) ?_
    refine pb_putI 71 (j := 12) tyX7 tyX7_ok nmX7 in_X7 rfl (by decide) rfl rfl (by decide) fl_X7_97 rfl (by decide +kernel) dX7_keepAct_68 rfl ?_
    exact pb_vret dX7_keepAct_71
theorem mc_X7_keepAct : pb_MC yX7_keepAct cX7_keepAct 2 none 0 := ⟨pb_inW 938 (by decide +kernel) (by decide +kernel), pb_inW 68 (by decide +kernel) (by decide +kernel), by decide +kernel, by decide +kernel, by decide +kernel⟩
theorem mi_X7_keepAct : Cond.instanceMethod yX7_keepAct ∈ pb_gw := pb_inW 937 (by decide +kernel) (by decide +kernel)
theorem ms_X7_keepAct : Cond.selects (yX7_keepAct).cls yX7_keepAct yX7_keepAct ∈ pb_gw := pb_inW 37 (by decide +kernel) (by decide +kernel)
theorem cl_X7_keepAct {α : Type} {l : Launch} {E : pb_E} {R : Room} {own : String} {cc : ByteArray} {mL : Nat} {ret : Option FieldType} {Xs : State → Prop} {nc ns : Nat} {Qf : State → Array Value → List Frame → α → pb_M → State → Prop} {pc : Nat} {L : List (Option Value)} {S : List Value} {μ : pb_M} {f : Unit → pb_M → Option (α × pb_M)}  {index : Nat} (q : Nat)  (hR : 0 + 1 ≤ R.frames ∧ 8 + (2 + 11) + 0 ≤ R.locals ∧ nc ≤ R.cells ∧ ns ≤ R.slots) (hW : (S.map fun v => v.category).sum ≤ 8) (hl1 : Cond.methodLink own index yX7_keepAct ∈ pb_gw) (hdg : decode cc pc = .ok (.invokevirtual index, 3)) (hq : pc + 3 = q) (k : ∀ b1 μ1, pb_RW l E R own cc mL ret Xs nc ns Qf q L S μ1 (f b1 μ1)) : pb_RW l E R own cc mL ret Xs nc ns Qf pc L (.ref (E.2.1 19) :: S) μ (pb_b (pX7_keepAct  μ) f) := pb_callV q (fun _ : Unit => none) mc_X7_keepAct mi_X7_keepAct ms_X7_keepAct (fun b1 μ1 h => evX7_keepAct l E   μ b1 μ1 h) rfl (by decide) rfl rfl rfl rfl hR rfl hW hl1 hdg hq k
theorem ml_X7_129 : Cond.methodLink RX7 129 yX7_clauseOn ∈ pb_gw := pb_inW 927 (by decide +kernel) (by decide +kernel)
theorem ml_X7_132 : Cond.methodLink RX7 132 yX7_keepAct ∈ pb_gw := pb_inW 935 (by decide +kernel) (by decide +kernel)
def pX7_drive_J39 (v1 : Int32) (v2 : Int32) (v3 : Int32) (μ : pb_M) : Option (Int32 × pb_M) :=
  pb_b (pX7_keepAct μ) (fun b40 μ40 =>
  if v3 = (0 : Int32) then
    pb_b (pX7_shutOn (0 : Int32) v2 v1 μ40) (fun b51 μ51 =>
    some (v3, μ51))
  else
  if pb_in ((8 : Int32) + v2) 90 then
    if pb_in ((13 : Int32) + v2) 90 then
      pb_b (pX7_addOn (0 : Int32) v1 (μ40.1 21 (((8 : Int32) + v2)).toNatClampNeg) (μ40.1 21 (((13 : Int32) + v2)).toNatClampNeg) μ40) (fun b78 μ78 =>
      some (v3, μ78))
    else none
  else none)
def pX7_drive (v1 : Int32) (v2 : Int32) (μ : pb_M) : Option (Int32 × pb_M) :=
  pb_b (pX7_isPerson v1 μ) (fun b2 μ2 =>
  if b2 = (0 : Int32) then
    some ((-1 : Int32), μ2)
  else
  pb_b (pX7_isBeast v2 μ2) (fun b10 μ10 =>
  if b10 = (0 : Int32) then
    some ((-1 : Int32), μ10)
  else
  pb_b (pX7_clauseOn (0 : Int32) v1 v2 μ10) (fun b22 μ22 =>
  if b22 = (0 : Int32) then
    pX7_drive_J39 v1 v2 b22 μ22
  else
  if b22 = (6 : Int32) then
    pX7_drive_J39 v1 v2 b22 μ22
  else
  some ((-3 : Int32), μ22))))
abbrev wX7_drive (l : Launch) (E : pb_E) := pb_RW l E { frames := 2, cells := 0, slots := 0, locals := 47 } RX7 cX7_drive 4 (some .int) (fun _ => True) 0 0 (pb_Qf E (fun z : Int32 => some (.int z)))
set_option maxRecDepth 100000 in
set_option maxHeartbeats 4000000 in
theorem tX7_drive_J39 (l : Launch) (E : pb_E)    : ∀ (v1 : Int32) (v2 : Int32) (v3 : Int32) (μ : pb_M), wX7_drive l E 39 [some (.ref (E.2.1 19)), some (.int v1), some (.int v2), some (.int v3)] [] μ (pX7_drive_J39 v1 v2 v3 μ) := by
  intro v1 v2 v3 μ
  unfold pX7_drive_J39
  refine pb_aload_n 40 dX7_drive_39 rfl rfl rfl ?_
  refine cl_X7_keepAct 43 ⟨by decide, by decide, by decide, by decide⟩ (Nat.le_of_ble_eq_true rfl) ml_X7_132 dX7_drive_40 rfl (fun b40 μ40 => ?_)
  refine pb_iload_n 44 dX7_drive_43 rfl rfl rfl ?_
  refine pb_if_ne 47 (tgt := 57) dX7_drive_44 (by decide) rfl (fun _ => ?_) (fun _ => ?_)
  · refine pb_aload_n 48 dX7_drive_47 rfl rfl rfl ?_
    refine pb_iconst 49 (v := 0) dX7_drive_48 rfl (by decide) ?_
    refine pb_iload_n 50 dX7_drive_49 rfl rfl rfl ?_
    refine pb_iload_n 51 dX7_drive_50 rfl rfl rfl ?_
    refine cl_X7_shutOn 54 ⟨by decide, by decide, by decide, by decide⟩ (Nat.le_of_ble_eq_true rfl) ml_X7_114 dX7_drive_51 rfl (fun b51 μ51 => ?_)
    refine pb_goto (tgt := 81) dX7_drive_54 (by decide) ?_
    refine pb_iload_n 82 dX7_drive_81 rfl rfl rfl ?_
    exact pb_iret dX7_drive_82
  · refine pb_aload_n 58 dX7_drive_57 rfl rfl rfl ?_
    refine pb_iconst 59 (v := 0) dX7_drive_58 rfl (by decide) ?_
    refine pb_iload_n 60 dX7_drive_59 rfl rfl rfl ?_
    refine pb_aload_n 61 dX7_drive_60 rfl rfl rfl ?_
    refine pb_getR 64 (j := 3) (d := 21) in_X7 rfl (by decide) rfl rfl (by decide) fl_X7_13 dX7_drive_61 rfl ?_
    refine pb_bipush 66 (v := 8) dX7_drive_64 rfl (by decide) ?_
    refine pb_iload_n 67 dX7_drive_66 rfl rfl rfl ?_
    refine pb_iadd 68 dX7_drive_67 rfl ?_
    refine pb_guard (fun hin => pb_iald 69 rfl hin rfl dX7_drive_68 rfl ?_)
    refine pb_aload_n 70 dX7_drive_69 rfl rfl rfl ?_
    refine pb_getR 73 (j := 3) (d := 21) in_X7 rfl (by decide) rfl rfl (by decide) fl_X7_13 dX7_drive_70 rfl ?_
    refine pb_bipush 75 (v := 13) dX7_drive_73 rfl (by decide) ?_
    refine pb_iload_n 76 dX7_drive_75 rfl rfl rfl ?_
    refine pb_iadd 77 dX7_drive_76 rfl ?_
    refine pb_guard (fun hin => pb_iald 78 rfl hin rfl dX7_drive_77 rfl ?_)
    refine cl_X7_addOn 81 ⟨by decide, by decide, by decide, by decide⟩ (Nat.le_of_ble_eq_true rfl) ml_X7_122 dX7_drive_78 rfl (fun b78 μ78 => ?_)
    refine pb_iload_n 82 dX7_drive_81 rfl rfl rfl ?_
    exact pb_iret dX7_drive_82
set_option maxRecDepth 100000 in
set_option maxHeartbeats 4000000 in
theorem evX7_drive (l : Launch) (E : pb_E) (v1 : Int32) (v2 : Int32)  (μ : pb_M) : ∀ b μ', pX7_drive v1 v2 μ = some (b, μ') → pb_Ev l E yX7_drive cX7_drive 4 (some .int) { frames := 2, cells := 0, slots := 0, locals := 47 } [.ref (E.2.1 19), .int v1, .int v2] μ ((fun z : Int32 => some (.int z)) b) μ' := by
  refine pb_enter (L := [some (.ref (E.2.1 19)), some (.int v1), some (.int v2), none]) (by decide +kernel) (Nat.le_of_ble_eq_true rfl) (pb_same [none, none, none, none] rfl) (show wX7_drive l E 0 [some (.ref (E.2.1 19)), some (.int v1), some (.int v2), none] [] μ (pX7_drive v1 v2 μ) from ?_)
  unfold pX7_drive
  refine pb_aload_n 1 dX7_drive_0 rfl rfl rfl ?_
  refine pb_iload_n 2 dX7_drive_1 rfl rfl rfl ?_
  refine cl_X7_isPerson 5 ⟨by decide, by decide, by decide, by decide⟩ (Nat.le_of_ble_eq_true rfl) ml_X7_100 dX7_drive_2 rfl (fun b2 μ2 => ?_)
  refine pb_if_eq 8 (tgt := 16) dX7_drive_5 (by decide) rfl (fun _ => ?_) (fun _ => ?_)
  · refine pb_iconst 17 (v := -1) dX7_drive_16 rfl (by decide) ?_
    exact pb_iret dX7_drive_17
  · refine pb_aload_n 9 dX7_drive_8 rfl rfl rfl ?_
    refine pb_iload_n 10 dX7_drive_9 rfl rfl rfl ?_
    refine cl_X7_isBeast 13 ⟨by decide, by decide, by decide, by decide⟩ (Nat.le_of_ble_eq_true rfl) ml_X7_108 dX7_drive_10 rfl (fun b10 μ10 => ?_)
    refine pb_if_ne 16 (tgt := 18) dX7_drive_13 (by decide) rfl (fun _ => ?_) (fun _ => ?_)
    · refine pb_iconst 17 (v := -1) dX7_drive_16 rfl (by decide) ?_
      exact pb_iret dX7_drive_17
    · refine pb_aload_n 19 dX7_drive_18 rfl rfl rfl ?_
      refine pb_iconst 20 (v := 0) dX7_drive_19 rfl (by decide) ?_
      refine pb_iload_n 21 dX7_drive_20 rfl rfl rfl ?_
      refine pb_iload_n 22 dX7_drive_21 rfl rfl rfl ?_
      refine cl_X7_clauseOn 25 ⟨by decide, by decide, by decide, by decide⟩ (Nat.le_of_ble_eq_true rfl) ml_X7_129 dX7_drive_22 rfl (fun b22 μ22 => ?_)
      refine pb_istore_n 26 (i := 3) (L' := [some (.ref (E.2.1 19)), some (.int v1), some (.int v2), some (.int b22)]) dX7_drive_25 rfl (by decide) rfl rfl rfl ?_
      refine pb_iload_n 27 dX7_drive_26 rfl rfl rfl ?_
      refine pb_if_eq 30 (tgt := 39) dX7_drive_27 (by decide) rfl (fun _ => ?_) (fun _ => ?_)
      · exact tX7_drive_J39 l E v1 v2 b22 μ22
      · refine pb_iload_n 31 dX7_drive_30 rfl rfl rfl ?_
        refine pb_bipush 33 (v := 6) dX7_drive_31 rfl (by decide) ?_
        refine pb_icmp_eq 36 (tgt := 39) dX7_drive_33 (by decide) rfl (fun _ => ?_) (fun _ => ?_)
        · exact tX7_drive_J39 l E v1 v2 b22 μ22
        · refine pb_bipush 38 (v := -3) dX7_drive_36 rfl (by decide) ?_
          exact pb_iret dX7_drive_38
theorem mc_X7_drive : pb_MC yX7_drive cX7_drive 4 (some .int) 2 := ⟨pb_inW 926 (by decide +kernel) (by decide +kernel), pb_inW 68 (by decide +kernel) (by decide +kernel), by decide +kernel, by decide +kernel, by decide +kernel⟩
theorem mi_X7_drive : Cond.instanceMethod yX7_drive ∈ pb_gw := pb_inW 924 (by decide +kernel) (by decide +kernel)
theorem ms_X7_drive : Cond.selects (yX7_drive).cls yX7_drive yX7_drive ∈ pb_gw := pb_inW 925 (by decide +kernel) (by decide +kernel)
theorem cl_X7_drive {α : Type} {l : Launch} {E : pb_E} {R : Room} {own : String} {cc : ByteArray} {mL : Nat} {ret : Option FieldType} {Xs : State → Prop} {nc ns : Nat} {Qf : State → Array Value → List Frame → α → pb_M → State → Prop} {pc : Nat} {L : List (Option Value)} {S : List Value} {μ : pb_M} {f : Int32 → pb_M → Option (α × pb_M)} {v1 : Int32} {v2 : Int32} {index : Nat} (q : Nat)  (hR : 2 + 1 ≤ R.frames ∧ 8 + (4 + 11) + 47 ≤ R.locals ∧ nc ≤ R.cells ∧ ns ≤ R.slots) (hW : (S.map fun v => v.category).sum ≤ 8) (hl1 : Cond.methodLink own index yX7_drive ∈ pb_gw) (hdg : decode cc pc = .ok (.invokevirtual index, 3)) (hq : pc + 3 = q) (k : ∀ b1 μ1, pb_RW l E R own cc mL ret Xs nc ns Qf q L (.int b1 :: S) μ1 (f b1 μ1)) : pb_RW l E R own cc mL ret Xs nc ns Qf pc L (.int v2 :: .int v1 :: .ref (E.2.1 19) :: S) μ (pb_b (pX7_drive v1 v2 μ) f) := pb_callV q (fun z : Int32 => some (.int z)) mc_X7_drive mi_X7_drive ms_X7_drive (fun b1 μ1 h => evX7_drive l E v1 v2  μ b1 μ1 h) rfl (by decide) rfl rfl rfl rfl hR rfl hW hl1 hdg hq k
def pX7_shutNow_L4  : Nat → Int32 → Int32 → pb_M → Option (Int32 × pb_M)
  | 0, _, _, _ => none
  | n + 1, v1, v2, μ =>
    if (μ.1 19 1) ≤ v2 then
      some (v1, μ)
    else
    pb_b (pX7_isIn (0 : Int32) v2 μ) (fun b16 μ16 =>
    if b16 = (0 : Int32) then
      pX7_shutNow_L4 n (v1 ||| (0 : Int32)) (v2 + (1 : Int32)) μ16
    else
    pX7_shutNow_L4 n (v1 ||| ((1 : Int32) <<< (v2 &&& 31))) (v2 + (1 : Int32)) μ16)
def pX7_shutNow  (μ : pb_M) : Option (Int32 × pb_M) :=
  pX7_shutNow_L4 pb_F (0 : Int32) (0 : Int32) μ
abbrev wX7_shutNow (l : Launch) (E : pb_E) := pb_RW l E { frames := 1, cells := 0, slots := 0, locals := 22 } RX7 cX7_shutNow 3 (some .int) (fun _ => True) 0 0 (pb_Qf E (fun z : Int32 => some (.int z)))
set_option maxRecDepth 100000 in
set_option maxHeartbeats 4000000 in
theorem tX7_shutNow_L4 (l : Launch) (E : pb_E)    : ∀ (n : Nat) (v1 : Int32) (v2 : Int32) (μ : pb_M), wX7_shutNow l E 4 [some (.ref (E.2.1 19)), some (.int v1), some (.int v2)] [] μ (pX7_shutNow_L4 n v1 v2 μ) := by
  intro n
  induction n with
  | zero => intro v1 v2 μ; exact pb_none
  | succ n ih =>
    intro v1 v2 μ
    rw [pX7_shutNow_L4]
    refine pb_iload_n 5 dX7_shutNow_4 rfl rfl rfl ?_
    refine pb_aload_n 6 dX7_shutNow_5 rfl rfl rfl ?_
    refine pb_getI 9 (j := 1) in_X7 rfl (by decide) rfl rfl (by decide) fl_X7_94 dX7_shutNow_6 rfl ?_
    refine pb_icmp_ge 12 (tgt := 37) dX7_shutNow_9 (by decide) rfl (fun _ => ?_) (fun _ => ?_)
    · refine pb_iload_n 38 dX7_shutNow_37 rfl rfl rfl ?_
      exact pb_iret dX7_shutNow_38
    · refine pb_iload_n 13 dX7_shutNow_12 rfl rfl rfl ?_
      refine pb_aload_n 14 dX7_shutNow_13 rfl rfl rfl ?_
      refine pb_iconst 15 (v := 0) dX7_shutNow_14 rfl (by decide) ?_
      refine pb_iload_n 16 dX7_shutNow_15 rfl rfl rfl ?_
      refine cl_X7_isIn 19 ⟨by decide, by decide, by decide, by decide⟩ (Nat.le_of_ble_eq_true rfl) ml_X7_111 dX7_shutNow_16 rfl (fun b16 μ16 => ?_)
      refine pb_if_eq 22 (tgt := 28) dX7_shutNow_19 (by decide) rfl (fun _ => ?_) (fun _ => ?_)
      · refine pb_iconst 29 (v := 0) dX7_shutNow_28 rfl (by decide) ?_
        refine pb_ior 30 dX7_shutNow_29 rfl ?_
        refine pb_istore_n 31 (i := 1) (L' := [some (.ref (E.2.1 19)), some (.int (v1 ||| (0 : Int32))), some (.int v2)]) dX7_shutNow_30 rfl (by decide) rfl rfl rfl ?_
        refine pb_iinc 34 (i := 2) (v := (v2 + (1 : Int32))) (L' := [some (.ref (E.2.1 19)), some (.int (v1 ||| (0 : Int32))), some (.int (v2 + (1 : Int32)))]) dX7_shutNow_31 rfl rfl (by decide) rfl rfl rfl ?_
        refine pb_goto (tgt := 4) dX7_shutNow_34 (by decide) ?_
        exact ih (v1 ||| (0 : Int32)) (v2 + (1 : Int32)) μ16
      · refine pb_iconst 23 (v := 1) dX7_shutNow_22 rfl (by decide) ?_
        refine pb_iload_n 24 dX7_shutNow_23 rfl rfl rfl ?_
        refine pb_ishl 25 dX7_shutNow_24 rfl ?_
        refine pb_goto (tgt := 29) dX7_shutNow_25 (by decide) ?_
        refine pb_ior 30 dX7_shutNow_29 rfl ?_
        refine pb_istore_n 31 (i := 1) (L' := [some (.ref (E.2.1 19)), some (.int (v1 ||| ((1 : Int32) <<< (v2 &&& 31)))), some (.int v2)]) dX7_shutNow_30 rfl (by decide) rfl rfl rfl ?_
        refine pb_iinc 34 (i := 2) (v := (v2 + (1 : Int32))) (L' := [some (.ref (E.2.1 19)), some (.int (v1 ||| ((1 : Int32) <<< (v2 &&& 31)))), some (.int (v2 + (1 : Int32)))]) dX7_shutNow_31 rfl rfl (by decide) rfl rfl rfl ?_
        refine pb_goto (tgt := 4) dX7_shutNow_34 (by decide) ?_
        exact ih (v1 ||| ((1 : Int32) <<< (v2 &&& 31))) (v2 + (1 : Int32)) μ16
set_option maxRecDepth 100000 in
set_option maxHeartbeats 4000000 in
theorem evX7_shutNow (l : Launch) (E : pb_E)   (μ : pb_M) : ∀ b μ', pX7_shutNow  μ = some (b, μ') → pb_Ev l E yX7_shutNow cX7_shutNow 3 (some .int) { frames := 1, cells := 0, slots := 0, locals := 22 } [.ref (E.2.1 19)] μ ((fun z : Int32 => some (.int z)) b) μ' := by
  refine pb_enter (L := [some (.ref (E.2.1 19)), none, none]) (by decide +kernel) (Nat.le_of_ble_eq_true rfl) (pb_same [none, none, none] rfl) (show wX7_shutNow l E 0 [some (.ref (E.2.1 19)), none, none] [] μ (pX7_shutNow  μ) from ?_)
  unfold pX7_shutNow
  refine pb_iconst 1 (v := 0) dX7_shutNow_0 rfl (by decide) ?_
  refine pb_istore_n 2 (i := 1) (L' := [some (.ref (E.2.1 19)), some (.int (0 : Int32)), none]) dX7_shutNow_1 rfl (by decide) rfl rfl rfl ?_
  refine pb_iconst 3 (v := 0) dX7_shutNow_2 rfl (by decide) ?_
  refine pb_istore_n 4 (i := 2) (L' := [some (.ref (E.2.1 19)), some (.int (0 : Int32)), some (.int (0 : Int32))]) dX7_shutNow_3 rfl (by decide) rfl rfl rfl ?_
  exact tX7_shutNow_L4 l E pb_F (0 : Int32) (0 : Int32) μ
theorem mc_X7_shutNow : pb_MC yX7_shutNow cX7_shutNow 3 (some .int) 0 := ⟨pb_inW 962 (by decide +kernel) (by decide +kernel), pb_inW 68 (by decide +kernel) (by decide +kernel), by decide +kernel, by decide +kernel, by decide +kernel⟩
theorem mi_X7_shutNow : Cond.instanceMethod yX7_shutNow ∈ pb_gw := pb_inW 961 (by decide +kernel) (by decide +kernel)
theorem ms_X7_shutNow : Cond.selects (yX7_shutNow).cls yX7_shutNow yX7_shutNow ∈ pb_gw := pb_inW 42 (by decide +kernel) (by decide +kernel)
theorem cl_X7_shutNow {α : Type} {l : Launch} {E : pb_E} {R : Room} {own : String} {cc : ByteArray} {mL : Nat} {ret : Option FieldType} {Xs : State → Prop} {nc ns : Nat} {Qf : State → Array Value → List Frame → α → pb_M → State → Prop} {pc : Nat} {L : List (Option Value)} {S : List Value} {μ : pb_M} {f : Int32 → pb_M → Option (α × pb_M)}  {index : Nat} (q : Nat)  (hR : 1 + 1 ≤ R.frames ∧ 8 + (3 + 11) + 22 ≤ R.locals ∧ nc ≤ R.cells ∧ ns ≤ R.slots) (hW : (S.map fun v => v.category).sum ≤ 8) (hl1 : Cond.methodLink own index yX7_shutNow ∈ pb_gw) (hdg : decode cc pc = .ok (.invokevirtual index, 3)) (hq : pc + 3 = q) (k : ∀ b1 μ1, pb_RW l E R own cc mL ret Xs nc ns Qf q L (.int b1 :: S) μ1 (f b1 μ1)) : pb_RW l E R own cc mL ret Xs nc ns Qf pc L (.ref (E.2.1 19) :: S) μ (pb_b (pX7_shutNow  μ) f) := pb_callV q (fun z : Int32 => some (.int z)) mc_X7_shutNow mi_X7_shutNow ms_X7_shutNow (fun b1 μ1 h => evX7_shutNow l E   μ b1 μ1 h) rfl (by decide) rfl rfl rfl rfl hR rfl hW hl1 hdg hq k
theorem ml_X7_135 : Cond.methodLink RX7 135 yX7_passOn ∈ pb_gw := pb_inW 951 (by decide +kernel) (by decide +kernel)
theorem ml_X7_138 : Cond.methodLink RX7 138 yX7_shutNow ∈ pb_gw := pb_inW 959 (by decide +kernel) (by decide +kernel)
theorem ml_X7_141 : Cond.methodLink RX7 141 yX7_ones ∈ pb_gw := pb_inW 963 (by decide +kernel) (by decide +kernel)
def pX7_day  (μ : pb_M) : Option (Int32 × pb_M) :=
  pb_b (pX7_keepAct μ) (fun b1 μ1 =>
  pb_b (pX7_passOn (0 : Int32) μ1) (fun b6 μ6 =>
  pb_b (pX7_shutNow μ6) (fun b10 μ10 =>
  pb_b (pX7_ones b10 μ10) (fun b13 μ13 =>
  some (b13, μ13)))))
abbrev wX7_day (l : Launch) (E : pb_E) := pb_RW l E { frames := 3, cells := 0, slots := 0, locals := 70 } RX7 cX7_day 1 (some .int) (fun _ => True) 0 0 (pb_Qf E (fun z : Int32 => some (.int z)))
set_option maxRecDepth 100000 in
set_option maxHeartbeats 4000000 in
theorem evX7_day (l : Launch) (E : pb_E)   (μ : pb_M) : ∀ b μ', pX7_day  μ = some (b, μ') → pb_Ev l E yX7_day cX7_day 1 (some .int) { frames := 3, cells := 0, slots := 0, locals := 70 } [.ref (E.2.1 19)] μ ((fun z : Int32 => some (.int z)) b) μ' := by
  refine pb_enter (L := [some (.ref (E.2.1 19))]) (by decide +kernel) (Nat.le_of_ble_eq_true rfl) (pb_same [none] rfl) (show wX7_day l E 0 [some (.ref (E.2.1 19))] [] μ (pX7_day  μ) from ?_)
  unfold pX7_day
  refine pb_aload_n 1 dX7_day_0 rfl rfl rfl ?_
  refine cl_X7_keepAct 4 ⟨by decide, by decide, by decide, by decide⟩ (Nat.le_of_ble_eq_true rfl) ml_X7_132 dX7_day_1 rfl (fun b1 μ1 => ?_)
  refine pb_aload_n 5 dX7_day_4 rfl rfl rfl ?_
  refine pb_iconst 6 (v := 0) dX7_day_5 rfl (by decide) ?_
  refine cl_X7_passOn 9 ⟨by decide, by decide, by decide, by decide⟩ (Nat.le_of_ble_eq_true rfl) ml_X7_135 dX7_day_6 rfl (fun b6 μ6 => ?_)
  refine pb_aload_n 10 dX7_day_9 rfl rfl rfl ?_
  refine cl_X7_shutNow 13 ⟨by decide, by decide, by decide, by decide⟩ (Nat.le_of_ble_eq_true rfl) ml_X7_138 dX7_day_10 rfl (fun b10 μ10 => ?_)
  refine cl_X7_ones 16 ⟨by decide, by decide, by decide, by decide⟩ (Nat.le_of_ble_eq_true rfl) ml_X7_141 dX7_day_13 rfl (fun b13 μ13 => ?_)
  exact pb_iret dX7_day_16
theorem mc_X7_day : pb_MC yX7_day cX7_day 1 (some .int) 0 := ⟨pb_inW 950 (by decide +kernel) (by decide +kernel), pb_inW 68 (by decide +kernel) (by decide +kernel), by decide +kernel, by decide +kernel, by decide +kernel⟩
theorem mi_X7_day : Cond.instanceMethod yX7_day ∈ pb_gw := pb_inW 948 (by decide +kernel) (by decide +kernel)
theorem ms_X7_day : Cond.selects (yX7_day).cls yX7_day yX7_day ∈ pb_gw := pb_inW 949 (by decide +kernel) (by decide +kernel)
theorem cl_X7_day {α : Type} {l : Launch} {E : pb_E} {R : Room} {own : String} {cc : ByteArray} {mL : Nat} {ret : Option FieldType} {Xs : State → Prop} {nc ns : Nat} {Qf : State → Array Value → List Frame → α → pb_M → State → Prop} {pc : Nat} {L : List (Option Value)} {S : List Value} {μ : pb_M} {f : Int32 → pb_M → Option (α × pb_M)}  {index : Nat} (q : Nat)  (hR : 3 + 1 ≤ R.frames ∧ 8 + (1 + 11) + 70 ≤ R.locals ∧ nc ≤ R.cells ∧ ns ≤ R.slots) (hW : (S.map fun v => v.category).sum ≤ 8) (hl1 : Cond.methodLink own index yX7_day ∈ pb_gw) (hdg : decode cc pc = .ok (.invokevirtual index, 3)) (hq : pc + 3 = q) (k : ∀ b1 μ1, pb_RW l E R own cc mL ret Xs nc ns Qf q L (.int b1 :: S) μ1 (f b1 μ1)) : pb_RW l E R own cc mL ret Xs nc ns Qf pc L (.ref (E.2.1 19) :: S) μ (pb_b (pX7_day  μ) f) := pb_callV q (fun z : Int32 => some (.int z)) mc_X7_day mi_X7_day ms_X7_day (fun b1 μ1 h => evX7_day l E   μ b1 μ1 h) rfl (by decide) rfl rfl rfl rfl hR rfl hW hl1 hdg hq k
def pX7_pay_L114 (v1 : Int32) (v2 : Int32) (K180 : pb_M → Option (Int32 × pb_M)) : Nat → Int32 → pb_M → Option (Int32 × pb_M)
  | 0, _, _ => none
  | n + 1, v4, μ =>
    if (μ.1 19 1) ≤ v4 then
      K180 μ
    else
    pb_b (pX7_debt (0 : Int32) v1 v2 μ) (fun b130 μ130 =>
    if pb_in b130 90 then
      if (μ130.1 21 (b130).toNatClampNeg) = (0 : Int32) then
        if pb_in ((8 : Int32) + v4) 90 then
          if (μ130.1 21 (((8 : Int32) + v4)).toNatClampNeg) = v1 then
            if pb_in ((18 : Int32) + v4) 90 then
              if (μ130.1 21 (((18 : Int32) + v4)).toNatClampNeg) = v2 then
                pb_b (pX7_shutOn (0 : Int32) v4 (-9 : Int32) μ130) (fun b171 μ171 =>
                pX7_pay_L114 v1 v2 K180 n (v4 + (1 : Int32)) μ171)
              else
              pX7_pay_L114 v1 v2 K180 n (v4 + (1 : Int32)) μ130
            else none
          else
          pX7_pay_L114 v1 v2 K180 n (v4 + (1 : Int32)) μ130
        else none
      else
      pX7_pay_L114 v1 v2 K180 n (v4 + (1 : Int32)) μ130
    else none)
def pX7_pay (v1 : Int32) (v2 : Int32) (v3 : Int32) (μ : pb_M) : Option (Int32 × pb_M) :=
  pb_b (pX7_isPerson v1 μ) (fun b2 μ2 =>
  if b2 = (0 : Int32) then
    some ((-1 : Int32), μ2)
  else
  pb_b (pX7_isPerson v2 μ2) (fun b10 μ10 =>
  if b10 = (0 : Int32) then
    some ((-1 : Int32), μ10)
  else
  if v1 = v2 then
    some ((-2 : Int32), μ10)
  else
  pb_b (pX7_in (v3).toInt64 (1 : Int64) (9 : Int64) μ10) (fun b29 μ29 =>
  if b29 = (0 : Int32) then
    some ((-2 : Int32), μ29)
  else
  pb_b (pX7_debt (0 : Int32) v1 v2 μ29) (fun b45 μ45 =>
  if pb_in b45 90 then
    if (μ45.1 21 (b45).toNatClampNeg) < v3 then
      some ((-3 : Int32), μ45)
    else
    if pb_in ((4 : Int32) + v1) 90 then
      if v3 ≤ (μ45.1 21 (((4 : Int32) + v1)).toNatClampNeg) then
        pb_b (pX7_keepAct μ45) (fun b69 μ69 =>
        if pb_in ((4 : Int32) + v1) 90 then
          if pb_in ((4 : Int32) + v1) 90 then
            if pb_in ((4 : Int32) + v2) 90 then
              if pb_in ((4 : Int32) + v2) 90 then
                pb_b (pX7_debt (0 : Int32) v1 v2 (pb_sA (pb_sA μ69 21 (upd (μ69.1 21) (((4 : Int32) + v1)).toNatClampNeg ((μ69.1 21 (((4 : Int32) + v1)).toNatClampNeg) - v3))) 21 (upd ((pb_sA μ69 21 (upd (μ69.1 21) (((4 : Int32) + v1)).toNatClampNeg ((μ69.1 21 (((4 : Int32) + v1)).toNatClampNeg) - v3))).1 21) (((4 : Int32) + v2)).toNatClampNeg (((pb_sA μ69 21 (upd (μ69.1 21) (((4 : Int32) + v1)).toNatClampNeg ((μ69.1 21 (((4 : Int32) + v1)).toNatClampNeg) - v3))).1 21 (((4 : Int32) + v2)).toNatClampNeg) + v3)))) (fun b103 μ103 =>
                if pb_in b103 90 then
                  if pb_in b103 90 then
                    pX7_pay_L114 v1 v2 (fun μk180 =>
                      pb_b (pX7_debt (0 : Int32) v1 v2 μk180) (fun b187 μ187 =>
                      if pb_in b187 90 then
                        some ((μ187.1 21 (b187).toNatClampNeg), μ187)
                      else none)) pb_F (0 : Int32) (pb_sA μ103 21 (upd (μ103.1 21) (b103).toNatClampNeg ((μ103.1 21 (b103).toNatClampNeg) - v3)))
                  else none
                else none)
              else none
            else none
          else none
        else none)
      else
      some ((-3 : Int32), μ45)
    else none
  else none))))
abbrev wX7_pay (l : Launch) (E : pb_E) := pb_RW l E { frames := 2, cells := 0, slots := 0, locals := 46 } RX7 cX7_pay 5 (some .int) (fun _ => True) 0 0 (pb_Qf E (fun z : Int32 => some (.int z)))
set_option maxRecDepth 100000 in
set_option maxHeartbeats 4000000 in
theorem tX7_pay_L114 (l : Launch) (E : pb_E) (v1 : Int32) (v2 : Int32) {K180 : pb_M → Option (Int32 × pb_M)} (hK180 : ∀  (μ : pb_M), wX7_pay l E 180 [some (.ref (E.2.1 19)), some (.int v1), some (.int v2), none, none] [] μ (K180  μ)) : ∀ (n : Nat) (v4 : Int32) (μ : pb_M), wX7_pay l E 114 [some (.ref (E.2.1 19)), some (.int v1), some (.int v2), none, some (.int v4)] [] μ (pX7_pay_L114 v1 v2 K180 n v4 μ) := by
  intro n
  induction n with
  | zero => intro v4 μ; exact pb_none
  | succ n ih =>
    intro v4 μ
    rw [pX7_pay_L114]
    refine pb_iload 116 dX7_pay_114 rfl rfl ?_
    refine pb_aload_n 117 dX7_pay_116 rfl rfl rfl ?_
    refine pb_getI 120 (j := 1) in_X7 rfl (by decide) rfl rfl (by decide) fl_X7_94 dX7_pay_117 rfl ?_
    refine pb_icmp_ge 123 (tgt := 180) dX7_pay_120 (by decide) rfl (fun _ => ?_) (fun _ => ?_)
    · refine pb_weakM (L' := [some (.ref (E.2.1 19)), some (.int v1), some (.int v2), none, none]) [true, true, true, false, false] rfl ?_
      exact hK180 μ
    · refine pb_aload_n 124 dX7_pay_123 rfl rfl rfl ?_
      refine pb_getR 127 (j := 3) (d := 21) in_X7 rfl (by decide) rfl rfl (by decide) fl_X7_13 dX7_pay_124 rfl ?_
      refine pb_iconst 128 (v := 0) dX7_pay_127 rfl (by decide) ?_
      refine pb_iload_n 129 dX7_pay_128 rfl rfl rfl ?_
      refine pb_iload_n 130 dX7_pay_129 rfl rfl rfl ?_
      refine cl_X7_debt 133 ⟨by decide, by decide, by decide, by decide⟩ (Nat.le_of_ble_eq_true rfl) ml_X7_104 dX7_pay_130 rfl (fun b130 μ130 => ?_)
      refine pb_guard (fun hin => pb_iald 134 rfl hin rfl dX7_pay_133 rfl ?_)
      refine pb_if_ne 137 (tgt := 174) dX7_pay_134 (by decide) rfl (fun _ => ?_) (fun _ => ?_)
      · refine pb_aload_n 138 dX7_pay_137 rfl rfl rfl ?_
        refine pb_getR 141 (j := 3) (d := 21) in_X7 rfl (by decide) rfl rfl (by decide) fl_X7_13 dX7_pay_138 rfl ?_
        refine pb_bipush 143 (v := 8) dX7_pay_141 rfl (by decide) ?_
        refine pb_iload 145 dX7_pay_143 rfl rfl ?_
        refine pb_iadd 146 dX7_pay_145 rfl ?_
        refine pb_guard (fun hin => pb_iald 147 rfl hin rfl dX7_pay_146 rfl ?_)
        refine pb_iload_n 148 dX7_pay_147 rfl rfl rfl ?_
        refine pb_icmp_ne 151 (tgt := 174) dX7_pay_148 (by decide) rfl (fun _ => ?_) (fun _ => ?_)
        · refine pb_aload_n 152 dX7_pay_151 rfl rfl rfl ?_
          refine pb_getR 155 (j := 3) (d := 21) in_X7 rfl (by decide) rfl rfl (by decide) fl_X7_13 dX7_pay_152 rfl ?_
          refine pb_bipush 157 (v := 18) dX7_pay_155 rfl (by decide) ?_
          refine pb_iload 159 dX7_pay_157 rfl rfl ?_
          refine pb_iadd 160 dX7_pay_159 rfl ?_
          refine pb_guard (fun hin => pb_iald 161 rfl hin rfl dX7_pay_160 rfl ?_)
          refine pb_iload_n 162 dX7_pay_161 rfl rfl rfl ?_
          refine pb_icmp_ne 165 (tgt := 174) dX7_pay_162 (by decide) rfl (fun _ => ?_) (fun _ => ?_)
          · refine pb_aload_n 166 dX7_pay_165 rfl rfl rfl ?_
            refine pb_iconst 167 (v := 0) dX7_pay_166 rfl (by decide) ?_
            refine pb_iload 169 dX7_pay_167 rfl rfl ?_
            refine pb_bipush 171 (v := -9) dX7_pay_169 rfl (by decide) ?_
            refine cl_X7_shutOn 174 ⟨by decide, by decide, by decide, by decide⟩ (Nat.le_of_ble_eq_true rfl) ml_X7_114 dX7_pay_171 rfl (fun b171 μ171 => ?_)
            refine pb_iinc 177 (i := 4) (v := (v4 + (1 : Int32))) (L' := [some (.ref (E.2.1 19)), some (.int v1), some (.int v2), none, some (.int (v4 + (1 : Int32)))]) dX7_pay_174 rfl rfl (by decide) rfl rfl rfl ?_
            refine pb_goto (tgt := 114) dX7_pay_177 (by decide) ?_
            exact ih (v4 + (1 : Int32)) μ171
          · refine pb_iinc 177 (i := 4) (v := (v4 + (1 : Int32))) (L' := [some (.ref (E.2.1 19)), some (.int v1), some (.int v2), none, some (.int (v4 + (1 : Int32)))]) dX7_pay_174 rfl rfl (by decide) rfl rfl rfl ?_
            refine pb_goto (tgt := 114) dX7_pay_177 (by decide) ?_
            exact ih (v4 + (1 : Int32)) μ130
        · refine pb_iinc 177 (i := 4) (v := (v4 + (1 : Int32))) (L' := [some (.ref (E.2.1 19)), some (.int v1), some (.int v2), none, some (.int (v4 + (1 : Int32)))]) dX7_pay_174 rfl rfl (by decide) rfl rfl rfl ?_
          refine pb_goto (tgt := 114) dX7_pay_177 (by decide) ?_
          exact ih (v4 + (1 : Int32)) μ130
      · refine pb_iinc 177 (i := 4) (v := (v4 + (1 : Int32))) (L' := [some (.ref (E.2.1 19)), some (.int v1), some (.int v2), none, some (.int (v4 + (1 : Int32)))]) dX7_pay_174 rfl rfl (by decide) rfl rfl rfl ?_
        refine pb_goto (tgt := 114) dX7_pay_177 (by decide) ?_
        exact ih (v4 + (1 : Int32)) μ130
set_option maxRecDepth 100000 in
set_option maxHeartbeats 4000000 in
theorem evX7_pay (l : Launch) (E : pb_E) (v1 : Int32) (v2 : Int32) (v3 : Int32)  (μ : pb_M) : ∀ b μ', pX7_pay v1 v2 v3 μ = some (b, μ') → pb_Ev l E yX7_pay cX7_pay 5 (some .int) { frames := 2, cells := 0, slots := 0, locals := 46 } [.ref (E.2.1 19), .int v1, .int v2, .int v3] μ ((fun z : Int32 => some (.int z)) b) μ' := by
  refine pb_enter (L := [some (.ref (E.2.1 19)), some (.int v1), some (.int v2), some (.int v3), none]) (by decide +kernel) (Nat.le_of_ble_eq_true rfl) (pb_same [none, none, none, none, none] rfl) (show wX7_pay l E 0 [some (.ref (E.2.1 19)), some (.int v1), some (.int v2), some (.int v3), none] [] μ (pX7_pay v1 v2 v3 μ) from ?_)
  unfold pX7_pay
  refine pb_aload_n 1 dX7_pay_0 rfl rfl rfl ?_
  refine pb_iload_n 2 dX7_pay_1 rfl rfl rfl ?_
  refine cl_X7_isPerson 5 ⟨by decide, by decide, by decide, by decide⟩ (Nat.le_of_ble_eq_true rfl) ml_X7_100 dX7_pay_2 rfl (fun b2 μ2 => ?_)
  refine pb_if_eq 8 (tgt := 16) dX7_pay_5 (by decide) rfl (fun _ => ?_) (fun _ => ?_)
  · refine pb_iconst 17 (v := -1) dX7_pay_16 rfl (by decide) ?_
    exact pb_iret dX7_pay_17
  · refine pb_aload_n 9 dX7_pay_8 rfl rfl rfl ?_
    refine pb_iload_n 10 dX7_pay_9 rfl rfl rfl ?_
    refine cl_X7_isPerson 13 ⟨by decide, by decide, by decide, by decide⟩ (Nat.le_of_ble_eq_true rfl) ml_X7_100 dX7_pay_10 rfl (fun b10 μ10 => ?_)
    refine pb_if_ne 16 (tgt := 18) dX7_pay_13 (by decide) rfl (fun _ => ?_) (fun _ => ?_)
    · refine pb_iconst 17 (v := -1) dX7_pay_16 rfl (by decide) ?_
      exact pb_iret dX7_pay_17
    · refine pb_iload_n 19 dX7_pay_18 rfl rfl rfl ?_
      refine pb_iload_n 20 dX7_pay_19 rfl rfl rfl ?_
      refine pb_icmp_eq 23 (tgt := 35) dX7_pay_20 (by decide) rfl (fun _ => ?_) (fun _ => ?_)
      · refine pb_bipush 37 (v := -2) dX7_pay_35 rfl (by decide) ?_
        exact pb_iret dX7_pay_37
      · refine pb_iload_n 24 dX7_pay_23 rfl rfl rfl ?_
        refine pb_i2l 25 dX7_pay_24 rfl ?_
        refine pb_lconst 26 (v := 1) dX7_pay_25 rfl (by decide) ?_
        refine pb_ldc2 29 kc_X7_60 dX7_pay_26 rfl ?_
        refine cl_X7_in 32 ⟨by decide, by decide, by decide, by decide⟩ (Nat.le_of_ble_eq_true rfl) ml_X7_47 dX7_pay_29 rfl (fun b29 μ29 => ?_)
        refine pb_if_ne 35 (tgt := 38) dX7_pay_32 (by decide) rfl (fun _ => ?_) (fun _ => ?_)
        · refine pb_bipush 37 (v := -2) dX7_pay_35 rfl (by decide) ?_
          exact pb_iret dX7_pay_37
        · refine pb_aload_n 39 dX7_pay_38 rfl rfl rfl ?_
          refine pb_getR 42 (j := 3) (d := 21) in_X7 rfl (by decide) rfl rfl (by decide) fl_X7_13 dX7_pay_39 rfl ?_
          refine pb_iconst 43 (v := 0) dX7_pay_42 rfl (by decide) ?_
          refine pb_iload_n 44 dX7_pay_43 rfl rfl rfl ?_
          refine pb_iload_n 45 dX7_pay_44 rfl rfl rfl ?_
          refine cl_X7_debt 48 ⟨by decide, by decide, by decide, by decide⟩ (Nat.le_of_ble_eq_true rfl) ml_X7_104 dX7_pay_45 rfl (fun b45 μ45 => ?_)
          refine pb_guard (fun hin => pb_iald 49 rfl hin rfl dX7_pay_48 rfl ?_)
          refine pb_iload_n 50 dX7_pay_49 rfl rfl rfl ?_
          refine pb_icmp_lt 53 (tgt := 65) dX7_pay_50 (by decide) rfl (fun _ => ?_) (fun _ => ?_)
          · refine pb_bipush 67 (v := -3) dX7_pay_65 rfl (by decide) ?_
            exact pb_iret dX7_pay_67
          · refine pb_aload_n 54 dX7_pay_53 rfl rfl rfl ?_
            refine pb_getR 57 (j := 3) (d := 21) in_X7 rfl (by decide) rfl rfl (by decide) fl_X7_13 dX7_pay_54 rfl ?_
            refine pb_iconst 58 (v := 4) dX7_pay_57 rfl (by decide) ?_
            refine pb_iload_n 59 dX7_pay_58 rfl rfl rfl ?_
            refine pb_iadd 60 dX7_pay_59 rfl ?_
            refine pb_guard (fun hin => pb_iald 61 rfl hin rfl dX7_pay_60 rfl ?_)
            refine pb_iload_n 62 dX7_pay_61 rfl rfl rfl ?_
            refine pb_icmp_ge 65 (tgt := 68) dX7_pay_62 (by decide) rfl (fun _ => ?_) (fun _ => ?_)
            · refine pb_aload_n 69 dX7_pay_68 rfl rfl rfl ?_
              refine cl_X7_keepAct 72 ⟨by decide, by decide, by decide, by decide⟩ (Nat.le_of_ble_eq_true rfl) ml_X7_132 dX7_pay_69 rfl (fun b69 μ69 => ?_)
              refine pb_aload_n 73 dX7_pay_72 rfl rfl rfl ?_
              refine pb_getR 76 (j := 3) (d := 21) in_X7 rfl (by decide) rfl rfl (by decide) fl_X7_13 dX7_pay_73 rfl ?_
              refine pb_iconst 77 (v := 4) dX7_pay_76 rfl (by decide) ?_
              refine pb_iload_n 78 dX7_pay_77 rfl rfl rfl ?_
              refine pb_iadd 79 dX7_pay_78 rfl ?_
              refine pb_dup2 80 dX7_pay_79 rfl rfl rfl ?_
              refine pb_guard (fun hin => pb_iald 81 rfl hin rfl dX7_pay_80 rfl ?_)
              refine pb_iload_n 82 dX7_pay_81 rfl rfl rfl ?_
              refine pb_isub 83 dX7_pay_82 rfl ?_
              refine pb_guard (fun hin => pb_iast 84 rfl hin rfl dX7_pay_83 rfl ?_)
              refine pb_aload_n 85 dX7_pay_84 rfl rfl rfl ?_
              refine pb_getR 88 (j := 3) (d := 21) in_X7 rfl (by decide) rfl rfl (by decide) fl_X7_13 dX7_pay_85 rfl ?_
              refine pb_iconst 89 (v := 4) dX7_pay_88 rfl (by decide) ?_
              refine pb_iload_n 90 dX7_pay_89 rfl rfl rfl ?_
              refine pb_iadd 91 dX7_pay_90 rfl ?_
              refine pb_dup2 92 dX7_pay_91 rfl rfl rfl ?_
              refine pb_guard (fun hin => pb_iald 93 rfl hin rfl dX7_pay_92 rfl ?_)
              refine pb_iload_n 94 dX7_pay_93 rfl rfl rfl ?_
              refine pb_iadd 95 dX7_pay_94 rfl ?_
              refine pb_guard (fun hin => pb_iast 96 rfl hin rfl dX7_pay_95 rfl ?_)
              refine pb_aload_n 97 dX7_pay_96 rfl rfl rfl ?_
              refine pb_getR 100 (j := 3) (d := 21) in_X7 rfl (by decide) rfl rfl (by decide) fl_X7_13 dX7_pay_97 rfl ?_
              refine pb_iconst 101 (v := 0) dX7_pay_100 rfl (by decide) ?_
              refine pb_iload_n 102 dX7_pay_101 rfl rfl rfl ?_
              refine pb_iload_n 103 dX7_pay_102 rfl rfl rfl ?_
              refine cl_X7_debt 106 ⟨by decide, by decide, by decide, by decide⟩ (Nat.le_of_ble_eq_true rfl) ml_X7_104 dX7_pay_103 rfl (fun b103 μ103 => ?_)
              refine pb_dup2 107 dX7_pay_106 rfl rfl rfl ?_
              refine pb_guard (fun hin => pb_iald 108 rfl hin rfl dX7_pay_107 rfl ?_)
              refine pb_iload_n 109 dX7_pay_108 rfl rfl rfl ?_
              refine pb_isub 110 dX7_pay_109 rfl ?_
              refine pb_guard (fun hin => pb_iast 111 rfl hin rfl dX7_pay_110 rfl ?_)
              refine pb_iconst 112 (v := 0) dX7_pay_111 rfl (by decide) ?_
              refine pb_istore 114 (i := 4) (L' := [some (.ref (E.2.1 19)), some (.int v1), some (.int v2), some (.int v3), some (.int (0 : Int32))]) dX7_pay_112 (by decide) rfl rfl rfl ?_
              refine pb_weakM (L' := [some (.ref (E.2.1 19)), some (.int v1), some (.int v2), none, some (.int (0 : Int32))]) [true, true, true, false, true] rfl ?_
              refine tX7_pay_L114 l E v1 v2 (fun μk180 => ?_) pb_F (0 : Int32) (pb_sA μ103 21 (upd (μ103.1 21) (b103).toNatClampNeg ((μ103.1 21 (b103).toNatClampNeg) - v3)))
              refine pb_aload_n 181 dX7_pay_180 rfl rfl rfl ?_
              refine pb_getR 184 (j := 3) (d := 21) in_X7 rfl (by decide) rfl rfl (by decide) fl_X7_13 dX7_pay_181 rfl ?_
              refine pb_iconst 185 (v := 0) dX7_pay_184 rfl (by decide) ?_
              refine pb_iload_n 186 dX7_pay_185 rfl rfl rfl ?_
              refine pb_iload_n 187 dX7_pay_186 rfl rfl rfl ?_
              refine cl_X7_debt 190 ⟨by decide, by decide, by decide, by decide⟩ (Nat.le_of_ble_eq_true rfl) ml_X7_104 dX7_pay_187 rfl (fun b187 μ187 => ?_)
              refine pb_guard (fun hin => pb_iald 191 rfl hin rfl dX7_pay_190 rfl ?_)
              exact pb_iret dX7_pay_191
            · refine pb_bipush 67 (v := -3) dX7_pay_65 rfl (by decide) ?_
              exact pb_iret dX7_pay_67
theorem mc_X7_pay : pb_MC yX7_pay cX7_pay 5 (some .int) 3 := ⟨pb_inW 969 (by decide +kernel) (by decide +kernel), pb_inW 68 (by decide +kernel) (by decide +kernel), by decide +kernel, by decide +kernel, by decide +kernel⟩
theorem mi_X7_pay : Cond.instanceMethod yX7_pay ∈ pb_gw := pb_inW 967 (by decide +kernel) (by decide +kernel)
theorem ms_X7_pay : Cond.selects (yX7_pay).cls yX7_pay yX7_pay ∈ pb_gw := pb_inW 968 (by decide +kernel) (by decide +kernel)
theorem cl_X7_pay {α : Type} {l : Launch} {E : pb_E} {R : Room} {own : String} {cc : ByteArray} {mL : Nat} {ret : Option FieldType} {Xs : State → Prop} {nc ns : Nat} {Qf : State → Array Value → List Frame → α → pb_M → State → Prop} {pc : Nat} {L : List (Option Value)} {S : List Value} {μ : pb_M} {f : Int32 → pb_M → Option (α × pb_M)} {v1 : Int32} {v2 : Int32} {v3 : Int32} {index : Nat} (q : Nat)  (hR : 2 + 1 ≤ R.frames ∧ 8 + (5 + 11) + 46 ≤ R.locals ∧ nc ≤ R.cells ∧ ns ≤ R.slots) (hW : (S.map fun v => v.category).sum ≤ 8) (hl1 : Cond.methodLink own index yX7_pay ∈ pb_gw) (hdg : decode cc pc = .ok (.invokevirtual index, 3)) (hq : pc + 3 = q) (k : ∀ b1 μ1, pb_RW l E R own cc mL ret Xs nc ns Qf q L (.int b1 :: S) μ1 (f b1 μ1)) : pb_RW l E R own cc mL ret Xs nc ns Qf pc L (.int v3 :: .int v2 :: .int v1 :: .ref (E.2.1 19) :: S) μ (pb_b (pX7_pay v1 v2 v3 μ) f) := pb_callV q (fun z : Int32 => some (.int z)) mc_X7_pay mi_X7_pay ms_X7_pay (fun b1 μ1 h => evX7_pay l E v1 v2 v3  μ b1 μ1 h) rfl (by decide) rfl rfl rfl rfl hR rfl hW hl1 hdg hq k
theorem ml_X7_144 : Cond.methodLink RX7 144 yX7_breakOn ∈ pb_gw := pb_inW 974 (by decide +kernel) (by decide +kernel)
def pX7_breakOut (v1 : Int32) (μ : pb_M) : Option (Int32 × pb_M) :=
  pb_b (pX7_isBeast v1 μ) (fun b2 μ2 =>
  if b2 = (0 : Int32) then
    some ((-1 : Int32), μ2)
  else
  pb_b (pX7_isIn (0 : Int32) v1 μ2) (fun b13 μ13 =>
  if b13 = (0 : Int32) then
    some ((-3 : Int32), μ13)
  else
  pb_b (pX7_keepAct μ13) (fun b23 μ23 =>
  if pb_in ((18 : Int32) + v1) 90 then
    pb_b (pX7_breakOn (0 : Int32) v1 μ23) (fun b39 μ39 =>
    some ((μ23.1 21 (((18 : Int32) + v1)).toNatClampNeg), μ39))
  else none)))
abbrev wX7_breakOut (l : Launch) (E : pb_E) := pb_RW l E { frames := 3, cells := 0, slots := 0, locals := 69 } RX7 cX7_breakOut 3 (some .int) (fun _ => True) 0 0 (pb_Qf E (fun z : Int32 => some (.int z)))
set_option maxRecDepth 100000 in
set_option maxHeartbeats 4000000 in
theorem evX7_breakOut (l : Launch) (E : pb_E) (v1 : Int32)  (μ : pb_M) : ∀ b μ', pX7_breakOut v1 μ = some (b, μ') → pb_Ev l E yX7_breakOut cX7_breakOut 3 (some .int) { frames := 3, cells := 0, slots := 0, locals := 69 } [.ref (E.2.1 19), .int v1] μ ((fun z : Int32 => some (.int z)) b) μ' := by
  refine pb_enter (L := [some (.ref (E.2.1 19)), some (.int v1), none]) (by decide +kernel) (Nat.le_of_ble_eq_true rfl) (pb_same [none, none, none] rfl) (show wX7_breakOut l E 0 [some (.ref (E.2.1 19)), some (.int v1), none] [] μ (pX7_breakOut v1 μ) from ?_)
  unfold pX7_breakOut
  refine pb_aload_n 1 dX7_breakOut_0 rfl rfl rfl ?_
  refine pb_iload_n 2 dX7_breakOut_1 rfl rfl rfl ?_
  refine cl_X7_isBeast 5 ⟨by decide, by decide, by decide, by decide⟩ (Nat.le_of_ble_eq_true rfl) ml_X7_108 dX7_breakOut_2 rfl (fun b2 μ2 => ?_)
  refine pb_if_ne 8 (tgt := 10) dX7_breakOut_5 (by decide) rfl (fun _ => ?_) (fun _ => ?_)
  · refine pb_iconst 9 (v := -1) dX7_breakOut_8 rfl (by decide) ?_
    exact pb_iret dX7_breakOut_9
  · refine pb_aload_n 11 dX7_breakOut_10 rfl rfl rfl ?_
    refine pb_iconst 12 (v := 0) dX7_breakOut_11 rfl (by decide) ?_
    refine pb_iload_n 13 dX7_breakOut_12 rfl rfl rfl ?_
    refine cl_X7_isIn 16 ⟨by decide, by decide, by decide, by decide⟩ (Nat.le_of_ble_eq_true rfl) ml_X7_111 dX7_breakOut_13 rfl (fun b13 μ13 => ?_)
    refine pb_if_ne 19 (tgt := 22) dX7_breakOut_16 (by decide) rfl (fun _ => ?_) (fun _ => ?_)
    · refine pb_bipush 21 (v := -3) dX7_breakOut_19 rfl (by decide) ?_
      exact pb_iret dX7_breakOut_21
    · refine pb_aload_n 23 dX7_breakOut_22 rfl rfl rfl ?_
      refine cl_X7_keepAct 26 ⟨by decide, by decide, by decide, by decide⟩ (Nat.le_of_ble_eq_true rfl) ml_X7_132 dX7_breakOut_23 rfl (fun b23 μ23 => ?_)
      refine pb_aload_n 27 dX7_breakOut_26 rfl rfl rfl ?_
      refine pb_getR 30 (j := 3) (d := 21) in_X7 rfl (by decide) rfl rfl (by decide) fl_X7_13 dX7_breakOut_27 rfl ?_
      refine pb_bipush 32 (v := 18) dX7_breakOut_30 rfl (by decide) ?_
      refine pb_iload_n 33 dX7_breakOut_32 rfl rfl rfl ?_
      refine pb_iadd 34 dX7_breakOut_33 rfl ?_
      refine pb_guard (fun hin => pb_iald 35 rfl hin rfl dX7_breakOut_34 rfl ?_)
      refine pb_istore_n 36 (i := 2) (L' := [some (.ref (E.2.1 19)), some (.int v1), some (.int (μ23.1 21 (((18 : Int32) + v1)).toNatClampNeg))]) dX7_breakOut_35 rfl (by decide) rfl rfl rfl ?_
      refine pb_aload_n 37 dX7_breakOut_36 rfl rfl rfl ?_
      refine pb_iconst 38 (v := 0) dX7_breakOut_37 rfl (by decide) ?_
      refine pb_iload_n 39 dX7_breakOut_38 rfl rfl rfl ?_
      refine cl_X7_breakOn 42 ⟨by decide, by decide, by decide, by decide⟩ (Nat.le_of_ble_eq_true rfl) ml_X7_144 dX7_breakOut_39 rfl (fun b39 μ39 => ?_)
      refine pb_iload_n 43 dX7_breakOut_42 rfl rfl rfl ?_
      exact pb_iret dX7_breakOut_43
theorem mc_X7_breakOut : pb_MC yX7_breakOut cX7_breakOut 3 (some .int) 1 := ⟨pb_inW 973 (by decide +kernel) (by decide +kernel), pb_inW 68 (by decide +kernel) (by decide +kernel), by decide +kernel, by decide +kernel, by decide +kernel⟩
theorem mi_X7_breakOut : Cond.instanceMethod yX7_breakOut ∈ pb_gw := pb_inW 971 (by decide +kernel) (by decide +kernel)
theorem ms_X7_breakOut : Cond.selects (yX7_breakOut).cls yX7_breakOut yX7_breakOut ∈ pb_gw := pb_inW 972 (by decide +kernel) (by decide +kernel)
theorem cl_X7_breakOut {α : Type} {l : Launch} {E : pb_E} {R : Room} {own : String} {cc : ByteArray} {mL : Nat} {ret : Option FieldType} {Xs : State → Prop} {nc ns : Nat} {Qf : State → Array Value → List Frame → α → pb_M → State → Prop} {pc : Nat} {L : List (Option Value)} {S : List Value} {μ : pb_M} {f : Int32 → pb_M → Option (α × pb_M)} {v1 : Int32} {index : Nat} (q : Nat)  (hR : 3 + 1 ≤ R.frames ∧ 8 + (3 + 11) + 69 ≤ R.locals ∧ nc ≤ R.cells ∧ ns ≤ R.slots) (hW : (S.map fun v => v.category).sum ≤ 8) (hl1 : Cond.methodLink own index yX7_breakOut ∈ pb_gw) (hdg : decode cc pc = .ok (.invokevirtual index, 3)) (hq : pc + 3 = q) (k : ∀ b1 μ1, pb_RW l E R own cc mL ret Xs nc ns Qf q L (.int b1 :: S) μ1 (f b1 μ1)) : pb_RW l E R own cc mL ret Xs nc ns Qf pc L (.int v1 :: .ref (E.2.1 19) :: S) μ (pb_b (pX7_breakOut v1 μ) f) := pb_callV q (fun z : Int32 => some (.int z)) mc_X7_breakOut mi_X7_breakOut ms_X7_breakOut (fun b1 μ1 h => evX7_breakOut l E v1  μ b1 μ1 h) rfl (by decide) rfl rfl rfl rfl hR rfl hW hl1 hdg hq k
theorem ml_X7_147 : Cond.methodLink RX7 147 yX7_canKeep ∈ pb_gw := pb_inW 982 (by decide +kernel) (by decide +kernel)
theorem ml_X7_150 : Cond.methodLink RX7 150 yX7_keepOn ∈ pb_gw := pb_inW 986 (by decide +kernel) (by decide +kernel)
def pX7_forfeit (v1 : Int32) (μ : pb_M) : Option (Int32 × pb_M) :=
  pb_b (pX7_isBeast v1 μ) (fun b2 μ2 =>
  if b2 = (0 : Int32) then
    some ((-1 : Int32), μ2)
  else
  pb_b (pX7_canKeep (0 : Int32) v1 μ2) (fun b13 μ13 =>
  if b13 = (0 : Int32) then
    some ((-3 : Int32), μ13)
  else
  pb_b (pX7_keepAct μ13) (fun b23 μ23 =>
  if pb_in ((8 : Int32) + v1) 90 then
    pb_b (pX7_keepOn (0 : Int32) v1 μ23) (fun b39 μ39 =>
    some ((μ23.1 21 (((8 : Int32) + v1)).toNatClampNeg), μ39))
  else none)))
abbrev wX7_forfeit (l : Launch) (E : pb_E) := pb_RW l E { frames := 3, cells := 0, slots := 0, locals := 71 } RX7 cX7_forfeit 3 (some .int) (fun _ => True) 0 0 (pb_Qf E (fun z : Int32 => some (.int z)))
set_option maxRecDepth 100000 in
set_option maxHeartbeats 4000000 in
theorem evX7_forfeit (l : Launch) (E : pb_E) (v1 : Int32)  (μ : pb_M) : ∀ b μ', pX7_forfeit v1 μ = some (b, μ') → pb_Ev l E yX7_forfeit cX7_forfeit 3 (some .int) { frames := 3, cells := 0, slots := 0, locals := 71 } [.ref (E.2.1 19), .int v1] μ ((fun z : Int32 => some (.int z)) b) μ' := by
  refine pb_enter (L := [some (.ref (E.2.1 19)), some (.int v1), none]) (by decide +kernel) (Nat.le_of_ble_eq_true rfl) (pb_same [none, none, none] rfl) (show wX7_forfeit l E 0 [some (.ref (E.2.1 19)), some (.int v1), none] [] μ (pX7_forfeit v1 μ) from ?_)
  unfold pX7_forfeit
  refine pb_aload_n 1 dX7_forfeit_0 rfl rfl rfl ?_
  refine pb_iload_n 2 dX7_forfeit_1 rfl rfl rfl ?_
  refine cl_X7_isBeast 5 ⟨by decide, by decide, by decide, by decide⟩ (Nat.le_of_ble_eq_true rfl) ml_X7_108 dX7_forfeit_2 rfl (fun b2 μ2 => ?_)
  refine pb_if_ne 8 (tgt := 10) dX7_forfeit_5 (by decide) rfl (fun _ => ?_) (fun _ => ?_)
  · refine pb_iconst 9 (v := -1) dX7_forfeit_8 rfl (by decide) ?_
    exact pb_iret dX7_forfeit_9
  · refine pb_aload_n 11 dX7_forfeit_10 rfl rfl rfl ?_
    refine pb_iconst 12 (v := 0) dX7_forfeit_11 rfl (by decide) ?_
    refine pb_iload_n 13 dX7_forfeit_12 rfl rfl rfl ?_
    refine cl_X7_canKeep 16 ⟨by decide, by decide, by decide, by decide⟩ (Nat.le_of_ble_eq_true rfl) ml_X7_147 dX7_forfeit_13 rfl (fun b13 μ13 => ?_)
    refine pb_if_ne 19 (tgt := 22) dX7_forfeit_16 (by decide) rfl (fun _ => ?_) (fun _ => ?_)
    · refine pb_bipush 21 (v := -3) dX7_forfeit_19 rfl (by decide) ?_
      exact pb_iret dX7_forfeit_21
    · refine pb_aload_n 23 dX7_forfeit_22 rfl rfl rfl ?_
      refine cl_X7_keepAct 26 ⟨by decide, by decide, by decide, by decide⟩ (Nat.le_of_ble_eq_true rfl) ml_X7_132 dX7_forfeit_23 rfl (fun b23 μ23 => ?_)
      refine pb_aload_n 27 dX7_forfeit_26 rfl rfl rfl ?_
      refine pb_getR 30 (j := 3) (d := 21) in_X7 rfl (by decide) rfl rfl (by decide) fl_X7_13 dX7_forfeit_27 rfl ?_
      refine pb_bipush 32 (v := 8) dX7_forfeit_30 rfl (by decide) ?_
      refine pb_iload_n 33 dX7_forfeit_32 rfl rfl rfl ?_
      refine pb_iadd 34 dX7_forfeit_33 rfl ?_
      refine pb_guard (fun hin => pb_iald 35 rfl hin rfl dX7_forfeit_34 rfl ?_)
      refine pb_istore_n 36 (i := 2) (L' := [some (.ref (E.2.1 19)), some (.int v1), some (.int (μ23.1 21 (((8 : Int32) + v1)).toNatClampNeg))]) dX7_forfeit_35 rfl (by decide) rfl rfl rfl ?_
      refine pb_aload_n 37 dX7_forfeit_36 rfl rfl rfl ?_
      refine pb_iconst 38 (v := 0) dX7_forfeit_37 rfl (by decide) ?_
      refine pb_iload_n 39 dX7_forfeit_38 rfl rfl rfl ?_
      refine cl_X7_keepOn 42 ⟨by decide, by decide, by decide, by decide⟩ (Nat.le_of_ble_eq_true rfl) ml_X7_150 dX7_forfeit_39 rfl (fun b39 μ39 => ?_)
      refine pb_iload_n 43 dX7_forfeit_42 rfl rfl rfl ?_
      exact pb_iret dX7_forfeit_43
theorem mc_X7_forfeit : pb_MC yX7_forfeit cX7_forfeit 3 (some .int) 1 := ⟨pb_inW 981 (by decide +kernel) (by decide +kernel), pb_inW 68 (by decide +kernel) (by decide +kernel), by decide +kernel, by decide +kernel, by decide +kernel⟩
theorem mi_X7_forfeit : Cond.instanceMethod yX7_forfeit ∈ pb_gw := pb_inW 979 (by decide +kernel) (by decide +kernel)
theorem ms_X7_forfeit : Cond.selects (yX7_forfeit).cls yX7_forfeit yX7_forfeit ∈ pb_gw := pb_inW 980 (by decide +kernel) (by decide +kernel)
theorem cl_X7_forfeit {α : Type} {l : Launch} {E : pb_E} {R : Room} {own : String} {cc : ByteArray} {mL : Nat} {ret : Option FieldType} {Xs : State → Prop} {nc ns : Nat} {Qf : State → Array Value → List Frame → α → pb_M → State → Prop} {pc : Nat} {L : List (Option Value)} {S : List Value} {μ : pb_M} {f : Int32 → pb_M → Option (α × pb_M)} {v1 : Int32} {index : Nat} (q : Nat)  (hR : 3 + 1 ≤ R.frames ∧ 8 + (3 + 11) + 71 ≤ R.locals ∧ nc ≤ R.cells ∧ ns ≤ R.slots) (hW : (S.map fun v => v.category).sum ≤ 8) (hl1 : Cond.methodLink own index yX7_forfeit ∈ pb_gw) (hdg : decode cc pc = .ok (.invokevirtual index, 3)) (hq : pc + 3 = q) (k : ∀ b1 μ1, pb_RW l E R own cc mL ret Xs nc ns Qf q L (.int b1 :: S) μ1 (f b1 μ1)) : pb_RW l E R own cc mL ret Xs nc ns Qf pc L (.int v1 :: .ref (E.2.1 19) :: S) μ (pb_b (pX7_forfeit v1 μ) f) := pb_callV q (fun z : Int32 => some (.int z)) mc_X7_forfeit mi_X7_forfeit ms_X7_forfeit (fun b1 μ1 h => evX7_forfeit l E v1  μ b1 μ1 h) rfl (by decide) rfl rfl rfl rfl hR rfl hW hl1 hdg hq k
def pX7_undo_L36  : Nat → Int32 → pb_M → Option (Int32 × pb_M)
  | 0, _, _ => none
  | n + 1, v1, μ =>
    if (45 : Int32) ≤ v1 then
      some ((μ.1 19 12), μ)
    else
    if pb_in (((45 : Int32) * (μ.1 19 13)) + v1) 630 then
      if pb_in v1 90 then
        pX7_undo_L36 n (v1 + (1 : Int32)) (pb_sA μ 21 (upd (μ.1 21) (v1).toNatClampNeg (μ.1 25 ((((45 : Int32) * (μ.1 19 13)) + v1)).toNatClampNeg)))
      else none
    else none
def pX7_undo  (μ : pb_M) : Option (Int32 × pb_M) :=
  if (μ.1 19 12) = (0 : Int32) then
    some ((-3 : Int32), μ)
  else
  pX7_undo_L36 pb_F (0 : Int32) (pb_sA (pb_sA μ 19 (upd (μ.1 19) 12 ((μ.1 19 12) - (1 : Int32)))) 19 (upd ((pb_sA μ 19 (upd (μ.1 19) 12 ((μ.1 19 12) - (1 : Int32)))).1 19) 13 (pb_rem (((pb_sA μ 19 (upd (μ.1 19) 12 ((μ.1 19 12) - (1 : Int32)))).1 19 13) + (13 : Int32)) (14 : Int32))))
abbrev wX7_undo (l : Launch) (E : pb_E) := pb_RW l E { frames := 0, cells := 0, slots := 0, locals := 0 } RX7 cX7_undo 2 (some .int) (fun _ => True) 0 0 (pb_Qf E (fun z : Int32 => some (.int z)))
set_option maxRecDepth 100000 in
set_option maxHeartbeats 4000000 in
theorem tX7_undo_L36 (l : Launch) (E : pb_E)    : ∀ (n : Nat) (v1 : Int32) (μ : pb_M), wX7_undo l E 36 [some (.ref (E.2.1 19)), some (.int v1)] [] μ (pX7_undo_L36 n v1 μ) := by
  intro n
  induction n with
  | zero => intro v1 μ; exact pb_none
  | succ n ih =>
    intro v1 μ
    rw [pX7_undo_L36]
    refine pb_iload_n 37 dX7_undo_36 rfl rfl rfl ?_
    refine pb_bipush 39 (v := 45) dX7_undo_37 rfl (by decide) ?_
    refine pb_icmp_ge 42 (tgt := 68) dX7_undo_39 (by decide) rfl (fun _ => ?_) (fun _ => ?_)
    · refine pb_aload_n 69 dX7_undo_68 rfl rfl rfl ?_
      refine pb_getI 72 (j := 12) in_X7 rfl (by decide) rfl rfl (by decide) fl_X7_97 dX7_undo_69 rfl ?_
      exact pb_iret dX7_undo_72
    · refine pb_aload_n 43 dX7_undo_42 rfl rfl rfl ?_
      refine pb_getR 46 (j := 3) (d := 21) in_X7 rfl (by decide) rfl rfl (by decide) fl_X7_13 dX7_undo_43 rfl ?_
      refine pb_iload_n 47 dX7_undo_46 rfl rfl rfl ?_
      refine pb_aload_n 48 dX7_undo_47 rfl rfl rfl ?_
      refine pb_getR 51 (j := 14) (d := 25) in_X7 rfl (by decide) rfl rfl (by decide) fl_X7_25 dX7_undo_48 rfl ?_
      refine pb_bipush 53 (v := 45) dX7_undo_51 rfl (by decide) ?_
      refine pb_aload_n 54 dX7_undo_53 rfl rfl rfl ?_
      refine pb_getI 57 (j := 13) in_X7 rfl (by decide) rfl rfl (by decide) fl_X7_126 dX7_undo_54 rfl ?_
      refine pb_imul 58 dX7_undo_57 rfl ?_
      refine pb_iload_n 59 dX7_undo_58 rfl rfl rfl ?_
      refine pb_iadd 60 dX7_undo_59 rfl ?_
      refine pb_guard (fun hin => pb_iald 61 rfl hin rfl dX7_undo_60 rfl ?_)
      refine pb_guard (fun hin => pb_iast 62 rfl hin rfl dX7_undo_61 rfl ?_)
      refine pb_iinc 65 (i := 1) (v := (v1 + (1 : Int32))) (L' := [some (.ref (E.2.1 19)), some (.int (v1 + (1 : Int32)))]) dX7_undo_62 rfl rfl (by decide) rfl rfl rfl ?_
      refine pb_goto (tgt := 36) dX7_undo_65 (by decide) ?_
      exact ih (v1 + (1 : Int32)) (pb_sA μ 21 (upd (μ.1 21) (v1).toNatClampNeg (μ.1 25 ((((45 : Int32) * (μ.1 19 13)) + v1)).toNatClampNeg)))
set_option maxRecDepth 100000 in
set_option maxHeartbeats 4000000 in
theorem evX7_undo (l : Launch) (E : pb_E)   (μ : pb_M) : ∀ b μ', pX7_undo  μ = some (b, μ') → pb_Ev l E yX7_undo cX7_undo 2 (some .int) { frames := 0, cells := 0, slots := 0, locals := 0 } [.ref (E.2.1 19)] μ ((fun z : Int32 => some (.int z)) b) μ' := by
  refine pb_enter (L := [some (.ref (E.2.1 19)), none]) (by decide +kernel) (Nat.le_of_ble_eq_true rfl) (pb_same [none, none] rfl) (show wX7_undo l E 0 [some (.ref (E.2.1 19)), none] [] μ (pX7_undo  μ) from ?_)
  unfold pX7_undo
  refine pb_aload_n 1 dX7_undo_0 rfl rfl rfl ?_
  refine pb_getI 4 (j := 12) in_X7 rfl (by decide) rfl rfl (by decide) fl_X7_97 dX7_undo_1 rfl ?_
  refine pb_if_ne 7 (tgt := 10) dX7_undo_4 (by decide) rfl (fun _ => ?_) (fun _ => ?_)
  · refine pb_bipush 9 (v := -3) dX7_undo_7 rfl (by decide) ?_
    exact pb_iret dX7_undo_9
  · refine pb_aload_n 11 dX7_undo_10 rfl rfl rfl ?_
    refine pb_dup 12 dX7_undo_11 rfl rfl ?_
    refine pb_getI 15 (j := 12) in_X7 rfl (by decide) rfl rfl (by decide) fl_X7_97 dX7_undo_12 rfl ?_
    refine pb_iconst 16 (v := 1) dX7_undo_15 rfl (by decide) ?_
    refine pb_isub 17 dX7_undo_16 rfl ?_
    refine pb_putI 20 (j := 12) tyX7 tyX7_ok nmX7 in_X7 rfl (by decide) rfl rfl (by decide) fl_X7_97 rfl (by decide +kernel) dX7_undo_17 rfl ?_
    refine pb_aload_n 21 dX7_undo_20 rfl rfl rfl ?_
    refine pb_aload_n 22 dX7_undo_21 rfl rfl rfl ?_
    refine pb_getI 25 (j := 13) in_X7 rfl (by decide) rfl rfl (by decide) fl_X7_126 dX7_undo_22 rfl ?_
    refine pb_bipush 27 (v := 13) dX7_undo_25 rfl (by decide) ?_
    refine pb_iadd 28 dX7_undo_27 rfl ?_
    refine pb_bipush 30 (v := 14) dX7_undo_28 rfl (by decide) ?_
    refine pb_irem 31 dX7_undo_30 rfl (by decide) ?_
    refine pb_putI 34 (j := 13) tyX7 tyX7_ok nmX7 in_X7 rfl (by decide) rfl rfl (by decide) fl_X7_126 rfl (by decide +kernel) dX7_undo_31 rfl ?_
    refine pb_iconst 35 (v := 0) dX7_undo_34 rfl (by decide) ?_
    refine pb_istore_n 36 (i := 1) (L' := [some (.ref (E.2.1 19)), some (.int (0 : Int32))]) dX7_undo_35 rfl (by decide) rfl rfl rfl ?_
    exact tX7_undo_L36 l E pb_F (0 : Int32) (pb_sA (pb_sA μ 19 (upd (μ.1 19) 12 ((μ.1 19 12) - (1 : Int32)))) 19 (upd ((pb_sA μ 19 (upd (μ.1 19) 12 ((μ.1 19 12) - (1 : Int32)))).1 19) 13 (pb_rem (((pb_sA μ 19 (upd (μ.1 19) 12 ((μ.1 19 12) - (1 : Int32)))).1 19 13) + (13 : Int32)) (14 : Int32))))
theorem mc_X7_undo : pb_MC yX7_undo cX7_undo 2 (some .int) 0 := ⟨pb_inW 993 (by decide +kernel) (by decide +kernel), pb_inW 68 (by decide +kernel) (by decide +kernel), by decide +kernel, by decide +kernel, by decide +kernel⟩
theorem mi_X7_undo : Cond.instanceMethod yX7_undo ∈ pb_gw := pb_inW 991 (by decide +kernel) (by decide +kernel)
theorem ms_X7_undo : Cond.selects (yX7_undo).cls yX7_undo yX7_undo ∈ pb_gw := pb_inW 992 (by decide +kernel) (by decide +kernel)
theorem cl_X7_undo {α : Type} {l : Launch} {E : pb_E} {R : Room} {own : String} {cc : ByteArray} {mL : Nat} {ret : Option FieldType} {Xs : State → Prop} {nc ns : Nat} {Qf : State → Array Value → List Frame → α → pb_M → State → Prop} {pc : Nat} {L : List (Option Value)} {S : List Value} {μ : pb_M} {f : Int32 → pb_M → Option (α × pb_M)}  {index : Nat} (q : Nat)  (hR : 0 + 1 ≤ R.frames ∧ 8 + (2 + 11) + 0 ≤ R.locals ∧ nc ≤ R.cells ∧ ns ≤ R.slots) (hW : (S.map fun v => v.category).sum ≤ 8) (hl1 : Cond.methodLink own index yX7_undo ∈ pb_gw) (hdg : decode cc pc = .ok (.invokevirtual index, 3)) (hq : pc + 3 = q) (k : ∀ b1 μ1, pb_RW l E R own cc mL ret Xs nc ns Qf q L (.int b1 :: S) μ1 (f b1 μ1)) : pb_RW l E R own cc mL ret Xs nc ns Qf pc L (.ref (E.2.1 19) :: S) μ (pb_b (pX7_undo  μ) f) := pb_callV q (fun z : Int32 => some (.int z)) mc_X7_undo mi_X7_undo ms_X7_undo (fun b1 μ1 h => evX7_undo l E   μ b1 μ1 h) rfl (by decide) rfl rfl rfl rfl hR rfl hW hl1 hdg hq k
