theorem ml_X6_131 : Cond.methodLink RX6 131 yX5_debt ∈ pb_gw := pb_inW 399 (by decide +kernel) (by decide +kernel)
def pX6_owes (v1 : Int32) (v2 : Int32) (μ : pb_M) : Option (Int32 × pb_M) :=
  pb_b (pX5_hasPerson 4 v1 μ) (fun b5 μ5 =>
  if b5 = (0 : Int32) then
    some ((-1 : Int32), μ5)
  else
  pb_b (pX5_hasPerson 4 v2 μ5) (fun b16 μ16 =>
  if b16 = (0 : Int32) then
    some ((-1 : Int32), μ16)
  else
  pb_b (pX5_debt 4 v1 v2 μ16) (fun b30 μ30 =>
  some (b30, μ30))))
abbrev wX6_owes (l : Launch) (E : pb_E) := pb_RW l E { frames := 2, cells := 0, slots := 0, locals := 41 } RX6 cX6_owes 3 (some .int) (fun _ => True) 0 0 (pb_Qf E (fun z : Int32 => some (.int z)))
set_option maxRecDepth 100000 in
set_option maxHeartbeats 4000000 in
theorem evX6_owes (l : Launch) (E : pb_E) (v1 : Int32) (v2 : Int32)  (μ : pb_M) : ∀ b μ', pX6_owes v1 v2 μ = some (b, μ') → pb_Ev l E yX6_owes cX6_owes 3 (some .int) { frames := 2, cells := 0, slots := 0, locals := 41 } [.ref (E.2.1 0), .int v1, .int v2] μ ((fun z : Int32 => some (.int z)) b) μ' := by
  refine pb_enter (L := [some (.ref (E.2.1 0)), some (.int v1), some (.int v2)]) (by decide +kernel) (Nat.le_of_ble_eq_true rfl) (pb_same [none, none, none] rfl) (show wX6_owes l E 0 [some (.ref (E.2.1 0)), some (.int v1), some (.int v2)] [] μ (pX6_owes v1 v2 μ) from ?_)
  unfold pX6_owes
  refine pb_aload_n 1 dX6_owes_0 rfl rfl rfl ?_
  refine pb_getR 4 (j := 1) (d := 4) in_X6 rfl (by decide) rfl rfl (by decide) fl_X6_19 dX6_owes_1 rfl ?_
  refine pb_iload_n 5 dX6_owes_4 rfl rfl rfl ?_
  refine cl_X5_hasPerson 8 pb_V4 ⟨by decide, by decide, by decide, by decide⟩ (Nat.le_of_ble_eq_true rfl) ml_X6_91 dX6_owes_5 rfl (fun b5 μ5 => ?_)
  refine pb_if_eq 11 (tgt := 22) dX6_owes_8 (by decide) rfl (fun _ => ?_) (fun _ => ?_)
  · refine pb_iconst 23 (v := -1) dX6_owes_22 rfl (by decide) ?_
    exact pb_iret dX6_owes_23
  · refine pb_aload_n 12 dX6_owes_11 rfl rfl rfl ?_
    refine pb_getR 15 (j := 1) (d := 4) in_X6 rfl (by decide) rfl rfl (by decide) fl_X6_19 dX6_owes_12 rfl ?_
    refine pb_iload_n 16 dX6_owes_15 rfl rfl rfl ?_
    refine cl_X5_hasPerson 19 pb_V4 ⟨by decide, by decide, by decide, by decide⟩ (Nat.le_of_ble_eq_true rfl) ml_X6_91 dX6_owes_16 rfl (fun b16 μ16 => ?_)
    refine pb_if_ne 22 (tgt := 24) dX6_owes_19 (by decide) rfl (fun _ => ?_) (fun _ => ?_)
    · refine pb_iconst 23 (v := -1) dX6_owes_22 rfl (by decide) ?_
      exact pb_iret dX6_owes_23
    · refine pb_aload_n 25 dX6_owes_24 rfl rfl rfl ?_
      refine pb_getR 28 (j := 1) (d := 4) in_X6 rfl (by decide) rfl rfl (by decide) fl_X6_19 dX6_owes_25 rfl ?_
      refine pb_iload_n 29 dX6_owes_28 rfl rfl rfl ?_
      refine pb_iload_n 30 dX6_owes_29 rfl rfl rfl ?_
      refine cl_X5_debt 33 pb_V4 ⟨by decide, by decide, by decide, by decide⟩ (Nat.le_of_ble_eq_true rfl) ml_X6_131 dX6_owes_30 rfl (fun b30 μ30 => ?_)
      exact pb_iret dX6_owes_33
theorem mc_X6_owes : pb_MC yX6_owes cX6_owes 3 (some .int) 2 := ⟨pb_inW 398 (by decide +kernel) (by decide +kernel), pb_inW 61 (by decide +kernel) (by decide +kernel), by decide +kernel, by decide +kernel, by decide +kernel⟩
theorem mi_X6_owes : Cond.instanceMethod yX6_owes ∈ pb_gw := pb_inW 396 (by decide +kernel) (by decide +kernel)
theorem ms_X6_owes : Cond.selects (yX6_owes).cls yX6_owes yX6_owes ∈ pb_gw := pb_inW 397 (by decide +kernel) (by decide +kernel)
theorem cl_X6_owes {α : Type} {l : Launch} {E : pb_E} {R : Room} {own : String} {cc : ByteArray} {mL : Nat} {ret : Option FieldType} {Xs : State → Prop} {nc ns : Nat} {Qf : State → Array Value → List Frame → α → pb_M → State → Prop} {pc : Nat} {L : List (Option Value)} {S : List Value} {μ : pb_M} {f : Int32 → pb_M → Option (α × pb_M)} {v1 : Int32} {v2 : Int32} {index : Nat} (q : Nat)  (hR : 2 + 1 ≤ R.frames ∧ 8 + (3 + 11) + 41 ≤ R.locals ∧ nc ≤ R.cells ∧ ns ≤ R.slots) (hW : (S.map fun v => v.category).sum ≤ 8) (hl1 : Cond.methodLink own index yX6_owes ∈ pb_gw) (hdg : decode cc pc = .ok (.invokevirtual index, 3)) (hq : pc + 3 = q) (k : ∀ b1 μ1, pb_RW l E R own cc mL ret Xs nc ns Qf q L (.int b1 :: S) μ1 (f b1 μ1)) : pb_RW l E R own cc mL ret Xs nc ns Qf pc L (.int v2 :: .int v1 :: .ref (E.2.1 0) :: S) μ (pb_b (pX6_owes v1 v2 μ) f) := pb_callV q (fun z : Int32 => some (.int z)) mc_X6_owes mi_X6_owes ms_X6_owes (fun b1 μ1 h => evX6_owes l E v1 v2  μ b1 μ1 h) rfl (by decide) rfl rfl rfl rfl hR rfl hW hl1 hdg hq k
theorem ml_X6_135 : Cond.methodLink RX6 135 yX5_clauseFor ∈ pb_gw := pb_inW 404 (by decide +kernel) (by decide +kernel)
theorem ml_X6_138 : Cond.methodLink RX6 138 yX0_remember ∈ pb_gw := pb_inW 426 (by decide +kernel) (by decide +kernel)
theorem ml_X6_141 : Cond.methodLink RX6 141 yX5_shutIn ∈ pb_gw := pb_inW 435 (by decide +kernel) (by decide +kernel)
theorem ml_X6_145 : Cond.methodLink RX6 145 yX5_addDebt ∈ pb_gw := pb_inW 439 (by decide +kernel) (by decide +kernel)
def pX6_drive_J47 (v1 : Int32) (v2 : Int32) (v3 : Int32) (μ : pb_M) : Option (Int32 × pb_M) :=
  pb_b (pX0_remember 4 μ) (fun b55 μ55 =>
  if v3 = (0 : Int32) then
    pb_b (pX5_shutIn 4 v1 v2 μ55) (fun b68 μ68 =>
    some (v3, μ68))
  else
  pb_b (pX5_ownerOf 4 v2 μ55) (fun b84 μ84 =>
  pb_b (pX5_worthOf 4 v2 μ84) (fun b92 μ92 =>
  pb_b (pX5_addDebt 4 v1 b84 b92 μ92) (fun b95 μ95 =>
  some (v3, μ95)))))
def pX6_drive (v1 : Int32) (v2 : Int32) (μ : pb_M) : Option (Int32 × pb_M) :=
  pb_b (pX5_hasPerson 4 v1 μ) (fun b5 μ5 =>
  if b5 = (0 : Int32) then
    some ((-1 : Int32), μ5)
  else
  pb_b (pX5_hasBeast 4 v2 μ5) (fun b16 μ16 =>
  if b16 = (0 : Int32) then
    some ((-1 : Int32), μ16)
  else
  pb_b (pX5_clauseFor 4 v1 v2 μ16) (fun b30 μ30 =>
  if b30 = (0 : Int32) then
    pX6_drive_J47 v1 v2 b30 μ30
  else
  if b30 = (6 : Int32) then
    pX6_drive_J47 v1 v2 b30 μ30
  else
  some ((-3 : Int32), μ30))))
abbrev wX6_drive (l : Launch) (E : pb_E) := pb_RW l E { frames := 3, cells := 0, slots := 0, locals := 65 } RX6 cX6_drive 4 (some .int) (fun _ => True) 0 0 (pb_Qf E (fun z : Int32 => some (.int z)))
set_option maxRecDepth 100000 in
set_option maxHeartbeats 4000000 in
theorem tX6_drive_J47 (l : Launch) (E : pb_E)    : ∀ (v1 : Int32) (v2 : Int32) (v3 : Int32) (μ : pb_M), wX6_drive l E 47 [some (.ref (E.2.1 0)), some (.int v1), some (.int v2), some (.int v3)] [] μ (pX6_drive_J47 v1 v2 v3 μ) := by
  intro v1 v2 v3 μ
  unfold pX6_drive_J47
  refine pb_aload_n 48 dX6_drive_47 rfl rfl rfl ?_
  refine pb_getR 51 (j := 3) (d := 8) in_X6 rfl (by decide) rfl rfl (by decide) fl_X6_29 dX6_drive_48 rfl ?_
  refine pb_aload_n 52 dX6_drive_51 rfl rfl rfl ?_
  refine pb_getR 55 (j := 1) (d := 4) in_X6 rfl (by decide) rfl rfl (by decide) fl_X6_19 dX6_drive_52 rfl ?_
  refine cl_X0_remember 58 pb_V4 ⟨by decide, by decide, by decide, by decide⟩ (Nat.le_of_ble_eq_true rfl) ml_X6_138 dX6_drive_55 rfl (fun b55 μ55 => ?_)
  refine pb_iload_n 59 dX6_drive_58 rfl rfl rfl ?_
  refine pb_if_ne 62 (tgt := 74) dX6_drive_59 (by decide) rfl (fun _ => ?_) (fun _ => ?_)
  · refine pb_aload_n 63 dX6_drive_62 rfl rfl rfl ?_
    refine pb_getR 66 (j := 1) (d := 4) in_X6 rfl (by decide) rfl rfl (by decide) fl_X6_19 dX6_drive_63 rfl ?_
    refine pb_iload_n 67 dX6_drive_66 rfl rfl rfl ?_
    refine pb_iload_n 68 dX6_drive_67 rfl rfl rfl ?_
    refine cl_X5_shutIn 71 pb_V4 ⟨by decide, by decide, by decide, by decide⟩ (Nat.le_of_ble_eq_true rfl) ml_X6_141 dX6_drive_68 rfl (fun b68 μ68 => ?_)
    refine pb_goto (tgt := 98) dX6_drive_71 (by decide) ?_
    refine pb_iload_n 99 dX6_drive_98 rfl rfl rfl ?_
    exact pb_iret dX6_drive_99
  · refine pb_aload_n 75 dX6_drive_74 rfl rfl rfl ?_
    refine pb_getR 78 (j := 1) (d := 4) in_X6 rfl (by decide) rfl rfl (by decide) fl_X6_19 dX6_drive_75 rfl ?_
    refine pb_iload_n 79 dX6_drive_78 rfl rfl rfl ?_
    refine pb_aload_n 80 dX6_drive_79 rfl rfl rfl ?_
    refine pb_getR 83 (j := 1) (d := 4) in_X6 rfl (by decide) rfl rfl (by decide) fl_X6_19 dX6_drive_80 rfl ?_
    refine pb_iload_n 84 dX6_drive_83 rfl rfl rfl ?_
    refine cl_X5_ownerOf 87 pb_V4 ⟨by decide, by decide, by decide, by decide⟩ (Nat.le_of_ble_eq_true rfl) ml_X6_113 dX6_drive_84 rfl (fun b84 μ84 => ?_)
    refine pb_aload_n 88 dX6_drive_87 rfl rfl rfl ?_
    refine pb_getR 91 (j := 1) (d := 4) in_X6 rfl (by decide) rfl rfl (by decide) fl_X6_19 dX6_drive_88 rfl ?_
    refine pb_iload_n 92 dX6_drive_91 rfl rfl rfl ?_
    refine cl_X5_worthOf 95 pb_V4 ⟨by decide, by decide, by decide, by decide⟩ (Nat.le_of_ble_eq_true rfl) ml_X6_116 dX6_drive_92 rfl (fun b92 μ92 => ?_)
    refine cl_X5_addDebt 98 pb_V4 ⟨by decide, by decide, by decide, by decide⟩ (Nat.le_of_ble_eq_true rfl) ml_X6_145 dX6_drive_95 rfl (fun b95 μ95 => ?_)
    refine pb_iload_n 99 dX6_drive_98 rfl rfl rfl ?_
    exact pb_iret dX6_drive_99
set_option maxRecDepth 100000 in
set_option maxHeartbeats 4000000 in
theorem evX6_drive (l : Launch) (E : pb_E) (v1 : Int32) (v2 : Int32)  (μ : pb_M) : ∀ b μ', pX6_drive v1 v2 μ = some (b, μ') → pb_Ev l E yX6_drive cX6_drive 4 (some .int) { frames := 3, cells := 0, slots := 0, locals := 65 } [.ref (E.2.1 0), .int v1, .int v2] μ ((fun z : Int32 => some (.int z)) b) μ' := by
  refine pb_enter (L := [some (.ref (E.2.1 0)), some (.int v1), some (.int v2), none]) (by decide +kernel) (Nat.le_of_ble_eq_true rfl) (pb_same [none, none, none, none] rfl) (show wX6_drive l E 0 [some (.ref (E.2.1 0)), some (.int v1), some (.int v2), none] [] μ (pX6_drive v1 v2 μ) from ?_)
  unfold pX6_drive
  refine pb_aload_n 1 dX6_drive_0 rfl rfl rfl ?_
  refine pb_getR 4 (j := 1) (d := 4) in_X6 rfl (by decide) rfl rfl (by decide) fl_X6_19 dX6_drive_1 rfl ?_
  refine pb_iload_n 5 dX6_drive_4 rfl rfl rfl ?_
  refine cl_X5_hasPerson 8 pb_V4 ⟨by decide, by decide, by decide, by decide⟩ (Nat.le_of_ble_eq_true rfl) ml_X6_91 dX6_drive_5 rfl (fun b5 μ5 => ?_)
  refine pb_if_eq 11 (tgt := 22) dX6_drive_8 (by decide) rfl (fun _ => ?_) (fun _ => ?_)
  · refine pb_iconst 23 (v := -1) dX6_drive_22 rfl (by decide) ?_
    exact pb_iret dX6_drive_23
  · refine pb_aload_n 12 dX6_drive_11 rfl rfl rfl ?_
    refine pb_getR 15 (j := 1) (d := 4) in_X6 rfl (by decide) rfl rfl (by decide) fl_X6_19 dX6_drive_12 rfl ?_
    refine pb_iload_n 16 dX6_drive_15 rfl rfl rfl ?_
    refine cl_X5_hasBeast 19 pb_V4 ⟨by decide, by decide, by decide, by decide⟩ (Nat.le_of_ble_eq_true rfl) ml_X6_110 dX6_drive_16 rfl (fun b16 μ16 => ?_)
    refine pb_if_ne 22 (tgt := 24) dX6_drive_19 (by decide) rfl (fun _ => ?_) (fun _ => ?_)
    · refine pb_iconst 23 (v := -1) dX6_drive_22 rfl (by decide) ?_
      exact pb_iret dX6_drive_23
    · refine pb_aload_n 25 dX6_drive_24 rfl rfl rfl ?_
      refine pb_getR 28 (j := 1) (d := 4) in_X6 rfl (by decide) rfl rfl (by decide) fl_X6_19 dX6_drive_25 rfl ?_
      refine pb_iload_n 29 dX6_drive_28 rfl rfl rfl ?_
      refine pb_iload_n 30 dX6_drive_29 rfl rfl rfl ?_
      refine cl_X5_clauseFor 33 pb_V4 ⟨by decide, by decide, by decide, by decide⟩ (Nat.le_of_ble_eq_true rfl) ml_X6_135 dX6_drive_30 rfl (fun b30 μ30 => ?_)
      refine pb_istore_n 34 (i := 3) (L' := [some (.ref (E.2.1 0)), some (.int v1), some (.int v2), some (.int b30)]) dX6_drive_33 rfl (by decide) rfl rfl rfl ?_
      refine pb_iload_n 35 dX6_drive_34 rfl rfl rfl ?_
      refine pb_if_eq 38 (tgt := 47) dX6_drive_35 (by decide) rfl (fun _ => ?_) (fun _ => ?_)
      · exact tX6_drive_J47 l E v1 v2 b30 μ30
      · refine pb_iload_n 39 dX6_drive_38 rfl rfl rfl ?_
        refine pb_bipush 41 (v := 6) dX6_drive_39 rfl (by decide) ?_
        refine pb_icmp_eq 44 (tgt := 47) dX6_drive_41 (by decide) rfl (fun _ => ?_) (fun _ => ?_)
        · exact tX6_drive_J47 l E v1 v2 b30 μ30
        · refine pb_bipush 46 (v := -3) dX6_drive_44 rfl (by decide) ?_
          exact pb_iret dX6_drive_46
theorem mc_X6_drive : pb_MC yX6_drive cX6_drive 4 (some .int) 2 := ⟨pb_inW 403 (by decide +kernel) (by decide +kernel), pb_inW 61 (by decide +kernel) (by decide +kernel), by decide +kernel, by decide +kernel, by decide +kernel⟩
theorem mi_X6_drive : Cond.instanceMethod yX6_drive ∈ pb_gw := pb_inW 401 (by decide +kernel) (by decide +kernel)
theorem ms_X6_drive : Cond.selects (yX6_drive).cls yX6_drive yX6_drive ∈ pb_gw := pb_inW 402 (by decide +kernel) (by decide +kernel)
theorem cl_X6_drive {α : Type} {l : Launch} {E : pb_E} {R : Room} {own : String} {cc : ByteArray} {mL : Nat} {ret : Option FieldType} {Xs : State → Prop} {nc ns : Nat} {Qf : State → Array Value → List Frame → α → pb_M → State → Prop} {pc : Nat} {L : List (Option Value)} {S : List Value} {μ : pb_M} {f : Int32 → pb_M → Option (α × pb_M)} {v1 : Int32} {v2 : Int32} {index : Nat} (q : Nat)  (hR : 3 + 1 ≤ R.frames ∧ 8 + (4 + 11) + 65 ≤ R.locals ∧ nc ≤ R.cells ∧ ns ≤ R.slots) (hW : (S.map fun v => v.category).sum ≤ 8) (hl1 : Cond.methodLink own index yX6_drive ∈ pb_gw) (hdg : decode cc pc = .ok (.invokevirtual index, 3)) (hq : pc + 3 = q) (k : ∀ b1 μ1, pb_RW l E R own cc mL ret Xs nc ns Qf q L (.int b1 :: S) μ1 (f b1 μ1)) : pb_RW l E R own cc mL ret Xs nc ns Qf pc L (.int v2 :: .int v1 :: .ref (E.2.1 0) :: S) μ (pb_b (pX6_drive v1 v2 μ) f) := pb_callV q (fun z : Int32 => some (.int z)) mc_X6_drive mi_X6_drive ms_X6_drive (fun b1 μ1 h => evX6_drive l E v1 v2  μ b1 μ1 h) rfl (by decide) rfl rfl rfl rfl hR rfl hW hl1 hdg hq k
theorem ml_X6_149 : Cond.methodLink RX6 149 yX5_passDay ∈ pb_gw := pb_inW 444 (by decide +kernel) (by decide +kernel)
theorem ml_X6_152 : Cond.methodLink RX6 152 yX5_shutBeasts ∈ pb_gw := pb_inW 460 (by decide +kernel) (by decide +kernel)
theorem ml_X6_155 : Cond.methodLink RX6 155 yJ6_bitCount_0f7a4 ∈ pb_gw := pb_inW 464 (by decide +kernel) (by decide +kernel)
def pX6_day  (μ : pb_M) : Option (Int32 × pb_M) :=
  pb_b (pX0_remember 4 μ) (fun b8 μ8 =>
  pb_b (pX5_passDay 4 μ8) (fun b15 μ15 =>
  pb_b (pX5_shutBeasts 4 μ15) (fun b22 μ22 =>
  pb_b (pJ6_bitCount_0f7a4 b22 μ22) (fun b25 μ25 =>
  some (b25, μ25)))))
abbrev wX6_day (l : Launch) (E : pb_E) := pb_RW l E { frames := 4, cells := 0, slots := 0, locals := 86 } RX6 cX6_day 1 (some .int) (fun _ => True) 0 0 (pb_Qf E (fun z : Int32 => some (.int z)))
set_option maxRecDepth 100000 in
set_option maxHeartbeats 4000000 in
theorem evX6_day (l : Launch) (E : pb_E)   (μ : pb_M) : ∀ b μ', pX6_day  μ = some (b, μ') → pb_Ev l E yX6_day cX6_day 1 (some .int) { frames := 4, cells := 0, slots := 0, locals := 86 } [.ref (E.2.1 0)] μ ((fun z : Int32 => some (.int z)) b) μ' := by
  refine pb_enter (L := [some (.ref (E.2.1 0))]) (by decide +kernel) (Nat.le_of_ble_eq_true rfl) (pb_same [none] rfl) (show wX6_day l E 0 [some (.ref (E.2.1 0))] [] μ (pX6_day  μ) from ?_)
  unfold pX6_day
  refine pb_aload_n 1 dX6_day_0 rfl rfl rfl ?_
  refine pb_getR 4 (j := 3) (d := 8) in_X6 rfl (by decide) rfl rfl (by decide) fl_X6_29 dX6_day_1 rfl ?_
  refine pb_aload_n 5 dX6_day_4 rfl rfl rfl ?_
  refine pb_getR 8 (j := 1) (d := 4) in_X6 rfl (by decide) rfl rfl (by decide) fl_X6_19 dX6_day_5 rfl ?_
  refine cl_X0_remember 11 pb_V4 ⟨by decide, by decide, by decide, by decide⟩ (Nat.le_of_ble_eq_true rfl) ml_X6_138 dX6_day_8 rfl (fun b8 μ8 => ?_)
  refine pb_aload_n 12 dX6_day_11 rfl rfl rfl ?_
  refine pb_getR 15 (j := 1) (d := 4) in_X6 rfl (by decide) rfl rfl (by decide) fl_X6_19 dX6_day_12 rfl ?_
  refine cl_X5_passDay 18 pb_V4 ⟨by decide, by decide, by decide, by decide⟩ (Nat.le_of_ble_eq_true rfl) ml_X6_149 dX6_day_15 rfl (fun b15 μ15 => ?_)
  refine pb_aload_n 19 dX6_day_18 rfl rfl rfl ?_
  refine pb_getR 22 (j := 1) (d := 4) in_X6 rfl (by decide) rfl rfl (by decide) fl_X6_19 dX6_day_19 rfl ?_
  refine cl_X5_shutBeasts 25 pb_V4 ⟨by decide, by decide, by decide, by decide⟩ (Nat.le_of_ble_eq_true rfl) ml_X6_152 dX6_day_22 rfl (fun b22 μ22 => ?_)
  refine cl_J6_bitCount_0f7a4 28 ⟨by decide, by decide, by decide, by decide⟩ (Nat.le_of_ble_eq_true rfl) ml_X6_155 dX6_day_25 rfl (fun b25 μ25 => ?_)
  exact pb_iret dX6_day_28
theorem mc_X6_day : pb_MC yX6_day cX6_day 1 (some .int) 0 := ⟨pb_inW 443 (by decide +kernel) (by decide +kernel), pb_inW 61 (by decide +kernel) (by decide +kernel), by decide +kernel, by decide +kernel, by decide +kernel⟩
theorem mi_X6_day : Cond.instanceMethod yX6_day ∈ pb_gw := pb_inW 441 (by decide +kernel) (by decide +kernel)
theorem ms_X6_day : Cond.selects (yX6_day).cls yX6_day yX6_day ∈ pb_gw := pb_inW 442 (by decide +kernel) (by decide +kernel)
theorem cl_X6_day {α : Type} {l : Launch} {E : pb_E} {R : Room} {own : String} {cc : ByteArray} {mL : Nat} {ret : Option FieldType} {Xs : State → Prop} {nc ns : Nat} {Qf : State → Array Value → List Frame → α → pb_M → State → Prop} {pc : Nat} {L : List (Option Value)} {S : List Value} {μ : pb_M} {f : Int32 → pb_M → Option (α × pb_M)}  {index : Nat} (q : Nat)  (hR : 4 + 1 ≤ R.frames ∧ 8 + (1 + 11) + 86 ≤ R.locals ∧ nc ≤ R.cells ∧ ns ≤ R.slots) (hW : (S.map fun v => v.category).sum ≤ 8) (hl1 : Cond.methodLink own index yX6_day ∈ pb_gw) (hdg : decode cc pc = .ok (.invokevirtual index, 3)) (hq : pc + 3 = q) (k : ∀ b1 μ1, pb_RW l E R own cc mL ret Xs nc ns Qf q L (.int b1 :: S) μ1 (f b1 μ1)) : pb_RW l E R own cc mL ret Xs nc ns Qf pc L (.ref (E.2.1 0) :: S) μ (pb_b (pX6_day  μ) f) := pb_callV q (fun z : Int32 => some (.int z)) mc_X6_day mi_X6_day ms_X6_day (fun b1 μ1 h => evX6_day l E   μ b1 μ1 h) rfl (by decide) rfl rfl rfl rfl hR rfl hW hl1 hdg hq k
theorem ml_X6_160 : Cond.methodLink RX6 160 yX5_payDebt ∈ pb_gw := pb_inW 474 (by decide +kernel) (by decide +kernel)
def pX6_pay (v1 : Int32) (v2 : Int32) (v3 : Int32) (μ : pb_M) : Option (Int32 × pb_M) :=
  pb_b (pX5_hasPerson 4 v1 μ) (fun b5 μ5 =>
  if b5 = (0 : Int32) then
    some ((-1 : Int32), μ5)
  else
  pb_b (pX5_hasPerson 4 v2 μ5) (fun b16 μ16 =>
  if b16 = (0 : Int32) then
    some ((-1 : Int32), μ16)
  else
  if v1 = v2 then
    some ((-2 : Int32), μ16)
  else
  if v3 < (1 : Int32) then
    some ((-2 : Int32), μ16)
  else
  if v3 ≤ (9 : Int32) then
    pb_b (pX5_debt 4 v1 v2 μ16) (fun b49 μ49 =>
    if b49 < v3 then
      some ((-3 : Int32), μ49)
    else
    pb_b (pX5_moneyOf 4 v1 μ49) (fun b61 μ61 =>
    if v3 ≤ b61 then
      pb_b (pX0_remember 4 μ61) (fun b79 μ79 =>
      pb_b (pX5_payDebt 4 v1 v2 v3 μ79) (fun b89 μ89 =>
      pb_b (pX5_debt 4 v1 v2 μ89) (fun b98 μ98 =>
      some (b98, μ98))))
    else
    some ((-3 : Int32), μ61)))
  else
  some ((-2 : Int32), μ16)))
abbrev wX6_pay (l : Launch) (E : pb_E) := pb_RW l E { frames := 3, cells := 0, slots := 0, locals := 69 } RX6 cX6_pay 4 (some .int) (fun _ => True) 0 0 (pb_Qf E (fun z : Int32 => some (.int z)))
set_option maxRecDepth 100000 in
set_option maxHeartbeats 4000000 in
theorem evX6_pay (l : Launch) (E : pb_E) (v1 : Int32) (v2 : Int32) (v3 : Int32)  (μ : pb_M) : ∀ b μ', pX6_pay v1 v2 v3 μ = some (b, μ') → pb_Ev l E yX6_pay cX6_pay 4 (some .int) { frames := 3, cells := 0, slots := 0, locals := 69 } [.ref (E.2.1 0), .int v1, .int v2, .int v3] μ ((fun z : Int32 => some (.int z)) b) μ' := by
  refine pb_enter (L := [some (.ref (E.2.1 0)), some (.int v1), some (.int v2), some (.int v3)]) (by decide +kernel) (Nat.le_of_ble_eq_true rfl) (pb_same [none, none, none, none] rfl) (show wX6_pay l E 0 [some (.ref (E.2.1 0)), some (.int v1), some (.int v2), some (.int v3)] [] μ (pX6_pay v1 v2 v3 μ) from ?_)
  unfold pX6_pay
  refine pb_aload_n 1 dX6_pay_0 rfl rfl rfl ?_
  refine pb_getR 4 (j := 1) (d := 4) in_X6 rfl (by decide) rfl rfl (by decide) fl_X6_19 dX6_pay_1 rfl ?_
  refine pb_iload_n 5 dX6_pay_4 rfl rfl rfl ?_
  refine cl_X5_hasPerson 8 pb_V4 ⟨by decide, by decide, by decide, by decide⟩ (Nat.le_of_ble_eq_true rfl) ml_X6_91 dX6_pay_5 rfl (fun b5 μ5 => ?_)
  refine pb_if_eq 11 (tgt := 22) dX6_pay_8 (by decide) rfl (fun _ => ?_) (fun _ => ?_)
  · refine pb_iconst 23 (v := -1) dX6_pay_22 rfl (by decide) ?_
    exact pb_iret dX6_pay_23
  · refine pb_aload_n 12 dX6_pay_11 rfl rfl rfl ?_
    refine pb_getR 15 (j := 1) (d := 4) in_X6 rfl (by decide) rfl rfl (by decide) fl_X6_19 dX6_pay_12 rfl ?_
    refine pb_iload_n 16 dX6_pay_15 rfl rfl rfl ?_
    refine cl_X5_hasPerson 19 pb_V4 ⟨by decide, by decide, by decide, by decide⟩ (Nat.le_of_ble_eq_true rfl) ml_X6_91 dX6_pay_16 rfl (fun b16 μ16 => ?_)
    refine pb_if_ne 22 (tgt := 24) dX6_pay_19 (by decide) rfl (fun _ => ?_) (fun _ => ?_)
    · refine pb_iconst 23 (v := -1) dX6_pay_22 rfl (by decide) ?_
      exact pb_iret dX6_pay_23
    · refine pb_iload_n 25 dX6_pay_24 rfl rfl rfl ?_
      refine pb_iload_n 26 dX6_pay_25 rfl rfl rfl ?_
      refine pb_icmp_eq 29 (tgt := 40) dX6_pay_26 (by decide) rfl (fun _ => ?_) (fun _ => ?_)
      · refine pb_bipush 42 (v := -2) dX6_pay_40 rfl (by decide) ?_
        exact pb_iret dX6_pay_42
      · refine pb_iload_n 30 dX6_pay_29 rfl rfl rfl ?_
        refine pb_iconst 31 (v := 1) dX6_pay_30 rfl (by decide) ?_
        refine pb_icmp_lt 34 (tgt := 40) dX6_pay_31 (by decide) rfl (fun _ => ?_) (fun _ => ?_)
        · refine pb_bipush 42 (v := -2) dX6_pay_40 rfl (by decide) ?_
          exact pb_iret dX6_pay_42
        · refine pb_iload_n 35 dX6_pay_34 rfl rfl rfl ?_
          refine pb_bipush 37 (v := 9) dX6_pay_35 rfl (by decide) ?_
          refine pb_icmp_le 40 (tgt := 43) dX6_pay_37 (by decide) rfl (fun _ => ?_) (fun _ => ?_)
          · refine pb_aload_n 44 dX6_pay_43 rfl rfl rfl ?_
            refine pb_getR 47 (j := 1) (d := 4) in_X6 rfl (by decide) rfl rfl (by decide) fl_X6_19 dX6_pay_44 rfl ?_
            refine pb_iload_n 48 dX6_pay_47 rfl rfl rfl ?_
            refine pb_iload_n 49 dX6_pay_48 rfl rfl rfl ?_
            refine cl_X5_debt 52 pb_V4 ⟨by decide, by decide, by decide, by decide⟩ (Nat.le_of_ble_eq_true rfl) ml_X6_131 dX6_pay_49 rfl (fun b49 μ49 => ?_)
            refine pb_iload_n 53 dX6_pay_52 rfl rfl rfl ?_
            refine pb_icmp_lt 56 (tgt := 68) dX6_pay_53 (by decide) rfl (fun _ => ?_) (fun _ => ?_)
            · refine pb_bipush 70 (v := -3) dX6_pay_68 rfl (by decide) ?_
              exact pb_iret dX6_pay_70
            · refine pb_aload_n 57 dX6_pay_56 rfl rfl rfl ?_
              refine pb_getR 60 (j := 1) (d := 4) in_X6 rfl (by decide) rfl rfl (by decide) fl_X6_19 dX6_pay_57 rfl ?_
              refine pb_iload_n 61 dX6_pay_60 rfl rfl rfl ?_
              refine cl_X5_moneyOf 64 pb_V4 ⟨by decide, by decide, by decide, by decide⟩ (Nat.le_of_ble_eq_true rfl) ml_X6_98 dX6_pay_61 rfl (fun b61 μ61 => ?_)
              refine pb_iload_n 65 dX6_pay_64 rfl rfl rfl ?_
              refine pb_icmp_ge 68 (tgt := 71) dX6_pay_65 (by decide) rfl (fun _ => ?_) (fun _ => ?_)
              · refine pb_aload_n 72 dX6_pay_71 rfl rfl rfl ?_
                refine pb_getR 75 (j := 3) (d := 8) in_X6 rfl (by decide) rfl rfl (by decide) fl_X6_29 dX6_pay_72 rfl ?_
                refine pb_aload_n 76 dX6_pay_75 rfl rfl rfl ?_
                refine pb_getR 79 (j := 1) (d := 4) in_X6 rfl (by decide) rfl rfl (by decide) fl_X6_19 dX6_pay_76 rfl ?_
                refine cl_X0_remember 82 pb_V4 ⟨by decide, by decide, by decide, by decide⟩ (Nat.le_of_ble_eq_true rfl) ml_X6_138 dX6_pay_79 rfl (fun b79 μ79 => ?_)
                refine pb_aload_n 83 dX6_pay_82 rfl rfl rfl ?_
                refine pb_getR 86 (j := 1) (d := 4) in_X6 rfl (by decide) rfl rfl (by decide) fl_X6_19 dX6_pay_83 rfl ?_
                refine pb_iload_n 87 dX6_pay_86 rfl rfl rfl ?_
                refine pb_iload_n 88 dX6_pay_87 rfl rfl rfl ?_
                refine pb_iload_n 89 dX6_pay_88 rfl rfl rfl ?_
                refine cl_X5_payDebt 92 pb_V4 ⟨by decide, by decide, by decide, by decide⟩ (Nat.le_of_ble_eq_true rfl) ml_X6_160 dX6_pay_89 rfl (fun b89 μ89 => ?_)
                refine pb_aload_n 93 dX6_pay_92 rfl rfl rfl ?_
                refine pb_getR 96 (j := 1) (d := 4) in_X6 rfl (by decide) rfl rfl (by decide) fl_X6_19 dX6_pay_93 rfl ?_
                refine pb_iload_n 97 dX6_pay_96 rfl rfl rfl ?_
                refine pb_iload_n 98 dX6_pay_97 rfl rfl rfl ?_
                refine cl_X5_debt 101 pb_V4 ⟨by decide, by decide, by decide, by decide⟩ (Nat.le_of_ble_eq_true rfl) ml_X6_131 dX6_pay_98 rfl (fun b98 μ98 => ?_)
                exact pb_iret dX6_pay_101
              · refine pb_bipush 70 (v := -3) dX6_pay_68 rfl (by decide) ?_
                exact pb_iret dX6_pay_70
          · refine pb_bipush 42 (v := -2) dX6_pay_40 rfl (by decide) ?_
            exact pb_iret dX6_pay_42
theorem mc_X6_pay : pb_MC yX6_pay cX6_pay 4 (some .int) 3 := ⟨pb_inW 473 (by decide +kernel) (by decide +kernel), pb_inW 61 (by decide +kernel) (by decide +kernel), by decide +kernel, by decide +kernel, by decide +kernel⟩
theorem mi_X6_pay : Cond.instanceMethod yX6_pay ∈ pb_gw := pb_inW 471 (by decide +kernel) (by decide +kernel)
theorem ms_X6_pay : Cond.selects (yX6_pay).cls yX6_pay yX6_pay ∈ pb_gw := pb_inW 472 (by decide +kernel) (by decide +kernel)
theorem cl_X6_pay {α : Type} {l : Launch} {E : pb_E} {R : Room} {own : String} {cc : ByteArray} {mL : Nat} {ret : Option FieldType} {Xs : State → Prop} {nc ns : Nat} {Qf : State → Array Value → List Frame → α → pb_M → State → Prop} {pc : Nat} {L : List (Option Value)} {S : List Value} {μ : pb_M} {f : Int32 → pb_M → Option (α × pb_M)} {v1 : Int32} {v2 : Int32} {v3 : Int32} {index : Nat} (q : Nat)  (hR : 3 + 1 ≤ R.frames ∧ 8 + (4 + 11) + 69 ≤ R.locals ∧ nc ≤ R.cells ∧ ns ≤ R.slots) (hW : (S.map fun v => v.category).sum ≤ 8) (hl1 : Cond.methodLink own index yX6_pay ∈ pb_gw) (hdg : decode cc pc = .ok (.invokevirtual index, 3)) (hq : pc + 3 = q) (k : ∀ b1 μ1, pb_RW l E R own cc mL ret Xs nc ns Qf q L (.int b1 :: S) μ1 (f b1 μ1)) : pb_RW l E R own cc mL ret Xs nc ns Qf pc L (.int v3 :: .int v2 :: .int v1 :: .ref (E.2.1 0) :: S) μ (pb_b (pX6_pay v1 v2 v3 μ) f) := pb_callV q (fun z : Int32 => some (.int z)) mc_X6_pay mi_X6_pay ms_X6_pay (fun b1 μ1 h => evX6_pay l E v1 v2 v3  μ b1 μ1 h) rfl (by decide) rfl rfl rfl rfl hR rfl hW hl1 hdg hq k
theorem ml_X6_163 : Cond.methodLink RX6 163 yX5_isShut ∈ pb_gw := pb_inW 490 (by decide +kernel) (by decide +kernel)
theorem ml_X6_166 : Cond.methodLink RX6 166 yX5_runHome ∈ pb_gw := pb_inW 491 (by decide +kernel) (by decide +kernel)
def pX6_breakOut (v1 : Int32) (μ : pb_M) : Option (Int32 × pb_M) :=
  pb_b (pX5_hasBeast 4 v1 μ) (fun b5 μ5 =>
  if b5 = (0 : Int32) then
    some ((-1 : Int32), μ5)
  else
  pb_b (pX5_isShut 4 v1 μ5) (fun b18 μ18 =>
  if b18 = (0 : Int32) then
    some ((-3 : Int32), μ18)
  else
  pb_b (pX0_remember 4 μ18) (fun b35 μ35 =>
  pb_b (pX5_holderOf 4 v1 μ35) (fun b43 μ43 =>
  pb_b (pX5_runHome 4 v1 μ43) (fun b52 μ52 =>
  some (b43, μ52))))))
abbrev wX6_breakOut (l : Launch) (E : pb_E) := pb_RW l E { frames := 3, cells := 0, slots := 0, locals := 67 } RX6 cX6_breakOut 3 (some .int) (fun _ => True) 0 0 (pb_Qf E (fun z : Int32 => some (.int z)))
set_option maxRecDepth 100000 in
set_option maxHeartbeats 4000000 in
theorem evX6_breakOut (l : Launch) (E : pb_E) (v1 : Int32)  (μ : pb_M) : ∀ b μ', pX6_breakOut v1 μ = some (b, μ') → pb_Ev l E yX6_breakOut cX6_breakOut 3 (some .int) { frames := 3, cells := 0, slots := 0, locals := 67 } [.ref (E.2.1 0), .int v1] μ ((fun z : Int32 => some (.int z)) b) μ' := by
  refine pb_enter (L := [some (.ref (E.2.1 0)), some (.int v1), none]) (by decide +kernel) (Nat.le_of_ble_eq_true rfl) (pb_same [none, none, none] rfl) (show wX6_breakOut l E 0 [some (.ref (E.2.1 0)), some (.int v1), none] [] μ (pX6_breakOut v1 μ) from ?_)
  unfold pX6_breakOut
  refine pb_aload_n 1 dX6_breakOut_0 rfl rfl rfl ?_
  refine pb_getR 4 (j := 1) (d := 4) in_X6 rfl (by decide) rfl rfl (by decide) fl_X6_19 dX6_breakOut_1 rfl ?_
  refine pb_iload_n 5 dX6_breakOut_4 rfl rfl rfl ?_
  refine cl_X5_hasBeast 8 pb_V4 ⟨by decide, by decide, by decide, by decide⟩ (Nat.le_of_ble_eq_true rfl) ml_X6_110 dX6_breakOut_5 rfl (fun b5 μ5 => ?_)
  refine pb_if_ne 11 (tgt := 13) dX6_breakOut_8 (by decide) rfl (fun _ => ?_) (fun _ => ?_)
  · refine pb_iconst 12 (v := -1) dX6_breakOut_11 rfl (by decide) ?_
    exact pb_iret dX6_breakOut_12
  · refine pb_aload_n 14 dX6_breakOut_13 rfl rfl rfl ?_
    refine pb_getR 17 (j := 1) (d := 4) in_X6 rfl (by decide) rfl rfl (by decide) fl_X6_19 dX6_breakOut_14 rfl ?_
    refine pb_iload_n 18 dX6_breakOut_17 rfl rfl rfl ?_
    refine cl_X5_isShut 21 pb_V4 ⟨by decide, by decide, by decide, by decide⟩ (Nat.le_of_ble_eq_true rfl) ml_X6_163 dX6_breakOut_18 rfl (fun b18 μ18 => ?_)
    refine pb_if_ne 24 (tgt := 27) dX6_breakOut_21 (by decide) rfl (fun _ => ?_) (fun _ => ?_)
    · refine pb_bipush 26 (v := -3) dX6_breakOut_24 rfl (by decide) ?_
      exact pb_iret dX6_breakOut_26
    · refine pb_aload_n 28 dX6_breakOut_27 rfl rfl rfl ?_
      refine pb_getR 31 (j := 3) (d := 8) in_X6 rfl (by decide) rfl rfl (by decide) fl_X6_29 dX6_breakOut_28 rfl ?_
      refine pb_aload_n 32 dX6_breakOut_31 rfl rfl rfl ?_
      refine pb_getR 35 (j := 1) (d := 4) in_X6 rfl (by decide) rfl rfl (by decide) fl_X6_19 dX6_breakOut_32 rfl ?_
      refine cl_X0_remember 38 pb_V4 ⟨by decide, by decide, by decide, by decide⟩ (Nat.le_of_ble_eq_true rfl) ml_X6_138 dX6_breakOut_35 rfl (fun b35 μ35 => ?_)
      refine pb_aload_n 39 dX6_breakOut_38 rfl rfl rfl ?_
      refine pb_getR 42 (j := 1) (d := 4) in_X6 rfl (by decide) rfl rfl (by decide) fl_X6_19 dX6_breakOut_39 rfl ?_
      refine pb_iload_n 43 dX6_breakOut_42 rfl rfl rfl ?_
      refine cl_X5_holderOf 46 pb_V4 ⟨by decide, by decide, by decide, by decide⟩ (Nat.le_of_ble_eq_true rfl) ml_X6_122 dX6_breakOut_43 rfl (fun b43 μ43 => ?_)
      refine pb_istore_n 47 (i := 2) (L' := [some (.ref (E.2.1 0)), some (.int v1), some (.int b43)]) dX6_breakOut_46 rfl (by decide) rfl rfl rfl ?_
      refine pb_aload_n 48 dX6_breakOut_47 rfl rfl rfl ?_
      refine pb_getR 51 (j := 1) (d := 4) in_X6 rfl (by decide) rfl rfl (by decide) fl_X6_19 dX6_breakOut_48 rfl ?_
      refine pb_iload_n 52 dX6_breakOut_51 rfl rfl rfl ?_
      refine cl_X5_runHome 55 pb_V4 ⟨by decide, by decide, by decide, by decide⟩ (Nat.le_of_ble_eq_true rfl) ml_X6_166 dX6_breakOut_52 rfl (fun b52 μ52 => ?_)
      refine pb_iload_n 56 dX6_breakOut_55 rfl rfl rfl ?_
      exact pb_iret dX6_breakOut_56
theorem mc_X6_breakOut : pb_MC yX6_breakOut cX6_breakOut 3 (some .int) 1 := ⟨pb_inW 489 (by decide +kernel) (by decide +kernel), pb_inW 61 (by decide +kernel) (by decide +kernel), by decide +kernel, by decide +kernel, by decide +kernel⟩
theorem mi_X6_breakOut : Cond.instanceMethod yX6_breakOut ∈ pb_gw := pb_inW 487 (by decide +kernel) (by decide +kernel)
theorem ms_X6_breakOut : Cond.selects (yX6_breakOut).cls yX6_breakOut yX6_breakOut ∈ pb_gw := pb_inW 488 (by decide +kernel) (by decide +kernel)
theorem cl_X6_breakOut {α : Type} {l : Launch} {E : pb_E} {R : Room} {own : String} {cc : ByteArray} {mL : Nat} {ret : Option FieldType} {Xs : State → Prop} {nc ns : Nat} {Qf : State → Array Value → List Frame → α → pb_M → State → Prop} {pc : Nat} {L : List (Option Value)} {S : List Value} {μ : pb_M} {f : Int32 → pb_M → Option (α × pb_M)} {v1 : Int32} {index : Nat} (q : Nat)  (hR : 3 + 1 ≤ R.frames ∧ 8 + (3 + 11) + 67 ≤ R.locals ∧ nc ≤ R.cells ∧ ns ≤ R.slots) (hW : (S.map fun v => v.category).sum ≤ 8) (hl1 : Cond.methodLink own index yX6_breakOut ∈ pb_gw) (hdg : decode cc pc = .ok (.invokevirtual index, 3)) (hq : pc + 3 = q) (k : ∀ b1 μ1, pb_RW l E R own cc mL ret Xs nc ns Qf q L (.int b1 :: S) μ1 (f b1 μ1)) : pb_RW l E R own cc mL ret Xs nc ns Qf pc L (.int v1 :: .ref (E.2.1 0) :: S) μ (pb_b (pX6_breakOut v1 μ) f) := pb_callV q (fun z : Int32 => some (.int z)) mc_X6_breakOut mi_X6_breakOut ms_X6_breakOut (fun b1 μ1 h => evX6_breakOut l E v1  μ b1 μ1 h) rfl (by decide) rfl rfl rfl rfl hR rfl hW hl1 hdg hq k
theorem ml_X6_170 : Cond.methodLink RX6 170 yX5_isRipe ∈ pb_gw := pb_inW 500 (by decide +kernel) (by decide +kernel)
theorem ml_X6_173 : Cond.methodLink RX6 173 yX5_handOver ∈ pb_gw := pb_inW 505 (by decide +kernel) (by decide +kernel)
def pX6_forfeit (v1 : Int32) (μ : pb_M) : Option (Int32 × pb_M) :=
  pb_b (pX5_hasBeast 4 v1 μ) (fun b5 μ5 =>
  if b5 = (0 : Int32) then
    some ((-1 : Int32), μ5)
  else
  pb_b (pX5_isRipe 4 v1 μ5) (fun b18 μ18 =>
  if b18 = (0 : Int32) then
    some ((-3 : Int32), μ18)
  else
  pb_b (pX0_remember 4 μ18) (fun b35 μ35 =>
  pb_b (pX5_ownerOf 4 v1 μ35) (fun b43 μ43 =>
  pb_b (pX5_handOver 4 v1 μ43) (fun b52 μ52 =>
  some (b43, μ52))))))
abbrev wX6_forfeit (l : Launch) (E : pb_E) := pb_RW l E { frames := 3, cells := 0, slots := 0, locals := 68 } RX6 cX6_forfeit 3 (some .int) (fun _ => True) 0 0 (pb_Qf E (fun z : Int32 => some (.int z)))
set_option maxRecDepth 100000 in
set_option maxHeartbeats 4000000 in
theorem evX6_forfeit (l : Launch) (E : pb_E) (v1 : Int32)  (μ : pb_M) : ∀ b μ', pX6_forfeit v1 μ = some (b, μ') → pb_Ev l E yX6_forfeit cX6_forfeit 3 (some .int) { frames := 3, cells := 0, slots := 0, locals := 68 } [.ref (E.2.1 0), .int v1] μ ((fun z : Int32 => some (.int z)) b) μ' := by
  refine pb_enter (L := [some (.ref (E.2.1 0)), some (.int v1), none]) (by decide +kernel) (Nat.le_of_ble_eq_true rfl) (pb_same [none, none, none] rfl) (show wX6_forfeit l E 0 [some (.ref (E.2.1 0)), some (.int v1), none] [] μ (pX6_forfeit v1 μ) from ?_)
  unfold pX6_forfeit
  refine pb_aload_n 1 dX6_forfeit_0 rfl rfl rfl ?_
  refine pb_getR 4 (j := 1) (d := 4) in_X6 rfl (by decide) rfl rfl (by decide) fl_X6_19 dX6_forfeit_1 rfl ?_
  refine pb_iload_n 5 dX6_forfeit_4 rfl rfl rfl ?_
  refine cl_X5_hasBeast 8 pb_V4 ⟨by decide, by decide, by decide, by decide⟩ (Nat.le_of_ble_eq_true rfl) ml_X6_110 dX6_forfeit_5 rfl (fun b5 μ5 => ?_)
  refine pb_if_ne 11 (tgt := 13) dX6_forfeit_8 (by decide) rfl (fun _ => ?_) (fun _ => ?_)
  · refine pb_iconst 12 (v := -1) dX6_forfeit_11 rfl (by decide) ?_
    exact pb_iret dX6_forfeit_12
  · refine pb_aload_n 14 dX6_forfeit_13 rfl rfl rfl ?_
    refine pb_getR 17 (j := 1) (d := 4) in_X6 rfl (by decide) rfl rfl (by decide) fl_X6_19 dX6_forfeit_14 rfl ?_
    refine pb_iload_n 18 dX6_forfeit_17 rfl rfl rfl ?_
    refine cl_X5_isRipe 21 pb_V4 ⟨by decide, by decide, by decide, by decide⟩ (Nat.le_of_ble_eq_true rfl) ml_X6_170 dX6_forfeit_18 rfl (fun b18 μ18 => ?_)
    refine pb_if_ne 24 (tgt := 27) dX6_forfeit_21 (by decide) rfl (fun _ => ?_) (fun _ => ?_)
    · refine pb_bipush 26 (v := -3) dX6_forfeit_24 rfl (by decide) ?_
      exact pb_iret dX6_forfeit_26
    · refine pb_aload_n 28 dX6_forfeit_27 rfl rfl rfl ?_
      refine pb_getR 31 (j := 3) (d := 8) in_X6 rfl (by decide) rfl rfl (by decide) fl_X6_29 dX6_forfeit_28 rfl ?_
      refine pb_aload_n 32 dX6_forfeit_31 rfl rfl rfl ?_
      refine pb_getR 35 (j := 1) (d := 4) in_X6 rfl (by decide) rfl rfl (by decide) fl_X6_19 dX6_forfeit_32 rfl ?_
      refine cl_X0_remember 38 pb_V4 ⟨by decide, by decide, by decide, by decide⟩ (Nat.le_of_ble_eq_true rfl) ml_X6_138 dX6_forfeit_35 rfl (fun b35 μ35 => ?_)
      refine pb_aload_n 39 dX6_forfeit_38 rfl rfl rfl ?_
      refine pb_getR 42 (j := 1) (d := 4) in_X6 rfl (by decide) rfl rfl (by decide) fl_X6_19 dX6_forfeit_39 rfl ?_
      refine pb_iload_n 43 dX6_forfeit_42 rfl rfl rfl ?_
      refine cl_X5_ownerOf 46 pb_V4 ⟨by decide, by decide, by decide, by decide⟩ (Nat.le_of_ble_eq_true rfl) ml_X6_113 dX6_forfeit_43 rfl (fun b43 μ43 => ?_)
      refine pb_istore_n 47 (i := 2) (L' := [some (.ref (E.2.1 0)), some (.int v1), some (.int b43)]) dX6_forfeit_46 rfl (by decide) rfl rfl rfl ?_
      refine pb_aload_n 48 dX6_forfeit_47 rfl rfl rfl ?_
      refine pb_getR 51 (j := 1) (d := 4) in_X6 rfl (by decide) rfl rfl (by decide) fl_X6_19 dX6_forfeit_48 rfl ?_
      refine pb_iload_n 52 dX6_forfeit_51 rfl rfl rfl ?_
      refine cl_X5_handOver 55 pb_V4 ⟨by decide, by decide, by decide, by decide⟩ (Nat.le_of_ble_eq_true rfl) ml_X6_173 dX6_forfeit_52 rfl (fun b52 μ52 => ?_)
      refine pb_iload_n 56 dX6_forfeit_55 rfl rfl rfl ?_
      exact pb_iret dX6_forfeit_56
theorem mc_X6_forfeit : pb_MC yX6_forfeit cX6_forfeit 3 (some .int) 1 := ⟨pb_inW 499 (by decide +kernel) (by decide +kernel), pb_inW 61 (by decide +kernel) (by decide +kernel), by decide +kernel, by decide +kernel, by decide +kernel⟩
theorem mi_X6_forfeit : Cond.instanceMethod yX6_forfeit ∈ pb_gw := pb_inW 497 (by decide +kernel) (by decide +kernel)
theorem ms_X6_forfeit : Cond.selects (yX6_forfeit).cls yX6_forfeit yX6_forfeit ∈ pb_gw := pb_inW 498 (by decide +kernel) (by decide +kernel)
theorem cl_X6_forfeit {α : Type} {l : Launch} {E : pb_E} {R : Room} {own : String} {cc : ByteArray} {mL : Nat} {ret : Option FieldType} {Xs : State → Prop} {nc ns : Nat} {Qf : State → Array Value → List Frame → α → pb_M → State → Prop} {pc : Nat} {L : List (Option Value)} {S : List Value} {μ : pb_M} {f : Int32 → pb_M → Option (α × pb_M)} {v1 : Int32} {index : Nat} (q : Nat)  (hR : 3 + 1 ≤ R.frames ∧ 8 + (3 + 11) + 68 ≤ R.locals ∧ nc ≤ R.cells ∧ ns ≤ R.slots) (hW : (S.map fun v => v.category).sum ≤ 8) (hl1 : Cond.methodLink own index yX6_forfeit ∈ pb_gw) (hdg : decode cc pc = .ok (.invokevirtual index, 3)) (hq : pc + 3 = q) (k : ∀ b1 μ1, pb_RW l E R own cc mL ret Xs nc ns Qf q L (.int b1 :: S) μ1 (f b1 μ1)) : pb_RW l E R own cc mL ret Xs nc ns Qf pc L (.int v1 :: .ref (E.2.1 0) :: S) μ (pb_b (pX6_forfeit v1 μ) f) := pb_callV q (fun z : Int32 => some (.int z)) mc_X6_forfeit mi_X6_forfeit ms_X6_forfeit (fun b1 μ1 h => evX6_forfeit l E v1  μ b1 μ1 h) rfl (by decide) rfl rfl rfl rfl hR rfl hW hl1 hdg hq k
theorem ml_X6_176 : Cond.methodLink RX6 176 yX0_takeBack ∈ pb_gw := pb_inW 513 (by decide +kernel) (by decide +kernel)
theorem ml_X6_180 : Cond.methodLink RX6 180 yX0_size ∈ pb_gw := pb_inW 521 (by decide +kernel) (by decide +kernel)
def pX6_undo  (μ : pb_M) : Option (Int32 × pb_M) :=
  pb_b (pX0_takeBack 4 μ) (fun b8 μ8 =>
  if b8 = (0 : Int32) then
    some ((-3 : Int32), μ8)
  else
  pb_b (pX0_size μ8) (fun b18 μ18 =>
  some (b18, μ18)))
abbrev wX6_undo (l : Launch) (E : pb_E) := pb_RW l E { frames := 3, cells := 0, slots := 0, locals := 61 } RX6 cX6_undo 1 (some .int) (fun _ => True) 0 0 (pb_Qf E (fun z : Int32 => some (.int z)))
set_option maxRecDepth 100000 in
set_option maxHeartbeats 4000000 in
theorem evX6_undo (l : Launch) (E : pb_E)   (μ : pb_M) : ∀ b μ', pX6_undo  μ = some (b, μ') → pb_Ev l E yX6_undo cX6_undo 1 (some .int) { frames := 3, cells := 0, slots := 0, locals := 61 } [.ref (E.2.1 0)] μ ((fun z : Int32 => some (.int z)) b) μ' := by
  refine pb_enter (L := [some (.ref (E.2.1 0))]) (by decide +kernel) (Nat.le_of_ble_eq_true rfl) (pb_same [none] rfl) (show wX6_undo l E 0 [some (.ref (E.2.1 0))] [] μ (pX6_undo  μ) from ?_)
  unfold pX6_undo
  refine pb_aload_n 1 dX6_undo_0 rfl rfl rfl ?_
  refine pb_getR 4 (j := 3) (d := 8) in_X6 rfl (by decide) rfl rfl (by decide) fl_X6_29 dX6_undo_1 rfl ?_
  refine pb_aload_n 5 dX6_undo_4 rfl rfl rfl ?_
  refine pb_getR 8 (j := 1) (d := 4) in_X6 rfl (by decide) rfl rfl (by decide) fl_X6_19 dX6_undo_5 rfl ?_
  refine cl_X0_takeBack 11 pb_V4 ⟨by decide, by decide, by decide, by decide⟩ (Nat.le_of_ble_eq_true rfl) ml_X6_176 dX6_undo_8 rfl (fun b8 μ8 => ?_)
  refine pb_if_eq 14 (tgt := 24) dX6_undo_11 (by decide) rfl (fun _ => ?_) (fun _ => ?_)
  · refine pb_bipush 26 (v := -3) dX6_undo_24 rfl (by decide) ?_
    exact pb_iret dX6_undo_26
  · refine pb_aload_n 15 dX6_undo_14 rfl rfl rfl ?_
    refine pb_getR 18 (j := 3) (d := 8) in_X6 rfl (by decide) rfl rfl (by decide) fl_X6_29 dX6_undo_15 rfl ?_
    refine cl_X0_size 21 ⟨by decide, by decide, by decide, by decide⟩ (Nat.le_of_ble_eq_true rfl) ml_X6_180 dX6_undo_18 rfl (fun b18 μ18 => ?_)
    refine pb_goto (tgt := 26) dX6_undo_21 (by decide) ?_
    exact pb_iret dX6_undo_26
theorem mc_X6_undo : pb_MC yX6_undo cX6_undo 1 (some .int) 0 := ⟨pb_inW 512 (by decide +kernel) (by decide +kernel), pb_inW 61 (by decide +kernel) (by decide +kernel), by decide +kernel, by decide +kernel, by decide +kernel⟩
theorem mi_X6_undo : Cond.instanceMethod yX6_undo ∈ pb_gw := pb_inW 510 (by decide +kernel) (by decide +kernel)
theorem ms_X6_undo : Cond.selects (yX6_undo).cls yX6_undo yX6_undo ∈ pb_gw := pb_inW 511 (by decide +kernel) (by decide +kernel)
theorem cl_X6_undo {α : Type} {l : Launch} {E : pb_E} {R : Room} {own : String} {cc : ByteArray} {mL : Nat} {ret : Option FieldType} {Xs : State → Prop} {nc ns : Nat} {Qf : State → Array Value → List Frame → α → pb_M → State → Prop} {pc : Nat} {L : List (Option Value)} {S : List Value} {μ : pb_M} {f : Int32 → pb_M → Option (α × pb_M)}  {index : Nat} (q : Nat)  (hR : 3 + 1 ≤ R.frames ∧ 8 + (1 + 11) + 61 ≤ R.locals ∧ nc ≤ R.cells ∧ ns ≤ R.slots) (hW : (S.map fun v => v.category).sum ≤ 8) (hl1 : Cond.methodLink own index yX6_undo ∈ pb_gw) (hdg : decode cc pc = .ok (.invokevirtual index, 3)) (hq : pc + 3 = q) (k : ∀ b1 μ1, pb_RW l E R own cc mL ret Xs nc ns Qf q L (.int b1 :: S) μ1 (f b1 μ1)) : pb_RW l E R own cc mL ret Xs nc ns Qf pc L (.ref (E.2.1 0) :: S) μ (pb_b (pX6_undo  μ) f) := pb_callV q (fun z : Int32 => some (.int z)) mc_X6_undo mi_X6_undo ms_X6_undo (fun b1 μ1 h => evX6_undo l E   μ b1 μ1 h) rfl (by decide) rfl rfl rfl rfl hR rfl hW hl1 hdg hq k
def pX6_clause (v1 : Int32) (v2 : Int32) (μ : pb_M) : Option (Int32 × pb_M) :=
  pb_b (pX5_hasPerson 4 v1 μ) (fun b5 μ5 =>
  if b5 = (0 : Int32) then
    some ((-1 : Int32), μ5)
  else
  pb_b (pX5_hasBeast 4 v2 μ5) (fun b16 μ16 =>
  if b16 = (0 : Int32) then
    some ((-1 : Int32), μ16)
  else
  pb_b (pX5_clauseFor 4 v1 v2 μ16) (fun b30 μ30 =>
  some (b30, μ30))))
abbrev wX6_clause (l : Launch) (E : pb_E) := pb_RW l E { frames := 3, cells := 0, slots := 0, locals := 65 } RX6 cX6_clause 3 (some .int) (fun _ => True) 0 0 (pb_Qf E (fun z : Int32 => some (.int z)))
set_option maxRecDepth 100000 in
set_option maxHeartbeats 4000000 in
theorem evX6_clause (l : Launch) (E : pb_E) (v1 : Int32) (v2 : Int32)  (μ : pb_M) : ∀ b μ', pX6_clause v1 v2 μ = some (b, μ') → pb_Ev l E yX6_clause cX6_clause 3 (some .int) { frames := 3, cells := 0, slots := 0, locals := 65 } [.ref (E.2.1 0), .int v1, .int v2] μ ((fun z : Int32 => some (.int z)) b) μ' := by
  refine pb_enter (L := [some (.ref (E.2.1 0)), some (.int v1), some (.int v2)]) (by decide +kernel) (Nat.le_of_ble_eq_true rfl) (pb_same [none, none, none] rfl) (show wX6_clause l E 0 [some (.ref (E.2.1 0)), some (.int v1), some (.int v2)] [] μ (pX6_clause v1 v2 μ) from ?_)
  unfold pX6_clause
  refine pb_aload_n 1 dX6_clause_0 rfl rfl rfl ?_
  refine pb_getR 4 (j := 1) (d := 4) in_X6 rfl (by decide) rfl rfl (by decide) fl_X6_19 dX6_clause_1 rfl ?_
  refine pb_iload_n 5 dX6_clause_4 rfl rfl rfl ?_
  refine cl_X5_hasPerson 8 pb_V4 ⟨by decide, by decide, by decide, by decide⟩ (Nat.le_of_ble_eq_true rfl) ml_X6_91 dX6_clause_5 rfl (fun b5 μ5 => ?_)
  refine pb_if_eq 11 (tgt := 22) dX6_clause_8 (by decide) rfl (fun _ => ?_) (fun _ => ?_)
  · refine pb_iconst 23 (v := -1) dX6_clause_22 rfl (by decide) ?_
    exact pb_iret dX6_clause_23
  · refine pb_aload_n 12 dX6_clause_11 rfl rfl rfl ?_
    refine pb_getR 15 (j := 1) (d := 4) in_X6 rfl (by decide) rfl rfl (by decide) fl_X6_19 dX6_clause_12 rfl ?_
    refine pb_iload_n 16 dX6_clause_15 rfl rfl rfl ?_
    refine cl_X5_hasBeast 19 pb_V4 ⟨by decide, by decide, by decide, by decide⟩ (Nat.le_of_ble_eq_true rfl) ml_X6_110 dX6_clause_16 rfl (fun b16 μ16 => ?_)
    refine pb_if_ne 22 (tgt := 24) dX6_clause_19 (by decide) rfl (fun _ => ?_) (fun _ => ?_)
    · refine pb_iconst 23 (v := -1) dX6_clause_22 rfl (by decide) ?_
      exact pb_iret dX6_clause_23
    · refine pb_aload_n 25 dX6_clause_24 rfl rfl rfl ?_
      refine pb_getR 28 (j := 1) (d := 4) in_X6 rfl (by decide) rfl rfl (by decide) fl_X6_19 dX6_clause_25 rfl ?_
      refine pb_iload_n 29 dX6_clause_28 rfl rfl rfl ?_
      refine pb_iload_n 30 dX6_clause_29 rfl rfl rfl ?_
      refine cl_X5_clauseFor 33 pb_V4 ⟨by decide, by decide, by decide, by decide⟩ (Nat.le_of_ble_eq_true rfl) ml_X6_135 dX6_clause_30 rfl (fun b30 μ30 => ?_)
      exact pb_iret dX6_clause_33
theorem mc_X6_clause : pb_MC yX6_clause cX6_clause 3 (some .int) 2 := ⟨pb_inW 528 (by decide +kernel) (by decide +kernel), pb_inW 61 (by decide +kernel) (by decide +kernel), by decide +kernel, by decide +kernel, by decide +kernel⟩
theorem mi_X6_clause : Cond.instanceMethod yX6_clause ∈ pb_gw := pb_inW 526 (by decide +kernel) (by decide +kernel)
theorem ms_X6_clause : Cond.selects (yX6_clause).cls yX6_clause yX6_clause ∈ pb_gw := pb_inW 527 (by decide +kernel) (by decide +kernel)
theorem cl_X6_clause {α : Type} {l : Launch} {E : pb_E} {R : Room} {own : String} {cc : ByteArray} {mL : Nat} {ret : Option FieldType} {Xs : State → Prop} {nc ns : Nat} {Qf : State → Array Value → List Frame → α → pb_M → State → Prop} {pc : Nat} {L : List (Option Value)} {S : List Value} {μ : pb_M} {f : Int32 → pb_M → Option (α × pb_M)} {v1 : Int32} {v2 : Int32} {index : Nat} (q : Nat)  (hR : 3 + 1 ≤ R.frames ∧ 8 + (3 + 11) + 65 ≤ R.locals ∧ nc ≤ R.cells ∧ ns ≤ R.slots) (hW : (S.map fun v => v.category).sum ≤ 8) (hl1 : Cond.methodLink own index yX6_clause ∈ pb_gw) (hdg : decode cc pc = .ok (.invokevirtual index, 3)) (hq : pc + 3 = q) (k : ∀ b1 μ1, pb_RW l E R own cc mL ret Xs nc ns Qf q L (.int b1 :: S) μ1 (f b1 μ1)) : pb_RW l E R own cc mL ret Xs nc ns Qf pc L (.int v2 :: .int v1 :: .ref (E.2.1 0) :: S) μ (pb_b (pX6_clause v1 v2 μ) f) := pb_callV q (fun z : Int32 => some (.int z)) mc_X6_clause mi_X6_clause ms_X6_clause (fun b1 μ1 h => evX6_clause l E v1 v2  μ b1 μ1 h) rfl (by decide) rfl rfl rfl rfl hR rfl hW hl1 hdg hq k
def pX6_worth_L39 (v1 : Int32) (v2 : Int32) (K57 : pb_M → Option (Int32 × pb_M)) : Nat → Int32 → pb_M → Option (Int32 × pb_M)
  | 0, _, _ => none
  | n + 1, v3, μ =>
    if v2 ≤ v3 then
      K57 μ
    else
    pb_b (pX5_passDay 6 μ) (fun b48 μ48 =>
    pX6_worth_L39 v1 v2 K57 n (v3 + (1 : Int32)) μ48)
def pX6_worth (v1 : Int32) (v2 : Int32) (μ : pb_M) : Option (Int32 × pb_M) :=
  pb_b (pX5_hasBeast 4 v1 μ) (fun b5 μ5 =>
  if b5 = (0 : Int32) then
    some ((-1 : Int32), μ5)
  else
  if v2 < (0 : Int32) then
    some ((-2 : Int32), μ5)
  else
  if v2 ≤ (9 : Int32) then
    pb_b (pX5_copyFrom 6 4 μ5) (fun b34 μ34 =>
    pX6_worth_L39 v1 v2 (fun μk57 =>
      pb_b (pX5_worthOf 6 v1 μk57) (fun b62 μ62 =>
      some (b62, μ62))) pb_F (0 : Int32) μ34)
  else
  some ((-2 : Int32), μ5))
abbrev wX6_worth (l : Launch) (E : pb_E) := pb_RW l E { frames := 4, cells := 0, slots := 0, locals := 86 } RX6 cX6_worth 4 (some .int) (fun _ => True) 0 0 (pb_Qf E (fun z : Int32 => some (.int z)))
set_option maxRecDepth 100000 in
set_option maxHeartbeats 4000000 in
theorem tX6_worth_L39 (l : Launch) (E : pb_E) (v1 : Int32) (v2 : Int32) {K57 : pb_M → Option (Int32 × pb_M)} (hK57 : ∀  (μ : pb_M), wX6_worth l E 57 [some (.ref (E.2.1 0)), some (.int v1), none, none] [] μ (K57  μ)) : ∀ (n : Nat) (v3 : Int32) (μ : pb_M), wX6_worth l E 39 [some (.ref (E.2.1 0)), some (.int v1), some (.int v2), some (.int v3)] [] μ (pX6_worth_L39 v1 v2 K57 n v3 μ) := by
  intro n
  induction n with
  | zero => intro v3 μ; exact pb_none
  | succ n ih =>
    intro v3 μ
    rw [pX6_worth_L39]
    refine pb_iload_n 40 dX6_worth_39 rfl rfl rfl ?_
    refine pb_iload_n 41 dX6_worth_40 rfl rfl rfl ?_
    refine pb_icmp_ge 44 (tgt := 57) dX6_worth_41 (by decide) rfl (fun _ => ?_) (fun _ => ?_)
    · refine pb_weakM (L' := [some (.ref (E.2.1 0)), some (.int v1), none, none]) [true, true, false, false] rfl ?_
      exact hK57 μ
    · refine pb_aload_n 45 dX6_worth_44 rfl rfl rfl ?_
      refine pb_getR 48 (j := 2) (d := 6) in_X6 rfl (by decide) rfl rfl (by decide) fl_X6_23 dX6_worth_45 rfl ?_
      refine cl_X5_passDay 51 pb_V6 ⟨by decide, by decide, by decide, by decide⟩ (Nat.le_of_ble_eq_true rfl) ml_X6_149 dX6_worth_48 rfl (fun b48 μ48 => ?_)
      refine pb_iinc 54 (i := 3) (v := (v3 + (1 : Int32))) (L' := [some (.ref (E.2.1 0)), some (.int v1), some (.int v2), some (.int (v3 + (1 : Int32)))]) dX6_worth_51 rfl rfl (by decide) rfl rfl rfl ?_
      refine pb_goto (tgt := 39) dX6_worth_54 (by decide) ?_
      exact ih (v3 + (1 : Int32)) μ48
set_option maxRecDepth 100000 in
set_option maxHeartbeats 4000000 in
theorem evX6_worth (l : Launch) (E : pb_E) (v1 : Int32) (v2 : Int32)  (μ : pb_M) : ∀ b μ', pX6_worth v1 v2 μ = some (b, μ') → pb_Ev l E yX6_worth cX6_worth 4 (some .int) { frames := 4, cells := 0, slots := 0, locals := 86 } [.ref (E.2.1 0), .int v1, .int v2] μ ((fun z : Int32 => some (.int z)) b) μ' := by
  refine pb_enter (L := [some (.ref (E.2.1 0)), some (.int v1), some (.int v2), none]) (by decide +kernel) (Nat.le_of_ble_eq_true rfl) (pb_same [none, none, none, none] rfl) (show wX6_worth l E 0 [some (.ref (E.2.1 0)), some (.int v1), some (.int v2), none] [] μ (pX6_worth v1 v2 μ) from ?_)
  unfold pX6_worth
  refine pb_aload_n 1 dX6_worth_0 rfl rfl rfl ?_
  refine pb_getR 4 (j := 1) (d := 4) in_X6 rfl (by decide) rfl rfl (by decide) fl_X6_19 dX6_worth_1 rfl ?_
  refine pb_iload_n 5 dX6_worth_4 rfl rfl rfl ?_
  refine cl_X5_hasBeast 8 pb_V4 ⟨by decide, by decide, by decide, by decide⟩ (Nat.le_of_ble_eq_true rfl) ml_X6_110 dX6_worth_5 rfl (fun b5 μ5 => ?_)
  refine pb_if_ne 11 (tgt := 13) dX6_worth_8 (by decide) rfl (fun _ => ?_) (fun _ => ?_)
  · refine pb_iconst 12 (v := -1) dX6_worth_11 rfl (by decide) ?_
    exact pb_iret dX6_worth_12
  · refine pb_iload_n 14 dX6_worth_13 rfl rfl rfl ?_
    refine pb_if_lt 17 (tgt := 23) dX6_worth_14 (by decide) rfl (fun _ => ?_) (fun _ => ?_)
    · refine pb_bipush 25 (v := -2) dX6_worth_23 rfl (by decide) ?_
      exact pb_iret dX6_worth_25
    · refine pb_iload_n 18 dX6_worth_17 rfl rfl rfl ?_
      refine pb_bipush 20 (v := 9) dX6_worth_18 rfl (by decide) ?_
      refine pb_icmp_le 23 (tgt := 26) dX6_worth_20 (by decide) rfl (fun _ => ?_) (fun _ => ?_)
      · refine pb_aload_n 27 dX6_worth_26 rfl rfl rfl ?_
        refine pb_getR 30 (j := 2) (d := 6) in_X6 rfl (by decide) rfl rfl (by decide) fl_X6_23 dX6_worth_27 rfl ?_
        refine pb_aload_n 31 dX6_worth_30 rfl rfl rfl ?_
        refine pb_getR 34 (j := 1) (d := 4) in_X6 rfl (by decide) rfl rfl (by decide) fl_X6_19 dX6_worth_31 rfl ?_
        refine cl_X5_copyFrom 37 pb_V6 pb_V4 ⟨by decide, by decide, by decide, by decide⟩ (Nat.le_of_ble_eq_true rfl) ml_X6_76 dX6_worth_34 rfl (fun b34 μ34 => ?_)
        refine pb_iconst 38 (v := 0) dX6_worth_37 rfl (by decide) ?_
        refine pb_istore_n 39 (i := 3) (L' := [some (.ref (E.2.1 0)), some (.int v1), some (.int v2), some (.int (0 : Int32))]) dX6_worth_38 rfl (by decide) rfl rfl rfl ?_
        refine tX6_worth_L39 l E v1 v2 (fun μk57 => ?_) pb_F (0 : Int32) μ34
        refine pb_aload_n 58 dX6_worth_57 rfl rfl rfl ?_
        refine pb_getR 61 (j := 2) (d := 6) in_X6 rfl (by decide) rfl rfl (by decide) fl_X6_23 dX6_worth_58 rfl ?_
        refine pb_iload_n 62 dX6_worth_61 rfl rfl rfl ?_
        refine cl_X5_worthOf 65 pb_V6 ⟨by decide, by decide, by decide, by decide⟩ (Nat.le_of_ble_eq_true rfl) ml_X6_116 dX6_worth_62 rfl (fun b62 μ62 => ?_)
        exact pb_iret dX6_worth_65
      · refine pb_bipush 25 (v := -2) dX6_worth_23 rfl (by decide) ?_
        exact pb_iret dX6_worth_25
theorem mc_X6_worth : pb_MC yX6_worth cX6_worth 4 (some .int) 2 := ⟨pb_inW 532 (by decide +kernel) (by decide +kernel), pb_inW 61 (by decide +kernel) (by decide +kernel), by decide +kernel, by decide +kernel, by decide +kernel⟩
theorem mi_X6_worth : Cond.instanceMethod yX6_worth ∈ pb_gw := pb_inW 530 (by decide +kernel) (by decide +kernel)
theorem ms_X6_worth : Cond.selects (yX6_worth).cls yX6_worth yX6_worth ∈ pb_gw := pb_inW 531 (by decide +kernel) (by decide +kernel)
theorem cl_X6_worth {α : Type} {l : Launch} {E : pb_E} {R : Room} {own : String} {cc : ByteArray} {mL : Nat} {ret : Option FieldType} {Xs : State → Prop} {nc ns : Nat} {Qf : State → Array Value → List Frame → α → pb_M → State → Prop} {pc : Nat} {L : List (Option Value)} {S : List Value} {μ : pb_M} {f : Int32 → pb_M → Option (α × pb_M)} {v1 : Int32} {v2 : Int32} {index : Nat} (q : Nat)  (hR : 4 + 1 ≤ R.frames ∧ 8 + (4 + 11) + 86 ≤ R.locals ∧ nc ≤ R.cells ∧ ns ≤ R.slots) (hW : (S.map fun v => v.category).sum ≤ 8) (hl1 : Cond.methodLink own index yX6_worth ∈ pb_gw) (hdg : decode cc pc = .ok (.invokevirtual index, 3)) (hq : pc + 3 = q) (k : ∀ b1 μ1, pb_RW l E R own cc mL ret Xs nc ns Qf q L (.int b1 :: S) μ1 (f b1 μ1)) : pb_RW l E R own cc mL ret Xs nc ns Qf pc L (.int v2 :: .int v1 :: .ref (E.2.1 0) :: S) μ (pb_b (pX6_worth v1 v2 μ) f) := pb_callV q (fun z : Int32 => some (.int z)) mc_X6_worth mi_X6_worth ms_X6_worth (fun b1 μ1 h => evX6_worth l E v1 v2  μ b1 μ1 h) rfl (by decide) rfl rfl rfl rfl hR rfl hW hl1 hdg hq k
def pX6_owedAfterKeeping_L23 (v1 : Int32) (v2 : Int32) (v3 : Int32) (K42 : pb_M → Option (Int32 × pb_M)) : Nat → Int32 → pb_M → Option (Int32 × pb_M)
  | 0, _, _ => none
  | n + 1, v4, μ =>
    if (3 : Int32) ≤ v4 then
      K42 μ
    else
    pb_b (pX5_passDay 6 μ) (fun b33 μ33 =>
    pX6_owedAfterKeeping_L23 v1 v2 v3 K42 n (v4 + (1 : Int32)) μ33)
def pX6_owedAfterKeeping (v1 : Int32) (v2 : Int32) (v3 : Int32) (μ : pb_M) : Option (Int32 × pb_M) :=
  pb_b (pX5_copyFrom 6 4 μ) (fun b8 μ8 =>
  pb_b (pX5_shutIn 6 v1 v3 μ8) (fun b17 μ17 =>
  pX6_owedAfterKeeping_L23 v1 v2 v3 (fun μk42 =>
    pb_b (pX5_isRipe 6 v3 μk42) (fun b47 μ47 =>
    if b47 = (0 : Int32) then
      pb_b (pX5_debt 6 v2 v1 μ47) (fun b67 μ67 =>
      some (b67, μ67))
    else
    pb_b (pX5_handOver 6 v3 μ47) (fun b58 μ58 =>
    pb_b (pX5_debt 6 v2 v1 μ58) (fun b67 μ67 =>
    some (b67, μ67))))) pb_F (0 : Int32) μ17))
abbrev wX6_owedAfterKeeping (l : Launch) (E : pb_E) := pb_RW l E { frames := 4, cells := 0, slots := 0, locals := 86 } RX6 cX6_owedAfterKeeping 5 (some .int) (fun _ => True) 0 0 (pb_Qf E (fun z : Int32 => some (.int z)))
set_option maxRecDepth 100000 in
set_option maxHeartbeats 4000000 in
theorem tX6_owedAfterKeeping_L23 (l : Launch) (E : pb_E) (v1 : Int32) (v2 : Int32) (v3 : Int32) {K42 : pb_M → Option (Int32 × pb_M)} (hK42 : ∀  (μ : pb_M), wX6_owedAfterKeeping l E 42 [some (.ref (E.2.1 0)), some (.int v1), some (.int v2), some (.int v3), none] [] μ (K42  μ)) : ∀ (n : Nat) (v4 : Int32) (μ : pb_M), wX6_owedAfterKeeping l E 23 [some (.ref (E.2.1 0)), some (.int v1), some (.int v2), some (.int v3), some (.int v4)] [] μ (pX6_owedAfterKeeping_L23 v1 v2 v3 K42 n v4 μ) := by
  intro n
  induction n with
  | zero => intro v4 μ; exact pb_none
  | succ n ih =>
    intro v4 μ
    rw [pX6_owedAfterKeeping_L23]
    refine pb_iload 25 dX6_owedAfterKeeping_23 rfl rfl ?_
    refine pb_iconst 26 (v := 3) dX6_owedAfterKeeping_25 rfl (by decide) ?_
    refine pb_icmp_ge 29 (tgt := 42) dX6_owedAfterKeeping_26 (by decide) rfl (fun _ => ?_) (fun _ => ?_)
    · refine pb_weakM (L' := [some (.ref (E.2.1 0)), some (.int v1), some (.int v2), some (.int v3), none]) [true, true, true, true, false] rfl ?_
      exact hK42 μ
    · refine pb_aload_n 30 dX6_owedAfterKeeping_29 rfl rfl rfl ?_
      refine pb_getR 33 (j := 2) (d := 6) in_X6 rfl (by decide) rfl rfl (by decide) fl_X6_23 dX6_owedAfterKeeping_30 rfl ?_
      refine cl_X5_passDay 36 pb_V6 ⟨by decide, by decide, by decide, by decide⟩ (Nat.le_of_ble_eq_true rfl) ml_X6_149 dX6_owedAfterKeeping_33 rfl (fun b33 μ33 => ?_)
      refine pb_iinc 39 (i := 4) (v := (v4 + (1 : Int32))) (L' := [some (.ref (E.2.1 0)), some (.int v1), some (.int v2), some (.int v3), some (.int (v4 + (1 : Int32)))]) dX6_owedAfterKeeping_36 rfl rfl (by decide) rfl rfl rfl ?_
      refine pb_goto (tgt := 23) dX6_owedAfterKeeping_39 (by decide) ?_
      exact ih (v4 + (1 : Int32)) μ33
set_option maxRecDepth 100000 in
set_option maxHeartbeats 4000000 in
theorem evX6_owedAfterKeeping (l : Launch) (E : pb_E) (v1 : Int32) (v2 : Int32) (v3 : Int32)  (μ : pb_M) : ∀ b μ', pX6_owedAfterKeeping v1 v2 v3 μ = some (b, μ') → pb_Ev l E yX6_owedAfterKeeping cX6_owedAfterKeeping 5 (some .int) { frames := 4, cells := 0, slots := 0, locals := 86 } [.ref (E.2.1 0), .int v1, .int v2, .int v3] μ ((fun z : Int32 => some (.int z)) b) μ' := by
  refine pb_enter (L := [some (.ref (E.2.1 0)), some (.int v1), some (.int v2), some (.int v3), none]) (by decide +kernel) (Nat.le_of_ble_eq_true rfl) (pb_same [none, none, none, none, none] rfl) (show wX6_owedAfterKeeping l E 0 [some (.ref (E.2.1 0)), some (.int v1), some (.int v2), some (.int v3), none] [] μ (pX6_owedAfterKeeping v1 v2 v3 μ) from ?_)
  unfold pX6_owedAfterKeeping
  refine pb_aload_n 1 dX6_owedAfterKeeping_0 rfl rfl rfl ?_
  refine pb_getR 4 (j := 2) (d := 6) in_X6 rfl (by decide) rfl rfl (by decide) fl_X6_23 dX6_owedAfterKeeping_1 rfl ?_
  refine pb_aload_n 5 dX6_owedAfterKeeping_4 rfl rfl rfl ?_
  refine pb_getR 8 (j := 1) (d := 4) in_X6 rfl (by decide) rfl rfl (by decide) fl_X6_19 dX6_owedAfterKeeping_5 rfl ?_
  refine cl_X5_copyFrom 11 pb_V6 pb_V4 ⟨by decide, by decide, by decide, by decide⟩ (Nat.le_of_ble_eq_true rfl) ml_X6_76 dX6_owedAfterKeeping_8 rfl (fun b8 μ8 => ?_)
  refine pb_aload_n 12 dX6_owedAfterKeeping_11 rfl rfl rfl ?_
  refine pb_getR 15 (j := 2) (d := 6) in_X6 rfl (by decide) rfl rfl (by decide) fl_X6_23 dX6_owedAfterKeeping_12 rfl ?_
  refine pb_iload_n 16 dX6_owedAfterKeeping_15 rfl rfl rfl ?_
  refine pb_iload_n 17 dX6_owedAfterKeeping_16 rfl rfl rfl ?_
  refine cl_X5_shutIn 20 pb_V6 ⟨by decide, by decide, by decide, by decide⟩ (Nat.le_of_ble_eq_true rfl) ml_X6_141 dX6_owedAfterKeeping_17 rfl (fun b17 μ17 => ?_)
  refine pb_iconst 21 (v := 0) dX6_owedAfterKeeping_20 rfl (by decide) ?_
  refine pb_istore 23 (i := 4) (L' := [some (.ref (E.2.1 0)), some (.int v1), some (.int v2), some (.int v3), some (.int (0 : Int32))]) dX6_owedAfterKeeping_21 (by decide) rfl rfl rfl ?_
  refine tX6_owedAfterKeeping_L23 l E v1 v2 v3 (fun μk42 => ?_) pb_F (0 : Int32) μ17
  refine pb_aload_n 43 dX6_owedAfterKeeping_42 rfl rfl rfl ?_
  refine pb_getR 46 (j := 2) (d := 6) in_X6 rfl (by decide) rfl rfl (by decide) fl_X6_23 dX6_owedAfterKeeping_43 rfl ?_
  refine pb_iload_n 47 dX6_owedAfterKeeping_46 rfl rfl rfl ?_
  refine cl_X5_isRipe 50 pb_V6 ⟨by decide, by decide, by decide, by decide⟩ (Nat.le_of_ble_eq_true rfl) ml_X6_170 dX6_owedAfterKeeping_47 rfl (fun b47 μ47 => ?_)
  refine pb_if_eq 53 (tgt := 61) dX6_owedAfterKeeping_50 (by decide) rfl (fun _ => ?_) (fun _ => ?_)
  · refine pb_aload_n 62 dX6_owedAfterKeeping_61 rfl rfl rfl ?_
    refine pb_getR 65 (j := 2) (d := 6) in_X6 rfl (by decide) rfl rfl (by decide) fl_X6_23 dX6_owedAfterKeeping_62 rfl ?_
    refine pb_iload_n 66 dX6_owedAfterKeeping_65 rfl rfl rfl ?_
    refine pb_iload_n 67 dX6_owedAfterKeeping_66 rfl rfl rfl ?_
    refine cl_X5_debt 70 pb_V6 ⟨by decide, by decide, by decide, by decide⟩ (Nat.le_of_ble_eq_true rfl) ml_X6_131 dX6_owedAfterKeeping_67 rfl (fun b67 μ67 => ?_)
    exact pb_iret dX6_owedAfterKeeping_70
  · refine pb_aload_n 54 dX6_owedAfterKeeping_53 rfl rfl rfl ?_
    refine pb_getR 57 (j := 2) (d := 6) in_X6 rfl (by decide) rfl rfl (by decide) fl_X6_23 dX6_owedAfterKeeping_54 rfl ?_
    refine pb_iload_n 58 dX6_owedAfterKeeping_57 rfl rfl rfl ?_
    refine cl_X5_handOver 61 pb_V6 ⟨by decide, by decide, by decide, by decide⟩ (Nat.le_of_ble_eq_true rfl) ml_X6_173 dX6_owedAfterKeeping_58 rfl (fun b58 μ58 => ?_)
    refine pb_aload_n 62 dX6_owedAfterKeeping_61 rfl rfl rfl ?_
    refine pb_getR 65 (j := 2) (d := 6) in_X6 rfl (by decide) rfl rfl (by decide) fl_X6_23 dX6_owedAfterKeeping_62 rfl ?_
    refine pb_iload_n 66 dX6_owedAfterKeeping_65 rfl rfl rfl ?_
    refine pb_iload_n 67 dX6_owedAfterKeeping_66 rfl rfl rfl ?_
    refine cl_X5_debt 70 pb_V6 ⟨by decide, by decide, by decide, by decide⟩ (Nat.le_of_ble_eq_true rfl) ml_X6_131 dX6_owedAfterKeeping_67 rfl (fun b67 μ67 => ?_)
    exact pb_iret dX6_owedAfterKeeping_70
theorem mc_X6_owedAfterKeeping : pb_MC yX6_owedAfterKeeping cX6_owedAfterKeeping 5 (some .int) 3 := ⟨pb_inW 548 (by decide +kernel) (by decide +kernel), pb_inW 61 (by decide +kernel) (by decide +kernel), by decide +kernel, by decide +kernel, by decide +kernel⟩
theorem mi_X6_owedAfterKeeping : Cond.instanceMethod yX6_owedAfterKeeping ∈ pb_gw := pb_inW 547 (by decide +kernel) (by decide +kernel)
theorem ms_X6_owedAfterKeeping : Cond.selects (yX6_owedAfterKeeping).cls yX6_owedAfterKeeping yX6_owedAfterKeeping ∈ pb_gw := pb_inW 10 (by decide +kernel) (by decide +kernel)
theorem cl_X6_owedAfterKeeping {α : Type} {l : Launch} {E : pb_E} {R : Room} {own : String} {cc : ByteArray} {mL : Nat} {ret : Option FieldType} {Xs : State → Prop} {nc ns : Nat} {Qf : State → Array Value → List Frame → α → pb_M → State → Prop} {pc : Nat} {L : List (Option Value)} {S : List Value} {μ : pb_M} {f : Int32 → pb_M → Option (α × pb_M)} {v1 : Int32} {v2 : Int32} {v3 : Int32} {index : Nat} (q : Nat)  (hR : 4 + 1 ≤ R.frames ∧ 8 + (5 + 11) + 86 ≤ R.locals ∧ nc ≤ R.cells ∧ ns ≤ R.slots) (hW : (S.map fun v => v.category).sum ≤ 8) (hl1 : Cond.methodLink own index yX6_owedAfterKeeping ∈ pb_gw) (hdg : decode cc pc = .ok (.invokevirtual index, 3)) (hq : pc + 3 = q) (k : ∀ b1 μ1, pb_RW l E R own cc mL ret Xs nc ns Qf q L (.int b1 :: S) μ1 (f b1 μ1)) : pb_RW l E R own cc mL ret Xs nc ns Qf pc L (.int v3 :: .int v2 :: .int v1 :: .ref (E.2.1 0) :: S) μ (pb_b (pX6_owedAfterKeeping v1 v2 v3 μ) f) := pb_callV q (fun z : Int32 => some (.int z)) mc_X6_owedAfterKeeping mi_X6_owedAfterKeeping ms_X6_owedAfterKeeping (fun b1 μ1 h => evX6_owedAfterKeeping l E v1 v2 v3  μ b1 μ1 h) rfl (by decide) rfl rfl rfl rfl hR rfl hW hl1 hdg hq k
