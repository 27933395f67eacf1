def pX6_keepIfRipe (v1 : Int32) (μ : pb_M) : Option (Int32 × pb_M) :=
  pb_b (pX5_hasBeast 6 v1 μ) (fun b5 μ5 =>
  if b5 = (0 : Int32) then
    some ((0 : Int32), μ5)
  else
  pb_b (pX5_isRipe 6 v1 μ5) (fun b16 μ16 =>
  if b16 = (0 : Int32) then
    some ((0 : Int32), μ16)
  else
  pb_b (pX5_handOver 6 v1 μ16) (fun b29 μ29 =>
  some ((1 : Int32), μ29))))
abbrev wX6_keepIfRipe (l : Launch) (E : pb_E) := pb_RW l E { frames := 3, cells := 0, slots := 0, locals := 68 } RX6 cX6_keepIfRipe 2 (some .boolean) (fun _ => True) 0 0 (pb_Qf E (fun z : Int32 => some (.int z)))
set_option maxRecDepth 100000 in
set_option maxHeartbeats 4000000 in
theorem evX6_keepIfRipe (l : Launch) (E : pb_E) (v1 : Int32)  (μ : pb_M) : ∀ b μ', pX6_keepIfRipe v1 μ = some (b, μ') → pb_Ev l E yX6_keepIfRipe cX6_keepIfRipe 2 (some .boolean) { frames := 3, cells := 0, slots := 0, locals := 68 } [.ref (E.2.1 0), .int v1] μ ((fun z : Int32 => some (.int z)) b) μ' := by
  refine pb_enter (L := [some (.ref (E.2.1 0)), some (.int v1)]) (by decide +kernel) (Nat.le_of_ble_eq_true rfl) (pb_same [none, none] rfl) (show wX6_keepIfRipe l E 0 [some (.ref (E.2.1 0)), some (.int v1)] [] μ (pX6_keepIfRipe v1 μ) from ?_)
  unfold pX6_keepIfRipe
  refine pb_aload_n 1 dX6_keepIfRipe_0 rfl rfl rfl ?_
  refine pb_getR 4 (j := 2) (d := 6) in_X6 rfl (by decide) rfl rfl (by decide) fl_X6_23 dX6_keepIfRipe_1 rfl ?_
  refine pb_iload_n 5 dX6_keepIfRipe_4 rfl rfl rfl ?_
  refine cl_X5_hasBeast 8 pb_V6 ⟨by decide, by decide, by decide, by decide⟩ (Nat.le_of_ble_eq_true rfl) ml_X6_110 dX6_keepIfRipe_5 rfl (fun b5 μ5 => ?_)
  refine pb_if_eq 11 (tgt := 22) dX6_keepIfRipe_8 (by decide) rfl (fun _ => ?_) (fun _ => ?_)
  · refine pb_iconst 23 (v := 0) dX6_keepIfRipe_22 rfl (by decide) ?_
    exact pb_zret rfl dX6_keepIfRipe_23
  · refine pb_aload_n 12 dX6_keepIfRipe_11 rfl rfl rfl ?_
    refine pb_getR 15 (j := 2) (d := 6) in_X6 rfl (by decide) rfl rfl (by decide) fl_X6_23 dX6_keepIfRipe_12 rfl ?_
    refine pb_iload_n 16 dX6_keepIfRipe_15 rfl rfl rfl ?_
    refine cl_X5_isRipe 19 pb_V6 ⟨by decide, by decide, by decide, by decide⟩ (Nat.le_of_ble_eq_true rfl) ml_X6_170 dX6_keepIfRipe_16 rfl (fun b16 μ16 => ?_)
    refine pb_if_ne 22 (tgt := 24) dX6_keepIfRipe_19 (by decide) rfl (fun _ => ?_) (fun _ => ?_)
    · refine pb_iconst 23 (v := 0) dX6_keepIfRipe_22 rfl (by decide) ?_
      exact pb_zret rfl dX6_keepIfRipe_23
    · refine pb_aload_n 25 dX6_keepIfRipe_24 rfl rfl rfl ?_
      refine pb_getR 28 (j := 2) (d := 6) in_X6 rfl (by decide) rfl rfl (by decide) fl_X6_23 dX6_keepIfRipe_25 rfl ?_
      refine pb_iload_n 29 dX6_keepIfRipe_28 rfl rfl rfl ?_
      refine cl_X5_handOver 32 pb_V6 ⟨by decide, by decide, by decide, by decide⟩ (Nat.le_of_ble_eq_true rfl) ml_X6_173 dX6_keepIfRipe_29 rfl (fun b29 μ29 => ?_)
      refine pb_iconst 33 (v := 1) dX6_keepIfRipe_32 rfl (by decide) ?_
      exact pb_zret rfl dX6_keepIfRipe_33
theorem mc_X6_keepIfRipe : pb_MC yX6_keepIfRipe cX6_keepIfRipe 2 (some .boolean) 1 := ⟨pb_inW 665 (by decide +kernel) (by decide +kernel), pb_inW 61 (by decide +kernel) (by decide +kernel), by decide +kernel, by decide +kernel, by decide +kernel⟩
theorem mi_X6_keepIfRipe : Cond.instanceMethod yX6_keepIfRipe ∈ pb_gw := pb_inW 664 (by decide +kernel) (by decide +kernel)
theorem ms_X6_keepIfRipe : Cond.selects (yX6_keepIfRipe).cls yX6_keepIfRipe yX6_keepIfRipe ∈ pb_gw := pb_inW 18 (by decide +kernel) (by decide +kernel)
theorem cl_X6_keepIfRipe {α : Type} {l : Launch} {E : pb_E} {R : Room} {own : String} {cc : ByteArray} {mL : Nat} {ret : Option FieldType} {Xs : State → Prop} {nc ns : Nat} {Qf : State → Array Value → List Frame → α → pb_M → State → Prop} {pc : Nat} {L : List (Option Value)} {S : List Value} {μ : pb_M} {f : Int32 → pb_M → Option (α × pb_M)} {v1 : Int32} {index : Nat} (q : Nat)  (hR : 3 + 1 ≤ R.frames ∧ 8 + (2 + 11) + 68 ≤ R.locals ∧ nc ≤ R.cells ∧ ns ≤ R.slots) (hW : (S.map fun v => v.category).sum ≤ 8) (hl1 : Cond.methodLink own index yX6_keepIfRipe ∈ pb_gw) (hdg : decode cc pc = .ok (.invokevirtual index, 3)) (hq : pc + 3 = q) (k : ∀ b1 μ1, pb_RW l E R own cc mL ret Xs nc ns Qf q L (.int b1 :: S) μ1 (f b1 μ1)) : pb_RW l E R own cc mL ret Xs nc ns Qf pc L (.int v1 :: .ref (E.2.1 0) :: S) μ (pb_b (pX6_keepIfRipe v1 μ) f) := pb_callV q (fun z : Int32 => some (.int z)) mc_X6_keepIfRipe mi_X6_keepIfRipe ms_X6_keepIfRipe (fun b1 μ1 h => evX6_keepIfRipe l E v1  μ b1 μ1 h) rfl (by decide) rfl rfl rfl rfl hR rfl hW hl1 hdg hq k
def pX6_passTrialDay  (μ : pb_M) : Option (Int32 × pb_M) :=
  pb_b (pX5_passDay 6 μ) (fun b4 μ4 =>
  some ((1 : Int32), μ4))
abbrev wX6_passTrialDay (l : Launch) (E : pb_E) := pb_RW l E { frames := 4, cells := 0, slots := 0, locals := 86 } RX6 cX6_passTrialDay 1 (some .boolean) (fun _ => True) 0 0 (pb_Qf E (fun z : Int32 => some (.int z)))
set_option maxRecDepth 100000 in
set_option maxHeartbeats 4000000 in
theorem evX6_passTrialDay (l : Launch) (E : pb_E)   (μ : pb_M) : ∀ b μ', pX6_passTrialDay  μ = some (b, μ') → pb_Ev l E yX6_passTrialDay cX6_passTrialDay 1 (some .boolean) { frames := 4, cells := 0, slots := 0, locals := 86 } [.ref (E.2.1 0)] μ ((fun z : Int32 => some (.int z)) b) μ' := by
  refine pb_enter (L := [some (.ref (E.2.1 0))]) (by decide +kernel) (Nat.le_of_ble_eq_true rfl) (pb_same [none] rfl) (show wX6_passTrialDay l E 0 [some (.ref (E.2.1 0))] [] μ (pX6_passTrialDay  μ) from ?_)
  unfold pX6_passTrialDay
  refine pb_aload_n 1 dX6_passTrialDay_0 rfl rfl rfl ?_
  refine pb_getR 4 (j := 2) (d := 6) in_X6 rfl (by decide) rfl rfl (by decide) fl_X6_23 dX6_passTrialDay_1 rfl ?_
  refine cl_X5_passDay 7 pb_V6 ⟨by decide, by decide, by decide, by decide⟩ (Nat.le_of_ble_eq_true rfl) ml_X6_149 dX6_passTrialDay_4 rfl (fun b4 μ4 => ?_)
  refine pb_iconst 8 (v := 1) dX6_passTrialDay_7 rfl (by decide) ?_
  exact pb_zret rfl dX6_passTrialDay_8
theorem mc_X6_passTrialDay : pb_MC yX6_passTrialDay cX6_passTrialDay 1 (some .boolean) 0 := ⟨pb_inW 669 (by decide +kernel) (by decide +kernel), pb_inW 61 (by decide +kernel) (by decide +kernel), by decide +kernel, by decide +kernel, by decide +kernel⟩
theorem mi_X6_passTrialDay : Cond.instanceMethod yX6_passTrialDay ∈ pb_gw := pb_inW 668 (by decide +kernel) (by decide +kernel)
theorem ms_X6_passTrialDay : Cond.selects (yX6_passTrialDay).cls yX6_passTrialDay yX6_passTrialDay ∈ pb_gw := pb_inW 19 (by decide +kernel) (by decide +kernel)
theorem cl_X6_passTrialDay {α : Type} {l : Launch} {E : pb_E} {R : Room} {own : String} {cc : ByteArray} {mL : Nat} {ret : Option FieldType} {Xs : State → Prop} {nc ns : Nat} {Qf : State → Array Value → List Frame → α → pb_M → State → Prop} {pc : Nat} {L : List (Option Value)} {S : List Value} {μ : pb_M} {f : Int32 → pb_M → Option (α × pb_M)}  {index : Nat} (q : Nat)  (hR : 4 + 1 ≤ R.frames ∧ 8 + (1 + 11) + 86 ≤ R.locals ∧ nc ≤ R.cells ∧ ns ≤ R.slots) (hW : (S.map fun v => v.category).sum ≤ 8) (hl1 : Cond.methodLink own index yX6_passTrialDay ∈ pb_gw) (hdg : decode cc pc = .ok (.invokevirtual index, 3)) (hq : pc + 3 = q) (k : ∀ b1 μ1, pb_RW l E R own cc mL ret Xs nc ns Qf q L (.int b1 :: S) μ1 (f b1 μ1)) : pb_RW l E R own cc mL ret Xs nc ns Qf pc L (.ref (E.2.1 0) :: S) μ (pb_b (pX6_passTrialDay  μ) f) := pb_callV q (fun z : Int32 => some (.int z)) mc_X6_passTrialDay mi_X6_passTrialDay ms_X6_passTrialDay (fun b1 μ1 h => evX6_passTrialDay l E   μ b1 μ1 h) rfl (by decide) rfl rfl rfl rfl hR rfl hW hl1 hdg hq k
theorem ml_X6_261 : Cond.methodLink RX6 261 yX6_driveIfFree ∈ pb_gw := pb_inW 654 (by decide +kernel) (by decide +kernel)
theorem ml_X6_283 : Cond.methodLink RX6 283 yX6_runHomeIfShut ∈ pb_gw := pb_inW 658 (by decide +kernel) (by decide +kernel)
theorem ml_X6_286 : Cond.methodLink RX6 286 yX6_keepIfRipe ∈ pb_gw := pb_inW 662 (by decide +kernel) (by decide +kernel)
theorem ml_X6_289 : Cond.methodLink RX6 289 yX6_passTrialDay ∈ pb_gw := pb_inW 666 (by decide +kernel) (by decide +kernel)
def pX6_happens (v1 : Int32) (μ : pb_M) : Option (Int32 × pb_M) :=
  if (pb_rem v1 (10 : Int32)) = (0 : Int32) then
    pb_b (pX6_driveIfFree ((v1 / (100 : Int32)) - (1 : Int32)) ((pb_rem (v1 / (10 : Int32)) (10 : Int32)) - (1 : Int32)) μ) (fun b55 μ55 =>
    if b55 = 0 ∨ b55 = 1 then some (b55, μ55) else none)
  else
  if (pb_rem v1 (10 : Int32)) = (1 : Int32) then
    if (0 : Int32) ≤ ((v1 / (100 : Int32)) - (1 : Int32)) then
      some ((0 : Int32), μ)
    else
    pb_b (pX6_runHomeIfShut ((pb_rem (v1 / (10 : Int32)) (10 : Int32)) - (1 : Int32)) μ) (fun b65 μ65 =>
    if b65 = (0 : Int32) then
      some ((0 : Int32), μ65)
    else
    some ((1 : Int32), μ65))
  else
  if (pb_rem v1 (10 : Int32)) = (2 : Int32) then
    if (0 : Int32) ≤ ((v1 / (100 : Int32)) - (1 : Int32)) then
      some ((0 : Int32), μ)
    else
    pb_b (pX6_keepIfRipe ((pb_rem (v1 / (10 : Int32)) (10 : Int32)) - (1 : Int32)) μ) (fun b83 μ83 =>
    if b83 = (0 : Int32) then
      some ((0 : Int32), μ83)
    else
    some ((1 : Int32), μ83))
  else
  if (pb_rem v1 (10 : Int32)) = (3 : Int32) then
    if (0 : Int32) ≤ ((v1 / (100 : Int32)) - (1 : Int32)) then
      some ((0 : Int32), μ)
    else
    if (0 : Int32) ≤ ((pb_rem (v1 / (10 : Int32)) (10 : Int32)) - (1 : Int32)) then
      some ((0 : Int32), μ)
    else
    pb_b (pX6_passTrialDay μ) (fun b104 μ104 =>
    if b104 = (0 : Int32) then
      some ((0 : Int32), μ104)
    else
    some ((1 : Int32), μ104))
  else
  some ((0 : Int32), μ)
abbrev wX6_happens (l : Launch) (E : pb_E) := pb_RW l E { frames := 5, cells := 0, slots := 0, locals := 106 } RX6 cX6_happens 4 (some .boolean) (fun _ => True) 0 0 (pb_Qf E (fun z : Int32 => some (.int z)))
set_option maxRecDepth 100000 in
set_option maxHeartbeats 4000000 in
theorem evX6_happens (l : Launch) (E : pb_E) (v1 : Int32)  (μ : pb_M) : ∀ b μ', pX6_happens v1 μ = some (b, μ') → pb_Ev l E yX6_happens cX6_happens 4 (some .boolean) { frames := 5, cells := 0, slots := 0, locals := 106 } [.ref (E.2.1 0), .int v1] μ ((fun z : Int32 => some (.int z)) b) μ' := by
  refine pb_enter (L := [some (.ref (E.2.1 0)), some (.int v1), none, none]) (by decide +kernel) (Nat.le_of_ble_eq_true rfl) (pb_same [none, none, none, none] rfl) (show wX6_happens l E 0 [some (.ref (E.2.1 0)), some (.int v1), none, none] [] μ (pX6_happens v1 μ) from ?_)
  unfold pX6_happens
  refine pb_iload_n 1 dX6_happens_0 rfl rfl rfl ?_
  refine pb_bipush 3 (v := 100) dX6_happens_1 rfl (by decide) ?_
  refine pb_idiv 4 dX6_happens_3 rfl (by decide) ?_
  refine pb_iconst 5 (v := 1) dX6_happens_4 rfl (by decide) ?_
  refine pb_isub 6 dX6_happens_5 rfl ?_
  refine pb_istore_n 7 (i := 2) (L' := [some (.ref (E.2.1 0)), some (.int v1), some (.int ((v1 / (100 : Int32)) - (1 : Int32))), none]) dX6_happens_6 rfl (by decide) rfl rfl rfl ?_
  refine pb_iload_n 8 dX6_happens_7 rfl rfl rfl ?_
  refine pb_bipush 10 (v := 10) dX6_happens_8 rfl (by decide) ?_
  refine pb_idiv 11 dX6_happens_10 rfl (by decide) ?_
  refine pb_bipush 13 (v := 10) dX6_happens_11 rfl (by decide) ?_
  refine pb_irem 14 dX6_happens_13 rfl (by decide) ?_
  refine pb_iconst 15 (v := 1) dX6_happens_14 rfl (by decide) ?_
  refine pb_isub 16 dX6_happens_15 rfl ?_
  refine pb_istore_n 17 (i := 3) (L' := [some (.ref (E.2.1 0)), some (.int v1), some (.int ((v1 / (100 : Int32)) - (1 : Int32))), some (.int ((pb_rem (v1 / (10 : Int32)) (10 : Int32)) - (1 : Int32)))]) dX6_happens_16 rfl (by decide) rfl rfl rfl ?_
  refine pb_iload_n 18 dX6_happens_17 rfl rfl rfl ?_
  refine pb_bipush 20 (v := 10) dX6_happens_18 rfl (by decide) ?_
  refine pb_irem 21 dX6_happens_20 rfl (by decide) ?_
  refine pb_ite (fun c0 => ?_) (fun c0 => ?_)
  · refine pb_tableK (tgt := 52) 0 c0 dX6_happens_21 (by decide) (by decide) (by rfl) (by decide) ?_
    refine pb_aload_n 53 dX6_happens_52 rfl rfl rfl ?_
    refine pb_iload_n 54 dX6_happens_53 rfl rfl rfl ?_
    refine pb_iload_n 55 dX6_happens_54 rfl rfl rfl ?_
    refine cl_X6_driveIfFree 58 ⟨by decide, by decide, by decide, by decide⟩ (Nat.le_of_ble_eq_true rfl) ml_X6_261 dX6_happens_55 rfl (fun b55 μ55 => ?_)
    exact pb_zretG dX6_happens_58
  · refine pb_ite (fun c1 => ?_) (fun c1 => ?_)
    · refine pb_tableK (tgt := 59) 1 c1 dX6_happens_21 (by decide) (by decide) (by rfl) (by decide) ?_
      refine pb_iload_n 60 dX6_happens_59 rfl rfl rfl ?_
      refine pb_if_ge 63 (tgt := 75) dX6_happens_60 (by decide) rfl (fun _ => ?_) (fun _ => ?_)
      · refine pb_iconst 76 (v := 0) dX6_happens_75 rfl (by decide) ?_
        exact pb_zret rfl dX6_happens_76
      · refine pb_aload_n 64 dX6_happens_63 rfl rfl rfl ?_
        refine pb_iload_n 65 dX6_happens_64 rfl rfl rfl ?_
        refine cl_X6_runHomeIfShut 68 ⟨by decide, by decide, by decide, by decide⟩ (Nat.le_of_ble_eq_true rfl) ml_X6_283 dX6_happens_65 rfl (fun b65 μ65 => ?_)
        refine pb_if_eq 71 (tgt := 75) dX6_happens_68 (by decide) rfl (fun _ => ?_) (fun _ => ?_)
        · refine pb_iconst 76 (v := 0) dX6_happens_75 rfl (by decide) ?_
          exact pb_zret rfl dX6_happens_76
        · refine pb_iconst 72 (v := 1) dX6_happens_71 rfl (by decide) ?_
          refine pb_goto (tgt := 76) dX6_happens_72 (by decide) ?_
          exact pb_zret rfl dX6_happens_76
    · refine pb_ite (fun c2 => ?_) (fun c2 => ?_)
      · refine pb_tableK (tgt := 77) 2 c2 dX6_happens_21 (by decide) (by decide) (by rfl) (by decide) ?_
        refine pb_iload_n 78 dX6_happens_77 rfl rfl rfl ?_
        refine pb_if_ge 81 (tgt := 93) dX6_happens_78 (by decide) rfl (fun _ => ?_) (fun _ => ?_)
        · refine pb_iconst 94 (v := 0) dX6_happens_93 rfl (by decide) ?_
          exact pb_zret rfl dX6_happens_94
        · refine pb_aload_n 82 dX6_happens_81 rfl rfl rfl ?_
          refine pb_iload_n 83 dX6_happens_82 rfl rfl rfl ?_
          refine cl_X6_keepIfRipe 86 ⟨by decide, by decide, by decide, by decide⟩ (Nat.le_of_ble_eq_true rfl) ml_X6_286 dX6_happens_83 rfl (fun b83 μ83 => ?_)
          refine pb_if_eq 89 (tgt := 93) dX6_happens_86 (by decide) rfl (fun _ => ?_) (fun _ => ?_)
          · refine pb_iconst 94 (v := 0) dX6_happens_93 rfl (by decide) ?_
            exact pb_zret rfl dX6_happens_94
          · refine pb_iconst 90 (v := 1) dX6_happens_89 rfl (by decide) ?_
            refine pb_goto (tgt := 94) dX6_happens_90 (by decide) ?_
            exact pb_zret rfl dX6_happens_94
      · refine pb_ite (fun c3 => ?_) (fun c3 => ?_)
        · refine pb_tableK (tgt := 95) 3 c3 dX6_happens_21 (by decide) (by decide) (by rfl) (by decide) ?_
          refine pb_iload_n 96 dX6_happens_95 rfl rfl rfl ?_
          refine pb_if_ge 99 (tgt := 114) dX6_happens_96 (by decide) rfl (fun _ => ?_) (fun _ => ?_)
          · refine pb_iconst 115 (v := 0) dX6_happens_114 rfl (by decide) ?_
            exact pb_zret rfl dX6_happens_115
          · refine pb_iload_n 100 dX6_happens_99 rfl rfl rfl ?_
            refine pb_if_ge 103 (tgt := 114) dX6_happens_100 (by decide) rfl (fun _ => ?_) (fun _ => ?_)
            · refine pb_iconst 115 (v := 0) dX6_happens_114 rfl (by decide) ?_
              exact pb_zret rfl dX6_happens_115
            · refine pb_aload_n 104 dX6_happens_103 rfl rfl rfl ?_
              refine cl_X6_passTrialDay 107 ⟨by decide, by decide, by decide, by decide⟩ (Nat.le_of_ble_eq_true rfl) ml_X6_289 dX6_happens_104 rfl (fun b104 μ104 => ?_)
              refine pb_if_eq 110 (tgt := 114) dX6_happens_107 (by decide) rfl (fun _ => ?_) (fun _ => ?_)
              · refine pb_iconst 115 (v := 0) dX6_happens_114 rfl (by decide) ?_
                exact pb_zret rfl dX6_happens_115
              · refine pb_iconst 111 (v := 1) dX6_happens_110 rfl (by decide) ?_
                refine pb_goto (tgt := 115) dX6_happens_111 (by decide) ?_
                exact pb_zret rfl dX6_happens_115
        · refine pb_tableD (tgt := 116) dX6_happens_21 (by have e0 := lv_neT (a := 0) c0 (by decide); have e1 := lv_neT (a := 1) c1 (by decide); have e2 := lv_neT (a := 2) c2 (by decide); have e3 := lv_neT (a := 3) c3 (by decide); omega) (by decide) ?_
          refine pb_iconst 117 (v := 0) dX6_happens_116 rfl (by decide) ?_
          exact pb_zret rfl dX6_happens_117
theorem mc_X6_happens : pb_MC yX6_happens cX6_happens 4 (some .boolean) 1 := ⟨pb_inW 653 (by decide +kernel) (by decide +kernel), pb_inW 61 (by decide +kernel) (by decide +kernel), by decide +kernel, by decide +kernel, by decide +kernel⟩
theorem mi_X6_happens : Cond.instanceMethod yX6_happens ∈ pb_gw := pb_inW 652 (by decide +kernel) (by decide +kernel)
theorem ms_X6_happens : Cond.selects (yX6_happens).cls yX6_happens yX6_happens ∈ pb_gw := pb_inW 15 (by decide +kernel) (by decide +kernel)
theorem cl_X6_happens {α : Type} {l : Launch} {E : pb_E} {R : Room} {own : String} {cc : ByteArray} {mL : Nat} {ret : Option FieldType} {Xs : State → Prop} {nc ns : Nat} {Qf : State → Array Value → List Frame → α → pb_M → State → Prop} {pc : Nat} {L : List (Option Value)} {S : List Value} {μ : pb_M} {f : Int32 → pb_M → Option (α × pb_M)} {v1 : Int32} {index : Nat} (q : Nat)  (hR : 5 + 1 ≤ R.frames ∧ 8 + (4 + 11) + 106 ≤ R.locals ∧ nc ≤ R.cells ∧ ns ≤ R.slots) (hW : (S.map fun v => v.category).sum ≤ 8) (hl1 : Cond.methodLink own index yX6_happens ∈ pb_gw) (hdg : decode cc pc = .ok (.invokevirtual index, 3)) (hq : pc + 3 = q) (k : ∀ b1 μ1, pb_RW l E R own cc mL ret Xs nc ns Qf q L (.int b1 :: S) μ1 (f b1 μ1)) : pb_RW l E R own cc mL ret Xs nc ns Qf pc L (.int v1 :: .ref (E.2.1 0) :: S) μ (pb_b (pX6_happens v1 μ) f) := pb_callV q (fun z : Int32 => some (.int z)) mc_X6_happens mi_X6_happens ms_X6_happens (fun b1 μ1 h => evX6_happens l E v1  μ b1 μ1 h) rfl (by decide) rfl rfl rfl rfl hR rfl hW hl1 hdg hq k
theorem fl_X6_58 : Cond.fieldLink RX6 58 (TX6 8).1 (TX6 8).2.1 (TX6 8).2.2.1 ∈ pb_gw := pb_inW 186 (by decide +kernel) (by decide +kernel)
theorem kc_X6_223 : Cond.constantLong RX6 223 (1000 : Int64) ∈ pb_gw := pb_inW 649 (by decide +kernel) (by decide +kernel)
theorem ml_X6_225 : Cond.methodLink RX6 225 yX6_happens ∈ pb_gw := pb_inW 650 (by decide +kernel) (by decide +kernel)
def pX6_judge_L27 (v1 : Int32) (K60 : Int64 → pb_M → Option (Int32 × pb_M)) : Nat → Int64 → Int32 → pb_M → Option (Int32 × pb_M)
  | 0, _, _, _ => none
  | n + 1, v4, v6, μ =>
    if v6 < (0 : Int32) then
      K60 v4 μ
    else
    if pb_in v6 4 then
      pX6_judge_L27 v1 K60 n (v4 / (1000 : Int64)) (v6 + (-1 : Int32)) (pb_sA μ 18 (upd (μ.1 18) (v6).toNatClampNeg ((pb_lmod v4 (1000 : Int64))).toInt32))
    else none
def pX6_judge_L84 (v1 : Int32) : Nat → Int32 → pb_M → Option (Int32 × pb_M)
  | 0, _, _ => none
  | n + 1, v6, μ =>
    if v1 ≤ v6 then
      some ((-9 : Int32), μ)
    else
    if pb_in v6 4 then
      pb_b (pX6_happens (μ.1 18 (v6).toNatClampNeg) μ) (fun b98 μ98 =>
      if b98 = (0 : Int32) then
        some (v6, μ98)
      else
      pX6_judge_L84 v1 n (v6 + (1 : Int32)) μ98)
    else none
def pX6_judge (v1 : Int32) (v2 : Int64) (μ : pb_M) : Option (Int32 × pb_M) :=
  if v1 < (1 : Int32) then
    some ((-2 : Int32), μ)
  else
  if (4 : Int32) < v1 then
    some ((-2 : Int32), μ)
  else
  if (0 : Int32) ≤ (lg_cmp v2 (0 : Int64)) then
    pX6_judge_L27 v1 (fun x4k60 μk60 =>
      if (lg_cmp x4k60 (0 : Int64)) = (0 : Int32) then
        pb_b (pX5_copyFrom 6 4 μk60) (fun b78 μ78 =>
        pX6_judge_L84 v1 pb_F (0 : Int32) μ78)
      else
      some ((-2 : Int32), μk60)) pb_F v2 (v1 - (1 : Int32)) μ
  else
  some ((-2 : Int32), μ)
abbrev wX6_judge (l : Launch) (E : pb_E) := pb_RW l E { frames := 6, cells := 0, slots := 0, locals := 129 } RX6 cX6_judge 7 (some .int) (fun _ => True) 0 0 (pb_Qf E (fun z : Int32 => some (.int z)))
set_option maxRecDepth 100000 in
set_option maxHeartbeats 4000000 in
theorem tX6_judge_L27 (l : Launch) (E : pb_E) (v1 : Int32) {K60 : Int64 → pb_M → Option (Int32 × pb_M)} (hK60 : ∀ (w4 : Int64) (μ : pb_M), wX6_judge l E 60 [some (.ref (E.2.1 0)), some (.int v1), none, none, some (.long w4), none, none] [] μ (K60 w4 μ)) : ∀ (n : Nat) (v4 : Int64) (v6 : Int32) (μ : pb_M), wX6_judge l E 27 [some (.ref (E.2.1 0)), some (.int v1), none, none, some (.long v4), none, some (.int v6)] [] μ (pX6_judge_L27 v1 K60 n v4 v6 μ) := by
  intro n
  induction n with
  | zero => intro v4 v6 μ; exact pb_none
  | succ n ih =>
    intro v4 v6 μ
    rw [pX6_judge_L27]
    refine pb_iload 29 dX6_judge_27 rfl rfl ?_
    refine pb_if_lt 32 (tgt := 60) dX6_judge_29 (by decide) rfl (fun _ => ?_) (fun _ => ?_)
    · refine pb_weakM (L' := [some (.ref (E.2.1 0)), some (.int v1), none, none, some (.long v4), none, none]) [true, true, false, false, true, false, false] rfl ?_
      exact hK60 v4 μ
    · refine pb_aload_n 33 dX6_judge_32 rfl rfl rfl ?_
      refine pb_getR 36 (j := 8) (d := 18) in_X6 rfl (by decide) rfl rfl (by decide) fl_X6_58 dX6_judge_33 rfl ?_
      refine pb_iload 38 dX6_judge_36 rfl rfl ?_
      refine pb_lload 40 dX6_judge_38 rfl rfl ?_
      refine pb_ldc2 43 kc_X6_223 dX6_judge_40 rfl ?_
      refine pb_lrem 44 dX6_judge_43 rfl (by decide) ?_
      refine pb_l2i 45 dX6_judge_44 rfl ?_
      refine pb_guard (fun hin => pb_iast 46 rfl hin rfl dX6_judge_45 rfl ?_)
      refine pb_lload 48 dX6_judge_46 rfl rfl ?_
      refine pb_ldc2 51 kc_X6_223 dX6_judge_48 rfl ?_
      refine pb_ldiv 52 dX6_judge_51 rfl (by decide) ?_
      refine pb_lstore 54 (i := 4) (L' := [some (.ref (E.2.1 0)), some (.int v1), none, none, some (.long (v4 / (1000 : Int64))), none, some (.int v6)]) dX6_judge_52 (by decide) rfl rfl rfl ?_
      refine pb_iinc 57 (i := 6) (v := (v6 + (-1 : Int32))) (L' := [some (.ref (E.2.1 0)), some (.int v1), none, none, some (.long (v4 / (1000 : Int64))), none, some (.int (v6 + (-1 : Int32)))]) dX6_judge_54 rfl rfl (by decide) rfl rfl rfl ?_
      refine pb_goto (tgt := 27) dX6_judge_57 (by decide) ?_
      exact ih (v4 / (1000 : Int64)) (v6 + (-1 : Int32)) (pb_sA μ 18 (upd (μ.1 18) (v6).toNatClampNeg ((pb_lmod v4 (1000 : Int64))).toInt32))
set_option maxRecDepth 100000 in
set_option maxHeartbeats 4000000 in
theorem tX6_judge_L84 (l : Launch) (E : pb_E) (v1 : Int32)   : ∀ (n : Nat) (v6 : Int32) (μ : pb_M), wX6_judge l E 84 [some (.ref (E.2.1 0)), some (.int v1), none, none, none, none, some (.int v6)] [] μ (pX6_judge_L84 v1 n v6 μ) := by
  intro n
  induction n with
  | zero => intro v6 μ; exact pb_none
  | succ n ih =>
    intro v6 μ
    rw [pX6_judge_L84]
    refine pb_iload 86 dX6_judge_84 rfl rfl ?_
    refine pb_iload_n 87 dX6_judge_86 rfl rfl rfl ?_
    refine pb_icmp_ge 90 (tgt := 113) dX6_judge_87 (by decide) rfl (fun _ => ?_) (fun _ => ?_)
    · refine pb_bipush 115 (v := -9) dX6_judge_113 rfl (by decide) ?_
      exact pb_iret dX6_judge_115
    · refine pb_aload_n 91 dX6_judge_90 rfl rfl rfl ?_
      refine pb_aload_n 92 dX6_judge_91 rfl rfl rfl ?_
      refine pb_getR 95 (j := 8) (d := 18) in_X6 rfl (by decide) rfl rfl (by decide) fl_X6_58 dX6_judge_92 rfl ?_
      refine pb_iload 97 dX6_judge_95 rfl rfl ?_
      refine pb_guard (fun hin => pb_iald 98 rfl hin rfl dX6_judge_97 rfl ?_)
      refine cl_X6_happens 101 ⟨by decide, by decide, by decide, by decide⟩ (Nat.le_of_ble_eq_true rfl) ml_X6_225 dX6_judge_98 rfl (fun b98 μ98 => ?_)
      refine pb_if_ne 104 (tgt := 107) dX6_judge_101 (by decide) rfl (fun _ => ?_) (fun _ => ?_)
      · refine pb_iload 106 dX6_judge_104 rfl rfl ?_
        exact pb_iret dX6_judge_106
      · refine pb_iinc 110 (i := 6) (v := (v6 + (1 : Int32))) (L' := [some (.ref (E.2.1 0)), some (.int v1), none, none, none, none, some (.int (v6 + (1 : Int32)))]) dX6_judge_107 rfl rfl (by decide) rfl rfl rfl ?_
        refine pb_goto (tgt := 84) dX6_judge_110 (by decide) ?_
        exact ih (v6 + (1 : Int32)) μ98
set_option maxRecDepth 100000 in
set_option maxHeartbeats 4000000 in
theorem evX6_judge (l : Launch) (E : pb_E) (v1 : Int32) (v2 : Int64)  (μ : pb_M) : ∀ b μ', pX6_judge v1 v2 μ = some (b, μ') → pb_Ev l E yX6_judge cX6_judge 7 (some .int) { frames := 6, cells := 0, slots := 0, locals := 129 } [.ref (E.2.1 0), .int v1, .long v2] μ ((fun z : Int32 => some (.int z)) b) μ' := by
  refine pb_enter (L := [some (.ref (E.2.1 0)), some (.int v1), some (.long v2), none, none, none, none]) (by decide +kernel) (Nat.le_of_ble_eq_true rfl) (pb_same [none, none, none, none, none, none, none] rfl) (show wX6_judge l E 0 [some (.ref (E.2.1 0)), some (.int v1), some (.long v2), none, none, none, none] [] μ (pX6_judge v1 v2 μ) from ?_)
  unfold pX6_judge
  refine pb_iload_n 1 dX6_judge_0 rfl rfl rfl ?_
  refine pb_iconst 2 (v := 1) dX6_judge_1 rfl (by decide) ?_
  refine pb_icmp_lt 5 (tgt := 16) dX6_judge_2 (by decide) rfl (fun _ => ?_) (fun _ => ?_)
  · refine pb_bipush 18 (v := -2) dX6_judge_16 rfl (by decide) ?_
    exact pb_iret dX6_judge_18
  · refine pb_iload_n 6 dX6_judge_5 rfl rfl rfl ?_
    refine pb_iconst 7 (v := 4) dX6_judge_6 rfl (by decide) ?_
    refine pb_icmp_gt 10 (tgt := 16) dX6_judge_7 (by decide) rfl (fun _ => ?_) (fun _ => ?_)
    · refine pb_bipush 18 (v := -2) dX6_judge_16 rfl (by decide) ?_
      exact pb_iret dX6_judge_18
    · refine pb_lload_n 11 dX6_judge_10 rfl rfl rfl ?_
      refine pb_lconst 12 (v := 0) dX6_judge_11 rfl (by decide) ?_
      refine pb_lcmp 13 dX6_judge_12 rfl ?_
      refine pb_if_ge 16 (tgt := 19) dX6_judge_13 (by decide) rfl (fun _ => ?_) (fun _ => ?_)
      · refine pb_lload_n 20 dX6_judge_19 rfl rfl rfl ?_
        refine pb_lstore 22 (i := 4) (L' := [some (.ref (E.2.1 0)), some (.int v1), some (.long v2), none, some (.long v2), none, none]) dX6_judge_20 (by decide) rfl rfl rfl ?_
        refine pb_iload_n 23 dX6_judge_22 rfl rfl rfl ?_
        refine pb_iconst 24 (v := 1) dX6_judge_23 rfl (by decide) ?_
        refine pb_isub 25 dX6_judge_24 rfl ?_
        refine pb_istore 27 (i := 6) (L' := [some (.ref (E.2.1 0)), some (.int v1), some (.long v2), none, some (.long v2), none, some (.int (v1 - (1 : Int32)))]) dX6_judge_25 (by decide) rfl rfl rfl ?_
        refine pb_weakM (L' := [some (.ref (E.2.1 0)), some (.int v1), none, none, some (.long v2), none, some (.int (v1 - (1 : Int32)))]) [true, true, false, false, true, false, true] rfl ?_
        refine tX6_judge_L27 l E v1 (fun x4k60 μk60 => ?_) pb_F v2 (v1 - (1 : Int32)) μ
        refine pb_lload 62 dX6_judge_60 rfl rfl ?_
        refine pb_lconst 63 (v := 0) dX6_judge_62 rfl (by decide) ?_
        refine pb_lcmp 64 dX6_judge_63 rfl ?_
        refine pb_if_eq 67 (tgt := 70) dX6_judge_64 (by decide) rfl (fun _ => ?_) (fun _ => ?_)
        · refine pb_aload_n 71 dX6_judge_70 rfl rfl rfl ?_
          refine pb_getR 74 (j := 2) (d := 6) in_X6 rfl (by decide) rfl rfl (by decide) fl_X6_23 dX6_judge_71 rfl ?_
          refine pb_aload_n 75 dX6_judge_74 rfl rfl rfl ?_
          refine pb_getR 78 (j := 1) (d := 4) in_X6 rfl (by decide) rfl rfl (by decide) fl_X6_19 dX6_judge_75 rfl ?_
          refine cl_X5_copyFrom 81 pb_V6 pb_V4 ⟨by decide, by decide, by decide, by decide⟩ (Nat.le_of_ble_eq_true rfl) ml_X6_76 dX6_judge_78 rfl (fun b78 μ78 => ?_)
          refine pb_iconst 82 (v := 0) dX6_judge_81 rfl (by decide) ?_
          refine pb_istore 84 (i := 6) (L' := [some (.ref (E.2.1 0)), some (.int v1), none, none, some (.long x4k60), none, some (.int (0 : Int32))]) dX6_judge_82 (by decide) rfl rfl rfl ?_
          refine pb_weakM (L' := [some (.ref (E.2.1 0)), some (.int v1), none, none, none, none, some (.int (0 : Int32))]) [true, true, false, false, false, false, true] rfl ?_
          exact tX6_judge_L84 l E v1 pb_F (0 : Int32) μ78
        · refine pb_bipush 69 (v := -2) dX6_judge_67 rfl (by decide) ?_
          exact pb_iret dX6_judge_69
      · refine pb_bipush 18 (v := -2) dX6_judge_16 rfl (by decide) ?_
        exact pb_iret dX6_judge_18
theorem mc_X6_judge : pb_MC yX6_judge cX6_judge 7 (some .int) 2 := ⟨pb_inW 648 (by decide +kernel) (by decide +kernel), pb_inW 61 (by decide +kernel) (by decide +kernel), by decide +kernel, by decide +kernel, by decide +kernel⟩
theorem mi_X6_judge : Cond.instanceMethod yX6_judge ∈ pb_gw := pb_inW 646 (by decide +kernel) (by decide +kernel)
theorem ms_X6_judge : Cond.selects (yX6_judge).cls yX6_judge yX6_judge ∈ pb_gw := pb_inW 647 (by decide +kernel) (by decide +kernel)
theorem cl_X6_judge {α : Type} {l : Launch} {E : pb_E} {R : Room} {own : String} {cc : ByteArray} {mL : Nat} {ret : Option FieldType} {Xs : State → Prop} {nc ns : Nat} {Qf : State → Array Value → List Frame → α → pb_M → State → Prop} {pc : Nat} {L : List (Option Value)} {S : List Value} {μ : pb_M} {f : Int32 → pb_M → Option (α × pb_M)} {v1 : Int32} {v2 : Int64} {index : Nat} (q : Nat)  (hR : 6 + 1 ≤ R.frames ∧ 8 + (7 + 11) + 129 ≤ R.locals ∧ nc ≤ R.cells ∧ ns ≤ R.slots) (hW : (S.map fun v => v.category).sum ≤ 8) (hl1 : Cond.methodLink own index yX6_judge ∈ pb_gw) (hdg : decode cc pc = .ok (.invokevirtual index, 3)) (hq : pc + 3 = q) (k : ∀ b1 μ1, pb_RW l E R own cc mL ret Xs nc ns Qf q L (.int b1 :: S) μ1 (f b1 μ1)) : pb_RW l E R own cc mL ret Xs nc ns Qf pc L (.long v2 :: .int v1 :: .ref (E.2.1 0) :: S) μ (pb_b (pX6_judge v1 v2 μ) f) := pb_callV q (fun z : Int32 => some (.int z)) mc_X6_judge mi_X6_judge ms_X6_judge (fun b1 μ1 h => evX6_judge l E v1 v2  μ b1 μ1 h) rfl (by decide) rfl rfl rfl rfl hR rfl hW hl1 hdg hq k
def pX6_areBeasts (v1 : Int32) (μ : pb_M) : Option (Int32 × pb_M) :=
  if v1 < (0 : Int32) then
    some ((0 : Int32), μ)
  else
  pb_b (pX5_beasts 4 μ) (fun b10 μ10 =>
  if ((1 : Int32) <<< (b10 &&& 31)) ≤ v1 then
    some ((0 : Int32), μ10)
  else
  some ((1 : Int32), μ10))
abbrev wX6_areBeasts (l : Launch) (E : pb_E) := pb_RW l E { frames := 1, cells := 0, slots := 0, locals := 20 } RX6 cX6_areBeasts 2 (some .boolean) (fun _ => True) 0 0 (pb_Qf E (fun z : Int32 => some (.int z)))
set_option maxRecDepth 100000 in
set_option maxHeartbeats 4000000 in
theorem evX6_areBeasts (l : Launch) (E : pb_E) (v1 : Int32)  (μ : pb_M) : ∀ b μ', pX6_areBeasts v1 μ = some (b, μ') → pb_Ev l E yX6_areBeasts cX6_areBeasts 2 (some .boolean) { frames := 1, cells := 0, slots := 0, locals := 20 } [.ref (E.2.1 0), .int v1] μ ((fun z : Int32 => some (.int z)) b) μ' := by
  refine pb_enter (L := [some (.ref (E.2.1 0)), some (.int v1)]) (by decide +kernel) (Nat.le_of_ble_eq_true rfl) (pb_same [none, none] rfl) (show wX6_areBeasts l E 0 [some (.ref (E.2.1 0)), some (.int v1)] [] μ (pX6_areBeasts v1 μ) from ?_)
  unfold pX6_areBeasts
  refine pb_iload_n 1 dX6_areBeasts_0 rfl rfl rfl ?_
  refine pb_if_lt 4 (tgt := 21) dX6_areBeasts_1 (by decide) rfl (fun _ => ?_) (fun _ => ?_)
  · refine pb_iconst 22 (v := 0) dX6_areBeasts_21 rfl (by decide) ?_
    exact pb_zret rfl dX6_areBeasts_22
  · refine pb_iload_n 5 dX6_areBeasts_4 rfl rfl rfl ?_
    refine pb_iconst 6 (v := 1) dX6_areBeasts_5 rfl (by decide) ?_
    refine pb_aload_n 7 dX6_areBeasts_6 rfl rfl rfl ?_
    refine pb_getR 10 (j := 1) (d := 4) in_X6 rfl (by decide) rfl rfl (by decide) fl_X6_19 dX6_areBeasts_7 rfl ?_
    refine cl_X5_beasts 13 pb_V4 ⟨by decide, by decide, by decide, by decide⟩ (Nat.le_of_ble_eq_true rfl) ml_X6_88 dX6_areBeasts_10 rfl (fun b10 μ10 => ?_)
    refine pb_ishl 14 dX6_areBeasts_13 rfl ?_
    refine pb_icmp_ge 17 (tgt := 21) dX6_areBeasts_14 (by decide) rfl (fun _ => ?_) (fun _ => ?_)
    · refine pb_iconst 22 (v := 0) dX6_areBeasts_21 rfl (by decide) ?_
      exact pb_zret rfl dX6_areBeasts_22
    · refine pb_iconst 18 (v := 1) dX6_areBeasts_17 rfl (by decide) ?_
      refine pb_goto (tgt := 22) dX6_areBeasts_18 (by decide) ?_
      exact pb_zret rfl dX6_areBeasts_22
theorem mc_X6_areBeasts : pb_MC yX6_areBeasts cX6_areBeasts 2 (some .boolean) 1 := ⟨pb_inW 677 (by decide +kernel) (by decide +kernel), pb_inW 61 (by decide +kernel) (by decide +kernel), by decide +kernel, by decide +kernel, by decide +kernel⟩
theorem mi_X6_areBeasts : Cond.instanceMethod yX6_areBeasts ∈ pb_gw := pb_inW 676 (by decide +kernel) (by decide +kernel)
theorem ms_X6_areBeasts : Cond.selects (yX6_areBeasts).cls yX6_areBeasts yX6_areBeasts ∈ pb_gw := pb_inW 20 (by decide +kernel) (by decide +kernel)
theorem cl_X6_areBeasts {α : Type} {l : Launch} {E : pb_E} {R : Room} {own : String} {cc : ByteArray} {mL : Nat} {ret : Option FieldType} {Xs : State → Prop} {nc ns : Nat} {Qf : State → Array Value → List Frame → α → pb_M → State → Prop} {pc : Nat} {L : List (Option Value)} {S : List Value} {μ : pb_M} {f : Int32 → pb_M → Option (α × pb_M)} {v1 : Int32} {index : Nat} (q : Nat)  (hR : 1 + 1 ≤ R.frames ∧ 8 + (2 + 11) + 20 ≤ R.locals ∧ nc ≤ R.cells ∧ ns ≤ R.slots) (hW : (S.map fun v => v.category).sum ≤ 8) (hl1 : Cond.methodLink own index yX6_areBeasts ∈ pb_gw) (hdg : decode cc pc = .ok (.invokevirtual index, 3)) (hq : pc + 3 = q) (k : ∀ b1 μ1, pb_RW l E R own cc mL ret Xs nc ns Qf q L (.int b1 :: S) μ1 (f b1 μ1)) : pb_RW l E R own cc mL ret Xs nc ns Qf pc L (.int v1 :: .ref (E.2.1 0) :: S) μ (pb_b (pX6_areBeasts v1 μ) f) := pb_callV q (fun z : Int32 => some (.int z)) mc_X6_areBeasts mi_X6_areBeasts ms_X6_areBeasts (fun b1 μ1 h => evX6_areBeasts l E v1  μ b1 μ1 h) rfl (by decide) rfl rfl rfl rfl hR rfl hW hl1 hdg hq k
theorem ml_X6_228 : Cond.methodLink RX6 228 yX6_areBeasts ∈ pb_gw := pb_inW 674 (by decide +kernel) (by decide +kernel)
def pX6_who_L15 (v1 : Int32) : Nat → Int32 → Int32 → pb_M → Option (Int32 × pb_M)
  | 0, _, _, _ => none
  | n + 1, v2, v3, μ =>
    pb_b (pX5_people 4 μ) (fun b20 μ20 =>
    if b20 ≤ v3 then
      some (v2, μ20)
    else
    pb_b (pX5_takableBy 4 v3 μ20) (fun b32 μ32 =>
    if (v1 &&& (b32 ^^^ (-1 : Int32))) = (0 : Int32) then
      pX6_who_L15 v1 n (v2 ||| ((1 : Int32) <<< (v3 &&& 31))) (v3 + (1 : Int32)) μ32
    else
    pX6_who_L15 v1 n v2 (v3 + (1 : Int32)) μ32))
def pX6_who (v1 : Int32) (μ : pb_M) : Option (Int32 × pb_M) :=
  pb_b (pX6_areBeasts v1 μ) (fun b2 μ2 =>
  if b2 = (0 : Int32) then
    some ((-2 : Int32), μ2)
  else
  pX6_who_L15 v1 pb_F (0 : Int32) (0 : Int32) μ2)
abbrev wX6_who (l : Launch) (E : pb_E) := pb_RW l E { frames := 4, cells := 0, slots := 0, locals := 88 } RX6 cX6_who 4 (some .int) (fun _ => True) 0 0 (pb_Qf E (fun z : Int32 => some (.int z)))
set_option maxRecDepth 100000 in
set_option maxHeartbeats 4000000 in
theorem tX6_who_L15 (l : Launch) (E : pb_E) (v1 : Int32)   : ∀ (n : Nat) (v2 : Int32) (v3 : Int32) (μ : pb_M), wX6_who l E 15 [some (.ref (E.2.1 0)), some (.int v1), some (.int v2), some (.int v3)] [] μ (pX6_who_L15 v1 n v2 v3 μ) := by
  intro n
  induction n with
  | zero => intro v2 v3 μ; exact pb_none
  | succ n ih =>
    intro v2 v3 μ
    rw [pX6_who_L15]
    refine pb_iload_n 16 dX6_who_15 rfl rfl rfl ?_
    refine pb_aload_n 17 dX6_who_16 rfl rfl rfl ?_
    refine pb_getR 20 (j := 1) (d := 4) in_X6 rfl (by decide) rfl rfl (by decide) fl_X6_19 dX6_who_17 rfl ?_
    refine cl_X5_people 23 pb_V4 ⟨by decide, by decide, by decide, by decide⟩ (Nat.le_of_ble_eq_true rfl) ml_X6_85 dX6_who_20 rfl (fun b20 μ20 => ?_)
    refine pb_icmp_ge 26 (tgt := 53) dX6_who_23 (by decide) rfl (fun _ => ?_) (fun _ => ?_)
    · refine pb_iload_n 54 dX6_who_53 rfl rfl rfl ?_
      exact pb_iret dX6_who_54
    · refine pb_iload_n 27 dX6_who_26 rfl rfl rfl ?_
      refine pb_aload_n 28 dX6_who_27 rfl rfl rfl ?_
      refine pb_getR 31 (j := 1) (d := 4) in_X6 rfl (by decide) rfl rfl (by decide) fl_X6_19 dX6_who_28 rfl ?_
      refine pb_iload_n 32 dX6_who_31 rfl rfl rfl ?_
      refine cl_X5_takableBy 35 pb_V4 ⟨by decide, by decide, by decide, by decide⟩ (Nat.le_of_ble_eq_true rfl) ml_X6_183 dX6_who_32 rfl (fun b32 μ32 => ?_)
      refine pb_iconst 36 (v := -1) dX6_who_35 rfl (by decide) ?_
      refine pb_ixor 37 dX6_who_36 rfl ?_
      refine pb_iand 38 dX6_who_37 rfl ?_
      refine pb_if_ne 41 (tgt := 47) dX6_who_38 (by decide) rfl (fun _ => ?_) (fun _ => ?_)
      · refine pb_iload_n 42 dX6_who_41 rfl rfl rfl ?_
        refine pb_iconst 43 (v := 1) dX6_who_42 rfl (by decide) ?_
        refine pb_iload_n 44 dX6_who_43 rfl rfl rfl ?_
        refine pb_ishl 45 dX6_who_44 rfl ?_
        refine pb_ior 46 dX6_who_45 rfl ?_
        refine pb_istore_n 47 (i := 2) (L' := [some (.ref (E.2.1 0)), some (.int v1), some (.int (v2 ||| ((1 : Int32) <<< (v3 &&& 31)))), some (.int v3)]) dX6_who_46 rfl (by decide) rfl rfl rfl ?_
        refine pb_iinc 50 (i := 3) (v := (v3 + (1 : Int32))) (L' := [some (.ref (E.2.1 0)), some (.int v1), some (.int (v2 ||| ((1 : Int32) <<< (v3 &&& 31)))), some (.int (v3 + (1 : Int32)))]) dX6_who_47 rfl rfl (by decide) rfl rfl rfl ?_
        refine pb_goto (tgt := 15) dX6_who_50 (by decide) ?_
        exact ih (v2 ||| ((1 : Int32) <<< (v3 &&& 31))) (v3 + (1 : Int32)) μ32
      · refine pb_iinc 50 (i := 3) (v := (v3 + (1 : Int32))) (L' := [some (.ref (E.2.1 0)), some (.int v1), some (.int v2), some (.int (v3 + (1 : Int32)))]) dX6_who_47 rfl rfl (by decide) rfl rfl rfl ?_
        refine pb_goto (tgt := 15) dX6_who_50 (by decide) ?_
        exact ih v2 (v3 + (1 : Int32)) μ32
set_option maxRecDepth 100000 in
set_option maxHeartbeats 4000000 in
theorem evX6_who (l : Launch) (E : pb_E) (v1 : Int32)  (μ : pb_M) : ∀ b μ', pX6_who v1 μ = some (b, μ') → pb_Ev l E yX6_who cX6_who 4 (some .int) { frames := 4, cells := 0, slots := 0, locals := 88 } [.ref (E.2.1 0), .int v1] μ ((fun z : Int32 => some (.int z)) b) μ' := by
  refine pb_enter (L := [some (.ref (E.2.1 0)), some (.int v1), none, none]) (by decide +kernel) (Nat.le_of_ble_eq_true rfl) (pb_same [none, none, none, none] rfl) (show wX6_who l E 0 [some (.ref (E.2.1 0)), some (.int v1), none, none] [] μ (pX6_who v1 μ) from ?_)
  unfold pX6_who
  refine pb_aload_n 1 dX6_who_0 rfl rfl rfl ?_
  refine pb_iload_n 2 dX6_who_1 rfl rfl rfl ?_
  refine cl_X6_areBeasts 5 ⟨by decide, by decide, by decide, by decide⟩ (Nat.le_of_ble_eq_true rfl) ml_X6_228 dX6_who_2 rfl (fun b2 μ2 => ?_)
  refine pb_if_ne 8 (tgt := 11) dX6_who_5 (by decide) rfl (fun _ => ?_) (fun _ => ?_)
  · refine pb_bipush 10 (v := -2) dX6_who_8 rfl (by decide) ?_
    exact pb_iret dX6_who_10
  · refine pb_iconst 12 (v := 0) dX6_who_11 rfl (by decide) ?_
    refine pb_istore_n 13 (i := 2) (L' := [some (.ref (E.2.1 0)), some (.int v1), some (.int (0 : Int32)), none]) dX6_who_12 rfl (by decide) rfl rfl rfl ?_
    refine pb_iconst 14 (v := 0) dX6_who_13 rfl (by decide) ?_
    refine pb_istore_n 15 (i := 3) (L' := [some (.ref (E.2.1 0)), some (.int v1), some (.int (0 : Int32)), some (.int (0 : Int32))]) dX6_who_14 rfl (by decide) rfl rfl rfl ?_
    exact tX6_who_L15 l E v1 pb_F (0 : Int32) (0 : Int32) μ2
theorem mc_X6_who : pb_MC yX6_who cX6_who 4 (some .int) 1 := ⟨pb_inW 673 (by decide +kernel) (by decide +kernel), pb_inW 61 (by decide +kernel) (by decide +kernel), by decide +kernel, by decide +kernel, by decide +kernel⟩
theorem mi_X6_who : Cond.instanceMethod yX6_who ∈ pb_gw := pb_inW 671 (by decide +kernel) (by decide +kernel)
theorem ms_X6_who : Cond.selects (yX6_who).cls yX6_who yX6_who ∈ pb_gw := pb_inW 672 (by decide +kernel) (by decide +kernel)
theorem cl_X6_who {α : Type} {l : Launch} {E : pb_E} {R : Room} {own : String} {cc : ByteArray} {mL : Nat} {ret : Option FieldType} {Xs : State → Prop} {nc ns : Nat} {Qf : State → Array Value → List Frame → α → pb_M → State → Prop} {pc : Nat} {L : List (Option Value)} {S : List Value} {μ : pb_M} {f : Int32 → pb_M → Option (α × pb_M)} {v1 : Int32} {index : Nat} (q : Nat)  (hR : 4 + 1 ≤ R.frames ∧ 8 + (4 + 11) + 88 ≤ R.locals ∧ nc ≤ R.cells ∧ ns ≤ R.slots) (hW : (S.map fun v => v.category).sum ≤ 8) (hl1 : Cond.methodLink own index yX6_who ∈ pb_gw) (hdg : decode cc pc = .ok (.invokevirtual index, 3)) (hq : pc + 3 = q) (k : ∀ b1 μ1, pb_RW l E R own cc mL ret Xs nc ns Qf q L (.int b1 :: S) μ1 (f b1 μ1)) : pb_RW l E R own cc mL ret Xs nc ns Qf pc L (.int v1 :: .ref (E.2.1 0) :: S) μ (pb_b (pX6_who v1 μ) f) := pb_callV q (fun z : Int32 => some (.int z)) mc_X6_who mi_X6_who ms_X6_who (fun b1 μ1 h => evX6_who l E v1  μ b1 μ1 h) rfl (by decide) rfl rfl rfl rfl hR rfl hW hl1 hdg hq k
theorem ml_X6_231 : Cond.methodLink RX6 231 yX2_allTakeSome ∈ pb_gw := pb_inW 682 (by decide +kernel) (by decide +kernel)
theorem ml_X6_234 : Cond.methodLink RX6 234 yX2_takableByAny ∈ pb_gw := pb_inW 686 (by decide +kernel) (by decide +kernel)
def pX6_suspects_L55 (v1 : Int32) (v2 : Int32) (v3 : Int32) (K113 : Int32 → Int32 → Int32 → pb_M → Option (Int32 × pb_M)) : Nat → Int32 → Int32 → Int32 → Int32 → pb_M → Option (Int32 × pb_M)
  | 0, _, _, _, _, _ => none
  | n + 1, v4, v5, v6, v7, μ =>
    if v3 < v7 then
      K113 v4 v5 v6 μ
    else
    pb_b (pX2_allTakeSome v7 v1 μ) (fun b68 μ68 =>
    if b68 = (0 : Int32) then
      pX6_suspects_L55 v1 v2 v3 K113 n v4 v5 v6 (v7 + (1 : Int32)) μ68
    else
    pb_b (pX2_takableByAny v7 μ68) (fun b81 μ81 =>
    if (v1 &&& (b81 ^^^ (-1 : Int32))) = (0 : Int32) then
      pX6_suspects_L55 v1 v2 v3 K113 n (v4 + (1 : Int32)) (v5 &&& v7) (v6 ||| v7) (v7 + (1 : Int32)) μ81
    else
    pX6_suspects_L55 v1 v2 v3 K113 n v4 v5 v6 (v7 + (1 : Int32)) μ81))
def pX6_suspects (v1 : Int32) (v2 : Int32) (μ : pb_M) : Option (Int32 × pb_M) :=
  pb_b (pX6_areBeasts v1 μ) (fun b2 μ2 =>
  if b2 = (0 : Int32) then
    some ((-2 : Int32), μ2)
  else
  if v2 < (0 : Int32) then
    some ((-2 : Int32), μ2)
  else
  if v2 ≤ (2 : Int32) then
    pb_b (pX2_look 4 μ2) (fun b28 μ28 =>
    pb_b (pX5_people 4 μ28) (fun b36 μ36 =>
    pX6_suspects_L55 v1 v2 (((1 : Int32) <<< (b36 &&& 31)) - (1 : Int32)) (fun x4k113 x5k113 x6k113 μk113 =>
      if v2 = (0 : Int32) then
        some (x4k113, μk113)
      else
      if x4k113 = (0 : Int32) then
        some ((-9 : Int32), μk113)
      else
      if v2 = (1 : Int32) then
        some (x5k113, μk113)
      else
      some (((((1 : Int32) <<< (b36 &&& 31)) - (1 : Int32)) &&& (x6k113 ^^^ (-1 : Int32))), μk113)) pb_F (0 : Int32) (((1 : Int32) <<< (b36 &&& 31)) - (1 : Int32)) (0 : Int32) (0 : Int32) μ36))
  else
  some ((-2 : Int32), μ2))
abbrev wX6_suspects (l : Launch) (E : pb_E) := pb_RW l E { frames := 5, cells := 0, slots := 0, locals := 110 } RX6 cX6_suspects 8 (some .int) (fun _ => True) 0 0 (pb_Qf E (fun z : Int32 => some (.int z)))
set_option maxRecDepth 100000 in
set_option maxHeartbeats 4000000 in
theorem tX6_suspects_L55 (l : Launch) (E : pb_E) (v1 : Int32) (v2 : Int32) (v3 : Int32) {K113 : Int32 → Int32 → Int32 → pb_M → Option (Int32 × pb_M)} (hK113 : ∀ (w4 : Int32) (w5 : Int32) (w6 : Int32) (μ : pb_M), wX6_suspects l E 113 [some (.ref (E.2.1 0)), none, some (.int v2), some (.int v3), some (.int w4), some (.int w5), some (.int w6), none] [] μ (K113 w4 w5 w6 μ)) : ∀ (n : Nat) (v4 : Int32) (v5 : Int32) (v6 : Int32) (v7 : Int32) (μ : pb_M), wX6_suspects l E 55 [some (.ref (E.2.1 0)), some (.int v1), some (.int v2), some (.int v3), some (.int v4), some (.int v5), some (.int v6), some (.int v7)] [] μ (pX6_suspects_L55 v1 v2 v3 K113 n v4 v5 v6 v7 μ) := by
  intro n
  induction n with
  | zero => intro v4 v5 v6 v7 μ; exact pb_none
  | succ n ih =>
    intro v4 v5 v6 v7 μ
    rw [pX6_suspects_L55]
    refine pb_iload 57 dX6_suspects_55 rfl rfl ?_
    refine pb_iload_n 58 dX6_suspects_57 rfl rfl rfl ?_
    refine pb_icmp_gt 61 (tgt := 113) dX6_suspects_58 (by decide) rfl (fun _ => ?_) (fun _ => ?_)
    · refine pb_weakM (L' := [some (.ref (E.2.1 0)), none, some (.int v2), some (.int v3), some (.int v4), some (.int v5), some (.int v6), none]) [true, false, true, true, true, true, true, false] rfl ?_
      exact hK113 v4 v5 v6 μ
    · refine pb_aload_n 62 dX6_suspects_61 rfl rfl rfl ?_
      refine pb_getR 65 (j := 4) (d := 10) in_X6 rfl (by decide) rfl rfl (by decide) fl_X6_36 dX6_suspects_62 rfl ?_
      refine pb_iload 67 dX6_suspects_65 rfl rfl ?_
      refine pb_iload_n 68 dX6_suspects_67 rfl rfl rfl ?_
      refine cl_X2_allTakeSome 71 ⟨by decide, by decide, by decide, by decide⟩ (Nat.le_of_ble_eq_true rfl) ml_X6_231 dX6_suspects_68 rfl (fun b68 μ68 => ?_)
      refine pb_if_eq 74 (tgt := 107) dX6_suspects_71 (by decide) rfl (fun _ => ?_) (fun _ => ?_)
      · refine pb_iinc 110 (i := 7) (v := (v7 + (1 : Int32))) (L' := [some (.ref (E.2.1 0)), some (.int v1), some (.int v2), some (.int v3), some (.int v4), some (.int v5), some (.int v6), some (.int (v7 + (1 : Int32)))]) dX6_suspects_107 rfl rfl (by decide) rfl rfl rfl ?_
        refine pb_goto (tgt := 55) dX6_suspects_110 (by decide) ?_
        exact ih v4 v5 v6 (v7 + (1 : Int32)) μ68
      · refine pb_iload_n 75 dX6_suspects_74 rfl rfl rfl ?_
        refine pb_aload_n 76 dX6_suspects_75 rfl rfl rfl ?_
        refine pb_getR 79 (j := 4) (d := 10) in_X6 rfl (by decide) rfl rfl (by decide) fl_X6_36 dX6_suspects_76 rfl ?_
        refine pb_iload 81 dX6_suspects_79 rfl rfl ?_
        refine cl_X2_takableByAny 84 ⟨by decide, by decide, by decide, by decide⟩ (Nat.le_of_ble_eq_true rfl) ml_X6_234 dX6_suspects_81 rfl (fun b81 μ81 => ?_)
        refine pb_iconst 85 (v := -1) dX6_suspects_84 rfl (by decide) ?_
        refine pb_ixor 86 dX6_suspects_85 rfl ?_
        refine pb_iand 87 dX6_suspects_86 rfl ?_
        refine pb_if_ne 90 (tgt := 107) dX6_suspects_87 (by decide) rfl (fun _ => ?_) (fun _ => ?_)
        · refine pb_iinc 93 (i := 4) (v := (v4 + (1 : Int32))) (L' := [some (.ref (E.2.1 0)), some (.int v1), some (.int v2), some (.int v3), some (.int (v4 + (1 : Int32))), some (.int v5), some (.int v6), some (.int v7)]) dX6_suspects_90 rfl rfl (by decide) rfl rfl rfl ?_
          refine pb_iload 95 dX6_suspects_93 rfl rfl ?_
          refine pb_iload 97 dX6_suspects_95 rfl rfl ?_
          refine pb_iand 98 dX6_suspects_97 rfl ?_
          refine pb_istore 100 (i := 5) (L' := [some (.ref (E.2.1 0)), some (.int v1), some (.int v2), some (.int v3), some (.int (v4 + (1 : Int32))), some (.int (v5 &&& v7)), some (.int v6), some (.int v7)]) dX6_suspects_98 (by decide) rfl rfl rfl ?_
          refine pb_iload 102 dX6_suspects_100 rfl rfl ?_
          refine pb_iload 104 dX6_suspects_102 rfl rfl ?_
          refine pb_ior 105 dX6_suspects_104 rfl ?_
          refine pb_istore 107 (i := 6) (L' := [some (.ref (E.2.1 0)), some (.int v1), some (.int v2), some (.int v3), some (.int (v4 + (1 : Int32))), some (.int (v5 &&& v7)), some (.int (v6 ||| v7)), some (.int v7)]) dX6_suspects_105 (by decide) rfl rfl rfl ?_
          refine pb_iinc 110 (i := 7) (v := (v7 + (1 : Int32))) (L' := [some (.ref (E.2.1 0)), some (.int v1), some (.int v2), some (.int v3), some (.int (v4 + (1 : Int32))), some (.int (v5 &&& v7)), some (.int (v6 ||| v7)), some (.int (v7 + (1 : Int32)))]) dX6_suspects_107 rfl rfl (by decide) rfl rfl rfl ?_
          refine pb_goto (tgt := 55) dX6_suspects_110 (by decide) ?_
          exact ih (v4 + (1 : Int32)) (v5 &&& v7) (v6 ||| v7) (v7 + (1 : Int32)) μ81
        · refine pb_iinc 110 (i := 7) (v := (v7 + (1 : Int32))) (L' := [some (.ref (E.2.1 0)), some (.int v1), some (.int v2), some (.int v3), some (.int v4), some (.int v5), some (.int v6), some (.int (v7 + (1 : Int32)))]) dX6_suspects_107 rfl rfl (by decide) rfl rfl rfl ?_
          refine pb_goto (tgt := 55) dX6_suspects_110 (by decide) ?_
          exact ih v4 v5 v6 (v7 + (1 : Int32)) μ81
set_option maxRecDepth 100000 in
set_option maxHeartbeats 4000000 in
theorem evX6_suspects (l : Launch) (E : pb_E) (v1 : Int32) (v2 : Int32)  (μ : pb_M) : ∀ b μ', pX6_suspects v1 v2 μ = some (b, μ') → pb_Ev l E yX6_suspects cX6_suspects 8 (some .int) { frames := 5, cells := 0, slots := 0, locals := 110 } [.ref (E.2.1 0), .int v1, .int v2] μ ((fun z : Int32 => some (.int z)) b) μ' := by
  refine pb_enter (L := [some (.ref (E.2.1 0)), some (.int v1), some (.int v2), none, none, none, none, none]) (by decide +kernel) (Nat.le_of_ble_eq_true rfl) (pb_same [none, none, none, none, none, none, none, none] rfl) (show wX6_suspects l E 0 [some (.ref (E.2.1 0)), some (.int v1), some (.int v2), none, none, none, none, none] [] μ (pX6_suspects v1 v2 μ) from ?_)
  unfold pX6_suspects
  refine pb_aload_n 1 dX6_suspects_0 rfl rfl rfl ?_
  refine pb_iload_n 2 dX6_suspects_1 rfl rfl rfl ?_
  refine cl_X6_areBeasts 5 ⟨by decide, by decide, by decide, by decide⟩ (Nat.le_of_ble_eq_true rfl) ml_X6_228 dX6_suspects_2 rfl (fun b2 μ2 => ?_)
  refine pb_if_eq 8 (tgt := 17) dX6_suspects_5 (by decide) rfl (fun _ => ?_) (fun _ => ?_)
  · refine pb_bipush 19 (v := -2) dX6_suspects_17 rfl (by decide) ?_
    exact pb_iret dX6_suspects_19
  · refine pb_iload_n 9 dX6_suspects_8 rfl rfl rfl ?_
    refine pb_if_lt 12 (tgt := 17) dX6_suspects_9 (by decide) rfl (fun _ => ?_) (fun _ => ?_)
    · refine pb_bipush 19 (v := -2) dX6_suspects_17 rfl (by decide) ?_
      exact pb_iret dX6_suspects_19
    · refine pb_iload_n 13 dX6_suspects_12 rfl rfl rfl ?_
      refine pb_iconst 14 (v := 2) dX6_suspects_13 rfl (by decide) ?_
      refine pb_icmp_le 17 (tgt := 20) dX6_suspects_14 (by decide) rfl (fun _ => ?_) (fun _ => ?_)
      · refine pb_aload_n 21 dX6_suspects_20 rfl rfl rfl ?_
        refine pb_getR 24 (j := 4) (d := 10) in_X6 rfl (by decide) rfl rfl (by decide) fl_X6_36 dX6_suspects_21 rfl ?_
        refine pb_aload_n 25 dX6_suspects_24 rfl rfl rfl ?_
        refine pb_getR 28 (j := 1) (d := 4) in_X6 rfl (by decide) rfl rfl (by decide) fl_X6_19 dX6_suspects_25 rfl ?_
        refine cl_X2_look 31 pb_V4 ⟨by decide, by decide, by decide, by decide⟩ (Nat.le_of_ble_eq_true rfl) ml_X6_194 dX6_suspects_28 rfl (fun b28 μ28 => ?_)
        refine pb_iconst 32 (v := 1) dX6_suspects_31 rfl (by decide) ?_
        refine pb_aload_n 33 dX6_suspects_32 rfl rfl rfl ?_
        refine pb_getR 36 (j := 1) (d := 4) in_X6 rfl (by decide) rfl rfl (by decide) fl_X6_19 dX6_suspects_33 rfl ?_
        refine cl_X5_people 39 pb_V4 ⟨by decide, by decide, by decide, by decide⟩ (Nat.le_of_ble_eq_true rfl) ml_X6_85 dX6_suspects_36 rfl (fun b36 μ36 => ?_)
        refine pb_ishl 40 dX6_suspects_39 rfl ?_
        refine pb_iconst 41 (v := 1) dX6_suspects_40 rfl (by decide) ?_
        refine pb_isub 42 dX6_suspects_41 rfl ?_
        refine pb_istore_n 43 (i := 3) (L' := [some (.ref (E.2.1 0)), some (.int v1), some (.int v2), some (.int (((1 : Int32) <<< (b36 &&& 31)) - (1 : Int32))), none, none, none, none]) dX6_suspects_42 rfl (by decide) rfl rfl rfl ?_
        refine pb_iconst 44 (v := 0) dX6_suspects_43 rfl (by decide) ?_
        refine pb_istore 46 (i := 4) (L' := [some (.ref (E.2.1 0)), some (.int v1), some (.int v2), some (.int (((1 : Int32) <<< (b36 &&& 31)) - (1 : Int32))), some (.int (0 : Int32)), none, none, none]) dX6_suspects_44 (by decide) rfl rfl rfl ?_
        refine pb_iload_n 47 dX6_suspects_46 rfl rfl rfl ?_
        refine pb_istore 49 (i := 5) (L' := [some (.ref (E.2.1 0)), some (.int v1), some (.int v2), some (.int (((1 : Int32) <<< (b36 &&& 31)) - (1 : Int32))), some (.int (0 : Int32)), some (.int (((1 : Int32) <<< (b36 &&& 31)) - (1 : Int32))), none, none]) dX6_suspects_47 (by decide) rfl rfl rfl ?_
        refine pb_iconst 50 (v := 0) dX6_suspects_49 rfl (by decide) ?_
        refine pb_istore 52 (i := 6) (L' := [some (.ref (E.2.1 0)), some (.int v1), some (.int v2), some (.int (((1 : Int32) <<< (b36 &&& 31)) - (1 : Int32))), some (.int (0 : Int32)), some (.int (((1 : Int32) <<< (b36 &&& 31)) - (1 : Int32))), some (.int (0 : Int32)), none]) dX6_suspects_50 (by decide) rfl rfl rfl ?_
        refine pb_iconst 53 (v := 0) dX6_suspects_52 rfl (by decide) ?_
        refine pb_istore 55 (i := 7) (L' := [some (.ref (E.2.1 0)), some (.int v1), some (.int v2), some (.int (((1 : Int32) <<< (b36 &&& 31)) - (1 : Int32))), some (.int (0 : Int32)), some (.int (((1 : Int32) <<< (b36 &&& 31)) - (1 : Int32))), some (.int (0 : Int32)), some (.int (0 : Int32))]) dX6_suspects_53 (by decide) rfl rfl rfl ?_
        refine tX6_suspects_L55 l E v1 v2 (((1 : Int32) <<< (b36 &&& 31)) - (1 : Int32)) (fun x4k113 x5k113 x6k113 μk113 => ?_) pb_F (0 : Int32) (((1 : Int32) <<< (b36 &&& 31)) - (1 : Int32)) (0 : Int32) (0 : Int32) μ36
        refine pb_iload_n 114 dX6_suspects_113 rfl rfl rfl ?_
        refine pb_if_ne 117 (tgt := 120) dX6_suspects_114 (by decide) rfl (fun _ => ?_) (fun _ => ?_)
        · refine pb_iload 119 dX6_suspects_117 rfl rfl ?_
          exact pb_iret dX6_suspects_119
        · refine pb_iload 122 dX6_suspects_120 rfl rfl ?_
          refine pb_if_ne 125 (tgt := 128) dX6_suspects_122 (by decide) rfl (fun _ => ?_) (fun _ => ?_)
          · refine pb_bipush 127 (v := -9) dX6_suspects_125 rfl (by decide) ?_
            exact pb_iret dX6_suspects_127
          · refine pb_iload_n 129 dX6_suspects_128 rfl rfl rfl ?_
            refine pb_iconst 130 (v := 1) dX6_suspects_129 rfl (by decide) ?_
            refine pb_icmp_ne 133 (tgt := 138) dX6_suspects_130 (by decide) rfl (fun _ => ?_) (fun _ => ?_)
            · refine pb_iload 135 dX6_suspects_133 rfl rfl ?_
              refine pb_goto (tgt := 144) dX6_suspects_135 (by decide) ?_
              exact pb_iret dX6_suspects_144
            · refine pb_iload_n 139 dX6_suspects_138 rfl rfl rfl ?_
              refine pb_iload 141 dX6_suspects_139 rfl rfl ?_
              refine pb_iconst 142 (v := -1) dX6_suspects_141 rfl (by decide) ?_
              refine pb_ixor 143 dX6_suspects_142 rfl ?_
              refine pb_iand 144 dX6_suspects_143 rfl ?_
              exact pb_iret dX6_suspects_144
      · refine pb_bipush 19 (v := -2) dX6_suspects_17 rfl (by decide) ?_
        exact pb_iret dX6_suspects_19
theorem mc_X6_suspects : pb_MC yX6_suspects cX6_suspects 8 (some .int) 2 := ⟨pb_inW 681 (by decide +kernel) (by decide +kernel), pb_inW 61 (by decide +kernel) (by decide +kernel), by decide +kernel, by decide +kernel, by decide +kernel⟩
theorem mi_X6_suspects : Cond.instanceMethod yX6_suspects ∈ pb_gw := pb_inW 679 (by decide +kernel) (by decide +kernel)
theorem ms_X6_suspects : Cond.selects (yX6_suspects).cls yX6_suspects yX6_suspects ∈ pb_gw := pb_inW 680 (by decide +kernel) (by decide +kernel)
theorem cl_X6_suspects {α : Type} {l : Launch} {E : pb_E} {R : Room} {own : String} {cc : ByteArray} {mL : Nat} {ret : Option FieldType} {Xs : State → Prop} {nc ns : Nat} {Qf : State → Array Value → List Frame → α → pb_M → State → Prop} {pc : Nat} {L : List (Option Value)} {S : List Value} {μ : pb_M} {f : Int32 → pb_M → Option (α × pb_M)} {v1 : Int32} {v2 : Int32} {index : Nat} (q : Nat)  (hR : 5 + 1 ≤ R.frames ∧ 8 + (8 + 11) + 110 ≤ R.locals ∧ nc ≤ R.cells ∧ ns ≤ R.slots) (hW : (S.map fun v => v.category).sum ≤ 8) (hl1 : Cond.methodLink own index yX6_suspects ∈ pb_gw) (hdg : decode cc pc = .ok (.invokevirtual index, 3)) (hq : pc + 3 = q) (k : ∀ b1 μ1, pb_RW l E R own cc mL ret Xs nc ns Qf q L (.int b1 :: S) μ1 (f b1 μ1)) : pb_RW l E R own cc mL ret Xs nc ns Qf pc L (.int v2 :: .int v1 :: .ref (E.2.1 0) :: S) μ (pb_b (pX6_suspects v1 v2 μ) f) := pb_callV q (fun z : Int32 => some (.int z)) mc_X6_suspects mi_X6_suspects ms_X6_suspects (fun b1 μ1 h => evX6_suspects l E v1 v2  μ b1 μ1 h) rfl (by decide) rfl rfl rfl rfl hR rfl hW hl1 hdg hq k
theorem fl_X6_50 : Cond.fieldLink RX6 50 (TX6 6).1 (TX6 6).2.1 (TX6 6).2.2.1 ∈ pb_gw := pb_inW 184 (by decide +kernel) (by decide +kernel)
theorem ml_X6_237 : Cond.methodLink RX6 237 yX1_settle ∈ pb_gw := pb_inW 691 (by decide +kernel) (by decide +kernel)
theorem ml_X6_241 : Cond.methodLink RX6 241 yX1_howMany ∈ pb_gw := pb_inW 722 (by decide +kernel) (by decide +kernel)
theorem ml_X6_244 : Cond.methodLink RX6 244 yX1_first ∈ pb_gw := pb_inW 726 (by decide +kernel) (by decide +kernel)
def pX6_rests (v1 : Int32) (v2 : Int32) (v3 : Int32) (μ : pb_M) : Option (Int32 × pb_M) :=
  pb_b (pX5_hasPerson 4 v1 μ) (fun b5 μ5 =>
  if b5 = (0 : Int32) then
    some ((-1 : Int32), μ5)
  else
  pb_b (pX5_hasPerson 4 v2 μ5) (fun b16 μ16 =>
  if b16 = (0 : Int32) then
    some ((-1 : Int32), μ16)
  else
  if v1 = v2 then
    some ((-2 : Int32), μ16)
  else
  if v3 < (0 : Int32) then
    some ((-2 : Int32), μ16)
  else
  if v3 ≤ (1 : Int32) then
    pb_b (pX5_debt 4 v1 v2 μ16) (fun b47 μ47 =>
    if b47 = (0 : Int32) then
      some ((-9 : Int32), μ47)
    else
    pb_b (pX1_settle 4 v1 v2 μ47) (fun b66 μ66 =>
    if v3 = (0 : Int32) then
      pb_b (pX1_howMany μ66) (fun b77 μ77 =>
      some (b77, μ77))
    else
    pb_b (pX1_first μ66) (fun b87 μ87 =>
    some (b87, μ87))))
  else
  some ((-2 : Int32), μ16)))
abbrev wX6_rests (l : Launch) (E : pb_E) := pb_RW l E { frames := 5, cells := 0, slots := 0, locals := 113 } RX6 cX6_rests 4 (some .int) (fun _ => True) 0 0 (pb_Qf E (fun z : Int32 => some (.int z)))
set_option maxRecDepth 100000 in
set_option maxHeartbeats 4000000 in
theorem evX6_rests (l : Launch) (E : pb_E) (v1 : Int32) (v2 : Int32) (v3 : Int32)  (μ : pb_M) : ∀ b μ', pX6_rests v1 v2 v3 μ = some (b, μ') → pb_Ev l E yX6_rests cX6_rests 4 (some .int) { frames := 5, cells := 0, slots := 0, locals := 113 } [.ref (E.2.1 0), .int v1, .int v2, .int v3] μ ((fun z : Int32 => some (.int z)) b) μ' := by
  refine pb_enter (L := [some (.ref (E.2.1 0)), some (.int v1), some (.int v2), some (.int v3)]) (by decide +kernel) (Nat.le_of_ble_eq_true rfl) (pb_same [none, none, none, none] rfl) (show wX6_rests l E 0 [some (.ref (E.2.1 0)), some (.int v1), some (.int v2), some (.int v3)] [] μ (pX6_rests v1 v2 v3 μ) from ?_)
  unfold pX6_rests
  refine pb_aload_n 1 dX6_rests_0 rfl rfl rfl ?_
  refine pb_getR 4 (j := 1) (d := 4) in_X6 rfl (by decide) rfl rfl (by decide) fl_X6_19 dX6_rests_1 rfl ?_
  refine pb_iload_n 5 dX6_rests_4 rfl rfl rfl ?_
  refine cl_X5_hasPerson 8 pb_V4 ⟨by decide, by decide, by decide, by decide⟩ (Nat.le_of_ble_eq_true rfl) ml_X6_91 dX6_rests_5 rfl (fun b5 μ5 => ?_)
  refine pb_if_eq 11 (tgt := 22) dX6_rests_8 (by decide) rfl (fun _ => ?_) (fun _ => ?_)
  · refine pb_iconst 23 (v := -1) dX6_rests_22 rfl (by decide) ?_
    exact pb_iret dX6_rests_23
  · refine pb_aload_n 12 dX6_rests_11 rfl rfl rfl ?_
    refine pb_getR 15 (j := 1) (d := 4) in_X6 rfl (by decide) rfl rfl (by decide) fl_X6_19 dX6_rests_12 rfl ?_
    refine pb_iload_n 16 dX6_rests_15 rfl rfl rfl ?_
    refine cl_X5_hasPerson 19 pb_V4 ⟨by decide, by decide, by decide, by decide⟩ (Nat.le_of_ble_eq_true rfl) ml_X6_91 dX6_rests_16 rfl (fun b16 μ16 => ?_)
    refine pb_if_ne 22 (tgt := 24) dX6_rests_19 (by decide) rfl (fun _ => ?_) (fun _ => ?_)
    · refine pb_iconst 23 (v := -1) dX6_rests_22 rfl (by decide) ?_
      exact pb_iret dX6_rests_23
    · refine pb_iload_n 25 dX6_rests_24 rfl rfl rfl ?_
      refine pb_iload_n 26 dX6_rests_25 rfl rfl rfl ?_
      refine pb_icmp_eq 29 (tgt := 38) dX6_rests_26 (by decide) rfl (fun _ => ?_) (fun _ => ?_)
      · refine pb_bipush 40 (v := -2) dX6_rests_38 rfl (by decide) ?_
        exact pb_iret dX6_rests_40
      · refine pb_iload_n 30 dX6_rests_29 rfl rfl rfl ?_
        refine pb_if_lt 33 (tgt := 38) dX6_rests_30 (by decide) rfl (fun _ => ?_) (fun _ => ?_)
        · refine pb_bipush 40 (v := -2) dX6_rests_38 rfl (by decide) ?_
          exact pb_iret dX6_rests_40
        · refine pb_iload_n 34 dX6_rests_33 rfl rfl rfl ?_
          refine pb_iconst 35 (v := 1) dX6_rests_34 rfl (by decide) ?_
          refine pb_icmp_le 38 (tgt := 41) dX6_rests_35 (by decide) rfl (fun _ => ?_) (fun _ => ?_)
          · refine pb_aload_n 42 dX6_rests_41 rfl rfl rfl ?_
            refine pb_getR 45 (j := 1) (d := 4) in_X6 rfl (by decide) rfl rfl (by decide) fl_X6_19 dX6_rests_42 rfl ?_
            refine pb_iload_n 46 dX6_rests_45 rfl rfl rfl ?_
            refine pb_iload_n 47 dX6_rests_46 rfl rfl rfl ?_
            refine cl_X5_debt 50 pb_V4 ⟨by decide, by decide, by decide, by decide⟩ (Nat.le_of_ble_eq_true rfl) ml_X6_131 dX6_rests_47 rfl (fun b47 μ47 => ?_)
            refine pb_if_ne 53 (tgt := 56) dX6_rests_50 (by decide) rfl (fun _ => ?_) (fun _ => ?_)
            · refine pb_bipush 55 (v := -9) dX6_rests_53 rfl (by decide) ?_
              exact pb_iret dX6_rests_55
            · refine pb_aload_n 57 dX6_rests_56 rfl rfl rfl ?_
              refine pb_getR 60 (j := 6) (d := 15) in_X6 rfl (by decide) rfl rfl (by decide) fl_X6_50 dX6_rests_57 rfl ?_
              refine pb_aload_n 61 dX6_rests_60 rfl rfl rfl ?_
              refine pb_getR 64 (j := 1) (d := 4) in_X6 rfl (by decide) rfl rfl (by decide) fl_X6_19 dX6_rests_61 rfl ?_
              refine pb_iload_n 65 dX6_rests_64 rfl rfl rfl ?_
              refine pb_iload_n 66 dX6_rests_65 rfl rfl rfl ?_
              refine cl_X1_settle 69 pb_V4 ⟨by decide, by decide, by decide, by decide⟩ (Nat.le_of_ble_eq_true rfl) ml_X6_237 dX6_rests_66 rfl (fun b66 μ66 => ?_)
              refine pb_iload_n 70 dX6_rests_69 rfl rfl rfl ?_
              refine pb_if_ne 73 (tgt := 83) dX6_rests_70 (by decide) rfl (fun _ => ?_) (fun _ => ?_)
              · refine pb_aload_n 74 dX6_rests_73 rfl rfl rfl ?_
                refine pb_getR 77 (j := 6) (d := 15) in_X6 rfl (by decide) rfl rfl (by decide) fl_X6_50 dX6_rests_74 rfl ?_
                refine cl_X1_howMany 80 ⟨by decide, by decide, by decide, by decide⟩ (Nat.le_of_ble_eq_true rfl) ml_X6_241 dX6_rests_77 rfl (fun b77 μ77 => ?_)
                refine pb_goto (tgt := 90) dX6_rests_80 (by decide) ?_
                exact pb_iret dX6_rests_90
              · refine pb_aload_n 84 dX6_rests_83 rfl rfl rfl ?_
                refine pb_getR 87 (j := 6) (d := 15) in_X6 rfl (by decide) rfl rfl (by decide) fl_X6_50 dX6_rests_84 rfl ?_
                refine cl_X1_first 90 ⟨by decide, by decide, by decide, by decide⟩ (Nat.le_of_ble_eq_true rfl) ml_X6_244 dX6_rests_87 rfl (fun b87 μ87 => ?_)
                exact pb_iret dX6_rests_90
          · refine pb_bipush 40 (v := -2) dX6_rests_38 rfl (by decide) ?_
            exact pb_iret dX6_rests_40
theorem mc_X6_rests : pb_MC yX6_rests cX6_rests 4 (some .int) 3 := ⟨pb_inW 690 (by decide +kernel) (by decide +kernel), pb_inW 61 (by decide +kernel) (by decide +kernel), by decide +kernel, by decide +kernel, by decide +kernel⟩
theorem mi_X6_rests : Cond.instanceMethod yX6_rests ∈ pb_gw := pb_inW 688 (by decide +kernel) (by decide +kernel)
theorem ms_X6_rests : Cond.selects (yX6_rests).cls yX6_rests yX6_rests ∈ pb_gw := pb_inW 689 (by decide +kernel) (by decide +kernel)
theorem cl_X6_rests {α : Type} {l : Launch} {E : pb_E} {R : Room} {own : String} {cc : ByteArray} {mL : Nat} {ret : Option FieldType} {Xs : State → Prop} {nc ns : Nat} {Qf : State → Array Value → List Frame → α → pb_M → State → Prop} {pc : Nat} {L : List (Option Value)} {S : List Value} {μ : pb_M} {f : Int32 → pb_M → Option (α × pb_M)} {v1 : Int32} {v2 : Int32} {v3 : Int32} {index : Nat} (q : Nat)  (hR : 5 + 1 ≤ R.frames ∧ 8 + (4 + 11) + 113 ≤ R.locals ∧ nc ≤ R.cells ∧ ns ≤ R.slots) (hW : (S.map fun v => v.category).sum ≤ 8) (hl1 : Cond.methodLink own index yX6_rests ∈ pb_gw) (hdg : decode cc pc = .ok (.invokevirtual index, 3)) (hq : pc + 3 = q) (k : ∀ b1 μ1, pb_RW l E R own cc mL ret Xs nc ns Qf q L (.int b1 :: S) μ1 (f b1 μ1)) : pb_RW l E R own cc mL ret Xs nc ns Qf pc L (.int v3 :: .int v2 :: .int v1 :: .ref (E.2.1 0) :: S) μ (pb_b (pX6_rests v1 v2 v3 μ) f) := pb_callV q (fun z : Int32 => some (.int z)) mc_X6_rests mi_X6_rests ms_X6_rests (fun b1 μ1 h => evX6_rests l E v1 v2 v3  μ b1 μ1 h) rfl (by decide) rfl rfl rfl rfl hR rfl hW hl1 hdg hq k
