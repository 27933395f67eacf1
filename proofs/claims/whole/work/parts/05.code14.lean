def pX7_owes (v1 : Int32) (v2 : Int32) (μ : pb_M) : Option (Int32 × pb_M) :=
  pb_b (pX7_isPerson v1 μ) (fun b2 μ2 =>
  if b2 = (0 : Int32) then
    some ((-1 : Int32), μ2)
  else
  pb_b (pX7_isPerson v2 μ2) (fun b10 μ10 =>
  if b10 = (0 : Int32) then
    some ((-1 : Int32), μ10)
  else
  pb_b (pX7_debt (0 : Int32) v1 v2 μ10) (fun b23 μ23 =>
  if pb_in b23 90 then
    some ((μ23.1 21 (b23).toNatClampNeg), μ23)
  else none)))
abbrev wX7_owes (l : Launch) (E : pb_E) := pb_RW l E { frames := 2, cells := 0, slots := 0, locals := 46 } RX7 cX7_owes 3 (some .int) (fun _ => True) 0 0 (pb_Qf E (fun z : Int32 => some (.int z)))
set_option maxRecDepth 100000 in
set_option maxHeartbeats 4000000 in
theorem evX7_owes (l : Launch) (E : pb_E) (v1 : Int32) (v2 : Int32)  (μ : pb_M) : ∀ b μ', pX7_owes v1 v2 μ = some (b, μ') → pb_Ev l E yX7_owes cX7_owes 3 (some .int) { frames := 2, cells := 0, slots := 0, locals := 46 } [.ref (E.2.1 19), .int v1, .int v2] μ ((fun z : Int32 => some (.int z)) b) μ' := by
  refine pb_enter (L := [some (.ref (E.2.1 19)), some (.int v1), some (.int v2)]) (by decide +kernel) (Nat.le_of_ble_eq_true rfl) (pb_same [none, none, none] rfl) (show wX7_owes l E 0 [some (.ref (E.2.1 19)), some (.int v1), some (.int v2)] [] μ (pX7_owes v1 v2 μ) from ?_)
  unfold pX7_owes
  refine pb_aload_n 1 dX7_owes_0 rfl rfl rfl ?_
  refine pb_iload_n 2 dX7_owes_1 rfl rfl rfl ?_
  refine cl_X7_isPerson 5 ⟨by decide, by decide, by decide, by decide⟩ (Nat.le_of_ble_eq_true rfl) ml_X7_100 dX7_owes_2 rfl (fun b2 μ2 => ?_)
  refine pb_if_eq 8 (tgt := 30) dX7_owes_5 (by decide) rfl (fun _ => ?_) (fun _ => ?_)
  · refine pb_iconst 31 (v := -1) dX7_owes_30 rfl (by decide) ?_
    exact pb_iret dX7_owes_31
  · refine pb_aload_n 9 dX7_owes_8 rfl rfl rfl ?_
    refine pb_iload_n 10 dX7_owes_9 rfl rfl rfl ?_
    refine cl_X7_isPerson 13 ⟨by decide, by decide, by decide, by decide⟩ (Nat.le_of_ble_eq_true rfl) ml_X7_100 dX7_owes_10 rfl (fun b10 μ10 => ?_)
    refine pb_if_eq 16 (tgt := 30) dX7_owes_13 (by decide) rfl (fun _ => ?_) (fun _ => ?_)
    · refine pb_iconst 31 (v := -1) dX7_owes_30 rfl (by decide) ?_
      exact pb_iret dX7_owes_31
    · refine pb_aload_n 17 dX7_owes_16 rfl rfl rfl ?_
      refine pb_getR 20 (j := 3) (d := 21) in_X7 rfl (by decide) rfl rfl (by decide) fl_X7_13 dX7_owes_17 rfl ?_
      refine pb_iconst 21 (v := 0) dX7_owes_20 rfl (by decide) ?_
      refine pb_iload_n 22 dX7_owes_21 rfl rfl rfl ?_
      refine pb_iload_n 23 dX7_owes_22 rfl rfl rfl ?_
      refine cl_X7_debt 26 ⟨by decide, by decide, by decide, by decide⟩ (Nat.le_of_ble_eq_true rfl) ml_X7_104 dX7_owes_23 rfl (fun b23 μ23 => ?_)
      refine pb_guard (fun hin => pb_iald 27 rfl hin rfl dX7_owes_26 rfl ?_)
      refine pb_goto (tgt := 31) dX7_owes_27 (by decide) ?_
      exact pb_iret dX7_owes_31
theorem mc_X7_owes : pb_MC yX7_owes cX7_owes 3 (some .int) 2 := ⟨pb_inW 922 (by decide +kernel) (by decide +kernel), pb_inW 68 (by decide +kernel) (by decide +kernel), by decide +kernel, by decide +kernel, by decide +kernel⟩
theorem mi_X7_owes : Cond.instanceMethod yX7_owes ∈ pb_gw := pb_inW 920 (by decide +kernel) (by decide +kernel)
theorem ms_X7_owes : Cond.selects (yX7_owes).cls yX7_owes yX7_owes ∈ pb_gw := pb_inW 921 (by decide +kernel) (by decide +kernel)
theorem cl_X7_owes {α : Type} {l : Launch} {E : pb_E} {R : Room} {own : String} {cc : ByteArray} {mL : Nat} {ret : Option FieldType} {Xs : State → Prop} {nc ns : Nat} {Qf : State → Array Value → List Frame → α → pb_M → State → Prop} {pc : Nat} {L : List (Option Value)} {S : List Value} {μ : pb_M} {f : Int32 → pb_M → Option (α × pb_M)} {v1 : Int32} {v2 : Int32} {index : Nat} (q : Nat)  (hR : 2 + 1 ≤ R.frames ∧ 8 + (3 + 11) + 46 ≤ R.locals ∧ nc ≤ R.cells ∧ ns ≤ R.slots) (hW : (S.map fun v => v.category).sum ≤ 8) (hl1 : Cond.methodLink own index yX7_owes ∈ pb_gw) (hdg : decode cc pc = .ok (.invokevirtual index, 3)) (hq : pc + 3 = q) (k : ∀ b1 μ1, pb_RW l E R own cc mL ret Xs nc ns Qf q L (.int b1 :: S) μ1 (f b1 μ1)) : pb_RW l E R own cc mL ret Xs nc ns Qf pc L (.int v2 :: .int v1 :: .ref (E.2.1 19) :: S) μ (pb_b (pX7_owes v1 v2 μ) f) := pb_callV q (fun z : Int32 => some (.int z)) mc_X7_owes mi_X7_owes ms_X7_owes (fun b1 μ1 h => evX7_owes l E v1 v2  μ b1 μ1 h) rfl (by decide) rfl rfl rfl rfl hR rfl hW hl1 hdg hq k
theorem ml_X7_111 : Cond.methodLink RX7 111 yX7_isIn ∈ pb_gw := pb_inW 931 (by decide +kernel) (by decide +kernel)
def pX7_clauseOn (v1 : Int32) (v2 : Int32) (v3 : Int32) (μ : pb_M) : Option (Int32 × pb_M) :=
  if pb_in ((((45 : Int32) * v1) + (8 : Int32)) + v3) 90 then
    if (μ.1 21 (((((45 : Int32) * v1) + (8 : Int32)) + v3)).toNatClampNeg) = v2 then
      some ((1 : Int32), μ)
    else
    if pb_in ((((45 : Int32) * v1) + (13 : Int32)) + v3) 90 then
      if (μ.1 21 (((((45 : Int32) * v1) + (13 : Int32)) + v3)).toNatClampNeg) = (0 : Int32) then
        some ((2 : Int32), μ)
      else
      pb_b (pX7_isIn v1 v3 μ) (fun b48 μ48 =>
      if b48 = (0 : Int32) then
        pb_b (pX7_debt v1 (μ.1 21 (((((45 : Int32) * v1) + (8 : Int32)) + v3)).toNatClampNeg) v2 μ48) (fun b64 μ64 =>
        if pb_in b64 90 then
          if (μ64.1 21 (b64).toNatClampNeg) = (0 : Int32) then
            some ((4 : Int32), μ64)
          else
          if pb_in v3 5 then
            if (μ64.1 20 (v3).toNatClampNeg) = (1 : Int32) then
              if pb_in (((45 : Int32) * v1) + (44 : Int32)) 90 then
                if (3 : Int32) ≤ (pb_rem (μ64.1 21 ((((45 : Int32) * v1) + (44 : Int32))).toNatClampNeg) (12 : Int32)) then
                  if pb_in v3 5 then
                    if (μ64.1 20 (v3).toNatClampNeg) = (3 : Int32) then
                      some ((6 : Int32), μ64)
                    else
                    some ((0 : Int32), μ64)
                  else none
                else
                some ((5 : Int32), μ64)
              else none
            else
            if pb_in v3 5 then
              if (μ64.1 20 (v3).toNatClampNeg) = (3 : Int32) then
                some ((6 : Int32), μ64)
              else
              some ((0 : Int32), μ64)
            else none
          else none
        else none)
      else
      some ((3 : Int32), μ48))
    else none
  else none
abbrev wX7_clauseOn (l : Launch) (E : pb_E) := pb_RW l E { frames := 1, cells := 0, slots := 0, locals := 22 } RX7 cX7_clauseOn 6 (some .int) (fun _ => True) 0 0 (pb_Qf E (fun z : Int32 => some (.int z)))
set_option maxRecDepth 100000 in
set_option maxHeartbeats 4000000 in
theorem evX7_clauseOn (l : Launch) (E : pb_E) (v1 : Int32) (v2 : Int32) (v3 : Int32)  (μ : pb_M) : ∀ b μ', pX7_clauseOn v1 v2 v3 μ = some (b, μ') → pb_Ev l E yX7_clauseOn cX7_clauseOn 6 (some .int) { frames := 1, cells := 0, slots := 0, locals := 22 } [.ref (E.2.1 19), .int v1, .int v2, .int v3] μ ((fun z : Int32 => some (.int z)) b) μ' := by
  refine pb_enter (L := [some (.ref (E.2.1 19)), some (.int v1), some (.int v2), some (.int v3), none, none]) (by decide +kernel) (Nat.le_of_ble_eq_true rfl) (pb_same [none, none, none, none, none, none] rfl) (show wX7_clauseOn l E 0 [some (.ref (E.2.1 19)), some (.int v1), some (.int v2), some (.int v3), none, none] [] μ (pX7_clauseOn v1 v2 v3 μ) from ?_)
  unfold pX7_clauseOn
  refine pb_bipush 2 (v := 45) dX7_clauseOn_0 rfl (by decide) ?_
  refine pb_iload_n 3 dX7_clauseOn_2 rfl rfl rfl ?_
  refine pb_imul 4 dX7_clauseOn_3 rfl ?_
  refine pb_istore 6 (i := 4) (L' := [some (.ref (E.2.1 19)), some (.int v1), some (.int v2), some (.int v3), some (.int ((45 : Int32) * v1)), none]) dX7_clauseOn_4 (by decide) rfl rfl rfl ?_
  refine pb_aload_n 7 dX7_clauseOn_6 rfl rfl rfl ?_
  refine pb_getR 10 (j := 3) (d := 21) in_X7 rfl (by decide) rfl rfl (by decide) fl_X7_13 dX7_clauseOn_7 rfl ?_
  refine pb_iload 12 dX7_clauseOn_10 rfl rfl ?_
  refine pb_bipush 14 (v := 8) dX7_clauseOn_12 rfl (by decide) ?_
  refine pb_iadd 15 dX7_clauseOn_14 rfl ?_
  refine pb_iload_n 16 dX7_clauseOn_15 rfl rfl rfl ?_
  refine pb_iadd 17 dX7_clauseOn_16 rfl ?_
  refine pb_guard (fun hin => pb_iald 18 rfl hin rfl dX7_clauseOn_17 rfl ?_)
  refine pb_istore 20 (i := 5) (L' := [some (.ref (E.2.1 19)), some (.int v1), some (.int v2), some (.int v3), some (.int ((45 : Int32) * v1)), some (.int (μ.1 21 (((((45 : Int32) * v1) + (8 : Int32)) + v3)).toNatClampNeg))]) dX7_clauseOn_18 (by decide) rfl rfl rfl ?_
  refine pb_iload 22 dX7_clauseOn_20 rfl rfl ?_
  refine pb_iload_n 23 dX7_clauseOn_22 rfl rfl rfl ?_
  refine pb_icmp_ne 26 (tgt := 28) dX7_clauseOn_23 (by decide) rfl (fun _ => ?_) (fun _ => ?_)
  · refine pb_iconst 27 (v := 1) dX7_clauseOn_26 rfl (by decide) ?_
    exact pb_iret dX7_clauseOn_27
  · refine pb_aload_n 29 dX7_clauseOn_28 rfl rfl rfl ?_
    refine pb_getR 32 (j := 3) (d := 21) in_X7 rfl (by decide) rfl rfl (by decide) fl_X7_13 dX7_clauseOn_29 rfl ?_
    refine pb_iload 34 dX7_clauseOn_32 rfl rfl ?_
    refine pb_bipush 36 (v := 13) dX7_clauseOn_34 rfl (by decide) ?_
    refine pb_iadd 37 dX7_clauseOn_36 rfl ?_
    refine pb_iload_n 38 dX7_clauseOn_37 rfl rfl rfl ?_
    refine pb_iadd 39 dX7_clauseOn_38 rfl ?_
    refine pb_guard (fun hin => pb_iald 40 rfl hin rfl dX7_clauseOn_39 rfl ?_)
    refine pb_if_ne 43 (tgt := 45) dX7_clauseOn_40 (by decide) rfl (fun _ => ?_) (fun _ => ?_)
    · refine pb_iconst 44 (v := 2) dX7_clauseOn_43 rfl (by decide) ?_
      exact pb_iret dX7_clauseOn_44
    · refine pb_aload_n 46 dX7_clauseOn_45 rfl rfl rfl ?_
      refine pb_iload_n 47 dX7_clauseOn_46 rfl rfl rfl ?_
      refine pb_iload_n 48 dX7_clauseOn_47 rfl rfl rfl ?_
      refine cl_X7_isIn 51 ⟨by decide, by decide, by decide, by decide⟩ (Nat.le_of_ble_eq_true rfl) ml_X7_111 dX7_clauseOn_48 rfl (fun b48 μ48 => ?_)
      refine pb_if_eq 54 (tgt := 56) dX7_clauseOn_51 (by decide) rfl (fun _ => ?_) (fun _ => ?_)
      · refine pb_aload_n 57 dX7_clauseOn_56 rfl rfl rfl ?_
        refine pb_getR 60 (j := 3) (d := 21) in_X7 rfl (by decide) rfl rfl (by decide) fl_X7_13 dX7_clauseOn_57 rfl ?_
        refine pb_iload_n 61 dX7_clauseOn_60 rfl rfl rfl ?_
        refine pb_iload 63 dX7_clauseOn_61 rfl rfl ?_
        refine pb_iload_n 64 dX7_clauseOn_63 rfl rfl rfl ?_
        refine cl_X7_debt 67 ⟨by decide, by decide, by decide, by decide⟩ (Nat.le_of_ble_eq_true rfl) ml_X7_104 dX7_clauseOn_64 rfl (fun b64 μ64 => ?_)
        refine pb_guard (fun hin => pb_iald 68 rfl hin rfl dX7_clauseOn_67 rfl ?_)
        refine pb_if_ne 71 (tgt := 73) dX7_clauseOn_68 (by decide) rfl (fun _ => ?_) (fun _ => ?_)
        · refine pb_iconst 72 (v := 4) dX7_clauseOn_71 rfl (by decide) ?_
          exact pb_iret dX7_clauseOn_72
        · refine pb_aload_n 74 dX7_clauseOn_73 rfl rfl rfl ?_
          refine pb_getR 77 (j := 2) (d := 20) in_X7 rfl (by decide) rfl rfl (by decide) fl_X7_7 dX7_clauseOn_74 rfl ?_
          refine pb_iload_n 78 dX7_clauseOn_77 rfl rfl rfl ?_
          refine pb_guard (fun hin => pb_iald 79 rfl hin rfl dX7_clauseOn_78 rfl ?_)
          refine pb_iconst 80 (v := 1) dX7_clauseOn_79 rfl (by decide) ?_
          refine pb_icmp_ne 83 (tgt := 104) dX7_clauseOn_80 (by decide) rfl (fun _ => ?_) (fun _ => ?_)
          · refine pb_aload_n 84 dX7_clauseOn_83 rfl rfl rfl ?_
            refine pb_getR 87 (j := 3) (d := 21) in_X7 rfl (by decide) rfl rfl (by decide) fl_X7_13 dX7_clauseOn_84 rfl ?_
            refine pb_iload 89 dX7_clauseOn_87 rfl rfl ?_
            refine pb_bipush 91 (v := 44) dX7_clauseOn_89 rfl (by decide) ?_
            refine pb_iadd 92 dX7_clauseOn_91 rfl ?_
            refine pb_guard (fun hin => pb_iald 93 rfl hin rfl dX7_clauseOn_92 rfl ?_)
            refine pb_bipush 95 (v := 12) dX7_clauseOn_93 rfl (by decide) ?_
            refine pb_irem 96 dX7_clauseOn_95 rfl (by decide) ?_
            refine pb_iconst 97 (v := 3) dX7_clauseOn_96 rfl (by decide) ?_
            refine pb_icmp_ge 100 (tgt := 104) dX7_clauseOn_97 (by decide) rfl (fun _ => ?_) (fun _ => ?_)
            · refine pb_aload_n 105 dX7_clauseOn_104 rfl rfl rfl ?_
              refine pb_getR 108 (j := 2) (d := 20) in_X7 rfl (by decide) rfl rfl (by decide) fl_X7_7 dX7_clauseOn_105 rfl ?_
              refine pb_iload_n 109 dX7_clauseOn_108 rfl rfl rfl ?_
              refine pb_guard (fun hin => pb_iald 110 rfl hin rfl dX7_clauseOn_109 rfl ?_)
              refine pb_iconst 111 (v := 3) dX7_clauseOn_110 rfl (by decide) ?_
              refine pb_icmp_ne 114 (tgt := 119) dX7_clauseOn_111 (by decide) rfl (fun _ => ?_) (fun _ => ?_)
              · refine pb_bipush 116 (v := 6) dX7_clauseOn_114 rfl (by decide) ?_
                refine pb_goto (tgt := 120) dX7_clauseOn_116 (by decide) ?_
                exact pb_iret dX7_clauseOn_120
              · refine pb_iconst 120 (v := 0) dX7_clauseOn_119 rfl (by decide) ?_
                exact pb_iret dX7_clauseOn_120
            · refine pb_iconst 101 (v := 5) dX7_clauseOn_100 rfl (by decide) ?_
              refine pb_goto (tgt := 120) dX7_clauseOn_101 (by decide) ?_
              exact pb_iret dX7_clauseOn_120
          · refine pb_aload_n 105 dX7_clauseOn_104 rfl rfl rfl ?_
            refine pb_getR 108 (j := 2) (d := 20) in_X7 rfl (by decide) rfl rfl (by decide) fl_X7_7 dX7_clauseOn_105 rfl ?_
            refine pb_iload_n 109 dX7_clauseOn_108 rfl rfl rfl ?_
            refine pb_guard (fun hin => pb_iald 110 rfl hin rfl dX7_clauseOn_109 rfl ?_)
            refine pb_iconst 111 (v := 3) dX7_clauseOn_110 rfl (by decide) ?_
            refine pb_icmp_ne 114 (tgt := 119) dX7_clauseOn_111 (by decide) rfl (fun _ => ?_) (fun _ => ?_)
            · refine pb_bipush 116 (v := 6) dX7_clauseOn_114 rfl (by decide) ?_
              refine pb_goto (tgt := 120) dX7_clauseOn_116 (by decide) ?_
              exact pb_iret dX7_clauseOn_120
            · refine pb_iconst 120 (v := 0) dX7_clauseOn_119 rfl (by decide) ?_
              exact pb_iret dX7_clauseOn_120
      · refine pb_iconst 55 (v := 3) dX7_clauseOn_54 rfl (by decide) ?_
        exact pb_iret dX7_clauseOn_55
theorem mc_X7_clauseOn : pb_MC yX7_clauseOn cX7_clauseOn 6 (some .int) 3 := ⟨pb_inW 930 (by decide +kernel) (by decide +kernel), pb_inW 68 (by decide +kernel) (by decide +kernel), by decide +kernel, by decide +kernel, by decide +kernel⟩
theorem mi_X7_clauseOn : Cond.instanceMethod yX7_clauseOn ∈ pb_gw := pb_inW 929 (by decide +kernel) (by decide +kernel)
theorem ms_X7_clauseOn : Cond.selects (yX7_clauseOn).cls yX7_clauseOn yX7_clauseOn ∈ pb_gw := pb_inW 35 (by decide +kernel) (by decide +kernel)
theorem cl_X7_clauseOn {α : Type} {l : Launch} {E : pb_E} {R : Room} {own : String} {cc : ByteArray} {mL : Nat} {ret : Option FieldType} {Xs : State → Prop} {nc ns : Nat} {Qf : State → Array Value → List Frame → α → pb_M → State → Prop} {pc : Nat} {L : List (Option Value)} {S : List Value} {μ : pb_M} {f : Int32 → pb_M → Option (α × pb_M)} {v1 : Int32} {v2 : Int32} {v3 : Int32} {index : Nat} (q : Nat)  (hR : 1 + 1 ≤ R.frames ∧ 8 + (6 + 11) + 22 ≤ R.locals ∧ nc ≤ R.cells ∧ ns ≤ R.slots) (hW : (S.map fun v => v.category).sum ≤ 8) (hl1 : Cond.methodLink own index yX7_clauseOn ∈ pb_gw) (hdg : decode cc pc = .ok (.invokevirtual index, 3)) (hq : pc + 3 = q) (k : ∀ b1 μ1, pb_RW l E R own cc mL ret Xs nc ns Qf q L (.int b1 :: S) μ1 (f b1 μ1)) : pb_RW l E R own cc mL ret Xs nc ns Qf pc L (.int v3 :: .int v2 :: .int v1 :: .ref (E.2.1 19) :: S) μ (pb_b (pX7_clauseOn v1 v2 v3 μ) f) := pb_callV q (fun z : Int32 => some (.int z)) mc_X7_clauseOn mi_X7_clauseOn ms_X7_clauseOn (fun b1 μ1 h => evX7_clauseOn l E v1 v2 v3  μ b1 μ1 h) rfl (by decide) rfl rfl rfl rfl hR rfl hW hl1 hdg hq k
def pX7_addOn (v1 : Int32) (v2 : Int32) (v3 : Int32) (v4 : Int32) (μ : pb_M) : Option (Unit × pb_M) :=
  pb_b (pX7_debt v1 v2 v3 μ) (fun b3 μ3 =>
  if pb_in b3 90 then
    if ((μ3.1 21 (b3).toNatClampNeg) + v4) ≤ (99 : Int32) then
      if pb_in b3 90 then
        if (0 : Int32) ≤ ((μ3.1 21 (b3).toNatClampNeg) + v4) then
          if pb_in b3 90 then
            if pb_in b3 90 then
              some ((), (pb_sA μ3 21 (upd (μ3.1 21) (b3).toNatClampNeg ((μ3.1 21 (b3).toNatClampNeg) + v4))))
            else none
          else none
        else
        if pb_in b3 90 then
          some ((), (pb_sA μ3 21 (upd (μ3.1 21) (b3).toNatClampNeg (0 : Int32))))
        else none
      else none
    else
    if pb_in b3 90 then
      some ((), (pb_sA μ3 21 (upd (μ3.1 21) (b3).toNatClampNeg (99 : Int32))))
    else none
  else none)
abbrev wX7_addOn (l : Launch) (E : pb_E) := pb_RW l E { frames := 1, cells := 0, slots := 0, locals := 22 } RX7 cX7_addOn 6 none (fun _ => True) 0 0 (pb_Qf E (fun _ : Unit => none))
set_option maxRecDepth 100000 in
set_option maxHeartbeats 4000000 in
theorem evX7_addOn (l : Launch) (E : pb_E) (v1 : Int32) (v2 : Int32) (v3 : Int32) (v4 : Int32)  (μ : pb_M) : ∀ b μ', pX7_addOn v1 v2 v3 v4 μ = some (b, μ') → pb_Ev l E yX7_addOn cX7_addOn 6 none { frames := 1, cells := 0, slots := 0, locals := 22 } [.ref (E.2.1 19), .int v1, .int v2, .int v3, .int v4] μ ((fun _ : Unit => none) b) μ' := by
  refine pb_enter (L := [some (.ref (E.2.1 19)), some (.int v1), some (.int v2), some (.int v3), some (.int v4), none]) (by decide +kernel) (Nat.le_of_ble_eq_true rfl) (pb_same [none, none, none, none, none, none] rfl) (show wX7_addOn l E 0 [some (.ref (E.2.1 19)), some (.int v1), some (.int v2), some (.int v3), some (.int v4), none] [] μ (pX7_addOn v1 v2 v3 v4 μ) from ?_)
  unfold pX7_addOn
  refine pb_iload_n 1 dX7_addOn_0 rfl rfl rfl ?_
  refine pb_iload_n 2 dX7_addOn_1 rfl rfl rfl ?_
  refine pb_iload_n 3 dX7_addOn_2 rfl rfl rfl ?_
  refine cl_X7_debt 6 ⟨by decide, by decide, by decide, by decide⟩ (Nat.le_of_ble_eq_true rfl) ml_X7_104 dX7_addOn_3 rfl (fun b3 μ3 => ?_)
  refine pb_istore 8 (i := 5) (L' := [some (.ref (E.2.1 19)), some (.int v1), some (.int v2), some (.int v3), some (.int v4), some (.int b3)]) dX7_addOn_6 (by decide) rfl rfl rfl ?_
  refine pb_aload_n 9 dX7_addOn_8 rfl rfl rfl ?_
  refine pb_getR 12 (j := 3) (d := 21) in_X7 rfl (by decide) rfl rfl (by decide) fl_X7_13 dX7_addOn_9 rfl ?_
  refine pb_iload 14 dX7_addOn_12 rfl rfl ?_
  refine pb_aload_n 15 dX7_addOn_14 rfl rfl rfl ?_
  refine pb_getR 18 (j := 3) (d := 21) in_X7 rfl (by decide) rfl rfl (by decide) fl_X7_13 dX7_addOn_15 rfl ?_
  refine pb_iload 20 dX7_addOn_18 rfl rfl ?_
  refine pb_guard (fun hin => pb_iald 21 rfl hin rfl dX7_addOn_20 rfl ?_)
  refine pb_iload 23 dX7_addOn_21 rfl rfl ?_
  refine pb_iadd 24 dX7_addOn_23 rfl ?_
  refine pb_bipush 26 (v := 99) dX7_addOn_24 rfl (by decide) ?_
  refine pb_icmp_le 29 (tgt := 34) dX7_addOn_26 (by decide) rfl (fun _ => ?_) (fun _ => ?_)
  · refine pb_aload_n 35 dX7_addOn_34 rfl rfl rfl ?_
    refine pb_getR 38 (j := 3) (d := 21) in_X7 rfl (by decide) rfl rfl (by decide) fl_X7_13 dX7_addOn_35 rfl ?_
    refine pb_iload 40 dX7_addOn_38 rfl rfl ?_
    refine pb_guard (fun hin => pb_iald 41 rfl hin rfl dX7_addOn_40 rfl ?_)
    refine pb_iload 43 dX7_addOn_41 rfl rfl ?_
    refine pb_iadd 44 dX7_addOn_43 rfl ?_
    refine pb_if_ge 47 (tgt := 51) dX7_addOn_44 (by decide) rfl (fun _ => ?_) (fun _ => ?_)
    · refine pb_aload_n 52 dX7_addOn_51 rfl rfl rfl ?_
      refine pb_getR 55 (j := 3) (d := 21) in_X7 rfl (by decide) rfl rfl (by decide) fl_X7_13 dX7_addOn_52 rfl ?_
      refine pb_iload 57 dX7_addOn_55 rfl rfl ?_
      refine pb_guard (fun hin => pb_iald 58 rfl hin rfl dX7_addOn_57 rfl ?_)
      refine pb_iload 60 dX7_addOn_58 rfl rfl ?_
      refine pb_iadd 61 dX7_addOn_60 rfl ?_
      refine pb_guard (fun hin => pb_iast 62 rfl hin rfl dX7_addOn_61 rfl ?_)
      exact pb_vret dX7_addOn_62
    · refine pb_iconst 48 (v := 0) dX7_addOn_47 rfl (by decide) ?_
      refine pb_goto (tgt := 61) dX7_addOn_48 (by decide) ?_
      refine pb_guard (fun hin => pb_iast 62 rfl hin rfl dX7_addOn_61 rfl ?_)
      exact pb_vret dX7_addOn_62
  · refine pb_bipush 31 (v := 99) dX7_addOn_29 rfl (by decide) ?_
    refine pb_goto (tgt := 61) dX7_addOn_31 (by decide) ?_
    refine pb_guard (fun hin => pb_iast 62 rfl hin rfl dX7_addOn_61 rfl ?_)
    exact pb_vret dX7_addOn_62
theorem mc_X7_addOn : pb_MC yX7_addOn cX7_addOn 6 none 4 := ⟨pb_inW 946 (by decide +kernel) (by decide +kernel), pb_inW 68 (by decide +kernel) (by decide +kernel), by decide +kernel, by decide +kernel, by decide +kernel⟩
theorem mi_X7_addOn : Cond.instanceMethod yX7_addOn ∈ pb_gw := pb_inW 945 (by decide +kernel) (by decide +kernel)
theorem ms_X7_addOn : Cond.selects (yX7_addOn).cls yX7_addOn yX7_addOn ∈ pb_gw := pb_inW 39 (by decide +kernel) (by decide +kernel)
theorem cl_X7_addOn {α : Type} {l : Launch} {E : pb_E} {R : Room} {own : String} {cc : ByteArray} {mL : Nat} {ret : Option FieldType} {Xs : State → Prop} {nc ns : Nat} {Qf : State → Array Value → List Frame → α → pb_M → State → Prop} {pc : Nat} {L : List (Option Value)} {S : List Value} {μ : pb_M} {f : Unit → pb_M → Option (α × pb_M)} {v1 : Int32} {v2 : Int32} {v3 : Int32} {v4 : Int32} {index : Nat} (q : Nat)  (hR : 1 + 1 ≤ R.frames ∧ 8 + (6 + 11) + 22 ≤ R.locals ∧ nc ≤ R.cells ∧ ns ≤ R.slots) (hW : (S.map fun v => v.category).sum ≤ 8) (hl1 : Cond.methodLink own index yX7_addOn ∈ pb_gw) (hdg : decode cc pc = .ok (.invokevirtual index, 3)) (hq : pc + 3 = q) (k : ∀ b1 μ1, pb_RW l E R own cc mL ret Xs nc ns Qf q L S μ1 (f b1 μ1)) : pb_RW l E R own cc mL ret Xs nc ns Qf pc L (.int v4 :: .int v3 :: .int v2 :: .int v1 :: .ref (E.2.1 19) :: S) μ (pb_b (pX7_addOn v1 v2 v3 v4 μ) f) := pb_callV q (fun _ : Unit => none) mc_X7_addOn mi_X7_addOn ms_X7_addOn (fun b1 μ1 h => evX7_addOn l E v1 v2 v3 v4  μ b1 μ1 h) rfl (by decide) rfl rfl rfl rfl hR rfl hW hl1 hdg hq k
def pX7_shutOn (v1 : Int32) (v2 : Int32) (v3 : Int32) (μ : pb_M) : Option (Unit × pb_M) :=
  if pb_in ((((45 : Int32) * v1) + (18 : Int32)) + v2) 90 then
    if pb_in ((((45 : Int32) * v1) + (23 : Int32)) + v2) 90 then
      some ((), (pb_sA (pb_sA μ 21 (upd (μ.1 21) (((((45 : Int32) * v1) + (18 : Int32)) + v2)).toNatClampNeg v3)) 21 (upd ((pb_sA μ 21 (upd (μ.1 21) (((((45 : Int32) * v1) + (18 : Int32)) + v2)).toNatClampNeg v3)).1 21) (((((45 : Int32) * v1) + (23 : Int32)) + v2)).toNatClampNeg (0 : Int32))))
    else none
  else none
abbrev wX7_shutOn (l : Launch) (E : pb_E) := pb_RW l E { frames := 0, cells := 0, slots := 0, locals := 0 } RX7 cX7_shutOn 4 none (fun _ => True) 0 0 (pb_Qf E (fun _ : Unit => none))
set_option maxRecDepth 100000 in
set_option maxHeartbeats 4000000 in
theorem evX7_shutOn (l : Launch) (E : pb_E) (v1 : Int32) (v2 : Int32) (v3 : Int32)  (μ : pb_M) : ∀ b μ', pX7_shutOn v1 v2 v3 μ = some (b, μ') → pb_Ev l E yX7_shutOn cX7_shutOn 4 none { frames := 0, cells := 0, slots := 0, locals := 0 } [.ref (E.2.1 19), .int v1, .int v2, .int v3] μ ((fun _ : Unit => none) b) μ' := by
  refine pb_enter (L := [some (.ref (E.2.1 19)), some (.int v1), some (.int v2), some (.int v3)]) (by decide +kernel) (Nat.le_of_ble_eq_true rfl) (pb_same [none, none, none, none] rfl) (show wX7_shutOn l E 0 [some (.ref (E.2.1 19)), some (.int v1), some (.int v2), some (.int v3)] [] μ (pX7_shutOn v1 v2 v3 μ) from ?_)
  unfold pX7_shutOn
  refine pb_aload_n 1 dX7_shutOn_0 rfl rfl rfl ?_
  refine pb_getR 4 (j := 3) (d := 21) in_X7 rfl (by decide) rfl rfl (by decide) fl_X7_13 dX7_shutOn_1 rfl ?_
  refine pb_bipush 6 (v := 45) dX7_shutOn_4 rfl (by decide) ?_
  refine pb_iload_n 7 dX7_shutOn_6 rfl rfl rfl ?_
  refine pb_imul 8 dX7_shutOn_7 rfl ?_
  refine pb_bipush 10 (v := 18) dX7_shutOn_8 rfl (by decide) ?_
  refine pb_iadd 11 dX7_shutOn_10 rfl ?_
  refine pb_iload_n 12 dX7_shutOn_11 rfl rfl rfl ?_
  refine pb_iadd 13 dX7_shutOn_12 rfl ?_
  refine pb_iload_n 14 dX7_shutOn_13 rfl rfl rfl ?_
  refine pb_guard (fun hin => pb_iast 15 rfl hin rfl dX7_shutOn_14 rfl ?_)
  refine pb_aload_n 16 dX7_shutOn_15 rfl rfl rfl ?_
  refine pb_getR 19 (j := 3) (d := 21) in_X7 rfl (by decide) rfl rfl (by decide) fl_X7_13 dX7_shutOn_16 rfl ?_
  refine pb_bipush 21 (v := 45) dX7_shutOn_19 rfl (by decide) ?_
  refine pb_iload_n 22 dX7_shutOn_21 rfl rfl rfl ?_
  refine pb_imul 23 dX7_shutOn_22 rfl ?_
  refine pb_bipush 25 (v := 23) dX7_shutOn_23 rfl (by decide) ?_
  refine pb_iadd 26 dX7_shutOn_25 rfl ?_
  refine pb_iload_n 27 dX7_shutOn_26 rfl rfl rfl ?_
  refine pb_iadd 28 dX7_shutOn_27 rfl ?_
  refine pb_iconst 29 (v := 0) dX7_shutOn_28 rfl (by decide) ?_
  refine pb_guard (fun hin => pb_iast 30 rfl hin rfl dX7_shutOn_29 rfl ?_)
  exact pb_vret dX7_shutOn_30
theorem mc_X7_shutOn : pb_MC yX7_shutOn cX7_shutOn 4 none 3 := ⟨pb_inW 942 (by decide +kernel) (by decide +kernel), pb_inW 68 (by decide +kernel) (by decide +kernel), by decide +kernel, by decide +kernel, by decide +kernel⟩
theorem mi_X7_shutOn : Cond.instanceMethod yX7_shutOn ∈ pb_gw := pb_inW 941 (by decide +kernel) (by decide +kernel)
theorem ms_X7_shutOn : Cond.selects (yX7_shutOn).cls yX7_shutOn yX7_shutOn ∈ pb_gw := pb_inW 38 (by decide +kernel) (by decide +kernel)
theorem cl_X7_shutOn {α : Type} {l : Launch} {E : pb_E} {R : Room} {own : String} {cc : ByteArray} {mL : Nat} {ret : Option FieldType} {Xs : State → Prop} {nc ns : Nat} {Qf : State → Array Value → List Frame → α → pb_M → State → Prop} {pc : Nat} {L : List (Option Value)} {S : List Value} {μ : pb_M} {f : Unit → pb_M → Option (α × pb_M)} {v1 : Int32} {v2 : Int32} {v3 : Int32} {index : Nat} (q : Nat)  (hR : 0 + 1 ≤ R.frames ∧ 8 + (4 + 11) + 0 ≤ R.locals ∧ nc ≤ R.cells ∧ ns ≤ R.slots) (hW : (S.map fun v => v.category).sum ≤ 8) (hl1 : Cond.methodLink own index yX7_shutOn ∈ pb_gw) (hdg : decode cc pc = .ok (.invokevirtual index, 3)) (hq : pc + 3 = q) (k : ∀ b1 μ1, pb_RW l E R own cc mL ret Xs nc ns Qf q L S μ1 (f b1 μ1)) : pb_RW l E R own cc mL ret Xs nc ns Qf pc L (.int v3 :: .int v2 :: .int v1 :: .ref (E.2.1 19) :: S) μ (pb_b (pX7_shutOn v1 v2 v3 μ) f) := pb_callV q (fun _ : Unit => none) mc_X7_shutOn mi_X7_shutOn ms_X7_shutOn (fun b1 μ1 h => evX7_shutOn l E v1 v2 v3  μ b1 μ1 h) rfl (by decide) rfl rfl rfl rfl hR rfl hW hl1 hdg hq k
theorem ml_X7_114 : Cond.methodLink RX7 114 yX7_shutOn ∈ pb_gw := pb_inW 939 (by decide +kernel) (by decide +kernel)
def pX7_feedOn_J85 (v1 : Int32) (v2 : Int32) (v3 : Int32) (s0 : Int32) (s1 : Int32) (μ : pb_M) : Option (Unit × pb_M) :=
  if (0 : Int32) ≤ (s1 - s0) then
    if pb_in ((v3 + (13 : Int32)) + v2) 90 then
      if (0 : Int32) < (s1 - s0) then
        some ((), (pb_sA μ 21 (upd (μ.1 21) (((v3 + (13 : Int32)) + v2)).toNatClampNeg (s1 - s0))))
      else
      pb_b (pX7_shutOn v1 v2 (-9 : Int32) (pb_sA μ 21 (upd (μ.1 21) (((v3 + (13 : Int32)) + v2)).toNatClampNeg (s1 - s0)))) (fun b120 μ120 =>
      some ((), μ120))
    else none
  else
  if pb_in ((v3 + (13 : Int32)) + v2) 90 then
    if (0 : Int32) < (s1 - s0) then
      some ((), (pb_sA μ 21 (upd (μ.1 21) (((v3 + (13 : Int32)) + v2)).toNatClampNeg (0 : Int32))))
    else
    pb_b (pX7_shutOn v1 v2 (-9 : Int32) (pb_sA μ 21 (upd (μ.1 21) (((v3 + (13 : Int32)) + v2)).toNatClampNeg (0 : Int32)))) (fun b120 μ120 =>
    some ((), μ120))
  else none
def pX7_feedOn (v1 : Int32) (v2 : Int32) (μ : pb_M) : Option (Unit × pb_M) :=
  if pb_in ((((45 : Int32) * v1) + (8 : Int32)) + v2) 90 then
    if pb_in ((((45 : Int32) * v1) + (23 : Int32)) + v2) 90 then
      if pb_in ((((45 : Int32) * v1) + (23 : Int32)) + v2) 90 then
        if pb_in (((45 : Int32) * v1) + (μ.1 21 (((((45 : Int32) * v1) + (8 : Int32)) + v2)).toNatClampNeg)) 90 then
          if ((pb_sA μ 21 (upd (μ.1 21) (((((45 : Int32) * v1) + (23 : Int32)) + v2)).toNatClampNeg ((μ.1 21 (((((45 : Int32) * v1) + (23 : Int32)) + v2)).toNatClampNeg) + (1 : Int32)))).1 21 ((((45 : Int32) * v1) + (μ.1 21 (((((45 : Int32) * v1) + (8 : Int32)) + v2)).toNatClampNeg))).toNatClampNeg) ≤ (0 : Int32) then
            if pb_in ((((45 : Int32) * v1) + (13 : Int32)) + v2) 90 then
              if pb_in v2 5 then
                if ((pb_sA μ 21 (upd (μ.1 21) (((((45 : Int32) * v1) + (23 : Int32)) + v2)).toNatClampNeg ((μ.1 21 (((((45 : Int32) * v1) + (23 : Int32)) + v2)).toNatClampNeg) + (1 : Int32)))).1 20 (v2).toNatClampNeg) = (2 : Int32) then
                  pX7_feedOn_J85 v1 v2 ((45 : Int32) * v1) (2 : Int32) ((pb_sA μ 21 (upd (μ.1 21) (((((45 : Int32) * v1) + (23 : Int32)) + v2)).toNatClampNeg ((μ.1 21 (((((45 : Int32) * v1) + (23 : Int32)) + v2)).toNatClampNeg) + (1 : Int32)))).1 21 (((((45 : Int32) * v1) + (13 : Int32)) + v2)).toNatClampNeg) (pb_sA μ 21 (upd (μ.1 21) (((((45 : Int32) * v1) + (23 : Int32)) + v2)).toNatClampNeg ((μ.1 21 (((((45 : Int32) * v1) + (23 : Int32)) + v2)).toNatClampNeg) + (1 : Int32))))
                else
                pX7_feedOn_J85 v1 v2 ((45 : Int32) * v1) (1 : Int32) ((pb_sA μ 21 (upd (μ.1 21) (((((45 : Int32) * v1) + (23 : Int32)) + v2)).toNatClampNeg ((μ.1 21 (((((45 : Int32) * v1) + (23 : Int32)) + v2)).toNatClampNeg) + (1 : Int32)))).1 21 (((((45 : Int32) * v1) + (13 : Int32)) + v2)).toNatClampNeg) (pb_sA μ 21 (upd (μ.1 21) (((((45 : Int32) * v1) + (23 : Int32)) + v2)).toNatClampNeg ((μ.1 21 (((((45 : Int32) * v1) + (23 : Int32)) + v2)).toNatClampNeg) + (1 : Int32))))
              else none
            else none
          else
          if pb_in (((45 : Int32) * v1) + (μ.1 21 (((((45 : Int32) * v1) + (8 : Int32)) + v2)).toNatClampNeg)) 90 then
            if pb_in (((45 : Int32) * v1) + (μ.1 21 (((((45 : Int32) * v1) + (8 : Int32)) + v2)).toNatClampNeg)) 90 then
              some ((), (pb_sA (pb_sA μ 21 (upd (μ.1 21) (((((45 : Int32) * v1) + (23 : Int32)) + v2)).toNatClampNeg ((μ.1 21 (((((45 : Int32) * v1) + (23 : Int32)) + v2)).toNatClampNeg) + (1 : Int32)))) 21 (upd ((pb_sA μ 21 (upd (μ.1 21) (((((45 : Int32) * v1) + (23 : Int32)) + v2)).toNatClampNeg ((μ.1 21 (((((45 : Int32) * v1) + (23 : Int32)) + v2)).toNatClampNeg) + (1 : Int32)))).1 21) ((((45 : Int32) * v1) + (μ.1 21 (((((45 : Int32) * v1) + (8 : Int32)) + v2)).toNatClampNeg))).toNatClampNeg (((pb_sA μ 21 (upd (μ.1 21) (((((45 : Int32) * v1) + (23 : Int32)) + v2)).toNatClampNeg ((μ.1 21 (((((45 : Int32) * v1) + (23 : Int32)) + v2)).toNatClampNeg) + (1 : Int32)))).1 21 ((((45 : Int32) * v1) + (μ.1 21 (((((45 : Int32) * v1) + (8 : Int32)) + v2)).toNatClampNeg))).toNatClampNeg) - (1 : Int32)))))
            else none
          else none
        else none
      else none
    else none
  else none
abbrev wX7_feedOn (l : Launch) (E : pb_E) := pb_RW l E { frames := 1, cells := 0, slots := 0, locals := 23 } RX7 cX7_feedOn 6 none (fun _ => True) 0 0 (pb_Qf E (fun _ : Unit => none))
set_option maxRecDepth 100000 in
set_option maxHeartbeats 4000000 in
theorem tX7_feedOn_J85 (l : Launch) (E : pb_E)    : ∀ (v1 : Int32) (v2 : Int32) (v3 : Int32) (s0 : Int32) (s1 : Int32) (μ : pb_M), wX7_feedOn l E 85 [some (.ref (E.2.1 19)), some (.int v1), some (.int v2), some (.int v3), none, none] [.int s0, .int s1] μ (pX7_feedOn_J85 v1 v2 v3 s0 s1 μ) := by
  intro v1 v2 v3 s0 s1 μ
  unfold pX7_feedOn_J85
  refine pb_isub 86 dX7_feedOn_85 rfl ?_
  refine pb_istore 88 (i := 5) (L' := [some (.ref (E.2.1 19)), some (.int v1), some (.int v2), some (.int v3), none, some (.int (s1 - s0))]) dX7_feedOn_86 (by decide) rfl rfl rfl ?_
  refine pb_aload_n 89 dX7_feedOn_88 rfl rfl rfl ?_
  refine pb_getR 92 (j := 3) (d := 21) in_X7 rfl (by decide) rfl rfl (by decide) fl_X7_13 dX7_feedOn_89 rfl ?_
  refine pb_iload_n 93 dX7_feedOn_92 rfl rfl rfl ?_
  refine pb_bipush 95 (v := 13) dX7_feedOn_93 rfl (by decide) ?_
  refine pb_iadd 96 dX7_feedOn_95 rfl ?_
  refine pb_iload_n 97 dX7_feedOn_96 rfl rfl rfl ?_
  refine pb_iadd 98 dX7_feedOn_97 rfl ?_
  refine pb_iload 100 dX7_feedOn_98 rfl rfl ?_
  refine pb_if_ge 103 (tgt := 107) dX7_feedOn_100 (by decide) rfl (fun _ => ?_) (fun _ => ?_)
  · refine pb_iload 109 dX7_feedOn_107 rfl rfl ?_
    refine pb_guard (fun hin => pb_iast 110 rfl hin rfl dX7_feedOn_109 rfl ?_)
    refine pb_iload 112 dX7_feedOn_110 rfl rfl ?_
    refine pb_if_gt 115 (tgt := 123) dX7_feedOn_112 (by decide) rfl (fun _ => ?_) (fun _ => ?_)
    · exact pb_vret dX7_feedOn_123
    · refine pb_aload_n 116 dX7_feedOn_115 rfl rfl rfl ?_
      refine pb_iload_n 117 dX7_feedOn_116 rfl rfl rfl ?_
      refine pb_iload_n 118 dX7_feedOn_117 rfl rfl rfl ?_
      refine pb_bipush 120 (v := -9) dX7_feedOn_118 rfl (by decide) ?_
      refine cl_X7_shutOn 123 ⟨by decide, by decide, by decide, by decide⟩ (Nat.le_of_ble_eq_true rfl) ml_X7_114 dX7_feedOn_120 rfl (fun b120 μ120 => ?_)
      exact pb_vret dX7_feedOn_123
  · refine pb_iconst 104 (v := 0) dX7_feedOn_103 rfl (by decide) ?_
    refine pb_goto (tgt := 109) dX7_feedOn_104 (by decide) ?_
    refine pb_guard (fun hin => pb_iast 110 rfl hin rfl dX7_feedOn_109 rfl ?_)
    refine pb_iload 112 dX7_feedOn_110 rfl rfl ?_
    refine pb_if_gt 115 (tgt := 123) dX7_feedOn_112 (by decide) rfl (fun _ => ?_) (fun _ => ?_)
    · exact pb_vret dX7_feedOn_123
    · refine pb_aload_n 116 dX7_feedOn_115 rfl rfl rfl ?_
      refine pb_iload_n 117 dX7_feedOn_116 rfl rfl rfl ?_
      refine pb_iload_n 118 dX7_feedOn_117 rfl rfl rfl ?_
      refine pb_bipush 120 (v := -9) dX7_feedOn_118 rfl (by decide) ?_
      refine cl_X7_shutOn 123 ⟨by decide, by decide, by decide, by decide⟩ (Nat.le_of_ble_eq_true rfl) ml_X7_114 dX7_feedOn_120 rfl (fun b120 μ120 => ?_)
      exact pb_vret dX7_feedOn_123
set_option maxRecDepth 100000 in
set_option maxHeartbeats 4000000 in
theorem evX7_feedOn (l : Launch) (E : pb_E) (v1 : Int32) (v2 : Int32)  (μ : pb_M) : ∀ b μ', pX7_feedOn v1 v2 μ = some (b, μ') → pb_Ev l E yX7_feedOn cX7_feedOn 6 none { frames := 1, cells := 0, slots := 0, locals := 23 } [.ref (E.2.1 19), .int v1, .int v2] μ ((fun _ : Unit => none) b) μ' := by
  refine pb_enter (L := [some (.ref (E.2.1 19)), some (.int v1), some (.int v2), none, none, none]) (by decide +kernel) (Nat.le_of_ble_eq_true rfl) (pb_same [none, none, none, none, none, none] rfl) (show wX7_feedOn l E 0 [some (.ref (E.2.1 19)), some (.int v1), some (.int v2), none, none, none] [] μ (pX7_feedOn v1 v2 μ) from ?_)
  unfold pX7_feedOn
  refine pb_bipush 2 (v := 45) dX7_feedOn_0 rfl (by decide) ?_
  refine pb_iload_n 3 dX7_feedOn_2 rfl rfl rfl ?_
  refine pb_imul 4 dX7_feedOn_3 rfl ?_
  refine pb_istore_n 5 (i := 3) (L' := [some (.ref (E.2.1 19)), some (.int v1), some (.int v2), some (.int ((45 : Int32) * v1)), none, none]) dX7_feedOn_4 rfl (by decide) rfl rfl rfl ?_
  refine pb_aload_n 6 dX7_feedOn_5 rfl rfl rfl ?_
  refine pb_getR 9 (j := 3) (d := 21) in_X7 rfl (by decide) rfl rfl (by decide) fl_X7_13 dX7_feedOn_6 rfl ?_
  refine pb_iload_n 10 dX7_feedOn_9 rfl rfl rfl ?_
  refine pb_bipush 12 (v := 8) dX7_feedOn_10 rfl (by decide) ?_
  refine pb_iadd 13 dX7_feedOn_12 rfl ?_
  refine pb_iload_n 14 dX7_feedOn_13 rfl rfl rfl ?_
  refine pb_iadd 15 dX7_feedOn_14 rfl ?_
  refine pb_guard (fun hin => pb_iald 16 rfl hin rfl dX7_feedOn_15 rfl ?_)
  refine pb_istore 18 (i := 4) (L' := [some (.ref (E.2.1 19)), some (.int v1), some (.int v2), some (.int ((45 : Int32) * v1)), some (.int (μ.1 21 (((((45 : Int32) * v1) + (8 : Int32)) + v2)).toNatClampNeg)), none]) dX7_feedOn_16 (by decide) rfl rfl rfl ?_
  refine pb_aload_n 19 dX7_feedOn_18 rfl rfl rfl ?_
  refine pb_getR 22 (j := 3) (d := 21) in_X7 rfl (by decide) rfl rfl (by decide) fl_X7_13 dX7_feedOn_19 rfl ?_
  refine pb_iload_n 23 dX7_feedOn_22 rfl rfl rfl ?_
  refine pb_bipush 25 (v := 23) dX7_feedOn_23 rfl (by decide) ?_
  refine pb_iadd 26 dX7_feedOn_25 rfl ?_
  refine pb_iload_n 27 dX7_feedOn_26 rfl rfl rfl ?_
  refine pb_iadd 28 dX7_feedOn_27 rfl ?_
  refine pb_dup2 29 dX7_feedOn_28 rfl rfl rfl ?_
  refine pb_guard (fun hin => pb_iald 30 rfl hin rfl dX7_feedOn_29 rfl ?_)
  refine pb_iconst 31 (v := 1) dX7_feedOn_30 rfl (by decide) ?_
  refine pb_iadd 32 dX7_feedOn_31 rfl ?_
  refine pb_guard (fun hin => pb_iast 33 rfl hin rfl dX7_feedOn_32 rfl ?_)
  refine pb_aload_n 34 dX7_feedOn_33 rfl rfl rfl ?_
  refine pb_getR 37 (j := 3) (d := 21) in_X7 rfl (by decide) rfl rfl (by decide) fl_X7_13 dX7_feedOn_34 rfl ?_
  refine pb_iload_n 38 dX7_feedOn_37 rfl rfl rfl ?_
  refine pb_iload 40 dX7_feedOn_38 rfl rfl ?_
  refine pb_iadd 41 dX7_feedOn_40 rfl ?_
  refine pb_guard (fun hin => pb_iald 42 rfl hin rfl dX7_feedOn_41 rfl ?_)
  refine pb_if_le 45 (tgt := 59) dX7_feedOn_42 (by decide) rfl (fun _ => ?_) (fun _ => ?_)
  · refine pb_aload_n 60 dX7_feedOn_59 rfl rfl rfl ?_
    refine pb_getR 63 (j := 3) (d := 21) in_X7 rfl (by decide) rfl rfl (by decide) fl_X7_13 dX7_feedOn_60 rfl ?_
    refine pb_iload_n 64 dX7_feedOn_63 rfl rfl rfl ?_
    refine pb_bipush 66 (v := 13) dX7_feedOn_64 rfl (by decide) ?_
    refine pb_iadd 67 dX7_feedOn_66 rfl ?_
    refine pb_iload_n 68 dX7_feedOn_67 rfl rfl rfl ?_
    refine pb_iadd 69 dX7_feedOn_68 rfl ?_
    refine pb_guard (fun hin => pb_iald 70 rfl hin rfl dX7_feedOn_69 rfl ?_)
    refine pb_aload_n 71 dX7_feedOn_70 rfl rfl rfl ?_
    refine pb_getR 74 (j := 2) (d := 20) in_X7 rfl (by decide) rfl rfl (by decide) fl_X7_7 dX7_feedOn_71 rfl ?_
    refine pb_iload_n 75 dX7_feedOn_74 rfl rfl rfl ?_
    refine pb_guard (fun hin => pb_iald 76 rfl hin rfl dX7_feedOn_75 rfl ?_)
    refine pb_iconst 77 (v := 2) dX7_feedOn_76 rfl (by decide) ?_
    refine pb_icmp_ne 80 (tgt := 84) dX7_feedOn_77 (by decide) rfl (fun _ => ?_) (fun _ => ?_)
    · refine pb_iconst 81 (v := 2) dX7_feedOn_80 rfl (by decide) ?_
      refine pb_goto (tgt := 85) dX7_feedOn_81 (by decide) ?_
      refine pb_weakM (L' := [some (.ref (E.2.1 19)), some (.int v1), some (.int v2), some (.int ((45 : Int32) * v1)), none, none]) [true, true, true, true, false, false] rfl ?_
      exact tX7_feedOn_J85 l E v1 v2 ((45 : Int32) * v1) (2 : Int32) ((pb_sA μ 21 (upd (μ.1 21) (((((45 : Int32) * v1) + (23 : Int32)) + v2)).toNatClampNeg ((μ.1 21 (((((45 : Int32) * v1) + (23 : Int32)) + v2)).toNatClampNeg) + (1 : Int32)))).1 21 (((((45 : Int32) * v1) + (13 : Int32)) + v2)).toNatClampNeg) (pb_sA μ 21 (upd (μ.1 21) (((((45 : Int32) * v1) + (23 : Int32)) + v2)).toNatClampNeg ((μ.1 21 (((((45 : Int32) * v1) + (23 : Int32)) + v2)).toNatClampNeg) + (1 : Int32))))
    · refine pb_iconst 85 (v := 1) dX7_feedOn_84 rfl (by decide) ?_
      refine pb_weakM (L' := [some (.ref (E.2.1 19)), some (.int v1), some (.int v2), some (.int ((45 : Int32) * v1)), none, none]) [true, true, true, true, false, false] rfl ?_
      exact tX7_feedOn_J85 l E v1 v2 ((45 : Int32) * v1) (1 : Int32) ((pb_sA μ 21 (upd (μ.1 21) (((((45 : Int32) * v1) + (23 : Int32)) + v2)).toNatClampNeg ((μ.1 21 (((((45 : Int32) * v1) + (23 : Int32)) + v2)).toNatClampNeg) + (1 : Int32)))).1 21 (((((45 : Int32) * v1) + (13 : Int32)) + v2)).toNatClampNeg) (pb_sA μ 21 (upd (μ.1 21) (((((45 : Int32) * v1) + (23 : Int32)) + v2)).toNatClampNeg ((μ.1 21 (((((45 : Int32) * v1) + (23 : Int32)) + v2)).toNatClampNeg) + (1 : Int32))))
  · refine pb_aload_n 46 dX7_feedOn_45 rfl rfl rfl ?_
    refine pb_getR 49 (j := 3) (d := 21) in_X7 rfl (by decide) rfl rfl (by decide) fl_X7_13 dX7_feedOn_46 rfl ?_
    refine pb_iload_n 50 dX7_feedOn_49 rfl rfl rfl ?_
    refine pb_iload 52 dX7_feedOn_50 rfl rfl ?_
    refine pb_iadd 53 dX7_feedOn_52 rfl ?_
    refine pb_dup2 54 dX7_feedOn_53 rfl rfl rfl ?_
    refine pb_guard (fun hin => pb_iald 55 rfl hin rfl dX7_feedOn_54 rfl ?_)
    refine pb_iconst 56 (v := 1) dX7_feedOn_55 rfl (by decide) ?_
    refine pb_isub 57 dX7_feedOn_56 rfl ?_
    refine pb_guard (fun hin => pb_iast 58 rfl hin rfl dX7_feedOn_57 rfl ?_)
    exact pb_vret dX7_feedOn_58
theorem mc_X7_feedOn : pb_MC yX7_feedOn cX7_feedOn 6 none 2 := ⟨pb_inW 958 (by decide +kernel) (by decide +kernel), pb_inW 68 (by decide +kernel) (by decide +kernel), by decide +kernel, by decide +kernel, by decide +kernel⟩
theorem mi_X7_feedOn : Cond.instanceMethod yX7_feedOn ∈ pb_gw := pb_inW 957 (by decide +kernel) (by decide +kernel)
theorem ms_X7_feedOn : Cond.selects (yX7_feedOn).cls yX7_feedOn yX7_feedOn ∈ pb_gw := pb_inW 41 (by decide +kernel) (by decide +kernel)
theorem cl_X7_feedOn {α : Type} {l : Launch} {E : pb_E} {R : Room} {own : String} {cc : ByteArray} {mL : Nat} {ret : Option FieldType} {Xs : State → Prop} {nc ns : Nat} {Qf : State → Array Value → List Frame → α → pb_M → State → Prop} {pc : Nat} {L : List (Option Value)} {S : List Value} {μ : pb_M} {f : Unit → pb_M → Option (α × pb_M)} {v1 : Int32} {v2 : Int32} {index : Nat} (q : Nat)  (hR : 1 + 1 ≤ R.frames ∧ 8 + (6 + 11) + 23 ≤ R.locals ∧ nc ≤ R.cells ∧ ns ≤ R.slots) (hW : (S.map fun v => v.category).sum ≤ 8) (hl1 : Cond.methodLink own index yX7_feedOn ∈ pb_gw) (hdg : decode cc pc = .ok (.invokevirtual index, 3)) (hq : pc + 3 = q) (k : ∀ b1 μ1, pb_RW l E R own cc mL ret Xs nc ns Qf q L S μ1 (f b1 μ1)) : pb_RW l E R own cc mL ret Xs nc ns Qf pc L (.int v2 :: .int v1 :: .ref (E.2.1 19) :: S) μ (pb_b (pX7_feedOn v1 v2 μ) f) := pb_callV q (fun _ : Unit => none) mc_X7_feedOn mi_X7_feedOn ms_X7_feedOn (fun b1 μ1 h => evX7_feedOn l E v1 v2  μ b1 μ1 h) rfl (by decide) rfl rfl rfl rfl hR rfl hW hl1 hdg hq k
theorem ml_X7_118 : Cond.methodLink RX7 118 yX7_feedOn ∈ pb_gw := pb_inW 955 (by decide +kernel) (by decide +kernel)
def pX7_passOn_L2 (v1 : Int32) (K31 : pb_M → Option (Unit × pb_M)) : Nat → Int32 → pb_M → Option (Unit × pb_M)
  | 0, _, _ => none
  | n + 1, v2, μ =>
    if (μ.1 19 1) ≤ v2 then
      K31 μ
    else
    pb_b (pX7_isIn v1 v2 μ) (fun b13 μ13 =>
    if b13 = (0 : Int32) then
      pX7_passOn_L2 v1 K31 n (v2 + (1 : Int32)) μ13
    else
    pb_b (pX7_feedOn v1 v2 μ13) (fun b22 μ22 =>
    pX7_passOn_L2 v1 K31 n (v2 + (1 : Int32)) μ22))
def pX7_passOn (v1 : Int32) (μ : pb_M) : Option (Unit × pb_M) :=
  pX7_passOn_L2 v1 (fun μk31 =>
    if pb_in (((45 : Int32) * v1) + (44 : Int32)) 90 then
      if pb_in (((45 : Int32) * v1) + (44 : Int32)) 90 then
        some ((), (pb_sA μk31 21 (upd (μk31.1 21) ((((45 : Int32) * v1) + (44 : Int32))).toNatClampNeg ((μk31.1 21 ((((45 : Int32) * v1) + (44 : Int32))).toNatClampNeg) + (1 : Int32)))))
      else none
    else none) pb_F (0 : Int32) μ
abbrev wX7_passOn (l : Launch) (E : pb_E) := pb_RW l E { frames := 2, cells := 0, slots := 0, locals := 48 } RX7 cX7_passOn 3 none (fun _ => True) 0 0 (pb_Qf E (fun _ : Unit => none))
set_option maxRecDepth 100000 in
set_option maxHeartbeats 4000000 in
theorem tX7_passOn_L2 (l : Launch) (E : pb_E) (v1 : Int32) {K31 : pb_M → Option (Unit × pb_M)} (hK31 : ∀  (μ : pb_M), wX7_passOn l E 31 [some (.ref (E.2.1 19)), some (.int v1), none] [] μ (K31  μ)) : ∀ (n : Nat) (v2 : Int32) (μ : pb_M), wX7_passOn l E 2 [some (.ref (E.2.1 19)), some (.int v1), some (.int v2)] [] μ (pX7_passOn_L2 v1 K31 n v2 μ) := by
  intro n
  induction n with
  | zero => intro v2 μ; exact pb_none
  | succ n ih =>
    intro v2 μ
    rw [pX7_passOn_L2]
    refine pb_iload_n 3 dX7_passOn_2 rfl rfl rfl ?_
    refine pb_aload_n 4 dX7_passOn_3 rfl rfl rfl ?_
    refine pb_getI 7 (j := 1) in_X7 rfl (by decide) rfl rfl (by decide) fl_X7_94 dX7_passOn_4 rfl ?_
    refine pb_icmp_ge 10 (tgt := 31) dX7_passOn_7 (by decide) rfl (fun _ => ?_) (fun _ => ?_)
    · refine pb_weakM (L' := [some (.ref (E.2.1 19)), some (.int v1), none]) [true, true, false] rfl ?_
      exact hK31 μ
    · refine pb_aload_n 11 dX7_passOn_10 rfl rfl rfl ?_
      refine pb_iload_n 12 dX7_passOn_11 rfl rfl rfl ?_
      refine pb_iload_n 13 dX7_passOn_12 rfl rfl rfl ?_
      refine cl_X7_isIn 16 ⟨by decide, by decide, by decide, by decide⟩ (Nat.le_of_ble_eq_true rfl) ml_X7_111 dX7_passOn_13 rfl (fun b13 μ13 => ?_)
      refine pb_if_eq 19 (tgt := 25) dX7_passOn_16 (by decide) rfl (fun _ => ?_) (fun _ => ?_)
      · refine pb_iinc 28 (i := 2) (v := (v2 + (1 : Int32))) (L' := [some (.ref (E.2.1 19)), some (.int v1), some (.int (v2 + (1 : Int32)))]) dX7_passOn_25 rfl rfl (by decide) rfl rfl rfl ?_
        refine pb_goto (tgt := 2) dX7_passOn_28 (by decide) ?_
        exact ih (v2 + (1 : Int32)) μ13
      · refine pb_aload_n 20 dX7_passOn_19 rfl rfl rfl ?_
        refine pb_iload_n 21 dX7_passOn_20 rfl rfl rfl ?_
        refine pb_iload_n 22 dX7_passOn_21 rfl rfl rfl ?_
        refine cl_X7_feedOn 25 ⟨by decide, by decide, by decide, by decide⟩ (Nat.le_of_ble_eq_true rfl) ml_X7_118 dX7_passOn_22 rfl (fun b22 μ22 => ?_)
        refine pb_iinc 28 (i := 2) (v := (v2 + (1 : Int32))) (L' := [some (.ref (E.2.1 19)), some (.int v1), some (.int (v2 + (1 : Int32)))]) dX7_passOn_25 rfl rfl (by decide) rfl rfl rfl ?_
        refine pb_goto (tgt := 2) dX7_passOn_28 (by decide) ?_
        exact ih (v2 + (1 : Int32)) μ22
set_option maxRecDepth 100000 in
set_option maxHeartbeats 4000000 in
theorem evX7_passOn (l : Launch) (E : pb_E) (v1 : Int32)  (μ : pb_M) : ∀ b μ', pX7_passOn v1 μ = some (b, μ') → pb_Ev l E yX7_passOn cX7_passOn 3 none { frames := 2, cells := 0, slots := 0, locals := 48 } [.ref (E.2.1 19), .int v1] μ ((fun _ : Unit => none) b) μ' := by
  refine pb_enter (L := [some (.ref (E.2.1 19)), some (.int v1), none]) (by decide +kernel) (Nat.le_of_ble_eq_true rfl) (pb_same [none, none, none] rfl) (show wX7_passOn l E 0 [some (.ref (E.2.1 19)), some (.int v1), none] [] μ (pX7_passOn v1 μ) from ?_)
  unfold pX7_passOn
  refine pb_iconst 1 (v := 0) dX7_passOn_0 rfl (by decide) ?_
  refine pb_istore_n 2 (i := 2) (L' := [some (.ref (E.2.1 19)), some (.int v1), some (.int (0 : Int32))]) dX7_passOn_1 rfl (by decide) rfl rfl rfl ?_
  refine tX7_passOn_L2 l E v1 (fun μk31 => ?_) pb_F (0 : Int32) μ
  refine pb_aload_n 32 dX7_passOn_31 rfl rfl rfl ?_
  refine pb_getR 35 (j := 3) (d := 21) in_X7 rfl (by decide) rfl rfl (by decide) fl_X7_13 dX7_passOn_32 rfl ?_
  refine pb_bipush 37 (v := 45) dX7_passOn_35 rfl (by decide) ?_
  refine pb_iload_n 38 dX7_passOn_37 rfl rfl rfl ?_
  refine pb_imul 39 dX7_passOn_38 rfl ?_
  refine pb_bipush 41 (v := 44) dX7_passOn_39 rfl (by decide) ?_
  refine pb_iadd 42 dX7_passOn_41 rfl ?_
  refine pb_dup2 43 dX7_passOn_42 rfl rfl rfl ?_
  refine pb_guard (fun hin => pb_iald 44 rfl hin rfl dX7_passOn_43 rfl ?_)
  refine pb_iconst 45 (v := 1) dX7_passOn_44 rfl (by decide) ?_
  refine pb_iadd 46 dX7_passOn_45 rfl ?_
  refine pb_guard (fun hin => pb_iast 47 rfl hin rfl dX7_passOn_46 rfl ?_)
  exact pb_vret dX7_passOn_47
theorem mc_X7_passOn : pb_MC yX7_passOn cX7_passOn 3 none 1 := ⟨pb_inW 954 (by decide +kernel) (by decide +kernel), pb_inW 68 (by decide +kernel) (by decide +kernel), by decide +kernel, by decide +kernel, by decide +kernel⟩
theorem mi_X7_passOn : Cond.instanceMethod yX7_passOn ∈ pb_gw := pb_inW 953 (by decide +kernel) (by decide +kernel)
theorem ms_X7_passOn : Cond.selects (yX7_passOn).cls yX7_passOn yX7_passOn ∈ pb_gw := pb_inW 40 (by decide +kernel) (by decide +kernel)
theorem cl_X7_passOn {α : Type} {l : Launch} {E : pb_E} {R : Room} {own : String} {cc : ByteArray} {mL : Nat} {ret : Option FieldType} {Xs : State → Prop} {nc ns : Nat} {Qf : State → Array Value → List Frame → α → pb_M → State → Prop} {pc : Nat} {L : List (Option Value)} {S : List Value} {μ : pb_M} {f : Unit → pb_M → Option (α × pb_M)} {v1 : Int32} {index : Nat} (q : Nat)  (hR : 2 + 1 ≤ R.frames ∧ 8 + (3 + 11) + 48 ≤ R.locals ∧ nc ≤ R.cells ∧ ns ≤ R.slots) (hW : (S.map fun v => v.category).sum ≤ 8) (hl1 : Cond.methodLink own index yX7_passOn ∈ pb_gw) (hdg : decode cc pc = .ok (.invokevirtual index, 3)) (hq : pc + 3 = q) (k : ∀ b1 μ1, pb_RW l E R own cc mL ret Xs nc ns Qf q L S μ1 (f b1 μ1)) : pb_RW l E R own cc mL ret Xs nc ns Qf pc L (.int v1 :: .ref (E.2.1 19) :: S) μ (pb_b (pX7_passOn v1 μ) f) := pb_callV q (fun _ : Unit => none) mc_X7_passOn mi_X7_passOn ms_X7_passOn (fun b1 μ1 h => evX7_passOn l E v1  μ b1 μ1 h) rfl (by decide) rfl rfl rfl rfl hR rfl hW hl1 hdg hq k
def pX7_canKeep (v1 : Int32) (v2 : Int32) (μ : pb_M) : Option (Int32 × pb_M) :=
  pb_b (pX7_isIn v1 v2 μ) (fun b3 μ3 =>
  if b3 = (0 : Int32) then
    some ((0 : Int32), μ3)
  else
  if pb_in ((((45 : Int32) * v1) + (23 : Int32)) + v2) 90 then
    if (μ3.1 21 (((((45 : Int32) * v1) + (23 : Int32)) + v2)).toNatClampNeg) ≤ (2 : Int32) then
      some ((0 : Int32), μ3)
    else
    some ((1 : Int32), μ3)
  else none)
abbrev wX7_canKeep (l : Launch) (E : pb_E) := pb_RW l E { frames := 1, cells := 0, slots := 0, locals := 22 } RX7 cX7_canKeep 3 (some .boolean) (fun _ => True) 0 0 (pb_Qf E (fun z : Int32 => some (.int z)))
set_option maxRecDepth 100000 in
set_option maxHeartbeats 4000000 in
theorem evX7_canKeep (l : Launch) (E : pb_E) (v1 : Int32) (v2 : Int32)  (μ : pb_M) : ∀ b μ', pX7_canKeep v1 v2 μ = some (b, μ') → pb_Ev l E yX7_canKeep cX7_canKeep 3 (some .boolean) { frames := 1, cells := 0, slots := 0, locals := 22 } [.ref (E.2.1 19), .int v1, .int v2] μ ((fun z : Int32 => some (.int z)) b) μ' := by
  refine pb_enter (L := [some (.ref (E.2.1 19)), some (.int v1), some (.int v2)]) (by decide +kernel) (Nat.le_of_ble_eq_true rfl) (pb_same [none, none, none] rfl) (show wX7_canKeep l E 0 [some (.ref (E.2.1 19)), some (.int v1), some (.int v2)] [] μ (pX7_canKeep v1 v2 μ) from ?_)
  unfold pX7_canKeep
  refine pb_aload_n 1 dX7_canKeep_0 rfl rfl rfl ?_
  refine pb_iload_n 2 dX7_canKeep_1 rfl rfl rfl ?_
  refine pb_iload_n 3 dX7_canKeep_2 rfl rfl rfl ?_
  refine cl_X7_isIn 6 ⟨by decide, by decide, by decide, by decide⟩ (Nat.le_of_ble_eq_true rfl) ml_X7_111 dX7_canKeep_3 rfl (fun b3 μ3 => ?_)
  refine pb_if_eq 9 (tgt := 31) dX7_canKeep_6 (by decide) rfl (fun _ => ?_) (fun _ => ?_)
  · refine pb_iconst 32 (v := 0) dX7_canKeep_31 rfl (by decide) ?_
    exact pb_zret rfl dX7_canKeep_32
  · refine pb_aload_n 10 dX7_canKeep_9 rfl rfl rfl ?_
    refine pb_getR 13 (j := 3) (d := 21) in_X7 rfl (by decide) rfl rfl (by decide) fl_X7_13 dX7_canKeep_10 rfl ?_
    refine pb_bipush 15 (v := 45) dX7_canKeep_13 rfl (by decide) ?_
    refine pb_iload_n 16 dX7_canKeep_15 rfl rfl rfl ?_
    refine pb_imul 17 dX7_canKeep_16 rfl ?_
    refine pb_bipush 19 (v := 23) dX7_canKeep_17 rfl (by decide) ?_
    refine pb_iadd 20 dX7_canKeep_19 rfl ?_
    refine pb_iload_n 21 dX7_canKeep_20 rfl rfl rfl ?_
    refine pb_iadd 22 dX7_canKeep_21 rfl ?_
    refine pb_guard (fun hin => pb_iald 23 rfl hin rfl dX7_canKeep_22 rfl ?_)
    refine pb_iconst 24 (v := 2) dX7_canKeep_23 rfl (by decide) ?_
    refine pb_icmp_le 27 (tgt := 31) dX7_canKeep_24 (by decide) rfl (fun _ => ?_) (fun _ => ?_)
    · refine pb_iconst 32 (v := 0) dX7_canKeep_31 rfl (by decide) ?_
      exact pb_zret rfl dX7_canKeep_32
    · refine pb_iconst 28 (v := 1) dX7_canKeep_27 rfl (by decide) ?_
      refine pb_goto (tgt := 32) dX7_canKeep_28 (by decide) ?_
      exact pb_zret rfl dX7_canKeep_32
theorem mc_X7_canKeep : pb_MC yX7_canKeep cX7_canKeep 3 (some .boolean) 2 := ⟨pb_inW 985 (by decide +kernel) (by decide +kernel), pb_inW 68 (by decide +kernel) (by decide +kernel), by decide +kernel, by decide +kernel, by decide +kernel⟩
theorem mi_X7_canKeep : Cond.instanceMethod yX7_canKeep ∈ pb_gw := pb_inW 984 (by decide +kernel) (by decide +kernel)
theorem ms_X7_canKeep : Cond.selects (yX7_canKeep).cls yX7_canKeep yX7_canKeep ∈ pb_gw := pb_inW 44 (by decide +kernel) (by decide +kernel)
theorem cl_X7_canKeep {α : Type} {l : Launch} {E : pb_E} {R : Room} {own : String} {cc : ByteArray} {mL : Nat} {ret : Option FieldType} {Xs : State → Prop} {nc ns : Nat} {Qf : State → Array Value → List Frame → α → pb_M → State → Prop} {pc : Nat} {L : List (Option Value)} {S : List Value} {μ : pb_M} {f : Int32 → pb_M → Option (α × pb_M)} {v1 : Int32} {v2 : Int32} {index : Nat} (q : Nat)  (hR : 1 + 1 ≤ R.frames ∧ 8 + (3 + 11) + 22 ≤ R.locals ∧ nc ≤ R.cells ∧ ns ≤ R.slots) (hW : (S.map fun v => v.category).sum ≤ 8) (hl1 : Cond.methodLink own index yX7_canKeep ∈ pb_gw) (hdg : decode cc pc = .ok (.invokevirtual index, 3)) (hq : pc + 3 = q) (k : ∀ b1 μ1, pb_RW l E R own cc mL ret Xs nc ns Qf q L (.int b1 :: S) μ1 (f b1 μ1)) : pb_RW l E R own cc mL ret Xs nc ns Qf pc L (.int v2 :: .int v1 :: .ref (E.2.1 19) :: S) μ (pb_b (pX7_canKeep v1 v2 μ) f) := pb_callV q (fun z : Int32 => some (.int z)) mc_X7_canKeep mi_X7_canKeep ms_X7_canKeep (fun b1 μ1 h => evX7_canKeep l E v1 v2  μ b1 μ1 h) rfl (by decide) rfl rfl rfl rfl hR rfl hW hl1 hdg hq k
theorem ml_X7_122 : Cond.methodLink RX7 122 yX7_addOn ∈ pb_gw := pb_inW 943 (by decide +kernel) (by decide +kernel)
def pX7_keepOn (v1 : Int32) (v2 : Int32) (μ : pb_M) : Option (Unit × pb_M) :=
  if pb_in ((((45 : Int32) * v1) + (18 : Int32)) + v2) 90 then
    if pb_in ((((45 : Int32) * v1) + (8 : Int32)) + v2) 90 then
      if pb_in ((((45 : Int32) * v1) + (13 : Int32)) + v2) 90 then
        pb_b (pX7_addOn v1 (μ.1 21 (((((45 : Int32) * v1) + (8 : Int32)) + v2)).toNatClampNeg) (μ.1 21 (((((45 : Int32) * v1) + (18 : Int32)) + v2)).toNatClampNeg) (-(μ.1 21 (((((45 : Int32) * v1) + (13 : Int32)) + v2)).toNatClampNeg)) μ) (fun b45 μ45 =>
        if pb_in ((((45 : Int32) * v1) + (8 : Int32)) + v2) 90 then
          pb_b (pX7_shutOn v1 v2 (-9 : Int32) (pb_sA μ45 21 (upd (μ45.1 21) (((((45 : Int32) * v1) + (8 : Int32)) + v2)).toNatClampNeg (μ.1 21 (((((45 : Int32) * v1) + (18 : Int32)) + v2)).toNatClampNeg)))) (fun b66 μ66 =>
          some ((), μ66))
        else none)
      else none
    else none
  else none
abbrev wX7_keepOn (l : Launch) (E : pb_E) := pb_RW l E { frames := 2, cells := 0, slots := 0, locals := 47 } RX7 cX7_keepOn 5 none (fun _ => True) 0 0 (pb_Qf E (fun _ : Unit => none))
set_option maxRecDepth 100000 in
set_option maxHeartbeats 4000000 in
theorem evX7_keepOn (l : Launch) (E : pb_E) (v1 : Int32) (v2 : Int32)  (μ : pb_M) : ∀ b μ', pX7_keepOn v1 v2 μ = some (b, μ') → pb_Ev l E yX7_keepOn cX7_keepOn 5 none { frames := 2, cells := 0, slots := 0, locals := 47 } [.ref (E.2.1 19), .int v1, .int v2] μ ((fun _ : Unit => none) b) μ' := by
  refine pb_enter (L := [some (.ref (E.2.1 19)), some (.int v1), some (.int v2), none, none]) (by decide +kernel) (Nat.le_of_ble_eq_true rfl) (pb_same [none, none, none, none, none] rfl) (show wX7_keepOn l E 0 [some (.ref (E.2.1 19)), some (.int v1), some (.int v2), none, none] [] μ (pX7_keepOn v1 v2 μ) from ?_)
  unfold pX7_keepOn
  refine pb_bipush 2 (v := 45) dX7_keepOn_0 rfl (by decide) ?_
  refine pb_iload_n 3 dX7_keepOn_2 rfl rfl rfl ?_
  refine pb_imul 4 dX7_keepOn_3 rfl ?_
  refine pb_istore_n 5 (i := 3) (L' := [some (.ref (E.2.1 19)), some (.int v1), some (.int v2), some (.int ((45 : Int32) * v1)), none]) dX7_keepOn_4 rfl (by decide) rfl rfl rfl ?_
  refine pb_aload_n 6 dX7_keepOn_5 rfl rfl rfl ?_
  refine pb_getR 9 (j := 3) (d := 21) in_X7 rfl (by decide) rfl rfl (by decide) fl_X7_13 dX7_keepOn_6 rfl ?_
  refine pb_iload_n 10 dX7_keepOn_9 rfl rfl rfl ?_
  refine pb_bipush 12 (v := 18) dX7_keepOn_10 rfl (by decide) ?_
  refine pb_iadd 13 dX7_keepOn_12 rfl ?_
  refine pb_iload_n 14 dX7_keepOn_13 rfl rfl rfl ?_
  refine pb_iadd 15 dX7_keepOn_14 rfl ?_
  refine pb_guard (fun hin => pb_iald 16 rfl hin rfl dX7_keepOn_15 rfl ?_)
  refine pb_istore 18 (i := 4) (L' := [some (.ref (E.2.1 19)), some (.int v1), some (.int v2), some (.int ((45 : Int32) * v1)), some (.int (μ.1 21 (((((45 : Int32) * v1) + (18 : Int32)) + v2)).toNatClampNeg))]) dX7_keepOn_16 (by decide) rfl rfl rfl ?_
  refine pb_aload_n 19 dX7_keepOn_18 rfl rfl rfl ?_
  refine pb_iload_n 20 dX7_keepOn_19 rfl rfl rfl ?_
  refine pb_aload_n 21 dX7_keepOn_20 rfl rfl rfl ?_
  refine pb_getR 24 (j := 3) (d := 21) in_X7 rfl (by decide) rfl rfl (by decide) fl_X7_13 dX7_keepOn_21 rfl ?_
  refine pb_iload_n 25 dX7_keepOn_24 rfl rfl rfl ?_
  refine pb_bipush 27 (v := 8) dX7_keepOn_25 rfl (by decide) ?_
  refine pb_iadd 28 dX7_keepOn_27 rfl ?_
  refine pb_iload_n 29 dX7_keepOn_28 rfl rfl rfl ?_
  refine pb_iadd 30 dX7_keepOn_29 rfl ?_
  refine pb_guard (fun hin => pb_iald 31 rfl hin rfl dX7_keepOn_30 rfl ?_)
  refine pb_iload 33 dX7_keepOn_31 rfl rfl ?_
  refine pb_aload_n 34 dX7_keepOn_33 rfl rfl rfl ?_
  refine pb_getR 37 (j := 3) (d := 21) in_X7 rfl (by decide) rfl rfl (by decide) fl_X7_13 dX7_keepOn_34 rfl ?_
  refine pb_iload_n 38 dX7_keepOn_37 rfl rfl rfl ?_
  refine pb_bipush 40 (v := 13) dX7_keepOn_38 rfl (by decide) ?_
  refine pb_iadd 41 dX7_keepOn_40 rfl ?_
  refine pb_iload_n 42 dX7_keepOn_41 rfl rfl rfl ?_
  refine pb_iadd 43 dX7_keepOn_42 rfl ?_
  refine pb_guard (fun hin => pb_iald 44 rfl hin rfl dX7_keepOn_43 rfl ?_)
  refine pb_ineg 45 dX7_keepOn_44 rfl ?_
  refine cl_X7_addOn 48 ⟨by decide, by decide, by decide, by decide⟩ (Nat.le_of_ble_eq_true rfl) ml_X7_122 dX7_keepOn_45 rfl (fun b45 μ45 => ?_)
  refine pb_aload_n 49 dX7_keepOn_48 rfl rfl rfl ?_
  refine pb_getR 52 (j := 3) (d := 21) in_X7 rfl (by decide) rfl rfl (by decide) fl_X7_13 dX7_keepOn_49 rfl ?_
  refine pb_iload_n 53 dX7_keepOn_52 rfl rfl rfl ?_
  refine pb_bipush 55 (v := 8) dX7_keepOn_53 rfl (by decide) ?_
  refine pb_iadd 56 dX7_keepOn_55 rfl ?_
  refine pb_iload_n 57 dX7_keepOn_56 rfl rfl rfl ?_
  refine pb_iadd 58 dX7_keepOn_57 rfl ?_
  refine pb_iload 60 dX7_keepOn_58 rfl rfl ?_
  refine pb_guard (fun hin => pb_iast 61 rfl hin rfl dX7_keepOn_60 rfl ?_)
  refine pb_aload_n 62 dX7_keepOn_61 rfl rfl rfl ?_
  refine pb_iload_n 63 dX7_keepOn_62 rfl rfl rfl ?_
  refine pb_iload_n 64 dX7_keepOn_63 rfl rfl rfl ?_
  refine pb_bipush 66 (v := -9) dX7_keepOn_64 rfl (by decide) ?_
  refine cl_X7_shutOn 69 ⟨by decide, by decide, by decide, by decide⟩ (Nat.le_of_ble_eq_true rfl) ml_X7_114 dX7_keepOn_66 rfl (fun b66 μ66 => ?_)
  exact pb_vret dX7_keepOn_69
theorem mc_X7_keepOn : pb_MC yX7_keepOn cX7_keepOn 5 none 2 := ⟨pb_inW 989 (by decide +kernel) (by decide +kernel), pb_inW 68 (by decide +kernel) (by decide +kernel), by decide +kernel, by decide +kernel, by decide +kernel⟩
theorem mi_X7_keepOn : Cond.instanceMethod yX7_keepOn ∈ pb_gw := pb_inW 988 (by decide +kernel) (by decide +kernel)
theorem ms_X7_keepOn : Cond.selects (yX7_keepOn).cls yX7_keepOn yX7_keepOn ∈ pb_gw := pb_inW 45 (by decide +kernel) (by decide +kernel)
theorem cl_X7_keepOn {α : Type} {l : Launch} {E : pb_E} {R : Room} {own : String} {cc : ByteArray} {mL : Nat} {ret : Option FieldType} {Xs : State → Prop} {nc ns : Nat} {Qf : State → Array Value → List Frame → α → pb_M → State → Prop} {pc : Nat} {L : List (Option Value)} {S : List Value} {μ : pb_M} {f : Unit → pb_M → Option (α × pb_M)} {v1 : Int32} {v2 : Int32} {index : Nat} (q : Nat)  (hR : 2 + 1 ≤ R.frames ∧ 8 + (5 + 11) + 47 ≤ R.locals ∧ nc ≤ R.cells ∧ ns ≤ R.slots) (hW : (S.map fun v => v.category).sum ≤ 8) (hl1 : Cond.methodLink own index yX7_keepOn ∈ pb_gw) (hdg : decode cc pc = .ok (.invokevirtual index, 3)) (hq : pc + 3 = q) (k : ∀ b1 μ1, pb_RW l E R own cc mL ret Xs nc ns Qf q L S μ1 (f b1 μ1)) : pb_RW l E R own cc mL ret Xs nc ns Qf pc L (.int v2 :: .int v1 :: .ref (E.2.1 19) :: S) μ (pb_b (pX7_keepOn v1 v2 μ) f) := pb_callV q (fun _ : Unit => none) mc_X7_keepOn mi_X7_keepOn ms_X7_keepOn (fun b1 μ1 h => evX7_keepOn l E v1 v2  μ b1 μ1 h) rfl (by decide) rfl rfl rfl rfl hR rfl hW hl1 hdg hq k
def pX7_breakOn (v1 : Int32) (v2 : Int32) (μ : pb_M) : Option (Unit × pb_M) :=
  if pb_in ((((45 : Int32) * v1) + (8 : Int32)) + v2) 90 then
    if pb_in ((((45 : Int32) * v1) + (18 : Int32)) + v2) 90 then
      pb_b (pX7_addOn v1 (μ.1 21 (((((45 : Int32) * v1) + (8 : Int32)) + v2)).toNatClampNeg) (μ.1 21 (((((45 : Int32) * v1) + (18 : Int32)) + v2)).toNatClampNeg) (3 : Int32) μ) (fun b31 μ31 =>
      pb_b (pX7_shutOn v1 v2 (-9 : Int32) μ31) (fun b39 μ39 =>
      some ((), μ39)))
    else none
  else none
abbrev wX7_breakOn (l : Launch) (E : pb_E) := pb_RW l E { frames := 2, cells := 0, slots := 0, locals := 47 } RX7 cX7_breakOn 3 none (fun _ => True) 0 0 (pb_Qf E (fun _ : Unit => none))
set_option maxRecDepth 100000 in
set_option maxHeartbeats 4000000 in
theorem evX7_breakOn (l : Launch) (E : pb_E) (v1 : Int32) (v2 : Int32)  (μ : pb_M) : ∀ b μ', pX7_breakOn v1 v2 μ = some (b, μ') → pb_Ev l E yX7_breakOn cX7_breakOn 3 none { frames := 2, cells := 0, slots := 0, locals := 47 } [.ref (E.2.1 19), .int v1, .int v2] μ ((fun _ : Unit => none) b) μ' := by
  refine pb_enter (L := [some (.ref (E.2.1 19)), some (.int v1), some (.int v2)]) (by decide +kernel) (Nat.le_of_ble_eq_true rfl) (pb_same [none, none, none] rfl) (show wX7_breakOn l E 0 [some (.ref (E.2.1 19)), some (.int v1), some (.int v2)] [] μ (pX7_breakOn v1 v2 μ) from ?_)
  unfold pX7_breakOn
  refine pb_aload_n 1 dX7_breakOn_0 rfl rfl rfl ?_
  refine pb_iload_n 2 dX7_breakOn_1 rfl rfl rfl ?_
  refine pb_aload_n 3 dX7_breakOn_2 rfl rfl rfl ?_
  refine pb_getR 6 (j := 3) (d := 21) in_X7 rfl (by decide) rfl rfl (by decide) fl_X7_13 dX7_breakOn_3 rfl ?_
  refine pb_bipush 8 (v := 45) dX7_breakOn_6 rfl (by decide) ?_
  refine pb_iload_n 9 dX7_breakOn_8 rfl rfl rfl ?_
  refine pb_imul 10 dX7_breakOn_9 rfl ?_
  refine pb_bipush 12 (v := 8) dX7_breakOn_10 rfl (by decide) ?_
  refine pb_iadd 13 dX7_breakOn_12 rfl ?_
  refine pb_iload_n 14 dX7_breakOn_13 rfl rfl rfl ?_
  refine pb_iadd 15 dX7_breakOn_14 rfl ?_
  refine pb_guard (fun hin => pb_iald 16 rfl hin rfl dX7_breakOn_15 rfl ?_)
  refine pb_aload_n 17 dX7_breakOn_16 rfl rfl rfl ?_
  refine pb_getR 20 (j := 3) (d := 21) in_X7 rfl (by decide) rfl rfl (by decide) fl_X7_13 dX7_breakOn_17 rfl ?_
  refine pb_bipush 22 (v := 45) dX7_breakOn_20 rfl (by decide) ?_
  refine pb_iload_n 23 dX7_breakOn_22 rfl rfl rfl ?_
  refine pb_imul 24 dX7_breakOn_23 rfl ?_
  refine pb_bipush 26 (v := 18) dX7_breakOn_24 rfl (by decide) ?_
  refine pb_iadd 27 dX7_breakOn_26 rfl ?_
  refine pb_iload_n 28 dX7_breakOn_27 rfl rfl rfl ?_
  refine pb_iadd 29 dX7_breakOn_28 rfl ?_
  refine pb_guard (fun hin => pb_iald 30 rfl hin rfl dX7_breakOn_29 rfl ?_)
  refine pb_iconst 31 (v := 3) dX7_breakOn_30 rfl (by decide) ?_
  refine cl_X7_addOn 34 ⟨by decide, by decide, by decide, by decide⟩ (Nat.le_of_ble_eq_true rfl) ml_X7_122 dX7_breakOn_31 rfl (fun b31 μ31 => ?_)
  refine pb_aload_n 35 dX7_breakOn_34 rfl rfl rfl ?_
  refine pb_iload_n 36 dX7_breakOn_35 rfl rfl rfl ?_
  refine pb_iload_n 37 dX7_breakOn_36 rfl rfl rfl ?_
  refine pb_bipush 39 (v := -9) dX7_breakOn_37 rfl (by decide) ?_
  refine cl_X7_shutOn 42 ⟨by decide, by decide, by decide, by decide⟩ (Nat.le_of_ble_eq_true rfl) ml_X7_114 dX7_breakOn_39 rfl (fun b39 μ39 => ?_)
  exact pb_vret dX7_breakOn_42
theorem mc_X7_breakOn : pb_MC yX7_breakOn cX7_breakOn 3 none 2 := ⟨pb_inW 977 (by decide +kernel) (by decide +kernel), pb_inW 68 (by decide +kernel) (by decide +kernel), by decide +kernel, by decide +kernel, by decide +kernel⟩
theorem mi_X7_breakOn : Cond.instanceMethod yX7_breakOn ∈ pb_gw := pb_inW 976 (by decide +kernel) (by decide +kernel)
theorem ms_X7_breakOn : Cond.selects (yX7_breakOn).cls yX7_breakOn yX7_breakOn ∈ pb_gw := pb_inW 43 (by decide +kernel) (by decide +kernel)
theorem cl_X7_breakOn {α : Type} {l : Launch} {E : pb_E} {R : Room} {own : String} {cc : ByteArray} {mL : Nat} {ret : Option FieldType} {Xs : State → Prop} {nc ns : Nat} {Qf : State → Array Value → List Frame → α → pb_M → State → Prop} {pc : Nat} {L : List (Option Value)} {S : List Value} {μ : pb_M} {f : Unit → pb_M → Option (α × pb_M)} {v1 : Int32} {v2 : Int32} {index : Nat} (q : Nat)  (hR : 2 + 1 ≤ R.frames ∧ 8 + (3 + 11) + 47 ≤ R.locals ∧ nc ≤ R.cells ∧ ns ≤ R.slots) (hW : (S.map fun v => v.category).sum ≤ 8) (hl1 : Cond.methodLink own index yX7_breakOn ∈ pb_gw) (hdg : decode cc pc = .ok (.invokevirtual index, 3)) (hq : pc + 3 = q) (k : ∀ b1 μ1, pb_RW l E R own cc mL ret Xs nc ns Qf q L S μ1 (f b1 μ1)) : pb_RW l E R own cc mL ret Xs nc ns Qf pc L (.int v2 :: .int v1 :: .ref (E.2.1 19) :: S) μ (pb_b (pX7_breakOn v1 v2 μ) f) := pb_callV q (fun _ : Unit => none) mc_X7_breakOn mi_X7_breakOn ms_X7_breakOn (fun b1 μ1 h => evX7_breakOn l E v1 v2  μ b1 μ1 h) rfl (by decide) rfl rfl rfl rfl hR rfl hW hl1 hdg hq k
