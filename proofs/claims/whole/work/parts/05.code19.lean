def pX7_isChoice_J52 (v1 : Int32) (v2 : Int32) (v3 : Int32) (s0 : Int32) (μ : pb_M) : Option (Int32 × pb_M) :=
  if s0 = (0 : Int32) then
    some ((0 : Int32), μ)
  else
  pb_b (pX7_debt (0 : Int32) v1 v2 μ) (fun b70 μ70 =>
  if pb_in b70 90 then
    if (μ70.1 21 (b70).toNatClampNeg) < (v3 / (6 : Int32)) then
      some ((0 : Int32), μ70)
    else
    some ((1 : Int32), μ70)
  else none)
def pX7_isChoice_J47 (v1 : Int32) (v2 : Int32) (v3 : Int32) (μ : pb_M) : Option (Int32 × pb_M) :=
  pX7_isChoice_J52 v1 v2 v3 (1 : Int32) μ
def pX7_isChoice_J51 (v1 : Int32) (v2 : Int32) (v3 : Int32) (μ : pb_M) : Option (Int32 × pb_M) :=
  pX7_isChoice_J52 v1 v2 v3 (0 : Int32) μ
def pX7_isChoice (v1 : Int32) (v2 : Int32) (v3 : Int32) (μ : pb_M) : Option (Int32 × pb_M) :=
  if ((pb_rem v3 (6 : Int32)) - (1 : Int32)) < (0 : Int32) then
    pX7_isChoice_J47 v1 v2 v3 μ
  else
  pb_b (pX7_isBeast ((pb_rem v3 (6 : Int32)) - (1 : Int32)) μ) (fun b16 μ16 =>
  if b16 = (0 : Int32) then
    pX7_isChoice_J51 v1 v2 v3 μ16
  else
  if pb_in ((8 : Int32) + ((pb_rem v3 (6 : Int32)) - (1 : Int32))) 90 then
    if (μ16.1 21 (((8 : Int32) + ((pb_rem v3 (6 : Int32)) - (1 : Int32)))).toNatClampNeg) = v1 then
      pb_b (pX7_clauseOn (0 : Int32) v2 ((pb_rem v3 (6 : Int32)) - (1 : Int32)) μ16) (fun b41 μ41 =>
      if b41 = (0 : Int32) then
        pX7_isChoice_J47 v1 v2 v3 μ41
      else
      pX7_isChoice_J51 v1 v2 v3 μ41)
    else
    pX7_isChoice_J51 v1 v2 v3 μ16
  else none)
abbrev wX7_isChoice (l : Launch) (E : pb_E) := pb_RW l E { frames := 2, cells := 0, slots := 0, locals := 47 } RX7 cX7_isChoice 6 (some .boolean) (fun _ => True) 0 0 (pb_Qf E (fun z : Int32 => some (.int z)))
set_option maxRecDepth 100000 in
set_option maxHeartbeats 4000000 in
theorem tX7_isChoice_J52 (l : Launch) (E : pb_E)    : ∀ (v1 : Int32) (v2 : Int32) (v3 : Int32) (s0 : Int32) (μ : pb_M), wX7_isChoice l E 52 [some (.ref (E.2.1 19)), some (.int v1), some (.int v2), some (.int v3), none, none] [.int s0] μ (pX7_isChoice_J52 v1 v2 v3 s0 μ) := by
  intro v1 v2 v3 s0 μ
  unfold pX7_isChoice_J52
  refine pb_istore 54 (i := 5) (L' := [some (.ref (E.2.1 19)), some (.int v1), some (.int v2), some (.int v3), none, some (.int s0)]) dX7_isChoice_52 (by decide) rfl rfl rfl ?_
  refine pb_iload 56 dX7_isChoice_54 rfl rfl ?_
  refine pb_if_eq 59 (tgt := 81) dX7_isChoice_56 (by decide) rfl (fun _ => ?_) (fun _ => ?_)
  · refine pb_iconst 82 (v := 0) dX7_isChoice_81 rfl (by decide) ?_
    exact pb_zret rfl dX7_isChoice_82
  · refine pb_iload_n 60 dX7_isChoice_59 rfl rfl rfl ?_
    refine pb_bipush 62 (v := 6) dX7_isChoice_60 rfl (by decide) ?_
    refine pb_idiv 63 dX7_isChoice_62 rfl (by decide) ?_
    refine pb_aload_n 64 dX7_isChoice_63 rfl rfl rfl ?_
    refine pb_getR 67 (j := 3) (d := 21) in_X7 rfl (by decide) rfl rfl (by decide) fl_X7_13 dX7_isChoice_64 rfl ?_
    refine pb_iconst 68 (v := 0) dX7_isChoice_67 rfl (by decide) ?_
    refine pb_iload_n 69 dX7_isChoice_68 rfl rfl rfl ?_
    refine pb_iload_n 70 dX7_isChoice_69 rfl rfl rfl ?_
    refine cl_X7_debt 73 ⟨by decide, by decide, by decide, by decide⟩ (Nat.le_of_ble_eq_true rfl) ml_X7_104 dX7_isChoice_70 rfl (fun b70 μ70 => ?_)
    refine pb_guard (fun hin => pb_iald 74 rfl hin rfl dX7_isChoice_73 rfl ?_)
    refine pb_icmp_gt 77 (tgt := 81) dX7_isChoice_74 (by decide) rfl (fun _ => ?_) (fun _ => ?_)
    · refine pb_iconst 82 (v := 0) dX7_isChoice_81 rfl (by decide) ?_
      exact pb_zret rfl dX7_isChoice_82
    · refine pb_iconst 78 (v := 1) dX7_isChoice_77 rfl (by decide) ?_
      refine pb_goto (tgt := 82) dX7_isChoice_78 (by decide) ?_
      exact pb_zret rfl dX7_isChoice_82
set_option maxRecDepth 100000 in
set_option maxHeartbeats 4000000 in
theorem tX7_isChoice_J47 (l : Launch) (E : pb_E)    : ∀ (v1 : Int32) (v2 : Int32) (v3 : Int32) (μ : pb_M), wX7_isChoice l E 47 [some (.ref (E.2.1 19)), some (.int v1), some (.int v2), some (.int v3), none, none] [] μ (pX7_isChoice_J47 v1 v2 v3 μ) := by
  intro v1 v2 v3 μ
  unfold pX7_isChoice_J47
  refine pb_iconst 48 (v := 1) dX7_isChoice_47 rfl (by decide) ?_
  refine pb_goto (tgt := 52) dX7_isChoice_48 (by decide) ?_
  exact tX7_isChoice_J52 l E v1 v2 v3 (1 : Int32) μ
set_option maxRecDepth 100000 in
set_option maxHeartbeats 4000000 in
theorem tX7_isChoice_J51 (l : Launch) (E : pb_E)    : ∀ (v1 : Int32) (v2 : Int32) (v3 : Int32) (μ : pb_M), wX7_isChoice l E 51 [some (.ref (E.2.1 19)), some (.int v1), some (.int v2), some (.int v3), none, none] [] μ (pX7_isChoice_J51 v1 v2 v3 μ) := by
  intro v1 v2 v3 μ
  unfold pX7_isChoice_J51
  refine pb_iconst 52 (v := 0) dX7_isChoice_51 rfl (by decide) ?_
  exact tX7_isChoice_J52 l E v1 v2 v3 (0 : Int32) μ
set_option maxRecDepth 100000 in
set_option maxHeartbeats 4000000 in
theorem evX7_isChoice (l : Launch) (E : pb_E) (v1 : Int32) (v2 : Int32) (v3 : Int32)  (μ : pb_M) : ∀ b μ', pX7_isChoice v1 v2 v3 μ = some (b, μ') → pb_Ev l E yX7_isChoice cX7_isChoice 6 (some .boolean) { frames := 2, cells := 0, slots := 0, locals := 47 } [.ref (E.2.1 19), .int v1, .int v2, .int v3] μ ((fun z : Int32 => some (.int z)) b) μ' := by
  refine pb_enter (L := [some (.ref (E.2.1 19)), some (.int v1), some (.int v2), some (.int v3), none, none]) (by decide +kernel) (Nat.le_of_ble_eq_true rfl) (pb_same [none, none, none, none, none, none] rfl) (show wX7_isChoice l E 0 [some (.ref (E.2.1 19)), some (.int v1), some (.int v2), some (.int v3), none, none] [] μ (pX7_isChoice v1 v2 v3 μ) from ?_)
  unfold pX7_isChoice
  refine pb_iload_n 1 dX7_isChoice_0 rfl rfl rfl ?_
  refine pb_bipush 3 (v := 6) dX7_isChoice_1 rfl (by decide) ?_
  refine pb_irem 4 dX7_isChoice_3 rfl (by decide) ?_
  refine pb_iconst 5 (v := 1) dX7_isChoice_4 rfl (by decide) ?_
  refine pb_isub 6 dX7_isChoice_5 rfl ?_
  refine pb_istore 8 (i := 4) (L' := [some (.ref (E.2.1 19)), some (.int v1), some (.int v2), some (.int v3), some (.int ((pb_rem v3 (6 : Int32)) - (1 : Int32))), none]) dX7_isChoice_6 (by decide) rfl rfl rfl ?_
  refine pb_iload 10 dX7_isChoice_8 rfl rfl ?_
  refine pb_if_lt 13 (tgt := 47) dX7_isChoice_10 (by decide) rfl (fun _ => ?_) (fun _ => ?_)
  · refine pb_weakM (L' := [some (.ref (E.2.1 19)), some (.int v1), some (.int v2), some (.int v3), none, none]) [true, true, true, true, false, false] rfl ?_
    exact tX7_isChoice_J47 l E v1 v2 v3 μ
  · refine pb_aload_n 14 dX7_isChoice_13 rfl rfl rfl ?_
    refine pb_iload 16 dX7_isChoice_14 rfl rfl ?_
    refine cl_X7_isBeast 19 ⟨by decide, by decide, by decide, by decide⟩ (Nat.le_of_ble_eq_true rfl) ml_X7_108 dX7_isChoice_16 rfl (fun b16 μ16 => ?_)
    refine pb_if_eq 22 (tgt := 51) dX7_isChoice_19 (by decide) rfl (fun _ => ?_) (fun _ => ?_)
    · refine pb_weakM (L' := [some (.ref (E.2.1 19)), some (.int v1), some (.int v2), some (.int v3), none, none]) [true, true, true, true, false, false] rfl ?_
      exact tX7_isChoice_J51 l E v1 v2 v3 μ16
    · refine pb_aload_n 23 dX7_isChoice_22 rfl rfl rfl ?_
      refine pb_getR 26 (j := 3) (d := 21) in_X7 rfl (by decide) rfl rfl (by decide) fl_X7_13 dX7_isChoice_23 rfl ?_
      refine pb_bipush 28 (v := 8) dX7_isChoice_26 rfl (by decide) ?_
      refine pb_iload 30 dX7_isChoice_28 rfl rfl ?_
      refine pb_iadd 31 dX7_isChoice_30 rfl ?_
      refine pb_guard (fun hin => pb_iald 32 rfl hin rfl dX7_isChoice_31 rfl ?_)
      refine pb_iload_n 33 dX7_isChoice_32 rfl rfl rfl ?_
      refine pb_icmp_ne 36 (tgt := 51) dX7_isChoice_33 (by decide) rfl (fun _ => ?_) (fun _ => ?_)
      · refine pb_aload_n 37 dX7_isChoice_36 rfl rfl rfl ?_
        refine pb_iconst 38 (v := 0) dX7_isChoice_37 rfl (by decide) ?_
        refine pb_iload_n 39 dX7_isChoice_38 rfl rfl rfl ?_
        refine pb_iload 41 dX7_isChoice_39 rfl rfl ?_
        refine cl_X7_clauseOn 44 ⟨by decide, by decide, by decide, by decide⟩ (Nat.le_of_ble_eq_true rfl) ml_X7_129 dX7_isChoice_41 rfl (fun b41 μ41 => ?_)
        refine pb_if_ne 47 (tgt := 51) dX7_isChoice_44 (by decide) rfl (fun _ => ?_) (fun _ => ?_)
        · refine pb_weakM (L' := [some (.ref (E.2.1 19)), some (.int v1), some (.int v2), some (.int v3), none, none]) [true, true, true, true, false, false] rfl ?_
          exact tX7_isChoice_J47 l E v1 v2 v3 μ41
        · refine pb_weakM (L' := [some (.ref (E.2.1 19)), some (.int v1), some (.int v2), some (.int v3), none, none]) [true, true, true, true, false, false] rfl ?_
          exact tX7_isChoice_J51 l E v1 v2 v3 μ41
      · refine pb_weakM (L' := [some (.ref (E.2.1 19)), some (.int v1), some (.int v2), some (.int v3), none, none]) [true, true, true, true, false, false] rfl ?_
        exact tX7_isChoice_J51 l E v1 v2 v3 μ16
theorem mc_X7_isChoice : pb_MC yX7_isChoice cX7_isChoice 6 (some .boolean) 3 := ⟨pb_inW 1105 (by decide +kernel) (by decide +kernel), pb_inW 68 (by decide +kernel) (by decide +kernel), by decide +kernel, by decide +kernel, by decide +kernel⟩
theorem mi_X7_isChoice : Cond.instanceMethod yX7_isChoice ∈ pb_gw := pb_inW 1104 (by decide +kernel) (by decide +kernel)
theorem ms_X7_isChoice : Cond.selects (yX7_isChoice).cls yX7_isChoice yX7_isChoice ∈ pb_gw := pb_inW 58 (by decide +kernel) (by decide +kernel)
theorem cl_X7_isChoice {α : Type} {l : Launch} {E : pb_E} {R : Room} {own : String} {cc : ByteArray} {mL : Nat} {ret : Option FieldType} {Xs : State → Prop} {nc ns : Nat} {Qf : State → Array Value → List Frame → α → pb_M → State → Prop} {pc : Nat} {L : List (Option Value)} {S : List Value} {μ : pb_M} {f : Int32 → pb_M → Option (α × pb_M)} {v1 : Int32} {v2 : Int32} {v3 : Int32} {index : Nat} (q : Nat)  (hR : 2 + 1 ≤ R.frames ∧ 8 + (6 + 11) + 47 ≤ R.locals ∧ nc ≤ R.cells ∧ ns ≤ R.slots) (hW : (S.map fun v => v.category).sum ≤ 8) (hl1 : Cond.methodLink own index yX7_isChoice ∈ pb_gw) (hdg : decode cc pc = .ok (.invokevirtual index, 3)) (hq : pc + 3 = q) (k : ∀ b1 μ1, pb_RW l E R own cc mL ret Xs nc ns Qf q L (.int b1 :: S) μ1 (f b1 μ1)) : pb_RW l E R own cc mL ret Xs nc ns Qf pc L (.int v3 :: .int v2 :: .int v1 :: .ref (E.2.1 19) :: S) μ (pb_b (pX7_isChoice v1 v2 v3 μ) f) := pb_callV q (fun z : Int32 => some (.int z)) mc_X7_isChoice mi_X7_isChoice ms_X7_isChoice (fun b1 μ1 h => evX7_isChoice l E v1 v2 v3  μ b1 μ1 h) rfl (by decide) rfl rfl rfl rfl hR rfl hW hl1 hdg hq k
theorem fl_X7_28 : Cond.fieldLink RX7 28 (TX7 17).1 (TX7 17).2.1 (TX7 17).2.2.1 ∈ pb_gw := pb_inW 801 (by decide +kernel) (by decide +kernel)
theorem fl_X7_31 : Cond.fieldLink RX7 31 (TX7 18).1 (TX7 18).2.1 (TX7 18).2.2.1 ∈ pb_gw := pb_inW 802 (by decide +kernel) (by decide +kernel)
def pX7_layGains_J99 (v1 : Int32) (v2 : Int32) (S2 : Int32 → pb_M → Option (Unit × pb_M)) (v3 : Int32) (s0 : Int32) (s1 : Int32) (s2 : Int32) (μ : pb_M) : Option (Unit × pb_M) :=
  if pb_in s2 24 then
    if (pb_rem v3 (6 : Int32)) = (0 : Int32) then
      if pb_in v3 24 then
        S2 (v3 + (1 : Int32)) (pb_sA (pb_sA μ 27 (upd (μ.1 27) (s2).toNatClampNeg ((s1 + s0) - (1 : Int32)))) 27 (upd ((pb_sA μ 27 (upd (μ.1 27) (s2).toNatClampNeg ((s1 + s0) - (1 : Int32)))).1 27) (v3).toNatClampNeg (v3 / (6 : Int32))))
      else none
    else
    if pb_in v3 24 then
      if pb_in v3 24 then
        S2 (v3 + (1 : Int32)) (pb_sA (pb_sA μ 27 (upd (μ.1 27) (s2).toNatClampNeg ((s1 + s0) - (1 : Int32)))) 27 (upd ((pb_sA μ 27 (upd (μ.1 27) (s2).toNatClampNeg ((s1 + s0) - (1 : Int32)))).1 27) (v3).toNatClampNeg ((pb_sA μ 27 (upd (μ.1 27) (s2).toNatClampNeg ((s1 + s0) - (1 : Int32)))).1 27 (v3).toNatClampNeg)))
      else none
    else none
  else none
def pX7_layGains_J74 (v1 : Int32) (v2 : Int32) (S2 : Int32 → pb_M → Option (Unit × pb_M)) (v3 : Int32) (v4 : Int32) (v5 : Int32) (s0 : Int32) (s1 : Int32) (s2 : Int32) (μ : pb_M) : Option (Unit × pb_M) :=
  if pb_in s2 24 then
    if v4 ≤ v5 then
      pX7_layGains_J99 v1 v2 S2 v3 v4 (v3 / (6 : Int32)) v3 (pb_sA μ 26 (upd (μ.1 26) (s2).toNatClampNeg (s1 - s0)))
    else
    pX7_layGains_J99 v1 v2 S2 v3 v5 (v3 / (6 : Int32)) v3 (pb_sA μ 26 (upd (μ.1 26) (s2).toNatClampNeg (s1 - s0)))
  else none
def pX7_layGains_J51 (v1 : Int32) (v2 : Int32) (S2 : Int32 → pb_M → Option (Unit × pb_M)) (v3 : Int32) (v4 : Int32) (s0 : Int32) (μ : pb_M) : Option (Unit × pb_M) :=
  if v4 ≤ (0 : Int32) then
    pX7_layGains_J74 v1 v2 S2 v3 v4 s0 (0 : Int32) (-(v3 / (6 : Int32))) v3 μ
  else
  pX7_layGains_J74 v1 v2 S2 v3 v4 s0 s0 (-(v3 / (6 : Int32))) v3 μ
def pX7_layGains_L2 (v1 : Int32) (v2 : Int32) : Nat → Int32 → pb_M → Option (Unit × pb_M)
  | 0, _, _ => none
  | n + 1, v3, μ =>
    if (24 : Int32) ≤ v3 then
      some ((), μ)
    else
    pb_b (pX7_debt (0 : Int32) v1 v2 μ) (fun b15 μ15 =>
    if pb_in b15 90 then
      if (pb_rem v3 (6 : Int32)) = (0 : Int32) then
        pX7_layGains_J51 v1 v2 (pX7_layGains_L2 v1 v2 n) v3 ((μ15.1 21 (b15).toNatClampNeg) - (v3 / (6 : Int32))) (0 : Int32) μ15
      else
      if pb_in (((13 : Int32) + (pb_rem v3 (6 : Int32))) - (1 : Int32)) 90 then
        pX7_layGains_J51 v1 v2 (pX7_layGains_L2 v1 v2 n) v3 ((μ15.1 21 (b15).toNatClampNeg) - (v3 / (6 : Int32))) (μ15.1 21 ((((13 : Int32) + (pb_rem v3 (6 : Int32))) - (1 : Int32))).toNatClampNeg) μ15
      else none
    else none)
def pX7_layGains (v1 : Int32) (v2 : Int32) (μ : pb_M) : Option (Unit × pb_M) :=
  pX7_layGains_L2 v1 v2 pb_F (0 : Int32) μ
abbrev wX7_layGains (l : Launch) (E : pb_E) := pb_RW l E { frames := 1, cells := 0, slots := 0, locals := 22 } RX7 cX7_layGains 6 none (fun _ => True) 0 0 (pb_Qf E (fun _ : Unit => none))
set_option maxRecDepth 100000 in
set_option maxHeartbeats 4000000 in
theorem tX7_layGains_J99 (l : Launch) (E : pb_E) (v1 : Int32) (v2 : Int32) {S2 : Int32 → pb_M → Option (Unit × pb_M)} (hS2 : ∀ (w3 : Int32) (μ : pb_M), wX7_layGains l E 2 [some (.ref (E.2.1 19)), some (.int v1), some (.int v2), some (.int w3), none, none] [] μ (S2 w3 μ)) : ∀ (v3 : Int32) (s0 : Int32) (s1 : Int32) (s2 : Int32) (μ : pb_M), wX7_layGains l E 99 [some (.ref (E.2.1 19)), some (.int v1), some (.int v2), some (.int v3), none, none] [.int s0, .int s1, .int s2, .ref (E.2.1 27)] μ (pX7_layGains_J99 v1 v2 S2 v3 s0 s1 s2 μ) := by
  intro v3 s0 s1 s2 μ
  unfold pX7_layGains_J99
  refine pb_iadd 100 dX7_layGains_99 rfl ?_
  refine pb_iconst 101 (v := 1) dX7_layGains_100 rfl (by decide) ?_
  refine pb_isub 102 dX7_layGains_101 rfl ?_
  refine pb_guard (fun hin => pb_iast 103 rfl hin rfl dX7_layGains_102 rfl ?_)
  refine pb_aload_n 104 dX7_layGains_103 rfl rfl rfl ?_
  refine pb_getR 107 (j := 18) (d := 27) in_X7 rfl (by decide) rfl rfl (by decide) fl_X7_31 dX7_layGains_104 rfl ?_
  refine pb_iload_n 108 dX7_layGains_107 rfl rfl rfl ?_
  refine pb_iload_n 109 dX7_layGains_108 rfl rfl rfl ?_
  refine pb_bipush 111 (v := 6) dX7_layGains_109 rfl (by decide) ?_
  refine pb_irem 112 dX7_layGains_111 rfl (by decide) ?_
  refine pb_if_ne 115 (tgt := 122) dX7_layGains_112 (by decide) rfl (fun _ => ?_) (fun _ => ?_)
  · refine pb_iload_n 116 dX7_layGains_115 rfl rfl rfl ?_
    refine pb_bipush 118 (v := 6) dX7_layGains_116 rfl (by decide) ?_
    refine pb_idiv 119 dX7_layGains_118 rfl (by decide) ?_
    refine pb_goto (tgt := 128) dX7_layGains_119 (by decide) ?_
    refine pb_guard (fun hin => pb_iast 129 rfl hin rfl dX7_layGains_128 rfl ?_)
    refine pb_iinc 132 (i := 3) (v := (v3 + (1 : Int32))) (L' := [some (.ref (E.2.1 19)), some (.int v1), some (.int v2), some (.int (v3 + (1 : Int32))), none, none]) dX7_layGains_129 rfl rfl (by decide) rfl rfl rfl ?_
    refine pb_goto (tgt := 2) dX7_layGains_132 (by decide) ?_
    exact hS2 (v3 + (1 : Int32)) (pb_sA (pb_sA μ 27 (upd (μ.1 27) (s2).toNatClampNeg ((s1 + s0) - (1 : Int32)))) 27 (upd ((pb_sA μ 27 (upd (μ.1 27) (s2).toNatClampNeg ((s1 + s0) - (1 : Int32)))).1 27) (v3).toNatClampNeg (v3 / (6 : Int32))))
  · refine pb_aload_n 123 dX7_layGains_122 rfl rfl rfl ?_
    refine pb_getR 126 (j := 18) (d := 27) in_X7 rfl (by decide) rfl rfl (by decide) fl_X7_31 dX7_layGains_123 rfl ?_
    refine pb_iload_n 127 dX7_layGains_126 rfl rfl rfl ?_
    refine pb_guard (fun hin => pb_iald 128 rfl hin rfl dX7_layGains_127 rfl ?_)
    refine pb_guard (fun hin => pb_iast 129 rfl hin rfl dX7_layGains_128 rfl ?_)
    refine pb_iinc 132 (i := 3) (v := (v3 + (1 : Int32))) (L' := [some (.ref (E.2.1 19)), some (.int v1), some (.int v2), some (.int (v3 + (1 : Int32))), none, none]) dX7_layGains_129 rfl rfl (by decide) rfl rfl rfl ?_
    refine pb_goto (tgt := 2) dX7_layGains_132 (by decide) ?_
    exact hS2 (v3 + (1 : Int32)) (pb_sA (pb_sA μ 27 (upd (μ.1 27) (s2).toNatClampNeg ((s1 + s0) - (1 : Int32)))) 27 (upd ((pb_sA μ 27 (upd (μ.1 27) (s2).toNatClampNeg ((s1 + s0) - (1 : Int32)))).1 27) (v3).toNatClampNeg ((pb_sA μ 27 (upd (μ.1 27) (s2).toNatClampNeg ((s1 + s0) - (1 : Int32)))).1 27 (v3).toNatClampNeg)))
set_option maxRecDepth 100000 in
set_option maxHeartbeats 4000000 in
theorem tX7_layGains_J74 (l : Launch) (E : pb_E) (v1 : Int32) (v2 : Int32) {S2 : Int32 → pb_M → Option (Unit × pb_M)} (hS2 : ∀ (w3 : Int32) (μ : pb_M), wX7_layGains l E 2 [some (.ref (E.2.1 19)), some (.int v1), some (.int v2), some (.int w3), none, none] [] μ (S2 w3 μ)) : ∀ (v3 : Int32) (v4 : Int32) (v5 : Int32) (s0 : Int32) (s1 : Int32) (s2 : Int32) (μ : pb_M), wX7_layGains l E 74 [some (.ref (E.2.1 19)), some (.int v1), some (.int v2), some (.int v3), some (.int v4), some (.int v5)] [.int s0, .int s1, .int s2, .ref (E.2.1 26)] μ (pX7_layGains_J74 v1 v2 S2 v3 v4 v5 s0 s1 s2 μ) := by
  intro v3 v4 v5 s0 s1 s2 μ
  unfold pX7_layGains_J74
  refine pb_isub 75 dX7_layGains_74 rfl ?_
  refine pb_guard (fun hin => pb_iast 76 rfl hin rfl dX7_layGains_75 rfl ?_)
  refine pb_aload_n 77 dX7_layGains_76 rfl rfl rfl ?_
  refine pb_getR 80 (j := 18) (d := 27) in_X7 rfl (by decide) rfl rfl (by decide) fl_X7_31 dX7_layGains_77 rfl ?_
  refine pb_iload_n 81 dX7_layGains_80 rfl rfl rfl ?_
  refine pb_iload_n 82 dX7_layGains_81 rfl rfl rfl ?_
  refine pb_bipush 84 (v := 6) dX7_layGains_82 rfl (by decide) ?_
  refine pb_idiv 85 dX7_layGains_84 rfl (by decide) ?_
  refine pb_iload 87 dX7_layGains_85 rfl rfl ?_
  refine pb_iload 89 dX7_layGains_87 rfl rfl ?_
  refine pb_icmp_le 92 (tgt := 97) dX7_layGains_89 (by decide) rfl (fun _ => ?_) (fun _ => ?_)
  · refine pb_iload 99 dX7_layGains_97 rfl rfl ?_
    refine pb_weakM (L' := [some (.ref (E.2.1 19)), some (.int v1), some (.int v2), some (.int v3), none, none]) [true, true, true, true, false, false] rfl ?_
    exact tX7_layGains_J99 l E v1 v2 hS2 v3 v4 (v3 / (6 : Int32)) v3 (pb_sA μ 26 (upd (μ.1 26) (s2).toNatClampNeg (s1 - s0)))
  · refine pb_iload 94 dX7_layGains_92 rfl rfl ?_
    refine pb_goto (tgt := 99) dX7_layGains_94 (by decide) ?_
    refine pb_weakM (L' := [some (.ref (E.2.1 19)), some (.int v1), some (.int v2), some (.int v3), none, none]) [true, true, true, true, false, false] rfl ?_
    exact tX7_layGains_J99 l E v1 v2 hS2 v3 v5 (v3 / (6 : Int32)) v3 (pb_sA μ 26 (upd (μ.1 26) (s2).toNatClampNeg (s1 - s0)))
set_option maxRecDepth 100000 in
set_option maxHeartbeats 4000000 in
theorem tX7_layGains_J51 (l : Launch) (E : pb_E) (v1 : Int32) (v2 : Int32) {S2 : Int32 → pb_M → Option (Unit × pb_M)} (hS2 : ∀ (w3 : Int32) (μ : pb_M), wX7_layGains l E 2 [some (.ref (E.2.1 19)), some (.int v1), some (.int v2), some (.int w3), none, none] [] μ (S2 w3 μ)) : ∀ (v3 : Int32) (v4 : Int32) (s0 : Int32) (μ : pb_M), wX7_layGains l E 51 [some (.ref (E.2.1 19)), some (.int v1), some (.int v2), some (.int v3), some (.int v4), none] [.int s0] μ (pX7_layGains_J51 v1 v2 S2 v3 v4 s0 μ) := by
  intro v3 v4 s0 μ
  unfold pX7_layGains_J51
  refine pb_istore 53 (i := 5) (L' := [some (.ref (E.2.1 19)), some (.int v1), some (.int v2), some (.int v3), some (.int v4), some (.int s0)]) dX7_layGains_51 (by decide) rfl rfl rfl ?_
  refine pb_aload_n 54 dX7_layGains_53 rfl rfl rfl ?_
  refine pb_getR 57 (j := 17) (d := 26) in_X7 rfl (by decide) rfl rfl (by decide) fl_X7_28 dX7_layGains_54 rfl ?_
  refine pb_iload_n 58 dX7_layGains_57 rfl rfl rfl ?_
  refine pb_iload_n 59 dX7_layGains_58 rfl rfl rfl ?_
  refine pb_bipush 61 (v := 6) dX7_layGains_59 rfl (by decide) ?_
  refine pb_idiv 62 dX7_layGains_61 rfl (by decide) ?_
  refine pb_ineg 63 dX7_layGains_62 rfl ?_
  refine pb_iload 65 dX7_layGains_63 rfl rfl ?_
  refine pb_if_le 68 (tgt := 73) dX7_layGains_65 (by decide) rfl (fun _ => ?_) (fun _ => ?_)
  · refine pb_iconst 74 (v := 0) dX7_layGains_73 rfl (by decide) ?_
    exact tX7_layGains_J74 l E v1 v2 hS2 v3 v4 s0 (0 : Int32) (-(v3 / (6 : Int32))) v3 μ
  · refine pb_iload 70 dX7_layGains_68 rfl rfl ?_
    refine pb_goto (tgt := 74) dX7_layGains_70 (by decide) ?_
    exact tX7_layGains_J74 l E v1 v2 hS2 v3 v4 s0 s0 (-(v3 / (6 : Int32))) v3 μ
set_option maxRecDepth 100000 in
set_option maxHeartbeats 4000000 in
theorem tX7_layGains_L2 (l : Launch) (E : pb_E) (v1 : Int32) (v2 : Int32)   : ∀ (n : Nat) (v3 : Int32) (μ : pb_M), wX7_layGains l E 2 [some (.ref (E.2.1 19)), some (.int v1), some (.int v2), some (.int v3), none, none] [] μ (pX7_layGains_L2 v1 v2 n v3 μ) := by
  intro n
  induction n with
  | zero => intro v3 μ; exact pb_none
  | succ n ih =>
    intro v3 μ
    rw [pX7_layGains_L2]
    refine pb_iload_n 3 dX7_layGains_2 rfl rfl rfl ?_
    refine pb_bipush 5 (v := 24) dX7_layGains_3 rfl (by decide) ?_
    refine pb_icmp_ge 8 (tgt := 135) dX7_layGains_5 (by decide) rfl (fun _ => ?_) (fun _ => ?_)
    · exact pb_vret dX7_layGains_135
    · refine pb_aload_n 9 dX7_layGains_8 rfl rfl rfl ?_
      refine pb_getR 12 (j := 3) (d := 21) in_X7 rfl (by decide) rfl rfl (by decide) fl_X7_13 dX7_layGains_9 rfl ?_
      refine pb_iconst 13 (v := 0) dX7_layGains_12 rfl (by decide) ?_
      refine pb_iload_n 14 dX7_layGains_13 rfl rfl rfl ?_
      refine pb_iload_n 15 dX7_layGains_14 rfl rfl rfl ?_
      refine cl_X7_debt 18 ⟨by decide, by decide, by decide, by decide⟩ (Nat.le_of_ble_eq_true rfl) ml_X7_104 dX7_layGains_15 rfl (fun b15 μ15 => ?_)
      refine pb_guard (fun hin => pb_iald 19 rfl hin rfl dX7_layGains_18 rfl ?_)
      refine pb_iload_n 20 dX7_layGains_19 rfl rfl rfl ?_
      refine pb_bipush 22 (v := 6) dX7_layGains_20 rfl (by decide) ?_
      refine pb_idiv 23 dX7_layGains_22 rfl (by decide) ?_
      refine pb_isub 24 dX7_layGains_23 rfl ?_
      refine pb_istore 26 (i := 4) (L' := [some (.ref (E.2.1 19)), some (.int v1), some (.int v2), some (.int v3), some (.int ((μ15.1 21 (b15).toNatClampNeg) - (v3 / (6 : Int32)))), none]) dX7_layGains_24 (by decide) rfl rfl rfl ?_
      refine pb_iload_n 27 dX7_layGains_26 rfl rfl rfl ?_
      refine pb_bipush 29 (v := 6) dX7_layGains_27 rfl (by decide) ?_
      refine pb_irem 30 dX7_layGains_29 rfl (by decide) ?_
      refine pb_if_ne 33 (tgt := 37) dX7_layGains_30 (by decide) rfl (fun _ => ?_) (fun _ => ?_)
      · refine pb_iconst 34 (v := 0) dX7_layGains_33 rfl (by decide) ?_
        refine pb_goto (tgt := 51) dX7_layGains_34 (by decide) ?_
        exact tX7_layGains_J51 l E v1 v2 ih v3 ((μ15.1 21 (b15).toNatClampNeg) - (v3 / (6 : Int32))) (0 : Int32) μ15
      · refine pb_aload_n 38 dX7_layGains_37 rfl rfl rfl ?_
        refine pb_getR 41 (j := 3) (d := 21) in_X7 rfl (by decide) rfl rfl (by decide) fl_X7_13 dX7_layGains_38 rfl ?_
        refine pb_bipush 43 (v := 13) dX7_layGains_41 rfl (by decide) ?_
        refine pb_iload_n 44 dX7_layGains_43 rfl rfl rfl ?_
        refine pb_bipush 46 (v := 6) dX7_layGains_44 rfl (by decide) ?_
        refine pb_irem 47 dX7_layGains_46 rfl (by decide) ?_
        refine pb_iadd 48 dX7_layGains_47 rfl ?_
        refine pb_iconst 49 (v := 1) dX7_layGains_48 rfl (by decide) ?_
        refine pb_isub 50 dX7_layGains_49 rfl ?_
        refine pb_guard (fun hin => pb_iald 51 rfl hin rfl dX7_layGains_50 rfl ?_)
        exact tX7_layGains_J51 l E v1 v2 ih v3 ((μ15.1 21 (b15).toNatClampNeg) - (v3 / (6 : Int32))) (μ15.1 21 ((((13 : Int32) + (pb_rem v3 (6 : Int32))) - (1 : Int32))).toNatClampNeg) μ15
set_option maxRecDepth 100000 in
set_option maxHeartbeats 4000000 in
theorem evX7_layGains (l : Launch) (E : pb_E) (v1 : Int32) (v2 : Int32)  (μ : pb_M) : ∀ b μ', pX7_layGains v1 v2 μ = some (b, μ') → pb_Ev l E yX7_layGains cX7_layGains 6 none { frames := 1, cells := 0, slots := 0, locals := 22 } [.ref (E.2.1 19), .int v1, .int v2] μ ((fun _ : Unit => none) b) μ' := by
  refine pb_enter (L := [some (.ref (E.2.1 19)), some (.int v1), some (.int v2), none, none, none]) (by decide +kernel) (Nat.le_of_ble_eq_true rfl) (pb_same [none, none, none, none, none, none] rfl) (show wX7_layGains l E 0 [some (.ref (E.2.1 19)), some (.int v1), some (.int v2), none, none, none] [] μ (pX7_layGains v1 v2 μ) from ?_)
  unfold pX7_layGains
  refine pb_iconst 1 (v := 0) dX7_layGains_0 rfl (by decide) ?_
  refine pb_istore_n 2 (i := 3) (L' := [some (.ref (E.2.1 19)), some (.int v1), some (.int v2), some (.int (0 : Int32)), none, none]) dX7_layGains_1 rfl (by decide) rfl rfl rfl ?_
  exact tX7_layGains_L2 l E v1 v2 pb_F (0 : Int32) μ
theorem mc_X7_layGains : pb_MC yX7_layGains cX7_layGains 6 none 2 := ⟨pb_inW 1097 (by decide +kernel) (by decide +kernel), pb_inW 68 (by decide +kernel) (by decide +kernel), by decide +kernel, by decide +kernel, by decide +kernel⟩
theorem mi_X7_layGains : Cond.instanceMethod yX7_layGains ∈ pb_gw := pb_inW 1096 (by decide +kernel) (by decide +kernel)
theorem ms_X7_layGains : Cond.selects (yX7_layGains).cls yX7_layGains yX7_layGains ∈ pb_gw := pb_inW 56 (by decide +kernel) (by decide +kernel)
theorem cl_X7_layGains {α : Type} {l : Launch} {E : pb_E} {R : Room} {own : String} {cc : ByteArray} {mL : Nat} {ret : Option FieldType} {Xs : State → Prop} {nc ns : Nat} {Qf : State → Array Value → List Frame → α → pb_M → State → Prop} {pc : Nat} {L : List (Option Value)} {S : List Value} {μ : pb_M} {f : Unit → pb_M → Option (α × pb_M)} {v1 : Int32} {v2 : Int32} {index : Nat} (q : Nat)  (hR : 1 + 1 ≤ R.frames ∧ 8 + (6 + 11) + 22 ≤ R.locals ∧ nc ≤ R.cells ∧ ns ≤ R.slots) (hW : (S.map fun v => v.category).sum ≤ 8) (hl1 : Cond.methodLink own index yX7_layGains ∈ pb_gw) (hdg : decode cc pc = .ok (.invokevirtual index, 3)) (hq : pc + 3 = q) (k : ∀ b1 μ1, pb_RW l E R own cc mL ret Xs nc ns Qf q L S μ1 (f b1 μ1)) : pb_RW l E R own cc mL ret Xs nc ns Qf pc L (.int v2 :: .int v1 :: .ref (E.2.1 19) :: S) μ (pb_b (pX7_layGains v1 v2 μ) f) := pb_callV q (fun _ : Unit => none) mc_X7_layGains mi_X7_layGains ms_X7_layGains (fun b1 μ1 h => evX7_layGains l E v1 v2  μ b1 μ1 h) rfl (by decide) rfl rfl rfl rfl hR rfl hW hl1 hdg hq k
theorem ml_X7_210 : Cond.methodLink RX7 210 yX7_isChoice ∈ pb_gw := pb_inW 1102 (by decide +kernel) (by decide +kernel)
def pX7_isRest_L12 (v1 : Int32) (v2 : Int32) (v3 : Int32) (K75 : Int32 → pb_M → Option (Int32 × pb_M)) : Nat → Int32 → Int32 → pb_M → Option (Int32 × pb_M)
  | 0, _, _, _ => none
  | n + 1, v4, v5, μ =>
    if (4 : Int32) ≤ v5 then
      K75 v4 μ
    else
    if v4 = (0 : Int32) then
      pX7_isRest_L12 v1 v2 v3 K75 n (0 : Int32) (v5 + (1 : Int32)) μ
    else
    pb_b (pX7_isChoice v1 v2 (((6 : Int32) * v5) + (pb_rem v3 (6 : Int32))) μ) (fun b40 μ40 =>
    if b40 = (0 : Int32) then
      pX7_isRest_L12 v1 v2 v3 K75 n (1 : Int32) (v5 + (1 : Int32)) μ40
    else
    if pb_in (((6 : Int32) * v5) + (pb_rem v3 (6 : Int32))) 24 then
      if pb_in v3 24 then
        if (μ40.1 26 (v3).toNatClampNeg) < (μ40.1 26 ((((6 : Int32) * v5) + (pb_rem v3 (6 : Int32)))).toNatClampNeg) then
          pX7_isRest_L12 v1 v2 v3 K75 n (0 : Int32) (v5 + (1 : Int32)) μ40
        else
        pX7_isRest_L12 v1 v2 v3 K75 n (1 : Int32) (v5 + (1 : Int32)) μ40
      else none
    else none)
def pX7_isRest_L78 (v1 : Int32) (v2 : Int32) (v3 : Int32) : Nat → Int32 → Int32 → pb_M → Option (Int32 × pb_M)
  | 0, _, _, _ => none
  | n + 1, v4, v5, μ =>
    if (6 : Int32) ≤ v5 then
      if v4 = 0 ∨ v4 = 1 then some (v4, μ) else none
    else
    if v4 = (0 : Int32) then
      pX7_isRest_L78 v1 v2 v3 n (0 : Int32) (v5 + (1 : Int32)) μ
    else
    pb_b (pX7_isChoice v1 v2 ((v3 - (pb_rem v3 (6 : Int32))) + v5) μ) (fun b106 μ106 =>
    if b106 = (0 : Int32) then
      pX7_isRest_L78 v1 v2 v3 n (1 : Int32) (v5 + (1 : Int32)) μ106
    else
    if pb_in ((v3 - (pb_rem v3 (6 : Int32))) + v5) 24 then
      if pb_in v3 24 then
        if (μ106.1 27 (v3).toNatClampNeg) < (μ106.1 27 (((v3 - (pb_rem v3 (6 : Int32))) + v5)).toNatClampNeg) then
          pX7_isRest_L78 v1 v2 v3 n (0 : Int32) (v5 + (1 : Int32)) μ106
        else
        pX7_isRest_L78 v1 v2 v3 n (1 : Int32) (v5 + (1 : Int32)) μ106
      else none
    else none)
def pX7_isRest (v1 : Int32) (v2 : Int32) (v3 : Int32) (μ : pb_M) : Option (Int32 × pb_M) :=
  pb_b (pX7_isChoice v1 v2 v3 μ) (fun b4 μ4 =>
  pX7_isRest_L12 v1 v2 v3 (fun x4k75 μk75 =>
    pX7_isRest_L78 v1 v2 v3 pb_F x4k75 (0 : Int32) μk75) pb_F b4 (0 : Int32) μ4)
abbrev wX7_isRest (l : Launch) (E : pb_E) := pb_RW l E { frames := 3, cells := 0, slots := 0, locals := 72 } RX7 cX7_isRest 7 (some .boolean) (fun _ => True) 0 0 (pb_Qf E (fun z : Int32 => some (.int z)))
set_option maxRecDepth 100000 in
set_option maxHeartbeats 4000000 in
theorem tX7_isRest_L12 (l : Launch) (E : pb_E) (v1 : Int32) (v2 : Int32) (v3 : Int32) {K75 : Int32 → pb_M → Option (Int32 × pb_M)} (hK75 : ∀ (w4 : Int32) (μ : pb_M), wX7_isRest l E 75 [some (.ref (E.2.1 19)), some (.int v1), some (.int v2), some (.int v3), some (.int w4), none, none] [] μ (K75 w4 μ)) : ∀ (n : Nat) (v4 : Int32) (v5 : Int32) (μ : pb_M), wX7_isRest l E 12 [some (.ref (E.2.1 19)), some (.int v1), some (.int v2), some (.int v3), some (.int v4), some (.int v5), none] [] μ (pX7_isRest_L12 v1 v2 v3 K75 n v4 v5 μ) := by
  intro n
  induction n with
  | zero => intro v4 v5 μ; exact pb_none
  | succ n ih =>
    intro v4 v5 μ
    rw [pX7_isRest_L12]
    refine pb_iload 14 dX7_isRest_12 rfl rfl ?_
    refine pb_iconst 15 (v := 4) dX7_isRest_14 rfl (by decide) ?_
    refine pb_icmp_ge 18 (tgt := 75) dX7_isRest_15 (by decide) rfl (fun _ => ?_) (fun _ => ?_)
    · refine pb_weakM (L' := [some (.ref (E.2.1 19)), some (.int v1), some (.int v2), some (.int v3), some (.int v4), none, none]) [true, true, true, true, true, false, false] rfl ?_
      exact hK75 v4 μ
    · refine pb_bipush 20 (v := 6) dX7_isRest_18 rfl (by decide) ?_
      refine pb_iload 22 dX7_isRest_20 rfl rfl ?_
      refine pb_imul 23 dX7_isRest_22 rfl ?_
      refine pb_iload_n 24 dX7_isRest_23 rfl rfl rfl ?_
      refine pb_bipush 26 (v := 6) dX7_isRest_24 rfl (by decide) ?_
      refine pb_irem 27 dX7_isRest_26 rfl (by decide) ?_
      refine pb_iadd 28 dX7_isRest_27 rfl ?_
      refine pb_istore 30 (i := 6) (L' := [some (.ref (E.2.1 19)), some (.int v1), some (.int v2), some (.int v3), some (.int v4), some (.int v5), some (.int (((6 : Int32) * v5) + (pb_rem v3 (6 : Int32))))]) dX7_isRest_28 (by decide) rfl rfl rfl ?_
      refine pb_iload 32 dX7_isRest_30 rfl rfl ?_
      refine pb_if_eq 35 (tgt := 66) dX7_isRest_32 (by decide) rfl (fun _ => ?_) (fun _ => ?_)
      · refine pb_iconst 67 (v := 0) dX7_isRest_66 rfl (by decide) ?_
        refine pb_istore 69 (i := 4) (L' := [some (.ref (E.2.1 19)), some (.int v1), some (.int v2), some (.int v3), some (.int (0 : Int32)), some (.int v5), some (.int (((6 : Int32) * v5) + (pb_rem v3 (6 : Int32))))]) dX7_isRest_67 (by decide) rfl rfl rfl ?_
        refine pb_iinc 72 (i := 5) (v := (v5 + (1 : Int32))) (L' := [some (.ref (E.2.1 19)), some (.int v1), some (.int v2), some (.int v3), some (.int (0 : Int32)), some (.int (v5 + (1 : Int32))), some (.int (((6 : Int32) * v5) + (pb_rem v3 (6 : Int32))))]) dX7_isRest_69 rfl rfl (by decide) rfl rfl rfl ?_
        refine pb_goto (tgt := 12) dX7_isRest_72 (by decide) ?_
        refine pb_weakM (L' := [some (.ref (E.2.1 19)), some (.int v1), some (.int v2), some (.int v3), some (.int (0 : Int32)), some (.int (v5 + (1 : Int32))), none]) [true, true, true, true, true, true, false] rfl ?_
        exact ih (0 : Int32) (v5 + (1 : Int32)) μ
      · refine pb_aload_n 36 dX7_isRest_35 rfl rfl rfl ?_
        refine pb_iload_n 37 dX7_isRest_36 rfl rfl rfl ?_
        refine pb_iload_n 38 dX7_isRest_37 rfl rfl rfl ?_
        refine pb_iload 40 dX7_isRest_38 rfl rfl ?_
        refine cl_X7_isChoice 43 ⟨by decide, by decide, by decide, by decide⟩ (Nat.le_of_ble_eq_true rfl) ml_X7_210 dX7_isRest_40 rfl (fun b40 μ40 => ?_)
        refine pb_if_eq 46 (tgt := 62) dX7_isRest_43 (by decide) rfl (fun _ => ?_) (fun _ => ?_)
        · refine pb_iconst 63 (v := 1) dX7_isRest_62 rfl (by decide) ?_
          refine pb_goto (tgt := 67) dX7_isRest_63 (by decide) ?_
          refine pb_istore 69 (i := 4) (L' := [some (.ref (E.2.1 19)), some (.int v1), some (.int v2), some (.int v3), some (.int (1 : Int32)), some (.int v5), some (.int (((6 : Int32) * v5) + (pb_rem v3 (6 : Int32))))]) dX7_isRest_67 (by decide) rfl rfl rfl ?_
          refine pb_iinc 72 (i := 5) (v := (v5 + (1 : Int32))) (L' := [some (.ref (E.2.1 19)), some (.int v1), some (.int v2), some (.int v3), some (.int (1 : Int32)), some (.int (v5 + (1 : Int32))), some (.int (((6 : Int32) * v5) + (pb_rem v3 (6 : Int32))))]) dX7_isRest_69 rfl rfl (by decide) rfl rfl rfl ?_
          refine pb_goto (tgt := 12) dX7_isRest_72 (by decide) ?_
          refine pb_weakM (L' := [some (.ref (E.2.1 19)), some (.int v1), some (.int v2), some (.int v3), some (.int (1 : Int32)), some (.int (v5 + (1 : Int32))), none]) [true, true, true, true, true, true, false] rfl ?_
          exact ih (1 : Int32) (v5 + (1 : Int32)) μ40
        · refine pb_aload_n 47 dX7_isRest_46 rfl rfl rfl ?_
          refine pb_getR 50 (j := 17) (d := 26) in_X7 rfl (by decide) rfl rfl (by decide) fl_X7_28 dX7_isRest_47 rfl ?_
          refine pb_iload 52 dX7_isRest_50 rfl rfl ?_
          refine pb_guard (fun hin => pb_iald 53 rfl hin rfl dX7_isRest_52 rfl ?_)
          refine pb_aload_n 54 dX7_isRest_53 rfl rfl rfl ?_
          refine pb_getR 57 (j := 17) (d := 26) in_X7 rfl (by decide) rfl rfl (by decide) fl_X7_28 dX7_isRest_54 rfl ?_
          refine pb_iload_n 58 dX7_isRest_57 rfl rfl rfl ?_
          refine pb_guard (fun hin => pb_iald 59 rfl hin rfl dX7_isRest_58 rfl ?_)
          refine pb_icmp_gt 62 (tgt := 66) dX7_isRest_59 (by decide) rfl (fun _ => ?_) (fun _ => ?_)
          · refine pb_iconst 67 (v := 0) dX7_isRest_66 rfl (by decide) ?_
            refine pb_istore 69 (i := 4) (L' := [some (.ref (E.2.1 19)), some (.int v1), some (.int v2), some (.int v3), some (.int (0 : Int32)), some (.int v5), some (.int (((6 : Int32) * v5) + (pb_rem v3 (6 : Int32))))]) dX7_isRest_67 (by decide) rfl rfl rfl ?_
            refine pb_iinc 72 (i := 5) (v := (v5 + (1 : Int32))) (L' := [some (.ref (E.2.1 19)), some (.int v1), some (.int v2), some (.int v3), some (.int (0 : Int32)), some (.int (v5 + (1 : Int32))), some (.int (((6 : Int32) * v5) + (pb_rem v3 (6 : Int32))))]) dX7_isRest_69 rfl rfl (by decide) rfl rfl rfl ?_
            refine pb_goto (tgt := 12) dX7_isRest_72 (by decide) ?_
            refine pb_weakM (L' := [some (.ref (E.2.1 19)), some (.int v1), some (.int v2), some (.int v3), some (.int (0 : Int32)), some (.int (v5 + (1 : Int32))), none]) [true, true, true, true, true, true, false] rfl ?_
            exact ih (0 : Int32) (v5 + (1 : Int32)) μ40
          · refine pb_iconst 63 (v := 1) dX7_isRest_62 rfl (by decide) ?_
            refine pb_goto (tgt := 67) dX7_isRest_63 (by decide) ?_
            refine pb_istore 69 (i := 4) (L' := [some (.ref (E.2.1 19)), some (.int v1), some (.int v2), some (.int v3), some (.int (1 : Int32)), some (.int v5), some (.int (((6 : Int32) * v5) + (pb_rem v3 (6 : Int32))))]) dX7_isRest_67 (by decide) rfl rfl rfl ?_
            refine pb_iinc 72 (i := 5) (v := (v5 + (1 : Int32))) (L' := [some (.ref (E.2.1 19)), some (.int v1), some (.int v2), some (.int v3), some (.int (1 : Int32)), some (.int (v5 + (1 : Int32))), some (.int (((6 : Int32) * v5) + (pb_rem v3 (6 : Int32))))]) dX7_isRest_69 rfl rfl (by decide) rfl rfl rfl ?_
            refine pb_goto (tgt := 12) dX7_isRest_72 (by decide) ?_
            refine pb_weakM (L' := [some (.ref (E.2.1 19)), some (.int v1), some (.int v2), some (.int v3), some (.int (1 : Int32)), some (.int (v5 + (1 : Int32))), none]) [true, true, true, true, true, true, false] rfl ?_
            exact ih (1 : Int32) (v5 + (1 : Int32)) μ40
set_option maxRecDepth 100000 in
set_option maxHeartbeats 4000000 in
theorem tX7_isRest_L78 (l : Launch) (E : pb_E) (v1 : Int32) (v2 : Int32) (v3 : Int32)   : ∀ (n : Nat) (v4 : Int32) (v5 : Int32) (μ : pb_M), wX7_isRest l E 78 [some (.ref (E.2.1 19)), some (.int v1), some (.int v2), some (.int v3), some (.int v4), some (.int v5), none] [] μ (pX7_isRest_L78 v1 v2 v3 n v4 v5 μ) := by
  intro n
  induction n with
  | zero => intro v4 v5 μ; exact pb_none
  | succ n ih =>
    intro v4 v5 μ
    rw [pX7_isRest_L78]
    refine pb_iload 80 dX7_isRest_78 rfl rfl ?_
    refine pb_bipush 82 (v := 6) dX7_isRest_80 rfl (by decide) ?_
    refine pb_icmp_ge 85 (tgt := 141) dX7_isRest_82 (by decide) rfl (fun _ => ?_) (fun _ => ?_)
    · refine pb_iload 143 dX7_isRest_141 rfl rfl ?_
      exact pb_zretG dX7_isRest_143
    · refine pb_iload_n 86 dX7_isRest_85 rfl rfl rfl ?_
      refine pb_iload_n 87 dX7_isRest_86 rfl rfl rfl ?_
      refine pb_bipush 89 (v := 6) dX7_isRest_87 rfl (by decide) ?_
      refine pb_irem 90 dX7_isRest_89 rfl (by decide) ?_
      refine pb_isub 91 dX7_isRest_90 rfl ?_
      refine pb_iload 93 dX7_isRest_91 rfl rfl ?_
      refine pb_iadd 94 dX7_isRest_93 rfl ?_
      refine pb_istore 96 (i := 6) (L' := [some (.ref (E.2.1 19)), some (.int v1), some (.int v2), some (.int v3), some (.int v4), some (.int v5), some (.int ((v3 - (pb_rem v3 (6 : Int32))) + v5))]) dX7_isRest_94 (by decide) rfl rfl rfl ?_
      refine pb_iload 98 dX7_isRest_96 rfl rfl ?_
      refine pb_if_eq 101 (tgt := 132) dX7_isRest_98 (by decide) rfl (fun _ => ?_) (fun _ => ?_)
      · refine pb_iconst 133 (v := 0) dX7_isRest_132 rfl (by decide) ?_
        refine pb_istore 135 (i := 4) (L' := [some (.ref (E.2.1 19)), some (.int v1), some (.int v2), some (.int v3), some (.int (0 : Int32)), some (.int v5), some (.int ((v3 - (pb_rem v3 (6 : Int32))) + v5))]) dX7_isRest_133 (by decide) rfl rfl rfl ?_
        refine pb_iinc 138 (i := 5) (v := (v5 + (1 : Int32))) (L' := [some (.ref (E.2.1 19)), some (.int v1), some (.int v2), some (.int v3), some (.int (0 : Int32)), some (.int (v5 + (1 : Int32))), some (.int ((v3 - (pb_rem v3 (6 : Int32))) + v5))]) dX7_isRest_135 rfl rfl (by decide) rfl rfl rfl ?_
        refine pb_goto (tgt := 78) dX7_isRest_138 (by decide) ?_
        refine pb_weakM (L' := [some (.ref (E.2.1 19)), some (.int v1), some (.int v2), some (.int v3), some (.int (0 : Int32)), some (.int (v5 + (1 : Int32))), none]) [true, true, true, true, true, true, false] rfl ?_
        exact ih (0 : Int32) (v5 + (1 : Int32)) μ
      · refine pb_aload_n 102 dX7_isRest_101 rfl rfl rfl ?_
        refine pb_iload_n 103 dX7_isRest_102 rfl rfl rfl ?_
        refine pb_iload_n 104 dX7_isRest_103 rfl rfl rfl ?_
        refine pb_iload 106 dX7_isRest_104 rfl rfl ?_
        refine cl_X7_isChoice 109 ⟨by decide, by decide, by decide, by decide⟩ (Nat.le_of_ble_eq_true rfl) ml_X7_210 dX7_isRest_106 rfl (fun b106 μ106 => ?_)
        refine pb_if_eq 112 (tgt := 128) dX7_isRest_109 (by decide) rfl (fun _ => ?_) (fun _ => ?_)
        · refine pb_iconst 129 (v := 1) dX7_isRest_128 rfl (by decide) ?_
          refine pb_goto (tgt := 133) dX7_isRest_129 (by decide) ?_
          refine pb_istore 135 (i := 4) (L' := [some (.ref (E.2.1 19)), some (.int v1), some (.int v2), some (.int v3), some (.int (1 : Int32)), some (.int v5), some (.int ((v3 - (pb_rem v3 (6 : Int32))) + v5))]) dX7_isRest_133 (by decide) rfl rfl rfl ?_
          refine pb_iinc 138 (i := 5) (v := (v5 + (1 : Int32))) (L' := [some (.ref (E.2.1 19)), some (.int v1), some (.int v2), some (.int v3), some (.int (1 : Int32)), some (.int (v5 + (1 : Int32))), some (.int ((v3 - (pb_rem v3 (6 : Int32))) + v5))]) dX7_isRest_135 rfl rfl (by decide) rfl rfl rfl ?_
          refine pb_goto (tgt := 78) dX7_isRest_138 (by decide) ?_
          refine pb_weakM (L' := [some (.ref (E.2.1 19)), some (.int v1), some (.int v2), some (.int v3), some (.int (1 : Int32)), some (.int (v5 + (1 : Int32))), none]) [true, true, true, true, true, true, false] rfl ?_
          exact ih (1 : Int32) (v5 + (1 : Int32)) μ106
        · refine pb_aload_n 113 dX7_isRest_112 rfl rfl rfl ?_
          refine pb_getR 116 (j := 18) (d := 27) in_X7 rfl (by decide) rfl rfl (by decide) fl_X7_31 dX7_isRest_113 rfl ?_
          refine pb_iload 118 dX7_isRest_116 rfl rfl ?_
          refine pb_guard (fun hin => pb_iald 119 rfl hin rfl dX7_isRest_118 rfl ?_)
          refine pb_aload_n 120 dX7_isRest_119 rfl rfl rfl ?_
          refine pb_getR 123 (j := 18) (d := 27) in_X7 rfl (by decide) rfl rfl (by decide) fl_X7_31 dX7_isRest_120 rfl ?_
          refine pb_iload_n 124 dX7_isRest_123 rfl rfl rfl ?_
          refine pb_guard (fun hin => pb_iald 125 rfl hin rfl dX7_isRest_124 rfl ?_)
          refine pb_icmp_gt 128 (tgt := 132) dX7_isRest_125 (by decide) rfl (fun _ => ?_) (fun _ => ?_)
          · refine pb_iconst 133 (v := 0) dX7_isRest_132 rfl (by decide) ?_
            refine pb_istore 135 (i := 4) (L' := [some (.ref (E.2.1 19)), some (.int v1), some (.int v2), some (.int v3), some (.int (0 : Int32)), some (.int v5), some (.int ((v3 - (pb_rem v3 (6 : Int32))) + v5))]) dX7_isRest_133 (by decide) rfl rfl rfl ?_
            refine pb_iinc 138 (i := 5) (v := (v5 + (1 : Int32))) (L' := [some (.ref (E.2.1 19)), some (.int v1), some (.int v2), some (.int v3), some (.int (0 : Int32)), some (.int (v5 + (1 : Int32))), some (.int ((v3 - (pb_rem v3 (6 : Int32))) + v5))]) dX7_isRest_135 rfl rfl (by decide) rfl rfl rfl ?_
            refine pb_goto (tgt := 78) dX7_isRest_138 (by decide) ?_
            refine pb_weakM (L' := [some (.ref (E.2.1 19)), some (.int v1), some (.int v2), some (.int v3), some (.int (0 : Int32)), some (.int (v5 + (1 : Int32))), none]) [true, true, true, true, true, true, false] rfl ?_
            exact ih (0 : Int32) (v5 + (1 : Int32)) μ106
          · refine pb_iconst 129 (v := 1) dX7_isRest_128 rfl (by decide) ?_
            refine pb_goto (tgt := 133) dX7_isRest_129 (by decide) ?_
            refine pb_istore 135 (i := 4) (L' := [some (.ref (E.2.1 19)), some (.int v1), some (.int v2), some (.int v3), some (.int (1 : Int32)), some (.int v5), some (.int ((v3 - (pb_rem v3 (6 : Int32))) + v5))]) dX7_isRest_133 (by decide) rfl rfl rfl ?_
            refine pb_iinc 138 (i := 5) (v := (v5 + (1 : Int32))) (L' := [some (.ref (E.2.1 19)), some (.int v1), some (.int v2), some (.int v3), some (.int (1 : Int32)), some (.int (v5 + (1 : Int32))), some (.int ((v3 - (pb_rem v3 (6 : Int32))) + v5))]) dX7_isRest_135 rfl rfl (by decide) rfl rfl rfl ?_
            refine pb_goto (tgt := 78) dX7_isRest_138 (by decide) ?_
            refine pb_weakM (L' := [some (.ref (E.2.1 19)), some (.int v1), some (.int v2), some (.int v3), some (.int (1 : Int32)), some (.int (v5 + (1 : Int32))), none]) [true, true, true, true, true, true, false] rfl ?_
            exact ih (1 : Int32) (v5 + (1 : Int32)) μ106
set_option maxRecDepth 100000 in
set_option maxHeartbeats 4000000 in
theorem evX7_isRest (l : Launch) (E : pb_E) (v1 : Int32) (v2 : Int32) (v3 : Int32)  (μ : pb_M) : ∀ b μ', pX7_isRest v1 v2 v3 μ = some (b, μ') → pb_Ev l E yX7_isRest cX7_isRest 7 (some .boolean) { frames := 3, cells := 0, slots := 0, locals := 72 } [.ref (E.2.1 19), .int v1, .int v2, .int v3] μ ((fun z : Int32 => some (.int z)) b) μ' := by
  refine pb_enter (L := [some (.ref (E.2.1 19)), some (.int v1), some (.int v2), some (.int v3), none, none, none]) (by decide +kernel) (Nat.le_of_ble_eq_true rfl) (pb_same [none, none, none, none, none, none, none] rfl) (show wX7_isRest l E 0 [some (.ref (E.2.1 19)), some (.int v1), some (.int v2), some (.int v3), none, none, none] [] μ (pX7_isRest v1 v2 v3 μ) from ?_)
  unfold pX7_isRest
  refine pb_aload_n 1 dX7_isRest_0 rfl rfl rfl ?_
  refine pb_iload_n 2 dX7_isRest_1 rfl rfl rfl ?_
  refine pb_iload_n 3 dX7_isRest_2 rfl rfl rfl ?_
  refine pb_iload_n 4 dX7_isRest_3 rfl rfl rfl ?_
  refine cl_X7_isChoice 7 ⟨by decide, by decide, by decide, by decide⟩ (Nat.le_of_ble_eq_true rfl) ml_X7_210 dX7_isRest_4 rfl (fun b4 μ4 => ?_)
  refine pb_istore 9 (i := 4) (L' := [some (.ref (E.2.1 19)), some (.int v1), some (.int v2), some (.int v3), some (.int b4), none, none]) dX7_isRest_7 (by decide) rfl rfl rfl ?_
  refine pb_iconst 10 (v := 0) dX7_isRest_9 rfl (by decide) ?_
  refine pb_istore 12 (i := 5) (L' := [some (.ref (E.2.1 19)), some (.int v1), some (.int v2), some (.int v3), some (.int b4), some (.int (0 : Int32)), none]) dX7_isRest_10 (by decide) rfl rfl rfl ?_
  refine tX7_isRest_L12 l E v1 v2 v3 (fun x4k75 μk75 => ?_) pb_F b4 (0 : Int32) μ4
  refine pb_iconst 76 (v := 0) dX7_isRest_75 rfl (by decide) ?_
  refine pb_istore 78 (i := 5) (L' := [some (.ref (E.2.1 19)), some (.int v1), some (.int v2), some (.int v3), some (.int x4k75), some (.int (0 : Int32)), none]) dX7_isRest_76 (by decide) rfl rfl rfl ?_
  exact tX7_isRest_L78 l E v1 v2 v3 pb_F x4k75 (0 : Int32) μk75
theorem mc_X7_isRest : pb_MC yX7_isRest cX7_isRest 7 (some .boolean) 3 := ⟨pb_inW 1101 (by decide +kernel) (by decide +kernel), pb_inW 68 (by decide +kernel) (by decide +kernel), by decide +kernel, by decide +kernel, by decide +kernel⟩
theorem mi_X7_isRest : Cond.instanceMethod yX7_isRest ∈ pb_gw := pb_inW 1100 (by decide +kernel) (by decide +kernel)
theorem ms_X7_isRest : Cond.selects (yX7_isRest).cls yX7_isRest yX7_isRest ∈ pb_gw := pb_inW 57 (by decide +kernel) (by decide +kernel)
theorem cl_X7_isRest {α : Type} {l : Launch} {E : pb_E} {R : Room} {own : String} {cc : ByteArray} {mL : Nat} {ret : Option FieldType} {Xs : State → Prop} {nc ns : Nat} {Qf : State → Array Value → List Frame → α → pb_M → State → Prop} {pc : Nat} {L : List (Option Value)} {S : List Value} {μ : pb_M} {f : Int32 → pb_M → Option (α × pb_M)} {v1 : Int32} {v2 : Int32} {v3 : Int32} {index : Nat} (q : Nat)  (hR : 3 + 1 ≤ R.frames ∧ 8 + (7 + 11) + 72 ≤ R.locals ∧ nc ≤ R.cells ∧ ns ≤ R.slots) (hW : (S.map fun v => v.category).sum ≤ 8) (hl1 : Cond.methodLink own index yX7_isRest ∈ pb_gw) (hdg : decode cc pc = .ok (.invokevirtual index, 3)) (hq : pc + 3 = q) (k : ∀ b1 μ1, pb_RW l E R own cc mL ret Xs nc ns Qf q L (.int b1 :: S) μ1 (f b1 μ1)) : pb_RW l E R own cc mL ret Xs nc ns Qf pc L (.int v3 :: .int v2 :: .int v1 :: .ref (E.2.1 19) :: S) μ (pb_b (pX7_isRest v1 v2 v3 μ) f) := pb_callV q (fun z : Int32 => some (.int z)) mc_X7_isRest mi_X7_isRest ms_X7_isRest (fun b1 μ1 h => evX7_isRest l E v1 v2 v3  μ b1 μ1 h) rfl (by decide) rfl rfl rfl rfl hR rfl hW hl1 hdg hq k
theorem ml_X7_214 : Cond.methodLink RX7 214 yX7_layGains ∈ pb_gw := pb_inW 1094 (by decide +kernel) (by decide +kernel)
theorem ml_X7_217 : Cond.methodLink RX7 217 yX7_isRest ∈ pb_gw := pb_inW 1098 (by decide +kernel) (by decide +kernel)
def pX7_rests_L69 (v1 : Int32) (v2 : Int32) (v3 : Int32) : Nat → Int32 → Int32 → Int32 → pb_M → Option (Int32 × pb_M)
  | 0, _, _, _, _ => none
  | n + 1, v4, v5, v6, μ =>
    if (24 : Int32) ≤ v6 then
      if v3 = (0 : Int32) then
        some (v4, μ)
      else
      some (v5, μ)
    else
    pb_b (pX7_isRest v1 v2 v6 μ) (fun b81 μ81 =>
    if b81 = (0 : Int32) then
      pX7_rests_L69 v1 v2 v3 n v4 v5 (v6 + (1 : Int32)) μ81
    else
    if v4 = (0 : Int32) then
      pX7_rests_L69 v1 v2 v3 n (v4 + (1 : Int32)) (((10 : Int32) * (v6 / (6 : Int32))) + (pb_rem v6 (6 : Int32))) (v6 + (1 : Int32)) μ81
    else
    pX7_rests_L69 v1 v2 v3 n (v4 + (1 : Int32)) v5 (v6 + (1 : Int32)) μ81)
def pX7_rests (v1 : Int32) (v2 : Int32) (v3 : Int32) (μ : pb_M) : Option (Int32 × pb_M) :=
  pb_b (pX7_isPerson v1 μ) (fun b2 μ2 =>
  if b2 = (0 : Int32) then
    some ((-1 : Int32), μ2)
  else
  pb_b (pX7_isPerson v2 μ2) (fun b10 μ10 =>
  if b10 = (0 : Int32) then
    some ((-1 : Int32), μ10)
  else
  if v1 = v2 then
    some ((-2 : Int32), μ10)
  else
  pb_b (pX7_in (v3).toInt64 (0 : Int64) (1 : Int64) μ10) (fun b27 μ27 =>
  if b27 = (0 : Int32) then
    some ((-2 : Int32), μ27)
  else
  pb_b (pX7_debt (0 : Int32) v1 v2 μ27) (fun b43 μ43 =>
  if pb_in b43 90 then
    if (μ43.1 21 (b43).toNatClampNeg) = (0 : Int32) then
      some ((-9 : Int32), μ43)
    else
    pb_b (pX7_layGains v1 v2 μ43) (fun b56 μ56 =>
    pX7_rests_L69 v1 v2 v3 pb_F (0 : Int32) (-9 : Int32) (0 : Int32) μ56)
  else none))))
abbrev wX7_rests (l : Launch) (E : pb_E) := pb_RW l E { frames := 4, cells := 0, slots := 0, locals := 98 } RX7 cX7_rests 7 (some .int) (fun _ => True) 0 0 (pb_Qf E (fun z : Int32 => some (.int z)))
set_option maxRecDepth 100000 in
set_option maxHeartbeats 4000000 in
theorem tX7_rests_L69 (l : Launch) (E : pb_E) (v1 : Int32) (v2 : Int32) (v3 : Int32)   : ∀ (n : Nat) (v4 : Int32) (v5 : Int32) (v6 : Int32) (μ : pb_M), wX7_rests l E 69 [some (.ref (E.2.1 19)), some (.int v1), some (.int v2), some (.int v3), some (.int v4), some (.int v5), some (.int v6)] [] μ (pX7_rests_L69 v1 v2 v3 n v4 v5 v6 μ) := by
  intro n
  induction n with
  | zero => intro v4 v5 v6 μ; exact pb_none
  | succ n ih =>
    intro v4 v5 v6 μ
    rw [pX7_rests_L69]
    refine pb_iload 71 dX7_rests_69 rfl rfl ?_
    refine pb_bipush 73 (v := 24) dX7_rests_71 rfl (by decide) ?_
    refine pb_icmp_ge 76 (tgt := 122) dX7_rests_73 (by decide) rfl (fun _ => ?_) (fun _ => ?_)
    · refine pb_iload_n 123 dX7_rests_122 rfl rfl rfl ?_
      refine pb_if_ne 126 (tgt := 131) dX7_rests_123 (by decide) rfl (fun _ => ?_) (fun _ => ?_)
      · refine pb_iload 128 dX7_rests_126 rfl rfl ?_
        refine pb_goto (tgt := 133) dX7_rests_128 (by decide) ?_
        exact pb_iret dX7_rests_133
      · refine pb_iload 133 dX7_rests_131 rfl rfl ?_
        exact pb_iret dX7_rests_133
    · refine pb_aload_n 77 dX7_rests_76 rfl rfl rfl ?_
      refine pb_iload_n 78 dX7_rests_77 rfl rfl rfl ?_
      refine pb_iload_n 79 dX7_rests_78 rfl rfl rfl ?_
      refine pb_iload 81 dX7_rests_79 rfl rfl ?_
      refine cl_X7_isRest 84 ⟨by decide, by decide, by decide, by decide⟩ (Nat.le_of_ble_eq_true rfl) ml_X7_217 dX7_rests_81 rfl (fun b81 μ81 => ?_)
      refine pb_if_eq 87 (tgt := 116) dX7_rests_84 (by decide) rfl (fun _ => ?_) (fun _ => ?_)
      · refine pb_iinc 119 (i := 6) (v := (v6 + (1 : Int32))) (L' := [some (.ref (E.2.1 19)), some (.int v1), some (.int v2), some (.int v3), some (.int v4), some (.int v5), some (.int (v6 + (1 : Int32)))]) dX7_rests_116 rfl rfl (by decide) rfl rfl rfl ?_
        refine pb_goto (tgt := 69) dX7_rests_119 (by decide) ?_
        exact ih v4 v5 (v6 + (1 : Int32)) μ81
      · refine pb_iload 89 dX7_rests_87 rfl rfl ?_
        refine pb_if_ne 92 (tgt := 109) dX7_rests_89 (by decide) rfl (fun _ => ?_) (fun _ => ?_)
        · refine pb_bipush 94 (v := 10) dX7_rests_92 rfl (by decide) ?_
          refine pb_iload 96 dX7_rests_94 rfl rfl ?_
          refine pb_bipush 98 (v := 6) dX7_rests_96 rfl (by decide) ?_
          refine pb_idiv 99 dX7_rests_98 rfl (by decide) ?_
          refine pb_imul 100 dX7_rests_99 rfl ?_
          refine pb_iload 102 dX7_rests_100 rfl rfl ?_
          refine pb_bipush 104 (v := 6) dX7_rests_102 rfl (by decide) ?_
          refine pb_irem 105 dX7_rests_104 rfl (by decide) ?_
          refine pb_iadd 106 dX7_rests_105 rfl ?_
          refine pb_goto (tgt := 111) dX7_rests_106 (by decide) ?_
          refine pb_istore 113 (i := 5) (L' := [some (.ref (E.2.1 19)), some (.int v1), some (.int v2), some (.int v3), some (.int v4), some (.int (((10 : Int32) * (v6 / (6 : Int32))) + (pb_rem v6 (6 : Int32)))), some (.int v6)]) dX7_rests_111 (by decide) rfl rfl rfl ?_
          refine pb_iinc 116 (i := 4) (v := (v4 + (1 : Int32))) (L' := [some (.ref (E.2.1 19)), some (.int v1), some (.int v2), some (.int v3), some (.int (v4 + (1 : Int32))), some (.int (((10 : Int32) * (v6 / (6 : Int32))) + (pb_rem v6 (6 : Int32)))), some (.int v6)]) dX7_rests_113 rfl rfl (by decide) rfl rfl rfl ?_
          refine pb_iinc 119 (i := 6) (v := (v6 + (1 : Int32))) (L' := [some (.ref (E.2.1 19)), some (.int v1), some (.int v2), some (.int v3), some (.int (v4 + (1 : Int32))), some (.int (((10 : Int32) * (v6 / (6 : Int32))) + (pb_rem v6 (6 : Int32)))), some (.int (v6 + (1 : Int32)))]) dX7_rests_116 rfl rfl (by decide) rfl rfl rfl ?_
          refine pb_goto (tgt := 69) dX7_rests_119 (by decide) ?_
          exact ih (v4 + (1 : Int32)) (((10 : Int32) * (v6 / (6 : Int32))) + (pb_rem v6 (6 : Int32))) (v6 + (1 : Int32)) μ81
        · refine pb_iload 111 dX7_rests_109 rfl rfl ?_
          refine pb_istore 113 (i := 5) (L' := [some (.ref (E.2.1 19)), some (.int v1), some (.int v2), some (.int v3), some (.int v4), some (.int v5), some (.int v6)]) dX7_rests_111 (by decide) rfl rfl rfl ?_
          refine pb_iinc 116 (i := 4) (v := (v4 + (1 : Int32))) (L' := [some (.ref (E.2.1 19)), some (.int v1), some (.int v2), some (.int v3), some (.int (v4 + (1 : Int32))), some (.int v5), some (.int v6)]) dX7_rests_113 rfl rfl (by decide) rfl rfl rfl ?_
          refine pb_iinc 119 (i := 6) (v := (v6 + (1 : Int32))) (L' := [some (.ref (E.2.1 19)), some (.int v1), some (.int v2), some (.int v3), some (.int (v4 + (1 : Int32))), some (.int v5), some (.int (v6 + (1 : Int32)))]) dX7_rests_116 rfl rfl (by decide) rfl rfl rfl ?_
          refine pb_goto (tgt := 69) dX7_rests_119 (by decide) ?_
          exact ih (v4 + (1 : Int32)) v5 (v6 + (1 : Int32)) μ81
set_option maxRecDepth 100000 in
set_option maxHeartbeats 4000000 in
theorem evX7_rests (l : Launch) (E : pb_E) (v1 : Int32) (v2 : Int32) (v3 : Int32)  (μ : pb_M) : ∀ b μ', pX7_rests v1 v2 v3 μ = some (b, μ') → pb_Ev l E yX7_rests cX7_rests 7 (some .int) { frames := 4, cells := 0, slots := 0, locals := 98 } [.ref (E.2.1 19), .int v1, .int v2, .int v3] μ ((fun z : Int32 => some (.int z)) b) μ' := by
  refine pb_enter (L := [some (.ref (E.2.1 19)), some (.int v1), some (.int v2), some (.int v3), none, none, none]) (by decide +kernel) (Nat.le_of_ble_eq_true rfl) (pb_same [none, none, none, none, none, none, none] rfl) (show wX7_rests l E 0 [some (.ref (E.2.1 19)), some (.int v1), some (.int v2), some (.int v3), none, none, none] [] μ (pX7_rests v1 v2 v3 μ) from ?_)
  unfold pX7_rests
  refine pb_aload_n 1 dX7_rests_0 rfl rfl rfl ?_
  refine pb_iload_n 2 dX7_rests_1 rfl rfl rfl ?_
  refine cl_X7_isPerson 5 ⟨by decide, by decide, by decide, by decide⟩ (Nat.le_of_ble_eq_true rfl) ml_X7_100 dX7_rests_2 rfl (fun b2 μ2 => ?_)
  refine pb_if_eq 8 (tgt := 16) dX7_rests_5 (by decide) rfl (fun _ => ?_) (fun _ => ?_)
  · refine pb_iconst 17 (v := -1) dX7_rests_16 rfl (by decide) ?_
    exact pb_iret dX7_rests_17
  · refine pb_aload_n 9 dX7_rests_8 rfl rfl rfl ?_
    refine pb_iload_n 10 dX7_rests_9 rfl rfl rfl ?_
    refine cl_X7_isPerson 13 ⟨by decide, by decide, by decide, by decide⟩ (Nat.le_of_ble_eq_true rfl) ml_X7_100 dX7_rests_10 rfl (fun b10 μ10 => ?_)
    refine pb_if_ne 16 (tgt := 18) dX7_rests_13 (by decide) rfl (fun _ => ?_) (fun _ => ?_)
    · refine pb_iconst 17 (v := -1) dX7_rests_16 rfl (by decide) ?_
      exact pb_iret dX7_rests_17
    · refine pb_iload_n 19 dX7_rests_18 rfl rfl rfl ?_
      refine pb_iload_n 20 dX7_rests_19 rfl rfl rfl ?_
      refine pb_icmp_eq 23 (tgt := 33) dX7_rests_20 (by decide) rfl (fun _ => ?_) (fun _ => ?_)
      · refine pb_bipush 35 (v := -2) dX7_rests_33 rfl (by decide) ?_
        exact pb_iret dX7_rests_35
      · refine pb_iload_n 24 dX7_rests_23 rfl rfl rfl ?_
        refine pb_i2l 25 dX7_rests_24 rfl ?_
        refine pb_lconst 26 (v := 0) dX7_rests_25 rfl (by decide) ?_
        refine pb_lconst 27 (v := 1) dX7_rests_26 rfl (by decide) ?_
        refine cl_X7_in 30 ⟨by decide, by decide, by decide, by decide⟩ (Nat.le_of_ble_eq_true rfl) ml_X7_47 dX7_rests_27 rfl (fun b27 μ27 => ?_)
        refine pb_if_ne 33 (tgt := 36) dX7_rests_30 (by decide) rfl (fun _ => ?_) (fun _ => ?_)
        · refine pb_bipush 35 (v := -2) dX7_rests_33 rfl (by decide) ?_
          exact pb_iret dX7_rests_35
        · refine pb_aload_n 37 dX7_rests_36 rfl rfl rfl ?_
          refine pb_getR 40 (j := 3) (d := 21) in_X7 rfl (by decide) rfl rfl (by decide) fl_X7_13 dX7_rests_37 rfl ?_
          refine pb_iconst 41 (v := 0) dX7_rests_40 rfl (by decide) ?_
          refine pb_iload_n 42 dX7_rests_41 rfl rfl rfl ?_
          refine pb_iload_n 43 dX7_rests_42 rfl rfl rfl ?_
          refine cl_X7_debt 46 ⟨by decide, by decide, by decide, by decide⟩ (Nat.le_of_ble_eq_true rfl) ml_X7_104 dX7_rests_43 rfl (fun b43 μ43 => ?_)
          refine pb_guard (fun hin => pb_iald 47 rfl hin rfl dX7_rests_46 rfl ?_)
          refine pb_if_ne 50 (tgt := 53) dX7_rests_47 (by decide) rfl (fun _ => ?_) (fun _ => ?_)
          · refine pb_bipush 52 (v := -9) dX7_rests_50 rfl (by decide) ?_
            exact pb_iret dX7_rests_52
          · refine pb_aload_n 54 dX7_rests_53 rfl rfl rfl ?_
            refine pb_iload_n 55 dX7_rests_54 rfl rfl rfl ?_
            refine pb_iload_n 56 dX7_rests_55 rfl rfl rfl ?_
            refine cl_X7_layGains 59 ⟨by decide, by decide, by decide, by decide⟩ (Nat.le_of_ble_eq_true rfl) ml_X7_214 dX7_rests_56 rfl (fun b56 μ56 => ?_)
            refine pb_iconst 60 (v := 0) dX7_rests_59 rfl (by decide) ?_
            refine pb_istore 62 (i := 4) (L' := [some (.ref (E.2.1 19)), some (.int v1), some (.int v2), some (.int v3), some (.int (0 : Int32)), none, none]) dX7_rests_60 (by decide) rfl rfl rfl ?_
            refine pb_bipush 64 (v := -9) dX7_rests_62 rfl (by decide) ?_
            refine pb_istore 66 (i := 5) (L' := [some (.ref (E.2.1 19)), some (.int v1), some (.int v2), some (.int v3), some (.int (0 : Int32)), some (.int (-9 : Int32)), none]) dX7_rests_64 (by decide) rfl rfl rfl ?_
            refine pb_iconst 67 (v := 0) dX7_rests_66 rfl (by decide) ?_
            refine pb_istore 69 (i := 6) (L' := [some (.ref (E.2.1 19)), some (.int v1), some (.int v2), some (.int v3), some (.int (0 : Int32)), some (.int (-9 : Int32)), some (.int (0 : Int32))]) dX7_rests_67 (by decide) rfl rfl rfl ?_
            exact tX7_rests_L69 l E v1 v2 v3 pb_F (0 : Int32) (-9 : Int32) (0 : Int32) μ56
theorem mc_X7_rests : pb_MC yX7_rests cX7_rests 7 (some .int) 3 := ⟨pb_inW 1093 (by decide +kernel) (by decide +kernel), pb_inW 68 (by decide +kernel) (by decide +kernel), by decide +kernel, by decide +kernel, by decide +kernel⟩
theorem mi_X7_rests : Cond.instanceMethod yX7_rests ∈ pb_gw := pb_inW 1091 (by decide +kernel) (by decide +kernel)
theorem ms_X7_rests : Cond.selects (yX7_rests).cls yX7_rests yX7_rests ∈ pb_gw := pb_inW 1092 (by decide +kernel) (by decide +kernel)
theorem cl_X7_rests {α : Type} {l : Launch} {E : pb_E} {R : Room} {own : String} {cc : ByteArray} {mL : Nat} {ret : Option FieldType} {Xs : State → Prop} {nc ns : Nat} {Qf : State → Array Value → List Frame → α → pb_M → State → Prop} {pc : Nat} {L : List (Option Value)} {S : List Value} {μ : pb_M} {f : Int32 → pb_M → Option (α × pb_M)} {v1 : Int32} {v2 : Int32} {v3 : Int32} {index : Nat} (q : Nat)  (hR : 4 + 1 ≤ R.frames ∧ 8 + (7 + 11) + 98 ≤ R.locals ∧ nc ≤ R.cells ∧ ns ≤ R.slots) (hW : (S.map fun v => v.category).sum ≤ 8) (hl1 : Cond.methodLink own index yX7_rests ∈ pb_gw) (hdg : decode cc pc = .ok (.invokevirtual index, 3)) (hq : pc + 3 = q) (k : ∀ b1 μ1, pb_RW l E R own cc mL ret Xs nc ns Qf q L (.int b1 :: S) μ1 (f b1 μ1)) : pb_RW l E R own cc mL ret Xs nc ns Qf pc L (.int v3 :: .int v2 :: .int v1 :: .ref (E.2.1 19) :: S) μ (pb_b (pX7_rests v1 v2 v3 μ) f) := pb_callV q (fun z : Int32 => some (.int z)) mc_X7_rests mi_X7_rests ms_X7_rests (fun b1 μ1 h => evX7_rests l E v1 v2 v3  μ b1 μ1 h) rfl (by decide) rfl rfl rfl rfl hR rfl hW hl1 hdg hq k
theorem kc_X7_220 : Cond.constantLong RX7 220 (5 : Int64) ∈ pb_gw := pb_inW 1110 (by decide +kernel) (by decide +kernel)
def pX7_chance_L45 (v1 : Int32) (v2 : Int32) (v3 : Int32) (v4 : Int32) (K114 : Int32 → Int32 → pb_M → Option (Int32 × pb_M)) : Nat → Int32 → Int32 → Int32 → pb_M → Option (Int32 × pb_M)
  | 0, _, _, _, _ => none
  | n + 1, v5, v6, v7, μ =>
    if ((1 : Int32) <<< (v4 &&& 31)) ≤ v7 then
      K114 v5 v6 μ
    else
    pb_b (pX7_ones v7 μ) (fun b57 μ57 =>
    pb_b (pX7_power v2 b57 μ57) (fun b60 μ60 =>
    pb_b (pX7_ones v7 μ60) (fun b71 μ71 =>
    pb_b (pX7_power ((10 : Int32) - v2) (v4 - b71) μ71) (fun b75 μ75 =>
    pb_b (pX7_ones v7 μ75) (fun b92 μ92 =>
    if b92 = v1 then
      pX7_chance_L45 v1 v2 v3 v4 K114 n (v5 + (b60 * b75)) (v6 + (b60 * b75)) (v7 + (1 : Int32)) μ92
    else
    pX7_chance_L45 v1 v2 v3 v4 K114 n (v5 + (0 : Int32)) (v6 + (b60 * b75)) (v7 + (1 : Int32)) μ92)))))
def pX7_chance (v1 : Int32) (v2 : Int32) (v3 : Int32) (μ : pb_M) : Option (Int32 × pb_M) :=
  pb_b (pX7_in (v1).toInt64 (0 : Int64) (5 : Int64) μ) (fun b6 μ6 =>
  if b6 = (0 : Int32) then
    some ((-2 : Int32), μ6)
  else
  pb_b (pX7_in (v2).toInt64 (0 : Int64) (10 : Int64) μ6) (fun b18 μ18 =>
  if b18 = (0 : Int32) then
    some ((-2 : Int32), μ18)
  else
  pb_b (pX7_shutNow μ18) (fun b28 μ28 =>
  pb_b (pX7_ones b28 μ28) (fun b31 μ31 =>
  pX7_chance_L45 v1 v2 v3 b31 (fun x5k114 x6k114 μk114 =>
    pb_b (pX7_common x5k114 x6k114 μk114) (fun b118 μ118 =>
    if v3 = (0 : Int32) then
      if b118 = 0 then none else
      some ((x6k114 / b118), μ118)
    else
    if b118 = 0 then none else
    some ((x5k114 / b118), μ118))) pb_F (0 : Int32) (0 : Int32) (0 : Int32) μ31))))
abbrev wX7_chance (l : Launch) (E : pb_E) := pb_RW l E { frames := 2, cells := 0, slots := 0, locals := 44 } RX7 cX7_chance 9 (some .int) (fun _ => True) 0 0 (pb_Qf E (fun z : Int32 => some (.int z)))
set_option maxRecDepth 100000 in
set_option maxHeartbeats 4000000 in
theorem tX7_chance_L45 (l : Launch) (E : pb_E) (v1 : Int32) (v2 : Int32) (v3 : Int32) (v4 : Int32) {K114 : Int32 → Int32 → pb_M → Option (Int32 × pb_M)} (hK114 : ∀ (w5 : Int32) (w6 : Int32) (μ : pb_M), wX7_chance l E 114 [some (.ref (E.2.1 19)), none, none, some (.int v3), none, some (.int w5), some (.int w6), none, none] [] μ (K114 w5 w6 μ)) : ∀ (n : Nat) (v5 : Int32) (v6 : Int32) (v7 : Int32) (μ : pb_M), wX7_chance l E 45 [some (.ref (E.2.1 19)), some (.int v1), some (.int v2), some (.int v3), some (.int v4), some (.int v5), some (.int v6), some (.int v7), none] [] μ (pX7_chance_L45 v1 v2 v3 v4 K114 n v5 v6 v7 μ) := by
  intro n
  induction n with
  | zero => intro v5 v6 v7 μ; exact pb_none
  | succ n ih =>
    intro v5 v6 v7 μ
    rw [pX7_chance_L45]
    refine pb_iload 47 dX7_chance_45 rfl rfl ?_
    refine pb_iconst 48 (v := 1) dX7_chance_47 rfl (by decide) ?_
    refine pb_iload 50 dX7_chance_48 rfl rfl ?_
    refine pb_ishl 51 dX7_chance_50 rfl ?_
    refine pb_icmp_ge 54 (tgt := 114) dX7_chance_51 (by decide) rfl (fun _ => ?_) (fun _ => ?_)
    · refine pb_weakM (L' := [some (.ref (E.2.1 19)), none, none, some (.int v3), none, some (.int v5), some (.int v6), none, none]) [true, false, false, true, false, true, true, false, false] rfl ?_
      exact hK114 v5 v6 μ
    · refine pb_iload_n 55 dX7_chance_54 rfl rfl rfl ?_
      refine pb_iload 57 dX7_chance_55 rfl rfl ?_
      refine cl_X7_ones 60 ⟨by decide, by decide, by decide, by decide⟩ (Nat.le_of_ble_eq_true rfl) ml_X7_141 dX7_chance_57 rfl (fun b57 μ57 => ?_)
      refine cl_X7_power 63 ⟨by decide, by decide, by decide, by decide⟩ (Nat.le_of_ble_eq_true rfl) ml_X7_159 dX7_chance_60 rfl (fun b60 μ60 => ?_)
      refine pb_bipush 65 (v := 10) dX7_chance_63 rfl (by decide) ?_
      refine pb_iload_n 66 dX7_chance_65 rfl rfl rfl ?_
      refine pb_isub 67 dX7_chance_66 rfl ?_
      refine pb_iload 69 dX7_chance_67 rfl rfl ?_
      refine pb_iload 71 dX7_chance_69 rfl rfl ?_
      refine cl_X7_ones 74 ⟨by decide, by decide, by decide, by decide⟩ (Nat.le_of_ble_eq_true rfl) ml_X7_141 dX7_chance_71 rfl (fun b71 μ71 => ?_)
      refine pb_isub 75 dX7_chance_74 rfl ?_
      refine cl_X7_power 78 ⟨by decide, by decide, by decide, by decide⟩ (Nat.le_of_ble_eq_true rfl) ml_X7_159 dX7_chance_75 rfl (fun b75 μ75 => ?_)
      refine pb_imul 79 dX7_chance_78 rfl ?_
      refine pb_istore 81 (i := 8) (L' := [some (.ref (E.2.1 19)), some (.int v1), some (.int v2), some (.int v3), some (.int v4), some (.int v5), some (.int v6), some (.int v7), some (.int (b60 * b75))]) dX7_chance_79 (by decide) rfl rfl rfl ?_
      refine pb_iload 83 dX7_chance_81 rfl rfl ?_
      refine pb_iload 85 dX7_chance_83 rfl rfl ?_
      refine pb_iadd 86 dX7_chance_85 rfl ?_
      refine pb_istore 88 (i := 6) (L' := [some (.ref (E.2.1 19)), some (.int v1), some (.int v2), some (.int v3), some (.int v4), some (.int v5), some (.int (v6 + (b60 * b75))), some (.int v7), some (.int (b60 * b75))]) dX7_chance_86 (by decide) rfl rfl rfl ?_
      refine pb_iload 90 dX7_chance_88 rfl rfl ?_
      refine pb_iload 92 dX7_chance_90 rfl rfl ?_
      refine cl_X7_ones 95 ⟨by decide, by decide, by decide, by decide⟩ (Nat.le_of_ble_eq_true rfl) ml_X7_141 dX7_chance_92 rfl (fun b92 μ92 => ?_)
      refine pb_iload_n 96 dX7_chance_95 rfl rfl rfl ?_
      refine pb_icmp_ne 99 (tgt := 104) dX7_chance_96 (by decide) rfl (fun _ => ?_) (fun _ => ?_)
      · refine pb_iload 101 dX7_chance_99 rfl rfl ?_
        refine pb_goto (tgt := 105) dX7_chance_101 (by decide) ?_
        refine pb_iadd 106 dX7_chance_105 rfl ?_
        refine pb_istore 108 (i := 5) (L' := [some (.ref (E.2.1 19)), some (.int v1), some (.int v2), some (.int v3), some (.int v4), some (.int (v5 + (b60 * b75))), some (.int (v6 + (b60 * b75))), some (.int v7), some (.int (b60 * b75))]) dX7_chance_106 (by decide) rfl rfl rfl ?_
        refine pb_iinc 111 (i := 7) (v := (v7 + (1 : Int32))) (L' := [some (.ref (E.2.1 19)), some (.int v1), some (.int v2), some (.int v3), some (.int v4), some (.int (v5 + (b60 * b75))), some (.int (v6 + (b60 * b75))), some (.int (v7 + (1 : Int32))), some (.int (b60 * b75))]) dX7_chance_108 rfl rfl (by decide) rfl rfl rfl ?_
        refine pb_goto (tgt := 45) dX7_chance_111 (by decide) ?_
        refine pb_weakM (L' := [some (.ref (E.2.1 19)), some (.int v1), some (.int v2), some (.int v3), some (.int v4), some (.int (v5 + (b60 * b75))), some (.int (v6 + (b60 * b75))), some (.int (v7 + (1 : Int32))), none]) [true, true, true, true, true, true, true, true, false] rfl ?_
        exact ih (v5 + (b60 * b75)) (v6 + (b60 * b75)) (v7 + (1 : Int32)) μ92
      · refine pb_iconst 105 (v := 0) dX7_chance_104 rfl (by decide) ?_
        refine pb_iadd 106 dX7_chance_105 rfl ?_
        refine pb_istore 108 (i := 5) (L' := [some (.ref (E.2.1 19)), some (.int v1), some (.int v2), some (.int v3), some (.int v4), some (.int (v5 + (0 : Int32))), some (.int (v6 + (b60 * b75))), some (.int v7), some (.int (b60 * b75))]) dX7_chance_106 (by decide) rfl rfl rfl ?_
        refine pb_iinc 111 (i := 7) (v := (v7 + (1 : Int32))) (L' := [some (.ref (E.2.1 19)), some (.int v1), some (.int v2), some (.int v3), some (.int v4), some (.int (v5 + (0 : Int32))), some (.int (v6 + (b60 * b75))), some (.int (v7 + (1 : Int32))), some (.int (b60 * b75))]) dX7_chance_108 rfl rfl (by decide) rfl rfl rfl ?_
        refine pb_goto (tgt := 45) dX7_chance_111 (by decide) ?_
        refine pb_weakM (L' := [some (.ref (E.2.1 19)), some (.int v1), some (.int v2), some (.int v3), some (.int v4), some (.int (v5 + (0 : Int32))), some (.int (v6 + (b60 * b75))), some (.int (v7 + (1 : Int32))), none]) [true, true, true, true, true, true, true, true, false] rfl ?_
        exact ih (v5 + (0 : Int32)) (v6 + (b60 * b75)) (v7 + (1 : Int32)) μ92
set_option maxRecDepth 100000 in
set_option maxHeartbeats 4000000 in
theorem evX7_chance (l : Launch) (E : pb_E) (v1 : Int32) (v2 : Int32) (v3 : Int32)  (μ : pb_M) : ∀ b μ', pX7_chance v1 v2 v3 μ = some (b, μ') → pb_Ev l E yX7_chance cX7_chance 9 (some .int) { frames := 2, cells := 0, slots := 0, locals := 44 } [.ref (E.2.1 19), .int v1, .int v2, .int v3] μ ((fun z : Int32 => some (.int z)) b) μ' := by
  refine pb_enter (L := [some (.ref (E.2.1 19)), some (.int v1), some (.int v2), some (.int v3), none, none, none, none, none]) (by decide +kernel) (Nat.le_of_ble_eq_true rfl) (pb_same [none, none, none, none, none, none, none, none, none] rfl) (show wX7_chance l E 0 [some (.ref (E.2.1 19)), some (.int v1), some (.int v2), some (.int v3), none, none, none, none, none] [] μ (pX7_chance v1 v2 v3 μ) from ?_)
  unfold pX7_chance
  refine pb_iload_n 1 dX7_chance_0 rfl rfl rfl ?_
  refine pb_i2l 2 dX7_chance_1 rfl ?_
  refine pb_lconst 3 (v := 0) dX7_chance_2 rfl (by decide) ?_
  refine pb_ldc2 6 kc_X7_220 dX7_chance_3 rfl ?_
  refine cl_X7_in 9 ⟨by decide, by decide, by decide, by decide⟩ (Nat.le_of_ble_eq_true rfl) ml_X7_47 dX7_chance_6 rfl (fun b6 μ6 => ?_)
  refine pb_if_eq 12 (tgt := 24) dX7_chance_9 (by decide) rfl (fun _ => ?_) (fun _ => ?_)
  · refine pb_bipush 26 (v := -2) dX7_chance_24 rfl (by decide) ?_
    exact pb_iret dX7_chance_26
  · refine pb_iload_n 13 dX7_chance_12 rfl rfl rfl ?_
    refine pb_i2l 14 dX7_chance_13 rfl ?_
    refine pb_lconst 15 (v := 0) dX7_chance_14 rfl (by decide) ?_
    refine pb_ldc2 18 kc_X7_189 dX7_chance_15 rfl ?_
    refine cl_X7_in 21 ⟨by decide, by decide, by decide, by decide⟩ (Nat.le_of_ble_eq_true rfl) ml_X7_47 dX7_chance_18 rfl (fun b18 μ18 => ?_)
    refine pb_if_ne 24 (tgt := 27) dX7_chance_21 (by decide) rfl (fun _ => ?_) (fun _ => ?_)
    · refine pb_bipush 26 (v := -2) dX7_chance_24 rfl (by decide) ?_
      exact pb_iret dX7_chance_26
    · refine pb_aload_n 28 dX7_chance_27 rfl rfl rfl ?_
      refine cl_X7_shutNow 31 ⟨by decide, by decide, by decide, by decide⟩ (Nat.le_of_ble_eq_true rfl) ml_X7_138 dX7_chance_28 rfl (fun b28 μ28 => ?_)
      refine cl_X7_ones 34 ⟨by decide, by decide, by decide, by decide⟩ (Nat.le_of_ble_eq_true rfl) ml_X7_141 dX7_chance_31 rfl (fun b31 μ31 => ?_)
      refine pb_istore 36 (i := 4) (L' := [some (.ref (E.2.1 19)), some (.int v1), some (.int v2), some (.int v3), some (.int b31), none, none, none, none]) dX7_chance_34 (by decide) rfl rfl rfl ?_
      refine pb_iconst 37 (v := 0) dX7_chance_36 rfl (by decide) ?_
      refine pb_istore 39 (i := 5) (L' := [some (.ref (E.2.1 19)), some (.int v1), some (.int v2), some (.int v3), some (.int b31), some (.int (0 : Int32)), none, none, none]) dX7_chance_37 (by decide) rfl rfl rfl ?_
      refine pb_iconst 40 (v := 0) dX7_chance_39 rfl (by decide) ?_
      refine pb_istore 42 (i := 6) (L' := [some (.ref (E.2.1 19)), some (.int v1), some (.int v2), some (.int v3), some (.int b31), some (.int (0 : Int32)), some (.int (0 : Int32)), none, none]) dX7_chance_40 (by decide) rfl rfl rfl ?_
      refine pb_iconst 43 (v := 0) dX7_chance_42 rfl (by decide) ?_
      refine pb_istore 45 (i := 7) (L' := [some (.ref (E.2.1 19)), some (.int v1), some (.int v2), some (.int v3), some (.int b31), some (.int (0 : Int32)), some (.int (0 : Int32)), some (.int (0 : Int32)), none]) dX7_chance_43 (by decide) rfl rfl rfl ?_
      refine tX7_chance_L45 l E v1 v2 v3 b31 (fun x5k114 x6k114 μk114 => ?_) pb_F (0 : Int32) (0 : Int32) (0 : Int32) μ31
      refine pb_iload 116 dX7_chance_114 rfl rfl ?_
      refine pb_iload 118 dX7_chance_116 rfl rfl ?_
      refine cl_X7_common 121 ⟨by decide, by decide, by decide, by decide⟩ (Nat.le_of_ble_eq_true rfl) ml_X7_177 dX7_chance_118 rfl (fun b118 μ118 => ?_)
      refine pb_istore 123 (i := 7) (L' := [some (.ref (E.2.1 19)), none, none, some (.int v3), none, some (.int x5k114), some (.int x6k114), some (.int b118), none]) dX7_chance_121 (by decide) rfl rfl rfl ?_
      refine pb_iload_n 124 dX7_chance_123 rfl rfl rfl ?_
      refine pb_if_eq 127 (tgt := 135) dX7_chance_124 (by decide) rfl (fun _ => ?_) (fun _ => ?_)
      · refine pb_iload 137 dX7_chance_135 rfl rfl ?_
        refine pb_iload 139 dX7_chance_137 rfl rfl ?_
        refine pb_guardN (fun hne => pb_idiv 140 dX7_chance_139 rfl hne ?_)
        exact pb_iret dX7_chance_140
      · refine pb_iload 129 dX7_chance_127 rfl rfl ?_
        refine pb_iload 131 dX7_chance_129 rfl rfl ?_
        refine pb_guardN (fun hne => pb_idiv 132 dX7_chance_131 rfl hne ?_)
        refine pb_goto (tgt := 140) dX7_chance_132 (by decide) ?_
        exact pb_iret dX7_chance_140
theorem mc_X7_chance : pb_MC yX7_chance cX7_chance 9 (some .int) 3 := ⟨pb_inW 1109 (by decide +kernel) (by decide +kernel), pb_inW 68 (by decide +kernel) (by decide +kernel), by decide +kernel, by decide +kernel, by decide +kernel⟩
theorem mi_X7_chance : Cond.instanceMethod yX7_chance ∈ pb_gw := pb_inW 1107 (by decide +kernel) (by decide +kernel)
theorem ms_X7_chance : Cond.selects (yX7_chance).cls yX7_chance yX7_chance ∈ pb_gw := pb_inW 1108 (by decide +kernel) (by decide +kernel)
theorem cl_X7_chance {α : Type} {l : Launch} {E : pb_E} {R : Room} {own : String} {cc : ByteArray} {mL : Nat} {ret : Option FieldType} {Xs : State → Prop} {nc ns : Nat} {Qf : State → Array Value → List Frame → α → pb_M → State → Prop} {pc : Nat} {L : List (Option Value)} {S : List Value} {μ : pb_M} {f : Int32 → pb_M → Option (α × pb_M)} {v1 : Int32} {v2 : Int32} {v3 : Int32} {index : Nat} (q : Nat)  (hR : 2 + 1 ≤ R.frames ∧ 8 + (9 + 11) + 44 ≤ R.locals ∧ nc ≤ R.cells ∧ ns ≤ R.slots) (hW : (S.map fun v => v.category).sum ≤ 8) (hl1 : Cond.methodLink own index yX7_chance ∈ pb_gw) (hdg : decode cc pc = .ok (.invokevirtual index, 3)) (hq : pc + 3 = q) (k : ∀ b1 μ1, pb_RW l E R own cc mL ret Xs nc ns Qf q L (.int b1 :: S) μ1 (f b1 μ1)) : pb_RW l E R own cc mL ret Xs nc ns Qf pc L (.int v3 :: .int v2 :: .int v1 :: .ref (E.2.1 19) :: S) μ (pb_b (pX7_chance v1 v2 v3 μ) f) := pb_callV q (fun z : Int32 => some (.int z)) mc_X7_chance mi_X7_chance ms_X7_chance (fun b1 μ1 h => evX7_chance l E v1 v2 v3  μ b1 μ1 h) rfl (by decide) rfl rfl rfl rfl hR rfl hW hl1 hdg hq k
