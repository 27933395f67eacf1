theorem ml_X4_58 : Cond.methodLink RX4 58 yX4_beastFigureFits ∈ pb_gw := pb_inW 279 (by decide +kernel) (by decide +kernel)
theorem ml_X4_61 : Cond.methodLink RX4 61 yX4_debtFigureFits ∈ pb_gw := pb_inW 287 (by decide +kernel) (by decide +kernel)
def pX4_figureFits (h1 : Nat) (v2 : Int32) (v3 : Int32) (μ : pb_M) : Option (Int32 × pb_M) :=
  if pb_in v3 3 then
    if (μ.1 3 (v3).toNatClampNeg) < (0 : Int32) then
      some ((0 : Int32), μ)
    else
    if (μ.1 3 (v3).toNatClampNeg) ≤ (9 : Int32) then
      if v2 = (66 : Int32) then
        pb_b (pX4_beastFigureFits h1 v3 (μ.1 3 (v3).toNatClampNeg) μ) (fun b52 μ52 =>
        if b52 = 0 ∨ b52 = 1 then some (b52, μ52) else none)
      else
      if v2 = (68 : Int32) then
        pb_b (pX4_debtFigureFits h1 v3 (μ.1 3 (v3).toNatClampNeg) μ) (fun b61 μ61 =>
        if b61 = 0 ∨ b61 = 1 then some (b61, μ61) else none)
      else
      some ((1 : Int32), μ)
    else
    some ((0 : Int32), μ)
  else none
abbrev wX4_figureFits (l : Launch) (E : pb_E) := pb_RW l E { frames := 3, cells := 0, slots := 0, locals := 67 } RX4 cX4_figureFits 5 (some .boolean) (fun _ => True) 0 0 (pb_Qf E (fun z : Int32 => some (.int z)))
set_option maxRecDepth 100000 in
set_option maxHeartbeats 4000000 in
theorem evX4_figureFits (l : Launch) (E : pb_E) (h1 : Nat) (v2 : Int32) (v3 : Int32) (hv1 : pb_V h1) (μ : pb_M) : ∀ b μ', pX4_figureFits h1 v2 v3 μ = some (b, μ') → pb_Ev l E yX4_figureFits cX4_figureFits 5 (some .boolean) { frames := 3, cells := 0, slots := 0, locals := 67 } [.ref (E.2.1 1), .ref (E.2.1 h1), .int v2, .int v3] μ ((fun z : Int32 => some (.int z)) b) μ' := by
  refine pb_enter (L := [some (.ref (E.2.1 1)), some (.ref (E.2.1 h1)), some (.int v2), some (.int v3), none]) (by decide +kernel) (Nat.le_of_ble_eq_true rfl) (pb_same [none, none, none, none, none] rfl) (show wX4_figureFits l E 0 [some (.ref (E.2.1 1)), some (.ref (E.2.1 h1)), some (.int v2), some (.int v3), none] [] μ (pX4_figureFits h1 v2 v3 μ) from ?_)
  unfold pX4_figureFits
  refine pb_aload_n 1 dX4_figureFits_0 rfl rfl rfl ?_
  refine pb_getR 4 (j := 1) (d := 3) in_X4 rfl (by decide) rfl rfl (by decide) fl_X4_15 dX4_figureFits_1 rfl ?_
  refine pb_iload_n 5 dX4_figureFits_4 rfl rfl rfl ?_
  refine pb_guard (fun hin => pb_iald 6 rfl hin rfl dX4_figureFits_5 rfl ?_)
  refine pb_istore 8 (i := 4) (L' := [some (.ref (E.2.1 1)), some (.ref (E.2.1 h1)), some (.int v2), some (.int v3), some (.int (μ.1 3 (v3).toNatClampNeg))]) dX4_figureFits_6 (by decide) rfl rfl rfl ?_
  refine pb_iload 10 dX4_figureFits_8 rfl rfl ?_
  refine pb_if_lt 13 (tgt := 20) dX4_figureFits_10 (by decide) rfl (fun _ => ?_) (fun _ => ?_)
  · refine pb_iconst 21 (v := 0) dX4_figureFits_20 rfl (by decide) ?_
    exact pb_zret rfl dX4_figureFits_21
  · refine pb_iload 15 dX4_figureFits_13 rfl rfl ?_
    refine pb_bipush 17 (v := 9) dX4_figureFits_15 rfl (by decide) ?_
    refine pb_icmp_le 20 (tgt := 22) dX4_figureFits_17 (by decide) rfl (fun _ => ?_) (fun _ => ?_)
    · refine pb_iload_n 23 dX4_figureFits_22 rfl rfl rfl ?_
      refine pb_ite (fun c0 => ?_) (fun c0 => ?_)
      · refine pb_lookup (off := 25) (tgt := 48) dX4_figureFits_23 (by decide) (by rw [c0]; rfl) (by decide) ?_
        refine pb_aload_n 49 dX4_figureFits_48 rfl rfl rfl ?_
        refine pb_iload_n 50 dX4_figureFits_49 rfl rfl rfl ?_
        refine pb_iload 52 dX4_figureFits_50 rfl rfl ?_
        refine cl_X4_beastFigureFits 55 hv1 ⟨by decide, by decide, by decide, by decide⟩ (Nat.le_of_ble_eq_true rfl) ml_X4_58 dX4_figureFits_52 rfl (fun b52 μ52 => ?_)
        exact pb_zretG dX4_figureFits_55
      · refine pb_ite (fun c1 => ?_) (fun c1 => ?_)
        · refine pb_lookup (off := 33) (tgt := 56) dX4_figureFits_23 (by decide) (by rw [c1]; rfl) (by decide) ?_
          refine pb_aload_n 57 dX4_figureFits_56 rfl rfl rfl ?_
          refine pb_aload_n 58 dX4_figureFits_57 rfl rfl rfl ?_
          refine pb_iload_n 59 dX4_figureFits_58 rfl rfl rfl ?_
          refine pb_iload 61 dX4_figureFits_59 rfl rfl ?_
          refine cl_X4_debtFigureFits 64 hv1 ⟨by decide, by decide, by decide, by decide⟩ (Nat.le_of_ble_eq_true rfl) ml_X4_61 dX4_figureFits_61 rfl (fun b61 μ61 => ?_)
          exact pb_zretG dX4_figureFits_64
        · refine pb_lookup (off := 42) (tgt := 65) dX4_figureFits_23 (by decide) (by show Op.lookupswitch.offset [(66, 25), (68, 33)] 42 _ = _; rw [lv_osw c0 (by decide), lv_osw c1 (by decide)]; rfl) (by decide) ?_
          refine pb_iconst 66 (v := 1) dX4_figureFits_65 rfl (by decide) ?_
          exact pb_zret rfl dX4_figureFits_66
    · refine pb_iconst 21 (v := 0) dX4_figureFits_20 rfl (by decide) ?_
      exact pb_zret rfl dX4_figureFits_21
theorem mc_X4_figureFits : pb_MC yX4_figureFits cX4_figureFits 5 (some .boolean) 3 := ⟨pb_inW 278 (by decide +kernel) (by decide +kernel), pb_inW 62 (by decide +kernel) (by decide +kernel), by decide +kernel, by decide +kernel, by decide +kernel⟩
theorem mi_X4_figureFits : Cond.instanceMethod yX4_figureFits ∈ pb_gw := pb_inW 277 (by decide +kernel) (by decide +kernel)
theorem ms_X4_figureFits : Cond.selects (yX4_figureFits).cls yX4_figureFits yX4_figureFits ∈ pb_gw := pb_inW 1 (by decide +kernel) (by decide +kernel)
theorem cl_X4_figureFits {α : Type} {l : Launch} {E : pb_E} {R : Room} {own : String} {cc : ByteArray} {mL : Nat} {ret : Option FieldType} {Xs : State → Prop} {nc ns : Nat} {Qf : State → Array Value → List Frame → α → pb_M → State → Prop} {pc : Nat} {L : List (Option Value)} {S : List Value} {μ : pb_M} {f : Int32 → pb_M → Option (α × pb_M)} {h1 : Nat} {v2 : Int32} {v3 : Int32} {index : Nat} (q : Nat) (hv1 : pb_V h1) (hR : 3 + 1 ≤ R.frames ∧ 8 + (5 + 11) + 67 ≤ R.locals ∧ nc ≤ R.cells ∧ ns ≤ R.slots) (hW : (S.map fun v => v.category).sum ≤ 8) (hl1 : Cond.methodLink own index yX4_figureFits ∈ pb_gw) (hdg : decode cc pc = .ok (.invokevirtual index, 3)) (hq : pc + 3 = q) (k : ∀ b1 μ1, pb_RW l E R own cc mL ret Xs nc ns Qf q L (.int b1 :: S) μ1 (f b1 μ1)) : pb_RW l E R own cc mL ret Xs nc ns Qf pc L (.int v3 :: .int v2 :: .ref (E.2.1 h1) :: .ref (E.2.1 1) :: S) μ (pb_b (pX4_figureFits h1 v2 v3 μ) f) := pb_callV q (fun z : Int32 => some (.int z)) mc_X4_figureFits mi_X4_figureFits ms_X4_figureFits (fun b1 μ1 h => evX4_figureFits l E h1 v2 v3 hv1 μ b1 μ1 h) rfl (by decide) rfl rfl rfl rfl hR rfl hW hl1 hdg hq k
def pX5_addPerson (h0 : Nat) (v1 : Int32) (v2 : Int32) (μ : pb_M) : Option (Unit × pb_M) :=
  pb_b (pX5_people h0 μ) (fun b1 μ1 =>
  if b1 < (4 : Int32) then
    if pb_in ((3 : Int32) + b1) 52 then
      if pb_in ((7 : Int32) + b1) 52 then
        some ((), (pb_sA (pb_sA (pb_sA μ1 (h0 + 1) (upd (μ1.1 (h0 + 1)) (((3 : Int32) + b1)).toNatClampNeg v1)) (h0 + 1) (upd ((pb_sA μ1 (h0 + 1) (upd (μ1.1 (h0 + 1)) (((3 : Int32) + b1)).toNatClampNeg v1)).1 (h0 + 1)) (((7 : Int32) + b1)).toNatClampNeg v2)) (h0 + 1) (upd ((pb_sA (pb_sA μ1 (h0 + 1) (upd (μ1.1 (h0 + 1)) (((3 : Int32) + b1)).toNatClampNeg v1)) (h0 + 1) (upd ((pb_sA μ1 (h0 + 1) (upd (μ1.1 (h0 + 1)) (((3 : Int32) + b1)).toNatClampNeg v1)).1 (h0 + 1)) (((7 : Int32) + b1)).toNatClampNeg v2)).1 (h0 + 1)) 0 (b1 + (1 : Int32)))))
      else none
    else none
  else
  some ((), μ1))
abbrev wX5_addPerson (l : Launch) (E : pb_E) := pb_RW l E { frames := 1, cells := 0, slots := 0, locals := 20 } RX5 cX5_addPerson 4 none (fun _ => True) 0 0 (pb_Qf E (fun _ : Unit => none))
set_option maxRecDepth 100000 in
set_option maxHeartbeats 4000000 in
theorem evX5_addPerson (l : Launch) (E : pb_E) (h0 : Nat) (v1 : Int32) (v2 : Int32) (hv0 : pb_V h0) (μ : pb_M) : ∀ b μ', pX5_addPerson h0 v1 v2 μ = some (b, μ') → pb_Ev l E yX5_addPerson cX5_addPerson 4 none { frames := 1, cells := 0, slots := 0, locals := 20 } [.ref (E.2.1 h0), .int v1, .int v2] μ ((fun _ : Unit => none) b) μ' := by
  refine pb_enter (L := [some (.ref (E.2.1 h0)), some (.int v1), some (.int v2), none]) (by decide +kernel) (Nat.le_of_ble_eq_true rfl) (pb_same [none, none, none, none] rfl) (show wX5_addPerson l E 0 [some (.ref (E.2.1 h0)), some (.int v1), some (.int v2), none] [] μ (pX5_addPerson h0 v1 v2 μ) from ?_)
  unfold pX5_addPerson
  refine pb_aload_n 1 dX5_addPerson_0 rfl rfl rfl ?_
  refine cl_X5_people 4 hv0 ⟨by decide, by decide, by decide, by decide⟩ (Nat.le_of_ble_eq_true rfl) ml_X5_27 dX5_addPerson_1 rfl (fun b1 μ1 => ?_)
  refine pb_istore_n 5 (i := 3) (L' := [some (.ref (E.2.1 h0)), some (.int v1), some (.int v2), some (.int b1)]) dX5_addPerson_4 rfl (by decide) rfl rfl rfl ?_
  refine pb_iload_n 6 dX5_addPerson_5 rfl rfl rfl ?_
  refine pb_iconst 7 (v := 4) dX5_addPerson_6 rfl (by decide) ?_
  refine pb_icmp_lt 10 (tgt := 11) dX5_addPerson_7 (by decide) rfl (fun _ => ?_) (fun _ => ?_)
  · refine pb_aload_n 12 dX5_addPerson_11 rfl rfl rfl ?_
    refine pb_getR 15 (j := 0) (d := (h0 + 1)) in_X5 rfl (by decide) hv0.1 rfl (by decide) fl_X5_11 dX5_addPerson_12 rfl ?_
    refine pb_iconst 16 (v := 3) dX5_addPerson_15 rfl (by decide) ?_
    refine pb_iload_n 17 dX5_addPerson_16 rfl rfl rfl ?_
    refine pb_iadd 18 dX5_addPerson_17 rfl ?_
    refine pb_iload_n 19 dX5_addPerson_18 rfl rfl rfl ?_
    refine pb_guard (fun hin => pb_iast 20 hv0.2 hin rfl dX5_addPerson_19 rfl ?_)
    refine pb_aload_n 21 dX5_addPerson_20 rfl rfl rfl ?_
    refine pb_getR 24 (j := 0) (d := (h0 + 1)) in_X5 rfl (by decide) hv0.1 rfl (by decide) fl_X5_11 dX5_addPerson_21 rfl ?_
    refine pb_bipush 26 (v := 7) dX5_addPerson_24 rfl (by decide) ?_
    refine pb_iload_n 27 dX5_addPerson_26 rfl rfl rfl ?_
    refine pb_iadd 28 dX5_addPerson_27 rfl ?_
    refine pb_iload_n 29 dX5_addPerson_28 rfl rfl rfl ?_
    refine pb_guard (fun hin => pb_iast 30 hv0.2 hin rfl dX5_addPerson_29 rfl ?_)
    refine pb_aload_n 31 dX5_addPerson_30 rfl rfl rfl ?_
    refine pb_getR 34 (j := 0) (d := (h0 + 1)) in_X5 rfl (by decide) hv0.1 rfl (by decide) fl_X5_11 dX5_addPerson_31 rfl ?_
    refine pb_iconst 35 (v := 0) dX5_addPerson_34 rfl (by decide) ?_
    refine pb_iload_n 36 dX5_addPerson_35 rfl rfl rfl ?_
    refine pb_iconst 37 (v := 1) dX5_addPerson_36 rfl (by decide) ?_
    refine pb_iadd 38 dX5_addPerson_37 rfl ?_
    refine pb_iast 39 (j := 0) hv0.2 (by decide) (by decide) dX5_addPerson_38 rfl ?_
    exact pb_vret dX5_addPerson_39
  · exact pb_vret dX5_addPerson_10
theorem mc_X5_addPerson : pb_MC yX5_addPerson cX5_addPerson 4 none 2 := ⟨pb_inW 298 (by decide +kernel) (by decide +kernel), pb_inW 63 (by decide +kernel) (by decide +kernel), by decide +kernel, by decide +kernel, by decide +kernel⟩
theorem mi_X5_addPerson : Cond.instanceMethod yX5_addPerson ∈ pb_gw := pb_inW 296 (by decide +kernel) (by decide +kernel)
theorem ms_X5_addPerson : Cond.selects (yX5_addPerson).cls yX5_addPerson yX5_addPerson ∈ pb_gw := pb_inW 297 (by decide +kernel) (by decide +kernel)
theorem cl_X5_addPerson {α : Type} {l : Launch} {E : pb_E} {R : Room} {own : String} {cc : ByteArray} {mL : Nat} {ret : Option FieldType} {Xs : State → Prop} {nc ns : Nat} {Qf : State → Array Value → List Frame → α → pb_M → State → Prop} {pc : Nat} {L : List (Option Value)} {S : List Value} {μ : pb_M} {f : Unit → pb_M → Option (α × pb_M)} {h0 : Nat} {v1 : Int32} {v2 : Int32} {index : Nat} (q : Nat) (hv0 : pb_V h0) (hR : 1 + 1 ≤ R.frames ∧ 8 + (4 + 11) + 20 ≤ R.locals ∧ nc ≤ R.cells ∧ ns ≤ R.slots) (hW : (S.map fun v => v.category).sum ≤ 8) (hl1 : Cond.methodLink own index yX5_addPerson ∈ pb_gw) (hdg : decode cc pc = .ok (.invokevirtual index, 3)) (hq : pc + 3 = q) (k : ∀ b1 μ1, pb_RW l E R own cc mL ret Xs nc ns Qf q L S μ1 (f b1 μ1)) : pb_RW l E R own cc mL ret Xs nc ns Qf pc L (.int v2 :: .int v1 :: .ref (E.2.1 h0) :: S) μ (pb_b (pX5_addPerson h0 v1 v2 μ) f) := pb_callV q (fun _ : Unit => none) mc_X5_addPerson mi_X5_addPerson ms_X5_addPerson (fun b1 μ1 h => evX5_addPerson l E h0 v1 v2 hv0 μ b1 μ1 h) hv0.1 (by decide) rfl rfl rfl rfl hR rfl hW hl1 hdg hq k
def pX5_addBeast (h0 : Nat) (v1 : Int32) (v2 : Int32) (v3 : Int32) (μ : pb_M) : Option (Unit × pb_M) :=
  pb_b (pX5_beasts h0 μ) (fun b1 μ1 =>
  if b1 < (5 : Int32) then
    if pb_in ((27 : Int32) + b1) 52 then
      if pb_in ((32 : Int32) + b1) 52 then
        if pb_in ((37 : Int32) + b1) 52 then
          if pb_in ((42 : Int32) + b1) 52 then
            some ((), (pb_sA (pb_sA (pb_sA (pb_sA (pb_sA μ1 (h0 + 1) (upd (μ1.1 (h0 + 1)) (((27 : Int32) + b1)).toNatClampNeg v1)) (h0 + 1) (upd ((pb_sA μ1 (h0 + 1) (upd (μ1.1 (h0 + 1)) (((27 : Int32) + b1)).toNatClampNeg v1)).1 (h0 + 1)) (((32 : Int32) + b1)).toNatClampNeg v2)) (h0 + 1) (upd ((pb_sA (pb_sA μ1 (h0 + 1) (upd (μ1.1 (h0 + 1)) (((27 : Int32) + b1)).toNatClampNeg v1)) (h0 + 1) (upd ((pb_sA μ1 (h0 + 1) (upd (μ1.1 (h0 + 1)) (((27 : Int32) + b1)).toNatClampNeg v1)).1 (h0 + 1)) (((32 : Int32) + b1)).toNatClampNeg v2)).1 (h0 + 1)) (((37 : Int32) + b1)).toNatClampNeg v3)) (h0 + 1) (upd ((pb_sA (pb_sA (pb_sA μ1 (h0 + 1) (upd (μ1.1 (h0 + 1)) (((27 : Int32) + b1)).toNatClampNeg v1)) (h0 + 1) (upd ((pb_sA μ1 (h0 + 1) (upd (μ1.1 (h0 + 1)) (((27 : Int32) + b1)).toNatClampNeg v1)).1 (h0 + 1)) (((32 : Int32) + b1)).toNatClampNeg v2)) (h0 + 1) (upd ((pb_sA (pb_sA μ1 (h0 + 1) (upd (μ1.1 (h0 + 1)) (((27 : Int32) + b1)).toNatClampNeg v1)) (h0 + 1) (upd ((pb_sA μ1 (h0 + 1) (upd (μ1.1 (h0 + 1)) (((27 : Int32) + b1)).toNatClampNeg v1)).1 (h0 + 1)) (((32 : Int32) + b1)).toNatClampNeg v2)).1 (h0 + 1)) (((37 : Int32) + b1)).toNatClampNeg v3)).1 (h0 + 1)) (((42 : Int32) + b1)).toNatClampNeg (-9 : Int32))) (h0 + 1) (upd ((pb_sA (pb_sA (pb_sA (pb_sA μ1 (h0 + 1) (upd (μ1.1 (h0 + 1)) (((27 : Int32) + b1)).toNatClampNeg v1)) (h0 + 1) (upd ((pb_sA μ1 (h0 + 1) (upd (μ1.1 (h0 + 1)) (((27 : Int32) + b1)).toNatClampNeg v1)).1 (h0 + 1)) (((32 : Int32) + b1)).toNatClampNeg v2)) (h0 + 1) (upd ((pb_sA (pb_sA μ1 (h0 + 1) (upd (μ1.1 (h0 + 1)) (((27 : Int32) + b1)).toNatClampNeg v1)) (h0 + 1) (upd ((pb_sA μ1 (h0 + 1) (upd (μ1.1 (h0 + 1)) (((27 : Int32) + b1)).toNatClampNeg v1)).1 (h0 + 1)) (((32 : Int32) + b1)).toNatClampNeg v2)).1 (h0 + 1)) (((37 : Int32) + b1)).toNatClampNeg v3)) (h0 + 1) (upd ((pb_sA (pb_sA (pb_sA μ1 (h0 + 1) (upd (μ1.1 (h0 + 1)) (((27 : Int32) + b1)).toNatClampNeg v1)) (h0 + 1) (upd ((pb_sA μ1 (h0 + 1) (upd (μ1.1 (h0 + 1)) (((27 : Int32) + b1)).toNatClampNeg v1)).1 (h0 + 1)) (((32 : Int32) + b1)).toNatClampNeg v2)) (h0 + 1) (upd ((pb_sA (pb_sA μ1 (h0 + 1) (upd (μ1.1 (h0 + 1)) (((27 : Int32) + b1)).toNatClampNeg v1)) (h0 + 1) (upd ((pb_sA μ1 (h0 + 1) (upd (μ1.1 (h0 + 1)) (((27 : Int32) + b1)).toNatClampNeg v1)).1 (h0 + 1)) (((32 : Int32) + b1)).toNatClampNeg v2)).1 (h0 + 1)) (((37 : Int32) + b1)).toNatClampNeg v3)).1 (h0 + 1)) (((42 : Int32) + b1)).toNatClampNeg (-9 : Int32))).1 (h0 + 1)) 1 (b1 + (1 : Int32)))))
          else none
        else none
      else none
    else none
  else
  some ((), μ1))
abbrev wX5_addBeast (l : Launch) (E : pb_E) := pb_RW l E { frames := 1, cells := 0, slots := 0, locals := 20 } RX5 cX5_addBeast 5 none (fun _ => True) 0 0 (pb_Qf E (fun _ : Unit => none))
set_option maxRecDepth 100000 in
set_option maxHeartbeats 4000000 in
theorem evX5_addBeast (l : Launch) (E : pb_E) (h0 : Nat) (v1 : Int32) (v2 : Int32) (v3 : Int32) (hv0 : pb_V h0) (μ : pb_M) : ∀ b μ', pX5_addBeast h0 v1 v2 v3 μ = some (b, μ') → pb_Ev l E yX5_addBeast cX5_addBeast 5 none { frames := 1, cells := 0, slots := 0, locals := 20 } [.ref (E.2.1 h0), .int v1, .int v2, .int v3] μ ((fun _ : Unit => none) b) μ' := by
  refine pb_enter (L := [some (.ref (E.2.1 h0)), some (.int v1), some (.int v2), some (.int v3), none]) (by decide +kernel) (Nat.le_of_ble_eq_true rfl) (pb_same [none, none, none, none, none] rfl) (show wX5_addBeast l E 0 [some (.ref (E.2.1 h0)), some (.int v1), some (.int v2), some (.int v3), none] [] μ (pX5_addBeast h0 v1 v2 v3 μ) from ?_)
  unfold pX5_addBeast
  refine pb_aload_n 1 dX5_addBeast_0 rfl rfl rfl ?_
  refine cl_X5_beasts 4 hv0 ⟨by decide, by decide, by decide, by decide⟩ (Nat.le_of_ble_eq_true rfl) ml_X5_31 dX5_addBeast_1 rfl (fun b1 μ1 => ?_)
  refine pb_istore 6 (i := 4) (L' := [some (.ref (E.2.1 h0)), some (.int v1), some (.int v2), some (.int v3), some (.int b1)]) dX5_addBeast_4 (by decide) rfl rfl rfl ?_
  refine pb_iload 8 dX5_addBeast_6 rfl rfl ?_
  refine pb_iconst 9 (v := 5) dX5_addBeast_8 rfl (by decide) ?_
  refine pb_icmp_lt 12 (tgt := 13) dX5_addBeast_9 (by decide) rfl (fun _ => ?_) (fun _ => ?_)
  · refine pb_aload_n 14 dX5_addBeast_13 rfl rfl rfl ?_
    refine pb_getR 17 (j := 0) (d := (h0 + 1)) in_X5 rfl (by decide) hv0.1 rfl (by decide) fl_X5_11 dX5_addBeast_14 rfl ?_
    refine pb_bipush 19 (v := 27) dX5_addBeast_17 rfl (by decide) ?_
    refine pb_iload 21 dX5_addBeast_19 rfl rfl ?_
    refine pb_iadd 22 dX5_addBeast_21 rfl ?_
    refine pb_iload_n 23 dX5_addBeast_22 rfl rfl rfl ?_
    refine pb_guard (fun hin => pb_iast 24 hv0.2 hin rfl dX5_addBeast_23 rfl ?_)
    refine pb_aload_n 25 dX5_addBeast_24 rfl rfl rfl ?_
    refine pb_getR 28 (j := 0) (d := (h0 + 1)) in_X5 rfl (by decide) hv0.1 rfl (by decide) fl_X5_11 dX5_addBeast_25 rfl ?_
    refine pb_bipush 30 (v := 32) dX5_addBeast_28 rfl (by decide) ?_
    refine pb_iload 32 dX5_addBeast_30 rfl rfl ?_
    refine pb_iadd 33 dX5_addBeast_32 rfl ?_
    refine pb_iload_n 34 dX5_addBeast_33 rfl rfl rfl ?_
    refine pb_guard (fun hin => pb_iast 35 hv0.2 hin rfl dX5_addBeast_34 rfl ?_)
    refine pb_aload_n 36 dX5_addBeast_35 rfl rfl rfl ?_
    refine pb_getR 39 (j := 0) (d := (h0 + 1)) in_X5 rfl (by decide) hv0.1 rfl (by decide) fl_X5_11 dX5_addBeast_36 rfl ?_
    refine pb_bipush 41 (v := 37) dX5_addBeast_39 rfl (by decide) ?_
    refine pb_iload 43 dX5_addBeast_41 rfl rfl ?_
    refine pb_iadd 44 dX5_addBeast_43 rfl ?_
    refine pb_iload_n 45 dX5_addBeast_44 rfl rfl rfl ?_
    refine pb_guard (fun hin => pb_iast 46 hv0.2 hin rfl dX5_addBeast_45 rfl ?_)
    refine pb_aload_n 47 dX5_addBeast_46 rfl rfl rfl ?_
    refine pb_getR 50 (j := 0) (d := (h0 + 1)) in_X5 rfl (by decide) hv0.1 rfl (by decide) fl_X5_11 dX5_addBeast_47 rfl ?_
    refine pb_bipush 52 (v := 42) dX5_addBeast_50 rfl (by decide) ?_
    refine pb_iload 54 dX5_addBeast_52 rfl rfl ?_
    refine pb_iadd 55 dX5_addBeast_54 rfl ?_
    refine pb_bipush 57 (v := -9) dX5_addBeast_55 rfl (by decide) ?_
    refine pb_guard (fun hin => pb_iast 58 hv0.2 hin rfl dX5_addBeast_57 rfl ?_)
    refine pb_aload_n 59 dX5_addBeast_58 rfl rfl rfl ?_
    refine pb_getR 62 (j := 0) (d := (h0 + 1)) in_X5 rfl (by decide) hv0.1 rfl (by decide) fl_X5_11 dX5_addBeast_59 rfl ?_
    refine pb_iconst 63 (v := 1) dX5_addBeast_62 rfl (by decide) ?_
    refine pb_iload 65 dX5_addBeast_63 rfl rfl ?_
    refine pb_iconst 66 (v := 1) dX5_addBeast_65 rfl (by decide) ?_
    refine pb_iadd 67 dX5_addBeast_66 rfl ?_
    refine pb_iast 68 (j := 1) hv0.2 (by decide) (by decide) dX5_addBeast_67 rfl ?_
    exact pb_vret dX5_addBeast_68
  · exact pb_vret dX5_addBeast_12
theorem mc_X5_addBeast : pb_MC yX5_addBeast cX5_addBeast 5 none 3 := ⟨pb_inW 302 (by decide +kernel) (by decide +kernel), pb_inW 63 (by decide +kernel) (by decide +kernel), by decide +kernel, by decide +kernel, by decide +kernel⟩
theorem mi_X5_addBeast : Cond.instanceMethod yX5_addBeast ∈ pb_gw := pb_inW 300 (by decide +kernel) (by decide +kernel)
theorem ms_X5_addBeast : Cond.selects (yX5_addBeast).cls yX5_addBeast yX5_addBeast ∈ pb_gw := pb_inW 301 (by decide +kernel) (by decide +kernel)
theorem cl_X5_addBeast {α : Type} {l : Launch} {E : pb_E} {R : Room} {own : String} {cc : ByteArray} {mL : Nat} {ret : Option FieldType} {Xs : State → Prop} {nc ns : Nat} {Qf : State → Array Value → List Frame → α → pb_M → State → Prop} {pc : Nat} {L : List (Option Value)} {S : List Value} {μ : pb_M} {f : Unit → pb_M → Option (α × pb_M)} {h0 : Nat} {v1 : Int32} {v2 : Int32} {v3 : Int32} {index : Nat} (q : Nat) (hv0 : pb_V h0) (hR : 1 + 1 ≤ R.frames ∧ 8 + (5 + 11) + 20 ≤ R.locals ∧ nc ≤ R.cells ∧ ns ≤ R.slots) (hW : (S.map fun v => v.category).sum ≤ 8) (hl1 : Cond.methodLink own index yX5_addBeast ∈ pb_gw) (hdg : decode cc pc = .ok (.invokevirtual index, 3)) (hq : pc + 3 = q) (k : ∀ b1 μ1, pb_RW l E R own cc mL ret Xs nc ns Qf q L S μ1 (f b1 μ1)) : pb_RW l E R own cc mL ret Xs nc ns Qf pc L (.int v3 :: .int v2 :: .int v1 :: .ref (E.2.1 h0) :: S) μ (pb_b (pX5_addBeast h0 v1 v2 v3 μ) f) := pb_callV q (fun _ : Unit => none) mc_X5_addBeast mi_X5_addBeast ms_X5_addBeast (fun b1 μ1 h => evX5_addBeast l E h0 v1 v2 v3 hv0 μ b1 μ1 h) hv0.1 (by decide) rfl rfl rfl rfl hR rfl hW hl1 hdg hq k
def pX5_oweNow (h0 : Nat) (v1 : Int32) (v2 : Int32) (v3 : Int32) (μ : pb_M) : Option (Unit × pb_M) :=
  if pb_in (((11 : Int32) + (v1 * (4 : Int32))) + v2) 52 then
    some ((), (pb_sA μ (h0 + 1) (upd (μ.1 (h0 + 1)) ((((11 : Int32) + (v1 * (4 : Int32))) + v2)).toNatClampNeg v3)))
  else none
abbrev wX5_oweNow (l : Launch) (E : pb_E) := pb_RW l E { frames := 0, cells := 0, slots := 0, locals := 0 } RX5 cX5_oweNow 4 none (fun _ => True) 0 0 (pb_Qf E (fun _ : Unit => none))
set_option maxRecDepth 100000 in
set_option maxHeartbeats 4000000 in
theorem evX5_oweNow (l : Launch) (E : pb_E) (h0 : Nat) (v1 : Int32) (v2 : Int32) (v3 : Int32) (hv0 : pb_V h0) (μ : pb_M) : ∀ b μ', pX5_oweNow h0 v1 v2 v3 μ = some (b, μ') → pb_Ev l E yX5_oweNow cX5_oweNow 4 none { frames := 0, cells := 0, slots := 0, locals := 0 } [.ref (E.2.1 h0), .int v1, .int v2, .int v3] μ ((fun _ : Unit => none) b) μ' := by
  refine pb_enter (L := [some (.ref (E.2.1 h0)), some (.int v1), some (.int v2), some (.int v3)]) (by decide +kernel) (Nat.le_of_ble_eq_true rfl) (pb_same [none, none, none, none] rfl) (show wX5_oweNow l E 0 [some (.ref (E.2.1 h0)), some (.int v1), some (.int v2), some (.int v3)] [] μ (pX5_oweNow h0 v1 v2 v3 μ) from ?_)
  unfold pX5_oweNow
  refine pb_aload_n 1 dX5_oweNow_0 rfl rfl rfl ?_
  refine pb_getR 4 (j := 0) (d := (h0 + 1)) in_X5 rfl (by decide) hv0.1 rfl (by decide) fl_X5_11 dX5_oweNow_1 rfl ?_
  refine pb_bipush 6 (v := 11) dX5_oweNow_4 rfl (by decide) ?_
  refine pb_iload_n 7 dX5_oweNow_6 rfl rfl rfl ?_
  refine pb_iconst 8 (v := 4) dX5_oweNow_7 rfl (by decide) ?_
  refine pb_imul 9 dX5_oweNow_8 rfl ?_
  refine pb_iadd 10 dX5_oweNow_9 rfl ?_
  refine pb_iload_n 11 dX5_oweNow_10 rfl rfl rfl ?_
  refine pb_iadd 12 dX5_oweNow_11 rfl ?_
  refine pb_iload_n 13 dX5_oweNow_12 rfl rfl rfl ?_
  refine pb_guard (fun hin => pb_iast 14 hv0.2 hin rfl dX5_oweNow_13 rfl ?_)
  exact pb_vret dX5_oweNow_14
theorem mc_X5_oweNow : pb_MC yX5_oweNow cX5_oweNow 4 none 3 := ⟨pb_inW 318 (by decide +kernel) (by decide +kernel), pb_inW 63 (by decide +kernel) (by decide +kernel), by decide +kernel, by decide +kernel, by decide +kernel⟩
theorem mi_X5_oweNow : Cond.instanceMethod yX5_oweNow ∈ pb_gw := pb_inW 317 (by decide +kernel) (by decide +kernel)
theorem ms_X5_oweNow : Cond.selects (yX5_oweNow).cls yX5_oweNow yX5_oweNow ∈ pb_gw := pb_inW 4 (by decide +kernel) (by decide +kernel)
theorem cl_X5_oweNow {α : Type} {l : Launch} {E : pb_E} {R : Room} {own : String} {cc : ByteArray} {mL : Nat} {ret : Option FieldType} {Xs : State → Prop} {nc ns : Nat} {Qf : State → Array Value → List Frame → α → pb_M → State → Prop} {pc : Nat} {L : List (Option Value)} {S : List Value} {μ : pb_M} {f : Unit → pb_M → Option (α × pb_M)} {h0 : Nat} {v1 : Int32} {v2 : Int32} {v3 : Int32} {index : Nat} (q : Nat) (hv0 : pb_V h0) (hR : 0 + 1 ≤ R.frames ∧ 8 + (4 + 11) + 0 ≤ R.locals ∧ nc ≤ R.cells ∧ ns ≤ R.slots) (hW : (S.map fun v => v.category).sum ≤ 8) (hl1 : Cond.methodLink own index yX5_oweNow ∈ pb_gw) (hdg : decode cc pc = .ok (.invokevirtual index, 3)) (hq : pc + 3 = q) (k : ∀ b1 μ1, pb_RW l E R own cc mL ret Xs nc ns Qf q L S μ1 (f b1 μ1)) : pb_RW l E R own cc mL ret Xs nc ns Qf pc L (.int v3 :: .int v2 :: .int v1 :: .ref (E.2.1 h0) :: S) μ (pb_b (pX5_oweNow h0 v1 v2 v3 μ) f) := pb_callV q (fun _ : Unit => none) mc_X5_oweNow mi_X5_oweNow ms_X5_oweNow (fun b1 μ1 h => evX5_oweNow l E h0 v1 v2 v3 hv0 μ b1 μ1 h) hv0.1 (by decide) rfl rfl rfl rfl hR rfl hW hl1 hdg hq k
theorem ml_X5_79 : Cond.methodLink RX5 79 Lib.Math.min.name ∈ pb_gw := pb_inW 312 (by decide +kernel) (by decide +kernel)
theorem ml_X5_82 : Cond.methodLink RX5 82 yX5_oweNow ∈ pb_gw := pb_inW 315 (by decide +kernel) (by decide +kernel)
def pX5_addDebt (h0 : Nat) (v1 : Int32) (v2 : Int32) (v3 : Int32) (μ : pb_M) : Option (Unit × pb_M) :=
  pb_b (pX5_debt h0 v1 v2 μ) (fun b8 μ8 =>
  pb_b (pX5_oweNow h0 v1 v2 (if (b8 + v3) < (99 : Int32) then (b8 + v3) else (99 : Int32)) μ8) (fun b16 μ16 =>
  some ((), μ16)))
abbrev wX5_addDebt (l : Launch) (E : pb_E) := pb_RW l E { frames := 1, cells := 0, slots := 0, locals := 23 } RX5 cX5_addDebt 4 none (fun _ => True) 0 0 (pb_Qf E (fun _ : Unit => none))
set_option maxRecDepth 100000 in
set_option maxHeartbeats 4000000 in
theorem evX5_addDebt (l : Launch) (E : pb_E) (h0 : Nat) (v1 : Int32) (v2 : Int32) (v3 : Int32) (hv0 : pb_V h0) (μ : pb_M) : ∀ b μ', pX5_addDebt h0 v1 v2 v3 μ = some (b, μ') → pb_Ev l E yX5_addDebt cX5_addDebt 4 none { frames := 1, cells := 0, slots := 0, locals := 23 } [.ref (E.2.1 h0), .int v1, .int v2, .int v3] μ ((fun _ : Unit => none) b) μ' := by
  refine pb_enter (L := [some (.ref (E.2.1 h0)), some (.int v1), some (.int v2), some (.int v3)]) (by decide +kernel) (Nat.le_of_ble_eq_true rfl) (pb_same [none, none, none, none] rfl) (show wX5_addDebt l E 0 [some (.ref (E.2.1 h0)), some (.int v1), some (.int v2), some (.int v3)] [] μ (pX5_addDebt h0 v1 v2 v3 μ) from ?_)
  unfold pX5_addDebt
  refine pb_aload_n 1 dX5_addDebt_0 rfl rfl rfl ?_
  refine pb_iload_n 2 dX5_addDebt_1 rfl rfl rfl ?_
  refine pb_iload_n 3 dX5_addDebt_2 rfl rfl rfl ?_
  refine pb_bipush 5 (v := 99) dX5_addDebt_3 rfl (by decide) ?_
  refine pb_aload_n 6 dX5_addDebt_5 rfl rfl rfl ?_
  refine pb_iload_n 7 dX5_addDebt_6 rfl rfl rfl ?_
  refine pb_iload_n 8 dX5_addDebt_7 rfl rfl rfl ?_
  refine cl_X5_debt 11 hv0 ⟨by decide, by decide, by decide, by decide⟩ (Nat.le_of_ble_eq_true rfl) ml_X5_58 dX5_addDebt_8 rfl (fun b8 μ8 => ?_)
  refine pb_iload_n 12 dX5_addDebt_11 rfl rfl rfl ?_
  refine pb_iadd 13 dX5_addDebt_12 rfl ?_
  refine pb_min 16 ml_X5_79 km_min1 km_2 km_min3 ⟨by decide, Nat.le_of_ble_eq_true rfl, by decide, by decide⟩ dX5_addDebt_13 rfl ?_
  refine cl_X5_oweNow 19 hv0 ⟨by decide, by decide, by decide, by decide⟩ (Nat.le_of_ble_eq_true rfl) ml_X5_82 dX5_addDebt_16 rfl (fun b16 μ16 => ?_)
  exact pb_vret dX5_addDebt_19
theorem mc_X5_addDebt : pb_MC yX5_addDebt cX5_addDebt 4 none 3 := ⟨pb_inW 307 (by decide +kernel) (by decide +kernel), pb_inW 63 (by decide +kernel) (by decide +kernel), by decide +kernel, by decide +kernel, by decide +kernel⟩
theorem mi_X5_addDebt : Cond.instanceMethod yX5_addDebt ∈ pb_gw := pb_inW 305 (by decide +kernel) (by decide +kernel)
theorem ms_X5_addDebt : Cond.selects (yX5_addDebt).cls yX5_addDebt yX5_addDebt ∈ pb_gw := pb_inW 306 (by decide +kernel) (by decide +kernel)
theorem cl_X5_addDebt {α : Type} {l : Launch} {E : pb_E} {R : Room} {own : String} {cc : ByteArray} {mL : Nat} {ret : Option FieldType} {Xs : State → Prop} {nc ns : Nat} {Qf : State → Array Value → List Frame → α → pb_M → State → Prop} {pc : Nat} {L : List (Option Value)} {S : List Value} {μ : pb_M} {f : Unit → pb_M → Option (α × pb_M)} {h0 : Nat} {v1 : Int32} {v2 : Int32} {v3 : Int32} {index : Nat} (q : Nat) (hv0 : pb_V h0) (hR : 1 + 1 ≤ R.frames ∧ 8 + (4 + 11) + 23 ≤ R.locals ∧ nc ≤ R.cells ∧ ns ≤ R.slots) (hW : (S.map fun v => v.category).sum ≤ 8) (hl1 : Cond.methodLink own index yX5_addDebt ∈ pb_gw) (hdg : decode cc pc = .ok (.invokevirtual index, 3)) (hq : pc + 3 = q) (k : ∀ b1 μ1, pb_RW l E R own cc mL ret Xs nc ns Qf q L S μ1 (f b1 μ1)) : pb_RW l E R own cc mL ret Xs nc ns Qf pc L (.int v3 :: .int v2 :: .int v1 :: .ref (E.2.1 h0) :: S) μ (pb_b (pX5_addDebt h0 v1 v2 v3 μ) f) := pb_callV q (fun _ : Unit => none) mc_X5_addDebt mi_X5_addDebt ms_X5_addDebt (fun b1 μ1 h => evX5_addDebt l E h0 v1 v2 v3 hv0 μ b1 μ1 h) hv0.1 (by decide) rfl rfl rfl rfl hR rfl hW hl1 hdg hq k
theorem ml_X4_75 : Cond.methodLink RX4 75 yX5_addPerson ∈ pb_gw := pb_inW 295 (by decide +kernel) (by decide +kernel)
theorem ml_X4_79 : Cond.methodLink RX4 79 yX5_addBeast ∈ pb_gw := pb_inW 299 (by decide +kernel) (by decide +kernel)
theorem ml_X4_83 : Cond.methodLink RX4 83 yX5_addDebt ∈ pb_gw := pb_inW 304 (by decide +kernel) (by decide +kernel)
def pX4_tell (h1 : Nat) (v2 : Int32) (μ : pb_M) : Option (Unit × pb_M) :=
  if v2 = (66 : Int32) then
    pb_b (pX5_addBeast h1 (μ.1 3 0) (μ.1 3 1) (μ.1 3 2) μ) (fun b66 μ66 =>
    some ((), μ66))
  else
  if v2 = (80 : Int32) then
    pb_b (pX5_addPerson h1 (μ.1 3 0) (μ.1 3 1) μ) (fun b41 μ41 =>
    some ((), μ41))
  else
  pb_b (pX5_addDebt h1 (μ.1 3 0) (μ.1 3 1) (μ.1 3 2) μ) (fun b91 μ91 =>
  some ((), μ91))
abbrev wX4_tell (l : Launch) (E : pb_E) := pb_RW l E { frames := 2, cells := 0, slots := 0, locals := 46 } RX4 cX4_tell 3 none (fun _ => True) 0 0 (pb_Qf E (fun _ : Unit => none))
set_option maxRecDepth 100000 in
set_option maxHeartbeats 4000000 in
theorem evX4_tell (l : Launch) (E : pb_E) (h1 : Nat) (v2 : Int32) (hv1 : pb_V h1) (μ : pb_M) : ∀ b μ', pX4_tell h1 v2 μ = some (b, μ') → pb_Ev l E yX4_tell cX4_tell 3 none { frames := 2, cells := 0, slots := 0, locals := 46 } [.ref (E.2.1 1), .ref (E.2.1 h1), .int v2] μ ((fun _ : Unit => none) b) μ' := by
  refine pb_enter (L := [some (.ref (E.2.1 1)), some (.ref (E.2.1 h1)), some (.int v2)]) (by decide +kernel) (Nat.le_of_ble_eq_true rfl) (pb_same [none, none, none] rfl) (show wX4_tell l E 0 [some (.ref (E.2.1 1)), some (.ref (E.2.1 h1)), some (.int v2)] [] μ (pX4_tell h1 v2 μ) from ?_)
  unfold pX4_tell
  refine pb_iload_n 1 dX4_tell_0 rfl rfl rfl ?_
  refine pb_ite (fun c0 => ?_) (fun c0 => ?_)
  · refine pb_lookup (off := 46) (tgt := 47) dX4_tell_1 (by decide) (by rw [c0]; rfl) (by decide) ?_
    refine pb_aload_n 48 dX4_tell_47 rfl rfl rfl ?_
    refine pb_aload_n 49 dX4_tell_48 rfl rfl rfl ?_
    refine pb_getR 52 (j := 1) (d := 3) in_X4 rfl (by decide) rfl rfl (by decide) fl_X4_15 dX4_tell_49 rfl ?_
    refine pb_iconst 53 (v := 0) dX4_tell_52 rfl (by decide) ?_
    refine pb_iald 54 (j := 0) rfl (by decide) (by decide) dX4_tell_53 rfl ?_
    refine pb_aload_n 55 dX4_tell_54 rfl rfl rfl ?_
    refine pb_getR 58 (j := 1) (d := 3) in_X4 rfl (by decide) rfl rfl (by decide) fl_X4_15 dX4_tell_55 rfl ?_
    refine pb_iconst 59 (v := 1) dX4_tell_58 rfl (by decide) ?_
    refine pb_iald 60 (j := 1) rfl (by decide) (by decide) dX4_tell_59 rfl ?_
    refine pb_aload_n 61 dX4_tell_60 rfl rfl rfl ?_
    refine pb_getR 64 (j := 1) (d := 3) in_X4 rfl (by decide) rfl rfl (by decide) fl_X4_15 dX4_tell_61 rfl ?_
    refine pb_iconst 65 (v := 2) dX4_tell_64 rfl (by decide) ?_
    refine pb_iald 66 (j := 2) rfl (by decide) (by decide) dX4_tell_65 rfl ?_
    refine cl_X5_addBeast 69 hv1 ⟨by decide, by decide, by decide, by decide⟩ (Nat.le_of_ble_eq_true rfl) ml_X4_79 dX4_tell_66 rfl (fun b66 μ66 => ?_)
    refine pb_goto (tgt := 94) dX4_tell_69 (by decide) ?_
    exact pb_vret dX4_tell_94
  · refine pb_ite (fun c1 => ?_) (fun c1 => ?_)
    · refine pb_lookup (off := 27) (tgt := 28) dX4_tell_1 (by decide) (by rw [c1]; rfl) (by decide) ?_
      refine pb_aload_n 29 dX4_tell_28 rfl rfl rfl ?_
      refine pb_aload_n 30 dX4_tell_29 rfl rfl rfl ?_
      refine pb_getR 33 (j := 1) (d := 3) in_X4 rfl (by decide) rfl rfl (by decide) fl_X4_15 dX4_tell_30 rfl ?_
      refine pb_iconst 34 (v := 0) dX4_tell_33 rfl (by decide) ?_
      refine pb_iald 35 (j := 0) rfl (by decide) (by decide) dX4_tell_34 rfl ?_
      refine pb_aload_n 36 dX4_tell_35 rfl rfl rfl ?_
      refine pb_getR 39 (j := 1) (d := 3) in_X4 rfl (by decide) rfl rfl (by decide) fl_X4_15 dX4_tell_36 rfl ?_
      refine pb_iconst 40 (v := 1) dX4_tell_39 rfl (by decide) ?_
      refine pb_iald 41 (j := 1) rfl (by decide) (by decide) dX4_tell_40 rfl ?_
      refine cl_X5_addPerson 44 hv1 ⟨by decide, by decide, by decide, by decide⟩ (Nat.le_of_ble_eq_true rfl) ml_X4_75 dX4_tell_41 rfl (fun b41 μ41 => ?_)
      refine pb_goto (tgt := 94) dX4_tell_44 (by decide) ?_
      exact pb_vret dX4_tell_94
    · refine pb_lookup (off := 71) (tgt := 72) dX4_tell_1 (by decide) (by show Op.lookupswitch.offset [(66, 46), (80, 27)] 71 _ = _; rw [lv_osw c0 (by decide), lv_osw c1 (by decide)]; rfl) (by decide) ?_
      refine pb_aload_n 73 dX4_tell_72 rfl rfl rfl ?_
      refine pb_aload_n 74 dX4_tell_73 rfl rfl rfl ?_
      refine pb_getR 77 (j := 1) (d := 3) in_X4 rfl (by decide) rfl rfl (by decide) fl_X4_15 dX4_tell_74 rfl ?_
      refine pb_iconst 78 (v := 0) dX4_tell_77 rfl (by decide) ?_
      refine pb_iald 79 (j := 0) rfl (by decide) (by decide) dX4_tell_78 rfl ?_
      refine pb_aload_n 80 dX4_tell_79 rfl rfl rfl ?_
      refine pb_getR 83 (j := 1) (d := 3) in_X4 rfl (by decide) rfl rfl (by decide) fl_X4_15 dX4_tell_80 rfl ?_
      refine pb_iconst 84 (v := 1) dX4_tell_83 rfl (by decide) ?_
      refine pb_iald 85 (j := 1) rfl (by decide) (by decide) dX4_tell_84 rfl ?_
      refine pb_aload_n 86 dX4_tell_85 rfl rfl rfl ?_
      refine pb_getR 89 (j := 1) (d := 3) in_X4 rfl (by decide) rfl rfl (by decide) fl_X4_15 dX4_tell_86 rfl ?_
      refine pb_iconst 90 (v := 2) dX4_tell_89 rfl (by decide) ?_
      refine pb_iald 91 (j := 2) rfl (by decide) (by decide) dX4_tell_90 rfl ?_
      refine cl_X5_addDebt 94 hv1 ⟨by decide, by decide, by decide, by decide⟩ (Nat.le_of_ble_eq_true rfl) ml_X4_83 dX4_tell_91 rfl (fun b91 μ91 => ?_)
      exact pb_vret dX4_tell_94
theorem mc_X4_tell : pb_MC yX4_tell cX4_tell 3 none 2 := ⟨pb_inW 294 (by decide +kernel) (by decide +kernel), pb_inW 62 (by decide +kernel) (by decide +kernel), by decide +kernel, by decide +kernel, by decide +kernel⟩
theorem mi_X4_tell : Cond.instanceMethod yX4_tell ∈ pb_gw := pb_inW 293 (by decide +kernel) (by decide +kernel)
theorem ms_X4_tell : Cond.selects (yX4_tell).cls yX4_tell yX4_tell ∈ pb_gw := pb_inW 3 (by decide +kernel) (by decide +kernel)
theorem cl_X4_tell {α : Type} {l : Launch} {E : pb_E} {R : Room} {own : String} {cc : ByteArray} {mL : Nat} {ret : Option FieldType} {Xs : State → Prop} {nc ns : Nat} {Qf : State → Array Value → List Frame → α → pb_M → State → Prop} {pc : Nat} {L : List (Option Value)} {S : List Value} {μ : pb_M} {f : Unit → pb_M → Option (α × pb_M)} {h1 : Nat} {v2 : Int32} {index : Nat} (q : Nat) (hv1 : pb_V h1) (hR : 2 + 1 ≤ R.frames ∧ 8 + (3 + 11) + 46 ≤ R.locals ∧ nc ≤ R.cells ∧ ns ≤ R.slots) (hW : (S.map fun v => v.category).sum ≤ 8) (hl1 : Cond.methodLink own index yX4_tell ∈ pb_gw) (hdg : decode cc pc = .ok (.invokevirtual index, 3)) (hq : pc + 3 = q) (k : ∀ b1 μ1, pb_RW l E R own cc mL ret Xs nc ns Qf q L S μ1 (f b1 μ1)) : pb_RW l E R own cc mL ret Xs nc ns Qf pc L (.int v2 :: .ref (E.2.1 h1) :: .ref (E.2.1 1) :: S) μ (pb_b (pX4_tell h1 v2 μ) f) := pb_callV q (fun _ : Unit => none) mc_X4_tell mi_X4_tell ms_X4_tell (fun b1 μ1 h => evX4_tell l E h1 v2 hv1 μ b1 μ1 h) rfl (by decide) rfl rfl rfl rfl hR rfl hW hl1 hdg hq k
theorem ml_X4_31 : Cond.methodLink RX4 31 yX4_figuresOf ∈ pb_gw := pb_inW 272 (by decide +kernel) (by decide +kernel)
theorem ml_X4_35 : Cond.methodLink RX4 35 yX4_canBegin ∈ pb_gw := pb_inW 251 (by decide +kernel) (by decide +kernel)
theorem ml_X4_39 : Cond.methodLink RX4 39 yX4_figureFits ∈ pb_gw := pb_inW 275 (by decide +kernel) (by decide +kernel)
theorem ml_X4_43 : Cond.methodLink RX4 43 yX4_tell ∈ pb_gw := pb_inW 291 (by decide +kernel) (by decide +kernel)
def pX4_readPart_L26 (h1 : Nat) (v2 : Int32) (v3 : Int32) (v4 : Int32) (K92 : pb_M → Option (Int32 × pb_M)) : Nat → Int32 → pb_M → Option (Int32 × pb_M)
  | 0, _, _ => none
  | n + 1, v5, μ =>
    if v4 ≤ v5 then
      K92 μ
    else
    if ((v2 + (1 : Int32)) + v5) < (μ.1 1 2) then
      if pb_in ((v2 + (1 : Int32)) + v5) 56 then
        if pb_in v5 3 then
          pb_b (pX4_figureFits h1 v3 v5 (pb_sA μ 3 (upd (μ.1 3) (v5).toNatClampNeg ((μ.1 2 (((v2 + (1 : Int32)) + v5)).toNatClampNeg) - (48 : Int32))))) (fun b77 μ77 =>
          if b77 = (0 : Int32) then
            some (((v2 + (1 : Int32)) + v5), μ77)
          else
          pX4_readPart_L26 h1 v2 v3 v4 K92 n (v5 + (1 : Int32)) μ77)
        else none
      else none
    else
    some ((μ.1 1 2), μ)
def pX4_readPart (h1 : Nat) (v2 : Int32) (μ : pb_M) : Option (Int32 × pb_M) :=
  if pb_in v2 56 then
    pb_b (pX4_canBegin h1 (μ.1 2 (v2).toNatClampNeg) μ) (fun b9 μ9 =>
    if b9 = (0 : Int32) then
      some (v2, μ9)
    else
    pb_b (pX4_figuresOf (μ.1 2 (v2).toNatClampNeg) μ9) (fun b18 μ18 =>
    pX4_readPart_L26 h1 v2 (μ.1 2 (v2).toNatClampNeg) b18 (fun μk92 =>
      pb_b (pX4_tell h1 (μ.1 2 (v2).toNatClampNeg) μk92) (fun b95 μ95 =>
      some ((-9 : Int32), μ95))) pb_F (0 : Int32) μ18))
  else none
abbrev wX4_readPart (l : Launch) (E : pb_E) := pb_RW l E { frames := 4, cells := 0, slots := 0, locals := 91 } RX4 cX4_readPart 7 (some .int) (fun _ => True) 0 0 (pb_Qf E (fun z : Int32 => some (.int z)))
set_option maxRecDepth 100000 in
set_option maxHeartbeats 4000000 in
theorem tX4_readPart_L26 (l : Launch) (E : pb_E) (h1 : Nat) (hv1 : pb_V h1) (v2 : Int32) (v3 : Int32) (v4 : Int32) {K92 : pb_M → Option (Int32 × pb_M)} (hK92 : ∀  (μ : pb_M), wX4_readPart l E 92 [some (.ref (E.2.1 1)), some (.ref (E.2.1 h1)), none, some (.int v3), none, none, none] [] μ (K92  μ)) : ∀ (n : Nat) (v5 : Int32) (μ : pb_M), wX4_readPart l E 26 [some (.ref (E.2.1 1)), some (.ref (E.2.1 h1)), some (.int v2), some (.int v3), some (.int v4), some (.int v5), none] [] μ (pX4_readPart_L26 h1 v2 v3 v4 K92 n v5 μ) := by
  intro n
  induction n with
  | zero => intro v5 μ; exact pb_none
  | succ n ih =>
    intro v5 μ
    rw [pX4_readPart_L26]
    refine pb_iload 28 dX4_readPart_26 rfl rfl ?_
    refine pb_iload 30 dX4_readPart_28 rfl rfl ?_
    refine pb_icmp_ge 33 (tgt := 92) dX4_readPart_30 (by decide) rfl (fun _ => ?_) (fun _ => ?_)
    · refine pb_weakM (L' := [some (.ref (E.2.1 1)), some (.ref (E.2.1 h1)), none, some (.int v3), none, none, none]) [true, true, false, true, false, false, false] rfl ?_
      exact hK92 μ
    · refine pb_iload_n 34 dX4_readPart_33 rfl rfl rfl ?_
      refine pb_iconst 35 (v := 1) dX4_readPart_34 rfl (by decide) ?_
      refine pb_iadd 36 dX4_readPart_35 rfl ?_
      refine pb_iload 38 dX4_readPart_36 rfl rfl ?_
      refine pb_iadd 39 dX4_readPart_38 rfl ?_
      refine pb_istore 41 (i := 6) (L' := [some (.ref (E.2.1 1)), some (.ref (E.2.1 h1)), some (.int v2), some (.int v3), some (.int v4), some (.int v5), some (.int ((v2 + (1 : Int32)) + v5))]) dX4_readPart_39 (by decide) rfl rfl rfl ?_
      refine pb_iload 43 dX4_readPart_41 rfl rfl ?_
      refine pb_aload_n 44 dX4_readPart_43 rfl rfl rfl ?_
      refine pb_getI 47 (j := 2) in_X4 rfl (by decide) rfl rfl (by decide) fl_X4_18 dX4_readPart_44 rfl ?_
      refine pb_icmp_lt 50 (tgt := 55) dX4_readPart_47 (by decide) rfl (fun _ => ?_) (fun _ => ?_)
      · refine pb_aload_n 56 dX4_readPart_55 rfl rfl rfl ?_
        refine pb_getR 59 (j := 1) (d := 3) in_X4 rfl (by decide) rfl rfl (by decide) fl_X4_15 dX4_readPart_56 rfl ?_
        refine pb_iload 61 dX4_readPart_59 rfl rfl ?_
        refine pb_aload_n 62 dX4_readPart_61 rfl rfl rfl ?_
        refine pb_getR 65 (j := 0) (d := 2) in_X4 rfl (by decide) rfl rfl (by decide) fl_X4_9 dX4_readPart_62 rfl ?_
        refine pb_iload 67 dX4_readPart_65 rfl rfl ?_
        refine pb_guard (fun hin => pb_iald 68 rfl hin rfl dX4_readPart_67 rfl ?_)
        refine pb_bipush 70 (v := 48) dX4_readPart_68 rfl (by decide) ?_
        refine pb_isub 71 dX4_readPart_70 rfl ?_
        refine pb_guard (fun hin => pb_iast 72 rfl hin rfl dX4_readPart_71 rfl ?_)
        refine pb_aload_n 73 dX4_readPart_72 rfl rfl rfl ?_
        refine pb_aload_n 74 dX4_readPart_73 rfl rfl rfl ?_
        refine pb_iload_n 75 dX4_readPart_74 rfl rfl rfl ?_
        refine pb_iload 77 dX4_readPart_75 rfl rfl ?_
        refine cl_X4_figureFits 80 hv1 ⟨by decide, by decide, by decide, by decide⟩ (Nat.le_of_ble_eq_true rfl) ml_X4_39 dX4_readPart_77 rfl (fun b77 μ77 => ?_)
        refine pb_if_ne 83 (tgt := 86) dX4_readPart_80 (by decide) rfl (fun _ => ?_) (fun _ => ?_)
        · refine pb_iload 85 dX4_readPart_83 rfl rfl ?_
          exact pb_iret dX4_readPart_85
        · refine pb_iinc 89 (i := 5) (v := (v5 + (1 : Int32))) (L' := [some (.ref (E.2.1 1)), some (.ref (E.2.1 h1)), some (.int v2), some (.int v3), some (.int v4), some (.int (v5 + (1 : Int32))), some (.int ((v2 + (1 : Int32)) + v5))]) dX4_readPart_86 rfl rfl (by decide) rfl rfl rfl ?_
          refine pb_goto (tgt := 26) dX4_readPart_89 (by decide) ?_
          refine pb_weakM (L' := [some (.ref (E.2.1 1)), some (.ref (E.2.1 h1)), some (.int v2), some (.int v3), some (.int v4), some (.int (v5 + (1 : Int32))), none]) [true, true, true, true, true, true, false] rfl ?_
          exact ih (v5 + (1 : Int32)) μ77
      · refine pb_aload_n 51 dX4_readPart_50 rfl rfl rfl ?_
        refine pb_getI 54 (j := 2) in_X4 rfl (by decide) rfl rfl (by decide) fl_X4_18 dX4_readPart_51 rfl ?_
        exact pb_iret dX4_readPart_54
set_option maxRecDepth 100000 in
set_option maxHeartbeats 4000000 in
theorem evX4_readPart (l : Launch) (E : pb_E) (h1 : Nat) (v2 : Int32) (hv1 : pb_V h1) (μ : pb_M) : ∀ b μ', pX4_readPart h1 v2 μ = some (b, μ') → pb_Ev l E yX4_readPart cX4_readPart 7 (some .int) { frames := 4, cells := 0, slots := 0, locals := 91 } [.ref (E.2.1 1), .ref (E.2.1 h1), .int v2] μ ((fun z : Int32 => some (.int z)) b) μ' := by
  refine pb_enter (L := [some (.ref (E.2.1 1)), some (.ref (E.2.1 h1)), some (.int v2), none, none, none, none]) (by decide +kernel) (Nat.le_of_ble_eq_true rfl) (pb_same [none, none, none, none, none, none, none] rfl) (show wX4_readPart l E 0 [some (.ref (E.2.1 1)), some (.ref (E.2.1 h1)), some (.int v2), none, none, none, none] [] μ (pX4_readPart h1 v2 μ) from ?_)
  unfold pX4_readPart
  refine pb_aload_n 1 dX4_readPart_0 rfl rfl rfl ?_
  refine pb_getR 4 (j := 0) (d := 2) in_X4 rfl (by decide) rfl rfl (by decide) fl_X4_9 dX4_readPart_1 rfl ?_
  refine pb_iload_n 5 dX4_readPart_4 rfl rfl rfl ?_
  refine pb_guard (fun hin => pb_iald 6 rfl hin rfl dX4_readPart_5 rfl ?_)
  refine pb_istore_n 7 (i := 3) (L' := [some (.ref (E.2.1 1)), some (.ref (E.2.1 h1)), some (.int v2), some (.int (μ.1 2 (v2).toNatClampNeg)), none, none, none]) dX4_readPart_6 rfl (by decide) rfl rfl rfl ?_
  refine pb_aload_n 8 dX4_readPart_7 rfl rfl rfl ?_
  refine pb_iload_n 9 dX4_readPart_8 rfl rfl rfl ?_
  refine cl_X4_canBegin 12 hv1 ⟨by decide, by decide, by decide, by decide⟩ (Nat.le_of_ble_eq_true rfl) ml_X4_35 dX4_readPart_9 rfl (fun b9 μ9 => ?_)
  refine pb_if_ne 15 (tgt := 17) dX4_readPart_12 (by decide) rfl (fun _ => ?_) (fun _ => ?_)
  · refine pb_iload_n 16 dX4_readPart_15 rfl rfl rfl ?_
    exact pb_iret dX4_readPart_16
  · refine pb_iload_n 18 dX4_readPart_17 rfl rfl rfl ?_
    refine cl_X4_figuresOf 21 ⟨by decide, by decide, by decide, by decide⟩ (Nat.le_of_ble_eq_true rfl) ml_X4_31 dX4_readPart_18 rfl (fun b18 μ18 => ?_)
    refine pb_istore 23 (i := 4) (L' := [some (.ref (E.2.1 1)), some (.ref (E.2.1 h1)), some (.int v2), some (.int (μ.1 2 (v2).toNatClampNeg)), some (.int b18), none, none]) dX4_readPart_21 (by decide) rfl rfl rfl ?_
    refine pb_iconst 24 (v := 0) dX4_readPart_23 rfl (by decide) ?_
    refine pb_istore 26 (i := 5) (L' := [some (.ref (E.2.1 1)), some (.ref (E.2.1 h1)), some (.int v2), some (.int (μ.1 2 (v2).toNatClampNeg)), some (.int b18), some (.int (0 : Int32)), none]) dX4_readPart_24 (by decide) rfl rfl rfl ?_
    refine tX4_readPart_L26 l E h1 hv1 v2 (μ.1 2 (v2).toNatClampNeg) b18 (fun μk92 => ?_) pb_F (0 : Int32) μ18
    refine pb_aload_n 93 dX4_readPart_92 rfl rfl rfl ?_
    refine pb_aload_n 94 dX4_readPart_93 rfl rfl rfl ?_
    refine pb_iload_n 95 dX4_readPart_94 rfl rfl rfl ?_
    refine cl_X4_tell 98 hv1 ⟨by decide, by decide, by decide, by decide⟩ (Nat.le_of_ble_eq_true rfl) ml_X4_43 dX4_readPart_95 rfl (fun b95 μ95 => ?_)
    refine pb_bipush 100 (v := -9) dX4_readPart_98 rfl (by decide) ?_
    exact pb_iret dX4_readPart_100
theorem mc_X4_readPart : pb_MC yX4_readPart cX4_readPart 7 (some .int) 2 := ⟨pb_inW 250 (by decide +kernel) (by decide +kernel), pb_inW 62 (by decide +kernel) (by decide +kernel), by decide +kernel, by decide +kernel, by decide +kernel⟩
theorem mi_X4_readPart : Cond.instanceMethod yX4_readPart ∈ pb_gw := pb_inW 249 (by decide +kernel) (by decide +kernel)
theorem ms_X4_readPart : Cond.selects (yX4_readPart).cls yX4_readPart yX4_readPart ∈ pb_gw := pb_inW 0 (by decide +kernel) (by decide +kernel)
theorem cl_X4_readPart {α : Type} {l : Launch} {E : pb_E} {R : Room} {own : String} {cc : ByteArray} {mL : Nat} {ret : Option FieldType} {Xs : State → Prop} {nc ns : Nat} {Qf : State → Array Value → List Frame → α → pb_M → State → Prop} {pc : Nat} {L : List (Option Value)} {S : List Value} {μ : pb_M} {f : Int32 → pb_M → Option (α × pb_M)} {h1 : Nat} {v2 : Int32} {index : Nat} (q : Nat) (hv1 : pb_V h1) (hR : 4 + 1 ≤ R.frames ∧ 8 + (7 + 11) + 91 ≤ R.locals ∧ nc ≤ R.cells ∧ ns ≤ R.slots) (hW : (S.map fun v => v.category).sum ≤ 8) (hl1 : Cond.methodLink own index yX4_readPart ∈ pb_gw) (hdg : decode cc pc = .ok (.invokevirtual index, 3)) (hq : pc + 3 = q) (k : ∀ b1 μ1, pb_RW l E R own cc mL ret Xs nc ns Qf q L (.int b1 :: S) μ1 (f b1 μ1)) : pb_RW l E R own cc mL ret Xs nc ns Qf pc L (.int v2 :: .ref (E.2.1 h1) :: .ref (E.2.1 1) :: S) μ (pb_b (pX4_readPart h1 v2 μ) f) := pb_callV q (fun z : Int32 => some (.int z)) mc_X4_readPart mi_X4_readPart ms_X4_readPart (fun b1 μ1 h => evX4_readPart l E h1 v2 hv1 μ b1 μ1 h) rfl (by decide) rfl rfl rfl rfl hR rfl hW hl1 hdg hq k
theorem ml_X4_22 : Cond.methodLink RX4 22 yX5_clear ∈ pb_gw := pb_inW 240 (by decide +kernel) (by decide +kernel)
theorem ml_X4_27 : Cond.methodLink RX4 27 yX4_readPart ∈ pb_gw := pb_inW 247 (by decide +kernel) (by decide +kernel)
def pX4_readInto_L26 (h1 : Nat) : Nat → Int32 → pb_M → Option (Int32 × pb_M)
  | 0, _, _ => none
  | n + 1, v2, μ =>
    if (μ.1 1 2) ≤ v2 then
      some ((-9 : Int32), μ)
    else
    pb_b (pX4_readPart h1 v2 μ) (fun b37 μ37 =>
    if b37 = (-9 : Int32) then
      if pb_in v2 56 then
        pb_b (pX4_figuresOf (μ37.1 2 (v2).toNatClampNeg) μ37) (fun b57 μ57 =>
        pX4_readInto_L26 h1 n (v2 + ((1 : Int32) + b57)) μ57)
      else none
    else
    some (b37, μ37))
def pX4_readInto (h1 : Nat) (μ : pb_M) : Option (Int32 × pb_M) :=
  pb_b (pX5_clear h1 μ) (fun b1 μ1 =>
  if (μ1.1 1 2) = (0 : Int32) then
    some ((0 : Int32), μ1)
  else
  if (μ1.1 2 0) = (86 : Int32) then
    pX4_readInto_L26 h1 pb_F (1 : Int32) μ1
  else
  some ((0 : Int32), μ1))
abbrev wX4_readInto (l : Launch) (E : pb_E) := pb_RW l E { frames := 5, cells := 0, slots := 0, locals := 117 } RX4 cX4_readInto 4 (some .int) (fun _ => True) 0 0 (pb_Qf E (fun z : Int32 => some (.int z)))
set_option maxRecDepth 100000 in
set_option maxHeartbeats 4000000 in
theorem tX4_readInto_L26 (l : Launch) (E : pb_E) (h1 : Nat) (hv1 : pb_V h1)   : ∀ (n : Nat) (v2 : Int32) (μ : pb_M), wX4_readInto l E 26 [some (.ref (E.2.1 1)), some (.ref (E.2.1 h1)), some (.int v2), none] [] μ (pX4_readInto_L26 h1 n v2 μ) := by
  intro n
  induction n with
  | zero => intro v2 μ; exact pb_none
  | succ n ih =>
    intro v2 μ
    rw [pX4_readInto_L26]
    refine pb_iload_n 27 dX4_readInto_26 rfl rfl rfl ?_
    refine pb_aload_n 28 dX4_readInto_27 rfl rfl rfl ?_
    refine pb_getI 31 (j := 2) in_X4 rfl (by decide) rfl rfl (by decide) fl_X4_18 dX4_readInto_28 rfl ?_
    refine pb_icmp_ge 34 (tgt := 66) dX4_readInto_31 (by decide) rfl (fun _ => ?_) (fun _ => ?_)
    · refine pb_bipush 68 (v := -9) dX4_readInto_66 rfl (by decide) ?_
      exact pb_iret dX4_readInto_68
    · refine pb_aload_n 35 dX4_readInto_34 rfl rfl rfl ?_
      refine pb_aload_n 36 dX4_readInto_35 rfl rfl rfl ?_
      refine pb_iload_n 37 dX4_readInto_36 rfl rfl rfl ?_
      refine cl_X4_readPart 40 hv1 ⟨by decide, by decide, by decide, by decide⟩ (Nat.le_of_ble_eq_true rfl) ml_X4_27 dX4_readInto_37 rfl (fun b37 μ37 => ?_)
      refine pb_istore_n 41 (i := 3) (L' := [some (.ref (E.2.1 1)), some (.ref (E.2.1 h1)), some (.int v2), some (.int b37)]) dX4_readInto_40 rfl (by decide) rfl rfl rfl ?_
      refine pb_iload_n 42 dX4_readInto_41 rfl rfl rfl ?_
      refine pb_bipush 44 (v := -9) dX4_readInto_42 rfl (by decide) ?_
      refine pb_icmp_eq 47 (tgt := 49) dX4_readInto_44 (by decide) rfl (fun _ => ?_) (fun _ => ?_)
      · refine pb_iload_n 50 dX4_readInto_49 rfl rfl rfl ?_
        refine pb_iconst 51 (v := 1) dX4_readInto_50 rfl (by decide) ?_
        refine pb_aload_n 52 dX4_readInto_51 rfl rfl rfl ?_
        refine pb_getR 55 (j := 0) (d := 2) in_X4 rfl (by decide) rfl rfl (by decide) fl_X4_9 dX4_readInto_52 rfl ?_
        refine pb_iload_n 56 dX4_readInto_55 rfl rfl rfl ?_
        refine pb_guard (fun hin => pb_iald 57 rfl hin rfl dX4_readInto_56 rfl ?_)
        refine cl_X4_figuresOf 60 ⟨by decide, by decide, by decide, by decide⟩ (Nat.le_of_ble_eq_true rfl) ml_X4_31 dX4_readInto_57 rfl (fun b57 μ57 => ?_)
        refine pb_iadd 61 dX4_readInto_60 rfl ?_
        refine pb_iadd 62 dX4_readInto_61 rfl ?_
        refine pb_istore_n 63 (i := 2) (L' := [some (.ref (E.2.1 1)), some (.ref (E.2.1 h1)), some (.int (v2 + ((1 : Int32) + b57))), some (.int b37)]) dX4_readInto_62 rfl (by decide) rfl rfl rfl ?_
        refine pb_goto (tgt := 26) dX4_readInto_63 (by decide) ?_
        refine pb_weakM (L' := [some (.ref (E.2.1 1)), some (.ref (E.2.1 h1)), some (.int (v2 + ((1 : Int32) + b57))), none]) [true, true, true, false] rfl ?_
        exact ih (v2 + ((1 : Int32) + b57)) μ57
      · refine pb_iload_n 48 dX4_readInto_47 rfl rfl rfl ?_
        exact pb_iret dX4_readInto_48
set_option maxRecDepth 100000 in
set_option maxHeartbeats 4000000 in
theorem evX4_readInto (l : Launch) (E : pb_E) (h1 : Nat) (hv1 : pb_V h1) (μ : pb_M) : ∀ b μ', pX4_readInto h1 μ = some (b, μ') → pb_Ev l E yX4_readInto cX4_readInto 4 (some .int) { frames := 5, cells := 0, slots := 0, locals := 117 } [.ref (E.2.1 1), .ref (E.2.1 h1)] μ ((fun z : Int32 => some (.int z)) b) μ' := by
  refine pb_enter (L := [some (.ref (E.2.1 1)), some (.ref (E.2.1 h1)), none, none]) (by decide +kernel) (Nat.le_of_ble_eq_true rfl) (pb_same [none, none, none, none] rfl) (show wX4_readInto l E 0 [some (.ref (E.2.1 1)), some (.ref (E.2.1 h1)), none, none] [] μ (pX4_readInto h1 μ) from ?_)
  unfold pX4_readInto
  refine pb_aload_n 1 dX4_readInto_0 rfl rfl rfl ?_
  refine cl_X5_clear 4 hv1 ⟨by decide, by decide, by decide, by decide⟩ (Nat.le_of_ble_eq_true rfl) ml_X4_22 dX4_readInto_1 rfl (fun b1 μ1 => ?_)
  refine pb_aload_n 5 dX4_readInto_4 rfl rfl rfl ?_
  refine pb_getI 8 (j := 2) in_X4 rfl (by decide) rfl rfl (by decide) fl_X4_18 dX4_readInto_5 rfl ?_
  refine pb_if_eq 11 (tgt := 22) dX4_readInto_8 (by decide) rfl (fun _ => ?_) (fun _ => ?_)
  · refine pb_iconst 23 (v := 0) dX4_readInto_22 rfl (by decide) ?_
    exact pb_iret dX4_readInto_23
  · refine pb_aload_n 12 dX4_readInto_11 rfl rfl rfl ?_
    refine pb_getR 15 (j := 0) (d := 2) in_X4 rfl (by decide) rfl rfl (by decide) fl_X4_9 dX4_readInto_12 rfl ?_
    refine pb_iconst 16 (v := 0) dX4_readInto_15 rfl (by decide) ?_
    refine pb_iald 17 (j := 0) rfl (by decide) (by decide) dX4_readInto_16 rfl ?_
    refine pb_bipush 19 (v := 86) dX4_readInto_17 rfl (by decide) ?_
    refine pb_icmp_eq 22 (tgt := 24) dX4_readInto_19 (by decide) rfl (fun _ => ?_) (fun _ => ?_)
    · refine pb_iconst 25 (v := 1) dX4_readInto_24 rfl (by decide) ?_
      refine pb_istore_n 26 (i := 2) (L' := [some (.ref (E.2.1 1)), some (.ref (E.2.1 h1)), some (.int (1 : Int32)), none]) dX4_readInto_25 rfl (by decide) rfl rfl rfl ?_
      exact tX4_readInto_L26 l E h1 hv1 pb_F (1 : Int32) μ1
    · refine pb_iconst 23 (v := 0) dX4_readInto_22 rfl (by decide) ?_
      exact pb_iret dX4_readInto_23
theorem mc_X4_readInto : pb_MC yX4_readInto cX4_readInto 4 (some .int) 1 := ⟨pb_inW 239 (by decide +kernel) (by decide +kernel), pb_inW 62 (by decide +kernel) (by decide +kernel), by decide +kernel, by decide +kernel, by decide +kernel⟩
theorem mi_X4_readInto : Cond.instanceMethod yX4_readInto ∈ pb_gw := pb_inW 237 (by decide +kernel) (by decide +kernel)
theorem ms_X4_readInto : Cond.selects (yX4_readInto).cls yX4_readInto yX4_readInto ∈ pb_gw := pb_inW 238 (by decide +kernel) (by decide +kernel)
theorem cl_X4_readInto {α : Type} {l : Launch} {E : pb_E} {R : Room} {own : String} {cc : ByteArray} {mL : Nat} {ret : Option FieldType} {Xs : State → Prop} {nc ns : Nat} {Qf : State → Array Value → List Frame → α → pb_M → State → Prop} {pc : Nat} {L : List (Option Value)} {S : List Value} {μ : pb_M} {f : Int32 → pb_M → Option (α × pb_M)} {h1 : Nat} {index : Nat} (q : Nat) (hv1 : pb_V h1) (hR : 5 + 1 ≤ R.frames ∧ 8 + (4 + 11) + 117 ≤ R.locals ∧ nc ≤ R.cells ∧ ns ≤ R.slots) (hW : (S.map fun v => v.category).sum ≤ 8) (hl1 : Cond.methodLink own index yX4_readInto ∈ pb_gw) (hdg : decode cc pc = .ok (.invokevirtual index, 3)) (hq : pc + 3 = q) (k : ∀ b1 μ1, pb_RW l E R own cc mL ret Xs nc ns Qf q L (.int b1 :: S) μ1 (f b1 μ1)) : pb_RW l E R own cc mL ret Xs nc ns Qf pc L (.ref (E.2.1 h1) :: .ref (E.2.1 1) :: S) μ (pb_b (pX4_readInto h1 μ) f) := pb_callV q (fun z : Int32 => some (.int z)) mc_X4_readInto mi_X4_readInto ms_X4_readInto (fun b1 μ1 h => evX4_readInto l E h1 hv1 μ b1 μ1 h) rfl (by decide) rfl rfl rfl rfl hR rfl hW hl1 hdg hq k
def pX5_copyFrom (h0 : Nat) (h1 : Nat) (μ : pb_M) : Option (Unit × pb_M) :=
  if pb_cp (0 : Int32) (0 : Int32) (52 : Int32) 52 52 then
    some ((), (pb_sA μ (h0 + 1) (va_cpy (μ.1 (h1 + 1)) (μ.1 (h0 + 1)) ((0 : Int32)).toNatClampNeg ((0 : Int32)).toNatClampNeg ((52 : Int32)).toNatClampNeg)))
  else none
abbrev wX5_copyFrom (l : Launch) (E : pb_E) := pb_RW l E { frames := 1, cells := 0, slots := 0, locals := 18 } RX5 cX5_copyFrom 2 none (fun _ => True) 0 0 (pb_Qf E (fun _ : Unit => none))
set_option maxRecDepth 100000 in
set_option maxHeartbeats 4000000 in
theorem evX5_copyFrom (l : Launch) (E : pb_E) (h0 : Nat) (h1 : Nat) (hv0 : pb_V h0) (hv1 : pb_V h1) (μ : pb_M) : ∀ b μ', pX5_copyFrom h0 h1 μ = some (b, μ') → pb_Ev l E yX5_copyFrom cX5_copyFrom 2 none { frames := 1, cells := 0, slots := 0, locals := 18 } [.ref (E.2.1 h0), .ref (E.2.1 h1)] μ ((fun _ : Unit => none) b) μ' := by
  refine pb_enter (L := [some (.ref (E.2.1 h0)), some (.ref (E.2.1 h1))]) (by decide +kernel) (Nat.le_of_ble_eq_true rfl) (pb_same [none, none] rfl) (show wX5_copyFrom l E 0 [some (.ref (E.2.1 h0)), some (.ref (E.2.1 h1))] [] μ (pX5_copyFrom h0 h1 μ) from ?_)
  unfold pX5_copyFrom
  refine pb_aload_n 1 dX5_copyFrom_0 rfl rfl rfl ?_
  refine pb_getR 4 (j := 0) (d := (h1 + 1)) in_X5 rfl (by decide) hv1.1 rfl (by decide) fl_X5_11 dX5_copyFrom_1 rfl ?_
  refine pb_iconst 5 (v := 0) dX5_copyFrom_4 rfl (by decide) ?_
  refine pb_aload_n 6 dX5_copyFrom_5 rfl rfl rfl ?_
  refine pb_getR 9 (j := 0) (d := (h0 + 1)) in_X5 rfl (by decide) hv0.1 rfl (by decide) fl_X5_11 dX5_copyFrom_6 rfl ?_
  refine pb_iconst 10 (v := 0) dX5_copyFrom_9 rfl (by decide) ?_
  refine pb_bipush 12 (v := 52) dX5_copyFrom_10 rfl (by decide) ?_
  refine pb_guard (fun hcp => pb_copy 15 ml_X5_21 km_c2 km_c3 km_c4 hv1.2 hv0.2 hcp ⟨by decide, Nat.le_of_ble_eq_true rfl⟩ dX5_copyFrom_12 rfl ?_)
  exact pb_vret dX5_copyFrom_15
theorem mc_X5_copyFrom : pb_MC yX5_copyFrom cX5_copyFrom 2 none 1 := ⟨pb_inW 326 (by decide +kernel) (by decide +kernel), pb_inW 63 (by decide +kernel) (by decide +kernel), by decide +kernel, by decide +kernel, by decide +kernel⟩
theorem mi_X5_copyFrom : Cond.instanceMethod yX5_copyFrom ∈ pb_gw := pb_inW 324 (by decide +kernel) (by decide +kernel)
theorem ms_X5_copyFrom : Cond.selects (yX5_copyFrom).cls yX5_copyFrom yX5_copyFrom ∈ pb_gw := pb_inW 325 (by decide +kernel) (by decide +kernel)
theorem cl_X5_copyFrom {α : Type} {l : Launch} {E : pb_E} {R : Room} {own : String} {cc : ByteArray} {mL : Nat} {ret : Option FieldType} {Xs : State → Prop} {nc ns : Nat} {Qf : State → Array Value → List Frame → α → pb_M → State → Prop} {pc : Nat} {L : List (Option Value)} {S : List Value} {μ : pb_M} {f : Unit → pb_M → Option (α × pb_M)} {h0 : Nat} {h1 : Nat} {index : Nat} (q : Nat) (hv0 : pb_V h0) (hv1 : pb_V h1) (hR : 1 + 1 ≤ R.frames ∧ 8 + (2 + 11) + 18 ≤ R.locals ∧ nc ≤ R.cells ∧ ns ≤ R.slots) (hW : (S.map fun v => v.category).sum ≤ 8) (hl1 : Cond.methodLink own index yX5_copyFrom ∈ pb_gw) (hdg : decode cc pc = .ok (.invokevirtual index, 3)) (hq : pc + 3 = q) (k : ∀ b1 μ1, pb_RW l E R own cc mL ret Xs nc ns Qf q L S μ1 (f b1 μ1)) : pb_RW l E R own cc mL ret Xs nc ns Qf pc L (.ref (E.2.1 h1) :: .ref (E.2.1 h0) :: S) μ (pb_b (pX5_copyFrom h0 h1 μ) f) := pb_callV q (fun _ : Unit => none) mc_X5_copyFrom mi_X5_copyFrom ms_X5_copyFrom (fun b1 μ1 h => evX5_copyFrom l E h0 h1 hv0 hv1 μ b1 μ1 h) hv0.1 (by decide) rfl rfl rfl rfl hR rfl hW hl1 hdg hq k
def pX5_hasBeast (h0 : Nat) (v1 : Int32) (μ : pb_M) : Option (Int32 × pb_M) :=
  if v1 < (0 : Int32) then
    some ((0 : Int32), μ)
  else
  pb_b (pX5_beasts h0 μ) (fun b6 μ6 =>
  if b6 ≤ v1 then
    some ((0 : Int32), μ6)
  else
  some ((1 : Int32), μ6))
abbrev wX5_hasBeast (l : Launch) (E : pb_E) := pb_RW l E { frames := 1, cells := 0, slots := 0, locals := 20 } RX5 cX5_hasBeast 2 (some .boolean) (fun _ => True) 0 0 (pb_Qf E (fun z : Int32 => some (.int z)))
set_option maxRecDepth 100000 in
set_option maxHeartbeats 4000000 in
theorem evX5_hasBeast (l : Launch) (E : pb_E) (h0 : Nat) (v1 : Int32) (hv0 : pb_V h0) (μ : pb_M) : ∀ b μ', pX5_hasBeast h0 v1 μ = some (b, μ') → pb_Ev l E yX5_hasBeast cX5_hasBeast 2 (some .boolean) { frames := 1, cells := 0, slots := 0, locals := 20 } [.ref (E.2.1 h0), .int v1] μ ((fun z : Int32 => some (.int z)) b) μ' := by
  refine pb_enter (L := [some (.ref (E.2.1 h0)), some (.int v1)]) (by decide +kernel) (Nat.le_of_ble_eq_true rfl) (pb_same [none, none] rfl) (show wX5_hasBeast l E 0 [some (.ref (E.2.1 h0)), some (.int v1)] [] μ (pX5_hasBeast h0 v1 μ) from ?_)
  unfold pX5_hasBeast
  refine pb_iload_n 1 dX5_hasBeast_0 rfl rfl rfl ?_
  refine pb_if_lt 4 (tgt := 16) dX5_hasBeast_1 (by decide) rfl (fun _ => ?_) (fun _ => ?_)
  · refine pb_iconst 17 (v := 0) dX5_hasBeast_16 rfl (by decide) ?_
    exact pb_zret rfl dX5_hasBeast_17
  · refine pb_iload_n 5 dX5_hasBeast_4 rfl rfl rfl ?_
    refine pb_aload_n 6 dX5_hasBeast_5 rfl rfl rfl ?_
    refine cl_X5_beasts 9 hv0 ⟨by decide, by decide, by decide, by decide⟩ (Nat.le_of_ble_eq_true rfl) ml_X5_31 dX5_hasBeast_6 rfl (fun b6 μ6 => ?_)
    refine pb_icmp_ge 12 (tgt := 16) dX5_hasBeast_9 (by decide) rfl (fun _ => ?_) (fun _ => ?_)
    · refine pb_iconst 17 (v := 0) dX5_hasBeast_16 rfl (by decide) ?_
      exact pb_zret rfl dX5_hasBeast_17
    · refine pb_iconst 13 (v := 1) dX5_hasBeast_12 rfl (by decide) ?_
      refine pb_goto (tgt := 17) dX5_hasBeast_13 (by decide) ?_
      exact pb_zret rfl dX5_hasBeast_17
theorem mc_X5_hasBeast : pb_MC yX5_hasBeast cX5_hasBeast 2 (some .boolean) 1 := ⟨pb_inW 372 (by decide +kernel) (by decide +kernel), pb_inW 63 (by decide +kernel) (by decide +kernel), by decide +kernel, by decide +kernel, by decide +kernel⟩
theorem mi_X5_hasBeast : Cond.instanceMethod yX5_hasBeast ∈ pb_gw := pb_inW 370 (by decide +kernel) (by decide +kernel)
theorem ms_X5_hasBeast : Cond.selects (yX5_hasBeast).cls yX5_hasBeast yX5_hasBeast ∈ pb_gw := pb_inW 371 (by decide +kernel) (by decide +kernel)
theorem cl_X5_hasBeast {α : Type} {l : Launch} {E : pb_E} {R : Room} {own : String} {cc : ByteArray} {mL : Nat} {ret : Option FieldType} {Xs : State → Prop} {nc ns : Nat} {Qf : State → Array Value → List Frame → α → pb_M → State → Prop} {pc : Nat} {L : List (Option Value)} {S : List Value} {μ : pb_M} {f : Int32 → pb_M → Option (α × pb_M)} {h0 : Nat} {v1 : Int32} {index : Nat} (q : Nat) (hv0 : pb_V h0) (hR : 1 + 1 ≤ R.frames ∧ 8 + (2 + 11) + 20 ≤ R.locals ∧ nc ≤ R.cells ∧ ns ≤ R.slots) (hW : (S.map fun v => v.category).sum ≤ 8) (hl1 : Cond.methodLink own index yX5_hasBeast ∈ pb_gw) (hdg : decode cc pc = .ok (.invokevirtual index, 3)) (hq : pc + 3 = q) (k : ∀ b1 μ1, pb_RW l E R own cc mL ret Xs nc ns Qf q L (.int b1 :: S) μ1 (f b1 μ1)) : pb_RW l E R own cc mL ret Xs nc ns Qf pc L (.int v1 :: .ref (E.2.1 h0) :: S) μ (pb_b (pX5_hasBeast h0 v1 μ) f) := pb_callV q (fun z : Int32 => some (.int z)) mc_X5_hasBeast mi_X5_hasBeast ms_X5_hasBeast (fun b1 μ1 h => evX5_hasBeast l E h0 v1 hv0 μ b1 μ1 h) hv0.1 (by decide) rfl rfl rfl rfl hR rfl hW hl1 hdg hq k
