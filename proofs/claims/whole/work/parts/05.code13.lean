theorem ml_X7_76 : Cond.methodLink RX7 76 yX7_readPart ∈ pb_gw := pb_inW 872 (by decide +kernel) (by decide +kernel)
def pX7_readText_L23 (K42 : pb_M → Option (Int32 × pb_M)) : Nat → Int32 → pb_M → Option (Int32 × pb_M)
  | 0, _, _ => none
  | n + 1, v1, μ =>
    if (45 : Int32) ≤ v1 then
      K42 μ
    else
    if pb_in v1 45 then
      pX7_readText_L23 K42 n (v1 + (1 : Int32)) (pb_sA μ 22 (upd (μ.1 22) (v1).toNatClampNeg (0 : Int32)))
    else none
def pX7_readText_L67  : Nat → pb_M → Option (Int32 × pb_M)
  | 0, _ => none
  | n + 1, μ =>
    if (μ.1 19 11) = (-9 : Int32) then
      if (μ.1 19 9) ≤ (μ.1 19 10) then
        some ((μ.1 19 11), μ)
      else
      if pb_in (μ.1 19 10) 56 then
        pb_b (pX7_readPart (μ.1 24 ((μ.1 19 10)).toNatClampNeg) μ) (fun b97 μ97 =>
        pX7_readText_L67 n μ97)
      else none
    else
    some ((μ.1 19 11), μ)
def pX7_readText  (μ : pb_M) : Option (Int32 × pb_M) :=
  pX7_readText_L23 (fun μk42 =>
    if (μk42.1 19 9) = (0 : Int32) then
      some ((0 : Int32), μk42)
    else
    if (μk42.1 24 0) = (86 : Int32) then
      pX7_readText_L67 pb_F (pb_sA μk42 19 (upd (μk42.1 19) 10 (1 : Int32)))
    else
    some ((0 : Int32), μk42)) pb_F (0 : Int32) (pb_sA (pb_sA (pb_sA (pb_sA μ 19 (upd (μ.1 19) 10 (0 : Int32))) 19 (upd ((pb_sA μ 19 (upd (μ.1 19) 10 (0 : Int32))).1 19) 11 (-9 : Int32))) 19 (upd ((pb_sA (pb_sA μ 19 (upd (μ.1 19) 10 (0 : Int32))) 19 (upd ((pb_sA μ 19 (upd (μ.1 19) 10 (0 : Int32))).1 19) 11 (-9 : Int32))).1 19) 6 (0 : Int32))) 19 (upd ((pb_sA (pb_sA (pb_sA μ 19 (upd (μ.1 19) 10 (0 : Int32))) 19 (upd ((pb_sA μ 19 (upd (μ.1 19) 10 (0 : Int32))).1 19) 11 (-9 : Int32))) 19 (upd ((pb_sA (pb_sA μ 19 (upd (μ.1 19) 10 (0 : Int32))) 19 (upd ((pb_sA μ 19 (upd (μ.1 19) 10 (0 : Int32))).1 19) 11 (-9 : Int32))).1 19) 6 (0 : Int32))).1 19) 7 (0 : Int32)))
abbrev wX7_readText (l : Launch) (E : pb_E) := pb_RW l E { frames := 3, cells := 0, slots := 0, locals := 72 } RX7 cX7_readText 2 (some .int) (fun _ => True) 0 0 (pb_Qf E (fun z : Int32 => some (.int z)))
set_option maxRecDepth 100000 in
set_option maxHeartbeats 4000000 in
theorem tX7_readText_L23 (l : Launch) (E : pb_E)  {K42 : pb_M → Option (Int32 × pb_M)} (hK42 : ∀  (μ : pb_M), wX7_readText l E 42 [some (.ref (E.2.1 19)), none] [] μ (K42  μ)) : ∀ (n : Nat) (v1 : Int32) (μ : pb_M), wX7_readText l E 23 [some (.ref (E.2.1 19)), some (.int v1)] [] μ (pX7_readText_L23 K42 n v1 μ) := by
  intro n
  induction n with
  | zero => intro v1 μ; exact pb_none
  | succ n ih =>
    intro v1 μ
    rw [pX7_readText_L23]
    refine pb_iload_n 24 dX7_readText_23 rfl rfl rfl ?_
    refine pb_bipush 26 (v := 45) dX7_readText_24 rfl (by decide) ?_
    refine pb_icmp_ge 29 (tgt := 42) dX7_readText_26 (by decide) rfl (fun _ => ?_) (fun _ => ?_)
    · refine pb_weakM (L' := [some (.ref (E.2.1 19)), none]) [true, false] rfl ?_
      exact hK42 μ
    · refine pb_aload_n 30 dX7_readText_29 rfl rfl rfl ?_
      refine pb_getR 33 (j := 4) (d := 22) in_X7 rfl (by decide) rfl rfl (by decide) fl_X7_16 dX7_readText_30 rfl ?_
      refine pb_iload_n 34 dX7_readText_33 rfl rfl rfl ?_
      refine pb_iconst 35 (v := 0) dX7_readText_34 rfl (by decide) ?_
      refine pb_guard (fun hin => pb_iast 36 rfl hin rfl dX7_readText_35 rfl ?_)
      refine pb_iinc 39 (i := 1) (v := (v1 + (1 : Int32))) (L' := [some (.ref (E.2.1 19)), some (.int (v1 + (1 : Int32)))]) dX7_readText_36 rfl rfl (by decide) rfl rfl rfl ?_
      refine pb_goto (tgt := 23) dX7_readText_39 (by decide) ?_
      exact ih (v1 + (1 : Int32)) (pb_sA μ 22 (upd (μ.1 22) (v1).toNatClampNeg (0 : Int32)))
set_option maxRecDepth 100000 in
set_option maxHeartbeats 4000000 in
theorem tX7_readText_L67 (l : Launch) (E : pb_E)    : ∀ (n : Nat)  (μ : pb_M), wX7_readText l E 67 [some (.ref (E.2.1 19)), none] [] μ (pX7_readText_L67 n  μ) := by
  intro n
  induction n with
  | zero => intro  μ; exact pb_none
  | succ n ih =>
    intro  μ
    rw [pX7_readText_L67]
    refine pb_aload_n 68 dX7_readText_67 rfl rfl rfl ?_
    refine pb_getI 71 (j := 11) in_X7 rfl (by decide) rfl rfl (by decide) fl_X7_54 dX7_readText_68 rfl ?_
    refine pb_bipush 73 (v := -9) dX7_readText_71 rfl (by decide) ?_
    refine pb_icmp_ne 76 (tgt := 103) dX7_readText_73 (by decide) rfl (fun _ => ?_) (fun _ => ?_)
    · refine pb_aload_n 77 dX7_readText_76 rfl rfl rfl ?_
      refine pb_getI 80 (j := 10) in_X7 rfl (by decide) rfl rfl (by decide) fl_X7_57 dX7_readText_77 rfl ?_
      refine pb_aload_n 81 dX7_readText_80 rfl rfl rfl ?_
      refine pb_getI 84 (j := 9) in_X7 rfl (by decide) rfl rfl (by decide) fl_X7_51 dX7_readText_81 rfl ?_
      refine pb_icmp_ge 87 (tgt := 103) dX7_readText_84 (by decide) rfl (fun _ => ?_) (fun _ => ?_)
      · refine pb_aload_n 104 dX7_readText_103 rfl rfl rfl ?_
        refine pb_getI 107 (j := 11) in_X7 rfl (by decide) rfl rfl (by decide) fl_X7_54 dX7_readText_104 rfl ?_
        exact pb_iret dX7_readText_107
      · refine pb_aload_n 88 dX7_readText_87 rfl rfl rfl ?_
        refine pb_aload_n 89 dX7_readText_88 rfl rfl rfl ?_
        refine pb_getR 92 (j := 8) (d := 24) in_X7 rfl (by decide) rfl rfl (by decide) fl_X7_22 dX7_readText_89 rfl ?_
        refine pb_aload_n 93 dX7_readText_92 rfl rfl rfl ?_
        refine pb_getI 96 (j := 10) in_X7 rfl (by decide) rfl rfl (by decide) fl_X7_57 dX7_readText_93 rfl ?_
        refine pb_guard (fun hin => pb_iald 97 rfl hin rfl dX7_readText_96 rfl ?_)
        refine cl_X7_readPart 100 ⟨by decide, by decide, by decide, by decide⟩ (Nat.le_of_ble_eq_true rfl) ml_X7_76 dX7_readText_97 rfl (fun b97 μ97 => ?_)
        refine pb_goto (tgt := 67) dX7_readText_100 (by decide) ?_
        exact ih μ97
    · refine pb_aload_n 104 dX7_readText_103 rfl rfl rfl ?_
      refine pb_getI 107 (j := 11) in_X7 rfl (by decide) rfl rfl (by decide) fl_X7_54 dX7_readText_104 rfl ?_
      exact pb_iret dX7_readText_107
set_option maxRecDepth 100000 in
set_option maxHeartbeats 4000000 in
theorem evX7_readText (l : Launch) (E : pb_E)   (μ : pb_M) : ∀ b μ', pX7_readText  μ = some (b, μ') → pb_Ev l E yX7_readText cX7_readText 2 (some .int) { frames := 3, cells := 0, slots := 0, locals := 72 } [.ref (E.2.1 19)] μ ((fun z : Int32 => some (.int z)) b) μ' := by
  refine pb_enter (L := [some (.ref (E.2.1 19)), none]) (by decide +kernel) (Nat.le_of_ble_eq_true rfl) (pb_same [none, none] rfl) (show wX7_readText l E 0 [some (.ref (E.2.1 19)), none] [] μ (pX7_readText  μ) from ?_)
  unfold pX7_readText
  refine pb_aload_n 1 dX7_readText_0 rfl rfl rfl ?_
  refine pb_iconst 2 (v := 0) dX7_readText_1 rfl (by decide) ?_
  refine pb_putI 5 (j := 10) tyX7 tyX7_ok nmX7 in_X7 rfl (by decide) rfl rfl (by decide) fl_X7_57 rfl (by decide +kernel) dX7_readText_2 rfl ?_
  refine pb_aload_n 6 dX7_readText_5 rfl rfl rfl ?_
  refine pb_bipush 8 (v := -9) dX7_readText_6 rfl (by decide) ?_
  refine pb_putI 11 (j := 11) tyX7 tyX7_ok nmX7 in_X7 rfl (by decide) rfl rfl (by decide) fl_X7_54 rfl (by decide +kernel) dX7_readText_8 rfl ?_
  refine pb_aload_n 12 dX7_readText_11 rfl rfl rfl ?_
  refine pb_iconst 13 (v := 0) dX7_readText_12 rfl (by decide) ?_
  refine pb_putI 16 (j := 6) tyX7 tyX7_ok nmX7 in_X7 rfl (by decide) rfl rfl (by decide) fl_X7_66 rfl (by decide +kernel) dX7_readText_13 rfl ?_
  refine pb_aload_n 17 dX7_readText_16 rfl rfl rfl ?_
  refine pb_iconst 18 (v := 0) dX7_readText_17 rfl (by decide) ?_
  refine pb_putI 21 (j := 7) tyX7 tyX7_ok nmX7 in_X7 rfl (by decide) rfl rfl (by decide) fl_X7_73 rfl (by decide +kernel) dX7_readText_18 rfl ?_
  refine pb_iconst 22 (v := 0) dX7_readText_21 rfl (by decide) ?_
  refine pb_istore_n 23 (i := 1) (L' := [some (.ref (E.2.1 19)), some (.int (0 : Int32))]) dX7_readText_22 rfl (by decide) rfl rfl rfl ?_
  refine tX7_readText_L23 l E (fun μk42 => ?_) pb_F (0 : Int32) (pb_sA (pb_sA (pb_sA (pb_sA μ 19 (upd (μ.1 19) 10 (0 : Int32))) 19 (upd ((pb_sA μ 19 (upd (μ.1 19) 10 (0 : Int32))).1 19) 11 (-9 : Int32))) 19 (upd ((pb_sA (pb_sA μ 19 (upd (μ.1 19) 10 (0 : Int32))) 19 (upd ((pb_sA μ 19 (upd (μ.1 19) 10 (0 : Int32))).1 19) 11 (-9 : Int32))).1 19) 6 (0 : Int32))) 19 (upd ((pb_sA (pb_sA (pb_sA μ 19 (upd (μ.1 19) 10 (0 : Int32))) 19 (upd ((pb_sA μ 19 (upd (μ.1 19) 10 (0 : Int32))).1 19) 11 (-9 : Int32))) 19 (upd ((pb_sA (pb_sA μ 19 (upd (μ.1 19) 10 (0 : Int32))) 19 (upd ((pb_sA μ 19 (upd (μ.1 19) 10 (0 : Int32))).1 19) 11 (-9 : Int32))).1 19) 6 (0 : Int32))).1 19) 7 (0 : Int32)))
  refine pb_aload_n 43 dX7_readText_42 rfl rfl rfl ?_
  refine pb_getI 46 (j := 9) in_X7 rfl (by decide) rfl rfl (by decide) fl_X7_51 dX7_readText_43 rfl ?_
  refine pb_if_eq 49 (tgt := 60) dX7_readText_46 (by decide) rfl (fun _ => ?_) (fun _ => ?_)
  · refine pb_iconst 61 (v := 0) dX7_readText_60 rfl (by decide) ?_
    exact pb_iret dX7_readText_61
  · refine pb_aload_n 50 dX7_readText_49 rfl rfl rfl ?_
    refine pb_getR 53 (j := 8) (d := 24) in_X7 rfl (by decide) rfl rfl (by decide) fl_X7_22 dX7_readText_50 rfl ?_
    refine pb_iconst 54 (v := 0) dX7_readText_53 rfl (by decide) ?_
    refine pb_iald 55 (j := 0) rfl (by decide) (by decide) dX7_readText_54 rfl ?_
    refine pb_bipush 57 (v := 86) dX7_readText_55 rfl (by decide) ?_
    refine pb_icmp_eq 60 (tgt := 62) dX7_readText_57 (by decide) rfl (fun _ => ?_) (fun _ => ?_)
    · refine pb_aload_n 63 dX7_readText_62 rfl rfl rfl ?_
      refine pb_iconst 64 (v := 1) dX7_readText_63 rfl (by decide) ?_
      refine pb_putI 67 (j := 10) tyX7 tyX7_ok nmX7 in_X7 rfl (by decide) rfl rfl (by decide) fl_X7_57 rfl (by decide +kernel) dX7_readText_64 rfl ?_
      exact tX7_readText_L67 l E pb_F (pb_sA μk42 19 (upd (μk42.1 19) 10 (1 : Int32)))
    · refine pb_iconst 61 (v := 0) dX7_readText_60 rfl (by decide) ?_
      exact pb_iret dX7_readText_61
theorem mc_X7_readText : pb_MC yX7_readText cX7_readText 2 (some .int) 0 := ⟨pb_inW 871 (by decide +kernel) (by decide +kernel), pb_inW 68 (by decide +kernel) (by decide +kernel), by decide +kernel, by decide +kernel, by decide +kernel⟩
theorem mi_X7_readText : Cond.instanceMethod yX7_readText ∈ pb_gw := pb_inW 870 (by decide +kernel) (by decide +kernel)
theorem ms_X7_readText : Cond.selects (yX7_readText).cls yX7_readText yX7_readText ∈ pb_gw := pb_inW 27 (by decide +kernel) (by decide +kernel)
theorem cl_X7_readText {α : Type} {l : Launch} {E : pb_E} {R : Room} {own : String} {cc : ByteArray} {mL : Nat} {ret : Option FieldType} {Xs : State → Prop} {nc ns : Nat} {Qf : State → Array Value → List Frame → α → pb_M → State → Prop} {pc : Nat} {L : List (Option Value)} {S : List Value} {μ : pb_M} {f : Int32 → pb_M → Option (α × pb_M)}  {index : Nat} (q : Nat)  (hR : 3 + 1 ≤ R.frames ∧ 8 + (2 + 11) + 72 ≤ R.locals ∧ nc ≤ R.cells ∧ ns ≤ R.slots) (hW : (S.map fun v => v.category).sum ≤ 8) (hl1 : Cond.methodLink own index yX7_readText ∈ pb_gw) (hdg : decode cc pc = .ok (.invokevirtual index, 3)) (hq : pc + 3 = q) (k : ∀ b1 μ1, pb_RW l E R own cc mL ret Xs nc ns Qf q L (.int b1 :: S) μ1 (f b1 μ1)) : pb_RW l E R own cc mL ret Xs nc ns Qf pc L (.ref (E.2.1 19) :: S) μ (pb_b (pX7_readText  μ) f) := pb_callV q (fun z : Int32 => some (.int z)) mc_X7_readText mi_X7_readText ms_X7_readText (fun b1 μ1 h => evX7_readText l E   μ b1 μ1 h) rfl (by decide) rfl rfl rfl rfl hR rfl hW hl1 hdg hq k
theorem ml_X7_91 : Cond.methodLink RX7 91 yX7_readText ∈ pb_gw := pb_inW 868 (by decide +kernel) (by decide +kernel)
def pX7_fault  (μ : pb_M) : Option (Int32 × pb_M) :=
  pb_b (pX7_readText μ) (fun b1 μ1 =>
  some (b1, μ1))
abbrev wX7_fault (l : Launch) (E : pb_E) := pb_RW l E { frames := 4, cells := 0, slots := 0, locals := 93 } RX7 cX7_fault 1 (some .int) (fun _ => True) 0 0 (pb_Qf E (fun z : Int32 => some (.int z)))
set_option maxRecDepth 100000 in
set_option maxHeartbeats 4000000 in
theorem evX7_fault (l : Launch) (E : pb_E)   (μ : pb_M) : ∀ b μ', pX7_fault  μ = some (b, μ') → pb_Ev l E yX7_fault cX7_fault 1 (some .int) { frames := 4, cells := 0, slots := 0, locals := 93 } [.ref (E.2.1 19)] μ ((fun z : Int32 => some (.int z)) b) μ' := by
  refine pb_enter (L := [some (.ref (E.2.1 19))]) (by decide +kernel) (Nat.le_of_ble_eq_true rfl) (pb_same [none] rfl) (show wX7_fault l E 0 [some (.ref (E.2.1 19))] [] μ (pX7_fault  μ) from ?_)
  unfold pX7_fault
  refine pb_aload_n 1 dX7_fault_0 rfl rfl rfl ?_
  refine cl_X7_readText 4 ⟨by decide, by decide, by decide, by decide⟩ (Nat.le_of_ble_eq_true rfl) ml_X7_91 dX7_fault_1 rfl (fun b1 μ1 => ?_)
  exact pb_iret dX7_fault_4
theorem mc_X7_fault : pb_MC yX7_fault cX7_fault 1 (some .int) 0 := ⟨pb_inW 867 (by decide +kernel) (by decide +kernel), pb_inW 68 (by decide +kernel) (by decide +kernel), by decide +kernel, by decide +kernel, by decide +kernel⟩
theorem mi_X7_fault : Cond.instanceMethod yX7_fault ∈ pb_gw := pb_inW 865 (by decide +kernel) (by decide +kernel)
theorem ms_X7_fault : Cond.selects (yX7_fault).cls yX7_fault yX7_fault ∈ pb_gw := pb_inW 866 (by decide +kernel) (by decide +kernel)
theorem cl_X7_fault {α : Type} {l : Launch} {E : pb_E} {R : Room} {own : String} {cc : ByteArray} {mL : Nat} {ret : Option FieldType} {Xs : State → Prop} {nc ns : Nat} {Qf : State → Array Value → List Frame → α → pb_M → State → Prop} {pc : Nat} {L : List (Option Value)} {S : List Value} {μ : pb_M} {f : Int32 → pb_M → Option (α × pb_M)}  {index : Nat} (q : Nat)  (hR : 4 + 1 ≤ R.frames ∧ 8 + (1 + 11) + 93 ≤ R.locals ∧ nc ≤ R.cells ∧ ns ≤ R.slots) (hW : (S.map fun v => v.category).sum ≤ 8) (hl1 : Cond.methodLink own index yX7_fault ∈ pb_gw) (hdg : decode cc pc = .ok (.invokevirtual index, 3)) (hq : pc + 3 = q) (k : ∀ b1 μ1, pb_RW l E R own cc mL ret Xs nc ns Qf q L (.int b1 :: S) μ1 (f b1 μ1)) : pb_RW l E R own cc mL ret Xs nc ns Qf pc L (.ref (E.2.1 19) :: S) μ (pb_b (pX7_fault  μ) f) := pb_callV q (fun z : Int32 => some (.int z)) mc_X7_fault mi_X7_fault ms_X7_fault (fun b1 μ1 h => evX7_fault l E   μ b1 μ1 h) rfl (by decide) rfl rfl rfl rfl hR rfl hW hl1 hdg hq k
theorem fl_X7_13 : Cond.fieldLink RX7 13 (TX7 3).1 (TX7 3).2.1 (TX7 3).2.2.1 ∈ pb_gw := pb_inW 787 (by decide +kernel) (by decide +kernel)
theorem fl_X7_34 : Cond.fieldLink RX7 34 (TX7 20).1 (TX7 20).2.1 (TX7 20).2.2.1 ∈ pb_gw := pb_inW 804 (by decide +kernel) (by decide +kernel)
theorem fl_X7_41 : Cond.fieldLink RX7 41 (TX7 0).1 (TX7 0).2.1 (TX7 0).2.2.1 ∈ pb_gw := pb_inW 784 (by decide +kernel) (by decide +kernel)
theorem fl_X7_7 : Cond.fieldLink RX7 7 (TX7 2).1 (TX7 2).2.1 (TX7 2).2.2.1 ∈ pb_gw := pb_inW 786 (by decide +kernel) (by decide +kernel)
theorem fl_X7_94 : Cond.fieldLink RX7 94 (TX7 1).1 (TX7 1).2.1 (TX7 1).2.2.1 ∈ pb_gw := pb_inW 785 (by decide +kernel) (by decide +kernel)
theorem fl_X7_97 : Cond.fieldLink RX7 97 (TX7 12).1 (TX7 12).2.1 (TX7 12).2.2.1 ∈ pb_gw := pb_inW 796 (by decide +kernel) (by decide +kernel)
def pX7_village_L30 (K53 : pb_M → Option (Int32 × pb_M)) : Nat → Int32 → pb_M → Option (Int32 × pb_M)
  | 0, _, _ => none
  | n + 1, v1, μ =>
    if (5 : Int32) ≤ v1 then
      K53 μ
    else
    if pb_in v1 5 then
      if pb_in v1 5 then
        pX7_village_L30 K53 n (v1 + (1 : Int32)) (pb_sA μ 20 (upd (μ.1 20) (v1).toNatClampNeg (μ.1 23 (v1).toNatClampNeg)))
      else none
    else none
def pX7_village_L55 (K79 : pb_M → Option (Int32 × pb_M)) : Nat → Int32 → pb_M → Option (Int32 × pb_M)
  | 0, _, _ => none
  | n + 1, v1, μ =>
    if (45 : Int32) ≤ v1 then
      K79 μ
    else
    if pb_in v1 45 then
      if pb_in v1 90 then
        pX7_village_L55 K79 n (v1 + (1 : Int32)) (pb_sA μ 21 (upd (μ.1 21) (v1).toNatClampNeg (μ.1 22 (v1).toNatClampNeg)))
      else none
    else none
def pX7_village  (μ : pb_M) : Option (Int32 × pb_M) :=
  pb_b (pX7_readText μ) (fun b1 μ1 =>
  if b1 = (-9 : Int32) then
    pX7_village_L30 (fun μk53 =>
      pX7_village_L55 (fun μk79 =>
        some ((((10 : Int32) * ((pb_sA (pb_sA (pb_sA μk79 19 (upd (μk79.1 19) 12 (0 : Int32))) 28 (upd ((pb_sA μk79 19 (upd (μk79.1 19) 12 (0 : Int32))).1 28) 0 (0 : Int32))) 28 (upd ((pb_sA (pb_sA μk79 19 (upd (μk79.1 19) 12 (0 : Int32))) 28 (upd ((pb_sA μk79 19 (upd (μk79.1 19) 12 (0 : Int32))).1 28) 0 (0 : Int32))).1 28) 1 (0 : Int32))).1 19 0)) + ((pb_sA (pb_sA (pb_sA μk79 19 (upd (μk79.1 19) 12 (0 : Int32))) 28 (upd ((pb_sA μk79 19 (upd (μk79.1 19) 12 (0 : Int32))).1 28) 0 (0 : Int32))) 28 (upd ((pb_sA (pb_sA μk79 19 (upd (μk79.1 19) 12 (0 : Int32))) 28 (upd ((pb_sA μk79 19 (upd (μk79.1 19) 12 (0 : Int32))).1 28) 0 (0 : Int32))).1 28) 1 (0 : Int32))).1 19 1)), (pb_sA (pb_sA (pb_sA μk79 19 (upd (μk79.1 19) 12 (0 : Int32))) 28 (upd ((pb_sA μk79 19 (upd (μk79.1 19) 12 (0 : Int32))).1 28) 0 (0 : Int32))) 28 (upd ((pb_sA (pb_sA μk79 19 (upd (μk79.1 19) 12 (0 : Int32))) 28 (upd ((pb_sA μk79 19 (upd (μk79.1 19) 12 (0 : Int32))).1 28) 0 (0 : Int32))).1 28) 1 (0 : Int32))))) pb_F (0 : Int32) μk53) pb_F (0 : Int32) (pb_sA (pb_sA μ1 19 (upd (μ1.1 19) 0 (μ1.1 19 6))) 19 (upd ((pb_sA μ1 19 (upd (μ1.1 19) 0 (μ1.1 19 6))).1 19) 1 ((pb_sA μ1 19 (upd (μ1.1 19) 0 (μ1.1 19 6))).1 19 7)))
  else
  some ((-3 : Int32), μ1))
abbrev wX7_village (l : Launch) (E : pb_E) := pb_RW l E { frames := 4, cells := 0, slots := 0, locals := 93 } RX7 cX7_village 2 (some .int) (fun _ => True) 0 0 (pb_Qf E (fun z : Int32 => some (.int z)))
set_option maxRecDepth 100000 in
set_option maxHeartbeats 4000000 in
theorem tX7_village_L30 (l : Launch) (E : pb_E)  {K53 : pb_M → Option (Int32 × pb_M)} (hK53 : ∀  (μ : pb_M), wX7_village l E 53 [some (.ref (E.2.1 19)), none] [] μ (K53  μ)) : ∀ (n : Nat) (v1 : Int32) (μ : pb_M), wX7_village l E 30 [some (.ref (E.2.1 19)), some (.int v1)] [] μ (pX7_village_L30 K53 n v1 μ) := by
  intro n
  induction n with
  | zero => intro v1 μ; exact pb_none
  | succ n ih =>
    intro v1 μ
    rw [pX7_village_L30]
    refine pb_iload_n 31 dX7_village_30 rfl rfl rfl ?_
    refine pb_iconst 32 (v := 5) dX7_village_31 rfl (by decide) ?_
    refine pb_icmp_ge 35 (tgt := 53) dX7_village_32 (by decide) rfl (fun _ => ?_) (fun _ => ?_)
    · refine pb_weakM (L' := [some (.ref (E.2.1 19)), none]) [true, false] rfl ?_
      exact hK53 μ
    · refine pb_aload_n 36 dX7_village_35 rfl rfl rfl ?_
      refine pb_getR 39 (j := 2) (d := 20) in_X7 rfl (by decide) rfl rfl (by decide) fl_X7_7 dX7_village_36 rfl ?_
      refine pb_iload_n 40 dX7_village_39 rfl rfl rfl ?_
      refine pb_aload_n 41 dX7_village_40 rfl rfl rfl ?_
      refine pb_getR 44 (j := 5) (d := 23) in_X7 rfl (by decide) rfl rfl (by decide) fl_X7_19 dX7_village_41 rfl ?_
      refine pb_iload_n 45 dX7_village_44 rfl rfl rfl ?_
      refine pb_guard (fun hin => pb_iald 46 rfl hin rfl dX7_village_45 rfl ?_)
      refine pb_guard (fun hin => pb_iast 47 rfl hin rfl dX7_village_46 rfl ?_)
      refine pb_iinc 50 (i := 1) (v := (v1 + (1 : Int32))) (L' := [some (.ref (E.2.1 19)), some (.int (v1 + (1 : Int32)))]) dX7_village_47 rfl rfl (by decide) rfl rfl rfl ?_
      refine pb_goto (tgt := 30) dX7_village_50 (by decide) ?_
      exact ih (v1 + (1 : Int32)) (pb_sA μ 20 (upd (μ.1 20) (v1).toNatClampNeg (μ.1 23 (v1).toNatClampNeg)))
set_option maxRecDepth 100000 in
set_option maxHeartbeats 4000000 in
theorem tX7_village_L55 (l : Launch) (E : pb_E)  {K79 : pb_M → Option (Int32 × pb_M)} (hK79 : ∀  (μ : pb_M), wX7_village l E 79 [some (.ref (E.2.1 19)), none] [] μ (K79  μ)) : ∀ (n : Nat) (v1 : Int32) (μ : pb_M), wX7_village l E 55 [some (.ref (E.2.1 19)), some (.int v1)] [] μ (pX7_village_L55 K79 n v1 μ) := by
  intro n
  induction n with
  | zero => intro v1 μ; exact pb_none
  | succ n ih =>
    intro v1 μ
    rw [pX7_village_L55]
    refine pb_iload_n 56 dX7_village_55 rfl rfl rfl ?_
    refine pb_bipush 58 (v := 45) dX7_village_56 rfl (by decide) ?_
    refine pb_icmp_ge 61 (tgt := 79) dX7_village_58 (by decide) rfl (fun _ => ?_) (fun _ => ?_)
    · refine pb_weakM (L' := [some (.ref (E.2.1 19)), none]) [true, false] rfl ?_
      exact hK79 μ
    · refine pb_aload_n 62 dX7_village_61 rfl rfl rfl ?_
      refine pb_getR 65 (j := 3) (d := 21) in_X7 rfl (by decide) rfl rfl (by decide) fl_X7_13 dX7_village_62 rfl ?_
      refine pb_iload_n 66 dX7_village_65 rfl rfl rfl ?_
      refine pb_aload_n 67 dX7_village_66 rfl rfl rfl ?_
      refine pb_getR 70 (j := 4) (d := 22) in_X7 rfl (by decide) rfl rfl (by decide) fl_X7_16 dX7_village_67 rfl ?_
      refine pb_iload_n 71 dX7_village_70 rfl rfl rfl ?_
      refine pb_guard (fun hin => pb_iald 72 rfl hin rfl dX7_village_71 rfl ?_)
      refine pb_guard (fun hin => pb_iast 73 rfl hin rfl dX7_village_72 rfl ?_)
      refine pb_iinc 76 (i := 1) (v := (v1 + (1 : Int32))) (L' := [some (.ref (E.2.1 19)), some (.int (v1 + (1 : Int32)))]) dX7_village_73 rfl rfl (by decide) rfl rfl rfl ?_
      refine pb_goto (tgt := 55) dX7_village_76 (by decide) ?_
      exact ih (v1 + (1 : Int32)) (pb_sA μ 21 (upd (μ.1 21) (v1).toNatClampNeg (μ.1 22 (v1).toNatClampNeg)))
set_option maxRecDepth 100000 in
set_option maxHeartbeats 4000000 in
theorem evX7_village (l : Launch) (E : pb_E)   (μ : pb_M) : ∀ b μ', pX7_village  μ = some (b, μ') → pb_Ev l E yX7_village cX7_village 2 (some .int) { frames := 4, cells := 0, slots := 0, locals := 93 } [.ref (E.2.1 19)] μ ((fun z : Int32 => some (.int z)) b) μ' := by
  refine pb_enter (L := [some (.ref (E.2.1 19)), none]) (by decide +kernel) (Nat.le_of_ble_eq_true rfl) (pb_same [none, none] rfl) (show wX7_village l E 0 [some (.ref (E.2.1 19)), none] [] μ (pX7_village  μ) from ?_)
  unfold pX7_village
  refine pb_aload_n 1 dX7_village_0 rfl rfl rfl ?_
  refine cl_X7_readText 4 ⟨by decide, by decide, by decide, by decide⟩ (Nat.le_of_ble_eq_true rfl) ml_X7_91 dX7_village_1 rfl (fun b1 μ1 => ?_)
  refine pb_bipush 6 (v := -9) dX7_village_4 rfl (by decide) ?_
  refine pb_icmp_eq 9 (tgt := 12) dX7_village_6 (by decide) rfl (fun _ => ?_) (fun _ => ?_)
  · refine pb_aload_n 13 dX7_village_12 rfl rfl rfl ?_
    refine pb_aload_n 14 dX7_village_13 rfl rfl rfl ?_
    refine pb_getI 17 (j := 6) in_X7 rfl (by decide) rfl rfl (by decide) fl_X7_66 dX7_village_14 rfl ?_
    refine pb_putI 20 (j := 0) tyX7 tyX7_ok nmX7 in_X7 rfl (by decide) rfl rfl (by decide) fl_X7_41 rfl (by decide +kernel) dX7_village_17 rfl ?_
    refine pb_aload_n 21 dX7_village_20 rfl rfl rfl ?_
    refine pb_aload_n 22 dX7_village_21 rfl rfl rfl ?_
    refine pb_getI 25 (j := 7) in_X7 rfl (by decide) rfl rfl (by decide) fl_X7_73 dX7_village_22 rfl ?_
    refine pb_putI 28 (j := 1) tyX7 tyX7_ok nmX7 in_X7 rfl (by decide) rfl rfl (by decide) fl_X7_94 rfl (by decide +kernel) dX7_village_25 rfl ?_
    refine pb_iconst 29 (v := 0) dX7_village_28 rfl (by decide) ?_
    refine pb_istore_n 30 (i := 1) (L' := [some (.ref (E.2.1 19)), some (.int (0 : Int32))]) dX7_village_29 rfl (by decide) rfl rfl rfl ?_
    refine tX7_village_L30 l E (fun μk53 => ?_) pb_F (0 : Int32) (pb_sA (pb_sA μ1 19 (upd (μ1.1 19) 0 (μ1.1 19 6))) 19 (upd ((pb_sA μ1 19 (upd (μ1.1 19) 0 (μ1.1 19 6))).1 19) 1 ((pb_sA μ1 19 (upd (μ1.1 19) 0 (μ1.1 19 6))).1 19 7)))
    refine pb_iconst 54 (v := 0) dX7_village_53 rfl (by decide) ?_
    refine pb_istore_n 55 (i := 1) (L' := [some (.ref (E.2.1 19)), some (.int (0 : Int32))]) dX7_village_54 rfl (by decide) rfl rfl rfl ?_
    refine tX7_village_L55 l E (fun μk79 => ?_) pb_F (0 : Int32) μk53
    refine pb_aload_n 80 dX7_village_79 rfl rfl rfl ?_
    refine pb_iconst 81 (v := 0) dX7_village_80 rfl (by decide) ?_
    refine pb_putI 84 (j := 12) tyX7 tyX7_ok nmX7 in_X7 rfl (by decide) rfl rfl (by decide) fl_X7_97 rfl (by decide +kernel) dX7_village_81 rfl ?_
    refine pb_aload_n 85 dX7_village_84 rfl rfl rfl ?_
    refine pb_getR 88 (j := 20) (d := 28) in_X7 rfl (by decide) rfl rfl (by decide) fl_X7_34 dX7_village_85 rfl ?_
    refine pb_iconst 89 (v := 0) dX7_village_88 rfl (by decide) ?_
    refine pb_iconst 90 (v := 0) dX7_village_89 rfl (by decide) ?_
    refine pb_zast 91 (j := 0) rfl (by decide) (by decide) (by decide) dX7_village_90 rfl ?_
    refine pb_aload_n 92 dX7_village_91 rfl rfl rfl ?_
    refine pb_getR 95 (j := 20) (d := 28) in_X7 rfl (by decide) rfl rfl (by decide) fl_X7_34 dX7_village_92 rfl ?_
    refine pb_iconst 96 (v := 1) dX7_village_95 rfl (by decide) ?_
    refine pb_iconst 97 (v := 0) dX7_village_96 rfl (by decide) ?_
    refine pb_zast 98 (j := 1) rfl (by decide) (by decide) (by decide) dX7_village_97 rfl ?_
    refine pb_bipush 100 (v := 10) dX7_village_98 rfl (by decide) ?_
    refine pb_aload_n 101 dX7_village_100 rfl rfl rfl ?_
    refine pb_getI 104 (j := 0) in_X7 rfl (by decide) rfl rfl (by decide) fl_X7_41 dX7_village_101 rfl ?_
    refine pb_imul 105 dX7_village_104 rfl ?_
    refine pb_aload_n 106 dX7_village_105 rfl rfl rfl ?_
    refine pb_getI 109 (j := 1) in_X7 rfl (by decide) rfl rfl (by decide) fl_X7_94 dX7_village_106 rfl ?_
    refine pb_iadd 110 dX7_village_109 rfl ?_
    exact pb_iret dX7_village_110
  · refine pb_bipush 11 (v := -3) dX7_village_9 rfl (by decide) ?_
    exact pb_iret dX7_village_11
theorem mc_X7_village : pb_MC yX7_village cX7_village 2 (some .int) 0 := ⟨pb_inW 899 (by decide +kernel) (by decide +kernel), pb_inW 68 (by decide +kernel) (by decide +kernel), by decide +kernel, by decide +kernel, by decide +kernel⟩
theorem mi_X7_village : Cond.instanceMethod yX7_village ∈ pb_gw := pb_inW 897 (by decide +kernel) (by decide +kernel)
theorem ms_X7_village : Cond.selects (yX7_village).cls yX7_village yX7_village ∈ pb_gw := pb_inW 898 (by decide +kernel) (by decide +kernel)
theorem cl_X7_village {α : Type} {l : Launch} {E : pb_E} {R : Room} {own : String} {cc : ByteArray} {mL : Nat} {ret : Option FieldType} {Xs : State → Prop} {nc ns : Nat} {Qf : State → Array Value → List Frame → α → pb_M → State → Prop} {pc : Nat} {L : List (Option Value)} {S : List Value} {μ : pb_M} {f : Int32 → pb_M → Option (α × pb_M)}  {index : Nat} (q : Nat)  (hR : 4 + 1 ≤ R.frames ∧ 8 + (2 + 11) + 93 ≤ R.locals ∧ nc ≤ R.cells ∧ ns ≤ R.slots) (hW : (S.map fun v => v.category).sum ≤ 8) (hl1 : Cond.methodLink own index yX7_village ∈ pb_gw) (hdg : decode cc pc = .ok (.invokevirtual index, 3)) (hq : pc + 3 = q) (k : ∀ b1 μ1, pb_RW l E R own cc mL ret Xs nc ns Qf q L (.int b1 :: S) μ1 (f b1 μ1)) : pb_RW l E R own cc mL ret Xs nc ns Qf pc L (.ref (E.2.1 19) :: S) μ (pb_b (pX7_village  μ) f) := pb_callV q (fun z : Int32 => some (.int z)) mc_X7_village mi_X7_village ms_X7_village (fun b1 μ1 h => evX7_village l E   μ b1 μ1 h) rfl (by decide) rfl rfl rfl rfl hR rfl hW hl1 hdg hq k
def pX7_isPerson (v1 : Int32) (μ : pb_M) : Option (Int32 × pb_M) :=
  pb_b (pX7_in (v1).toInt64 (0 : Int64) (((μ.1 19 0) - (1 : Int32))).toInt64 μ) (fun b10 μ10 =>
  if b10 = 0 ∨ b10 = 1 then some (b10, μ10) else none)
abbrev wX7_isPerson (l : Launch) (E : pb_E) := pb_RW l E { frames := 1, cells := 0, slots := 0, locals := 25 } RX7 cX7_isPerson 2 (some .boolean) (fun _ => True) 0 0 (pb_Qf E (fun z : Int32 => some (.int z)))
set_option maxRecDepth 100000 in
set_option maxHeartbeats 4000000 in
theorem evX7_isPerson (l : Launch) (E : pb_E) (v1 : Int32)  (μ : pb_M) : ∀ b μ', pX7_isPerson v1 μ = some (b, μ') → pb_Ev l E yX7_isPerson cX7_isPerson 2 (some .boolean) { frames := 1, cells := 0, slots := 0, locals := 25 } [.ref (E.2.1 19), .int v1] μ ((fun z : Int32 => some (.int z)) b) μ' := by
  refine pb_enter (L := [some (.ref (E.2.1 19)), some (.int v1)]) (by decide +kernel) (Nat.le_of_ble_eq_true rfl) (pb_same [none, none] rfl) (show wX7_isPerson l E 0 [some (.ref (E.2.1 19)), some (.int v1)] [] μ (pX7_isPerson v1 μ) from ?_)
  unfold pX7_isPerson
  refine pb_iload_n 1 dX7_isPerson_0 rfl rfl rfl ?_
  refine pb_i2l 2 dX7_isPerson_1 rfl ?_
  refine pb_lconst 3 (v := 0) dX7_isPerson_2 rfl (by decide) ?_
  refine pb_aload_n 4 dX7_isPerson_3 rfl rfl rfl ?_
  refine pb_getI 7 (j := 0) in_X7 rfl (by decide) rfl rfl (by decide) fl_X7_41 dX7_isPerson_4 rfl ?_
  refine pb_iconst 8 (v := 1) dX7_isPerson_7 rfl (by decide) ?_
  refine pb_isub 9 dX7_isPerson_8 rfl ?_
  refine pb_i2l 10 dX7_isPerson_9 rfl ?_
  refine cl_X7_in 13 ⟨by decide, by decide, by decide, by decide⟩ (Nat.le_of_ble_eq_true rfl) ml_X7_47 dX7_isPerson_10 rfl (fun b10 μ10 => ?_)
  exact pb_zretG dX7_isPerson_13
theorem mc_X7_isPerson : pb_MC yX7_isPerson cX7_isPerson 2 (some .boolean) 1 := ⟨pb_inW 907 (by decide +kernel) (by decide +kernel), pb_inW 68 (by decide +kernel) (by decide +kernel), by decide +kernel, by decide +kernel, by decide +kernel⟩
theorem mi_X7_isPerson : Cond.instanceMethod yX7_isPerson ∈ pb_gw := pb_inW 906 (by decide +kernel) (by decide +kernel)
theorem ms_X7_isPerson : Cond.selects (yX7_isPerson).cls yX7_isPerson yX7_isPerson ∈ pb_gw := pb_inW 33 (by decide +kernel) (by decide +kernel)
theorem cl_X7_isPerson {α : Type} {l : Launch} {E : pb_E} {R : Room} {own : String} {cc : ByteArray} {mL : Nat} {ret : Option FieldType} {Xs : State → Prop} {nc ns : Nat} {Qf : State → Array Value → List Frame → α → pb_M → State → Prop} {pc : Nat} {L : List (Option Value)} {S : List Value} {μ : pb_M} {f : Int32 → pb_M → Option (α × pb_M)} {v1 : Int32} {index : Nat} (q : Nat)  (hR : 1 + 1 ≤ R.frames ∧ 8 + (2 + 11) + 25 ≤ R.locals ∧ nc ≤ R.cells ∧ ns ≤ R.slots) (hW : (S.map fun v => v.category).sum ≤ 8) (hl1 : Cond.methodLink own index yX7_isPerson ∈ pb_gw) (hdg : decode cc pc = .ok (.invokevirtual index, 3)) (hq : pc + 3 = q) (k : ∀ b1 μ1, pb_RW l E R own cc mL ret Xs nc ns Qf q L (.int b1 :: S) μ1 (f b1 μ1)) : pb_RW l E R own cc mL ret Xs nc ns Qf pc L (.int v1 :: .ref (E.2.1 19) :: S) μ (pb_b (pX7_isPerson v1 μ) f) := pb_callV q (fun z : Int32 => some (.int z)) mc_X7_isPerson mi_X7_isPerson ms_X7_isPerson (fun b1 μ1 h => evX7_isPerson l E v1  μ b1 μ1 h) rfl (by decide) rfl rfl rfl rfl hR rfl hW hl1 hdg hq k
def pX7_isBeast (v1 : Int32) (μ : pb_M) : Option (Int32 × pb_M) :=
  pb_b (pX7_in (v1).toInt64 (0 : Int64) (((μ.1 19 1) - (1 : Int32))).toInt64 μ) (fun b10 μ10 =>
  if b10 = 0 ∨ b10 = 1 then some (b10, μ10) else none)
abbrev wX7_isBeast (l : Launch) (E : pb_E) := pb_RW l E { frames := 1, cells := 0, slots := 0, locals := 25 } RX7 cX7_isBeast 2 (some .boolean) (fun _ => True) 0 0 (pb_Qf E (fun z : Int32 => some (.int z)))
set_option maxRecDepth 100000 in
set_option maxHeartbeats 4000000 in
theorem evX7_isBeast (l : Launch) (E : pb_E) (v1 : Int32)  (μ : pb_M) : ∀ b μ', pX7_isBeast v1 μ = some (b, μ') → pb_Ev l E yX7_isBeast cX7_isBeast 2 (some .boolean) { frames := 1, cells := 0, slots := 0, locals := 25 } [.ref (E.2.1 19), .int v1] μ ((fun z : Int32 => some (.int z)) b) μ' := by
  refine pb_enter (L := [some (.ref (E.2.1 19)), some (.int v1)]) (by decide +kernel) (Nat.le_of_ble_eq_true rfl) (pb_same [none, none] rfl) (show wX7_isBeast l E 0 [some (.ref (E.2.1 19)), some (.int v1)] [] μ (pX7_isBeast v1 μ) from ?_)
  unfold pX7_isBeast
  refine pb_iload_n 1 dX7_isBeast_0 rfl rfl rfl ?_
  refine pb_i2l 2 dX7_isBeast_1 rfl ?_
  refine pb_lconst 3 (v := 0) dX7_isBeast_2 rfl (by decide) ?_
  refine pb_aload_n 4 dX7_isBeast_3 rfl rfl rfl ?_
  refine pb_getI 7 (j := 1) in_X7 rfl (by decide) rfl rfl (by decide) fl_X7_94 dX7_isBeast_4 rfl ?_
  refine pb_iconst 8 (v := 1) dX7_isBeast_7 rfl (by decide) ?_
  refine pb_isub 9 dX7_isBeast_8 rfl ?_
  refine pb_i2l 10 dX7_isBeast_9 rfl ?_
  refine cl_X7_in 13 ⟨by decide, by decide, by decide, by decide⟩ (Nat.le_of_ble_eq_true rfl) ml_X7_47 dX7_isBeast_10 rfl (fun b10 μ10 => ?_)
  exact pb_zretG dX7_isBeast_13
theorem mc_X7_isBeast : pb_MC yX7_isBeast cX7_isBeast 2 (some .boolean) 1 := ⟨pb_inW 918 (by decide +kernel) (by decide +kernel), pb_inW 68 (by decide +kernel) (by decide +kernel), by decide +kernel, by decide +kernel, by decide +kernel⟩
theorem mi_X7_isBeast : Cond.instanceMethod yX7_isBeast ∈ pb_gw := pb_inW 917 (by decide +kernel) (by decide +kernel)
theorem ms_X7_isBeast : Cond.selects (yX7_isBeast).cls yX7_isBeast yX7_isBeast ∈ pb_gw := pb_inW 34 (by decide +kernel) (by decide +kernel)
theorem cl_X7_isBeast {α : Type} {l : Launch} {E : pb_E} {R : Room} {own : String} {cc : ByteArray} {mL : Nat} {ret : Option FieldType} {Xs : State → Prop} {nc ns : Nat} {Qf : State → Array Value → List Frame → α → pb_M → State → Prop} {pc : Nat} {L : List (Option Value)} {S : List Value} {μ : pb_M} {f : Int32 → pb_M → Option (α × pb_M)} {v1 : Int32} {index : Nat} (q : Nat)  (hR : 1 + 1 ≤ R.frames ∧ 8 + (2 + 11) + 25 ≤ R.locals ∧ nc ≤ R.cells ∧ ns ≤ R.slots) (hW : (S.map fun v => v.category).sum ≤ 8) (hl1 : Cond.methodLink own index yX7_isBeast ∈ pb_gw) (hdg : decode cc pc = .ok (.invokevirtual index, 3)) (hq : pc + 3 = q) (k : ∀ b1 μ1, pb_RW l E R own cc mL ret Xs nc ns Qf q L (.int b1 :: S) μ1 (f b1 μ1)) : pb_RW l E R own cc mL ret Xs nc ns Qf pc L (.int v1 :: .ref (E.2.1 19) :: S) μ (pb_b (pX7_isBeast v1 μ) f) := pb_callV q (fun z : Int32 => some (.int z)) mc_X7_isBeast mi_X7_isBeast ms_X7_isBeast (fun b1 μ1 h => evX7_isBeast l E v1  μ b1 μ1 h) rfl (by decide) rfl rfl rfl rfl hR rfl hW hl1 hdg hq k
def pX7_debt (v0 : Int32) (v1 : Int32) (v2 : Int32) (μ : pb_M) : Option (Int32 × pb_M) :=
  some ((((((45 : Int32) * v0) + (28 : Int32)) + ((4 : Int32) * v1)) + v2), μ)
abbrev wX7_debt (l : Launch) (E : pb_E) := pb_RW l E { frames := 0, cells := 0, slots := 0, locals := 0 } RX7 cX7_debt 3 (some .int) (fun _ => True) 0 0 (pb_Qf E (fun z : Int32 => some (.int z)))
set_option maxRecDepth 100000 in
set_option maxHeartbeats 4000000 in
theorem evX7_debt (l : Launch) (E : pb_E) (v0 : Int32) (v1 : Int32) (v2 : Int32)  (μ : pb_M) : ∀ b μ', pX7_debt v0 v1 v2 μ = some (b, μ') → pb_Ev l E yX7_debt cX7_debt 3 (some .int) { frames := 0, cells := 0, slots := 0, locals := 0 } [.int v0, .int v1, .int v2] μ ((fun z : Int32 => some (.int z)) b) μ' := by
  refine pb_enter (L := [some (.int v0), some (.int v1), some (.int v2)]) (by decide +kernel) (Nat.le_of_ble_eq_true rfl) (pb_same [none, none, none] rfl) (show wX7_debt l E 0 [some (.int v0), some (.int v1), some (.int v2)] [] μ (pX7_debt v0 v1 v2 μ) from ?_)
  unfold pX7_debt
  refine pb_bipush 2 (v := 45) dX7_debt_0 rfl (by decide) ?_
  refine pb_iload_n 3 dX7_debt_2 rfl rfl rfl ?_
  refine pb_imul 4 dX7_debt_3 rfl ?_
  refine pb_bipush 6 (v := 28) dX7_debt_4 rfl (by decide) ?_
  refine pb_iadd 7 dX7_debt_6 rfl ?_
  refine pb_iconst 8 (v := 4) dX7_debt_7 rfl (by decide) ?_
  refine pb_iload_n 9 dX7_debt_8 rfl rfl rfl ?_
  refine pb_imul 10 dX7_debt_9 rfl ?_
  refine pb_iadd 11 dX7_debt_10 rfl ?_
  refine pb_iload_n 12 dX7_debt_11 rfl rfl rfl ?_
  refine pb_iadd 13 dX7_debt_12 rfl ?_
  exact pb_iret dX7_debt_13
theorem mc_X7_debt : pb_MC yX7_debt cX7_debt 3 (some .int) 3 := ⟨pb_inW 910 (by decide +kernel) (by decide +kernel), pb_inW 68 (by decide +kernel) (by decide +kernel), by decide +kernel, by decide +kernel, by decide +kernel⟩
theorem ms_X7_debt : Cond.static yX7_debt ∈ pb_gw := pb_inW 909 (by decide +kernel) (by decide +kernel)
theorem cl_X7_debt {α : Type} {l : Launch} {E : pb_E} {R : Room} {own : String} {cc : ByteArray} {mL : Nat} {ret : Option FieldType} {Xs : State → Prop} {nc ns : Nat} {Qf : State → Array Value → List Frame → α → pb_M → State → Prop} {pc : Nat} {L : List (Option Value)} {S : List Value} {μ : pb_M} {f : Int32 → pb_M → Option (α × pb_M)} {v0 : Int32} {v1 : Int32} {v2 : Int32} {index : Nat} (q : Nat)  (hR : 0 + 1 ≤ R.frames ∧ 8 + (3 + 11) + 0 ≤ R.locals ∧ nc ≤ R.cells ∧ ns ≤ R.slots) (hW : (S.map fun v => v.category).sum ≤ 8) (hl1 : Cond.methodLink own index yX7_debt ∈ pb_gw) (hdg : decode cc pc = .ok (.invokestatic index, 3)) (hq : pc + 3 = q) (k : ∀ b1 μ1, pb_RW l E R own cc mL ret Xs nc ns Qf q L (.int b1 :: S) μ1 (f b1 μ1)) : pb_RW l E R own cc mL ret Xs nc ns Qf pc L (.int v2 :: .int v1 :: .int v0 :: S) μ (pb_b (pX7_debt v0 v1 v2 μ) f) := pb_callS q (fun z : Int32 => some (.int z)) mc_X7_debt ms_X7_debt (fun b1 μ1 h => evX7_debt l E v0 v1 v2  μ b1 μ1 h) rfl rfl rfl hR rfl hW hl1 hdg hq k
def pX7_isIn (v1 : Int32) (v2 : Int32) (μ : pb_M) : Option (Int32 × pb_M) :=
  if pb_in ((((45 : Int32) * v1) + (18 : Int32)) + v2) 90 then
    if (μ.1 21 (((((45 : Int32) * v1) + (18 : Int32)) + v2)).toNatClampNeg) = (-9 : Int32) then
      some ((0 : Int32), μ)
    else
    some ((1 : Int32), μ)
  else none
abbrev wX7_isIn (l : Launch) (E : pb_E) := pb_RW l E { frames := 0, cells := 0, slots := 0, locals := 0 } RX7 cX7_isIn 3 (some .boolean) (fun _ => True) 0 0 (pb_Qf E (fun z : Int32 => some (.int z)))
set_option maxRecDepth 100000 in
set_option maxHeartbeats 4000000 in
theorem evX7_isIn (l : Launch) (E : pb_E) (v1 : Int32) (v2 : Int32)  (μ : pb_M) : ∀ b μ', pX7_isIn v1 v2 μ = some (b, μ') → pb_Ev l E yX7_isIn cX7_isIn 3 (some .boolean) { frames := 0, cells := 0, slots := 0, locals := 0 } [.ref (E.2.1 19), .int v1, .int v2] μ ((fun z : Int32 => some (.int z)) b) μ' := by
  refine pb_enter (L := [some (.ref (E.2.1 19)), some (.int v1), some (.int v2)]) (by decide +kernel) (Nat.le_of_ble_eq_true rfl) (pb_same [none, none, none] rfl) (show wX7_isIn l E 0 [some (.ref (E.2.1 19)), some (.int v1), some (.int v2)] [] μ (pX7_isIn v1 v2 μ) from ?_)
  unfold pX7_isIn
  refine pb_aload_n 1 dX7_isIn_0 rfl rfl rfl ?_
  refine pb_getR 4 (j := 3) (d := 21) in_X7 rfl (by decide) rfl rfl (by decide) fl_X7_13 dX7_isIn_1 rfl ?_
  refine pb_bipush 6 (v := 45) dX7_isIn_4 rfl (by decide) ?_
  refine pb_iload_n 7 dX7_isIn_6 rfl rfl rfl ?_
  refine pb_imul 8 dX7_isIn_7 rfl ?_
  refine pb_bipush 10 (v := 18) dX7_isIn_8 rfl (by decide) ?_
  refine pb_iadd 11 dX7_isIn_10 rfl ?_
  refine pb_iload_n 12 dX7_isIn_11 rfl rfl rfl ?_
  refine pb_iadd 13 dX7_isIn_12 rfl ?_
  refine pb_guard (fun hin => pb_iald 14 rfl hin rfl dX7_isIn_13 rfl ?_)
  refine pb_bipush 16 (v := -9) dX7_isIn_14 rfl (by decide) ?_
  refine pb_icmp_eq 19 (tgt := 23) dX7_isIn_16 (by decide) rfl (fun _ => ?_) (fun _ => ?_)
  · refine pb_iconst 24 (v := 0) dX7_isIn_23 rfl (by decide) ?_
    exact pb_zret rfl dX7_isIn_24
  · refine pb_iconst 20 (v := 1) dX7_isIn_19 rfl (by decide) ?_
    refine pb_goto (tgt := 24) dX7_isIn_20 (by decide) ?_
    exact pb_zret rfl dX7_isIn_24
theorem mc_X7_isIn : pb_MC yX7_isIn cX7_isIn 3 (some .boolean) 2 := ⟨pb_inW 934 (by decide +kernel) (by decide +kernel), pb_inW 68 (by decide +kernel) (by decide +kernel), by decide +kernel, by decide +kernel, by decide +kernel⟩
theorem mi_X7_isIn : Cond.instanceMethod yX7_isIn ∈ pb_gw := pb_inW 933 (by decide +kernel) (by decide +kernel)
theorem ms_X7_isIn : Cond.selects (yX7_isIn).cls yX7_isIn yX7_isIn ∈ pb_gw := pb_inW 36 (by decide +kernel) (by decide +kernel)
theorem cl_X7_isIn {α : Type} {l : Launch} {E : pb_E} {R : Room} {own : String} {cc : ByteArray} {mL : Nat} {ret : Option FieldType} {Xs : State → Prop} {nc ns : Nat} {Qf : State → Array Value → List Frame → α → pb_M → State → Prop} {pc : Nat} {L : List (Option Value)} {S : List Value} {μ : pb_M} {f : Int32 → pb_M → Option (α × pb_M)} {v1 : Int32} {v2 : Int32} {index : Nat} (q : Nat)  (hR : 0 + 1 ≤ R.frames ∧ 8 + (3 + 11) + 0 ≤ R.locals ∧ nc ≤ R.cells ∧ ns ≤ R.slots) (hW : (S.map fun v => v.category).sum ≤ 8) (hl1 : Cond.methodLink own index yX7_isIn ∈ pb_gw) (hdg : decode cc pc = .ok (.invokevirtual index, 3)) (hq : pc + 3 = q) (k : ∀ b1 μ1, pb_RW l E R own cc mL ret Xs nc ns Qf q L (.int b1 :: S) μ1 (f b1 μ1)) : pb_RW l E R own cc mL ret Xs nc ns Qf pc L (.int v2 :: .int v1 :: .ref (E.2.1 19) :: S) μ (pb_b (pX7_isIn v1 v2 μ) f) := pb_callV q (fun z : Int32 => some (.int z)) mc_X7_isIn mi_X7_isIn ms_X7_isIn (fun b1 μ1 h => evX7_isIn l E v1 v2  μ b1 μ1 h) rfl (by decide) rfl rfl rfl rfl hR rfl hW hl1 hdg hq k
theorem ml_X7_100 : Cond.methodLink RX7 100 yX7_isPerson ∈ pb_gw := pb_inW 904 (by decide +kernel) (by decide +kernel)
theorem ml_X7_104 : Cond.methodLink RX7 104 yX7_debt ∈ pb_gw := pb_inW 908 (by decide +kernel) (by decide +kernel)
def pX7_person_L21 (v1 : Int32) (v2 : Int32) (v4 : Int32) (v5 : Int32) (K61 : Int32 → pb_M → Option (Int32 × pb_M)) : Nat → Int32 → Int32 → pb_M → Option (Int32 × pb_M)
  | 0, _, _, _ => none
  | n + 1, v3, v6, μ =>
    if (μ.1 19 1) ≤ v6 then
      K61 v3 μ
    else
    if pb_in ((8 : Int32) + v6) 90 then
      if (μ.1 21 (((8 : Int32) + v6)).toNatClampNeg) = v1 then
        pX7_person_L21 v1 v2 v4 v5 K61 n (v3 ||| ((1 : Int32) <<< (v6 &&& 31))) (v6 + (1 : Int32)) μ
      else
      pX7_person_L21 v1 v2 v4 v5 K61 n (v3 ||| (0 : Int32)) (v6 + (1 : Int32)) μ
    else none
def pX7_person_L64 (v1 : Int32) (v2 : Int32) (v3 : Int32) (K113 : Int32 → Int32 → pb_M → Option (Int32 × pb_M)) : Nat → Int32 → Int32 → Int32 → pb_M → Option (Int32 × pb_M)
  | 0, _, _, _, _ => none
  | n + 1, v4, v5, v6, μ =>
    if (μ.1 19 0) ≤ v6 then
      K113 v4 v5 μ
    else
    pb_b (pX7_debt (0 : Int32) v1 v6 μ) (fun b83 μ83 =>
    if pb_in b83 90 then
      pb_b (pX7_debt (0 : Int32) v6 v1 μ83) (fun b100 μ100 =>
      if pb_in b100 90 then
        pX7_person_L64 v1 v2 v3 K113 n (v4 + (μ83.1 21 (b83).toNatClampNeg)) (v5 + (μ100.1 21 (b100).toNatClampNeg)) (v6 + (1 : Int32)) μ100
      else none)
    else none)
def pX7_person (v1 : Int32) (v2 : Int32) (μ : pb_M) : Option (Int32 × pb_M) :=
  pb_b (pX7_isPerson v1 μ) (fun b2 μ2 =>
  if b2 = (0 : Int32) then
    some ((-1 : Int32), μ2)
  else
  pX7_person_L21 v1 v2 (0 : Int32) (0 : Int32) (fun x3k61 μk61 =>
    pX7_person_L64 v1 v2 x3k61 (fun x4k113 x5k113 μk113 =>
      if v2 = (0 : Int32) then
        if pb_in v1 90 then
          some ((μk113.1 21 (v1).toNatClampNeg), μk113)
        else none
      else
      if v2 = (1 : Int32) then
        if pb_in ((4 : Int32) + v1) 90 then
          some ((μk113.1 21 (((4 : Int32) + v1)).toNatClampNeg), μk113)
        else none
      else
      if v2 = (2 : Int32) then
        some (x3k61, μk113)
      else
      if v2 = (3 : Int32) then
        some (x4k113, μk113)
      else
      if v2 = (4 : Int32) then
        some (x5k113, μk113)
      else
      some ((-2 : Int32), μk113)) pb_F (0 : Int32) (0 : Int32) (0 : Int32) μk61) pb_F (0 : Int32) (0 : Int32) μ2)
abbrev wX7_person (l : Launch) (E : pb_E) := pb_RW l E { frames := 2, cells := 0, slots := 0, locals := 46 } RX7 cX7_person 7 (some .int) (fun _ => True) 0 0 (pb_Qf E (fun z : Int32 => some (.int z)))
set_option maxRecDepth 100000 in
set_option maxHeartbeats 4000000 in
theorem tX7_person_L21 (l : Launch) (E : pb_E) (v1 : Int32) (v2 : Int32) (v4 : Int32) (v5 : Int32) {K61 : Int32 → pb_M → Option (Int32 × pb_M)} (hK61 : ∀ (w3 : Int32) (μ : pb_M), wX7_person l E 61 [some (.ref (E.2.1 19)), some (.int v1), some (.int v2), some (.int w3), some (.int v4), some (.int v5), none] [] μ (K61 w3 μ)) : ∀ (n : Nat) (v3 : Int32) (v6 : Int32) (μ : pb_M), wX7_person l E 21 [some (.ref (E.2.1 19)), some (.int v1), some (.int v2), some (.int v3), some (.int v4), some (.int v5), some (.int v6)] [] μ (pX7_person_L21 v1 v2 v4 v5 K61 n v3 v6 μ) := by
  intro n
  induction n with
  | zero => intro v3 v6 μ; exact pb_none
  | succ n ih =>
    intro v3 v6 μ
    rw [pX7_person_L21]
    refine pb_iload 23 dX7_person_21 rfl rfl ?_
    refine pb_aload_n 24 dX7_person_23 rfl rfl rfl ?_
    refine pb_getI 27 (j := 1) in_X7 rfl (by decide) rfl rfl (by decide) fl_X7_94 dX7_person_24 rfl ?_
    refine pb_icmp_ge 30 (tgt := 61) dX7_person_27 (by decide) rfl (fun _ => ?_) (fun _ => ?_)
    · refine pb_weakM (L' := [some (.ref (E.2.1 19)), some (.int v1), some (.int v2), some (.int v3), some (.int v4), some (.int v5), none]) [true, true, true, true, true, true, false] rfl ?_
      exact hK61 v3 μ
    · refine pb_iload_n 31 dX7_person_30 rfl rfl rfl ?_
      refine pb_aload_n 32 dX7_person_31 rfl rfl rfl ?_
      refine pb_getR 35 (j := 3) (d := 21) in_X7 rfl (by decide) rfl rfl (by decide) fl_X7_13 dX7_person_32 rfl ?_
      refine pb_bipush 37 (v := 8) dX7_person_35 rfl (by decide) ?_
      refine pb_iload 39 dX7_person_37 rfl rfl ?_
      refine pb_iadd 40 dX7_person_39 rfl ?_
      refine pb_guard (fun hin => pb_iald 41 rfl hin rfl dX7_person_40 rfl ?_)
      refine pb_iload_n 42 dX7_person_41 rfl rfl rfl ?_
      refine pb_icmp_ne 45 (tgt := 52) dX7_person_42 (by decide) rfl (fun _ => ?_) (fun _ => ?_)
      · refine pb_iconst 46 (v := 1) dX7_person_45 rfl (by decide) ?_
        refine pb_iload 48 dX7_person_46 rfl rfl ?_
        refine pb_ishl 49 dX7_person_48 rfl ?_
        refine pb_goto (tgt := 53) dX7_person_49 (by decide) ?_
        refine pb_ior 54 dX7_person_53 rfl ?_
        refine pb_istore_n 55 (i := 3) (L' := [some (.ref (E.2.1 19)), some (.int v1), some (.int v2), some (.int (v3 ||| ((1 : Int32) <<< (v6 &&& 31)))), some (.int v4), some (.int v5), some (.int v6)]) dX7_person_54 rfl (by decide) rfl rfl rfl ?_
        refine pb_iinc 58 (i := 6) (v := (v6 + (1 : Int32))) (L' := [some (.ref (E.2.1 19)), some (.int v1), some (.int v2), some (.int (v3 ||| ((1 : Int32) <<< (v6 &&& 31)))), some (.int v4), some (.int v5), some (.int (v6 + (1 : Int32)))]) dX7_person_55 rfl rfl (by decide) rfl rfl rfl ?_
        refine pb_goto (tgt := 21) dX7_person_58 (by decide) ?_
        exact ih (v3 ||| ((1 : Int32) <<< (v6 &&& 31))) (v6 + (1 : Int32)) μ
      · refine pb_iconst 53 (v := 0) dX7_person_52 rfl (by decide) ?_
        refine pb_ior 54 dX7_person_53 rfl ?_
        refine pb_istore_n 55 (i := 3) (L' := [some (.ref (E.2.1 19)), some (.int v1), some (.int v2), some (.int (v3 ||| (0 : Int32))), some (.int v4), some (.int v5), some (.int v6)]) dX7_person_54 rfl (by decide) rfl rfl rfl ?_
        refine pb_iinc 58 (i := 6) (v := (v6 + (1 : Int32))) (L' := [some (.ref (E.2.1 19)), some (.int v1), some (.int v2), some (.int (v3 ||| (0 : Int32))), some (.int v4), some (.int v5), some (.int (v6 + (1 : Int32)))]) dX7_person_55 rfl rfl (by decide) rfl rfl rfl ?_
        refine pb_goto (tgt := 21) dX7_person_58 (by decide) ?_
        exact ih (v3 ||| (0 : Int32)) (v6 + (1 : Int32)) μ
set_option maxRecDepth 100000 in
set_option maxHeartbeats 4000000 in
theorem tX7_person_L64 (l : Launch) (E : pb_E) (v1 : Int32) (v2 : Int32) (v3 : Int32) {K113 : Int32 → Int32 → pb_M → Option (Int32 × pb_M)} (hK113 : ∀ (w4 : Int32) (w5 : Int32) (μ : pb_M), wX7_person l E 113 [some (.ref (E.2.1 19)), some (.int v1), some (.int v2), some (.int v3), some (.int w4), some (.int w5), none] [] μ (K113 w4 w5 μ)) : ∀ (n : Nat) (v4 : Int32) (v5 : Int32) (v6 : Int32) (μ : pb_M), wX7_person l E 64 [some (.ref (E.2.1 19)), some (.int v1), some (.int v2), some (.int v3), some (.int v4), some (.int v5), some (.int v6)] [] μ (pX7_person_L64 v1 v2 v3 K113 n v4 v5 v6 μ) := by
  intro n
  induction n with
  | zero => intro v4 v5 v6 μ; exact pb_none
  | succ n ih =>
    intro v4 v5 v6 μ
    rw [pX7_person_L64]
    refine pb_iload 66 dX7_person_64 rfl rfl ?_
    refine pb_aload_n 67 dX7_person_66 rfl rfl rfl ?_
    refine pb_getI 70 (j := 0) in_X7 rfl (by decide) rfl rfl (by decide) fl_X7_41 dX7_person_67 rfl ?_
    refine pb_icmp_ge 73 (tgt := 113) dX7_person_70 (by decide) rfl (fun _ => ?_) (fun _ => ?_)
    · refine pb_weakM (L' := [some (.ref (E.2.1 19)), some (.int v1), some (.int v2), some (.int v3), some (.int v4), some (.int v5), none]) [true, true, true, true, true, true, false] rfl ?_
      exact hK113 v4 v5 μ
    · refine pb_iload 75 dX7_person_73 rfl rfl ?_
      refine pb_aload_n 76 dX7_person_75 rfl rfl rfl ?_
      refine pb_getR 79 (j := 3) (d := 21) in_X7 rfl (by decide) rfl rfl (by decide) fl_X7_13 dX7_person_76 rfl ?_
      refine pb_iconst 80 (v := 0) dX7_person_79 rfl (by decide) ?_
      refine pb_iload_n 81 dX7_person_80 rfl rfl rfl ?_
      refine pb_iload 83 dX7_person_81 rfl rfl ?_
      refine cl_X7_debt 86 ⟨by decide, by decide, by decide, by decide⟩ (Nat.le_of_ble_eq_true rfl) ml_X7_104 dX7_person_83 rfl (fun b83 μ83 => ?_)
      refine pb_guard (fun hin => pb_iald 87 rfl hin rfl dX7_person_86 rfl ?_)
      refine pb_iadd 88 dX7_person_87 rfl ?_
      refine pb_istore 90 (i := 4) (L' := [some (.ref (E.2.1 19)), some (.int v1), some (.int v2), some (.int v3), some (.int (v4 + (μ83.1 21 (b83).toNatClampNeg))), some (.int v5), some (.int v6)]) dX7_person_88 (by decide) rfl rfl rfl ?_
      refine pb_iload 92 dX7_person_90 rfl rfl ?_
      refine pb_aload_n 93 dX7_person_92 rfl rfl rfl ?_
      refine pb_getR 96 (j := 3) (d := 21) in_X7 rfl (by decide) rfl rfl (by decide) fl_X7_13 dX7_person_93 rfl ?_
      refine pb_iconst 97 (v := 0) dX7_person_96 rfl (by decide) ?_
      refine pb_iload 99 dX7_person_97 rfl rfl ?_
      refine pb_iload_n 100 dX7_person_99 rfl rfl rfl ?_
      refine cl_X7_debt 103 ⟨by decide, by decide, by decide, by decide⟩ (Nat.le_of_ble_eq_true rfl) ml_X7_104 dX7_person_100 rfl (fun b100 μ100 => ?_)
      refine pb_guard (fun hin => pb_iald 104 rfl hin rfl dX7_person_103 rfl ?_)
      refine pb_iadd 105 dX7_person_104 rfl ?_
      refine pb_istore 107 (i := 5) (L' := [some (.ref (E.2.1 19)), some (.int v1), some (.int v2), some (.int v3), some (.int (v4 + (μ83.1 21 (b83).toNatClampNeg))), some (.int (v5 + (μ100.1 21 (b100).toNatClampNeg))), some (.int v6)]) dX7_person_105 (by decide) rfl rfl rfl ?_
      refine pb_iinc 110 (i := 6) (v := (v6 + (1 : Int32))) (L' := [some (.ref (E.2.1 19)), some (.int v1), some (.int v2), some (.int v3), some (.int (v4 + (μ83.1 21 (b83).toNatClampNeg))), some (.int (v5 + (μ100.1 21 (b100).toNatClampNeg))), some (.int (v6 + (1 : Int32)))]) dX7_person_107 rfl rfl (by decide) rfl rfl rfl ?_
      refine pb_goto (tgt := 64) dX7_person_110 (by decide) ?_
      exact ih (v4 + (μ83.1 21 (b83).toNatClampNeg)) (v5 + (μ100.1 21 (b100).toNatClampNeg)) (v6 + (1 : Int32)) μ100
set_option maxRecDepth 100000 in
set_option maxHeartbeats 4000000 in
theorem evX7_person (l : Launch) (E : pb_E) (v1 : Int32) (v2 : Int32)  (μ : pb_M) : ∀ b μ', pX7_person v1 v2 μ = some (b, μ') → pb_Ev l E yX7_person cX7_person 7 (some .int) { frames := 2, cells := 0, slots := 0, locals := 46 } [.ref (E.2.1 19), .int v1, .int v2] μ ((fun z : Int32 => some (.int z)) b) μ' := by
  refine pb_enter (L := [some (.ref (E.2.1 19)), some (.int v1), some (.int v2), none, none, none, none]) (by decide +kernel) (Nat.le_of_ble_eq_true rfl) (pb_same [none, none, none, none, none, none, none] rfl) (show wX7_person l E 0 [some (.ref (E.2.1 19)), some (.int v1), some (.int v2), none, none, none, none] [] μ (pX7_person v1 v2 μ) from ?_)
  unfold pX7_person
  refine pb_aload_n 1 dX7_person_0 rfl rfl rfl ?_
  refine pb_iload_n 2 dX7_person_1 rfl rfl rfl ?_
  refine cl_X7_isPerson 5 ⟨by decide, by decide, by decide, by decide⟩ (Nat.le_of_ble_eq_true rfl) ml_X7_100 dX7_person_2 rfl (fun b2 μ2 => ?_)
  refine pb_if_ne 8 (tgt := 10) dX7_person_5 (by decide) rfl (fun _ => ?_) (fun _ => ?_)
  · refine pb_iconst 9 (v := -1) dX7_person_8 rfl (by decide) ?_
    exact pb_iret dX7_person_9
  · refine pb_iconst 11 (v := 0) dX7_person_10 rfl (by decide) ?_
    refine pb_istore_n 12 (i := 3) (L' := [some (.ref (E.2.1 19)), some (.int v1), some (.int v2), some (.int (0 : Int32)), none, none, none]) dX7_person_11 rfl (by decide) rfl rfl rfl ?_
    refine pb_iconst 13 (v := 0) dX7_person_12 rfl (by decide) ?_
    refine pb_istore 15 (i := 4) (L' := [some (.ref (E.2.1 19)), some (.int v1), some (.int v2), some (.int (0 : Int32)), some (.int (0 : Int32)), none, none]) dX7_person_13 (by decide) rfl rfl rfl ?_
    refine pb_iconst 16 (v := 0) dX7_person_15 rfl (by decide) ?_
    refine pb_istore 18 (i := 5) (L' := [some (.ref (E.2.1 19)), some (.int v1), some (.int v2), some (.int (0 : Int32)), some (.int (0 : Int32)), some (.int (0 : Int32)), none]) dX7_person_16 (by decide) rfl rfl rfl ?_
    refine pb_iconst 19 (v := 0) dX7_person_18 rfl (by decide) ?_
    refine pb_istore 21 (i := 6) (L' := [some (.ref (E.2.1 19)), some (.int v1), some (.int v2), some (.int (0 : Int32)), some (.int (0 : Int32)), some (.int (0 : Int32)), some (.int (0 : Int32))]) dX7_person_19 (by decide) rfl rfl rfl ?_
    refine tX7_person_L21 l E v1 v2 (0 : Int32) (0 : Int32) (fun x3k61 μk61 => ?_) pb_F (0 : Int32) (0 : Int32) μ2
    refine pb_iconst 62 (v := 0) dX7_person_61 rfl (by decide) ?_
    refine pb_istore 64 (i := 6) (L' := [some (.ref (E.2.1 19)), some (.int v1), some (.int v2), some (.int x3k61), some (.int (0 : Int32)), some (.int (0 : Int32)), some (.int (0 : Int32))]) dX7_person_62 (by decide) rfl rfl rfl ?_
    refine tX7_person_L64 l E v1 v2 x3k61 (fun x4k113 x5k113 μk113 => ?_) pb_F (0 : Int32) (0 : Int32) (0 : Int32) μk61
    refine pb_iload_n 114 dX7_person_113 rfl rfl rfl ?_
    refine pb_ite (fun c0 => ?_) (fun c0 => ?_)
    · refine pb_tableK (tgt := 148) 0 c0 dX7_person_114 (by decide) (by decide) (by rfl) (by decide) ?_
      refine pb_aload_n 149 dX7_person_148 rfl rfl rfl ?_
      refine pb_getR 152 (j := 3) (d := 21) in_X7 rfl (by decide) rfl rfl (by decide) fl_X7_13 dX7_person_149 rfl ?_
      refine pb_iload_n 153 dX7_person_152 rfl rfl rfl ?_
      refine pb_guard (fun hin => pb_iald 154 rfl hin rfl dX7_person_153 rfl ?_)
      exact pb_iret dX7_person_154
    · refine pb_ite (fun c1 => ?_) (fun c1 => ?_)
      · refine pb_tableK (tgt := 155) 1 c1 dX7_person_114 (by decide) (by decide) (by rfl) (by decide) ?_
        refine pb_aload_n 156 dX7_person_155 rfl rfl rfl ?_
        refine pb_getR 159 (j := 3) (d := 21) in_X7 rfl (by decide) rfl rfl (by decide) fl_X7_13 dX7_person_156 rfl ?_
        refine pb_iconst 160 (v := 4) dX7_person_159 rfl (by decide) ?_
        refine pb_iload_n 161 dX7_person_160 rfl rfl rfl ?_
        refine pb_iadd 162 dX7_person_161 rfl ?_
        refine pb_guard (fun hin => pb_iald 163 rfl hin rfl dX7_person_162 rfl ?_)
        exact pb_iret dX7_person_163
      · refine pb_ite (fun c2 => ?_) (fun c2 => ?_)
        · refine pb_tableK (tgt := 164) 2 c2 dX7_person_114 (by decide) (by decide) (by rfl) (by decide) ?_
          refine pb_iload_n 165 dX7_person_164 rfl rfl rfl ?_
          exact pb_iret dX7_person_165
        · refine pb_ite (fun c3 => ?_) (fun c3 => ?_)
          · refine pb_tableK (tgt := 166) 3 c3 dX7_person_114 (by decide) (by decide) (by rfl) (by decide) ?_
            refine pb_iload 168 dX7_person_166 rfl rfl ?_
            exact pb_iret dX7_person_168
          · refine pb_ite (fun c4 => ?_) (fun c4 => ?_)
            · refine pb_tableK (tgt := 169) 4 c4 dX7_person_114 (by decide) (by decide) (by rfl) (by decide) ?_
              refine pb_iload 171 dX7_person_169 rfl rfl ?_
              exact pb_iret dX7_person_171
            · refine pb_tableD (tgt := 172) dX7_person_114 (by have e0 := lv_neT (a := 0) c0 (by decide); have e1 := lv_neT (a := 1) c1 (by decide); have e2 := lv_neT (a := 2) c2 (by decide); have e3 := lv_neT (a := 3) c3 (by decide); have e4 := lv_neT (a := 4) c4 (by decide); omega) (by decide) ?_
              refine pb_bipush 174 (v := -2) dX7_person_172 rfl (by decide) ?_
              exact pb_iret dX7_person_174
theorem mc_X7_person : pb_MC yX7_person cX7_person 7 (some .int) 2 := ⟨pb_inW 903 (by decide +kernel) (by decide +kernel), pb_inW 68 (by decide +kernel) (by decide +kernel), by decide +kernel, by decide +kernel, by decide +kernel⟩
theorem mi_X7_person : Cond.instanceMethod yX7_person ∈ pb_gw := pb_inW 901 (by decide +kernel) (by decide +kernel)
theorem ms_X7_person : Cond.selects (yX7_person).cls yX7_person yX7_person ∈ pb_gw := pb_inW 902 (by decide +kernel) (by decide +kernel)
theorem cl_X7_person {α : Type} {l : Launch} {E : pb_E} {R : Room} {own : String} {cc : ByteArray} {mL : Nat} {ret : Option FieldType} {Xs : State → Prop} {nc ns : Nat} {Qf : State → Array Value → List Frame → α → pb_M → State → Prop} {pc : Nat} {L : List (Option Value)} {S : List Value} {μ : pb_M} {f : Int32 → pb_M → Option (α × pb_M)} {v1 : Int32} {v2 : Int32} {index : Nat} (q : Nat)  (hR : 2 + 1 ≤ R.frames ∧ 8 + (7 + 11) + 46 ≤ R.locals ∧ nc ≤ R.cells ∧ ns ≤ R.slots) (hW : (S.map fun v => v.category).sum ≤ 8) (hl1 : Cond.methodLink own index yX7_person ∈ pb_gw) (hdg : decode cc pc = .ok (.invokevirtual index, 3)) (hq : pc + 3 = q) (k : ∀ b1 μ1, pb_RW l E R own cc mL ret Xs nc ns Qf q L (.int b1 :: S) μ1 (f b1 μ1)) : pb_RW l E R own cc mL ret Xs nc ns Qf pc L (.int v2 :: .int v1 :: .ref (E.2.1 19) :: S) μ (pb_b (pX7_person v1 v2 μ) f) := pb_callV q (fun z : Int32 => some (.int z)) mc_X7_person mi_X7_person ms_X7_person (fun b1 μ1 h => evX7_person l E v1 v2  μ b1 μ1 h) rfl (by decide) rfl rfl rfl rfl hR rfl hW hl1 hdg hq k
theorem ml_X7_108 : Cond.methodLink RX7 108 yX7_isBeast ∈ pb_gw := pb_inW 915 (by decide +kernel) (by decide +kernel)
def pX7_beast (v1 : Int32) (v2 : Int32) (μ : pb_M) : Option (Int32 × pb_M) :=
  pb_b (pX7_isBeast v1 μ) (fun b2 μ2 =>
  if b2 = (0 : Int32) then
    some ((-1 : Int32), μ2)
  else
  if v2 = (0 : Int32) then
    if pb_in ((8 : Int32) + v1) 90 then
      some ((μ2.1 21 (((8 : Int32) + v1)).toNatClampNeg), μ2)
    else none
  else
  if v2 = (1 : Int32) then
    if pb_in ((13 : Int32) + v1) 90 then
      some ((μ2.1 21 (((13 : Int32) + v1)).toNatClampNeg), μ2)
    else none
  else
  if v2 = (2 : Int32) then
    if pb_in v1 5 then
      some ((μ2.1 20 (v1).toNatClampNeg), μ2)
    else none
  else
  if v2 = (3 : Int32) then
    if pb_in ((18 : Int32) + v1) 90 then
      some ((μ2.1 21 (((18 : Int32) + v1)).toNatClampNeg), μ2)
    else none
  else
  if v2 = (4 : Int32) then
    if pb_in ((23 : Int32) + v1) 90 then
      some ((μ2.1 21 (((23 : Int32) + v1)).toNatClampNeg), μ2)
    else none
  else
  if v2 = (5 : Int32) then
    if pb_in ((13 : Int32) + v1) 90 then
      if (μ2.1 21 (((13 : Int32) + v1)).toNatClampNeg) = (0 : Int32) then
        some ((1 : Int32), μ2)
      else
      some ((0 : Int32), μ2)
    else none
  else
  some ((-2 : Int32), μ2))
abbrev wX7_beast (l : Launch) (E : pb_E) := pb_RW l E { frames := 2, cells := 0, slots := 0, locals := 46 } RX7 cX7_beast 3 (some .int) (fun _ => True) 0 0 (pb_Qf E (fun z : Int32 => some (.int z)))
set_option maxRecDepth 100000 in
set_option maxHeartbeats 4000000 in
theorem evX7_beast (l : Launch) (E : pb_E) (v1 : Int32) (v2 : Int32)  (μ : pb_M) : ∀ b μ', pX7_beast v1 v2 μ = some (b, μ') → pb_Ev l E yX7_beast cX7_beast 3 (some .int) { frames := 2, cells := 0, slots := 0, locals := 46 } [.ref (E.2.1 19), .int v1, .int v2] μ ((fun z : Int32 => some (.int z)) b) μ' := by
  refine pb_enter (L := [some (.ref (E.2.1 19)), some (.int v1), some (.int v2)]) (by decide +kernel) (Nat.le_of_ble_eq_true rfl) (pb_same [none, none, none] rfl) (show wX7_beast l E 0 [some (.ref (E.2.1 19)), some (.int v1), some (.int v2)] [] μ (pX7_beast v1 v2 μ) from ?_)
  unfold pX7_beast
  refine pb_aload_n 1 dX7_beast_0 rfl rfl rfl ?_
  refine pb_iload_n 2 dX7_beast_1 rfl rfl rfl ?_
  refine cl_X7_isBeast 5 ⟨by decide, by decide, by decide, by decide⟩ (Nat.le_of_ble_eq_true rfl) ml_X7_108 dX7_beast_2 rfl (fun b2 μ2 => ?_)
  refine pb_if_ne 8 (tgt := 10) dX7_beast_5 (by decide) rfl (fun _ => ?_) (fun _ => ?_)
  · refine pb_iconst 9 (v := -1) dX7_beast_8 rfl (by decide) ?_
    exact pb_iret dX7_beast_9
  · refine pb_iload_n 11 dX7_beast_10 rfl rfl rfl ?_
    refine pb_ite (fun c0 => ?_) (fun c0 => ?_)
    · refine pb_tableK (tgt := 48) 0 c0 dX7_beast_11 (by decide) (by decide) (by rfl) (by decide) ?_
      refine pb_aload_n 49 dX7_beast_48 rfl rfl rfl ?_
      refine pb_getR 52 (j := 3) (d := 21) in_X7 rfl (by decide) rfl rfl (by decide) fl_X7_13 dX7_beast_49 rfl ?_
      refine pb_bipush 54 (v := 8) dX7_beast_52 rfl (by decide) ?_
      refine pb_iload_n 55 dX7_beast_54 rfl rfl rfl ?_
      refine pb_iadd 56 dX7_beast_55 rfl ?_
      refine pb_guard (fun hin => pb_iald 57 rfl hin rfl dX7_beast_56 rfl ?_)
      exact pb_iret dX7_beast_57
    · refine pb_ite (fun c1 => ?_) (fun c1 => ?_)
      · refine pb_tableK (tgt := 58) 1 c1 dX7_beast_11 (by decide) (by decide) (by rfl) (by decide) ?_
        refine pb_aload_n 59 dX7_beast_58 rfl rfl rfl ?_
        refine pb_getR 62 (j := 3) (d := 21) in_X7 rfl (by decide) rfl rfl (by decide) fl_X7_13 dX7_beast_59 rfl ?_
        refine pb_bipush 64 (v := 13) dX7_beast_62 rfl (by decide) ?_
        refine pb_iload_n 65 dX7_beast_64 rfl rfl rfl ?_
        refine pb_iadd 66 dX7_beast_65 rfl ?_
        refine pb_guard (fun hin => pb_iald 67 rfl hin rfl dX7_beast_66 rfl ?_)
        exact pb_iret dX7_beast_67
      · refine pb_ite (fun c2 => ?_) (fun c2 => ?_)
        · refine pb_tableK (tgt := 68) 2 c2 dX7_beast_11 (by decide) (by decide) (by rfl) (by decide) ?_
          refine pb_aload_n 69 dX7_beast_68 rfl rfl rfl ?_
          refine pb_getR 72 (j := 2) (d := 20) in_X7 rfl (by decide) rfl rfl (by decide) fl_X7_7 dX7_beast_69 rfl ?_
          refine pb_iload_n 73 dX7_beast_72 rfl rfl rfl ?_
          refine pb_guard (fun hin => pb_iald 74 rfl hin rfl dX7_beast_73 rfl ?_)
          exact pb_iret dX7_beast_74
        · refine pb_ite (fun c3 => ?_) (fun c3 => ?_)
          · refine pb_tableK (tgt := 75) 3 c3 dX7_beast_11 (by decide) (by decide) (by rfl) (by decide) ?_
            refine pb_aload_n 76 dX7_beast_75 rfl rfl rfl ?_
            refine pb_getR 79 (j := 3) (d := 21) in_X7 rfl (by decide) rfl rfl (by decide) fl_X7_13 dX7_beast_76 rfl ?_
            refine pb_bipush 81 (v := 18) dX7_beast_79 rfl (by decide) ?_
            refine pb_iload_n 82 dX7_beast_81 rfl rfl rfl ?_
            refine pb_iadd 83 dX7_beast_82 rfl ?_
            refine pb_guard (fun hin => pb_iald 84 rfl hin rfl dX7_beast_83 rfl ?_)
            exact pb_iret dX7_beast_84
          · refine pb_ite (fun c4 => ?_) (fun c4 => ?_)
            · refine pb_tableK (tgt := 85) 4 c4 dX7_beast_11 (by decide) (by decide) (by rfl) (by decide) ?_
              refine pb_aload_n 86 dX7_beast_85 rfl rfl rfl ?_
              refine pb_getR 89 (j := 3) (d := 21) in_X7 rfl (by decide) rfl rfl (by decide) fl_X7_13 dX7_beast_86 rfl ?_
              refine pb_bipush 91 (v := 23) dX7_beast_89 rfl (by decide) ?_
              refine pb_iload_n 92 dX7_beast_91 rfl rfl rfl ?_
              refine pb_iadd 93 dX7_beast_92 rfl ?_
              refine pb_guard (fun hin => pb_iald 94 rfl hin rfl dX7_beast_93 rfl ?_)
              exact pb_iret dX7_beast_94
            · refine pb_ite (fun c5 => ?_) (fun c5 => ?_)
              · refine pb_tableK (tgt := 95) 5 c5 dX7_beast_11 (by decide) (by decide) (by rfl) (by decide) ?_
                refine pb_aload_n 96 dX7_beast_95 rfl rfl rfl ?_
                refine pb_getR 99 (j := 3) (d := 21) in_X7 rfl (by decide) rfl rfl (by decide) fl_X7_13 dX7_beast_96 rfl ?_
                refine pb_bipush 101 (v := 13) dX7_beast_99 rfl (by decide) ?_
                refine pb_iload_n 102 dX7_beast_101 rfl rfl rfl ?_
                refine pb_iadd 103 dX7_beast_102 rfl ?_
                refine pb_guard (fun hin => pb_iald 104 rfl hin rfl dX7_beast_103 rfl ?_)
                refine pb_if_ne 107 (tgt := 111) dX7_beast_104 (by decide) rfl (fun _ => ?_) (fun _ => ?_)
                · refine pb_iconst 108 (v := 1) dX7_beast_107 rfl (by decide) ?_
                  refine pb_goto (tgt := 112) dX7_beast_108 (by decide) ?_
                  exact pb_iret dX7_beast_112
                · refine pb_iconst 112 (v := 0) dX7_beast_111 rfl (by decide) ?_
                  exact pb_iret dX7_beast_112
              · refine pb_tableD (tgt := 113) dX7_beast_11 (by have e0 := lv_neT (a := 0) c0 (by decide); have e1 := lv_neT (a := 1) c1 (by decide); have e2 := lv_neT (a := 2) c2 (by decide); have e3 := lv_neT (a := 3) c3 (by decide); have e4 := lv_neT (a := 4) c4 (by decide); have e5 := lv_neT (a := 5) c5 (by decide); omega) (by decide) ?_
                refine pb_bipush 115 (v := -2) dX7_beast_113 rfl (by decide) ?_
                exact pb_iret dX7_beast_115
theorem mc_X7_beast : pb_MC yX7_beast cX7_beast 3 (some .int) 2 := ⟨pb_inW 914 (by decide +kernel) (by decide +kernel), pb_inW 68 (by decide +kernel) (by decide +kernel), by decide +kernel, by decide +kernel, by decide +kernel⟩
theorem mi_X7_beast : Cond.instanceMethod yX7_beast ∈ pb_gw := pb_inW 912 (by decide +kernel) (by decide +kernel)
theorem ms_X7_beast : Cond.selects (yX7_beast).cls yX7_beast yX7_beast ∈ pb_gw := pb_inW 913 (by decide +kernel) (by decide +kernel)
theorem cl_X7_beast {α : Type} {l : Launch} {E : pb_E} {R : Room} {own : String} {cc : ByteArray} {mL : Nat} {ret : Option FieldType} {Xs : State → Prop} {nc ns : Nat} {Qf : State → Array Value → List Frame → α → pb_M → State → Prop} {pc : Nat} {L : List (Option Value)} {S : List Value} {μ : pb_M} {f : Int32 → pb_M → Option (α × pb_M)} {v1 : Int32} {v2 : Int32} {index : Nat} (q : Nat)  (hR : 2 + 1 ≤ R.frames ∧ 8 + (3 + 11) + 46 ≤ R.locals ∧ nc ≤ R.cells ∧ ns ≤ R.slots) (hW : (S.map fun v => v.category).sum ≤ 8) (hl1 : Cond.methodLink own index yX7_beast ∈ pb_gw) (hdg : decode cc pc = .ok (.invokevirtual index, 3)) (hq : pc + 3 = q) (k : ∀ b1 μ1, pb_RW l E R own cc mL ret Xs nc ns Qf q L (.int b1 :: S) μ1 (f b1 μ1)) : pb_RW l E R own cc mL ret Xs nc ns Qf pc L (.int v2 :: .int v1 :: .ref (E.2.1 19) :: S) μ (pb_b (pX7_beast v1 v2 μ) f) := pb_callV q (fun z : Int32 => some (.int z)) mc_X7_beast mi_X7_beast ms_X7_beast (fun b1 μ1 h => evX7_beast l E v1 v2  μ b1 μ1 h) rfl (by decide) rfl rfl rfl rfl hR rfl hW hl1 hdg hq k
