theorem ml_X2_55 : Cond.methodLink RX2 55 yX2_most ∈ pb_gw := pb_inW 564 (by decide +kernel) (by decide +kernel)
theorem ml_X2_58 : Cond.methodLink RX2 58 yX2_firstChoice ∈ pb_gw := pb_inW 583 (by decide +kernel) (by decide +kernel)
def pX2_firstWay_L13  : Nat → Int32 → Int32 → Int32 → Int32 → pb_M → Option (Int32 × pb_M)
  | 0, _, _, _, _, _ => none
  | n + 1, v1, v2, v3, v4, μ =>
    if (μ.1 10 1) ≤ v4 then
      some (v1, μ)
    else
    pb_b (pX2_firstChoice v4 v2 v3 μ) (fun b27 μ27 =>
    if b27 ≤ (0 : Int32) then
      pX2_firstWay_L13 n ((v1 * (10 : Int32)) + b27) v2 v3 (v4 + (1 : Int32)) μ27
    else
    pX2_firstWay_L13 n ((v1 * (10 : Int32)) + b27) (v2 &&& (((1 : Int32) <<< ((b27 - (1 : Int32)) &&& 31)) ^^^ (-1 : Int32))) (v3 + (-1 : Int32)) (v4 + (1 : Int32)) μ27)
def pX2_firstWay  (μ : pb_M) : Option (Int32 × pb_M) :=
  pb_b (pX2_most μ) (fun b6 μ6 =>
  pX2_firstWay_L13 pb_F (0 : Int32) (31 : Int32) b6 (0 : Int32) μ6)
abbrev wX2_firstWay (l : Launch) (E : pb_E) := pb_RW l E { frames := 4, cells := 0, slots := 0, locals := 95 } RX2 cX2_firstWay 6 (some .int) (fun _ => True) 0 0 (pb_Qf E (fun z : Int32 => some (.int z)))
set_option maxRecDepth 100000 in
set_option maxHeartbeats 4000000 in
theorem tX2_firstWay_L13 (l : Launch) (E : pb_E)    : ∀ (n : Nat) (v1 : Int32) (v2 : Int32) (v3 : Int32) (v4 : Int32) (μ : pb_M), wX2_firstWay l E 13 [some (.ref (E.2.1 10)), some (.int v1), some (.int v2), some (.int v3), some (.int v4), none] [] μ (pX2_firstWay_L13 n v1 v2 v3 v4 μ) := by
  intro n
  induction n with
  | zero => intro v1 v2 v3 v4 μ; exact pb_none
  | succ n ih =>
    intro v1 v2 v3 v4 μ
    rw [pX2_firstWay_L13]
    refine pb_iload 15 dX2_firstWay_13 rfl rfl ?_
    refine pb_aload_n 16 dX2_firstWay_15 rfl rfl rfl ?_
    refine pb_getI 19 (j := 1) in_X2 rfl (by decide) rfl rfl (by decide) fl_X2_27 dX2_firstWay_16 rfl ?_
    refine pb_icmp_ge 22 (tgt := 65) dX2_firstWay_19 (by decide) rfl (fun _ => ?_) (fun _ => ?_)
    · refine pb_iload_n 66 dX2_firstWay_65 rfl rfl rfl ?_
      exact pb_iret dX2_firstWay_66
    · refine pb_aload_n 23 dX2_firstWay_22 rfl rfl rfl ?_
      refine pb_iload 25 dX2_firstWay_23 rfl rfl ?_
      refine pb_iload_n 26 dX2_firstWay_25 rfl rfl rfl ?_
      refine pb_iload_n 27 dX2_firstWay_26 rfl rfl rfl ?_
      refine cl_X2_firstChoice 30 ⟨by decide, by decide, by decide, by decide⟩ (Nat.le_of_ble_eq_true rfl) ml_X2_58 dX2_firstWay_27 rfl (fun b27 μ27 => ?_)
      refine pb_istore 32 (i := 5) (L' := [some (.ref (E.2.1 10)), some (.int v1), some (.int v2), some (.int v3), some (.int v4), some (.int b27)]) dX2_firstWay_30 (by decide) rfl rfl rfl ?_
      refine pb_iload 34 dX2_firstWay_32 rfl rfl ?_
      refine pb_if_le 37 (tgt := 51) dX2_firstWay_34 (by decide) rfl (fun _ => ?_) (fun _ => ?_)
      · refine pb_iload_n 52 dX2_firstWay_51 rfl rfl rfl ?_
        refine pb_bipush 54 (v := 10) dX2_firstWay_52 rfl (by decide) ?_
        refine pb_imul 55 dX2_firstWay_54 rfl ?_
        refine pb_iload 57 dX2_firstWay_55 rfl rfl ?_
        refine pb_iadd 58 dX2_firstWay_57 rfl ?_
        refine pb_istore_n 59 (i := 1) (L' := [some (.ref (E.2.1 10)), some (.int ((v1 * (10 : Int32)) + b27)), some (.int v2), some (.int v3), some (.int v4), some (.int b27)]) dX2_firstWay_58 rfl (by decide) rfl rfl rfl ?_
        refine pb_iinc 62 (i := 4) (v := (v4 + (1 : Int32))) (L' := [some (.ref (E.2.1 10)), some (.int ((v1 * (10 : Int32)) + b27)), some (.int v2), some (.int v3), some (.int (v4 + (1 : Int32))), some (.int b27)]) dX2_firstWay_59 rfl rfl (by decide) rfl rfl rfl ?_
        refine pb_goto (tgt := 13) dX2_firstWay_62 (by decide) ?_
        refine pb_weakM (L' := [some (.ref (E.2.1 10)), some (.int ((v1 * (10 : Int32)) + b27)), some (.int v2), some (.int v3), some (.int (v4 + (1 : Int32))), none]) [true, true, true, true, true, false] rfl ?_
        exact ih ((v1 * (10 : Int32)) + b27) v2 v3 (v4 + (1 : Int32)) μ27
      · refine pb_iload_n 38 dX2_firstWay_37 rfl rfl rfl ?_
        refine pb_iconst 39 (v := 1) dX2_firstWay_38 rfl (by decide) ?_
        refine pb_iload 41 dX2_firstWay_39 rfl rfl ?_
        refine pb_iconst 42 (v := 1) dX2_firstWay_41 rfl (by decide) ?_
        refine pb_isub 43 dX2_firstWay_42 rfl ?_
        refine pb_ishl 44 dX2_firstWay_43 rfl ?_
        refine pb_iconst 45 (v := -1) dX2_firstWay_44 rfl (by decide) ?_
        refine pb_ixor 46 dX2_firstWay_45 rfl ?_
        refine pb_iand 47 dX2_firstWay_46 rfl ?_
        refine pb_istore_n 48 (i := 2) (L' := [some (.ref (E.2.1 10)), some (.int v1), some (.int (v2 &&& (((1 : Int32) <<< ((b27 - (1 : Int32)) &&& 31)) ^^^ (-1 : Int32)))), some (.int v3), some (.int v4), some (.int b27)]) dX2_firstWay_47 rfl (by decide) rfl rfl rfl ?_
        refine pb_iinc 51 (i := 3) (v := (v3 + (-1 : Int32))) (L' := [some (.ref (E.2.1 10)), some (.int v1), some (.int (v2 &&& (((1 : Int32) <<< ((b27 - (1 : Int32)) &&& 31)) ^^^ (-1 : Int32)))), some (.int (v3 + (-1 : Int32))), some (.int v4), some (.int b27)]) dX2_firstWay_48 rfl rfl (by decide) rfl rfl rfl ?_
        refine pb_iload_n 52 dX2_firstWay_51 rfl rfl rfl ?_
        refine pb_bipush 54 (v := 10) dX2_firstWay_52 rfl (by decide) ?_
        refine pb_imul 55 dX2_firstWay_54 rfl ?_
        refine pb_iload 57 dX2_firstWay_55 rfl rfl ?_
        refine pb_iadd 58 dX2_firstWay_57 rfl ?_
        refine pb_istore_n 59 (i := 1) (L' := [some (.ref (E.2.1 10)), some (.int ((v1 * (10 : Int32)) + b27)), some (.int (v2 &&& (((1 : Int32) <<< ((b27 - (1 : Int32)) &&& 31)) ^^^ (-1 : Int32)))), some (.int (v3 + (-1 : Int32))), some (.int v4), some (.int b27)]) dX2_firstWay_58 rfl (by decide) rfl rfl rfl ?_
        refine pb_iinc 62 (i := 4) (v := (v4 + (1 : Int32))) (L' := [some (.ref (E.2.1 10)), some (.int ((v1 * (10 : Int32)) + b27)), some (.int (v2 &&& (((1 : Int32) <<< ((b27 - (1 : Int32)) &&& 31)) ^^^ (-1 : Int32)))), some (.int (v3 + (-1 : Int32))), some (.int (v4 + (1 : Int32))), some (.int b27)]) dX2_firstWay_59 rfl rfl (by decide) rfl rfl rfl ?_
        refine pb_goto (tgt := 13) dX2_firstWay_62 (by decide) ?_
        refine pb_weakM (L' := [some (.ref (E.2.1 10)), some (.int ((v1 * (10 : Int32)) + b27)), some (.int (v2 &&& (((1 : Int32) <<< ((b27 - (1 : Int32)) &&& 31)) ^^^ (-1 : Int32)))), some (.int (v3 + (-1 : Int32))), some (.int (v4 + (1 : Int32))), none]) [true, true, true, true, true, false] rfl ?_
        exact ih ((v1 * (10 : Int32)) + b27) (v2 &&& (((1 : Int32) <<< ((b27 - (1 : Int32)) &&& 31)) ^^^ (-1 : Int32))) (v3 + (-1 : Int32)) (v4 + (1 : Int32)) μ27
set_option maxRecDepth 100000 in
set_option maxHeartbeats 4000000 in
theorem evX2_firstWay (l : Launch) (E : pb_E)   (μ : pb_M) : ∀ b μ', pX2_firstWay  μ = some (b, μ') → pb_Ev l E yX2_firstWay cX2_firstWay 6 (some .int) { frames := 4, cells := 0, slots := 0, locals := 95 } [.ref (E.2.1 10)] μ ((fun z : Int32 => some (.int z)) b) μ' := by
  refine pb_enter (L := [some (.ref (E.2.1 10)), none, none, none, none, none]) (by decide +kernel) (Nat.le_of_ble_eq_true rfl) (pb_same [none, none, none, none, none, none] rfl) (show wX2_firstWay l E 0 [some (.ref (E.2.1 10)), none, none, none, none, none] [] μ (pX2_firstWay  μ) from ?_)
  unfold pX2_firstWay
  refine pb_iconst 1 (v := 0) dX2_firstWay_0 rfl (by decide) ?_
  refine pb_istore_n 2 (i := 1) (L' := [some (.ref (E.2.1 10)), some (.int (0 : Int32)), none, none, none, none]) dX2_firstWay_1 rfl (by decide) rfl rfl rfl ?_
  refine pb_bipush 4 (v := 31) dX2_firstWay_2 rfl (by decide) ?_
  refine pb_istore_n 5 (i := 2) (L' := [some (.ref (E.2.1 10)), some (.int (0 : Int32)), some (.int (31 : Int32)), none, none, none]) dX2_firstWay_4 rfl (by decide) rfl rfl rfl ?_
  refine pb_aload_n 6 dX2_firstWay_5 rfl rfl rfl ?_
  refine cl_X2_most 9 ⟨by decide, by decide, by decide, by decide⟩ (Nat.le_of_ble_eq_true rfl) ml_X2_55 dX2_firstWay_6 rfl (fun b6 μ6 => ?_)
  refine pb_istore_n 10 (i := 3) (L' := [some (.ref (E.2.1 10)), some (.int (0 : Int32)), some (.int (31 : Int32)), some (.int b6), none, none]) dX2_firstWay_9 rfl (by decide) rfl rfl rfl ?_
  refine pb_iconst 11 (v := 0) dX2_firstWay_10 rfl (by decide) ?_
  refine pb_istore 13 (i := 4) (L' := [some (.ref (E.2.1 10)), some (.int (0 : Int32)), some (.int (31 : Int32)), some (.int b6), some (.int (0 : Int32)), none]) dX2_firstWay_11 (by decide) rfl rfl rfl ?_
  exact tX2_firstWay_L13 l E pb_F (0 : Int32) (31 : Int32) b6 (0 : Int32) μ6
theorem mc_X2_firstWay : pb_MC yX2_firstWay cX2_firstWay 6 (some .int) 0 := ⟨pb_inW 563 (by decide +kernel) (by decide +kernel), pb_inW 65 (by decide +kernel) (by decide +kernel), by decide +kernel, by decide +kernel, by decide +kernel⟩
theorem mi_X2_firstWay : Cond.instanceMethod yX2_firstWay ∈ pb_gw := pb_inW 561 (by decide +kernel) (by decide +kernel)
theorem ms_X2_firstWay : Cond.selects (yX2_firstWay).cls yX2_firstWay yX2_firstWay ∈ pb_gw := pb_inW 562 (by decide +kernel) (by decide +kernel)
theorem cl_X2_firstWay {α : Type} {l : Launch} {E : pb_E} {R : Room} {own : String} {cc : ByteArray} {mL : Nat} {ret : Option FieldType} {Xs : State → Prop} {nc ns : Nat} {Qf : State → Array Value → List Frame → α → pb_M → State → Prop} {pc : Nat} {L : List (Option Value)} {S : List Value} {μ : pb_M} {f : Int32 → pb_M → Option (α × pb_M)}  {index : Nat} (q : Nat)  (hR : 4 + 1 ≤ R.frames ∧ 8 + (6 + 11) + 95 ≤ R.locals ∧ nc ≤ R.cells ∧ ns ≤ R.slots) (hW : (S.map fun v => v.category).sum ≤ 8) (hl1 : Cond.methodLink own index yX2_firstWay ∈ pb_gw) (hdg : decode cc pc = .ok (.invokevirtual index, 3)) (hq : pc + 3 = q) (k : ∀ b1 μ1, pb_RW l E R own cc mL ret Xs nc ns Qf q L (.int b1 :: S) μ1 (f b1 μ1)) : pb_RW l E R own cc mL ret Xs nc ns Qf pc L (.ref (E.2.1 10) :: S) μ (pb_b (pX2_firstWay  μ) f) := pb_callV q (fun z : Int32 => some (.int z)) mc_X2_firstWay mi_X2_firstWay ms_X2_firstWay (fun b1 μ1 h => evX2_firstWay l E   μ b1 μ1 h) rfl (by decide) rfl rfl rfl rfl hR rfl hW hl1 hdg hq k
theorem fl_X2_62 : Cond.fieldLink RX2 62 "PoundBeasts$Matching" "FACTORIALS" "[I" ∈ pb_gw := pb_inW 596 (by decide +kernel) (by decide +kernel)
def pX2_orders  (μ : pb_M) : Option (Int32 × pb_M) :=
  if pb_in (μ.1 10 1) 5 then
    some ((([1, 1, 2, 6, 24] : List Int32).getD ((μ.1 10 1)).toNatClampNeg 0), μ)
  else none
abbrev wX2_orders (l : Launch) (E : pb_E) := pb_RW l E { frames := 0, cells := 0, slots := 0, locals := 0 } RX2 cX2_orders 1 (some .int) (fun _ => True) 0 0 (pb_Qf E (fun z : Int32 => some (.int z)))
set_option maxRecDepth 100000 in
set_option maxHeartbeats 4000000 in
theorem evX2_orders (l : Launch) (E : pb_E)   (μ : pb_M) : ∀ b μ', pX2_orders  μ = some (b, μ') → pb_Ev l E yX2_orders cX2_orders 1 (some .int) { frames := 0, cells := 0, slots := 0, locals := 0 } [.ref (E.2.1 10)] μ ((fun z : Int32 => some (.int z)) b) μ' := by
  refine pb_enter (L := [some (.ref (E.2.1 10))]) (by decide +kernel) (Nat.le_of_ble_eq_true rfl) (pb_same [none] rfl) (show wX2_orders l E 0 [some (.ref (E.2.1 10))] [] μ (pX2_orders  μ) from ?_)
  unfold pX2_orders
  refine pb_gets 3 fl_X2_62 dX2_orders_0 rfl ?_
  refine pb_aload_n 4 dX2_orders_3 rfl rfl rfl ?_
  refine pb_getI 7 (j := 1) in_X2 rfl (by decide) rfl rfl (by decide) fl_X2_27 dX2_orders_4 rfl ?_
  refine pb_guard (fun hin => pb_facld 8 hin dX2_orders_7 rfl ?_)
  exact pb_iret dX2_orders_8
theorem mc_X2_orders : pb_MC yX2_orders cX2_orders 1 (some .int) 0 := ⟨pb_inW 601 (by decide +kernel) (by decide +kernel), pb_inW 65 (by decide +kernel) (by decide +kernel), by decide +kernel, by decide +kernel, by decide +kernel⟩
theorem mi_X2_orders : Cond.instanceMethod yX2_orders ∈ pb_gw := pb_inW 599 (by decide +kernel) (by decide +kernel)
theorem ms_X2_orders : Cond.selects (yX2_orders).cls yX2_orders yX2_orders ∈ pb_gw := pb_inW 600 (by decide +kernel) (by decide +kernel)
theorem cl_X2_orders {α : Type} {l : Launch} {E : pb_E} {R : Room} {own : String} {cc : ByteArray} {mL : Nat} {ret : Option FieldType} {Xs : State → Prop} {nc ns : Nat} {Qf : State → Array Value → List Frame → α → pb_M → State → Prop} {pc : Nat} {L : List (Option Value)} {S : List Value} {μ : pb_M} {f : Int32 → pb_M → Option (α × pb_M)}  {index : Nat} (q : Nat)  (hR : 0 + 1 ≤ R.frames ∧ 8 + (1 + 11) + 0 ≤ R.locals ∧ nc ≤ R.cells ∧ ns ≤ R.slots) (hW : (S.map fun v => v.category).sum ≤ 8) (hl1 : Cond.methodLink own index yX2_orders ∈ pb_gw) (hdg : decode cc pc = .ok (.invokevirtual index, 3)) (hq : pc + 3 = q) (k : ∀ b1 μ1, pb_RW l E R own cc mL ret Xs nc ns Qf q L (.int b1 :: S) μ1 (f b1 μ1)) : pb_RW l E R own cc mL ret Xs nc ns Qf pc L (.ref (E.2.1 10) :: S) μ (pb_b (pX2_orders  μ) f) := pb_callV q (fun z : Int32 => some (.int z)) mc_X2_orders mi_X2_orders ms_X2_orders (fun b1 μ1 h => evX2_orders l E   μ b1 μ1 h) rfl (by decide) rfl rfl rfl rfl hR rfl hW hl1 hdg hq k
def pX2_ordersWithGain_L4 (v1 : Int32) : Nat → Int32 → Int32 → pb_M → Option (Int32 × pb_M)
  | 0, _, _, _ => none
  | n + 1, v2, v3, μ =>
    pb_b (pX2_everybody μ) (fun b6 μ6 =>
    if b6 < v3 then
      some (v2, μ6)
    else
    pb_b (pX6_has v3 v1 μ6) (fun b14 μ14 =>
    if b14 = (0 : Int32) then
      pb_b (pX2_mostOf (v3 ||| ((1 : Int32) <<< (v1 &&& 31))) (31 : Int32) μ14) (fun b28 μ28 =>
      pb_b (pX2_mostOf v3 (31 : Int32) μ28) (fun b35 μ35 =>
      if b28 ≤ b35 then
        pX2_ordersWithGain_L4 v1 n v2 (v3 + (1 : Int32)) μ35
      else
      pb_b (pJ6_bitCount_0f7a4 v3 μ35) (fun b42 μ42 =>
      if pb_in b42 5 then
        if pb_in (((μ42.1 10 1) - (1 : Int32)) - b42) 5 then
          pX2_ordersWithGain_L4 v1 n (v2 + ((([1, 1, 2, 6, 24] : List Int32).getD (b42).toNatClampNeg 0) * (([1, 1, 2, 6, 24] : List Int32).getD ((((μ42.1 10 1) - (1 : Int32)) - b42)).toNatClampNeg 0))) (v3 + (1 : Int32)) μ42
        else none
      else none)))
    else
    pX2_ordersWithGain_L4 v1 n v2 (v3 + (1 : Int32)) μ14))
def pX2_ordersWithGain (v1 : Int32) (μ : pb_M) : Option (Int32 × pb_M) :=
  pX2_ordersWithGain_L4 v1 pb_F (0 : Int32) (0 : Int32) μ
abbrev wX2_ordersWithGain (l : Launch) (E : pb_E) := pb_RW l E { frames := 3, cells := 0, slots := 0, locals := 69 } RX2 cX2_ordersWithGain 5 (some .int) (fun _ => True) 0 0 (pb_Qf E (fun z : Int32 => some (.int z)))
set_option maxRecDepth 100000 in
set_option maxHeartbeats 4000000 in
theorem tX2_ordersWithGain_L4 (l : Launch) (E : pb_E) (v1 : Int32)   : ∀ (n : Nat) (v2 : Int32) (v3 : Int32) (μ : pb_M), wX2_ordersWithGain l E 4 [some (.ref (E.2.1 10)), some (.int v1), some (.int v2), some (.int v3), none] [] μ (pX2_ordersWithGain_L4 v1 n v2 v3 μ) := by
  intro n
  induction n with
  | zero => intro v2 v3 μ; exact pb_none
  | succ n ih =>
    intro v2 v3 μ
    rw [pX2_ordersWithGain_L4]
    refine pb_iload_n 5 dX2_ordersWithGain_4 rfl rfl rfl ?_
    refine pb_aload_n 6 dX2_ordersWithGain_5 rfl rfl rfl ?_
    refine cl_X2_everybody 9 ⟨by decide, by decide, by decide, by decide⟩ (Nat.le_of_ble_eq_true rfl) ml_X2_38 dX2_ordersWithGain_6 rfl (fun b6 μ6 => ?_)
    refine pb_icmp_gt 12 (tgt := 76) dX2_ordersWithGain_9 (by decide) rfl (fun _ => ?_) (fun _ => ?_)
    · refine pb_iload_n 77 dX2_ordersWithGain_76 rfl rfl rfl ?_
      exact pb_iret dX2_ordersWithGain_77
    · refine pb_iload_n 13 dX2_ordersWithGain_12 rfl rfl rfl ?_
      refine pb_iload_n 14 dX2_ordersWithGain_13 rfl rfl rfl ?_
      refine clN_X6_has 17 ⟨by decide, by decide, by decide, by decide⟩ (Nat.le_of_ble_eq_true rfl) nst_X2_34 dX2_ordersWithGain_14 rfl (fun b14 μ14 => ?_)
      refine pb_if_ne 20 (tgt := 70) dX2_ordersWithGain_17 (by decide) rfl (fun _ => ?_) (fun _ => ?_)
      · refine pb_aload_n 21 dX2_ordersWithGain_20 rfl rfl rfl ?_
        refine pb_iload_n 22 dX2_ordersWithGain_21 rfl rfl rfl ?_
        refine pb_iconst 23 (v := 1) dX2_ordersWithGain_22 rfl (by decide) ?_
        refine pb_iload_n 24 dX2_ordersWithGain_23 rfl rfl rfl ?_
        refine pb_ishl 25 dX2_ordersWithGain_24 rfl ?_
        refine pb_ior 26 dX2_ordersWithGain_25 rfl ?_
        refine pb_bipush 28 (v := 31) dX2_ordersWithGain_26 rfl (by decide) ?_
        refine cl_X2_mostOf 31 ⟨by decide, by decide, by decide, by decide⟩ (Nat.le_of_ble_eq_true rfl) ml_X2_41 dX2_ordersWithGain_28 rfl (fun b28 μ28 => ?_)
        refine pb_aload_n 32 dX2_ordersWithGain_31 rfl rfl rfl ?_
        refine pb_iload_n 33 dX2_ordersWithGain_32 rfl rfl rfl ?_
        refine pb_bipush 35 (v := 31) dX2_ordersWithGain_33 rfl (by decide) ?_
        refine cl_X2_mostOf 38 ⟨by decide, by decide, by decide, by decide⟩ (Nat.le_of_ble_eq_true rfl) ml_X2_41 dX2_ordersWithGain_35 rfl (fun b35 μ35 => ?_)
        refine pb_icmp_le 41 (tgt := 70) dX2_ordersWithGain_38 (by decide) rfl (fun _ => ?_) (fun _ => ?_)
        · refine pb_iinc 73 (i := 3) (v := (v3 + (1 : Int32))) (L' := [some (.ref (E.2.1 10)), some (.int v1), some (.int v2), some (.int (v3 + (1 : Int32))), none]) dX2_ordersWithGain_70 rfl rfl (by decide) rfl rfl rfl ?_
          refine pb_goto (tgt := 4) dX2_ordersWithGain_73 (by decide) ?_
          exact ih v2 (v3 + (1 : Int32)) μ35
        · refine pb_iload_n 42 dX2_ordersWithGain_41 rfl rfl rfl ?_
          refine cl_J6_bitCount_0f7a4 45 ⟨by decide, by decide, by decide, by decide⟩ (Nat.le_of_ble_eq_true rfl) ml_X2_47 dX2_ordersWithGain_42 rfl (fun b42 μ42 => ?_)
          refine pb_istore 47 (i := 4) (L' := [some (.ref (E.2.1 10)), some (.int v1), some (.int v2), some (.int v3), some (.int b42)]) dX2_ordersWithGain_45 (by decide) rfl rfl rfl ?_
          refine pb_iload_n 48 dX2_ordersWithGain_47 rfl rfl rfl ?_
          refine pb_gets 51 fl_X2_62 dX2_ordersWithGain_48 rfl ?_
          refine pb_iload 53 dX2_ordersWithGain_51 rfl rfl ?_
          refine pb_guard (fun hin => pb_facld 54 hin dX2_ordersWithGain_53 rfl ?_)
          refine pb_gets 57 fl_X2_62 dX2_ordersWithGain_54 rfl ?_
          refine pb_aload_n 58 dX2_ordersWithGain_57 rfl rfl rfl ?_
          refine pb_getI 61 (j := 1) in_X2 rfl (by decide) rfl rfl (by decide) fl_X2_27 dX2_ordersWithGain_58 rfl ?_
          refine pb_iconst 62 (v := 1) dX2_ordersWithGain_61 rfl (by decide) ?_
          refine pb_isub 63 dX2_ordersWithGain_62 rfl ?_
          refine pb_iload 65 dX2_ordersWithGain_63 rfl rfl ?_
          refine pb_isub 66 dX2_ordersWithGain_65 rfl ?_
          refine pb_guard (fun hin => pb_facld 67 hin dX2_ordersWithGain_66 rfl ?_)
          refine pb_imul 68 dX2_ordersWithGain_67 rfl ?_
          refine pb_iadd 69 dX2_ordersWithGain_68 rfl ?_
          refine pb_istore_n 70 (i := 2) (L' := [some (.ref (E.2.1 10)), some (.int v1), some (.int (v2 + ((([1, 1, 2, 6, 24] : List Int32).getD (b42).toNatClampNeg 0) * (([1, 1, 2, 6, 24] : List Int32).getD ((((μ42.1 10 1) - (1 : Int32)) - b42)).toNatClampNeg 0)))), some (.int v3), some (.int b42)]) dX2_ordersWithGain_69 rfl (by decide) rfl rfl rfl ?_
          refine pb_iinc 73 (i := 3) (v := (v3 + (1 : Int32))) (L' := [some (.ref (E.2.1 10)), some (.int v1), some (.int (v2 + ((([1, 1, 2, 6, 24] : List Int32).getD (b42).toNatClampNeg 0) * (([1, 1, 2, 6, 24] : List Int32).getD ((((μ42.1 10 1) - (1 : Int32)) - b42)).toNatClampNeg 0)))), some (.int (v3 + (1 : Int32))), some (.int b42)]) dX2_ordersWithGain_70 rfl rfl (by decide) rfl rfl rfl ?_
          refine pb_goto (tgt := 4) dX2_ordersWithGain_73 (by decide) ?_
          refine pb_weakM (L' := [some (.ref (E.2.1 10)), some (.int v1), some (.int (v2 + ((([1, 1, 2, 6, 24] : List Int32).getD (b42).toNatClampNeg 0) * (([1, 1, 2, 6, 24] : List Int32).getD ((((μ42.1 10 1) - (1 : Int32)) - b42)).toNatClampNeg 0)))), some (.int (v3 + (1 : Int32))), none]) [true, true, true, true, false] rfl ?_
          exact ih (v2 + ((([1, 1, 2, 6, 24] : List Int32).getD (b42).toNatClampNeg 0) * (([1, 1, 2, 6, 24] : List Int32).getD ((((μ42.1 10 1) - (1 : Int32)) - b42)).toNatClampNeg 0))) (v3 + (1 : Int32)) μ42
      · refine pb_iinc 73 (i := 3) (v := (v3 + (1 : Int32))) (L' := [some (.ref (E.2.1 10)), some (.int v1), some (.int v2), some (.int (v3 + (1 : Int32))), none]) dX2_ordersWithGain_70 rfl rfl (by decide) rfl rfl rfl ?_
        refine pb_goto (tgt := 4) dX2_ordersWithGain_73 (by decide) ?_
        exact ih v2 (v3 + (1 : Int32)) μ14
set_option maxRecDepth 100000 in
set_option maxHeartbeats 4000000 in
theorem evX2_ordersWithGain (l : Launch) (E : pb_E) (v1 : Int32)  (μ : pb_M) : ∀ b μ', pX2_ordersWithGain v1 μ = some (b, μ') → pb_Ev l E yX2_ordersWithGain cX2_ordersWithGain 5 (some .int) { frames := 3, cells := 0, slots := 0, locals := 69 } [.ref (E.2.1 10), .int v1] μ ((fun z : Int32 => some (.int z)) b) μ' := by
  refine pb_enter (L := [some (.ref (E.2.1 10)), some (.int v1), none, none, none]) (by decide +kernel) (Nat.le_of_ble_eq_true rfl) (pb_same [none, none, none, none, none] rfl) (show wX2_ordersWithGain l E 0 [some (.ref (E.2.1 10)), some (.int v1), none, none, none] [] μ (pX2_ordersWithGain v1 μ) from ?_)
  unfold pX2_ordersWithGain
  refine pb_iconst 1 (v := 0) dX2_ordersWithGain_0 rfl (by decide) ?_
  refine pb_istore_n 2 (i := 2) (L' := [some (.ref (E.2.1 10)), some (.int v1), some (.int (0 : Int32)), none, none]) dX2_ordersWithGain_1 rfl (by decide) rfl rfl rfl ?_
  refine pb_iconst 3 (v := 0) dX2_ordersWithGain_2 rfl (by decide) ?_
  refine pb_istore_n 4 (i := 3) (L' := [some (.ref (E.2.1 10)), some (.int v1), some (.int (0 : Int32)), some (.int (0 : Int32)), none]) dX2_ordersWithGain_3 rfl (by decide) rfl rfl rfl ?_
  exact tX2_ordersWithGain_L4 l E v1 pb_F (0 : Int32) (0 : Int32) μ
theorem mc_X2_ordersWithGain : pb_MC yX2_ordersWithGain cX2_ordersWithGain 5 (some .int) 1 := ⟨pb_inW 595 (by decide +kernel) (by decide +kernel), pb_inW 65 (by decide +kernel) (by decide +kernel), by decide +kernel, by decide +kernel, by decide +kernel⟩
theorem mi_X2_ordersWithGain : Cond.instanceMethod yX2_ordersWithGain ∈ pb_gw := pb_inW 593 (by decide +kernel) (by decide +kernel)
theorem ms_X2_ordersWithGain : Cond.selects (yX2_ordersWithGain).cls yX2_ordersWithGain yX2_ordersWithGain ∈ pb_gw := pb_inW 594 (by decide +kernel) (by decide +kernel)
theorem cl_X2_ordersWithGain {α : Type} {l : Launch} {E : pb_E} {R : Room} {own : String} {cc : ByteArray} {mL : Nat} {ret : Option FieldType} {Xs : State → Prop} {nc ns : Nat} {Qf : State → Array Value → List Frame → α → pb_M → State → Prop} {pc : Nat} {L : List (Option Value)} {S : List Value} {μ : pb_M} {f : Int32 → pb_M → Option (α × pb_M)} {v1 : Int32} {index : Nat} (q : Nat)  (hR : 3 + 1 ≤ R.frames ∧ 8 + (5 + 11) + 69 ≤ R.locals ∧ nc ≤ R.cells ∧ ns ≤ R.slots) (hW : (S.map fun v => v.category).sum ≤ 8) (hl1 : Cond.methodLink own index yX2_ordersWithGain ∈ pb_gw) (hdg : decode cc pc = .ok (.invokevirtual index, 3)) (hq : pc + 3 = q) (k : ∀ b1 μ1, pb_RW l E R own cc mL ret Xs nc ns Qf q L (.int b1 :: S) μ1 (f b1 μ1)) : pb_RW l E R own cc mL ret Xs nc ns Qf pc L (.int v1 :: .ref (E.2.1 10) :: S) μ (pb_b (pX2_ordersWithGain v1 μ) f) := pb_callV q (fun z : Int32 => some (.int z)) mc_X2_ordersWithGain mi_X2_ordersWithGain ms_X2_ordersWithGain (fun b1 μ1 h => evX2_ordersWithGain l E v1  μ b1 μ1 h) rfl (by decide) rfl rfl rfl rfl hR rfl hW hl1 hdg hq k
theorem ml_X3_22 : Cond.methodLink RX3 22 yX5_people ∈ pb_gw := pb_inW 616 (by decide +kernel) (by decide +kernel)
theorem ml_X3_44 : Cond.methodLink RX3 44 yX5_debt ∈ pb_gw := pb_inW 624 (by decide +kernel) (by decide +kernel)
theorem nst_X3_32 : (RX3, 32, yX6_has, "PoundBeasts") ∈ pb_nest := by unfold pb_nest; simp
def pX3_owesOneOf_L2 (h0 : Nat) (v1 : Int32) (v2 : Int32) : Nat → Int32 → pb_M → Option (Int32 × pb_M)
  | 0, _, _ => none
  | n + 1, v3, μ =>
    pb_b (pX5_people h0 μ) (fun b4 μ4 =>
    if b4 ≤ v3 then
      some ((0 : Int32), μ4)
    else
    pb_b (pX6_has v2 v3 μ4) (fun b12 μ12 =>
    if b12 = (0 : Int32) then
      pX3_owesOneOf_L2 h0 v1 v2 n (v3 + (1 : Int32)) μ12
    else
    pb_b (pX5_debt h0 v1 v3 μ12) (fun b21 μ21 =>
    if b21 ≤ (0 : Int32) then
      pX3_owesOneOf_L2 h0 v1 v2 n (v3 + (1 : Int32)) μ21
    else
    some ((1 : Int32), μ21))))
def pX3_owesOneOf (h0 : Nat) (v1 : Int32) (v2 : Int32) (μ : pb_M) : Option (Int32 × pb_M) :=
  pX3_owesOneOf_L2 h0 v1 v2 pb_F (0 : Int32) μ
abbrev wX3_owesOneOf (l : Launch) (E : pb_E) := pb_RW l E { frames := 1, cells := 0, slots := 0, locals := 22 } RX3 cX3_owesOneOf 4 (some .boolean) (fun _ => True) 0 0 (pb_Qf E (fun z : Int32 => some (.int z)))
set_option maxRecDepth 100000 in
set_option maxHeartbeats 4000000 in
theorem tX3_owesOneOf_L2 (l : Launch) (E : pb_E) (h0 : Nat) (hv0 : pb_V h0) (v1 : Int32) (v2 : Int32)   : ∀ (n : Nat) (v3 : Int32) (μ : pb_M), wX3_owesOneOf l E 2 [some (.ref (E.2.1 h0)), some (.int v1), some (.int v2), some (.int v3)] [] μ (pX3_owesOneOf_L2 h0 v1 v2 n v3 μ) := by
  intro n
  induction n with
  | zero => intro v3 μ; exact pb_none
  | succ n ih =>
    intro v3 μ
    rw [pX3_owesOneOf_L2]
    refine pb_iload_n 3 dX3_owesOneOf_2 rfl rfl rfl ?_
    refine pb_aload_n 4 dX3_owesOneOf_3 rfl rfl rfl ?_
    refine cl_X5_people 7 hv0 ⟨by decide, by decide, by decide, by decide⟩ (Nat.le_of_ble_eq_true rfl) ml_X3_22 dX3_owesOneOf_4 rfl (fun b4 μ4 => ?_)
    refine pb_icmp_ge 10 (tgt := 35) dX3_owesOneOf_7 (by decide) rfl (fun _ => ?_) (fun _ => ?_)
    · refine pb_iconst 36 (v := 0) dX3_owesOneOf_35 rfl (by decide) ?_
      exact pb_zret rfl dX3_owesOneOf_36
    · refine pb_iload_n 11 dX3_owesOneOf_10 rfl rfl rfl ?_
      refine pb_iload_n 12 dX3_owesOneOf_11 rfl rfl rfl ?_
      refine clN_X6_has 15 ⟨by decide, by decide, by decide, by decide⟩ (Nat.le_of_ble_eq_true rfl) nst_X3_32 dX3_owesOneOf_12 rfl (fun b12 μ12 => ?_)
      refine pb_if_eq 18 (tgt := 29) dX3_owesOneOf_15 (by decide) rfl (fun _ => ?_) (fun _ => ?_)
      · refine pb_iinc 32 (i := 3) (v := (v3 + (1 : Int32))) (L' := [some (.ref (E.2.1 h0)), some (.int v1), some (.int v2), some (.int (v3 + (1 : Int32)))]) dX3_owesOneOf_29 rfl rfl (by decide) rfl rfl rfl ?_
        refine pb_goto (tgt := 2) dX3_owesOneOf_32 (by decide) ?_
        exact ih (v3 + (1 : Int32)) μ12
      · refine pb_aload_n 19 dX3_owesOneOf_18 rfl rfl rfl ?_
        refine pb_iload_n 20 dX3_owesOneOf_19 rfl rfl rfl ?_
        refine pb_iload_n 21 dX3_owesOneOf_20 rfl rfl rfl ?_
        refine cl_X5_debt 24 hv0 ⟨by decide, by decide, by decide, by decide⟩ (Nat.le_of_ble_eq_true rfl) ml_X3_44 dX3_owesOneOf_21 rfl (fun b21 μ21 => ?_)
        refine pb_if_le 27 (tgt := 29) dX3_owesOneOf_24 (by decide) rfl (fun _ => ?_) (fun _ => ?_)
        · refine pb_iinc 32 (i := 3) (v := (v3 + (1 : Int32))) (L' := [some (.ref (E.2.1 h0)), some (.int v1), some (.int v2), some (.int (v3 + (1 : Int32)))]) dX3_owesOneOf_29 rfl rfl (by decide) rfl rfl rfl ?_
          refine pb_goto (tgt := 2) dX3_owesOneOf_32 (by decide) ?_
          exact ih (v3 + (1 : Int32)) μ21
        · refine pb_iconst 28 (v := 1) dX3_owesOneOf_27 rfl (by decide) ?_
          exact pb_zret rfl dX3_owesOneOf_28
set_option maxRecDepth 100000 in
set_option maxHeartbeats 4000000 in
theorem evX3_owesOneOf (l : Launch) (E : pb_E) (h0 : Nat) (v1 : Int32) (v2 : Int32) (hv0 : pb_V h0) (μ : pb_M) : ∀ b μ', pX3_owesOneOf h0 v1 v2 μ = some (b, μ') → pb_Ev l E yX3_owesOneOf cX3_owesOneOf 4 (some .boolean) { frames := 1, cells := 0, slots := 0, locals := 22 } [.ref (E.2.1 h0), .int v1, .int v2] μ ((fun z : Int32 => some (.int z)) b) μ' := by
  refine pb_enter (L := [some (.ref (E.2.1 h0)), some (.int v1), some (.int v2), none]) (by decide +kernel) (Nat.le_of_ble_eq_true rfl) (pb_same [none, none, none, none] rfl) (show wX3_owesOneOf l E 0 [some (.ref (E.2.1 h0)), some (.int v1), some (.int v2), none] [] μ (pX3_owesOneOf h0 v1 v2 μ) from ?_)
  unfold pX3_owesOneOf
  refine pb_iconst 1 (v := 0) dX3_owesOneOf_0 rfl (by decide) ?_
  refine pb_istore_n 2 (i := 3) (L' := [some (.ref (E.2.1 h0)), some (.int v1), some (.int v2), some (.int (0 : Int32))]) dX3_owesOneOf_1 rfl (by decide) rfl rfl rfl ?_
  exact tX3_owesOneOf_L2 l E h0 hv0 v1 v2 pb_F (0 : Int32) μ
theorem mc_X3_owesOneOf : pb_MC yX3_owesOneOf cX3_owesOneOf 4 (some .boolean) 3 := ⟨pb_inW 622 (by decide +kernel) (by decide +kernel), pb_inW 66 (by decide +kernel) (by decide +kernel), by decide +kernel, by decide +kernel, by decide +kernel⟩
theorem ms_X3_owesOneOf : Cond.static yX3_owesOneOf ∈ pb_gw := pb_inW 621 (by decide +kernel) (by decide +kernel)
theorem cl_X3_owesOneOf {α : Type} {l : Launch} {E : pb_E} {R : Room} {own : String} {cc : ByteArray} {mL : Nat} {ret : Option FieldType} {Xs : State → Prop} {nc ns : Nat} {Qf : State → Array Value → List Frame → α → pb_M → State → Prop} {pc : Nat} {L : List (Option Value)} {S : List Value} {μ : pb_M} {f : Int32 → pb_M → Option (α × pb_M)} {h0 : Nat} {v1 : Int32} {v2 : Int32} {index : Nat} (q : Nat) (hv0 : pb_V h0) (hR : 1 + 1 ≤ R.frames ∧ 8 + (4 + 11) + 22 ≤ R.locals ∧ nc ≤ R.cells ∧ ns ≤ R.slots) (hW : (S.map fun v => v.category).sum ≤ 8) (hl1 : Cond.methodLink own index yX3_owesOneOf ∈ pb_gw) (hdg : decode cc pc = .ok (.invokestatic index, 3)) (hq : pc + 3 = q) (k : ∀ b1 μ1, pb_RW l E R own cc mL ret Xs nc ns Qf q L (.int b1 :: S) μ1 (f b1 μ1)) : pb_RW l E R own cc mL ret Xs nc ns Qf pc L (.int v2 :: .int v1 :: .ref (E.2.1 h0) :: S) μ (pb_b (pX3_owesOneOf h0 v1 v2 μ) f) := pb_callS q (fun z : Int32 => some (.int z)) mc_X3_owesOneOf ms_X3_owesOneOf (fun b1 μ1 h => evX3_owesOneOf l E h0 v1 v2 hv0 μ b1 μ1 h) rfl rfl rfl hR rfl hW hl1 hdg hq k
theorem ml_X3_40 : Cond.methodLink RX3 40 yX3_owesOneOf ∈ pb_gw := pb_inW 620 (by decide +kernel) (by decide +kernel)
def pX3_debtorsOf_L4 (h0 : Nat) (v1 : Int32) : Nat → Int32 → Int32 → pb_M → Option (Int32 × pb_M)
  | 0, _, _, _ => none
  | n + 1, v2, v3, μ =>
    pb_b (pX5_people h0 μ) (fun b6 μ6 =>
    if b6 ≤ v3 then
      some (v2, μ6)
    else
    pb_b (pX3_owesOneOf h0 v3 v1 μ6) (fun b16 μ16 =>
    if b16 = (0 : Int32) then
      pX3_debtorsOf_L4 h0 v1 n (v2 ||| (0 : Int32)) (v3 + (1 : Int32)) μ16
    else
    pX3_debtorsOf_L4 h0 v1 n (v2 ||| ((1 : Int32) <<< (v3 &&& 31))) (v3 + (1 : Int32)) μ16))
def pX3_debtorsOf (h0 : Nat) (v1 : Int32) (μ : pb_M) : Option (Int32 × pb_M) :=
  pX3_debtorsOf_L4 h0 v1 pb_F (0 : Int32) (0 : Int32) μ
abbrev wX3_debtorsOf (l : Launch) (E : pb_E) := pb_RW l E { frames := 2, cells := 0, slots := 0, locals := 45 } RX3 cX3_debtorsOf 4 (some .int) (fun _ => True) 0 0 (pb_Qf E (fun z : Int32 => some (.int z)))
set_option maxRecDepth 100000 in
set_option maxHeartbeats 4000000 in
theorem tX3_debtorsOf_L4 (l : Launch) (E : pb_E) (h0 : Nat) (hv0 : pb_V h0) (v1 : Int32)   : ∀ (n : Nat) (v2 : Int32) (v3 : Int32) (μ : pb_M), wX3_debtorsOf l E 4 [some (.ref (E.2.1 h0)), some (.int v1), some (.int v2), some (.int v3)] [] μ (pX3_debtorsOf_L4 h0 v1 n v2 v3 μ) := by
  intro n
  induction n with
  | zero => intro v2 v3 μ; exact pb_none
  | succ n ih =>
    intro v2 v3 μ
    rw [pX3_debtorsOf_L4]
    refine pb_iload_n 5 dX3_debtorsOf_4 rfl rfl rfl ?_
    refine pb_aload_n 6 dX3_debtorsOf_5 rfl rfl rfl ?_
    refine cl_X5_people 9 hv0 ⟨by decide, by decide, by decide, by decide⟩ (Nat.le_of_ble_eq_true rfl) ml_X3_22 dX3_debtorsOf_6 rfl (fun b6 μ6 => ?_)
    refine pb_icmp_ge 12 (tgt := 37) dX3_debtorsOf_9 (by decide) rfl (fun _ => ?_) (fun _ => ?_)
    · refine pb_iload_n 38 dX3_debtorsOf_37 rfl rfl rfl ?_
      exact pb_iret dX3_debtorsOf_38
    · refine pb_iload_n 13 dX3_debtorsOf_12 rfl rfl rfl ?_
      refine pb_aload_n 14 dX3_debtorsOf_13 rfl rfl rfl ?_
      refine pb_iload_n 15 dX3_debtorsOf_14 rfl rfl rfl ?_
      refine pb_iload_n 16 dX3_debtorsOf_15 rfl rfl rfl ?_
      refine cl_X3_owesOneOf 19 hv0 ⟨by decide, by decide, by decide, by decide⟩ (Nat.le_of_ble_eq_true rfl) ml_X3_40 dX3_debtorsOf_16 rfl (fun b16 μ16 => ?_)
      refine pb_if_eq 22 (tgt := 28) dX3_debtorsOf_19 (by decide) rfl (fun _ => ?_) (fun _ => ?_)
      · refine pb_iconst 29 (v := 0) dX3_debtorsOf_28 rfl (by decide) ?_
        refine pb_ior 30 dX3_debtorsOf_29 rfl ?_
        refine pb_istore_n 31 (i := 2) (L' := [some (.ref (E.2.1 h0)), some (.int v1), some (.int (v2 ||| (0 : Int32))), some (.int v3)]) dX3_debtorsOf_30 rfl (by decide) rfl rfl rfl ?_
        refine pb_iinc 34 (i := 3) (v := (v3 + (1 : Int32))) (L' := [some (.ref (E.2.1 h0)), some (.int v1), some (.int (v2 ||| (0 : Int32))), some (.int (v3 + (1 : Int32)))]) dX3_debtorsOf_31 rfl rfl (by decide) rfl rfl rfl ?_
        refine pb_goto (tgt := 4) dX3_debtorsOf_34 (by decide) ?_
        exact ih (v2 ||| (0 : Int32)) (v3 + (1 : Int32)) μ16
      · refine pb_iconst 23 (v := 1) dX3_debtorsOf_22 rfl (by decide) ?_
        refine pb_iload_n 24 dX3_debtorsOf_23 rfl rfl rfl ?_
        refine pb_ishl 25 dX3_debtorsOf_24 rfl ?_
        refine pb_goto (tgt := 29) dX3_debtorsOf_25 (by decide) ?_
        refine pb_ior 30 dX3_debtorsOf_29 rfl ?_
        refine pb_istore_n 31 (i := 2) (L' := [some (.ref (E.2.1 h0)), some (.int v1), some (.int (v2 ||| ((1 : Int32) <<< (v3 &&& 31)))), some (.int v3)]) dX3_debtorsOf_30 rfl (by decide) rfl rfl rfl ?_
        refine pb_iinc 34 (i := 3) (v := (v3 + (1 : Int32))) (L' := [some (.ref (E.2.1 h0)), some (.int v1), some (.int (v2 ||| ((1 : Int32) <<< (v3 &&& 31)))), some (.int (v3 + (1 : Int32)))]) dX3_debtorsOf_31 rfl rfl (by decide) rfl rfl rfl ?_
        refine pb_goto (tgt := 4) dX3_debtorsOf_34 (by decide) ?_
        exact ih (v2 ||| ((1 : Int32) <<< (v3 &&& 31))) (v3 + (1 : Int32)) μ16
set_option maxRecDepth 100000 in
set_option maxHeartbeats 4000000 in
theorem evX3_debtorsOf (l : Launch) (E : pb_E) (h0 : Nat) (v1 : Int32) (hv0 : pb_V h0) (μ : pb_M) : ∀ b μ', pX3_debtorsOf h0 v1 μ = some (b, μ') → pb_Ev l E yX3_debtorsOf cX3_debtorsOf 4 (some .int) { frames := 2, cells := 0, slots := 0, locals := 45 } [.ref (E.2.1 h0), .int v1] μ ((fun z : Int32 => some (.int z)) b) μ' := by
  refine pb_enter (L := [some (.ref (E.2.1 h0)), some (.int v1), none, none]) (by decide +kernel) (Nat.le_of_ble_eq_true rfl) (pb_same [none, none, none, none] rfl) (show wX3_debtorsOf l E 0 [some (.ref (E.2.1 h0)), some (.int v1), none, none] [] μ (pX3_debtorsOf h0 v1 μ) from ?_)
  unfold pX3_debtorsOf
  refine pb_iconst 1 (v := 0) dX3_debtorsOf_0 rfl (by decide) ?_
  refine pb_istore_n 2 (i := 2) (L' := [some (.ref (E.2.1 h0)), some (.int v1), some (.int (0 : Int32)), none]) dX3_debtorsOf_1 rfl (by decide) rfl rfl rfl ?_
  refine pb_iconst 3 (v := 0) dX3_debtorsOf_2 rfl (by decide) ?_
  refine pb_istore_n 4 (i := 3) (L' := [some (.ref (E.2.1 h0)), some (.int v1), some (.int (0 : Int32)), some (.int (0 : Int32))]) dX3_debtorsOf_3 rfl (by decide) rfl rfl rfl ?_
  exact tX3_debtorsOf_L4 l E h0 hv0 v1 pb_F (0 : Int32) (0 : Int32) μ
theorem mc_X3_debtorsOf : pb_MC yX3_debtorsOf cX3_debtorsOf 4 (some .int) 2 := ⟨pb_inW 619 (by decide +kernel) (by decide +kernel), pb_inW 66 (by decide +kernel) (by decide +kernel), by decide +kernel, by decide +kernel, by decide +kernel⟩
theorem ms_X3_debtorsOf : Cond.static yX3_debtorsOf ∈ pb_gw := pb_inW 618 (by decide +kernel) (by decide +kernel)
theorem cl_X3_debtorsOf {α : Type} {l : Launch} {E : pb_E} {R : Room} {own : String} {cc : ByteArray} {mL : Nat} {ret : Option FieldType} {Xs : State → Prop} {nc ns : Nat} {Qf : State → Array Value → List Frame → α → pb_M → State → Prop} {pc : Nat} {L : List (Option Value)} {S : List Value} {μ : pb_M} {f : Int32 → pb_M → Option (α × pb_M)} {h0 : Nat} {v1 : Int32} {index : Nat} (q : Nat) (hv0 : pb_V h0) (hR : 2 + 1 ≤ R.frames ∧ 8 + (4 + 11) + 45 ≤ R.locals ∧ nc ≤ R.cells ∧ ns ≤ R.slots) (hW : (S.map fun v => v.category).sum ≤ 8) (hl1 : Cond.methodLink own index yX3_debtorsOf ∈ pb_gw) (hdg : decode cc pc = .ok (.invokestatic index, 3)) (hq : pc + 3 = q) (k : ∀ b1 μ1, pb_RW l E R own cc mL ret Xs nc ns Qf q L (.int b1 :: S) μ1 (f b1 μ1)) : pb_RW l E R own cc mL ret Xs nc ns Qf pc L (.int v1 :: .ref (E.2.1 h0) :: S) μ (pb_b (pX3_debtorsOf h0 v1 μ) f) := pb_callS q (fun z : Int32 => some (.int z)) mc_X3_debtorsOf ms_X3_debtorsOf (fun b1 μ1 h => evX3_debtorsOf l E h0 v1 hv0 μ b1 μ1 h) rfl rfl rfl hR rfl hW hl1 hdg hq k
def pX3_firstCreditor_L2 (h0 : Nat) (v1 : Int32) (v2 : Int32) : Nat → Int32 → pb_M → Option (Int32 × pb_M)
  | 0, _, _ => none
  | n + 1, v3, μ =>
    pb_b (pX5_people h0 μ) (fun b4 μ4 =>
    if b4 ≤ v3 then
      some (v1, μ4)
    else
    pb_b (pX6_has v2 v3 μ4) (fun b12 μ12 =>
    if b12 = (0 : Int32) then
      pX3_firstCreditor_L2 h0 v1 v2 n (v3 + (1 : Int32)) μ12
    else
    pb_b (pX5_debt h0 v1 v3 μ12) (fun b21 μ21 =>
    if b21 ≤ (0 : Int32) then
      pX3_firstCreditor_L2 h0 v1 v2 n (v3 + (1 : Int32)) μ21
    else
    some (v3, μ21))))
def pX3_firstCreditor (h0 : Nat) (v1 : Int32) (v2 : Int32) (μ : pb_M) : Option (Int32 × pb_M) :=
  pX3_firstCreditor_L2 h0 v1 v2 pb_F (0 : Int32) μ
abbrev wX3_firstCreditor (l : Launch) (E : pb_E) := pb_RW l E { frames := 1, cells := 0, slots := 0, locals := 22 } RX3 cX3_firstCreditor 4 (some .int) (fun _ => True) 0 0 (pb_Qf E (fun z : Int32 => some (.int z)))
set_option maxRecDepth 100000 in
set_option maxHeartbeats 4000000 in
theorem tX3_firstCreditor_L2 (l : Launch) (E : pb_E) (h0 : Nat) (hv0 : pb_V h0) (v1 : Int32) (v2 : Int32)   : ∀ (n : Nat) (v3 : Int32) (μ : pb_M), wX3_firstCreditor l E 2 [some (.ref (E.2.1 h0)), some (.int v1), some (.int v2), some (.int v3)] [] μ (pX3_firstCreditor_L2 h0 v1 v2 n v3 μ) := by
  intro n
  induction n with
  | zero => intro v3 μ; exact pb_none
  | succ n ih =>
    intro v3 μ
    rw [pX3_firstCreditor_L2]
    refine pb_iload_n 3 dX3_firstCreditor_2 rfl rfl rfl ?_
    refine pb_aload_n 4 dX3_firstCreditor_3 rfl rfl rfl ?_
    refine cl_X5_people 7 hv0 ⟨by decide, by decide, by decide, by decide⟩ (Nat.le_of_ble_eq_true rfl) ml_X3_22 dX3_firstCreditor_4 rfl (fun b4 μ4 => ?_)
    refine pb_icmp_ge 10 (tgt := 35) dX3_firstCreditor_7 (by decide) rfl (fun _ => ?_) (fun _ => ?_)
    · refine pb_iload_n 36 dX3_firstCreditor_35 rfl rfl rfl ?_
      exact pb_iret dX3_firstCreditor_36
    · refine pb_iload_n 11 dX3_firstCreditor_10 rfl rfl rfl ?_
      refine pb_iload_n 12 dX3_firstCreditor_11 rfl rfl rfl ?_
      refine clN_X6_has 15 ⟨by decide, by decide, by decide, by decide⟩ (Nat.le_of_ble_eq_true rfl) nst_X3_32 dX3_firstCreditor_12 rfl (fun b12 μ12 => ?_)
      refine pb_if_eq 18 (tgt := 29) dX3_firstCreditor_15 (by decide) rfl (fun _ => ?_) (fun _ => ?_)
      · refine pb_iinc 32 (i := 3) (v := (v3 + (1 : Int32))) (L' := [some (.ref (E.2.1 h0)), some (.int v1), some (.int v2), some (.int (v3 + (1 : Int32)))]) dX3_firstCreditor_29 rfl rfl (by decide) rfl rfl rfl ?_
        refine pb_goto (tgt := 2) dX3_firstCreditor_32 (by decide) ?_
        exact ih (v3 + (1 : Int32)) μ12
      · refine pb_aload_n 19 dX3_firstCreditor_18 rfl rfl rfl ?_
        refine pb_iload_n 20 dX3_firstCreditor_19 rfl rfl rfl ?_
        refine pb_iload_n 21 dX3_firstCreditor_20 rfl rfl rfl ?_
        refine cl_X5_debt 24 hv0 ⟨by decide, by decide, by decide, by decide⟩ (Nat.le_of_ble_eq_true rfl) ml_X3_44 dX3_firstCreditor_21 rfl (fun b21 μ21 => ?_)
        refine pb_if_le 27 (tgt := 29) dX3_firstCreditor_24 (by decide) rfl (fun _ => ?_) (fun _ => ?_)
        · refine pb_iinc 32 (i := 3) (v := (v3 + (1 : Int32))) (L' := [some (.ref (E.2.1 h0)), some (.int v1), some (.int v2), some (.int (v3 + (1 : Int32)))]) dX3_firstCreditor_29 rfl rfl (by decide) rfl rfl rfl ?_
          refine pb_goto (tgt := 2) dX3_firstCreditor_32 (by decide) ?_
          exact ih (v3 + (1 : Int32)) μ21
        · refine pb_iload_n 28 dX3_firstCreditor_27 rfl rfl rfl ?_
          exact pb_iret dX3_firstCreditor_28
set_option maxRecDepth 100000 in
set_option maxHeartbeats 4000000 in
theorem evX3_firstCreditor (l : Launch) (E : pb_E) (h0 : Nat) (v1 : Int32) (v2 : Int32) (hv0 : pb_V h0) (μ : pb_M) : ∀ b μ', pX3_firstCreditor h0 v1 v2 μ = some (b, μ') → pb_Ev l E yX3_firstCreditor cX3_firstCreditor 4 (some .int) { frames := 1, cells := 0, slots := 0, locals := 22 } [.ref (E.2.1 h0), .int v1, .int v2] μ ((fun z : Int32 => some (.int z)) b) μ' := by
  refine pb_enter (L := [some (.ref (E.2.1 h0)), some (.int v1), some (.int v2), none]) (by decide +kernel) (Nat.le_of_ble_eq_true rfl) (pb_same [none, none, none, none] rfl) (show wX3_firstCreditor l E 0 [some (.ref (E.2.1 h0)), some (.int v1), some (.int v2), none] [] μ (pX3_firstCreditor h0 v1 v2 μ) from ?_)
  unfold pX3_firstCreditor
  refine pb_iconst 1 (v := 0) dX3_firstCreditor_0 rfl (by decide) ?_
  refine pb_istore_n 2 (i := 3) (L' := [some (.ref (E.2.1 h0)), some (.int v1), some (.int v2), some (.int (0 : Int32))]) dX3_firstCreditor_1 rfl (by decide) rfl rfl rfl ?_
  exact tX3_firstCreditor_L2 l E h0 hv0 v1 v2 pb_F (0 : Int32) μ
theorem mc_X3_firstCreditor : pb_MC yX3_firstCreditor cX3_firstCreditor 4 (some .int) 3 := ⟨pb_inW 631 (by decide +kernel) (by decide +kernel), pb_inW 66 (by decide +kernel) (by decide +kernel), by decide +kernel, by decide +kernel, by decide +kernel⟩
theorem ms_X3_firstCreditor : Cond.static yX3_firstCreditor ∈ pb_gw := pb_inW 630 (by decide +kernel) (by decide +kernel)
theorem cl_X3_firstCreditor {α : Type} {l : Launch} {E : pb_E} {R : Room} {own : String} {cc : ByteArray} {mL : Nat} {ret : Option FieldType} {Xs : State → Prop} {nc ns : Nat} {Qf : State → Array Value → List Frame → α → pb_M → State → Prop} {pc : Nat} {L : List (Option Value)} {S : List Value} {μ : pb_M} {f : Int32 → pb_M → Option (α × pb_M)} {h0 : Nat} {v1 : Int32} {v2 : Int32} {index : Nat} (q : Nat) (hv0 : pb_V h0) (hR : 1 + 1 ≤ R.frames ∧ 8 + (4 + 11) + 22 ≤ R.locals ∧ nc ≤ R.cells ∧ ns ≤ R.slots) (hW : (S.map fun v => v.category).sum ≤ 8) (hl1 : Cond.methodLink own index yX3_firstCreditor ∈ pb_gw) (hdg : decode cc pc = .ok (.invokestatic index, 3)) (hq : pc + 3 = q) (k : ∀ b1 μ1, pb_RW l E R own cc mL ret Xs nc ns Qf q L (.int b1 :: S) μ1 (f b1 μ1)) : pb_RW l E R own cc mL ret Xs nc ns Qf pc L (.int v2 :: .int v1 :: .ref (E.2.1 h0) :: S) μ (pb_b (pX3_firstCreditor h0 v1 v2 μ) f) := pb_callS q (fun z : Int32 => some (.int z)) mc_X3_firstCreditor ms_X3_firstCreditor (fun b1 μ1 h => evX3_firstCreditor l E h0 v1 v2 hv0 μ b1 μ1 h) rfl rfl rfl hR rfl hW hl1 hdg hq k
theorem fl_X3_15 : Cond.fieldLink RX3 15 (TX3 1).1 (TX3 1).2.1 (TX3 1).2.2.1 ∈ pb_gw := pb_inW 144 (by decide +kernel) (by decide +kernel)
theorem fl_X3_18 : Cond.fieldLink RX3 18 (TX3 2).1 (TX3 2).2.1 (TX3 2).2.2.1 ∈ pb_gw := pb_inW 145 (by decide +kernel) (by decide +kernel)
theorem fl_X3_9 : Cond.fieldLink RX3 9 (TX3 0).1 (TX3 0).2.1 (TX3 0).2.2.1 ∈ pb_gw := pb_inW 143 (by decide +kernel) (by decide +kernel)
theorem ml_X3_48 : Cond.methodLink RX3 48 yX3_firstCreditor ∈ pb_gw := pb_inW 629 (by decide +kernel) (by decide +kernel)
def pX3_follow_L6 (h1 : Nat) : Nat → Int32 → Int32 → pb_M → Option (Unit × pb_M)
  | 0, _, _, _ => none
  | n + 1, v4, v5, μ =>
    if v5 < (1 : Int32) then
      some ((), μ)
    else
    if pb_in (μ.1 12 2) 4 then
      if pb_in (v5 - (1 : Int32)) 5 then
        pb_b (pX3_firstCreditor h1 v4 ((pb_sA (pb_sA μ 14 (upd (μ.1 14) ((μ.1 12 2)).toNatClampNeg v4)) 12 (upd ((pb_sA μ 14 (upd (μ.1 14) ((μ.1 12 2)).toNatClampNeg v4)).1 12) 2 (((pb_sA μ 14 (upd (μ.1 14) ((μ.1 12 2)).toNatClampNeg v4)).1 12 2) + (1 : Int32)))).1 13 ((v5 - (1 : Int32))).toNatClampNeg) (pb_sA (pb_sA μ 14 (upd (μ.1 14) ((μ.1 12 2)).toNatClampNeg v4)) 12 (upd ((pb_sA μ 14 (upd (μ.1 14) ((μ.1 12 2)).toNatClampNeg v4)).1 12) 2 (((pb_sA μ 14 (upd (μ.1 14) ((μ.1 12 2)).toNatClampNeg v4)).1 12 2) + (1 : Int32))))) (fun b45 μ45 =>
        pX3_follow_L6 h1 n b45 (v5 + (-1 : Int32)) μ45)
      else none
    else none
def pX3_follow (h1 : Nat) (v2 : Int32) (v3 : Int32) (μ : pb_M) : Option (Unit × pb_M) :=
  pX3_follow_L6 h1 pb_F v2 v3 μ
abbrev wX3_follow (l : Launch) (E : pb_E) := pb_RW l E { frames := 2, cells := 0, slots := 0, locals := 45 } RX3 cX3_follow 6 none (fun _ => True) 0 0 (pb_Qf E (fun _ : Unit => none))
set_option maxRecDepth 100000 in
set_option maxHeartbeats 4000000 in
theorem tX3_follow_L6 (l : Launch) (E : pb_E) (h1 : Nat) (hv1 : pb_V h1)   : ∀ (n : Nat) (v4 : Int32) (v5 : Int32) (μ : pb_M), wX3_follow l E 6 [some (.ref (E.2.1 12)), some (.ref (E.2.1 h1)), none, none, some (.int v4), some (.int v5)] [] μ (pX3_follow_L6 h1 n v4 v5 μ) := by
  intro n
  induction n with
  | zero => intro v4 v5 μ; exact pb_none
  | succ n ih =>
    intro v4 v5 μ
    rw [pX3_follow_L6]
    refine pb_iload 8 dX3_follow_6 rfl rfl ?_
    refine pb_iconst 9 (v := 1) dX3_follow_8 rfl (by decide) ?_
    refine pb_icmp_lt 12 (tgt := 56) dX3_follow_9 (by decide) rfl (fun _ => ?_) (fun _ => ?_)
    · exact pb_vret dX3_follow_56
    · refine pb_aload_n 13 dX3_follow_12 rfl rfl rfl ?_
      refine pb_getR 16 (j := 1) (d := 14) in_X3 rfl (by decide) rfl rfl (by decide) fl_X3_15 dX3_follow_13 rfl ?_
      refine pb_aload_n 17 dX3_follow_16 rfl rfl rfl ?_
      refine pb_getI 20 (j := 2) in_X3 rfl (by decide) rfl rfl (by decide) fl_X3_18 dX3_follow_17 rfl ?_
      refine pb_iload 22 dX3_follow_20 rfl rfl ?_
      refine pb_guard (fun hin => pb_iast 23 rfl hin rfl dX3_follow_22 rfl ?_)
      refine pb_aload_n 24 dX3_follow_23 rfl rfl rfl ?_
      refine pb_dup 25 dX3_follow_24 rfl rfl ?_
      refine pb_getI 28 (j := 2) in_X3 rfl (by decide) rfl rfl (by decide) fl_X3_18 dX3_follow_25 rfl ?_
      refine pb_iconst 29 (v := 1) dX3_follow_28 rfl (by decide) ?_
      refine pb_iadd 30 dX3_follow_29 rfl ?_
      refine pb_putI 33 (j := 2) tyX3 tyX3_ok nmX3 in_X3 rfl (by decide) rfl rfl (by decide) fl_X3_18 rfl (by decide +kernel) dX3_follow_30 rfl ?_
      refine pb_aload_n 34 dX3_follow_33 rfl rfl rfl ?_
      refine pb_iload 36 dX3_follow_34 rfl rfl ?_
      refine pb_aload_n 37 dX3_follow_36 rfl rfl rfl ?_
      refine pb_getR 40 (j := 0) (d := 13) in_X3 rfl (by decide) rfl rfl (by decide) fl_X3_9 dX3_follow_37 rfl ?_
      refine pb_iload 42 dX3_follow_40 rfl rfl ?_
      refine pb_iconst 43 (v := 1) dX3_follow_42 rfl (by decide) ?_
      refine pb_isub 44 dX3_follow_43 rfl ?_
      refine pb_guard (fun hin => pb_iald 45 rfl hin rfl dX3_follow_44 rfl ?_)
      refine cl_X3_firstCreditor 48 hv1 ⟨by decide, by decide, by decide, by decide⟩ (Nat.le_of_ble_eq_true rfl) ml_X3_48 dX3_follow_45 rfl (fun b45 μ45 => ?_)
      refine pb_istore 50 (i := 4) (L' := [some (.ref (E.2.1 12)), some (.ref (E.2.1 h1)), none, none, some (.int b45), some (.int v5)]) dX3_follow_48 (by decide) rfl rfl rfl ?_
      refine pb_iinc 53 (i := 5) (v := (v5 + (-1 : Int32))) (L' := [some (.ref (E.2.1 12)), some (.ref (E.2.1 h1)), none, none, some (.int b45), some (.int (v5 + (-1 : Int32)))]) dX3_follow_50 rfl rfl (by decide) rfl rfl rfl ?_
      refine pb_goto (tgt := 6) dX3_follow_53 (by decide) ?_
      exact ih b45 (v5 + (-1 : Int32)) μ45
set_option maxRecDepth 100000 in
set_option maxHeartbeats 4000000 in
theorem evX3_follow (l : Launch) (E : pb_E) (h1 : Nat) (v2 : Int32) (v3 : Int32) (hv1 : pb_V h1) (μ : pb_M) : ∀ b μ', pX3_follow h1 v2 v3 μ = some (b, μ') → pb_Ev l E yX3_follow cX3_follow 6 none { frames := 2, cells := 0, slots := 0, locals := 45 } [.ref (E.2.1 12), .ref (E.2.1 h1), .int v2, .int v3] μ ((fun _ : Unit => none) b) μ' := by
  refine pb_enter (L := [some (.ref (E.2.1 12)), some (.ref (E.2.1 h1)), some (.int v2), some (.int v3), none, none]) (by decide +kernel) (Nat.le_of_ble_eq_true rfl) (pb_same [none, none, none, none, none, none] rfl) (show wX3_follow l E 0 [some (.ref (E.2.1 12)), some (.ref (E.2.1 h1)), some (.int v2), some (.int v3), none, none] [] μ (pX3_follow h1 v2 v3 μ) from ?_)
  unfold pX3_follow
  refine pb_iload_n 1 dX3_follow_0 rfl rfl rfl ?_
  refine pb_istore 3 (i := 4) (L' := [some (.ref (E.2.1 12)), some (.ref (E.2.1 h1)), some (.int v2), some (.int v3), some (.int v2), none]) dX3_follow_1 (by decide) rfl rfl rfl ?_
  refine pb_iload_n 4 dX3_follow_3 rfl rfl rfl ?_
  refine pb_istore 6 (i := 5) (L' := [some (.ref (E.2.1 12)), some (.ref (E.2.1 h1)), some (.int v2), some (.int v3), some (.int v2), some (.int v3)]) dX3_follow_4 (by decide) rfl rfl rfl ?_
  refine pb_weakM (L' := [some (.ref (E.2.1 12)), some (.ref (E.2.1 h1)), none, none, some (.int v2), some (.int v3)]) [true, true, false, false, true, true] rfl ?_
  exact tX3_follow_L6 l E h1 hv1 pb_F v2 v3 μ
theorem mc_X3_follow : pb_MC yX3_follow cX3_follow 6 none 3 := ⟨pb_inW 628 (by decide +kernel) (by decide +kernel), pb_inW 66 (by decide +kernel) (by decide +kernel), by decide +kernel, by decide +kernel, by decide +kernel⟩
theorem mi_X3_follow : Cond.instanceMethod yX3_follow ∈ pb_gw := pb_inW 627 (by decide +kernel) (by decide +kernel)
theorem ms_X3_follow : Cond.selects (yX3_follow).cls yX3_follow yX3_follow ∈ pb_gw := pb_inW 14 (by decide +kernel) (by decide +kernel)
theorem cl_X3_follow {α : Type} {l : Launch} {E : pb_E} {R : Room} {own : String} {cc : ByteArray} {mL : Nat} {ret : Option FieldType} {Xs : State → Prop} {nc ns : Nat} {Qf : State → Array Value → List Frame → α → pb_M → State → Prop} {pc : Nat} {L : List (Option Value)} {S : List Value} {μ : pb_M} {f : Unit → pb_M → Option (α × pb_M)} {h1 : Nat} {v2 : Int32} {v3 : Int32} {index : Nat} (q : Nat) (hv1 : pb_V h1) (hR : 2 + 1 ≤ R.frames ∧ 8 + (6 + 11) + 45 ≤ R.locals ∧ nc ≤ R.cells ∧ ns ≤ R.slots) (hW : (S.map fun v => v.category).sum ≤ 8) (hl1 : Cond.methodLink own index yX3_follow ∈ pb_gw) (hdg : decode cc pc = .ok (.invokevirtual index, 3)) (hq : pc + 3 = q) (k : ∀ b1 μ1, pb_RW l E R own cc mL ret Xs nc ns Qf q L S μ1 (f b1 μ1)) : pb_RW l E R own cc mL ret Xs nc ns Qf pc L (.int v3 :: .int v2 :: .ref (E.2.1 h1) :: .ref (E.2.1 12) :: S) μ (pb_b (pX3_follow h1 v2 v3 μ) f) := pb_callV q (fun _ : Unit => none) mc_X3_follow mi_X3_follow ms_X3_follow (fun b1 μ1 h => evX3_follow l E h1 v2 v3 hv1 μ b1 μ1 h) rfl (by decide) rfl rfl rfl rfl hR rfl hW hl1 hdg hq k
theorem ml_X3_28 : Cond.methodLink RX3 28 yX3_debtorsOf ∈ pb_gw := pb_inW 617 (by decide +kernel) (by decide +kernel)
theorem ml_X3_36 : Cond.methodLink RX3 36 yX3_follow ∈ pb_gw := pb_inW 625 (by decide +kernel) (by decide +kernel)
def pX3_find_L16 (h1 : Nat) (v2 : Int32) (K55 : Int32 → pb_M → Option (Int32 × pb_M)) : Nat → Int32 → pb_M → Option (Int32 × pb_M)
  | 0, _, _ => none
  | n + 1, v3, μ =>
    pb_b (pX5_people h1 μ) (fun b18 μ18 =>
    if b18 < v3 then
      some ((0 : Int32), μ18)
    else
    if pb_in (v3 - (1 : Int32)) 5 then
      pb_b (pX3_debtorsOf h1 (μ18.1 13 ((v3 - (1 : Int32))).toNatClampNeg) μ18) (fun b38 μ38 =>
      if pb_in v3 5 then
        if pb_in v3 5 then
          pb_b (pX6_has ((pb_sA μ38 13 (upd (μ38.1 13) (v3).toNatClampNeg b38)).1 13 (v3).toNatClampNeg) v2 (pb_sA μ38 13 (upd (μ38.1 13) (v3).toNatClampNeg b38))) (fun b49 μ49 =>
          if b49 = (0 : Int32) then
            pX3_find_L16 h1 v2 K55 n (v3 + (1 : Int32)) μ49
          else
          K55 v3 μ49)
        else none
      else none)
    else none)
def pX3_find (h1 : Nat) (v2 : Int32) (μ : pb_M) : Option (Int32 × pb_M) :=
  pX3_find_L16 h1 v2 (fun x3k55 μk55 =>
    pb_b (pX3_follow h1 v2 x3k55 μk55) (fun b59 μ59 =>
    some ((1 : Int32), μ59))) pb_F (1 : Int32) (pb_sA (pb_sA μ 12 (upd (μ.1 12) 2 (0 : Int32))) 13 (upd ((pb_sA μ 12 (upd (μ.1 12) 2 (0 : Int32))).1 13) 0 ((1 : Int32) <<< (v2 &&& 31))))
abbrev wX3_find (l : Launch) (E : pb_E) := pb_RW l E { frames := 3, cells := 0, slots := 0, locals := 70 } RX3 cX3_find 4 (some .boolean) (fun _ => True) 0 0 (pb_Qf E (fun z : Int32 => some (.int z)))
set_option maxRecDepth 100000 in
set_option maxHeartbeats 4000000 in
theorem tX3_find_L16 (l : Launch) (E : pb_E) (h1 : Nat) (hv1 : pb_V h1) (v2 : Int32) {K55 : Int32 → pb_M → Option (Int32 × pb_M)} (hK55 : ∀ (w3 : Int32) (μ : pb_M), wX3_find l E 55 [some (.ref (E.2.1 12)), some (.ref (E.2.1 h1)), some (.int v2), some (.int w3)] [] μ (K55 w3 μ)) : ∀ (n : Nat) (v3 : Int32) (μ : pb_M), wX3_find l E 16 [some (.ref (E.2.1 12)), some (.ref (E.2.1 h1)), some (.int v2), some (.int v3)] [] μ (pX3_find_L16 h1 v2 K55 n v3 μ) := by
  intro n
  induction n with
  | zero => intro v3 μ; exact pb_none
  | succ n ih =>
    intro v3 μ
    rw [pX3_find_L16]
    refine pb_iload_n 17 dX3_find_16 rfl rfl rfl ?_
    refine pb_aload_n 18 dX3_find_17 rfl rfl rfl ?_
    refine cl_X5_people 21 hv1 ⟨by decide, by decide, by decide, by decide⟩ (Nat.le_of_ble_eq_true rfl) ml_X3_22 dX3_find_18 rfl (fun b18 μ18 => ?_)
    refine pb_icmp_gt 24 (tgt := 70) dX3_find_21 (by decide) rfl (fun _ => ?_) (fun _ => ?_)
    · refine pb_iconst 71 (v := 0) dX3_find_70 rfl (by decide) ?_
      exact pb_zret rfl dX3_find_71
    · refine pb_aload_n 25 dX3_find_24 rfl rfl rfl ?_
      refine pb_getR 28 (j := 0) (d := 13) in_X3 rfl (by decide) rfl rfl (by decide) fl_X3_9 dX3_find_25 rfl ?_
      refine pb_iload_n 29 dX3_find_28 rfl rfl rfl ?_
      refine pb_aload_n 30 dX3_find_29 rfl rfl rfl ?_
      refine pb_aload_n 31 dX3_find_30 rfl rfl rfl ?_
      refine pb_getR 34 (j := 0) (d := 13) in_X3 rfl (by decide) rfl rfl (by decide) fl_X3_9 dX3_find_31 rfl ?_
      refine pb_iload_n 35 dX3_find_34 rfl rfl rfl ?_
      refine pb_iconst 36 (v := 1) dX3_find_35 rfl (by decide) ?_
      refine pb_isub 37 dX3_find_36 rfl ?_
      refine pb_guard (fun hin => pb_iald 38 rfl hin rfl dX3_find_37 rfl ?_)
      refine cl_X3_debtorsOf 41 hv1 ⟨by decide, by decide, by decide, by decide⟩ (Nat.le_of_ble_eq_true rfl) ml_X3_28 dX3_find_38 rfl (fun b38 μ38 => ?_)
      refine pb_guard (fun hin => pb_iast 42 rfl hin rfl dX3_find_41 rfl ?_)
      refine pb_aload_n 43 dX3_find_42 rfl rfl rfl ?_
      refine pb_getR 46 (j := 0) (d := 13) in_X3 rfl (by decide) rfl rfl (by decide) fl_X3_9 dX3_find_43 rfl ?_
      refine pb_iload_n 47 dX3_find_46 rfl rfl rfl ?_
      refine pb_guard (fun hin => pb_iald 48 rfl hin rfl dX3_find_47 rfl ?_)
      refine pb_iload_n 49 dX3_find_48 rfl rfl rfl ?_
      refine clN_X6_has 52 ⟨by decide, by decide, by decide, by decide⟩ (Nat.le_of_ble_eq_true rfl) nst_X3_32 dX3_find_49 rfl (fun b49 μ49 => ?_)
      refine pb_if_eq 55 (tgt := 64) dX3_find_52 (by decide) rfl (fun _ => ?_) (fun _ => ?_)
      · refine pb_iinc 67 (i := 3) (v := (v3 + (1 : Int32))) (L' := [some (.ref (E.2.1 12)), some (.ref (E.2.1 h1)), some (.int v2), some (.int (v3 + (1 : Int32)))]) dX3_find_64 rfl rfl (by decide) rfl rfl rfl ?_
        refine pb_goto (tgt := 16) dX3_find_67 (by decide) ?_
        exact ih (v3 + (1 : Int32)) μ49
      · exact hK55 v3 μ49
set_option maxRecDepth 100000 in
set_option maxHeartbeats 4000000 in
theorem evX3_find (l : Launch) (E : pb_E) (h1 : Nat) (v2 : Int32) (hv1 : pb_V h1) (μ : pb_M) : ∀ b μ', pX3_find h1 v2 μ = some (b, μ') → pb_Ev l E yX3_find cX3_find 4 (some .boolean) { frames := 3, cells := 0, slots := 0, locals := 70 } [.ref (E.2.1 12), .ref (E.2.1 h1), .int v2] μ ((fun z : Int32 => some (.int z)) b) μ' := by
  refine pb_enter (L := [some (.ref (E.2.1 12)), some (.ref (E.2.1 h1)), some (.int v2), none]) (by decide +kernel) (Nat.le_of_ble_eq_true rfl) (pb_same [none, none, none, none] rfl) (show wX3_find l E 0 [some (.ref (E.2.1 12)), some (.ref (E.2.1 h1)), some (.int v2), none] [] μ (pX3_find h1 v2 μ) from ?_)
  unfold pX3_find
  refine pb_aload_n 1 dX3_find_0 rfl rfl rfl ?_
  refine pb_iconst 2 (v := 0) dX3_find_1 rfl (by decide) ?_
  refine pb_putI 5 (j := 2) tyX3 tyX3_ok nmX3 in_X3 rfl (by decide) rfl rfl (by decide) fl_X3_18 rfl (by decide +kernel) dX3_find_2 rfl ?_
  refine pb_aload_n 6 dX3_find_5 rfl rfl rfl ?_
  refine pb_getR 9 (j := 0) (d := 13) in_X3 rfl (by decide) rfl rfl (by decide) fl_X3_9 dX3_find_6 rfl ?_
  refine pb_iconst 10 (v := 0) dX3_find_9 rfl (by decide) ?_
  refine pb_iconst 11 (v := 1) dX3_find_10 rfl (by decide) ?_
  refine pb_iload_n 12 dX3_find_11 rfl rfl rfl ?_
  refine pb_ishl 13 dX3_find_12 rfl ?_
  refine pb_iast 14 (j := 0) rfl (by decide) (by decide) dX3_find_13 rfl ?_
  refine pb_iconst 15 (v := 1) dX3_find_14 rfl (by decide) ?_
  refine pb_istore_n 16 (i := 3) (L' := [some (.ref (E.2.1 12)), some (.ref (E.2.1 h1)), some (.int v2), some (.int (1 : Int32))]) dX3_find_15 rfl (by decide) rfl rfl rfl ?_
  refine tX3_find_L16 l E h1 hv1 v2 (fun x3k55 μk55 => ?_) pb_F (1 : Int32) (pb_sA (pb_sA μ 12 (upd (μ.1 12) 2 (0 : Int32))) 13 (upd ((pb_sA μ 12 (upd (μ.1 12) 2 (0 : Int32))).1 13) 0 ((1 : Int32) <<< (v2 &&& 31))))
  refine pb_aload_n 56 dX3_find_55 rfl rfl rfl ?_
  refine pb_aload_n 57 dX3_find_56 rfl rfl rfl ?_
  refine pb_iload_n 58 dX3_find_57 rfl rfl rfl ?_
  refine pb_iload_n 59 dX3_find_58 rfl rfl rfl ?_
  refine cl_X3_follow 62 hv1 ⟨by decide, by decide, by decide, by decide⟩ (Nat.le_of_ble_eq_true rfl) ml_X3_36 dX3_find_59 rfl (fun b59 μ59 => ?_)
  refine pb_iconst 63 (v := 1) dX3_find_62 rfl (by decide) ?_
  exact pb_zret rfl dX3_find_63
theorem mc_X3_find : pb_MC yX3_find cX3_find 4 (some .boolean) 2 := ⟨pb_inW 615 (by decide +kernel) (by decide +kernel), pb_inW 66 (by decide +kernel) (by decide +kernel), by decide +kernel, by decide +kernel, by decide +kernel⟩
theorem mi_X3_find : Cond.instanceMethod yX3_find ∈ pb_gw := pb_inW 613 (by decide +kernel) (by decide +kernel)
theorem ms_X3_find : Cond.selects (yX3_find).cls yX3_find yX3_find ∈ pb_gw := pb_inW 614 (by decide +kernel) (by decide +kernel)
theorem cl_X3_find {α : Type} {l : Launch} {E : pb_E} {R : Room} {own : String} {cc : ByteArray} {mL : Nat} {ret : Option FieldType} {Xs : State → Prop} {nc ns : Nat} {Qf : State → Array Value → List Frame → α → pb_M → State → Prop} {pc : Nat} {L : List (Option Value)} {S : List Value} {μ : pb_M} {f : Int32 → pb_M → Option (α × pb_M)} {h1 : Nat} {v2 : Int32} {index : Nat} (q : Nat) (hv1 : pb_V h1) (hR : 3 + 1 ≤ R.frames ∧ 8 + (4 + 11) + 70 ≤ R.locals ∧ nc ≤ R.cells ∧ ns ≤ R.slots) (hW : (S.map fun v => v.category).sum ≤ 8) (hl1 : Cond.methodLink own index yX3_find ∈ pb_gw) (hdg : decode cc pc = .ok (.invokevirtual index, 3)) (hq : pc + 3 = q) (k : ∀ b1 μ1, pb_RW l E R own cc mL ret Xs nc ns Qf q L (.int b1 :: S) μ1 (f b1 μ1)) : pb_RW l E R own cc mL ret Xs nc ns Qf pc L (.int v2 :: .ref (E.2.1 h1) :: .ref (E.2.1 12) :: S) μ (pb_b (pX3_find h1 v2 μ) f) := pb_callV q (fun z : Int32 => some (.int z)) mc_X3_find mi_X3_find ms_X3_find (fun b1 μ1 h => evX3_find l E h1 v2 hv1 μ b1 μ1 h) rfl (by decide) rfl rfl rfl rfl hR rfl hW hl1 hdg hq k
def pX3_figures_L4  : Nat → Int32 → Int32 → pb_M → Option (Int32 × pb_M)
  | 0, _, _, _ => none
  | n + 1, v1, v2, μ =>
    if (μ.1 12 2) ≤ v2 then
      some (v1, μ)
    else
    if pb_in v2 4 then
      pX3_figures_L4 n (((v1 * (10 : Int32)) + (μ.1 14 (v2).toNatClampNeg)) + (1 : Int32)) (v2 + (1 : Int32)) μ
    else none
def pX3_figures  (μ : pb_M) : Option (Int32 × pb_M) :=
  pX3_figures_L4 pb_F (0 : Int32) (0 : Int32) μ
abbrev wX3_figures (l : Launch) (E : pb_E) := pb_RW l E { frames := 0, cells := 0, slots := 0, locals := 0 } RX3 cX3_figures 3 (some .int) (fun _ => True) 0 0 (pb_Qf E (fun z : Int32 => some (.int z)))
set_option maxRecDepth 100000 in
set_option maxHeartbeats 4000000 in
theorem tX3_figures_L4 (l : Launch) (E : pb_E)    : ∀ (n : Nat) (v1 : Int32) (v2 : Int32) (μ : pb_M), wX3_figures l E 4 [some (.ref (E.2.1 12)), some (.int v1), some (.int v2)] [] μ (pX3_figures_L4 n v1 v2 μ) := by
  intro n
  induction n with
  | zero => intro v1 v2 μ; exact pb_none
  | succ n ih =>
    intro v1 v2 μ
    rw [pX3_figures_L4]
    refine pb_iload_n 5 dX3_figures_4 rfl rfl rfl ?_
    refine pb_aload_n 6 dX3_figures_5 rfl rfl rfl ?_
    refine pb_getI 9 (j := 2) in_X3 rfl (by decide) rfl rfl (by decide) fl_X3_18 dX3_figures_6 rfl ?_
    refine pb_icmp_ge 12 (tgt := 32) dX3_figures_9 (by decide) rfl (fun _ => ?_) (fun _ => ?_)
    · refine pb_iload_n 33 dX3_figures_32 rfl rfl rfl ?_
      exact pb_iret dX3_figures_33
    · refine pb_iload_n 13 dX3_figures_12 rfl rfl rfl ?_
      refine pb_bipush 15 (v := 10) dX3_figures_13 rfl (by decide) ?_
      refine pb_imul 16 dX3_figures_15 rfl ?_
      refine pb_aload_n 17 dX3_figures_16 rfl rfl rfl ?_
      refine pb_getR 20 (j := 1) (d := 14) in_X3 rfl (by decide) rfl rfl (by decide) fl_X3_15 dX3_figures_17 rfl ?_
      refine pb_iload_n 21 dX3_figures_20 rfl rfl rfl ?_
      refine pb_guard (fun hin => pb_iald 22 rfl hin rfl dX3_figures_21 rfl ?_)
      refine pb_iadd 23 dX3_figures_22 rfl ?_
      refine pb_iconst 24 (v := 1) dX3_figures_23 rfl (by decide) ?_
      refine pb_iadd 25 dX3_figures_24 rfl ?_
      refine pb_istore_n 26 (i := 1) (L' := [some (.ref (E.2.1 12)), some (.int (((v1 * (10 : Int32)) + (μ.1 14 (v2).toNatClampNeg)) + (1 : Int32))), some (.int v2)]) dX3_figures_25 rfl (by decide) rfl rfl rfl ?_
      refine pb_iinc 29 (i := 2) (v := (v2 + (1 : Int32))) (L' := [some (.ref (E.2.1 12)), some (.int (((v1 * (10 : Int32)) + (μ.1 14 (v2).toNatClampNeg)) + (1 : Int32))), some (.int (v2 + (1 : Int32)))]) dX3_figures_26 rfl rfl (by decide) rfl rfl rfl ?_
      refine pb_goto (tgt := 4) dX3_figures_29 (by decide) ?_
      exact ih (((v1 * (10 : Int32)) + (μ.1 14 (v2).toNatClampNeg)) + (1 : Int32)) (v2 + (1 : Int32)) μ
set_option maxRecDepth 100000 in
set_option maxHeartbeats 4000000 in
theorem evX3_figures (l : Launch) (E : pb_E)   (μ : pb_M) : ∀ b μ', pX3_figures  μ = some (b, μ') → pb_Ev l E yX3_figures cX3_figures 3 (some .int) { frames := 0, cells := 0, slots := 0, locals := 0 } [.ref (E.2.1 12)] μ ((fun z : Int32 => some (.int z)) b) μ' := by
  refine pb_enter (L := [some (.ref (E.2.1 12)), none, none]) (by decide +kernel) (Nat.le_of_ble_eq_true rfl) (pb_same [none, none, none] rfl) (show wX3_figures l E 0 [some (.ref (E.2.1 12)), none, none] [] μ (pX3_figures  μ) from ?_)
  unfold pX3_figures
  refine pb_iconst 1 (v := 0) dX3_figures_0 rfl (by decide) ?_
  refine pb_istore_n 2 (i := 1) (L' := [some (.ref (E.2.1 12)), some (.int (0 : Int32)), none]) dX3_figures_1 rfl (by decide) rfl rfl rfl ?_
  refine pb_iconst 3 (v := 0) dX3_figures_2 rfl (by decide) ?_
  refine pb_istore_n 4 (i := 2) (L' := [some (.ref (E.2.1 12)), some (.int (0 : Int32)), some (.int (0 : Int32))]) dX3_figures_3 rfl (by decide) rfl rfl rfl ?_
  exact tX3_figures_L4 l E pb_F (0 : Int32) (0 : Int32) μ
theorem mc_X3_figures : pb_MC yX3_figures cX3_figures 3 (some .int) 0 := ⟨pb_inW 635 (by decide +kernel) (by decide +kernel), pb_inW 66 (by decide +kernel) (by decide +kernel), by decide +kernel, by decide +kernel, by decide +kernel⟩
theorem mi_X3_figures : Cond.instanceMethod yX3_figures ∈ pb_gw := pb_inW 633 (by decide +kernel) (by decide +kernel)
theorem ms_X3_figures : Cond.selects (yX3_figures).cls yX3_figures yX3_figures ∈ pb_gw := pb_inW 634 (by decide +kernel) (by decide +kernel)
theorem cl_X3_figures {α : Type} {l : Launch} {E : pb_E} {R : Room} {own : String} {cc : ByteArray} {mL : Nat} {ret : Option FieldType} {Xs : State → Prop} {nc ns : Nat} {Qf : State → Array Value → List Frame → α → pb_M → State → Prop} {pc : Nat} {L : List (Option Value)} {S : List Value} {μ : pb_M} {f : Int32 → pb_M → Option (α × pb_M)}  {index : Nat} (q : Nat)  (hR : 0 + 1 ≤ R.frames ∧ 8 + (3 + 11) + 0 ≤ R.locals ∧ nc ≤ R.cells ∧ ns ≤ R.slots) (hW : (S.map fun v => v.category).sum ≤ 8) (hl1 : Cond.methodLink own index yX3_figures ∈ pb_gw) (hdg : decode cc pc = .ok (.invokevirtual index, 3)) (hq : pc + 3 = q) (k : ∀ b1 μ1, pb_RW l E R own cc mL ret Xs nc ns Qf q L (.int b1 :: S) μ1 (f b1 μ1)) : pb_RW l E R own cc mL ret Xs nc ns Qf pc L (.ref (E.2.1 12) :: S) μ (pb_b (pX3_figures  μ) f) := pb_callV q (fun z : Int32 => some (.int z)) mc_X3_figures mi_X3_figures ms_X3_figures (fun b1 μ1 h => evX3_figures l E   μ b1 μ1 h) rfl (by decide) rfl rfl rfl rfl hR rfl hW hl1 hdg hq k
