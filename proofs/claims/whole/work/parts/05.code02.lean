def pX1_howMany  (μ : pb_M) : Option (Int32 × pb_M) :=
  some ((μ.1 15 4), μ)
abbrev wX1_howMany (l : Launch) (E : pb_E) := pb_RW l E { frames := 0, cells := 0, slots := 0, locals := 0 } RX1 cX1_howMany 1 (some .int) (fun _ => True) 0 0 (pb_Qf E (fun z : Int32 => some (.int z)))
set_option maxRecDepth 100000 in
set_option maxHeartbeats 4000000 in
theorem evX1_howMany (l : Launch) (E : pb_E)   (μ : pb_M) : ∀ b μ', pX1_howMany  μ = some (b, μ') → pb_Ev l E yX1_howMany cX1_howMany 1 (some .int) { frames := 0, cells := 0, slots := 0, locals := 0 } [.ref (E.2.1 15)] μ ((fun z : Int32 => some (.int z)) b) μ' := by
  refine pb_enter (L := [some (.ref (E.2.1 15))]) (by decide +kernel) (Nat.le_of_ble_eq_true rfl) (pb_same [none] rfl) (show wX1_howMany l E 0 [some (.ref (E.2.1 15))] [] μ (pX1_howMany  μ) from ?_)
  unfold pX1_howMany
  refine pb_aload_n 1 dX1_howMany_0 rfl rfl rfl ?_
  refine pb_getI 4 (j := 4) in_X1 rfl (by decide) rfl rfl (by decide) fl_X1_49 dX1_howMany_1 rfl ?_
  exact pb_iret dX1_howMany_4
theorem mc_X1_howMany : pb_MC yX1_howMany cX1_howMany 1 (some .int) 0 := ⟨pb_inW 725 (by decide +kernel) (by decide +kernel), pb_inW 67 (by decide +kernel) (by decide +kernel), by decide +kernel, by decide +kernel, by decide +kernel⟩
theorem mi_X1_howMany : Cond.instanceMethod yX1_howMany ∈ pb_gw := pb_inW 723 (by decide +kernel) (by decide +kernel)
theorem ms_X1_howMany : Cond.selects (yX1_howMany).cls yX1_howMany yX1_howMany ∈ pb_gw := pb_inW 724 (by decide +kernel) (by decide +kernel)
theorem cl_X1_howMany {α : Type} {l : Launch} {E : pb_E} {R : Room} {own : String} {cc : ByteArray} {mL : Nat} {ret : Option FieldType} {Xs : State → Prop} {nc ns : Nat} {Qf : State → Array Value → List Frame → α → pb_M → State → Prop} {pc : Nat} {L : List (Option Value)} {S : List Value} {μ : pb_M} {f : Int32 → pb_M → Option (α × pb_M)}  {index : Nat} (q : Nat)  (hR : 0 + 1 ≤ R.frames ∧ 8 + (1 + 11) + 0 ≤ R.locals ∧ nc ≤ R.cells ∧ ns ≤ R.slots) (hW : (S.map fun v => v.category).sum ≤ 8) (hl1 : Cond.methodLink own index yX1_howMany ∈ pb_gw) (hdg : decode cc pc = .ok (.invokevirtual index, 3)) (hq : pc + 3 = q) (k : ∀ b1 μ1, pb_RW l E R own cc mL ret Xs nc ns Qf q L (.int b1 :: S) μ1 (f b1 μ1)) : pb_RW l E R own cc mL ret Xs nc ns Qf pc L (.ref (E.2.1 15) :: S) μ (pb_b (pX1_howMany  μ) f) := pb_callV q (fun z : Int32 => some (.int z)) mc_X1_howMany mi_X1_howMany ms_X1_howMany (fun b1 μ1 h => evX1_howMany l E   μ b1 μ1 h) rfl (by decide) rfl rfl rfl rfl hR rfl hW hl1 hdg hq k
def pX1_first  (μ : pb_M) : Option (Int32 × pb_M) :=
  some ((μ.1 15 5), μ)
abbrev wX1_first (l : Launch) (E : pb_E) := pb_RW l E { frames := 0, cells := 0, slots := 0, locals := 0 } RX1 cX1_first 1 (some .int) (fun _ => True) 0 0 (pb_Qf E (fun z : Int32 => some (.int z)))
set_option maxRecDepth 100000 in
set_option maxHeartbeats 4000000 in
theorem evX1_first (l : Launch) (E : pb_E)   (μ : pb_M) : ∀ b μ', pX1_first  μ = some (b, μ') → pb_Ev l E yX1_first cX1_first 1 (some .int) { frames := 0, cells := 0, slots := 0, locals := 0 } [.ref (E.2.1 15)] μ ((fun z : Int32 => some (.int z)) b) μ' := by
  refine pb_enter (L := [some (.ref (E.2.1 15))]) (by decide +kernel) (Nat.le_of_ble_eq_true rfl) (pb_same [none] rfl) (show wX1_first l E 0 [some (.ref (E.2.1 15))] [] μ (pX1_first  μ) from ?_)
  unfold pX1_first
  refine pb_aload_n 1 dX1_first_0 rfl rfl rfl ?_
  refine pb_getI 4 (j := 5) in_X1 rfl (by decide) rfl rfl (by decide) fl_X1_52 dX1_first_1 rfl ?_
  exact pb_iret dX1_first_4
theorem mc_X1_first : pb_MC yX1_first cX1_first 1 (some .int) 0 := ⟨pb_inW 729 (by decide +kernel) (by decide +kernel), pb_inW 67 (by decide +kernel) (by decide +kernel), by decide +kernel, by decide +kernel, by decide +kernel⟩
theorem mi_X1_first : Cond.instanceMethod yX1_first ∈ pb_gw := pb_inW 727 (by decide +kernel) (by decide +kernel)
theorem ms_X1_first : Cond.selects (yX1_first).cls yX1_first yX1_first ∈ pb_gw := pb_inW 728 (by decide +kernel) (by decide +kernel)
theorem cl_X1_first {α : Type} {l : Launch} {E : pb_E} {R : Room} {own : String} {cc : ByteArray} {mL : Nat} {ret : Option FieldType} {Xs : State → Prop} {nc ns : Nat} {Qf : State → Array Value → List Frame → α → pb_M → State → Prop} {pc : Nat} {L : List (Option Value)} {S : List Value} {μ : pb_M} {f : Int32 → pb_M → Option (α × pb_M)}  {index : Nat} (q : Nat)  (hR : 0 + 1 ≤ R.frames ∧ 8 + (1 + 11) + 0 ≤ R.locals ∧ nc ≤ R.cells ∧ ns ≤ R.slots) (hW : (S.map fun v => v.category).sum ≤ 8) (hl1 : Cond.methodLink own index yX1_first ∈ pb_gw) (hdg : decode cc pc = .ok (.invokevirtual index, 3)) (hq : pc + 3 = q) (k : ∀ b1 μ1, pb_RW l E R own cc mL ret Xs nc ns Qf q L (.int b1 :: S) μ1 (f b1 μ1)) : pb_RW l E R own cc mL ret Xs nc ns Qf pc L (.ref (E.2.1 15) :: S) μ (pb_b (pX1_first  μ) f) := pb_callV q (fun z : Int32 => some (.int z)) mc_X1_first mi_X1_first ms_X1_first (fun b1 μ1 h => evX1_first l E   μ b1 μ1 h) rfl (by decide) rfl rfl rfl rfl hR rfl hW hl1 hdg hq k
def pX5_people (h0 : Nat) (μ : pb_M) : Option (Int32 × pb_M) :=
  some ((μ.1 (h0 + 1) 0), μ)
abbrev wX5_people (l : Launch) (E : pb_E) := pb_RW l E { frames := 0, cells := 0, slots := 0, locals := 0 } RX5 cX5_people 1 (some .int) (fun _ => True) 0 0 (pb_Qf E (fun z : Int32 => some (.int z)))
set_option maxRecDepth 100000 in
set_option maxHeartbeats 4000000 in
theorem evX5_people (l : Launch) (E : pb_E) (h0 : Nat) (hv0 : pb_V h0) (μ : pb_M) : ∀ b μ', pX5_people h0 μ = some (b, μ') → pb_Ev l E yX5_people cX5_people 1 (some .int) { frames := 0, cells := 0, slots := 0, locals := 0 } [.ref (E.2.1 h0)] μ ((fun z : Int32 => some (.int z)) b) μ' := by
  refine pb_enter (L := [some (.ref (E.2.1 h0))]) (by decide +kernel) (Nat.le_of_ble_eq_true rfl) (pb_same [none] rfl) (show wX5_people l E 0 [some (.ref (E.2.1 h0))] [] μ (pX5_people h0 μ) from ?_)
  unfold pX5_people
  refine pb_aload_n 1 dX5_people_0 rfl rfl rfl ?_
  refine pb_getR 4 (j := 0) (d := (h0 + 1)) in_X5 rfl (by decide) hv0.1 rfl (by decide) fl_X5_11 dX5_people_1 rfl ?_
  refine pb_iconst 5 (v := 0) dX5_people_4 rfl (by decide) ?_
  refine pb_iald 6 (j := 0) hv0.2 (by decide) (by decide) dX5_people_5 rfl ?_
  exact pb_iret dX5_people_6
theorem mc_X5_people : pb_MC yX5_people cX5_people 1 (some .int) 0 := ⟨pb_inW 257 (by decide +kernel) (by decide +kernel), pb_inW 63 (by decide +kernel) (by decide +kernel), by decide +kernel, by decide +kernel, by decide +kernel⟩
theorem mi_X5_people : Cond.instanceMethod yX5_people ∈ pb_gw := pb_inW 255 (by decide +kernel) (by decide +kernel)
theorem ms_X5_people : Cond.selects (yX5_people).cls yX5_people yX5_people ∈ pb_gw := pb_inW 256 (by decide +kernel) (by decide +kernel)
theorem cl_X5_people {α : Type} {l : Launch} {E : pb_E} {R : Room} {own : String} {cc : ByteArray} {mL : Nat} {ret : Option FieldType} {Xs : State → Prop} {nc ns : Nat} {Qf : State → Array Value → List Frame → α → pb_M → State → Prop} {pc : Nat} {L : List (Option Value)} {S : List Value} {μ : pb_M} {f : Int32 → pb_M → Option (α × pb_M)} {h0 : Nat} {index : Nat} (q : Nat) (hv0 : pb_V h0) (hR : 0 + 1 ≤ R.frames ∧ 8 + (1 + 11) + 0 ≤ R.locals ∧ nc ≤ R.cells ∧ ns ≤ R.slots) (hW : (S.map fun v => v.category).sum ≤ 8) (hl1 : Cond.methodLink own index yX5_people ∈ pb_gw) (hdg : decode cc pc = .ok (.invokevirtual index, 3)) (hq : pc + 3 = q) (k : ∀ b1 μ1, pb_RW l E R own cc mL ret Xs nc ns Qf q L (.int b1 :: S) μ1 (f b1 μ1)) : pb_RW l E R own cc mL ret Xs nc ns Qf pc L (.ref (E.2.1 h0) :: S) μ (pb_b (pX5_people h0 μ) f) := pb_callV q (fun z : Int32 => some (.int z)) mc_X5_people mi_X5_people ms_X5_people (fun b1 μ1 h => evX5_people l E h0 hv0 μ b1 μ1 h) hv0.1 (by decide) rfl rfl rfl rfl hR rfl hW hl1 hdg hq k
theorem fl_X2_27 : Cond.fieldLink RX2 27 (TX2 1).1 (TX2 1).2.1 (TX2 1).2.2.1 ∈ pb_gw := pb_inW 131 (by decide +kernel) (by decide +kernel)
theorem fl_X2_9 : Cond.fieldLink RX2 9 (TX2 0).1 (TX2 0).2.1 (TX2 0).2.2.1 ∈ pb_gw := pb_inW 130 (by decide +kernel) (by decide +kernel)
theorem ml_X2_15 : Cond.methodLink RX2 15 yX5_people ∈ pb_gw := pb_inW 557 (by decide +kernel) (by decide +kernel)
theorem ml_X2_21 : Cond.methodLink RX2 21 Lib.Math.min.name ∈ pb_gw := pb_inW 558 (by decide +kernel) (by decide +kernel)
theorem ml_X2_30 : Cond.methodLink RX2 30 yX5_takableBy ∈ pb_gw := pb_inW 559 (by decide +kernel) (by decide +kernel)
def pX2_look_L14 (h1 : Nat) : Nat → Int32 → pb_M → Option (Unit × pb_M)
  | 0, _, _ => none
  | n + 1, v2, μ =>
    if (μ.1 10 1) ≤ v2 then
      some ((), μ)
    else
    pb_b (pX5_takableBy h1 v2 μ) (fun b29 μ29 =>
    if pb_in v2 4 then
      pX2_look_L14 h1 n (v2 + (1 : Int32)) (pb_sA μ29 11 (upd (μ29.1 11) (v2).toNatClampNeg b29))
    else none)
def pX2_look (h1 : Nat) (μ : pb_M) : Option (Unit × pb_M) :=
  pb_b (pX5_people h1 μ) (fun b3 μ3 =>
  pX2_look_L14 h1 pb_F (0 : Int32) (pb_sA μ3 10 (upd (μ3.1 10) 1 (if b3 < (4 : Int32) then b3 else (4 : Int32)))))
abbrev wX2_look (l : Launch) (E : pb_E) := pb_RW l E { frames := 4, cells := 0, slots := 0, locals := 88 } RX2 cX2_look 3 none (fun _ => True) 0 0 (pb_Qf E (fun _ : Unit => none))
set_option maxRecDepth 100000 in
set_option maxHeartbeats 4000000 in
theorem tX2_look_L14 (l : Launch) (E : pb_E) (h1 : Nat) (hv1 : pb_V h1)   : ∀ (n : Nat) (v2 : Int32) (μ : pb_M), wX2_look l E 14 [some (.ref (E.2.1 10)), some (.ref (E.2.1 h1)), some (.int v2)] [] μ (pX2_look_L14 h1 n v2 μ) := by
  intro n
  induction n with
  | zero => intro v2 μ; exact pb_none
  | succ n ih =>
    intro v2 μ
    rw [pX2_look_L14]
    refine pb_iload_n 15 dX2_look_14 rfl rfl rfl ?_
    refine pb_aload_n 16 dX2_look_15 rfl rfl rfl ?_
    refine pb_getI 19 (j := 1) in_X2 rfl (by decide) rfl rfl (by decide) fl_X2_27 dX2_look_16 rfl ?_
    refine pb_icmp_ge 22 (tgt := 39) dX2_look_19 (by decide) rfl (fun _ => ?_) (fun _ => ?_)
    · exact pb_vret dX2_look_39
    · refine pb_aload_n 23 dX2_look_22 rfl rfl rfl ?_
      refine pb_getR 26 (j := 0) (d := 11) in_X2 rfl (by decide) rfl rfl (by decide) fl_X2_9 dX2_look_23 rfl ?_
      refine pb_iload_n 27 dX2_look_26 rfl rfl rfl ?_
      refine pb_aload_n 28 dX2_look_27 rfl rfl rfl ?_
      refine pb_iload_n 29 dX2_look_28 rfl rfl rfl ?_
      refine cl_X5_takableBy 32 hv1 ⟨by decide, by decide, by decide, by decide⟩ (Nat.le_of_ble_eq_true rfl) ml_X2_30 dX2_look_29 rfl (fun b29 μ29 => ?_)
      refine pb_guard (fun hin => pb_iast 33 rfl hin rfl dX2_look_32 rfl ?_)
      refine pb_iinc 36 (i := 2) (v := (v2 + (1 : Int32))) (L' := [some (.ref (E.2.1 10)), some (.ref (E.2.1 h1)), some (.int (v2 + (1 : Int32)))]) dX2_look_33 rfl rfl (by decide) rfl rfl rfl ?_
      refine pb_goto (tgt := 14) dX2_look_36 (by decide) ?_
      exact ih (v2 + (1 : Int32)) (pb_sA μ29 11 (upd (μ29.1 11) (v2).toNatClampNeg b29))
set_option maxRecDepth 100000 in
set_option maxHeartbeats 4000000 in
theorem evX2_look (l : Launch) (E : pb_E) (h1 : Nat) (hv1 : pb_V h1) (μ : pb_M) : ∀ b μ', pX2_look h1 μ = some (b, μ') → pb_Ev l E yX2_look cX2_look 3 none { frames := 4, cells := 0, slots := 0, locals := 88 } [.ref (E.2.1 10), .ref (E.2.1 h1)] μ ((fun _ : Unit => none) b) μ' := by
  refine pb_enter (L := [some (.ref (E.2.1 10)), some (.ref (E.2.1 h1)), none]) (by decide +kernel) (Nat.le_of_ble_eq_true rfl) (pb_same [none, none, none] rfl) (show wX2_look l E 0 [some (.ref (E.2.1 10)), some (.ref (E.2.1 h1)), none] [] μ (pX2_look h1 μ) from ?_)
  unfold pX2_look
  refine pb_aload_n 1 dX2_look_0 rfl rfl rfl ?_
  refine pb_iconst 2 (v := 4) dX2_look_1 rfl (by decide) ?_
  refine pb_aload_n 3 dX2_look_2 rfl rfl rfl ?_
  refine cl_X5_people 6 hv1 ⟨by decide, by decide, by decide, by decide⟩ (Nat.le_of_ble_eq_true rfl) ml_X2_15 dX2_look_3 rfl (fun b3 μ3 => ?_)
  refine pb_min 9 ml_X2_21 km_min1 km_2 km_min3 ⟨by decide, Nat.le_of_ble_eq_true rfl, by decide, by decide⟩ dX2_look_6 rfl ?_
  refine pb_putI 12 (j := 1) tyX2 tyX2_ok nmX2 in_X2 rfl (by decide) rfl rfl (by decide) fl_X2_27 rfl (by decide +kernel) dX2_look_9 rfl ?_
  refine pb_iconst 13 (v := 0) dX2_look_12 rfl (by decide) ?_
  refine pb_istore_n 14 (i := 2) (L' := [some (.ref (E.2.1 10)), some (.ref (E.2.1 h1)), some (.int (0 : Int32))]) dX2_look_13 rfl (by decide) rfl rfl rfl ?_
  exact tX2_look_L14 l E h1 hv1 pb_F (0 : Int32) (pb_sA μ3 10 (upd (μ3.1 10) 1 (if b3 < (4 : Int32) then b3 else (4 : Int32))))
theorem mc_X2_look : pb_MC yX2_look cX2_look 3 none 1 := ⟨pb_inW 556 (by decide +kernel) (by decide +kernel), pb_inW 65 (by decide +kernel) (by decide +kernel), by decide +kernel, by decide +kernel, by decide +kernel⟩
theorem mi_X2_look : Cond.instanceMethod yX2_look ∈ pb_gw := pb_inW 554 (by decide +kernel) (by decide +kernel)
theorem ms_X2_look : Cond.selects (yX2_look).cls yX2_look yX2_look ∈ pb_gw := pb_inW 555 (by decide +kernel) (by decide +kernel)
theorem cl_X2_look {α : Type} {l : Launch} {E : pb_E} {R : Room} {own : String} {cc : ByteArray} {mL : Nat} {ret : Option FieldType} {Xs : State → Prop} {nc ns : Nat} {Qf : State → Array Value → List Frame → α → pb_M → State → Prop} {pc : Nat} {L : List (Option Value)} {S : List Value} {μ : pb_M} {f : Unit → pb_M → Option (α × pb_M)} {h1 : Nat} {index : Nat} (q : Nat) (hv1 : pb_V h1) (hR : 4 + 1 ≤ R.frames ∧ 8 + (3 + 11) + 88 ≤ R.locals ∧ nc ≤ R.cells ∧ ns ≤ R.slots) (hW : (S.map fun v => v.category).sum ≤ 8) (hl1 : Cond.methodLink own index yX2_look ∈ pb_gw) (hdg : decode cc pc = .ok (.invokevirtual index, 3)) (hq : pc + 3 = q) (k : ∀ b1 μ1, pb_RW l E R own cc mL ret Xs nc ns Qf q L S μ1 (f b1 μ1)) : pb_RW l E R own cc mL ret Xs nc ns Qf pc L (.ref (E.2.1 h1) :: .ref (E.2.1 10) :: S) μ (pb_b (pX2_look h1 μ) f) := pb_callV q (fun _ : Unit => none) mc_X2_look mi_X2_look ms_X2_look (fun b1 μ1 h => evX2_look l E h1 hv1 μ b1 μ1 h) rfl (by decide) rfl rfl rfl rfl hR rfl hW hl1 hdg hq k
def pX2_everybody  (μ : pb_M) : Option (Int32 × pb_M) :=
  some ((((1 : Int32) <<< ((μ.1 10 1) &&& 31)) - (1 : Int32)), μ)
abbrev wX2_everybody (l : Launch) (E : pb_E) := pb_RW l E { frames := 0, cells := 0, slots := 0, locals := 0 } RX2 cX2_everybody 1 (some .int) (fun _ => True) 0 0 (pb_Qf E (fun z : Int32 => some (.int z)))
set_option maxRecDepth 100000 in
set_option maxHeartbeats 4000000 in
theorem evX2_everybody (l : Launch) (E : pb_E)   (μ : pb_M) : ∀ b μ', pX2_everybody  μ = some (b, μ') → pb_Ev l E yX2_everybody cX2_everybody 1 (some .int) { frames := 0, cells := 0, slots := 0, locals := 0 } [.ref (E.2.1 10)] μ ((fun z : Int32 => some (.int z)) b) μ' := by
  refine pb_enter (L := [some (.ref (E.2.1 10))]) (by decide +kernel) (Nat.le_of_ble_eq_true rfl) (pb_same [none] rfl) (show wX2_everybody l E 0 [some (.ref (E.2.1 10))] [] μ (pX2_everybody  μ) from ?_)
  unfold pX2_everybody
  refine pb_iconst 1 (v := 1) dX2_everybody_0 rfl (by decide) ?_
  refine pb_aload_n 2 dX2_everybody_1 rfl rfl rfl ?_
  refine pb_getI 5 (j := 1) in_X2 rfl (by decide) rfl rfl (by decide) fl_X2_27 dX2_everybody_2 rfl ?_
  refine pb_ishl 6 dX2_everybody_5 rfl ?_
  refine pb_iconst 7 (v := 1) dX2_everybody_6 rfl (by decide) ?_
  refine pb_isub 8 dX2_everybody_7 rfl ?_
  exact pb_iret dX2_everybody_8
theorem mc_X2_everybody : pb_MC yX2_everybody cX2_everybody 1 (some .int) 0 := ⟨pb_inW 571 (by decide +kernel) (by decide +kernel), pb_inW 65 (by decide +kernel) (by decide +kernel), by decide +kernel, by decide +kernel, by decide +kernel⟩
theorem mi_X2_everybody : Cond.instanceMethod yX2_everybody ∈ pb_gw := pb_inW 570 (by decide +kernel) (by decide +kernel)
theorem ms_X2_everybody : Cond.selects (yX2_everybody).cls yX2_everybody yX2_everybody ∈ pb_gw := pb_inW 11 (by decide +kernel) (by decide +kernel)
theorem cl_X2_everybody {α : Type} {l : Launch} {E : pb_E} {R : Room} {own : String} {cc : ByteArray} {mL : Nat} {ret : Option FieldType} {Xs : State → Prop} {nc ns : Nat} {Qf : State → Array Value → List Frame → α → pb_M → State → Prop} {pc : Nat} {L : List (Option Value)} {S : List Value} {μ : pb_M} {f : Int32 → pb_M → Option (α × pb_M)}  {index : Nat} (q : Nat)  (hR : 0 + 1 ≤ R.frames ∧ 8 + (1 + 11) + 0 ≤ R.locals ∧ nc ≤ R.cells ∧ ns ≤ R.slots) (hW : (S.map fun v => v.category).sum ≤ 8) (hl1 : Cond.methodLink own index yX2_everybody ∈ pb_gw) (hdg : decode cc pc = .ok (.invokevirtual index, 3)) (hq : pc + 3 = q) (k : ∀ b1 μ1, pb_RW l E R own cc mL ret Xs nc ns Qf q L (.int b1 :: S) μ1 (f b1 μ1)) : pb_RW l E R own cc mL ret Xs nc ns Qf pc L (.ref (E.2.1 10) :: S) μ (pb_b (pX2_everybody  μ) f) := pb_callV q (fun z : Int32 => some (.int z)) mc_X2_everybody mi_X2_everybody ms_X2_everybody (fun b1 μ1 h => evX2_everybody l E   μ b1 μ1 h) rfl (by decide) rfl rfl rfl rfl hR rfl hW hl1 hdg hq k
theorem nst_X2_34 : (RX2, 34, yX6_has, "PoundBeasts") ∈ pb_nest := by unfold pb_nest; simp
def pX2_takableByAny_L4 (v1 : Int32) : Nat → Int32 → Int32 → pb_M → Option (Int32 × pb_M)
  | 0, _, _, _ => none
  | n + 1, v2, v3, μ =>
    if (μ.1 10 1) ≤ v3 then
      some (v2, μ)
    else
    pb_b (pX6_has v1 v3 μ) (fun b15 μ15 =>
    if b15 = (0 : Int32) then
      pX2_takableByAny_L4 v1 n (v2 ||| (0 : Int32)) (v3 + (1 : Int32)) μ15
    else
    if pb_in v3 4 then
      pX2_takableByAny_L4 v1 n (v2 ||| (μ15.1 11 (v3).toNatClampNeg)) (v3 + (1 : Int32)) μ15
    else none)
def pX2_takableByAny (v1 : Int32) (μ : pb_M) : Option (Int32 × pb_M) :=
  pX2_takableByAny_L4 v1 pb_F (0 : Int32) (0 : Int32) μ
abbrev wX2_takableByAny (l : Launch) (E : pb_E) := pb_RW l E { frames := 1, cells := 0, slots := 0, locals := 21 } RX2 cX2_takableByAny 4 (some .int) (fun _ => True) 0 0 (pb_Qf E (fun z : Int32 => some (.int z)))
set_option maxRecDepth 100000 in
set_option maxHeartbeats 4000000 in
theorem tX2_takableByAny_L4 (l : Launch) (E : pb_E) (v1 : Int32)   : ∀ (n : Nat) (v2 : Int32) (v3 : Int32) (μ : pb_M), wX2_takableByAny l E 4 [some (.ref (E.2.1 10)), some (.int v1), some (.int v2), some (.int v3)] [] μ (pX2_takableByAny_L4 v1 n v2 v3 μ) := by
  intro n
  induction n with
  | zero => intro v2 v3 μ; exact pb_none
  | succ n ih =>
    intro v2 v3 μ
    rw [pX2_takableByAny_L4]
    refine pb_iload_n 5 dX2_takableByAny_4 rfl rfl rfl ?_
    refine pb_aload_n 6 dX2_takableByAny_5 rfl rfl rfl ?_
    refine pb_getI 9 (j := 1) in_X2 rfl (by decide) rfl rfl (by decide) fl_X2_27 dX2_takableByAny_6 rfl ?_
    refine pb_icmp_ge 12 (tgt := 39) dX2_takableByAny_9 (by decide) rfl (fun _ => ?_) (fun _ => ?_)
    · refine pb_iload_n 40 dX2_takableByAny_39 rfl rfl rfl ?_
      exact pb_iret dX2_takableByAny_40
    · refine pb_iload_n 13 dX2_takableByAny_12 rfl rfl rfl ?_
      refine pb_iload_n 14 dX2_takableByAny_13 rfl rfl rfl ?_
      refine pb_iload_n 15 dX2_takableByAny_14 rfl rfl rfl ?_
      refine clN_X6_has 18 ⟨by decide, by decide, by decide, by decide⟩ (Nat.le_of_ble_eq_true rfl) nst_X2_34 dX2_takableByAny_15 rfl (fun b15 μ15 => ?_)
      refine pb_if_eq 21 (tgt := 30) dX2_takableByAny_18 (by decide) rfl (fun _ => ?_) (fun _ => ?_)
      · refine pb_iconst 31 (v := 0) dX2_takableByAny_30 rfl (by decide) ?_
        refine pb_ior 32 dX2_takableByAny_31 rfl ?_
        refine pb_istore_n 33 (i := 2) (L' := [some (.ref (E.2.1 10)), some (.int v1), some (.int (v2 ||| (0 : Int32))), some (.int v3)]) dX2_takableByAny_32 rfl (by decide) rfl rfl rfl ?_
        refine pb_iinc 36 (i := 3) (v := (v3 + (1 : Int32))) (L' := [some (.ref (E.2.1 10)), some (.int v1), some (.int (v2 ||| (0 : Int32))), some (.int (v3 + (1 : Int32)))]) dX2_takableByAny_33 rfl rfl (by decide) rfl rfl rfl ?_
        refine pb_goto (tgt := 4) dX2_takableByAny_36 (by decide) ?_
        exact ih (v2 ||| (0 : Int32)) (v3 + (1 : Int32)) μ15
      · refine pb_aload_n 22 dX2_takableByAny_21 rfl rfl rfl ?_
        refine pb_getR 25 (j := 0) (d := 11) in_X2 rfl (by decide) rfl rfl (by decide) fl_X2_9 dX2_takableByAny_22 rfl ?_
        refine pb_iload_n 26 dX2_takableByAny_25 rfl rfl rfl ?_
        refine pb_guard (fun hin => pb_iald 27 rfl hin rfl dX2_takableByAny_26 rfl ?_)
        refine pb_goto (tgt := 31) dX2_takableByAny_27 (by decide) ?_
        refine pb_ior 32 dX2_takableByAny_31 rfl ?_
        refine pb_istore_n 33 (i := 2) (L' := [some (.ref (E.2.1 10)), some (.int v1), some (.int (v2 ||| (μ15.1 11 (v3).toNatClampNeg))), some (.int v3)]) dX2_takableByAny_32 rfl (by decide) rfl rfl rfl ?_
        refine pb_iinc 36 (i := 3) (v := (v3 + (1 : Int32))) (L' := [some (.ref (E.2.1 10)), some (.int v1), some (.int (v2 ||| (μ15.1 11 (v3).toNatClampNeg))), some (.int (v3 + (1 : Int32)))]) dX2_takableByAny_33 rfl rfl (by decide) rfl rfl rfl ?_
        refine pb_goto (tgt := 4) dX2_takableByAny_36 (by decide) ?_
        exact ih (v2 ||| (μ15.1 11 (v3).toNatClampNeg)) (v3 + (1 : Int32)) μ15
set_option maxRecDepth 100000 in
set_option maxHeartbeats 4000000 in
theorem evX2_takableByAny (l : Launch) (E : pb_E) (v1 : Int32)  (μ : pb_M) : ∀ b μ', pX2_takableByAny v1 μ = some (b, μ') → pb_Ev l E yX2_takableByAny cX2_takableByAny 4 (some .int) { frames := 1, cells := 0, slots := 0, locals := 21 } [.ref (E.2.1 10), .int v1] μ ((fun z : Int32 => some (.int z)) b) μ' := by
  refine pb_enter (L := [some (.ref (E.2.1 10)), some (.int v1), none, none]) (by decide +kernel) (Nat.le_of_ble_eq_true rfl) (pb_same [none, none, none, none] rfl) (show wX2_takableByAny l E 0 [some (.ref (E.2.1 10)), some (.int v1), none, none] [] μ (pX2_takableByAny v1 μ) from ?_)
  unfold pX2_takableByAny
  refine pb_iconst 1 (v := 0) dX2_takableByAny_0 rfl (by decide) ?_
  refine pb_istore_n 2 (i := 2) (L' := [some (.ref (E.2.1 10)), some (.int v1), some (.int (0 : Int32)), none]) dX2_takableByAny_1 rfl (by decide) rfl rfl rfl ?_
  refine pb_iconst 3 (v := 0) dX2_takableByAny_2 rfl (by decide) ?_
  refine pb_istore_n 4 (i := 3) (L' := [some (.ref (E.2.1 10)), some (.int v1), some (.int (0 : Int32)), some (.int (0 : Int32))]) dX2_takableByAny_3 rfl (by decide) rfl rfl rfl ?_
  exact tX2_takableByAny_L4 l E v1 pb_F (0 : Int32) (0 : Int32) μ
theorem mc_X2_takableByAny : pb_MC yX2_takableByAny cX2_takableByAny 4 (some .int) 1 := ⟨pb_inW 579 (by decide +kernel) (by decide +kernel), pb_inW 65 (by decide +kernel) (by decide +kernel), by decide +kernel, by decide +kernel, by decide +kernel⟩
theorem mi_X2_takableByAny : Cond.instanceMethod yX2_takableByAny ∈ pb_gw := pb_inW 577 (by decide +kernel) (by decide +kernel)
theorem ms_X2_takableByAny : Cond.selects (yX2_takableByAny).cls yX2_takableByAny yX2_takableByAny ∈ pb_gw := pb_inW 578 (by decide +kernel) (by decide +kernel)
theorem cl_X2_takableByAny {α : Type} {l : Launch} {E : pb_E} {R : Room} {own : String} {cc : ByteArray} {mL : Nat} {ret : Option FieldType} {Xs : State → Prop} {nc ns : Nat} {Qf : State → Array Value → List Frame → α → pb_M → State → Prop} {pc : Nat} {L : List (Option Value)} {S : List Value} {μ : pb_M} {f : Int32 → pb_M → Option (α × pb_M)} {v1 : Int32} {index : Nat} (q : Nat)  (hR : 1 + 1 ≤ R.frames ∧ 8 + (4 + 11) + 21 ≤ R.locals ∧ nc ≤ R.cells ∧ ns ≤ R.slots) (hW : (S.map fun v => v.category).sum ≤ 8) (hl1 : Cond.methodLink own index yX2_takableByAny ∈ pb_gw) (hdg : decode cc pc = .ok (.invokevirtual index, 3)) (hq : pc + 3 = q) (k : ∀ b1 μ1, pb_RW l E R own cc mL ret Xs nc ns Qf q L (.int b1 :: S) μ1 (f b1 μ1)) : pb_RW l E R own cc mL ret Xs nc ns Qf pc L (.int v1 :: .ref (E.2.1 10) :: S) μ (pb_b (pX2_takableByAny v1 μ) f) := pb_callV q (fun z : Int32 => some (.int z)) mc_X2_takableByAny mi_X2_takableByAny ms_X2_takableByAny (fun b1 μ1 h => evX2_takableByAny l E v1  μ b1 μ1 h) rfl (by decide) rfl rfl rfl rfl hR rfl hW hl1 hdg hq k
def pX2_allTakeSome_L2 (v1 : Int32) (v2 : Int32) : Nat → Int32 → pb_M → Option (Int32 × pb_M)
  | 0, _, _ => none
  | n + 1, v3, μ =>
    if (μ.1 10 1) ≤ v3 then
      some ((1 : Int32), μ)
    else
    pb_b (pX6_has v1 v3 μ) (fun b12 μ12 =>
    if b12 = (0 : Int32) then
      pX2_allTakeSome_L2 v1 v2 n (v3 + (1 : Int32)) μ12
    else
    if pb_in v3 4 then
      if ((μ12.1 11 (v3).toNatClampNeg) &&& v2) = (0 : Int32) then
        some ((0 : Int32), μ12)
      else
      pX2_allTakeSome_L2 v1 v2 n (v3 + (1 : Int32)) μ12
    else none)
def pX2_allTakeSome (v1 : Int32) (v2 : Int32) (μ : pb_M) : Option (Int32 × pb_M) :=
  pX2_allTakeSome_L2 v1 v2 pb_F (0 : Int32) μ
abbrev wX2_allTakeSome (l : Launch) (E : pb_E) := pb_RW l E { frames := 1, cells := 0, slots := 0, locals := 21 } RX2 cX2_allTakeSome 4 (some .boolean) (fun _ => True) 0 0 (pb_Qf E (fun z : Int32 => some (.int z)))
set_option maxRecDepth 100000 in
set_option maxHeartbeats 4000000 in
theorem tX2_allTakeSome_L2 (l : Launch) (E : pb_E) (v1 : Int32) (v2 : Int32)   : ∀ (n : Nat) (v3 : Int32) (μ : pb_M), wX2_allTakeSome l E 2 [some (.ref (E.2.1 10)), some (.int v1), some (.int v2), some (.int v3)] [] μ (pX2_allTakeSome_L2 v1 v2 n v3 μ) := by
  intro n
  induction n with
  | zero => intro v3 μ; exact pb_none
  | succ n ih =>
    intro v3 μ
    rw [pX2_allTakeSome_L2]
    refine pb_iload_n 3 dX2_allTakeSome_2 rfl rfl rfl ?_
    refine pb_aload_n 4 dX2_allTakeSome_3 rfl rfl rfl ?_
    refine pb_getI 7 (j := 1) in_X2 rfl (by decide) rfl rfl (by decide) fl_X2_27 dX2_allTakeSome_4 rfl ?_
    refine pb_icmp_ge 10 (tgt := 37) dX2_allTakeSome_7 (by decide) rfl (fun _ => ?_) (fun _ => ?_)
    · refine pb_iconst 38 (v := 1) dX2_allTakeSome_37 rfl (by decide) ?_
      exact pb_zret rfl dX2_allTakeSome_38
    · refine pb_iload_n 11 dX2_allTakeSome_10 rfl rfl rfl ?_
      refine pb_iload_n 12 dX2_allTakeSome_11 rfl rfl rfl ?_
      refine clN_X6_has 15 ⟨by decide, by decide, by decide, by decide⟩ (Nat.le_of_ble_eq_true rfl) nst_X2_34 dX2_allTakeSome_12 rfl (fun b12 μ12 => ?_)
      refine pb_if_eq 18 (tgt := 31) dX2_allTakeSome_15 (by decide) rfl (fun _ => ?_) (fun _ => ?_)
      · refine pb_iinc 34 (i := 3) (v := (v3 + (1 : Int32))) (L' := [some (.ref (E.2.1 10)), some (.int v1), some (.int v2), some (.int (v3 + (1 : Int32)))]) dX2_allTakeSome_31 rfl rfl (by decide) rfl rfl rfl ?_
        refine pb_goto (tgt := 2) dX2_allTakeSome_34 (by decide) ?_
        exact ih (v3 + (1 : Int32)) μ12
      · refine pb_aload_n 19 dX2_allTakeSome_18 rfl rfl rfl ?_
        refine pb_getR 22 (j := 0) (d := 11) in_X2 rfl (by decide) rfl rfl (by decide) fl_X2_9 dX2_allTakeSome_19 rfl ?_
        refine pb_iload_n 23 dX2_allTakeSome_22 rfl rfl rfl ?_
        refine pb_guard (fun hin => pb_iald 24 rfl hin rfl dX2_allTakeSome_23 rfl ?_)
        refine pb_iload_n 25 dX2_allTakeSome_24 rfl rfl rfl ?_
        refine pb_iand 26 dX2_allTakeSome_25 rfl ?_
        refine pb_if_ne 29 (tgt := 31) dX2_allTakeSome_26 (by decide) rfl (fun _ => ?_) (fun _ => ?_)
        · refine pb_iconst 30 (v := 0) dX2_allTakeSome_29 rfl (by decide) ?_
          exact pb_zret rfl dX2_allTakeSome_30
        · refine pb_iinc 34 (i := 3) (v := (v3 + (1 : Int32))) (L' := [some (.ref (E.2.1 10)), some (.int v1), some (.int v2), some (.int (v3 + (1 : Int32)))]) dX2_allTakeSome_31 rfl rfl (by decide) rfl rfl rfl ?_
          refine pb_goto (tgt := 2) dX2_allTakeSome_34 (by decide) ?_
          exact ih (v3 + (1 : Int32)) μ12
set_option maxRecDepth 100000 in
set_option maxHeartbeats 4000000 in
theorem evX2_allTakeSome (l : Launch) (E : pb_E) (v1 : Int32) (v2 : Int32)  (μ : pb_M) : ∀ b μ', pX2_allTakeSome v1 v2 μ = some (b, μ') → pb_Ev l E yX2_allTakeSome cX2_allTakeSome 4 (some .boolean) { frames := 1, cells := 0, slots := 0, locals := 21 } [.ref (E.2.1 10), .int v1, .int v2] μ ((fun z : Int32 => some (.int z)) b) μ' := by
  refine pb_enter (L := [some (.ref (E.2.1 10)), some (.int v1), some (.int v2), none]) (by decide +kernel) (Nat.le_of_ble_eq_true rfl) (pb_same [none, none, none, none] rfl) (show wX2_allTakeSome l E 0 [some (.ref (E.2.1 10)), some (.int v1), some (.int v2), none] [] μ (pX2_allTakeSome v1 v2 μ) from ?_)
  unfold pX2_allTakeSome
  refine pb_iconst 1 (v := 0) dX2_allTakeSome_0 rfl (by decide) ?_
  refine pb_istore_n 2 (i := 3) (L' := [some (.ref (E.2.1 10)), some (.int v1), some (.int v2), some (.int (0 : Int32))]) dX2_allTakeSome_1 rfl (by decide) rfl rfl rfl ?_
  exact tX2_allTakeSome_L2 l E v1 v2 pb_F (0 : Int32) μ
theorem mc_X2_allTakeSome : pb_MC yX2_allTakeSome cX2_allTakeSome 4 (some .boolean) 2 := ⟨pb_inW 685 (by decide +kernel) (by decide +kernel), pb_inW 65 (by decide +kernel) (by decide +kernel), by decide +kernel, by decide +kernel, by decide +kernel⟩
theorem mi_X2_allTakeSome : Cond.instanceMethod yX2_allTakeSome ∈ pb_gw := pb_inW 683 (by decide +kernel) (by decide +kernel)
theorem ms_X2_allTakeSome : Cond.selects (yX2_allTakeSome).cls yX2_allTakeSome yX2_allTakeSome ∈ pb_gw := pb_inW 684 (by decide +kernel) (by decide +kernel)
theorem cl_X2_allTakeSome {α : Type} {l : Launch} {E : pb_E} {R : Room} {own : String} {cc : ByteArray} {mL : Nat} {ret : Option FieldType} {Xs : State → Prop} {nc ns : Nat} {Qf : State → Array Value → List Frame → α → pb_M → State → Prop} {pc : Nat} {L : List (Option Value)} {S : List Value} {μ : pb_M} {f : Int32 → pb_M → Option (α × pb_M)} {v1 : Int32} {v2 : Int32} {index : Nat} (q : Nat)  (hR : 1 + 1 ≤ R.frames ∧ 8 + (4 + 11) + 21 ≤ R.locals ∧ nc ≤ R.cells ∧ ns ≤ R.slots) (hW : (S.map fun v => v.category).sum ≤ 8) (hl1 : Cond.methodLink own index yX2_allTakeSome ∈ pb_gw) (hdg : decode cc pc = .ok (.invokevirtual index, 3)) (hq : pc + 3 = q) (k : ∀ b1 μ1, pb_RW l E R own cc mL ret Xs nc ns Qf q L (.int b1 :: S) μ1 (f b1 μ1)) : pb_RW l E R own cc mL ret Xs nc ns Qf pc L (.int v2 :: .int v1 :: .ref (E.2.1 10) :: S) μ (pb_b (pX2_allTakeSome v1 v2 μ) f) := pb_callV q (fun z : Int32 => some (.int z)) mc_X2_allTakeSome mi_X2_allTakeSome ms_X2_allTakeSome (fun b1 μ1 h => evX2_allTakeSome l E v1 v2  μ b1 μ1 h) rfl (by decide) rfl rfl rfl rfl hR rfl hW hl1 hdg hq k
theorem kc_J6_265 : Cond.constant RJ6 265 (1431655765 : Int32) ∈ pb_gw := pb_inW 467 (by decide +kernel) (by decide +kernel)
theorem kc_J6_266 : Cond.constant RJ6 266 (858993459 : Int32) ∈ pb_gw := pb_inW 468 (by decide +kernel) (by decide +kernel)
theorem kc_J6_267 : Cond.constant RJ6 267 (252645135 : Int32) ∈ pb_gw := pb_inW 469 (by decide +kernel) (by decide +kernel)
def pJ6_bitCount_0f7a4 (v0 : Int32) (μ : pb_M) : Option (Int32 × pb_M) :=
  some (((((((((v0 - (((v0).toUInt32 >>> (((1 : Int32)).toUInt32 &&& Int32.toUInt32 31)).toInt32 &&& (1431655765 : Int32))) &&& (858993459 : Int32)) + ((((v0 - (((v0).toUInt32 >>> (((1 : Int32)).toUInt32 &&& Int32.toUInt32 31)).toInt32 &&& (1431655765 : Int32)))).toUInt32 >>> (((2 : Int32)).toUInt32 &&& Int32.toUInt32 31)).toInt32 &&& (858993459 : Int32))) + (((((v0 - (((v0).toUInt32 >>> (((1 : Int32)).toUInt32 &&& Int32.toUInt32 31)).toInt32 &&& (1431655765 : Int32))) &&& (858993459 : Int32)) + ((((v0 - (((v0).toUInt32 >>> (((1 : Int32)).toUInt32 &&& Int32.toUInt32 31)).toInt32 &&& (1431655765 : Int32)))).toUInt32 >>> (((2 : Int32)).toUInt32 &&& Int32.toUInt32 31)).toInt32 &&& (858993459 : Int32)))).toUInt32 >>> (((4 : Int32)).toUInt32 &&& Int32.toUInt32 31)).toInt32) &&& (252645135 : Int32)) + (((((((v0 - (((v0).toUInt32 >>> (((1 : Int32)).toUInt32 &&& Int32.toUInt32 31)).toInt32 &&& (1431655765 : Int32))) &&& (858993459 : Int32)) + ((((v0 - (((v0).toUInt32 >>> (((1 : Int32)).toUInt32 &&& Int32.toUInt32 31)).toInt32 &&& (1431655765 : Int32)))).toUInt32 >>> (((2 : Int32)).toUInt32 &&& Int32.toUInt32 31)).toInt32 &&& (858993459 : Int32))) + (((((v0 - (((v0).toUInt32 >>> (((1 : Int32)).toUInt32 &&& Int32.toUInt32 31)).toInt32 &&& (1431655765 : Int32))) &&& (858993459 : Int32)) + ((((v0 - (((v0).toUInt32 >>> (((1 : Int32)).toUInt32 &&& Int32.toUInt32 31)).toInt32 &&& (1431655765 : Int32)))).toUInt32 >>> (((2 : Int32)).toUInt32 &&& Int32.toUInt32 31)).toInt32 &&& (858993459 : Int32)))).toUInt32 >>> (((4 : Int32)).toUInt32 &&& Int32.toUInt32 31)).toInt32) &&& (252645135 : Int32))).toUInt32 >>> (((8 : Int32)).toUInt32 &&& Int32.toUInt32 31)).toInt32) + ((((((((v0 - (((v0).toUInt32 >>> (((1 : Int32)).toUInt32 &&& Int32.toUInt32 31)).toInt32 &&& (1431655765 : Int32))) &&& (858993459 : Int32)) + ((((v0 - (((v0).toUInt32 >>> (((1 : Int32)).toUInt32 &&& Int32.toUInt32 31)).toInt32 &&& (1431655765 : Int32)))).toUInt32 >>> (((2 : Int32)).toUInt32 &&& Int32.toUInt32 31)).toInt32 &&& (858993459 : Int32))) + (((((v0 - (((v0).toUInt32 >>> (((1 : Int32)).toUInt32 &&& Int32.toUInt32 31)).toInt32 &&& (1431655765 : Int32))) &&& (858993459 : Int32)) + ((((v0 - (((v0).toUInt32 >>> (((1 : Int32)).toUInt32 &&& Int32.toUInt32 31)).toInt32 &&& (1431655765 : Int32)))).toUInt32 >>> (((2 : Int32)).toUInt32 &&& Int32.toUInt32 31)).toInt32 &&& (858993459 : Int32)))).toUInt32 >>> (((4 : Int32)).toUInt32 &&& Int32.toUInt32 31)).toInt32) &&& (252645135 : Int32)) + (((((((v0 - (((v0).toUInt32 >>> (((1 : Int32)).toUInt32 &&& Int32.toUInt32 31)).toInt32 &&& (1431655765 : Int32))) &&& (858993459 : Int32)) + ((((v0 - (((v0).toUInt32 >>> (((1 : Int32)).toUInt32 &&& Int32.toUInt32 31)).toInt32 &&& (1431655765 : Int32)))).toUInt32 >>> (((2 : Int32)).toUInt32 &&& Int32.toUInt32 31)).toInt32 &&& (858993459 : Int32))) + (((((v0 - (((v0).toUInt32 >>> (((1 : Int32)).toUInt32 &&& Int32.toUInt32 31)).toInt32 &&& (1431655765 : Int32))) &&& (858993459 : Int32)) + ((((v0 - (((v0).toUInt32 >>> (((1 : Int32)).toUInt32 &&& Int32.toUInt32 31)).toInt32 &&& (1431655765 : Int32)))).toUInt32 >>> (((2 : Int32)).toUInt32 &&& Int32.toUInt32 31)).toInt32 &&& (858993459 : Int32)))).toUInt32 >>> (((4 : Int32)).toUInt32 &&& Int32.toUInt32 31)).toInt32) &&& (252645135 : Int32))).toUInt32 >>> (((8 : Int32)).toUInt32 &&& Int32.toUInt32 31)).toInt32)).toUInt32 >>> (((16 : Int32)).toUInt32 &&& Int32.toUInt32 31)).toInt32) &&& (63 : Int32)), μ)
abbrev wJ6_bitCount_0f7a4 (l : Launch) (E : pb_E) := pb_RW l E { frames := 0, cells := 0, slots := 0, locals := 0 } RJ6 cJ6_bitCount_0f7a4 1 (some .int) (fun _ => True) 0 0 (pb_Qf E (fun z : Int32 => some (.int z)))
set_option maxRecDepth 100000 in
set_option maxHeartbeats 4000000 in
theorem evJ6_bitCount_0f7a4 (l : Launch) (E : pb_E) (v0 : Int32)  (μ : pb_M) : ∀ b μ', pJ6_bitCount_0f7a4 v0 μ = some (b, μ') → pb_Ev l E yJ6_bitCount_0f7a4 cJ6_bitCount_0f7a4 1 (some .int) { frames := 0, cells := 0, slots := 0, locals := 0 } [.int v0] μ ((fun z : Int32 => some (.int z)) b) μ' := by
  refine pb_enter (L := [some (.int v0)]) (by decide +kernel) (Nat.le_of_ble_eq_true rfl) (pb_same [none] rfl) (show wJ6_bitCount_0f7a4 l E 0 [some (.int v0)] [] μ (pJ6_bitCount_0f7a4 v0 μ) from ?_)
  unfold pJ6_bitCount_0f7a4
  refine pb_iload_n 1 dJ6_bitCount_0f7a4_0 rfl rfl rfl ?_
  refine pb_iload_n 2 dJ6_bitCount_0f7a4_1 rfl rfl rfl ?_
  refine pb_iconst 3 (v := 1) dJ6_bitCount_0f7a4_2 rfl (by decide) ?_
  refine pb_iushr 4 dJ6_bitCount_0f7a4_3 rfl ?_
  refine pb_ldcw 7 kc_J6_265 dJ6_bitCount_0f7a4_4 rfl ?_
  refine pb_iand 8 dJ6_bitCount_0f7a4_7 rfl ?_
  refine pb_isub 9 dJ6_bitCount_0f7a4_8 rfl ?_
  refine pb_istore_n 10 (i := 0) (L' := [some (.int (v0 - (((v0).toUInt32 >>> (((1 : Int32)).toUInt32 &&& Int32.toUInt32 31)).toInt32 &&& (1431655765 : Int32))))]) dJ6_bitCount_0f7a4_9 rfl (by decide) rfl rfl rfl ?_
  refine pb_iload_n 11 dJ6_bitCount_0f7a4_10 rfl rfl rfl ?_
  refine pb_ldcw 14 kc_J6_266 dJ6_bitCount_0f7a4_11 rfl ?_
  refine pb_iand 15 dJ6_bitCount_0f7a4_14 rfl ?_
  refine pb_iload_n 16 dJ6_bitCount_0f7a4_15 rfl rfl rfl ?_
  refine pb_iconst 17 (v := 2) dJ6_bitCount_0f7a4_16 rfl (by decide) ?_
  refine pb_iushr 18 dJ6_bitCount_0f7a4_17 rfl ?_
  refine pb_ldcw 21 kc_J6_266 dJ6_bitCount_0f7a4_18 rfl ?_
  refine pb_iand 22 dJ6_bitCount_0f7a4_21 rfl ?_
  refine pb_iadd 23 dJ6_bitCount_0f7a4_22 rfl ?_
  refine pb_istore_n 24 (i := 0) (L' := [some (.int (((v0 - (((v0).toUInt32 >>> (((1 : Int32)).toUInt32 &&& Int32.toUInt32 31)).toInt32 &&& (1431655765 : Int32))) &&& (858993459 : Int32)) + ((((v0 - (((v0).toUInt32 >>> (((1 : Int32)).toUInt32 &&& Int32.toUInt32 31)).toInt32 &&& (1431655765 : Int32)))).toUInt32 >>> (((2 : Int32)).toUInt32 &&& Int32.toUInt32 31)).toInt32 &&& (858993459 : Int32))))]) dJ6_bitCount_0f7a4_23 rfl (by decide) rfl rfl rfl ?_
  refine pb_iload_n 25 dJ6_bitCount_0f7a4_24 rfl rfl rfl ?_
  refine pb_iload_n 26 dJ6_bitCount_0f7a4_25 rfl rfl rfl ?_
  refine pb_iconst 27 (v := 4) dJ6_bitCount_0f7a4_26 rfl (by decide) ?_
  refine pb_iushr 28 dJ6_bitCount_0f7a4_27 rfl ?_
  refine pb_iadd 29 dJ6_bitCount_0f7a4_28 rfl ?_
  refine pb_ldcw 32 kc_J6_267 dJ6_bitCount_0f7a4_29 rfl ?_
  refine pb_iand 33 dJ6_bitCount_0f7a4_32 rfl ?_
  refine pb_istore_n 34 (i := 0) (L' := [some (.int (((((v0 - (((v0).toUInt32 >>> (((1 : Int32)).toUInt32 &&& Int32.toUInt32 31)).toInt32 &&& (1431655765 : Int32))) &&& (858993459 : Int32)) + ((((v0 - (((v0).toUInt32 >>> (((1 : Int32)).toUInt32 &&& Int32.toUInt32 31)).toInt32 &&& (1431655765 : Int32)))).toUInt32 >>> (((2 : Int32)).toUInt32 &&& Int32.toUInt32 31)).toInt32 &&& (858993459 : Int32))) + (((((v0 - (((v0).toUInt32 >>> (((1 : Int32)).toUInt32 &&& Int32.toUInt32 31)).toInt32 &&& (1431655765 : Int32))) &&& (858993459 : Int32)) + ((((v0 - (((v0).toUInt32 >>> (((1 : Int32)).toUInt32 &&& Int32.toUInt32 31)).toInt32 &&& (1431655765 : Int32)))).toUInt32 >>> (((2 : Int32)).toUInt32 &&& Int32.toUInt32 31)).toInt32 &&& (858993459 : Int32)))).toUInt32 >>> (((4 : Int32)).toUInt32 &&& Int32.toUInt32 31)).toInt32) &&& (252645135 : Int32)))]) dJ6_bitCount_0f7a4_33 rfl (by decide) rfl rfl rfl ?_
  refine pb_iload_n 35 dJ6_bitCount_0f7a4_34 rfl rfl rfl ?_
  refine pb_iload_n 36 dJ6_bitCount_0f7a4_35 rfl rfl rfl ?_
  refine pb_bipush 38 (v := 8) dJ6_bitCount_0f7a4_36 rfl (by decide) ?_
  refine pb_iushr 39 dJ6_bitCount_0f7a4_38 rfl ?_
  refine pb_iadd 40 dJ6_bitCount_0f7a4_39 rfl ?_
  refine pb_istore_n 41 (i := 0) (L' := [some (.int ((((((v0 - (((v0).toUInt32 >>> (((1 : Int32)).toUInt32 &&& Int32.toUInt32 31)).toInt32 &&& (1431655765 : Int32))) &&& (858993459 : Int32)) + ((((v0 - (((v0).toUInt32 >>> (((1 : Int32)).toUInt32 &&& Int32.toUInt32 31)).toInt32 &&& (1431655765 : Int32)))).toUInt32 >>> (((2 : Int32)).toUInt32 &&& Int32.toUInt32 31)).toInt32 &&& (858993459 : Int32))) + (((((v0 - (((v0).toUInt32 >>> (((1 : Int32)).toUInt32 &&& Int32.toUInt32 31)).toInt32 &&& (1431655765 : Int32))) &&& (858993459 : Int32)) + ((((v0 - (((v0).toUInt32 >>> (((1 : Int32)).toUInt32 &&& Int32.toUInt32 31)).toInt32 &&& (1431655765 : Int32)))).toUInt32 >>> (((2 : Int32)).toUInt32 &&& Int32.toUInt32 31)).toInt32 &&& (858993459 : Int32)))).toUInt32 >>> (((4 : Int32)).toUInt32 &&& Int32.toUInt32 31)).toInt32) &&& (252645135 : Int32)) + (((((((v0 - (((v0).toUInt32 >>> (((1 : Int32)).toUInt32 &&& Int32.toUInt32 31)).toInt32 &&& (1431655765 : Int32))) &&& (858993459 : Int32)) + ((((v0 - (((v0).toUInt32 >>> (((1 : Int32)).toUInt32 &&& Int32.toUInt32 31)).toInt32 &&& (1431655765 : Int32)))).toUInt32 >>> (((2 : Int32)).toUInt32 &&& Int32.toUInt32 31)).toInt32 &&& (858993459 : Int32))) + (((((v0 - (((v0).toUInt32 >>> (((1 : Int32)).toUInt32 &&& Int32.toUInt32 31)).toInt32 &&& (1431655765 : Int32))) &&& (858993459 : Int32)) + ((((v0 - (((v0).toUInt32 >>> (((1 : Int32)).toUInt32 &&& Int32.toUInt32 31)).toInt32 &&& (1431655765 : Int32)))).toUInt32 >>> (((2 : Int32)).toUInt32 &&& Int32.toUInt32 31)).toInt32 &&& (858993459 : Int32)))).toUInt32 >>> (((4 : Int32)).toUInt32 &&& Int32.toUInt32 31)).toInt32) &&& (252645135 : Int32))).toUInt32 >>> (((8 : Int32)).toUInt32 &&& Int32.toUInt32 31)).toInt32))]) dJ6_bitCount_0f7a4_40 rfl (by decide) rfl rfl rfl ?_
  refine pb_iload_n 42 dJ6_bitCount_0f7a4_41 rfl rfl rfl ?_
  refine pb_iload_n 43 dJ6_bitCount_0f7a4_42 rfl rfl rfl ?_
  refine pb_bipush 45 (v := 16) dJ6_bitCount_0f7a4_43 rfl (by decide) ?_
  refine pb_iushr 46 dJ6_bitCount_0f7a4_45 rfl ?_
  refine pb_iadd 47 dJ6_bitCount_0f7a4_46 rfl ?_
  refine pb_istore_n 48 (i := 0) (L' := [some (.int (((((((v0 - (((v0).toUInt32 >>> (((1 : Int32)).toUInt32 &&& Int32.toUInt32 31)).toInt32 &&& (1431655765 : Int32))) &&& (858993459 : Int32)) + ((((v0 - (((v0).toUInt32 >>> (((1 : Int32)).toUInt32 &&& Int32.toUInt32 31)).toInt32 &&& (1431655765 : Int32)))).toUInt32 >>> (((2 : Int32)).toUInt32 &&& Int32.toUInt32 31)).toInt32 &&& (858993459 : Int32))) + (((((v0 - (((v0).toUInt32 >>> (((1 : Int32)).toUInt32 &&& Int32.toUInt32 31)).toInt32 &&& (1431655765 : Int32))) &&& (858993459 : Int32)) + ((((v0 - (((v0).toUInt32 >>> (((1 : Int32)).toUInt32 &&& Int32.toUInt32 31)).toInt32 &&& (1431655765 : Int32)))).toUInt32 >>> (((2 : Int32)).toUInt32 &&& Int32.toUInt32 31)).toInt32 &&& (858993459 : Int32)))).toUInt32 >>> (((4 : Int32)).toUInt32 &&& Int32.toUInt32 31)).toInt32) &&& (252645135 : Int32)) + (((((((v0 - (((v0).toUInt32 >>> (((1 : Int32)).toUInt32 &&& Int32.toUInt32 31)).toInt32 &&& (1431655765 : Int32))) &&& (858993459 : Int32)) + ((((v0 - (((v0).toUInt32 >>> (((1 : Int32)).toUInt32 &&& Int32.toUInt32 31)).toInt32 &&& (1431655765 : Int32)))).toUInt32 >>> (((2 : Int32)).toUInt32 &&& Int32.toUInt32 31)).toInt32 &&& (858993459 : Int32))) + (((((v0 - (((v0).toUInt32 >>> (((1 : Int32)).toUInt32 &&& Int32.toUInt32 31)).toInt32 &&& (1431655765 : Int32))) &&& (858993459 : Int32)) + ((((v0 - (((v0).toUInt32 >>> (((1 : Int32)).toUInt32 &&& Int32.toUInt32 31)).toInt32 &&& (1431655765 : Int32)))).toUInt32 >>> (((2 : Int32)).toUInt32 &&& Int32.toUInt32 31)).toInt32 &&& (858993459 : Int32)))).toUInt32 >>> (((4 : Int32)).toUInt32 &&& Int32.toUInt32 31)).toInt32) &&& (252645135 : Int32))).toUInt32 >>> (((8 : Int32)).toUInt32 &&& Int32.toUInt32 31)).toInt32) + ((((((((v0 - (((v0).toUInt32 >>> (((1 : Int32)).toUInt32 &&& Int32.toUInt32 31)).toInt32 &&& (1431655765 : Int32))) &&& (858993459 : Int32)) + ((((v0 - (((v0).toUInt32 >>> (((1 : Int32)).toUInt32 &&& Int32.toUInt32 31)).toInt32 &&& (1431655765 : Int32)))).toUInt32 >>> (((2 : Int32)).toUInt32 &&& Int32.toUInt32 31)).toInt32 &&& (858993459 : Int32))) + (((((v0 - (((v0).toUInt32 >>> (((1 : Int32)).toUInt32 &&& Int32.toUInt32 31)).toInt32 &&& (1431655765 : Int32))) &&& (858993459 : Int32)) + ((((v0 - (((v0).toUInt32 >>> (((1 : Int32)).toUInt32 &&& Int32.toUInt32 31)).toInt32 &&& (1431655765 : Int32)))).toUInt32 >>> (((2 : Int32)).toUInt32 &&& Int32.toUInt32 31)).toInt32 &&& (858993459 : Int32)))).toUInt32 >>> (((4 : Int32)).toUInt32 &&& Int32.toUInt32 31)).toInt32) &&& (252645135 : Int32)) + (((((((v0 - (((v0).toUInt32 >>> (((1 : Int32)).toUInt32 &&& Int32.toUInt32 31)).toInt32 &&& (1431655765 : Int32))) &&& (858993459 : Int32)) + ((((v0 - (((v0).toUInt32 >>> (((1 : Int32)).toUInt32 &&& Int32.toUInt32 31)).toInt32 &&& (1431655765 : Int32)))).toUInt32 >>> (((2 : Int32)).toUInt32 &&& Int32.toUInt32 31)).toInt32 &&& (858993459 : Int32))) + (((((v0 - (((v0).toUInt32 >>> (((1 : Int32)).toUInt32 &&& Int32.toUInt32 31)).toInt32 &&& (1431655765 : Int32))) &&& (858993459 : Int32)) + ((((v0 - (((v0).toUInt32 >>> (((1 : Int32)).toUInt32 &&& Int32.toUInt32 31)).toInt32 &&& (1431655765 : Int32)))).toUInt32 >>> (((2 : Int32)).toUInt32 &&& Int32.toUInt32 31)).toInt32 &&& (858993459 : Int32)))).toUInt32 >>> (((4 : Int32)).toUInt32 &&& Int32.toUInt32 31)).toInt32) &&& (252645135 : Int32))).toUInt32 >>> (((8 : Int32)).toUInt32 &&& Int32.toUInt32 31)).toInt32)).toUInt32 >>> (((16 : Int32)).toUInt32 &&& Int32.toUInt32 31)).toInt32))]) dJ6_bitCount_0f7a4_47 rfl (by decide) rfl rfl rfl ?_
  refine pb_iload_n 49 dJ6_bitCount_0f7a4_48 rfl rfl rfl ?_
  refine pb_bipush 51 (v := 63) dJ6_bitCount_0f7a4_49 rfl (by decide) ?_
  refine pb_iand 52 dJ6_bitCount_0f7a4_51 rfl ?_
  exact pb_iret dJ6_bitCount_0f7a4_52
theorem mc_J6_bitCount_0f7a4 : pb_MC yJ6_bitCount_0f7a4 cJ6_bitCount_0f7a4 1 (some .int) 1 := ⟨pb_inW 466 (by decide +kernel) (by decide +kernel), pb_inW 72 (by decide +kernel) (by decide +kernel), by decide +kernel, by decide +kernel, by decide +kernel⟩
theorem ms_J6_bitCount_0f7a4 : Cond.static yJ6_bitCount_0f7a4 ∈ pb_gw := pb_inW 465 (by decide +kernel) (by decide +kernel)
theorem cl_J6_bitCount_0f7a4 {α : Type} {l : Launch} {E : pb_E} {R : Room} {own : String} {cc : ByteArray} {mL : Nat} {ret : Option FieldType} {Xs : State → Prop} {nc ns : Nat} {Qf : State → Array Value → List Frame → α → pb_M → State → Prop} {pc : Nat} {L : List (Option Value)} {S : List Value} {μ : pb_M} {f : Int32 → pb_M → Option (α × pb_M)} {v0 : Int32} {index : Nat} (q : Nat)  (hR : 0 + 1 ≤ R.frames ∧ 8 + (1 + 11) + 0 ≤ R.locals ∧ nc ≤ R.cells ∧ ns ≤ R.slots) (hW : (S.map fun v => v.category).sum ≤ 8) (hl1 : Cond.methodLink own index yJ6_bitCount_0f7a4 ∈ pb_gw) (hdg : decode cc pc = .ok (.invokestatic index, 3)) (hq : pc + 3 = q) (k : ∀ b1 μ1, pb_RW l E R own cc mL ret Xs nc ns Qf q L (.int b1 :: S) μ1 (f b1 μ1)) : pb_RW l E R own cc mL ret Xs nc ns Qf pc L (.int v0 :: S) μ (pb_b (pJ6_bitCount_0f7a4 v0 μ) f) := pb_callS q (fun z : Int32 => some (.int z)) mc_J6_bitCount_0f7a4 ms_J6_bitCount_0f7a4 (fun b1 μ1 h => evJ6_bitCount_0f7a4 l E v0  μ b1 μ1 h) rfl rfl rfl hR rfl hW hl1 hdg hq k
theorem ml_X2_44 : Cond.methodLink RX2 44 yX2_takableByAny ∈ pb_gw := pb_inW 576 (by decide +kernel) (by decide +kernel)
theorem ml_X2_47 : Cond.methodLink RX2 47 yJ6_bitCount_0f7a4 ∈ pb_gw := pb_inW 581 (by decide +kernel) (by decide +kernel)
theorem ml_X2_52 : Cond.methodLink RX2 52 Lib.Math.max.name ∈ pb_gw := pb_inW 582 (by decide +kernel) (by decide +kernel)
def pX2_mostOf_L5 (v1 : Int32) (v2 : Int32) (K52 : Int32 → pb_M → Option (Int32 × pb_M)) : Nat → Int32 → Int32 → pb_M → Option (Int32 × pb_M)
  | 0, _, _, _ => none
  | n + 1, v3, v4, μ =>
    if v1 < v4 then
      K52 v3 μ
    else
    if (v4 &&& (v1 ^^^ (-1 : Int32))) = (0 : Int32) then
      pb_b (pX2_takableByAny v4 μ) (fun b23 μ23 =>
      pb_b (pJ6_bitCount_0f7a4 (b23 &&& v2) μ23) (fun b28 μ28 =>
      pb_b (pJ6_bitCount_0f7a4 v4 μ28) (fun b36 μ36 =>
      pX2_mostOf_L5 v1 v2 K52 n (if v3 < (b36 - b28) then (b36 - b28) else v3) (v4 + (1 : Int32)) μ36)))
    else
    pX2_mostOf_L5 v1 v2 K52 n v3 (v4 + (1 : Int32)) μ
def pX2_mostOf (v1 : Int32) (v2 : Int32) (μ : pb_M) : Option (Int32 × pb_M) :=
  pX2_mostOf_L5 v1 v2 (fun x3k52 μk52 =>
    pb_b (pJ6_bitCount_0f7a4 v1 μk52) (fun b53 μ53 =>
    some ((b53 - x3k52), μ53))) pb_F (0 : Int32) (0 : Int32) μ
abbrev wX2_mostOf (l : Launch) (E : pb_E) := pb_RW l E { frames := 2, cells := 0, slots := 0, locals := 44 } RX2 cX2_mostOf 6 (some .int) (fun _ => True) 0 0 (pb_Qf E (fun z : Int32 => some (.int z)))
set_option maxRecDepth 100000 in
set_option maxHeartbeats 4000000 in
theorem tX2_mostOf_L5 (l : Launch) (E : pb_E) (v1 : Int32) (v2 : Int32) {K52 : Int32 → pb_M → Option (Int32 × pb_M)} (hK52 : ∀ (w3 : Int32) (μ : pb_M), wX2_mostOf l E 52 [some (.ref (E.2.1 10)), some (.int v1), none, some (.int w3), none, none] [] μ (K52 w3 μ)) : ∀ (n : Nat) (v3 : Int32) (v4 : Int32) (μ : pb_M), wX2_mostOf l E 5 [some (.ref (E.2.1 10)), some (.int v1), some (.int v2), some (.int v3), some (.int v4), none] [] μ (pX2_mostOf_L5 v1 v2 K52 n v3 v4 μ) := by
  intro n
  induction n with
  | zero => intro v3 v4 μ; exact pb_none
  | succ n ih =>
    intro v3 v4 μ
    rw [pX2_mostOf_L5]
    refine pb_iload 7 dX2_mostOf_5 rfl rfl ?_
    refine pb_iload_n 8 dX2_mostOf_7 rfl rfl rfl ?_
    refine pb_icmp_gt 11 (tgt := 52) dX2_mostOf_8 (by decide) rfl (fun _ => ?_) (fun _ => ?_)
    · refine pb_weakM (L' := [some (.ref (E.2.1 10)), some (.int v1), none, some (.int v3), none, none]) [true, true, false, true, false, false] rfl ?_
      exact hK52 v3 μ
    · refine pb_iload 13 dX2_mostOf_11 rfl rfl ?_
      refine pb_iload_n 14 dX2_mostOf_13 rfl rfl rfl ?_
      refine pb_iconst 15 (v := -1) dX2_mostOf_14 rfl (by decide) ?_
      refine pb_ixor 16 dX2_mostOf_15 rfl ?_
      refine pb_iand 17 dX2_mostOf_16 rfl ?_
      refine pb_if_ne 20 (tgt := 46) dX2_mostOf_17 (by decide) rfl (fun _ => ?_) (fun _ => ?_)
      · refine pb_aload_n 21 dX2_mostOf_20 rfl rfl rfl ?_
        refine pb_iload 23 dX2_mostOf_21 rfl rfl ?_
        refine cl_X2_takableByAny 26 ⟨by decide, by decide, by decide, by decide⟩ (Nat.le_of_ble_eq_true rfl) ml_X2_44 dX2_mostOf_23 rfl (fun b23 μ23 => ?_)
        refine pb_iload_n 27 dX2_mostOf_26 rfl rfl rfl ?_
        refine pb_iand 28 dX2_mostOf_27 rfl ?_
        refine cl_J6_bitCount_0f7a4 31 ⟨by decide, by decide, by decide, by decide⟩ (Nat.le_of_ble_eq_true rfl) ml_X2_47 dX2_mostOf_28 rfl (fun b28 μ28 => ?_)
        refine pb_istore 33 (i := 5) (L' := [some (.ref (E.2.1 10)), some (.int v1), some (.int v2), some (.int v3), some (.int v4), some (.int b28)]) dX2_mostOf_31 (by decide) rfl rfl rfl ?_
        refine pb_iload_n 34 dX2_mostOf_33 rfl rfl rfl ?_
        refine pb_iload 36 dX2_mostOf_34 rfl rfl ?_
        refine cl_J6_bitCount_0f7a4 39 ⟨by decide, by decide, by decide, by decide⟩ (Nat.le_of_ble_eq_true rfl) ml_X2_47 dX2_mostOf_36 rfl (fun b36 μ36 => ?_)
        refine pb_iload 41 dX2_mostOf_39 rfl rfl ?_
        refine pb_isub 42 dX2_mostOf_41 rfl ?_
        refine pb_max 45 ml_X2_52 km_max1 km_2 km_max3 ⟨by decide, Nat.le_of_ble_eq_true rfl, by decide, by decide⟩ dX2_mostOf_42 rfl ?_
        refine pb_istore_n 46 (i := 3) (L' := [some (.ref (E.2.1 10)), some (.int v1), some (.int v2), some (.int (if v3 < (b36 - b28) then (b36 - b28) else v3)), some (.int v4), some (.int b28)]) dX2_mostOf_45 rfl (by decide) rfl rfl rfl ?_
        refine pb_iinc 49 (i := 4) (v := (v4 + (1 : Int32))) (L' := [some (.ref (E.2.1 10)), some (.int v1), some (.int v2), some (.int (if v3 < (b36 - b28) then (b36 - b28) else v3)), some (.int (v4 + (1 : Int32))), some (.int b28)]) dX2_mostOf_46 rfl rfl (by decide) rfl rfl rfl ?_
        refine pb_goto (tgt := 5) dX2_mostOf_49 (by decide) ?_
        refine pb_weakM (L' := [some (.ref (E.2.1 10)), some (.int v1), some (.int v2), some (.int (if v3 < (b36 - b28) then (b36 - b28) else v3)), some (.int (v4 + (1 : Int32))), none]) [true, true, true, true, true, false] rfl ?_
        exact ih (if v3 < (b36 - b28) then (b36 - b28) else v3) (v4 + (1 : Int32)) μ36
      · refine pb_iinc 49 (i := 4) (v := (v4 + (1 : Int32))) (L' := [some (.ref (E.2.1 10)), some (.int v1), some (.int v2), some (.int v3), some (.int (v4 + (1 : Int32))), none]) dX2_mostOf_46 rfl rfl (by decide) rfl rfl rfl ?_
        refine pb_goto (tgt := 5) dX2_mostOf_49 (by decide) ?_
        exact ih v3 (v4 + (1 : Int32)) μ
set_option maxRecDepth 100000 in
set_option maxHeartbeats 4000000 in
theorem evX2_mostOf (l : Launch) (E : pb_E) (v1 : Int32) (v2 : Int32)  (μ : pb_M) : ∀ b μ', pX2_mostOf v1 v2 μ = some (b, μ') → pb_Ev l E yX2_mostOf cX2_mostOf 6 (some .int) { frames := 2, cells := 0, slots := 0, locals := 44 } [.ref (E.2.1 10), .int v1, .int v2] μ ((fun z : Int32 => some (.int z)) b) μ' := by
  refine pb_enter (L := [some (.ref (E.2.1 10)), some (.int v1), some (.int v2), none, none, none]) (by decide +kernel) (Nat.le_of_ble_eq_true rfl) (pb_same [none, none, none, none, none, none] rfl) (show wX2_mostOf l E 0 [some (.ref (E.2.1 10)), some (.int v1), some (.int v2), none, none, none] [] μ (pX2_mostOf v1 v2 μ) from ?_)
  unfold pX2_mostOf
  refine pb_iconst 1 (v := 0) dX2_mostOf_0 rfl (by decide) ?_
  refine pb_istore_n 2 (i := 3) (L' := [some (.ref (E.2.1 10)), some (.int v1), some (.int v2), some (.int (0 : Int32)), none, none]) dX2_mostOf_1 rfl (by decide) rfl rfl rfl ?_
  refine pb_iconst 3 (v := 0) dX2_mostOf_2 rfl (by decide) ?_
  refine pb_istore 5 (i := 4) (L' := [some (.ref (E.2.1 10)), some (.int v1), some (.int v2), some (.int (0 : Int32)), some (.int (0 : Int32)), none]) dX2_mostOf_3 (by decide) rfl rfl rfl ?_
  refine tX2_mostOf_L5 l E v1 v2 (fun x3k52 μk52 => ?_) pb_F (0 : Int32) (0 : Int32) μ
  refine pb_iload_n 53 dX2_mostOf_52 rfl rfl rfl ?_
  refine cl_J6_bitCount_0f7a4 56 ⟨by decide, by decide, by decide, by decide⟩ (Nat.le_of_ble_eq_true rfl) ml_X2_47 dX2_mostOf_53 rfl (fun b53 μ53 => ?_)
  refine pb_iload_n 57 dX2_mostOf_56 rfl rfl rfl ?_
  refine pb_isub 58 dX2_mostOf_57 rfl ?_
  exact pb_iret dX2_mostOf_58
theorem mc_X2_mostOf : pb_MC yX2_mostOf cX2_mostOf 6 (some .int) 2 := ⟨pb_inW 575 (by decide +kernel) (by decide +kernel), pb_inW 65 (by decide +kernel) (by decide +kernel), by decide +kernel, by decide +kernel, by decide +kernel⟩
theorem mi_X2_mostOf : Cond.instanceMethod yX2_mostOf ∈ pb_gw := pb_inW 574 (by decide +kernel) (by decide +kernel)
theorem ms_X2_mostOf : Cond.selects (yX2_mostOf).cls yX2_mostOf yX2_mostOf ∈ pb_gw := pb_inW 12 (by decide +kernel) (by decide +kernel)
theorem cl_X2_mostOf {α : Type} {l : Launch} {E : pb_E} {R : Room} {own : String} {cc : ByteArray} {mL : Nat} {ret : Option FieldType} {Xs : State → Prop} {nc ns : Nat} {Qf : State → Array Value → List Frame → α → pb_M → State → Prop} {pc : Nat} {L : List (Option Value)} {S : List Value} {μ : pb_M} {f : Int32 → pb_M → Option (α × pb_M)} {v1 : Int32} {v2 : Int32} {index : Nat} (q : Nat)  (hR : 2 + 1 ≤ R.frames ∧ 8 + (6 + 11) + 44 ≤ R.locals ∧ nc ≤ R.cells ∧ ns ≤ R.slots) (hW : (S.map fun v => v.category).sum ≤ 8) (hl1 : Cond.methodLink own index yX2_mostOf ∈ pb_gw) (hdg : decode cc pc = .ok (.invokevirtual index, 3)) (hq : pc + 3 = q) (k : ∀ b1 μ1, pb_RW l E R own cc mL ret Xs nc ns Qf q L (.int b1 :: S) μ1 (f b1 μ1)) : pb_RW l E R own cc mL ret Xs nc ns Qf pc L (.int v2 :: .int v1 :: .ref (E.2.1 10) :: S) μ (pb_b (pX2_mostOf v1 v2 μ) f) := pb_callV q (fun z : Int32 => some (.int z)) mc_X2_mostOf mi_X2_mostOf ms_X2_mostOf (fun b1 μ1 h => evX2_mostOf l E v1 v2  μ b1 μ1 h) rfl (by decide) rfl rfl rfl rfl hR rfl hW hl1 hdg hq k
theorem ml_X2_38 : Cond.methodLink RX2 38 yX2_everybody ∈ pb_gw := pb_inW 568 (by decide +kernel) (by decide +kernel)
theorem ml_X2_41 : Cond.methodLink RX2 41 yX2_mostOf ∈ pb_gw := pb_inW 572 (by decide +kernel) (by decide +kernel)
def pX2_most  (μ : pb_M) : Option (Int32 × pb_M) :=
  pb_b (pX2_everybody μ) (fun b2 μ2 =>
  pb_b (pX2_mostOf b2 (31 : Int32) μ2) (fun b7 μ7 =>
  some (b7, μ7)))
abbrev wX2_most (l : Launch) (E : pb_E) := pb_RW l E { frames := 3, cells := 0, slots := 0, locals := 69 } RX2 cX2_most 1 (some .int) (fun _ => True) 0 0 (pb_Qf E (fun z : Int32 => some (.int z)))
set_option maxRecDepth 100000 in
set_option maxHeartbeats 4000000 in
theorem evX2_most (l : Launch) (E : pb_E)   (μ : pb_M) : ∀ b μ', pX2_most  μ = some (b, μ') → pb_Ev l E yX2_most cX2_most 1 (some .int) { frames := 3, cells := 0, slots := 0, locals := 69 } [.ref (E.2.1 10)] μ ((fun z : Int32 => some (.int z)) b) μ' := by
  refine pb_enter (L := [some (.ref (E.2.1 10))]) (by decide +kernel) (Nat.le_of_ble_eq_true rfl) (pb_same [none] rfl) (show wX2_most l E 0 [some (.ref (E.2.1 10))] [] μ (pX2_most  μ) from ?_)
  unfold pX2_most
  refine pb_aload_n 1 dX2_most_0 rfl rfl rfl ?_
  refine pb_aload_n 2 dX2_most_1 rfl rfl rfl ?_
  refine cl_X2_everybody 5 ⟨by decide, by decide, by decide, by decide⟩ (Nat.le_of_ble_eq_true rfl) ml_X2_38 dX2_most_2 rfl (fun b2 μ2 => ?_)
  refine pb_bipush 7 (v := 31) dX2_most_5 rfl (by decide) ?_
  refine cl_X2_mostOf 10 ⟨by decide, by decide, by decide, by decide⟩ (Nat.le_of_ble_eq_true rfl) ml_X2_41 dX2_most_7 rfl (fun b7 μ7 => ?_)
  exact pb_iret dX2_most_10
theorem mc_X2_most : pb_MC yX2_most cX2_most 1 (some .int) 0 := ⟨pb_inW 567 (by decide +kernel) (by decide +kernel), pb_inW 65 (by decide +kernel) (by decide +kernel), by decide +kernel, by decide +kernel, by decide +kernel⟩
theorem mi_X2_most : Cond.instanceMethod yX2_most ∈ pb_gw := pb_inW 565 (by decide +kernel) (by decide +kernel)
theorem ms_X2_most : Cond.selects (yX2_most).cls yX2_most yX2_most ∈ pb_gw := pb_inW 566 (by decide +kernel) (by decide +kernel)
theorem cl_X2_most {α : Type} {l : Launch} {E : pb_E} {R : Room} {own : String} {cc : ByteArray} {mL : Nat} {ret : Option FieldType} {Xs : State → Prop} {nc ns : Nat} {Qf : State → Array Value → List Frame → α → pb_M → State → Prop} {pc : Nat} {L : List (Option Value)} {S : List Value} {μ : pb_M} {f : Int32 → pb_M → Option (α × pb_M)}  {index : Nat} (q : Nat)  (hR : 3 + 1 ≤ R.frames ∧ 8 + (1 + 11) + 69 ≤ R.locals ∧ nc ≤ R.cells ∧ ns ≤ R.slots) (hW : (S.map fun v => v.category).sum ≤ 8) (hl1 : Cond.methodLink own index yX2_most ∈ pb_gw) (hdg : decode cc pc = .ok (.invokevirtual index, 3)) (hq : pc + 3 = q) (k : ∀ b1 μ1, pb_RW l E R own cc mL ret Xs nc ns Qf q L (.int b1 :: S) μ1 (f b1 μ1)) : pb_RW l E R own cc mL ret Xs nc ns Qf pc L (.ref (E.2.1 10) :: S) μ (pb_b (pX2_most  μ) f) := pb_callV q (fun z : Int32 => some (.int z)) mc_X2_most mi_X2_most ms_X2_most (fun b1 μ1 h => evX2_most l E   μ b1 μ1 h) rfl (by decide) rfl rfl rfl rfl hR rfl hW hl1 hdg hq k
def pX2_firstChoice_L30 (v1 : Int32) (v2 : Int32) (v3 : Int32) (v4 : Int32) : Nat → Int32 → pb_M → Option (Int32 × pb_M)
  | 0, _, _ => none
  | n + 1, v5, μ =>
    if (5 : Int32) ≤ v5 then
      some ((0 : Int32), μ)
    else
    if pb_in v1 4 then
      pb_b (pX6_has ((μ.1 11 (v1).toNatClampNeg) &&& v2) v5 μ) (fun b46 μ46 =>
      if b46 = (0 : Int32) then
        pX2_firstChoice_L30 v1 v2 v3 v4 n (v5 + (1 : Int32)) μ46
      else
      pb_b (pX2_mostOf v4 (v2 &&& (((1 : Int32) <<< (v5 &&& 31)) ^^^ (-1 : Int32))) μ46) (fun b68 μ68 =>
      if ((1 : Int32) + b68) = v3 then
        some ((v5 + (1 : Int32)), μ68)
      else
      pX2_firstChoice_L30 v1 v2 v3 v4 n (v5 + (1 : Int32)) μ68))
    else none
def pX2_firstChoice (v1 : Int32) (v2 : Int32) (v3 : Int32) (μ : pb_M) : Option (Int32 × pb_M) :=
  pb_b (pX2_everybody μ) (fun b1 μ1 =>
  pb_b (pX2_mostOf (b1 &&& ((((2 : Int32) <<< (v1 &&& 31)) - (1 : Int32)) ^^^ (-1 : Int32))) v2 μ1) (fun b18 μ18 =>
  if b18 = v3 then
    some ((0 : Int32), μ18)
  else
  pX2_firstChoice_L30 v1 v2 v3 (b1 &&& ((((2 : Int32) <<< (v1 &&& 31)) - (1 : Int32)) ^^^ (-1 : Int32))) pb_F (0 : Int32) μ18))
abbrev wX2_firstChoice (l : Launch) (E : pb_E) := pb_RW l E { frames := 3, cells := 0, slots := 0, locals := 69 } RX2 cX2_firstChoice 7 (some .int) (fun _ => True) 0 0 (pb_Qf E (fun z : Int32 => some (.int z)))
set_option maxRecDepth 100000 in
set_option maxHeartbeats 4000000 in
theorem tX2_firstChoice_L30 (l : Launch) (E : pb_E) (v1 : Int32) (v2 : Int32) (v3 : Int32) (v4 : Int32)   : ∀ (n : Nat) (v5 : Int32) (μ : pb_M), wX2_firstChoice l E 30 [some (.ref (E.2.1 10)), some (.int v1), some (.int v2), some (.int v3), some (.int v4), some (.int v5), none] [] μ (pX2_firstChoice_L30 v1 v2 v3 v4 n v5 μ) := by
  intro n
  induction n with
  | zero => intro v5 μ; exact pb_none
  | succ n ih =>
    intro v5 μ
    rw [pX2_firstChoice_L30]
    refine pb_iload 32 dX2_firstChoice_30 rfl rfl ?_
    refine pb_iconst 33 (v := 5) dX2_firstChoice_32 rfl (by decide) ?_
    refine pb_icmp_ge 36 (tgt := 87) dX2_firstChoice_33 (by decide) rfl (fun _ => ?_) (fun _ => ?_)
    · refine pb_iconst 88 (v := 0) dX2_firstChoice_87 rfl (by decide) ?_
      exact pb_iret dX2_firstChoice_88
    · refine pb_aload_n 37 dX2_firstChoice_36 rfl rfl rfl ?_
      refine pb_getR 40 (j := 0) (d := 11) in_X2 rfl (by decide) rfl rfl (by decide) fl_X2_9 dX2_firstChoice_37 rfl ?_
      refine pb_iload_n 41 dX2_firstChoice_40 rfl rfl rfl ?_
      refine pb_guard (fun hin => pb_iald 42 rfl hin rfl dX2_firstChoice_41 rfl ?_)
      refine pb_iload_n 43 dX2_firstChoice_42 rfl rfl rfl ?_
      refine pb_iand 44 dX2_firstChoice_43 rfl ?_
      refine pb_iload 46 dX2_firstChoice_44 rfl rfl ?_
      refine clN_X6_has 49 ⟨by decide, by decide, by decide, by decide⟩ (Nat.le_of_ble_eq_true rfl) nst_X2_34 dX2_firstChoice_46 rfl (fun b46 μ46 => ?_)
      refine pb_istore 51 (i := 6) (L' := [some (.ref (E.2.1 10)), some (.int v1), some (.int v2), some (.int v3), some (.int v4), some (.int v5), some (.int b46)]) dX2_firstChoice_49 (by decide) rfl rfl rfl ?_
      refine pb_iload 53 dX2_firstChoice_51 rfl rfl ?_
      refine pb_if_eq 56 (tgt := 81) dX2_firstChoice_53 (by decide) rfl (fun _ => ?_) (fun _ => ?_)
      · refine pb_iinc 84 (i := 5) (v := (v5 + (1 : Int32))) (L' := [some (.ref (E.2.1 10)), some (.int v1), some (.int v2), some (.int v3), some (.int v4), some (.int (v5 + (1 : Int32))), some (.int b46)]) dX2_firstChoice_81 rfl rfl (by decide) rfl rfl rfl ?_
        refine pb_goto (tgt := 30) dX2_firstChoice_84 (by decide) ?_
        refine pb_weakM (L' := [some (.ref (E.2.1 10)), some (.int v1), some (.int v2), some (.int v3), some (.int v4), some (.int (v5 + (1 : Int32))), none]) [true, true, true, true, true, true, false] rfl ?_
        exact ih (v5 + (1 : Int32)) μ46
      · refine pb_iconst 57 (v := 1) dX2_firstChoice_56 rfl (by decide) ?_
        refine pb_aload_n 58 dX2_firstChoice_57 rfl rfl rfl ?_
        refine pb_iload 60 dX2_firstChoice_58 rfl rfl ?_
        refine pb_iload_n 61 dX2_firstChoice_60 rfl rfl rfl ?_
        refine pb_iconst 62 (v := 1) dX2_firstChoice_61 rfl (by decide) ?_
        refine pb_iload 64 dX2_firstChoice_62 rfl rfl ?_
        refine pb_ishl 65 dX2_firstChoice_64 rfl ?_
        refine pb_iconst 66 (v := -1) dX2_firstChoice_65 rfl (by decide) ?_
        refine pb_ixor 67 dX2_firstChoice_66 rfl ?_
        refine pb_iand 68 dX2_firstChoice_67 rfl ?_
        refine cl_X2_mostOf 71 ⟨by decide, by decide, by decide, by decide⟩ (Nat.le_of_ble_eq_true rfl) ml_X2_41 dX2_firstChoice_68 rfl (fun b68 μ68 => ?_)
        refine pb_iadd 72 dX2_firstChoice_71 rfl ?_
        refine pb_iload_n 73 dX2_firstChoice_72 rfl rfl rfl ?_
        refine pb_icmp_ne 76 (tgt := 81) dX2_firstChoice_73 (by decide) rfl (fun _ => ?_) (fun _ => ?_)
        · refine pb_iload 78 dX2_firstChoice_76 rfl rfl ?_
          refine pb_iconst 79 (v := 1) dX2_firstChoice_78 rfl (by decide) ?_
          refine pb_iadd 80 dX2_firstChoice_79 rfl ?_
          exact pb_iret dX2_firstChoice_80
        · refine pb_iinc 84 (i := 5) (v := (v5 + (1 : Int32))) (L' := [some (.ref (E.2.1 10)), some (.int v1), some (.int v2), some (.int v3), some (.int v4), some (.int (v5 + (1 : Int32))), some (.int b46)]) dX2_firstChoice_81 rfl rfl (by decide) rfl rfl rfl ?_
          refine pb_goto (tgt := 30) dX2_firstChoice_84 (by decide) ?_
          refine pb_weakM (L' := [some (.ref (E.2.1 10)), some (.int v1), some (.int v2), some (.int v3), some (.int v4), some (.int (v5 + (1 : Int32))), none]) [true, true, true, true, true, true, false] rfl ?_
          exact ih (v5 + (1 : Int32)) μ68
set_option maxRecDepth 100000 in
set_option maxHeartbeats 4000000 in
theorem evX2_firstChoice (l : Launch) (E : pb_E) (v1 : Int32) (v2 : Int32) (v3 : Int32)  (μ : pb_M) : ∀ b μ', pX2_firstChoice v1 v2 v3 μ = some (b, μ') → pb_Ev l E yX2_firstChoice cX2_firstChoice 7 (some .int) { frames := 3, cells := 0, slots := 0, locals := 69 } [.ref (E.2.1 10), .int v1, .int v2, .int v3] μ ((fun z : Int32 => some (.int z)) b) μ' := by
  refine pb_enter (L := [some (.ref (E.2.1 10)), some (.int v1), some (.int v2), some (.int v3), none, none, none]) (by decide +kernel) (Nat.le_of_ble_eq_true rfl) (pb_same [none, none, none, none, none, none, none] rfl) (show wX2_firstChoice l E 0 [some (.ref (E.2.1 10)), some (.int v1), some (.int v2), some (.int v3), none, none, none] [] μ (pX2_firstChoice v1 v2 v3 μ) from ?_)
  unfold pX2_firstChoice
  refine pb_aload_n 1 dX2_firstChoice_0 rfl rfl rfl ?_
  refine cl_X2_everybody 4 ⟨by decide, by decide, by decide, by decide⟩ (Nat.le_of_ble_eq_true rfl) ml_X2_38 dX2_firstChoice_1 rfl (fun b1 μ1 => ?_)
  refine pb_iconst 5 (v := 2) dX2_firstChoice_4 rfl (by decide) ?_
  refine pb_iload_n 6 dX2_firstChoice_5 rfl rfl rfl ?_
  refine pb_ishl 7 dX2_firstChoice_6 rfl ?_
  refine pb_iconst 8 (v := 1) dX2_firstChoice_7 rfl (by decide) ?_
  refine pb_isub 9 dX2_firstChoice_8 rfl ?_
  refine pb_iconst 10 (v := -1) dX2_firstChoice_9 rfl (by decide) ?_
  refine pb_ixor 11 dX2_firstChoice_10 rfl ?_
  refine pb_iand 12 dX2_firstChoice_11 rfl ?_
  refine pb_istore 14 (i := 4) (L' := [some (.ref (E.2.1 10)), some (.int v1), some (.int v2), some (.int v3), some (.int (b1 &&& ((((2 : Int32) <<< (v1 &&& 31)) - (1 : Int32)) ^^^ (-1 : Int32)))), none, none]) dX2_firstChoice_12 (by decide) rfl rfl rfl ?_
  refine pb_aload_n 15 dX2_firstChoice_14 rfl rfl rfl ?_
  refine pb_iload 17 dX2_firstChoice_15 rfl rfl ?_
  refine pb_iload_n 18 dX2_firstChoice_17 rfl rfl rfl ?_
  refine cl_X2_mostOf 21 ⟨by decide, by decide, by decide, by decide⟩ (Nat.le_of_ble_eq_true rfl) ml_X2_41 dX2_firstChoice_18 rfl (fun b18 μ18 => ?_)
  refine pb_iload_n 22 dX2_firstChoice_21 rfl rfl rfl ?_
  refine pb_icmp_ne 25 (tgt := 27) dX2_firstChoice_22 (by decide) rfl (fun _ => ?_) (fun _ => ?_)
  · refine pb_iconst 26 (v := 0) dX2_firstChoice_25 rfl (by decide) ?_
    exact pb_iret dX2_firstChoice_26
  · refine pb_iconst 28 (v := 0) dX2_firstChoice_27 rfl (by decide) ?_
    refine pb_istore 30 (i := 5) (L' := [some (.ref (E.2.1 10)), some (.int v1), some (.int v2), some (.int v3), some (.int (b1 &&& ((((2 : Int32) <<< (v1 &&& 31)) - (1 : Int32)) ^^^ (-1 : Int32)))), some (.int (0 : Int32)), none]) dX2_firstChoice_28 (by decide) rfl rfl rfl ?_
    exact tX2_firstChoice_L30 l E v1 v2 v3 (b1 &&& ((((2 : Int32) <<< (v1 &&& 31)) - (1 : Int32)) ^^^ (-1 : Int32))) pb_F (0 : Int32) μ18
theorem mc_X2_firstChoice : pb_MC yX2_firstChoice cX2_firstChoice 7 (some .int) 3 := ⟨pb_inW 586 (by decide +kernel) (by decide +kernel), pb_inW 65 (by decide +kernel) (by decide +kernel), by decide +kernel, by decide +kernel, by decide +kernel⟩
theorem mi_X2_firstChoice : Cond.instanceMethod yX2_firstChoice ∈ pb_gw := pb_inW 585 (by decide +kernel) (by decide +kernel)
theorem ms_X2_firstChoice : Cond.selects (yX2_firstChoice).cls yX2_firstChoice yX2_firstChoice ∈ pb_gw := pb_inW 13 (by decide +kernel) (by decide +kernel)
theorem cl_X2_firstChoice {α : Type} {l : Launch} {E : pb_E} {R : Room} {own : String} {cc : ByteArray} {mL : Nat} {ret : Option FieldType} {Xs : State → Prop} {nc ns : Nat} {Qf : State → Array Value → List Frame → α → pb_M → State → Prop} {pc : Nat} {L : List (Option Value)} {S : List Value} {μ : pb_M} {f : Int32 → pb_M → Option (α × pb_M)} {v1 : Int32} {v2 : Int32} {v3 : Int32} {index : Nat} (q : Nat)  (hR : 3 + 1 ≤ R.frames ∧ 8 + (7 + 11) + 69 ≤ R.locals ∧ nc ≤ R.cells ∧ ns ≤ R.slots) (hW : (S.map fun v => v.category).sum ≤ 8) (hl1 : Cond.methodLink own index yX2_firstChoice ∈ pb_gw) (hdg : decode cc pc = .ok (.invokevirtual index, 3)) (hq : pc + 3 = q) (k : ∀ b1 μ1, pb_RW l E R own cc mL ret Xs nc ns Qf q L (.int b1 :: S) μ1 (f b1 μ1)) : pb_RW l E R own cc mL ret Xs nc ns Qf pc L (.int v3 :: .int v2 :: .int v1 :: .ref (E.2.1 10) :: S) μ (pb_b (pX2_firstChoice v1 v2 v3 μ) f) := pb_callV q (fun z : Int32 => some (.int z)) mc_X2_firstChoice mi_X2_firstChoice ms_X2_firstChoice (fun b1 μ1 h => evX2_firstChoice l E v1 v2 v3  μ b1 μ1 h) rfl (by decide) rfl rfl rfl rfl hR rfl hW hl1 hdg hq k
