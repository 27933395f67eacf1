theorem ml_X5_31 : Cond.methodLink RX5 31 yX5_beasts ∈ pb_gw := pb_inW 303 (by decide +kernel) (by decide +kernel)
theorem ml_X5_54 : Cond.methodLink RX5 54 yX5_clauseFor ∈ pb_gw := pb_inW 541 (by decide +kernel) (by decide +kernel)
def pX5_takableBy_L4 (h0 : Nat) (v1 : Int32) : Nat → Int32 → Int32 → pb_M → Option (Int32 × pb_M)
  | 0, _, _, _ => none
  | n + 1, v2, v3, μ =>
    pb_b (pX5_beasts h0 μ) (fun b6 μ6 =>
    if b6 ≤ v3 then
      some (v2, μ6)
    else
    pb_b (pX5_clauseFor h0 v1 v3 μ6) (fun b16 μ16 =>
    if b16 = (0 : Int32) then
      pX5_takableBy_L4 h0 v1 n (v2 ||| ((1 : Int32) <<< (v3 &&& 31))) (v3 + (1 : Int32)) μ16
    else
    pX5_takableBy_L4 h0 v1 n (v2 ||| (0 : Int32)) (v3 + (1 : Int32)) μ16))
def pX5_takableBy (h0 : Nat) (v1 : Int32) (μ : pb_M) : Option (Int32 × pb_M) :=
  pX5_takableBy_L4 h0 v1 pb_F (0 : Int32) (0 : Int32) μ
abbrev wX5_takableBy (l : Launch) (E : pb_E) := pb_RW l E { frames := 3, cells := 0, slots := 0, locals := 65 } RX5 cX5_takableBy 4 (some .int) (fun _ => True) 0 0 (pb_Qf E (fun z : Int32 => some (.int z)))
set_option maxRecDepth 100000 in
set_option maxHeartbeats 4000000 in
theorem tX5_takableBy_L4 (l : Launch) (E : pb_E) (h0 : Nat) (hv0 : pb_V h0) (v1 : Int32)   : ∀ (n : Nat) (v2 : Int32) (v3 : Int32) (μ : pb_M), wX5_takableBy l E 4 [some (.ref (E.2.1 h0)), some (.int v1), some (.int v2), some (.int v3)] [] μ (pX5_takableBy_L4 h0 v1 n v2 v3 μ) := by
  intro n
  induction n with
  | zero => intro v2 v3 μ; exact pb_none
  | succ n ih =>
    intro v2 v3 μ
    rw [pX5_takableBy_L4]
    refine pb_iload_n 5 dX5_takableBy_4 rfl rfl rfl ?_
    refine pb_aload_n 6 dX5_takableBy_5 rfl rfl rfl ?_
    refine cl_X5_beasts 9 hv0 ⟨by decide, by decide, by decide, by decide⟩ (Nat.le_of_ble_eq_true rfl) ml_X5_31 dX5_takableBy_6 rfl (fun b6 μ6 => ?_)
    refine pb_icmp_ge 12 (tgt := 37) dX5_takableBy_9 (by decide) rfl (fun _ => ?_) (fun _ => ?_)
    · refine pb_iload_n 38 dX5_takableBy_37 rfl rfl rfl ?_
      exact pb_iret dX5_takableBy_38
    · refine pb_iload_n 13 dX5_takableBy_12 rfl rfl rfl ?_
      refine pb_aload_n 14 dX5_takableBy_13 rfl rfl rfl ?_
      refine pb_iload_n 15 dX5_takableBy_14 rfl rfl rfl ?_
      refine pb_iload_n 16 dX5_takableBy_15 rfl rfl rfl ?_
      refine cl_X5_clauseFor 19 hv0 ⟨by decide, by decide, by decide, by decide⟩ (Nat.le_of_ble_eq_true rfl) ml_X5_54 dX5_takableBy_16 rfl (fun b16 μ16 => ?_)
      refine pb_if_ne 22 (tgt := 28) dX5_takableBy_19 (by decide) rfl (fun _ => ?_) (fun _ => ?_)
      · refine pb_iconst 23 (v := 1) dX5_takableBy_22 rfl (by decide) ?_
        refine pb_iload_n 24 dX5_takableBy_23 rfl rfl rfl ?_
        refine pb_ishl 25 dX5_takableBy_24 rfl ?_
        refine pb_goto (tgt := 29) dX5_takableBy_25 (by decide) ?_
        refine pb_ior 30 dX5_takableBy_29 rfl ?_
        refine pb_istore_n 31 (i := 2) (L' := [some (.ref (E.2.1 h0)), some (.int v1), some (.int (v2 ||| ((1 : Int32) <<< (v3 &&& 31)))), some (.int v3)]) dX5_takableBy_30 rfl (by decide) rfl rfl rfl ?_
        refine pb_iinc 34 (i := 3) (v := (v3 + (1 : Int32))) (L' := [some (.ref (E.2.1 h0)), some (.int v1), some (.int (v2 ||| ((1 : Int32) <<< (v3 &&& 31)))), some (.int (v3 + (1 : Int32)))]) dX5_takableBy_31 rfl rfl (by decide) rfl rfl rfl ?_
        refine pb_goto (tgt := 4) dX5_takableBy_34 (by decide) ?_
        exact ih (v2 ||| ((1 : Int32) <<< (v3 &&& 31))) (v3 + (1 : Int32)) μ16
      · refine pb_iconst 29 (v := 0) dX5_takableBy_28 rfl (by decide) ?_
        refine pb_ior 30 dX5_takableBy_29 rfl ?_
        refine pb_istore_n 31 (i := 2) (L' := [some (.ref (E.2.1 h0)), some (.int v1), some (.int (v2 ||| (0 : Int32))), some (.int v3)]) dX5_takableBy_30 rfl (by decide) rfl rfl rfl ?_
        refine pb_iinc 34 (i := 3) (v := (v3 + (1 : Int32))) (L' := [some (.ref (E.2.1 h0)), some (.int v1), some (.int (v2 ||| (0 : Int32))), some (.int (v3 + (1 : Int32)))]) dX5_takableBy_31 rfl rfl (by decide) rfl rfl rfl ?_
        refine pb_goto (tgt := 4) dX5_takableBy_34 (by decide) ?_
        exact ih (v2 ||| (0 : Int32)) (v3 + (1 : Int32)) μ16
set_option maxRecDepth 100000 in
set_option maxHeartbeats 4000000 in
theorem evX5_takableBy (l : Launch) (E : pb_E) (h0 : Nat) (v1 : Int32) (hv0 : pb_V h0) (μ : pb_M) : ∀ b μ', pX5_takableBy h0 v1 μ = some (b, μ') → pb_Ev l E yX5_takableBy cX5_takableBy 4 (some .int) { frames := 3, cells := 0, slots := 0, locals := 65 } [.ref (E.2.1 h0), .int v1] μ ((fun z : Int32 => some (.int z)) b) μ' := by
  refine pb_enter (L := [some (.ref (E.2.1 h0)), some (.int v1), none, none]) (by decide +kernel) (Nat.le_of_ble_eq_true rfl) (pb_same [none, none, none, none] rfl) (show wX5_takableBy l E 0 [some (.ref (E.2.1 h0)), some (.int v1), none, none] [] μ (pX5_takableBy h0 v1 μ) from ?_)
  unfold pX5_takableBy
  refine pb_iconst 1 (v := 0) dX5_takableBy_0 rfl (by decide) ?_
  refine pb_istore_n 2 (i := 2) (L' := [some (.ref (E.2.1 h0)), some (.int v1), some (.int (0 : Int32)), none]) dX5_takableBy_1 rfl (by decide) rfl rfl rfl ?_
  refine pb_iconst 3 (v := 0) dX5_takableBy_2 rfl (by decide) ?_
  refine pb_istore_n 4 (i := 3) (L' := [some (.ref (E.2.1 h0)), some (.int v1), some (.int (0 : Int32)), some (.int (0 : Int32))]) dX5_takableBy_3 rfl (by decide) rfl rfl rfl ?_
  exact tX5_takableBy_L4 l E h0 hv0 v1 pb_F (0 : Int32) (0 : Int32) μ
theorem mc_X5_takableBy : pb_MC yX5_takableBy cX5_takableBy 4 (some .int) 1 := ⟨pb_inW 540 (by decide +kernel) (by decide +kernel), pb_inW 63 (by decide +kernel) (by decide +kernel), by decide +kernel, by decide +kernel, by decide +kernel⟩
theorem mi_X5_takableBy : Cond.instanceMethod yX5_takableBy ∈ pb_gw := pb_inW 538 (by decide +kernel) (by decide +kernel)
theorem ms_X5_takableBy : Cond.selects (yX5_takableBy).cls yX5_takableBy yX5_takableBy ∈ pb_gw := pb_inW 539 (by decide +kernel) (by decide +kernel)
theorem cl_X5_takableBy {α : Type} {l : Launch} {E : pb_E} {R : Room} {own : String} {cc : ByteArray} {mL : Nat} {ret : Option FieldType} {Xs : State → Prop} {nc ns : Nat} {Qf : State → Array Value → List Frame → α → pb_M → State → Prop} {pc : Nat} {L : List (Option Value)} {S : List Value} {μ : pb_M} {f : Int32 → pb_M → Option (α × pb_M)} {h0 : Nat} {v1 : Int32} {index : Nat} (q : Nat) (hv0 : pb_V h0) (hR : 3 + 1 ≤ R.frames ∧ 8 + (4 + 11) + 65 ≤ R.locals ∧ nc ≤ R.cells ∧ ns ≤ R.slots) (hW : (S.map fun v => v.category).sum ≤ 8) (hl1 : Cond.methodLink own index yX5_takableBy ∈ pb_gw) (hdg : decode cc pc = .ok (.invokevirtual index, 3)) (hq : pc + 3 = q) (k : ∀ b1 μ1, pb_RW l E R own cc mL ret Xs nc ns Qf q L (.int b1 :: S) μ1 (f b1 μ1)) : pb_RW l E R own cc mL ret Xs nc ns Qf pc L (.int v1 :: .ref (E.2.1 h0) :: S) μ (pb_b (pX5_takableBy h0 v1 μ) f) := pb_callV q (fun z : Int32 => some (.int z)) mc_X5_takableBy mi_X5_takableBy ms_X5_takableBy (fun b1 μ1 h => evX5_takableBy l E h0 v1 hv0 μ b1 μ1 h) hv0.1 (by decide) rfl rfl rfl rfl hR rfl hW hl1 hdg hq k
def pX5_beastsOf_L4 (h0 : Nat) (v1 : Int32) : Nat → Int32 → Int32 → pb_M → Option (Int32 × pb_M)
  | 0, _, _, _ => none
  | n + 1, v2, v3, μ =>
    pb_b (pX5_beasts h0 μ) (fun b6 μ6 =>
    if b6 ≤ v3 then
      some (v2, μ6)
    else
    pb_b (pX5_ownerOf h0 v3 μ6) (fun b15 μ15 =>
    if b15 = v1 then
      pX5_beastsOf_L4 h0 v1 n (v2 ||| ((1 : Int32) <<< (v3 &&& 31))) (v3 + (1 : Int32)) μ15
    else
    pX5_beastsOf_L4 h0 v1 n (v2 ||| (0 : Int32)) (v3 + (1 : Int32)) μ15))
def pX5_beastsOf (h0 : Nat) (v1 : Int32) (μ : pb_M) : Option (Int32 × pb_M) :=
  pX5_beastsOf_L4 h0 v1 pb_F (0 : Int32) (0 : Int32) μ
abbrev wX5_beastsOf (l : Launch) (E : pb_E) := pb_RW l E { frames := 1, cells := 0, slots := 0, locals := 21 } RX5 cX5_beastsOf 4 (some .int) (fun _ => True) 0 0 (pb_Qf E (fun z : Int32 => some (.int z)))
set_option maxRecDepth 100000 in
set_option maxHeartbeats 4000000 in
theorem tX5_beastsOf_L4 (l : Launch) (E : pb_E) (h0 : Nat) (hv0 : pb_V h0) (v1 : Int32)   : ∀ (n : Nat) (v2 : Int32) (v3 : Int32) (μ : pb_M), wX5_beastsOf l E 4 [some (.ref (E.2.1 h0)), some (.int v1), some (.int v2), some (.int v3)] [] μ (pX5_beastsOf_L4 h0 v1 n v2 v3 μ) := by
  intro n
  induction n with
  | zero => intro v2 v3 μ; exact pb_none
  | succ n ih =>
    intro v2 v3 μ
    rw [pX5_beastsOf_L4]
    refine pb_iload_n 5 dX5_beastsOf_4 rfl rfl rfl ?_
    refine pb_aload_n 6 dX5_beastsOf_5 rfl rfl rfl ?_
    refine cl_X5_beasts 9 hv0 ⟨by decide, by decide, by decide, by decide⟩ (Nat.le_of_ble_eq_true rfl) ml_X5_31 dX5_beastsOf_6 rfl (fun b6 μ6 => ?_)
    refine pb_icmp_ge 12 (tgt := 37) dX5_beastsOf_9 (by decide) rfl (fun _ => ?_) (fun _ => ?_)
    · refine pb_iload_n 38 dX5_beastsOf_37 rfl rfl rfl ?_
      exact pb_iret dX5_beastsOf_38
    · refine pb_iload_n 13 dX5_beastsOf_12 rfl rfl rfl ?_
      refine pb_aload_n 14 dX5_beastsOf_13 rfl rfl rfl ?_
      refine pb_iload_n 15 dX5_beastsOf_14 rfl rfl rfl ?_
      refine cl_X5_ownerOf 18 hv0 ⟨by decide, by decide, by decide, by decide⟩ (Nat.le_of_ble_eq_true rfl) ml_X5_48 dX5_beastsOf_15 rfl (fun b15 μ15 => ?_)
      refine pb_iload_n 19 dX5_beastsOf_18 rfl rfl rfl ?_
      refine pb_icmp_ne 22 (tgt := 28) dX5_beastsOf_19 (by decide) rfl (fun _ => ?_) (fun _ => ?_)
      · refine pb_iconst 23 (v := 1) dX5_beastsOf_22 rfl (by decide) ?_
        refine pb_iload_n 24 dX5_beastsOf_23 rfl rfl rfl ?_
        refine pb_ishl 25 dX5_beastsOf_24 rfl ?_
        refine pb_goto (tgt := 29) dX5_beastsOf_25 (by decide) ?_
        refine pb_ior 30 dX5_beastsOf_29 rfl ?_
        refine pb_istore_n 31 (i := 2) (L' := [some (.ref (E.2.1 h0)), some (.int v1), some (.int (v2 ||| ((1 : Int32) <<< (v3 &&& 31)))), some (.int v3)]) dX5_beastsOf_30 rfl (by decide) rfl rfl rfl ?_
        refine pb_iinc 34 (i := 3) (v := (v3 + (1 : Int32))) (L' := [some (.ref (E.2.1 h0)), some (.int v1), some (.int (v2 ||| ((1 : Int32) <<< (v3 &&& 31)))), some (.int (v3 + (1 : Int32)))]) dX5_beastsOf_31 rfl rfl (by decide) rfl rfl rfl ?_
        refine pb_goto (tgt := 4) dX5_beastsOf_34 (by decide) ?_
        exact ih (v2 ||| ((1 : Int32) <<< (v3 &&& 31))) (v3 + (1 : Int32)) μ15
      · refine pb_iconst 29 (v := 0) dX5_beastsOf_28 rfl (by decide) ?_
        refine pb_ior 30 dX5_beastsOf_29 rfl ?_
        refine pb_istore_n 31 (i := 2) (L' := [some (.ref (E.2.1 h0)), some (.int v1), some (.int (v2 ||| (0 : Int32))), some (.int v3)]) dX5_beastsOf_30 rfl (by decide) rfl rfl rfl ?_
        refine pb_iinc 34 (i := 3) (v := (v3 + (1 : Int32))) (L' := [some (.ref (E.2.1 h0)), some (.int v1), some (.int (v2 ||| (0 : Int32))), some (.int (v3 + (1 : Int32)))]) dX5_beastsOf_31 rfl rfl (by decide) rfl rfl rfl ?_
        refine pb_goto (tgt := 4) dX5_beastsOf_34 (by decide) ?_
        exact ih (v2 ||| (0 : Int32)) (v3 + (1 : Int32)) μ15
set_option maxRecDepth 100000 in
set_option maxHeartbeats 4000000 in
theorem evX5_beastsOf (l : Launch) (E : pb_E) (h0 : Nat) (v1 : Int32) (hv0 : pb_V h0) (μ : pb_M) : ∀ b μ', pX5_beastsOf h0 v1 μ = some (b, μ') → pb_Ev l E yX5_beastsOf cX5_beastsOf 4 (some .int) { frames := 1, cells := 0, slots := 0, locals := 21 } [.ref (E.2.1 h0), .int v1] μ ((fun z : Int32 => some (.int z)) b) μ' := by
  refine pb_enter (L := [some (.ref (E.2.1 h0)), some (.int v1), none, none]) (by decide +kernel) (Nat.le_of_ble_eq_true rfl) (pb_same [none, none, none, none] rfl) (show wX5_beastsOf l E 0 [some (.ref (E.2.1 h0)), some (.int v1), none, none] [] μ (pX5_beastsOf h0 v1 μ) from ?_)
  unfold pX5_beastsOf
  refine pb_iconst 1 (v := 0) dX5_beastsOf_0 rfl (by decide) ?_
  refine pb_istore_n 2 (i := 2) (L' := [some (.ref (E.2.1 h0)), some (.int v1), some (.int (0 : Int32)), none]) dX5_beastsOf_1 rfl (by decide) rfl rfl rfl ?_
  refine pb_iconst 3 (v := 0) dX5_beastsOf_2 rfl (by decide) ?_
  refine pb_istore_n 4 (i := 3) (L' := [some (.ref (E.2.1 h0)), some (.int v1), some (.int (0 : Int32)), some (.int (0 : Int32))]) dX5_beastsOf_3 rfl (by decide) rfl rfl rfl ?_
  exact tX5_beastsOf_L4 l E h0 hv0 v1 pb_F (0 : Int32) (0 : Int32) μ
theorem mc_X5_beastsOf : pb_MC yX5_beastsOf cX5_beastsOf 4 (some .int) 1 := ⟨pb_inW 352 (by decide +kernel) (by decide +kernel), pb_inW 63 (by decide +kernel) (by decide +kernel), by decide +kernel, by decide +kernel, by decide +kernel⟩
theorem mi_X5_beastsOf : Cond.instanceMethod yX5_beastsOf ∈ pb_gw := pb_inW 350 (by decide +kernel) (by decide +kernel)
theorem ms_X5_beastsOf : Cond.selects (yX5_beastsOf).cls yX5_beastsOf yX5_beastsOf ∈ pb_gw := pb_inW 351 (by decide +kernel) (by decide +kernel)
theorem cl_X5_beastsOf {α : Type} {l : Launch} {E : pb_E} {R : Room} {own : String} {cc : ByteArray} {mL : Nat} {ret : Option FieldType} {Xs : State → Prop} {nc ns : Nat} {Qf : State → Array Value → List Frame → α → pb_M → State → Prop} {pc : Nat} {L : List (Option Value)} {S : List Value} {μ : pb_M} {f : Int32 → pb_M → Option (α × pb_M)} {h0 : Nat} {v1 : Int32} {index : Nat} (q : Nat) (hv0 : pb_V h0) (hR : 1 + 1 ≤ R.frames ∧ 8 + (4 + 11) + 21 ≤ R.locals ∧ nc ≤ R.cells ∧ ns ≤ R.slots) (hW : (S.map fun v => v.category).sum ≤ 8) (hl1 : Cond.methodLink own index yX5_beastsOf ∈ pb_gw) (hdg : decode cc pc = .ok (.invokevirtual index, 3)) (hq : pc + 3 = q) (k : ∀ b1 μ1, pb_RW l E R own cc mL ret Xs nc ns Qf q L (.int b1 :: S) μ1 (f b1 μ1)) : pb_RW l E R own cc mL ret Xs nc ns Qf pc L (.int v1 :: .ref (E.2.1 h0) :: S) μ (pb_b (pX5_beastsOf h0 v1 μ) f) := pb_callV q (fun z : Int32 => some (.int z)) mc_X5_beastsOf mi_X5_beastsOf ms_X5_beastsOf (fun b1 μ1 h => evX5_beastsOf l E h0 v1 hv0 μ b1 μ1 h) hv0.1 (by decide) rfl rfl rfl rfl hR rfl hW hl1 hdg hq k
def pX6_has (v0 : Int32) (v1 : Int32) (μ : pb_M) : Option (Int32 × pb_M) :=
  if ((v0 >>> (v1 &&& 31)) &&& (1 : Int32)) = (0 : Int32) then
    some ((0 : Int32), μ)
  else
  some ((1 : Int32), μ)
abbrev wX6_has (l : Launch) (E : pb_E) := pb_RW l E { frames := 0, cells := 0, slots := 0, locals := 0 } RX6 cX6_has 2 (some .boolean) (fun _ => True) 0 0 (pb_Qf E (fun z : Int32 => some (.int z)))
set_option maxRecDepth 100000 in
set_option maxHeartbeats 4000000 in
theorem evX6_has (l : Launch) (E : pb_E) (v0 : Int32) (v1 : Int32)  (μ : pb_M) : ∀ b μ', pX6_has v0 v1 μ = some (b, μ') → pb_Ev l E yX6_has cX6_has 2 (some .boolean) { frames := 0, cells := 0, slots := 0, locals := 0 } [.int v0, .int v1] μ ((fun z : Int32 => some (.int z)) b) μ' := by
  refine pb_enter (L := [some (.int v0), some (.int v1)]) (by decide +kernel) (Nat.le_of_ble_eq_true rfl) (pb_same [none, none] rfl) (show wX6_has l E 0 [some (.int v0), some (.int v1)] [] μ (pX6_has v0 v1 μ) from ?_)
  unfold pX6_has
  refine pb_iload_n 1 dX6_has_0 rfl rfl rfl ?_
  refine pb_iload_n 2 dX6_has_1 rfl rfl rfl ?_
  refine pb_ishr 3 dX6_has_2 rfl ?_
  refine pb_iconst 4 (v := 1) dX6_has_3 rfl (by decide) ?_
  refine pb_iand 5 dX6_has_4 rfl ?_
  refine pb_if_eq 8 (tgt := 12) dX6_has_5 (by decide) rfl (fun _ => ?_) (fun _ => ?_)
  · refine pb_iconst 13 (v := 0) dX6_has_12 rfl (by decide) ?_
    exact pb_zret rfl dX6_has_13
  · refine pb_iconst 9 (v := 1) dX6_has_8 rfl (by decide) ?_
    refine pb_goto (tgt := 13) dX6_has_9 (by decide) ?_
    exact pb_zret rfl dX6_has_13
theorem mc_X6_has : pb_MC yX6_has cX6_has 2 (some .boolean) 2 := ⟨pb_inW 544 (by decide +kernel) (by decide +kernel), pb_inW 61 (by decide +kernel) (by decide +kernel), by decide +kernel, by decide +kernel, by decide +kernel⟩
theorem ms_X6_has : Cond.static yX6_has ∈ pb_gw := pb_inW 543 (by decide +kernel) (by decide +kernel)
theorem cl_X6_has {α : Type} {l : Launch} {E : pb_E} {R : Room} {own : String} {cc : ByteArray} {mL : Nat} {ret : Option FieldType} {Xs : State → Prop} {nc ns : Nat} {Qf : State → Array Value → List Frame → α → pb_M → State → Prop} {pc : Nat} {L : List (Option Value)} {S : List Value} {μ : pb_M} {f : Int32 → pb_M → Option (α × pb_M)} {v0 : Int32} {v1 : Int32} {index : Nat} (q : Nat)  (hR : 0 + 1 ≤ R.frames ∧ 8 + (2 + 11) + 0 ≤ R.locals ∧ nc ≤ R.cells ∧ ns ≤ R.slots) (hW : (S.map fun v => v.category).sum ≤ 8) (hl1 : Cond.methodLink own index yX6_has ∈ pb_gw) (hdg : decode cc pc = .ok (.invokestatic index, 3)) (hq : pc + 3 = q) (k : ∀ b1 μ1, pb_RW l E R own cc mL ret Xs nc ns Qf q L (.int b1 :: S) μ1 (f b1 μ1)) : pb_RW l E R own cc mL ret Xs nc ns Qf pc L (.int v1 :: .int v0 :: S) μ (pb_b (pX6_has v0 v1 μ) f) := pb_callS q (fun z : Int32 => some (.int z)) mc_X6_has ms_X6_has (fun b1 μ1 h => evX6_has l E v0 v1  μ b1 μ1 h) rfl rfl rfl hR rfl hW hl1 hdg hq k
theorem clN_X6_has {α : Type} {l : Launch} {E : pb_E} {R : Room} {own : String} {cc : ByteArray} {mL : Nat} {ret : Option FieldType} {Xs : State → Prop} {nc ns : Nat} {Qf : State → Array Value → List Frame → α → pb_M → State → Prop} {pc : Nat} {L : List (Option Value)} {S : List Value} {μ : pb_M} {f : Int32 → pb_M → Option (α × pb_M)} {v0 : Int32} {v1 : Int32} {index : Nat} (q : Nat)  (hR : 0 + 1 ≤ R.frames ∧ 8 + (2 + 11) + 0 ≤ R.locals ∧ nc ≤ R.cells ∧ ns ≤ R.slots) (hW : (S.map fun v => v.category).sum ≤ 8) {host : String} (hl1 : (own, index, yX6_has, host) ∈ pb_nest) (hdg : decode cc pc = .ok (.invokestatic index, 3)) (hq : pc + 3 = q) (k : ∀ b1 μ1, pb_RW l E R own cc mL ret Xs nc ns Qf q L (.int b1 :: S) μ1 (f b1 μ1)) : pb_RW l E R own cc mL ret Xs nc ns Qf pc L (.int v1 :: .int v0 :: S) μ (pb_b (pX6_has v0 v1 μ) f) := pb_callSN q (fun z : Int32 => some (.int z)) mc_X6_has ms_X6_has (fun b1 μ1 h => evX6_has l E v0 v1  μ b1 μ1 h) rfl rfl rfl hR rfl hW hl1 hdg hq k
theorem fl_X1_39 : Cond.fieldLink RX1 39 (TX1 3).1 (TX1 3).2.1 (TX1 3).2.2.1 ∈ pb_gw := pb_inW 162 (by decide +kernel) (by decide +kernel)
theorem nst_X1_66 : (RX1, 66, yX6_has, "PoundBeasts") ∈ pb_nest := by unfold pb_nest; simp
def pX1_isOpen (v1 : Int32) (μ : pb_M) : Option (Int32 × pb_M) :=
  if v1 = (0 : Int32) then
    some ((1 : Int32), μ)
  else
  pb_b (pX6_has (μ.1 15 3) (v1 - (1 : Int32)) μ) (fun b11 μ11 =>
  if b11 = (0 : Int32) then
    some ((0 : Int32), μ11)
  else
  some ((1 : Int32), μ11))
abbrev wX1_isOpen (l : Launch) (E : pb_E) := pb_RW l E { frames := 1, cells := 0, slots := 0, locals := 21 } RX1 cX1_isOpen 2 (some .boolean) (fun _ => True) 0 0 (pb_Qf E (fun z : Int32 => some (.int z)))
set_option maxRecDepth 100000 in
set_option maxHeartbeats 4000000 in
theorem evX1_isOpen (l : Launch) (E : pb_E) (v1 : Int32)  (μ : pb_M) : ∀ b μ', pX1_isOpen v1 μ = some (b, μ') → pb_Ev l E yX1_isOpen cX1_isOpen 2 (some .boolean) { frames := 1, cells := 0, slots := 0, locals := 21 } [.ref (E.2.1 15), .int v1] μ ((fun z : Int32 => some (.int z)) b) μ' := by
  refine pb_enter (L := [some (.ref (E.2.1 15)), some (.int v1)]) (by decide +kernel) (Nat.le_of_ble_eq_true rfl) (pb_same [none, none] rfl) (show wX1_isOpen l E 0 [some (.ref (E.2.1 15)), some (.int v1)] [] μ (pX1_isOpen v1 μ) from ?_)
  unfold pX1_isOpen
  refine pb_iload_n 1 dX1_isOpen_0 rfl rfl rfl ?_
  refine pb_if_eq 4 (tgt := 17) dX1_isOpen_1 (by decide) rfl (fun _ => ?_) (fun _ => ?_)
  · refine pb_iconst 18 (v := 1) dX1_isOpen_17 rfl (by decide) ?_
    refine pb_goto (tgt := 22) dX1_isOpen_18 (by decide) ?_
    exact pb_zret rfl dX1_isOpen_22
  · refine pb_aload_n 5 dX1_isOpen_4 rfl rfl rfl ?_
    refine pb_getI 8 (j := 3) in_X1 rfl (by decide) rfl rfl (by decide) fl_X1_39 dX1_isOpen_5 rfl ?_
    refine pb_iload_n 9 dX1_isOpen_8 rfl rfl rfl ?_
    refine pb_iconst 10 (v := 1) dX1_isOpen_9 rfl (by decide) ?_
    refine pb_isub 11 dX1_isOpen_10 rfl ?_
    refine clN_X6_has 14 ⟨by decide, by decide, by decide, by decide⟩ (Nat.le_of_ble_eq_true rfl) nst_X1_66 dX1_isOpen_11 rfl (fun b11 μ11 => ?_)
    refine pb_if_eq 17 (tgt := 21) dX1_isOpen_14 (by decide) rfl (fun _ => ?_) (fun _ => ?_)
    · refine pb_iconst 22 (v := 0) dX1_isOpen_21 rfl (by decide) ?_
      exact pb_zret rfl dX1_isOpen_22
    · refine pb_iconst 18 (v := 1) dX1_isOpen_17 rfl (by decide) ?_
      refine pb_goto (tgt := 22) dX1_isOpen_18 (by decide) ?_
      exact pb_zret rfl dX1_isOpen_22
theorem mc_X1_isOpen : pb_MC yX1_isOpen cX1_isOpen 2 (some .boolean) 1 := ⟨pb_inW 704 (by decide +kernel) (by decide +kernel), pb_inW 67 (by decide +kernel) (by decide +kernel), by decide +kernel, by decide +kernel, by decide +kernel⟩
theorem mi_X1_isOpen : Cond.instanceMethod yX1_isOpen ∈ pb_gw := pb_inW 703 (by decide +kernel) (by decide +kernel)
theorem ms_X1_isOpen : Cond.selects (yX1_isOpen).cls yX1_isOpen yX1_isOpen ∈ pb_gw := pb_inW 21 (by decide +kernel) (by decide +kernel)
theorem cl_X1_isOpen {α : Type} {l : Launch} {E : pb_E} {R : Room} {own : String} {cc : ByteArray} {mL : Nat} {ret : Option FieldType} {Xs : State → Prop} {nc ns : Nat} {Qf : State → Array Value → List Frame → α → pb_M → State → Prop} {pc : Nat} {L : List (Option Value)} {S : List Value} {μ : pb_M} {f : Int32 → pb_M → Option (α × pb_M)} {v1 : Int32} {index : Nat} (q : Nat)  (hR : 1 + 1 ≤ R.frames ∧ 8 + (2 + 11) + 21 ≤ R.locals ∧ nc ≤ R.cells ∧ ns ≤ R.slots) (hW : (S.map fun v => v.category).sum ≤ 8) (hl1 : Cond.methodLink own index yX1_isOpen ∈ pb_gw) (hdg : decode cc pc = .ok (.invokevirtual index, 3)) (hq : pc + 3 = q) (k : ∀ b1 μ1, pb_RW l E R own cc mL ret Xs nc ns Qf q L (.int b1 :: S) μ1 (f b1 μ1)) : pb_RW l E R own cc mL ret Xs nc ns Qf pc L (.int v1 :: .ref (E.2.1 15) :: S) μ (pb_b (pX1_isOpen v1 μ) f) := pb_callV q (fun z : Int32 => some (.int z)) mc_X1_isOpen mi_X1_isOpen ms_X1_isOpen (fun b1 μ1 h => evX1_isOpen l E v1  μ b1 μ1 h) rfl (by decide) rfl rfl rfl rfl hR rfl hW hl1 hdg hq k
theorem fl_X1_21 : Cond.fieldLink RX1 21 (TX1 1).1 (TX1 1).2.1 (TX1 1).2.2.1 ∈ pb_gw := pb_inW 160 (by decide +kernel) (by decide +kernel)
theorem fl_X1_9 : Cond.fieldLink RX1 9 (TX1 0).1 (TX1 0).2.1 (TX1 0).2.2.1 ∈ pb_gw := pb_inW 159 (by decide +kernel) (by decide +kernel)
def pX1_cost_J17 (v1 : Int32) (v2 : Int32) (s0 : Int32) (μ : pb_M) : Option (Int32 × pb_M) :=
  if s0 = (0 : Int32) then
    some ((v1 + (0 : Int32)), μ)
  else
  if pb_in (v2 - (1 : Int32)) 5 then
    some ((v1 + (μ.1 16 ((v2 - (1 : Int32))).toNatClampNeg)), μ)
  else none
def pX1_cost_J16 (v1 : Int32) (v2 : Int32) (μ : pb_M) : Option (Int32 × pb_M) :=
  pX1_cost_J17 v1 v2 (0 : Int32) μ
def pX1_cost (v1 : Int32) (v2 : Int32) (μ : pb_M) : Option (Int32 × pb_M) :=
  if v2 ≤ (0 : Int32) then
    pX1_cost_J16 v1 v2 μ
  else
  if (μ.1 15 1) ≤ v1 then
    pX1_cost_J16 v1 v2 μ
  else
  pX1_cost_J17 v1 v2 (1 : Int32) μ
abbrev wX1_cost (l : Launch) (E : pb_E) := pb_RW l E { frames := 0, cells := 0, slots := 0, locals := 0 } RX1 cX1_cost 4 (some .int) (fun _ => True) 0 0 (pb_Qf E (fun z : Int32 => some (.int z)))
set_option maxRecDepth 100000 in
set_option maxHeartbeats 4000000 in
theorem tX1_cost_J17 (l : Launch) (E : pb_E)    : ∀ (v1 : Int32) (v2 : Int32) (s0 : Int32) (μ : pb_M), wX1_cost l E 17 [some (.ref (E.2.1 15)), some (.int v1), some (.int v2), none] [.int s0] μ (pX1_cost_J17 v1 v2 s0 μ) := by
  intro v1 v2 s0 μ
  unfold pX1_cost_J17
  refine pb_istore_n 18 (i := 3) (L' := [some (.ref (E.2.1 15)), some (.int v1), some (.int v2), some (.int s0)]) dX1_cost_17 rfl (by decide) rfl rfl rfl ?_
  refine pb_iload_n 19 dX1_cost_18 rfl rfl rfl ?_
  refine pb_iload_n 20 dX1_cost_19 rfl rfl rfl ?_
  refine pb_if_eq 23 (tgt := 34) dX1_cost_20 (by decide) rfl (fun _ => ?_) (fun _ => ?_)
  · refine pb_iconst 35 (v := 0) dX1_cost_34 rfl (by decide) ?_
    refine pb_iadd 36 dX1_cost_35 rfl ?_
    exact pb_iret dX1_cost_36
  · refine pb_aload_n 24 dX1_cost_23 rfl rfl rfl ?_
    refine pb_getR 27 (j := 0) (d := 16) in_X1 rfl (by decide) rfl rfl (by decide) fl_X1_9 dX1_cost_24 rfl ?_
    refine pb_iload_n 28 dX1_cost_27 rfl rfl rfl ?_
    refine pb_iconst 29 (v := 1) dX1_cost_28 rfl (by decide) ?_
    refine pb_isub 30 dX1_cost_29 rfl ?_
    refine pb_guard (fun hin => pb_iald 31 rfl hin rfl dX1_cost_30 rfl ?_)
    refine pb_goto (tgt := 35) dX1_cost_31 (by decide) ?_
    refine pb_iadd 36 dX1_cost_35 rfl ?_
    exact pb_iret dX1_cost_36
set_option maxRecDepth 100000 in
set_option maxHeartbeats 4000000 in
theorem tX1_cost_J16 (l : Launch) (E : pb_E)    : ∀ (v1 : Int32) (v2 : Int32) (μ : pb_M), wX1_cost l E 16 [some (.ref (E.2.1 15)), some (.int v1), some (.int v2), none] [] μ (pX1_cost_J16 v1 v2 μ) := by
  intro v1 v2 μ
  unfold pX1_cost_J16
  refine pb_iconst 17 (v := 0) dX1_cost_16 rfl (by decide) ?_
  exact tX1_cost_J17 l E v1 v2 (0 : Int32) μ
set_option maxRecDepth 100000 in
set_option maxHeartbeats 4000000 in
theorem evX1_cost (l : Launch) (E : pb_E) (v1 : Int32) (v2 : Int32)  (μ : pb_M) : ∀ b μ', pX1_cost v1 v2 μ = some (b, μ') → pb_Ev l E yX1_cost cX1_cost 4 (some .int) { frames := 0, cells := 0, slots := 0, locals := 0 } [.ref (E.2.1 15), .int v1, .int v2] μ ((fun z : Int32 => some (.int z)) b) μ' := by
  refine pb_enter (L := [some (.ref (E.2.1 15)), some (.int v1), some (.int v2), none]) (by decide +kernel) (Nat.le_of_ble_eq_true rfl) (pb_same [none, none, none, none] rfl) (show wX1_cost l E 0 [some (.ref (E.2.1 15)), some (.int v1), some (.int v2), none] [] μ (pX1_cost v1 v2 μ) from ?_)
  unfold pX1_cost
  refine pb_iload_n 1 dX1_cost_0 rfl rfl rfl ?_
  refine pb_if_le 4 (tgt := 16) dX1_cost_1 (by decide) rfl (fun _ => ?_) (fun _ => ?_)
  · exact tX1_cost_J16 l E v1 v2 μ
  · refine pb_aload_n 5 dX1_cost_4 rfl rfl rfl ?_
    refine pb_getI 8 (j := 1) in_X1 rfl (by decide) rfl rfl (by decide) fl_X1_21 dX1_cost_5 rfl ?_
    refine pb_iload_n 9 dX1_cost_8 rfl rfl rfl ?_
    refine pb_icmp_le 12 (tgt := 16) dX1_cost_9 (by decide) rfl (fun _ => ?_) (fun _ => ?_)
    · exact tX1_cost_J16 l E v1 v2 μ
    · refine pb_iconst 13 (v := 1) dX1_cost_12 rfl (by decide) ?_
      refine pb_goto (tgt := 17) dX1_cost_13 (by decide) ?_
      exact tX1_cost_J17 l E v1 v2 (1 : Int32) μ
theorem mc_X1_cost : pb_MC yX1_cost cX1_cost 4 (some .int) 2 := ⟨pb_inW 713 (by decide +kernel) (by decide +kernel), pb_inW 67 (by decide +kernel) (by decide +kernel), by decide +kernel, by decide +kernel, by decide +kernel⟩
theorem mi_X1_cost : Cond.instanceMethod yX1_cost ∈ pb_gw := pb_inW 712 (by decide +kernel) (by decide +kernel)
theorem ms_X1_cost : Cond.selects (yX1_cost).cls yX1_cost yX1_cost ∈ pb_gw := pb_inW 23 (by decide +kernel) (by decide +kernel)
theorem cl_X1_cost {α : Type} {l : Launch} {E : pb_E} {R : Room} {own : String} {cc : ByteArray} {mL : Nat} {ret : Option FieldType} {Xs : State → Prop} {nc ns : Nat} {Qf : State → Array Value → List Frame → α → pb_M → State → Prop} {pc : Nat} {L : List (Option Value)} {S : List Value} {μ : pb_M} {f : Int32 → pb_M → Option (α × pb_M)} {v1 : Int32} {v2 : Int32} {index : Nat} (q : Nat)  (hR : 0 + 1 ≤ R.frames ∧ 8 + (4 + 11) + 0 ≤ R.locals ∧ nc ≤ R.cells ∧ ns ≤ R.slots) (hW : (S.map fun v => v.category).sum ≤ 8) (hl1 : Cond.methodLink own index yX1_cost ∈ pb_gw) (hdg : decode cc pc = .ok (.invokevirtual index, 3)) (hq : pc + 3 = q) (k : ∀ b1 μ1, pb_RW l E R own cc mL ret Xs nc ns Qf q L (.int b1 :: S) μ1 (f b1 μ1)) : pb_RW l E R own cc mL ret Xs nc ns Qf pc L (.int v2 :: .int v1 :: .ref (E.2.1 15) :: S) μ (pb_b (pX1_cost v1 v2 μ) f) := pb_callV q (fun z : Int32 => some (.int z)) mc_X1_cost mi_X1_cost ms_X1_cost (fun b1 μ1 h => evX1_cost l E v1 v2  μ b1 μ1 h) rfl (by decide) rfl rfl rfl rfl hR rfl hW hl1 hdg hq k
theorem fl_X1_29 : Cond.fieldLink RX1 29 (TX1 2).1 (TX1 2).2.1 (TX1 2).2.2.1 ∈ pb_gw := pb_inW 161 (by decide +kernel) (by decide +kernel)
theorem ml_X1_69 : Cond.methodLink RX1 69 yX1_cost ∈ pb_gw := pb_inW 710 (by decide +kernel) (by decide +kernel)
def pX1_ownerRests_L2 (v1 : Int32) (v2 : Int32) : Nat → Int32 → pb_M → Option (Int32 × pb_M)
  | 0, _, _ => none
  | n + 1, v3, μ =>
    if (μ.1 15 2) < v3 then
      some ((1 : Int32), μ)
    else
    pb_b (pX1_cost v3 v2 μ) (fun b13 μ13 =>
    pb_b (pX1_cost v1 v2 μ13) (fun b19 μ19 =>
    if b19 ≤ b13 then
      pX1_ownerRests_L2 v1 v2 n (v3 + (1 : Int32)) μ19
    else
    some ((0 : Int32), μ19)))
def pX1_ownerRests (v1 : Int32) (v2 : Int32) (μ : pb_M) : Option (Int32 × pb_M) :=
  pX1_ownerRests_L2 v1 v2 pb_F (0 : Int32) μ
abbrev wX1_ownerRests (l : Launch) (E : pb_E) := pb_RW l E { frames := 1, cells := 0, slots := 0, locals := 23 } RX1 cX1_ownerRests 4 (some .boolean) (fun _ => True) 0 0 (pb_Qf E (fun z : Int32 => some (.int z)))
set_option maxRecDepth 100000 in
set_option maxHeartbeats 4000000 in
theorem tX1_ownerRests_L2 (l : Launch) (E : pb_E) (v1 : Int32) (v2 : Int32)   : ∀ (n : Nat) (v3 : Int32) (μ : pb_M), wX1_ownerRests l E 2 [some (.ref (E.2.1 15)), some (.int v1), some (.int v2), some (.int v3)] [] μ (pX1_ownerRests_L2 v1 v2 n v3 μ) := by
  intro n
  induction n with
  | zero => intro v3 μ; exact pb_none
  | succ n ih =>
    intro v3 μ
    rw [pX1_ownerRests_L2]
    refine pb_iload_n 3 dX1_ownerRests_2 rfl rfl rfl ?_
    refine pb_aload_n 4 dX1_ownerRests_3 rfl rfl rfl ?_
    refine pb_getI 7 (j := 2) in_X1 rfl (by decide) rfl rfl (by decide) fl_X1_29 dX1_ownerRests_4 rfl ?_
    refine pb_icmp_gt 10 (tgt := 33) dX1_ownerRests_7 (by decide) rfl (fun _ => ?_) (fun _ => ?_)
    · refine pb_iconst 34 (v := 1) dX1_ownerRests_33 rfl (by decide) ?_
      exact pb_zret rfl dX1_ownerRests_34
    · refine pb_aload_n 11 dX1_ownerRests_10 rfl rfl rfl ?_
      refine pb_iload_n 12 dX1_ownerRests_11 rfl rfl rfl ?_
      refine pb_iload_n 13 dX1_ownerRests_12 rfl rfl rfl ?_
      refine cl_X1_cost 16 ⟨by decide, by decide, by decide, by decide⟩ (Nat.le_of_ble_eq_true rfl) ml_X1_69 dX1_ownerRests_13 rfl (fun b13 μ13 => ?_)
      refine pb_aload_n 17 dX1_ownerRests_16 rfl rfl rfl ?_
      refine pb_iload_n 18 dX1_ownerRests_17 rfl rfl rfl ?_
      refine pb_iload_n 19 dX1_ownerRests_18 rfl rfl rfl ?_
      refine cl_X1_cost 22 ⟨by decide, by decide, by decide, by decide⟩ (Nat.le_of_ble_eq_true rfl) ml_X1_69 dX1_ownerRests_19 rfl (fun b19 μ19 => ?_)
      refine pb_icmp_ge 25 (tgt := 27) dX1_ownerRests_22 (by decide) rfl (fun _ => ?_) (fun _ => ?_)
      · refine pb_iinc 30 (i := 3) (v := (v3 + (1 : Int32))) (L' := [some (.ref (E.2.1 15)), some (.int v1), some (.int v2), some (.int (v3 + (1 : Int32)))]) dX1_ownerRests_27 rfl rfl (by decide) rfl rfl rfl ?_
        refine pb_goto (tgt := 2) dX1_ownerRests_30 (by decide) ?_
        exact ih (v3 + (1 : Int32)) μ19
      · refine pb_iconst 26 (v := 0) dX1_ownerRests_25 rfl (by decide) ?_
        exact pb_zret rfl dX1_ownerRests_26
set_option maxRecDepth 100000 in
set_option maxHeartbeats 4000000 in
theorem evX1_ownerRests (l : Launch) (E : pb_E) (v1 : Int32) (v2 : Int32)  (μ : pb_M) : ∀ b μ', pX1_ownerRests v1 v2 μ = some (b, μ') → pb_Ev l E yX1_ownerRests cX1_ownerRests 4 (some .boolean) { frames := 1, cells := 0, slots := 0, locals := 23 } [.ref (E.2.1 15), .int v1, .int v2] μ ((fun z : Int32 => some (.int z)) b) μ' := by
  refine pb_enter (L := [some (.ref (E.2.1 15)), some (.int v1), some (.int v2), none]) (by decide +kernel) (Nat.le_of_ble_eq_true rfl) (pb_same [none, none, none, none] rfl) (show wX1_ownerRests l E 0 [some (.ref (E.2.1 15)), some (.int v1), some (.int v2), none] [] μ (pX1_ownerRests v1 v2 μ) from ?_)
  unfold pX1_ownerRests
  refine pb_iconst 1 (v := 0) dX1_ownerRests_0 rfl (by decide) ?_
  refine pb_istore_n 2 (i := 3) (L' := [some (.ref (E.2.1 15)), some (.int v1), some (.int v2), some (.int (0 : Int32))]) dX1_ownerRests_1 rfl (by decide) rfl rfl rfl ?_
  exact tX1_ownerRests_L2 l E v1 v2 pb_F (0 : Int32) μ
theorem mc_X1_ownerRests : pb_MC yX1_ownerRests cX1_ownerRests 4 (some .boolean) 2 := ⟨pb_inW 709 (by decide +kernel) (by decide +kernel), pb_inW 67 (by decide +kernel) (by decide +kernel), by decide +kernel, by decide +kernel, by decide +kernel⟩
theorem mi_X1_ownerRests : Cond.instanceMethod yX1_ownerRests ∈ pb_gw := pb_inW 708 (by decide +kernel) (by decide +kernel)
theorem ms_X1_ownerRests : Cond.selects (yX1_ownerRests).cls yX1_ownerRests yX1_ownerRests ∈ pb_gw := pb_inW 22 (by decide +kernel) (by decide +kernel)
theorem cl_X1_ownerRests {α : Type} {l : Launch} {E : pb_E} {R : Room} {own : String} {cc : ByteArray} {mL : Nat} {ret : Option FieldType} {Xs : State → Prop} {nc ns : Nat} {Qf : State → Array Value → List Frame → α → pb_M → State → Prop} {pc : Nat} {L : List (Option Value)} {S : List Value} {μ : pb_M} {f : Int32 → pb_M → Option (α × pb_M)} {v1 : Int32} {v2 : Int32} {index : Nat} (q : Nat)  (hR : 1 + 1 ≤ R.frames ∧ 8 + (4 + 11) + 23 ≤ R.locals ∧ nc ≤ R.cells ∧ ns ≤ R.slots) (hW : (S.map fun v => v.category).sum ≤ 8) (hl1 : Cond.methodLink own index yX1_ownerRests ∈ pb_gw) (hdg : decode cc pc = .ok (.invokevirtual index, 3)) (hq : pc + 3 = q) (k : ∀ b1 μ1, pb_RW l E R own cc mL ret Xs nc ns Qf q L (.int b1 :: S) μ1 (f b1 μ1)) : pb_RW l E R own cc mL ret Xs nc ns Qf pc L (.int v2 :: .int v1 :: .ref (E.2.1 15) :: S) μ (pb_b (pX1_ownerRests v1 v2 μ) f) := pb_callV q (fun z : Int32 => some (.int z)) mc_X1_ownerRests mi_X1_ownerRests ms_X1_ownerRests (fun b1 μ1 h => evX1_ownerRests l E v1 v2  μ b1 μ1 h) rfl (by decide) rfl rfl rfl rfl hR rfl hW hl1 hdg hq k
theorem ml_X1_24 : Cond.methodLink RX1 24 Lib.Math.min.name ∈ pb_gw := pb_inW 696 (by decide +kernel) (by decide +kernel)
def pX1_gain (v1 : Int32) (v2 : Int32) (μ : pb_M) : Option (Int32 × pb_M) :=
  if v2 = (0 : Int32) then
    some (v1, μ)
  else
  if pb_in (v2 - (1 : Int32)) 5 then
    some (((v1 + (if ((μ.1 15 1) - v1) < (μ.1 16 ((v2 - (1 : Int32))).toNatClampNeg) then ((μ.1 15 1) - v1) else (μ.1 16 ((v2 - (1 : Int32))).toNatClampNeg))) - (1 : Int32)), μ)
  else none
abbrev wX1_gain (l : Launch) (E : pb_E) := pb_RW l E { frames := 1, cells := 0, slots := 0, locals := 14 } RX1 cX1_gain 3 (some .int) (fun _ => True) 0 0 (pb_Qf E (fun z : Int32 => some (.int z)))
set_option maxRecDepth 100000 in
set_option maxHeartbeats 4000000 in
theorem evX1_gain (l : Launch) (E : pb_E) (v1 : Int32) (v2 : Int32)  (μ : pb_M) : ∀ b μ', pX1_gain v1 v2 μ = some (b, μ') → pb_Ev l E yX1_gain cX1_gain 3 (some .int) { frames := 1, cells := 0, slots := 0, locals := 14 } [.ref (E.2.1 15), .int v1, .int v2] μ ((fun z : Int32 => some (.int z)) b) μ' := by
  refine pb_enter (L := [some (.ref (E.2.1 15)), some (.int v1), some (.int v2)]) (by decide +kernel) (Nat.le_of_ble_eq_true rfl) (pb_same [none, none, none] rfl) (show wX1_gain l E 0 [some (.ref (E.2.1 15)), some (.int v1), some (.int v2)] [] μ (pX1_gain v1 v2 μ) from ?_)
  unfold pX1_gain
  refine pb_iload_n 1 dX1_gain_0 rfl rfl rfl ?_
  refine pb_if_ne 4 (tgt := 6) dX1_gain_1 (by decide) rfl (fun _ => ?_) (fun _ => ?_)
  · refine pb_iload_n 5 dX1_gain_4 rfl rfl rfl ?_
    exact pb_iret dX1_gain_5
  · refine pb_iload_n 7 dX1_gain_6 rfl rfl rfl ?_
    refine pb_aload_n 8 dX1_gain_7 rfl rfl rfl ?_
    refine pb_getR 11 (j := 0) (d := 16) in_X1 rfl (by decide) rfl rfl (by decide) fl_X1_9 dX1_gain_8 rfl ?_
    refine pb_iload_n 12 dX1_gain_11 rfl rfl rfl ?_
    refine pb_iconst 13 (v := 1) dX1_gain_12 rfl (by decide) ?_
    refine pb_isub 14 dX1_gain_13 rfl ?_
    refine pb_guard (fun hin => pb_iald 15 rfl hin rfl dX1_gain_14 rfl ?_)
    refine pb_aload_n 16 dX1_gain_15 rfl rfl rfl ?_
    refine pb_getI 19 (j := 1) in_X1 rfl (by decide) rfl rfl (by decide) fl_X1_21 dX1_gain_16 rfl ?_
    refine pb_iload_n 20 dX1_gain_19 rfl rfl rfl ?_
    refine pb_isub 21 dX1_gain_20 rfl ?_
    refine pb_min 24 ml_X1_24 km_min1 km_2 km_min3 ⟨by decide, Nat.le_of_ble_eq_true rfl, by decide, by decide⟩ dX1_gain_21 rfl ?_
    refine pb_iadd 25 dX1_gain_24 rfl ?_
    refine pb_iconst 26 (v := 1) dX1_gain_25 rfl (by decide) ?_
    refine pb_isub 27 dX1_gain_26 rfl ?_
    exact pb_iret dX1_gain_27
theorem mc_X1_gain : pb_MC yX1_gain cX1_gain 3 (some .int) 2 := ⟨pb_inW 721 (by decide +kernel) (by decide +kernel), pb_inW 67 (by decide +kernel) (by decide +kernel), by decide +kernel, by decide +kernel, by decide +kernel⟩
theorem mi_X1_gain : Cond.instanceMethod yX1_gain ∈ pb_gw := pb_inW 720 (by decide +kernel) (by decide +kernel)
theorem ms_X1_gain : Cond.selects (yX1_gain).cls yX1_gain yX1_gain ∈ pb_gw := pb_inW 25 (by decide +kernel) (by decide +kernel)
theorem cl_X1_gain {α : Type} {l : Launch} {E : pb_E} {R : Room} {own : String} {cc : ByteArray} {mL : Nat} {ret : Option FieldType} {Xs : State → Prop} {nc ns : Nat} {Qf : State → Array Value → List Frame → α → pb_M → State → Prop} {pc : Nat} {L : List (Option Value)} {S : List Value} {μ : pb_M} {f : Int32 → pb_M → Option (α × pb_M)} {v1 : Int32} {v2 : Int32} {index : Nat} (q : Nat)  (hR : 1 + 1 ≤ R.frames ∧ 8 + (3 + 11) + 14 ≤ R.locals ∧ nc ≤ R.cells ∧ ns ≤ R.slots) (hW : (S.map fun v => v.category).sum ≤ 8) (hl1 : Cond.methodLink own index yX1_gain ∈ pb_gw) (hdg : decode cc pc = .ok (.invokevirtual index, 3)) (hq : pc + 3 = q) (k : ∀ b1 μ1, pb_RW l E R own cc mL ret Xs nc ns Qf q L (.int b1 :: S) μ1 (f b1 μ1)) : pb_RW l E R own cc mL ret Xs nc ns Qf pc L (.int v2 :: .int v1 :: .ref (E.2.1 15) :: S) μ (pb_b (pX1_gain v1 v2 μ) f) := pb_callV q (fun z : Int32 => some (.int z)) mc_X1_gain mi_X1_gain ms_X1_gain (fun b1 μ1 h => evX1_gain l E v1 v2  μ b1 μ1 h) rfl (by decide) rfl rfl rfl rfl hR rfl hW hl1 hdg hq k
theorem ml_X1_55 : Cond.methodLink RX1 55 yX1_isOpen ∈ pb_gw := pb_inW 701 (by decide +kernel) (by decide +kernel)
theorem ml_X1_72 : Cond.methodLink RX1 72 yX1_gain ∈ pb_gw := pb_inW 718 (by decide +kernel) (by decide +kernel)
def pX1_creditorRests_L2 (v1 : Int32) (v2 : Int32) : Nat → Int32 → pb_M → Option (Int32 × pb_M)
  | 0, _, _ => none
  | n + 1, v3, μ =>
    if (5 : Int32) < v3 then
      some ((1 : Int32), μ)
    else
    pb_b (pX1_isOpen v3 μ) (fun b9 μ9 =>
    if b9 = (0 : Int32) then
      pX1_creditorRests_L2 v1 v2 n (v3 + (1 : Int32)) μ9
    else
    pb_b (pX1_gain v1 v3 μ9) (fun b18 μ18 =>
    pb_b (pX1_gain v1 v2 μ18) (fun b24 μ24 =>
    if b18 ≤ b24 then
      pX1_creditorRests_L2 v1 v2 n (v3 + (1 : Int32)) μ24
    else
    some ((0 : Int32), μ24))))
def pX1_creditorRests (v1 : Int32) (v2 : Int32) (μ : pb_M) : Option (Int32 × pb_M) :=
  pX1_creditorRests_L2 v1 v2 pb_F (0 : Int32) μ
abbrev wX1_creditorRests (l : Launch) (E : pb_E) := pb_RW l E { frames := 2, cells := 0, slots := 0, locals := 42 } RX1 cX1_creditorRests 4 (some .boolean) (fun _ => True) 0 0 (pb_Qf E (fun z : Int32 => some (.int z)))
set_option maxRecDepth 100000 in
set_option maxHeartbeats 4000000 in
theorem tX1_creditorRests_L2 (l : Launch) (E : pb_E) (v1 : Int32) (v2 : Int32)   : ∀ (n : Nat) (v3 : Int32) (μ : pb_M), wX1_creditorRests l E 2 [some (.ref (E.2.1 15)), some (.int v1), some (.int v2), some (.int v3)] [] μ (pX1_creditorRests_L2 v1 v2 n v3 μ) := by
  intro n
  induction n with
  | zero => intro v3 μ; exact pb_none
  | succ n ih =>
    intro v3 μ
    rw [pX1_creditorRests_L2]
    refine pb_iload_n 3 dX1_creditorRests_2 rfl rfl rfl ?_
    refine pb_iconst 4 (v := 5) dX1_creditorRests_3 rfl (by decide) ?_
    refine pb_icmp_gt 7 (tgt := 38) dX1_creditorRests_4 (by decide) rfl (fun _ => ?_) (fun _ => ?_)
    · refine pb_iconst 39 (v := 1) dX1_creditorRests_38 rfl (by decide) ?_
      exact pb_zret rfl dX1_creditorRests_39
    · refine pb_aload_n 8 dX1_creditorRests_7 rfl rfl rfl ?_
      refine pb_iload_n 9 dX1_creditorRests_8 rfl rfl rfl ?_
      refine cl_X1_isOpen 12 ⟨by decide, by decide, by decide, by decide⟩ (Nat.le_of_ble_eq_true rfl) ml_X1_55 dX1_creditorRests_9 rfl (fun b9 μ9 => ?_)
      refine pb_if_eq 15 (tgt := 32) dX1_creditorRests_12 (by decide) rfl (fun _ => ?_) (fun _ => ?_)
      · refine pb_iinc 35 (i := 3) (v := (v3 + (1 : Int32))) (L' := [some (.ref (E.2.1 15)), some (.int v1), some (.int v2), some (.int (v3 + (1 : Int32)))]) dX1_creditorRests_32 rfl rfl (by decide) rfl rfl rfl ?_
        refine pb_goto (tgt := 2) dX1_creditorRests_35 (by decide) ?_
        exact ih (v3 + (1 : Int32)) μ9
      · refine pb_aload_n 16 dX1_creditorRests_15 rfl rfl rfl ?_
        refine pb_iload_n 17 dX1_creditorRests_16 rfl rfl rfl ?_
        refine pb_iload_n 18 dX1_creditorRests_17 rfl rfl rfl ?_
        refine cl_X1_gain 21 ⟨by decide, by decide, by decide, by decide⟩ (Nat.le_of_ble_eq_true rfl) ml_X1_72 dX1_creditorRests_18 rfl (fun b18 μ18 => ?_)
        refine pb_aload_n 22 dX1_creditorRests_21 rfl rfl rfl ?_
        refine pb_iload_n 23 dX1_creditorRests_22 rfl rfl rfl ?_
        refine pb_iload_n 24 dX1_creditorRests_23 rfl rfl rfl ?_
        refine cl_X1_gain 27 ⟨by decide, by decide, by decide, by decide⟩ (Nat.le_of_ble_eq_true rfl) ml_X1_72 dX1_creditorRests_24 rfl (fun b24 μ24 => ?_)
        refine pb_icmp_le 30 (tgt := 32) dX1_creditorRests_27 (by decide) rfl (fun _ => ?_) (fun _ => ?_)
        · refine pb_iinc 35 (i := 3) (v := (v3 + (1 : Int32))) (L' := [some (.ref (E.2.1 15)), some (.int v1), some (.int v2), some (.int (v3 + (1 : Int32)))]) dX1_creditorRests_32 rfl rfl (by decide) rfl rfl rfl ?_
          refine pb_goto (tgt := 2) dX1_creditorRests_35 (by decide) ?_
          exact ih (v3 + (1 : Int32)) μ24
        · refine pb_iconst 31 (v := 0) dX1_creditorRests_30 rfl (by decide) ?_
          exact pb_zret rfl dX1_creditorRests_31
set_option maxRecDepth 100000 in
set_option maxHeartbeats 4000000 in
theorem evX1_creditorRests (l : Launch) (E : pb_E) (v1 : Int32) (v2 : Int32)  (μ : pb_M) : ∀ b μ', pX1_creditorRests v1 v2 μ = some (b, μ') → pb_Ev l E yX1_creditorRests cX1_creditorRests 4 (some .boolean) { frames := 2, cells := 0, slots := 0, locals := 42 } [.ref (E.2.1 15), .int v1, .int v2] μ ((fun z : Int32 => some (.int z)) b) μ' := by
  refine pb_enter (L := [some (.ref (E.2.1 15)), some (.int v1), some (.int v2), none]) (by decide +kernel) (Nat.le_of_ble_eq_true rfl) (pb_same [none, none, none, none] rfl) (show wX1_creditorRests l E 0 [some (.ref (E.2.1 15)), some (.int v1), some (.int v2), none] [] μ (pX1_creditorRests v1 v2 μ) from ?_)
  unfold pX1_creditorRests
  refine pb_iconst 1 (v := 0) dX1_creditorRests_0 rfl (by decide) ?_
  refine pb_istore_n 2 (i := 3) (L' := [some (.ref (E.2.1 15)), some (.int v1), some (.int v2), some (.int (0 : Int32))]) dX1_creditorRests_1 rfl (by decide) rfl rfl rfl ?_
  exact tX1_creditorRests_L2 l E v1 v2 pb_F (0 : Int32) μ
theorem mc_X1_creditorRests : pb_MC yX1_creditorRests cX1_creditorRests 4 (some .boolean) 2 := ⟨pb_inW 717 (by decide +kernel) (by decide +kernel), pb_inW 67 (by decide +kernel) (by decide +kernel), by decide +kernel, by decide +kernel, by decide +kernel⟩
theorem mi_X1_creditorRests : Cond.instanceMethod yX1_creditorRests ∈ pb_gw := pb_inW 716 (by decide +kernel) (by decide +kernel)
theorem ms_X1_creditorRests : Cond.selects (yX1_creditorRests).cls yX1_creditorRests yX1_creditorRests ∈ pb_gw := pb_inW 24 (by decide +kernel) (by decide +kernel)
theorem cl_X1_creditorRests {α : Type} {l : Launch} {E : pb_E} {R : Room} {own : String} {cc : ByteArray} {mL : Nat} {ret : Option FieldType} {Xs : State → Prop} {nc ns : Nat} {Qf : State → Array Value → List Frame → α → pb_M → State → Prop} {pc : Nat} {L : List (Option Value)} {S : List Value} {μ : pb_M} {f : Int32 → pb_M → Option (α × pb_M)} {v1 : Int32} {v2 : Int32} {index : Nat} (q : Nat)  (hR : 2 + 1 ≤ R.frames ∧ 8 + (4 + 11) + 42 ≤ R.locals ∧ nc ≤ R.cells ∧ ns ≤ R.slots) (hW : (S.map fun v => v.category).sum ≤ 8) (hl1 : Cond.methodLink own index yX1_creditorRests ∈ pb_gw) (hdg : decode cc pc = .ok (.invokevirtual index, 3)) (hq : pc + 3 = q) (k : ∀ b1 μ1, pb_RW l E R own cc mL ret Xs nc ns Qf q L (.int b1 :: S) μ1 (f b1 μ1)) : pb_RW l E R own cc mL ret Xs nc ns Qf pc L (.int v2 :: .int v1 :: .ref (E.2.1 15) :: S) μ (pb_b (pX1_creditorRests v1 v2 μ) f) := pb_callV q (fun z : Int32 => some (.int z)) mc_X1_creditorRests mi_X1_creditorRests ms_X1_creditorRests (fun b1 μ1 h => evX1_creditorRests l E v1 v2  μ b1 μ1 h) rfl (by decide) rfl rfl rfl rfl hR rfl hW hl1 hdg hq k
theorem fl_X1_49 : Cond.fieldLink RX1 49 (TX1 4).1 (TX1 4).2.1 (TX1 4).2.2.1 ∈ pb_gw := pb_inW 163 (by decide +kernel) (by decide +kernel)
theorem fl_X1_52 : Cond.fieldLink RX1 52 (TX1 5).1 (TX1 5).2.1 (TX1 5).2.2.1 ∈ pb_gw := pb_inW 164 (by decide +kernel) (by decide +kernel)
theorem ml_X1_15 : Cond.methodLink RX1 15 yX5_debt ∈ pb_gw := pb_inW 695 (by decide +kernel) (by decide +kernel)
theorem ml_X1_32 : Cond.methodLink RX1 32 yX5_takableBy ∈ pb_gw := pb_inW 697 (by decide +kernel) (by decide +kernel)
theorem ml_X1_36 : Cond.methodLink RX1 36 yX5_beastsOf ∈ pb_gw := pb_inW 698 (by decide +kernel) (by decide +kernel)
theorem ml_X1_42 : Cond.methodLink RX1 42 yX5_beasts ∈ pb_gw := pb_inW 699 (by decide +kernel) (by decide +kernel)
theorem ml_X1_46 : Cond.methodLink RX1 46 yX5_worthOf ∈ pb_gw := pb_inW 700 (by decide +kernel) (by decide +kernel)
theorem ml_X1_59 : Cond.methodLink RX1 59 yX1_ownerRests ∈ pb_gw := pb_inW 706 (by decide +kernel) (by decide +kernel)
theorem ml_X1_63 : Cond.methodLink RX1 63 yX1_creditorRests ∈ pb_gw := pb_inW 714 (by decide +kernel) (by decide +kernel)
def pX1_settle_L40 (h1 : Nat) (K68 : pb_M → Option (Unit × pb_M)) : Nat → Int32 → pb_M → Option (Unit × pb_M)
  | 0, _, _ => none
  | n + 1, v4, μ =>
    pb_b (pX5_beasts h1 μ) (fun b43 μ43 =>
    if b43 ≤ v4 then
      K68 μ43
    else
    pb_b (pX5_worthOf h1 v4 μ43) (fun b58 μ58 =>
    if pb_in v4 5 then
      pX1_settle_L40 h1 K68 n (v4 + (1 : Int32)) (pb_sA μ58 16 (upd (μ58.1 16) (v4).toNatClampNeg b58))
    else none))
def pX1_settle_L94 (h1 : Nat) (v4 : Int32) (K173 : pb_M → Option (Unit × pb_M)) : Nat → Int32 → pb_M → Option (Unit × pb_M)
  | 0, _, _ => none
  | n + 1, v5, μ =>
    if (5 : Int32) < v5 then
      K173 μ
    else
    pb_b (pX1_isOpen v5 μ) (fun b103 μ103 =>
    if b103 = (0 : Int32) then
      pX1_settle_L94 h1 v4 K173 n (v5 + (1 : Int32)) μ103
    else
    pb_b (pX1_ownerRests v4 v5 μ103) (fun b114 μ114 =>
    if b114 = (0 : Int32) then
      pX1_settle_L94 h1 v4 K173 n (v5 + (1 : Int32)) μ114
    else
    pb_b (pX1_creditorRests v4 v5 μ114) (fun b125 μ125 =>
    if b125 = (0 : Int32) then
      pX1_settle_L94 h1 v4 K173 n (v5 + (1 : Int32)) μ125
    else
    if (μ125.1 15 4) = (0 : Int32) then
      pX1_settle_L94 h1 v4 K173 n (v5 + (1 : Int32)) (pb_sA (pb_sA μ125 15 (upd (μ125.1 15) 5 (((10 : Int32) * v4) + v5))) 15 (upd ((pb_sA μ125 15 (upd (μ125.1 15) 5 (((10 : Int32) * v4) + v5))).1 15) 4 (((pb_sA μ125 15 (upd (μ125.1 15) 5 (((10 : Int32) * v4) + v5))).1 15 4) + (1 : Int32))))
    else
    pX1_settle_L94 h1 v4 K173 n (v5 + (1 : Int32)) (pb_sA (pb_sA μ125 15 (upd (μ125.1 15) 5 (μ125.1 15 5))) 15 (upd ((pb_sA μ125 15 (upd (μ125.1 15) 5 (μ125.1 15 5))).1 15) 4 (((pb_sA μ125 15 (upd (μ125.1 15) 5 (μ125.1 15 5))).1 15 4) + (1 : Int32)))))))
def pX1_settle_L82 (h1 : Nat) : Nat → Int32 → pb_M → Option (Unit × pb_M)
  | 0, _, _ => none
  | n + 1, v4, μ =>
    if (μ.1 15 2) < v4 then
      some ((), μ)
    else
    pX1_settle_L94 h1 v4 (fun μk173 =>
      pX1_settle_L82 h1 n (v4 + (1 : Int32)) μk173) pb_F (0 : Int32) μ
def pX1_settle (h1 : Nat) (v2 : Int32) (v3 : Int32) (μ : pb_M) : Option (Unit × pb_M) :=
  pb_b (pX5_debt h1 v2 v3 μ) (fun b4 μ4 =>
  pb_b (pX5_takableBy h1 v3 (pb_sA (pb_sA μ4 15 (upd (μ4.1 15) 1 b4)) 15 (upd ((pb_sA μ4 15 (upd (μ4.1 15) 1 b4)).1 15) 2 (if ((pb_sA μ4 15 (upd (μ4.1 15) 1 b4)).1 15 1) < (3 : Int32) then ((pb_sA μ4 15 (upd (μ4.1 15) 1 b4)).1 15 1) else (3 : Int32))))) (fun b25 μ25 =>
  pb_b (pX5_beastsOf h1 v2 μ25) (fun b30 μ30 =>
  pX1_settle_L40 h1 (fun μk68 =>
    pX1_settle_L82 h1 pb_F (0 : Int32) (pb_sA (pb_sA μk68 15 (upd (μk68.1 15) 4 (0 : Int32))) 15 (upd ((pb_sA μk68 15 (upd (μk68.1 15) 4 (0 : Int32))).1 15) 5 (-9 : Int32)))) pb_F (0 : Int32) (pb_sA μ30 15 (upd (μ30.1 15) 3 (b25 &&& b30))))))
abbrev wX1_settle (l : Launch) (E : pb_E) := pb_RW l E { frames := 4, cells := 0, slots := 0, locals := 88 } RX1 cX1_settle 6 none (fun _ => True) 0 0 (pb_Qf E (fun _ : Unit => none))
set_option maxRecDepth 100000 in
set_option maxHeartbeats 4000000 in
theorem tX1_settle_L40 (l : Launch) (E : pb_E) (h1 : Nat) (hv1 : pb_V h1) {K68 : pb_M → Option (Unit × pb_M)} (hK68 : ∀  (μ : pb_M), wX1_settle l E 68 [some (.ref (E.2.1 15)), some (.ref (E.2.1 h1)), none, none, none, none] [] μ (K68  μ)) : ∀ (n : Nat) (v4 : Int32) (μ : pb_M), wX1_settle l E 40 [some (.ref (E.2.1 15)), some (.ref (E.2.1 h1)), none, none, some (.int v4), none] [] μ (pX1_settle_L40 h1 K68 n v4 μ) := by
  intro n
  induction n with
  | zero => intro v4 μ; exact pb_none
  | succ n ih =>
    intro v4 μ
    rw [pX1_settle_L40]
    refine pb_iload 42 dX1_settle_40 rfl rfl ?_
    refine pb_aload_n 43 dX1_settle_42 rfl rfl rfl ?_
    refine cl_X5_beasts 46 hv1 ⟨by decide, by decide, by decide, by decide⟩ (Nat.le_of_ble_eq_true rfl) ml_X1_42 dX1_settle_43 rfl (fun b43 μ43 => ?_)
    refine pb_icmp_ge 49 (tgt := 68) dX1_settle_46 (by decide) rfl (fun _ => ?_) (fun _ => ?_)
    · refine pb_weakM (L' := [some (.ref (E.2.1 15)), some (.ref (E.2.1 h1)), none, none, none, none]) [true, true, false, false, false, false] rfl ?_
      exact hK68 μ43
    · refine pb_aload_n 50 dX1_settle_49 rfl rfl rfl ?_
      refine pb_getR 53 (j := 0) (d := 16) in_X1 rfl (by decide) rfl rfl (by decide) fl_X1_9 dX1_settle_50 rfl ?_
      refine pb_iload 55 dX1_settle_53 rfl rfl ?_
      refine pb_aload_n 56 dX1_settle_55 rfl rfl rfl ?_
      refine pb_iload 58 dX1_settle_56 rfl rfl ?_
      refine cl_X5_worthOf 61 hv1 ⟨by decide, by decide, by decide, by decide⟩ (Nat.le_of_ble_eq_true rfl) ml_X1_46 dX1_settle_58 rfl (fun b58 μ58 => ?_)
      refine pb_guard (fun hin => pb_iast 62 rfl hin rfl dX1_settle_61 rfl ?_)
      refine pb_iinc 65 (i := 4) (v := (v4 + (1 : Int32))) (L' := [some (.ref (E.2.1 15)), some (.ref (E.2.1 h1)), none, none, some (.int (v4 + (1 : Int32))), none]) dX1_settle_62 rfl rfl (by decide) rfl rfl rfl ?_
      refine pb_goto (tgt := 40) dX1_settle_65 (by decide) ?_
      exact ih (v4 + (1 : Int32)) (pb_sA μ58 16 (upd (μ58.1 16) (v4).toNatClampNeg b58))
set_option maxRecDepth 100000 in
set_option maxHeartbeats 4000000 in
theorem tX1_settle_L94 (l : Launch) (E : pb_E) (h1 : Nat) (hv1 : pb_V h1) (v4 : Int32) {K173 : pb_M → Option (Unit × pb_M)} (hK173 : ∀  (μ : pb_M), wX1_settle l E 173 [some (.ref (E.2.1 15)), some (.ref (E.2.1 h1)), none, none, some (.int v4), none] [] μ (K173  μ)) : ∀ (n : Nat) (v5 : Int32) (μ : pb_M), wX1_settle l E 94 [some (.ref (E.2.1 15)), some (.ref (E.2.1 h1)), none, none, some (.int v4), some (.int v5)] [] μ (pX1_settle_L94 h1 v4 K173 n v5 μ) := by
  intro n
  induction n with
  | zero => intro v5 μ; exact pb_none
  | succ n ih =>
    intro v5 μ
    rw [pX1_settle_L94]
    refine pb_iload 96 dX1_settle_94 rfl rfl ?_
    refine pb_iconst 97 (v := 5) dX1_settle_96 rfl (by decide) ?_
    refine pb_icmp_gt 100 (tgt := 173) dX1_settle_97 (by decide) rfl (fun _ => ?_) (fun _ => ?_)
    · refine pb_weakM (L' := [some (.ref (E.2.1 15)), some (.ref (E.2.1 h1)), none, none, some (.int v4), none]) [true, true, false, false, true, false] rfl ?_
      exact hK173 μ
    · refine pb_aload_n 101 dX1_settle_100 rfl rfl rfl ?_
      refine pb_iload 103 dX1_settle_101 rfl rfl ?_
      refine cl_X1_isOpen 106 ⟨by decide, by decide, by decide, by decide⟩ (Nat.le_of_ble_eq_true rfl) ml_X1_55 dX1_settle_103 rfl (fun b103 μ103 => ?_)
      refine pb_if_eq 109 (tgt := 167) dX1_settle_106 (by decide) rfl (fun _ => ?_) (fun _ => ?_)
      · refine pb_iinc 170 (i := 5) (v := (v5 + (1 : Int32))) (L' := [some (.ref (E.2.1 15)), some (.ref (E.2.1 h1)), none, none, some (.int v4), some (.int (v5 + (1 : Int32)))]) dX1_settle_167 rfl rfl (by decide) rfl rfl rfl ?_
        refine pb_goto (tgt := 94) dX1_settle_170 (by decide) ?_
        exact ih (v5 + (1 : Int32)) μ103
      · refine pb_aload_n 110 dX1_settle_109 rfl rfl rfl ?_
        refine pb_iload 112 dX1_settle_110 rfl rfl ?_
        refine pb_iload 114 dX1_settle_112 rfl rfl ?_
        refine cl_X1_ownerRests 117 ⟨by decide, by decide, by decide, by decide⟩ (Nat.le_of_ble_eq_true rfl) ml_X1_59 dX1_settle_114 rfl (fun b114 μ114 => ?_)
        refine pb_if_eq 120 (tgt := 167) dX1_settle_117 (by decide) rfl (fun _ => ?_) (fun _ => ?_)
        · refine pb_iinc 170 (i := 5) (v := (v5 + (1 : Int32))) (L' := [some (.ref (E.2.1 15)), some (.ref (E.2.1 h1)), none, none, some (.int v4), some (.int (v5 + (1 : Int32)))]) dX1_settle_167 rfl rfl (by decide) rfl rfl rfl ?_
          refine pb_goto (tgt := 94) dX1_settle_170 (by decide) ?_
          exact ih (v5 + (1 : Int32)) μ114
        · refine pb_aload_n 121 dX1_settle_120 rfl rfl rfl ?_
          refine pb_iload 123 dX1_settle_121 rfl rfl ?_
          refine pb_iload 125 dX1_settle_123 rfl rfl ?_
          refine cl_X1_creditorRests 128 ⟨by decide, by decide, by decide, by decide⟩ (Nat.le_of_ble_eq_true rfl) ml_X1_63 dX1_settle_125 rfl (fun b125 μ125 => ?_)
          refine pb_if_eq 131 (tgt := 167) dX1_settle_128 (by decide) rfl (fun _ => ?_) (fun _ => ?_)
          · refine pb_iinc 170 (i := 5) (v := (v5 + (1 : Int32))) (L' := [some (.ref (E.2.1 15)), some (.ref (E.2.1 h1)), none, none, some (.int v4), some (.int (v5 + (1 : Int32)))]) dX1_settle_167 rfl rfl (by decide) rfl rfl rfl ?_
            refine pb_goto (tgt := 94) dX1_settle_170 (by decide) ?_
            exact ih (v5 + (1 : Int32)) μ125
          · refine pb_aload_n 132 dX1_settle_131 rfl rfl rfl ?_
            refine pb_aload_n 133 dX1_settle_132 rfl rfl rfl ?_
            refine pb_getI 136 (j := 4) in_X1 rfl (by decide) rfl rfl (by decide) fl_X1_49 dX1_settle_133 rfl ?_
            refine pb_if_ne 139 (tgt := 150) dX1_settle_136 (by decide) rfl (fun _ => ?_) (fun _ => ?_)
            · refine pb_bipush 141 (v := 10) dX1_settle_139 rfl (by decide) ?_
              refine pb_iload 143 dX1_settle_141 rfl rfl ?_
              refine pb_imul 144 dX1_settle_143 rfl ?_
              refine pb_iload 146 dX1_settle_144 rfl rfl ?_
              refine pb_iadd 147 dX1_settle_146 rfl ?_
              refine pb_goto (tgt := 154) dX1_settle_147 (by decide) ?_
              refine pb_putI 157 (j := 5) tyX1 tyX1_ok nmX1 in_X1 rfl (by decide) rfl rfl (by decide) fl_X1_52 rfl (by decide +kernel) dX1_settle_154 rfl ?_
              refine pb_aload_n 158 dX1_settle_157 rfl rfl rfl ?_
              refine pb_dup 159 dX1_settle_158 rfl rfl ?_
              refine pb_getI 162 (j := 4) in_X1 rfl (by decide) rfl rfl (by decide) fl_X1_49 dX1_settle_159 rfl ?_
              refine pb_iconst 163 (v := 1) dX1_settle_162 rfl (by decide) ?_
              refine pb_iadd 164 dX1_settle_163 rfl ?_
              refine pb_putI 167 (j := 4) tyX1 tyX1_ok nmX1 in_X1 rfl (by decide) rfl rfl (by decide) fl_X1_49 rfl (by decide +kernel) dX1_settle_164 rfl ?_
              refine pb_iinc 170 (i := 5) (v := (v5 + (1 : Int32))) (L' := [some (.ref (E.2.1 15)), some (.ref (E.2.1 h1)), none, none, some (.int v4), some (.int (v5 + (1 : Int32)))]) dX1_settle_167 rfl rfl (by decide) rfl rfl rfl ?_
              refine pb_goto (tgt := 94) dX1_settle_170 (by decide) ?_
              exact ih (v5 + (1 : Int32)) (pb_sA (pb_sA μ125 15 (upd (μ125.1 15) 5 (((10 : Int32) * v4) + v5))) 15 (upd ((pb_sA μ125 15 (upd (μ125.1 15) 5 (((10 : Int32) * v4) + v5))).1 15) 4 (((pb_sA μ125 15 (upd (μ125.1 15) 5 (((10 : Int32) * v4) + v5))).1 15 4) + (1 : Int32))))
            · refine pb_aload_n 151 dX1_settle_150 rfl rfl rfl ?_
              refine pb_getI 154 (j := 5) in_X1 rfl (by decide) rfl rfl (by decide) fl_X1_52 dX1_settle_151 rfl ?_
              refine pb_putI 157 (j := 5) tyX1 tyX1_ok nmX1 in_X1 rfl (by decide) rfl rfl (by decide) fl_X1_52 rfl (by decide +kernel) dX1_settle_154 rfl ?_
              refine pb_aload_n 158 dX1_settle_157 rfl rfl rfl ?_
              refine pb_dup 159 dX1_settle_158 rfl rfl ?_
              refine pb_getI 162 (j := 4) in_X1 rfl (by decide) rfl rfl (by decide) fl_X1_49 dX1_settle_159 rfl ?_
              refine pb_iconst 163 (v := 1) dX1_settle_162 rfl (by decide) ?_
              refine pb_iadd 164 dX1_settle_163 rfl ?_
              refine pb_putI 167 (j := 4) tyX1 tyX1_ok nmX1 in_X1 rfl (by decide) rfl rfl (by decide) fl_X1_49 rfl (by decide +kernel) dX1_settle_164 rfl ?_
              refine pb_iinc 170 (i := 5) (v := (v5 + (1 : Int32))) (L' := [some (.ref (E.2.1 15)), some (.ref (E.2.1 h1)), none, none, some (.int v4), some (.int (v5 + (1 : Int32)))]) dX1_settle_167 rfl rfl (by decide) rfl rfl rfl ?_
              refine pb_goto (tgt := 94) dX1_settle_170 (by decide) ?_
              exact ih (v5 + (1 : Int32)) (pb_sA (pb_sA μ125 15 (upd (μ125.1 15) 5 (μ125.1 15 5))) 15 (upd ((pb_sA μ125 15 (upd (μ125.1 15) 5 (μ125.1 15 5))).1 15) 4 (((pb_sA μ125 15 (upd (μ125.1 15) 5 (μ125.1 15 5))).1 15 4) + (1 : Int32))))
set_option maxRecDepth 100000 in
set_option maxHeartbeats 4000000 in
theorem tX1_settle_L82 (l : Launch) (E : pb_E) (h1 : Nat) (hv1 : pb_V h1)   : ∀ (n : Nat) (v4 : Int32) (μ : pb_M), wX1_settle l E 82 [some (.ref (E.2.1 15)), some (.ref (E.2.1 h1)), none, none, some (.int v4), none] [] μ (pX1_settle_L82 h1 n v4 μ) := by
  intro n
  induction n with
  | zero => intro v4 μ; exact pb_none
  | succ n ih =>
    intro v4 μ
    rw [pX1_settle_L82]
    refine pb_iload 84 dX1_settle_82 rfl rfl ?_
    refine pb_aload_n 85 dX1_settle_84 rfl rfl rfl ?_
    refine pb_getI 88 (j := 2) in_X1 rfl (by decide) rfl rfl (by decide) fl_X1_29 dX1_settle_85 rfl ?_
    refine pb_icmp_gt 91 (tgt := 179) dX1_settle_88 (by decide) rfl (fun _ => ?_) (fun _ => ?_)
    · exact pb_vret dX1_settle_179
    · refine pb_iconst 92 (v := 0) dX1_settle_91 rfl (by decide) ?_
      refine pb_istore 94 (i := 5) (L' := [some (.ref (E.2.1 15)), some (.ref (E.2.1 h1)), none, none, some (.int v4), some (.int (0 : Int32))]) dX1_settle_92 (by decide) rfl rfl rfl ?_
      refine tX1_settle_L94 l E h1 hv1 v4 (fun μk173 => ?_) pb_F (0 : Int32) μ
      refine pb_iinc 176 (i := 4) (v := (v4 + (1 : Int32))) (L' := [some (.ref (E.2.1 15)), some (.ref (E.2.1 h1)), none, none, some (.int (v4 + (1 : Int32))), none]) dX1_settle_173 rfl rfl (by decide) rfl rfl rfl ?_
      refine pb_goto (tgt := 82) dX1_settle_176 (by decide) ?_
      exact ih (v4 + (1 : Int32)) μk173
set_option maxRecDepth 100000 in
set_option maxHeartbeats 4000000 in
theorem evX1_settle (l : Launch) (E : pb_E) (h1 : Nat) (v2 : Int32) (v3 : Int32) (hv1 : pb_V h1) (μ : pb_M) : ∀ b μ', pX1_settle h1 v2 v3 μ = some (b, μ') → pb_Ev l E yX1_settle cX1_settle 6 none { frames := 4, cells := 0, slots := 0, locals := 88 } [.ref (E.2.1 15), .ref (E.2.1 h1), .int v2, .int v3] μ ((fun _ : Unit => none) b) μ' := by
  refine pb_enter (L := [some (.ref (E.2.1 15)), some (.ref (E.2.1 h1)), some (.int v2), some (.int v3), none, none]) (by decide +kernel) (Nat.le_of_ble_eq_true rfl) (pb_same [none, none, none, none, none, none] rfl) (show wX1_settle l E 0 [some (.ref (E.2.1 15)), some (.ref (E.2.1 h1)), some (.int v2), some (.int v3), none, none] [] μ (pX1_settle h1 v2 v3 μ) from ?_)
  unfold pX1_settle
  refine pb_aload_n 1 dX1_settle_0 rfl rfl rfl ?_
  refine pb_aload_n 2 dX1_settle_1 rfl rfl rfl ?_
  refine pb_iload_n 3 dX1_settle_2 rfl rfl rfl ?_
  refine pb_iload_n 4 dX1_settle_3 rfl rfl rfl ?_
  refine cl_X5_debt 7 hv1 ⟨by decide, by decide, by decide, by decide⟩ (Nat.le_of_ble_eq_true rfl) ml_X1_15 dX1_settle_4 rfl (fun b4 μ4 => ?_)
  refine pb_putI 10 (j := 1) tyX1 tyX1_ok nmX1 in_X1 rfl (by decide) rfl rfl (by decide) fl_X1_21 rfl (by decide +kernel) dX1_settle_7 rfl ?_
  refine pb_aload_n 11 dX1_settle_10 rfl rfl rfl ?_
  refine pb_iconst 12 (v := 3) dX1_settle_11 rfl (by decide) ?_
  refine pb_aload_n 13 dX1_settle_12 rfl rfl rfl ?_
  refine pb_getI 16 (j := 1) in_X1 rfl (by decide) rfl rfl (by decide) fl_X1_21 dX1_settle_13 rfl ?_
  refine pb_min 19 ml_X1_24 km_min1 km_2 km_min3 ⟨by decide, Nat.le_of_ble_eq_true rfl, by decide, by decide⟩ dX1_settle_16 rfl ?_
  refine pb_putI 22 (j := 2) tyX1 tyX1_ok nmX1 in_X1 rfl (by decide) rfl rfl (by decide) fl_X1_29 rfl (by decide +kernel) dX1_settle_19 rfl ?_
  refine pb_aload_n 23 dX1_settle_22 rfl rfl rfl ?_
  refine pb_aload_n 24 dX1_settle_23 rfl rfl rfl ?_
  refine pb_iload_n 25 dX1_settle_24 rfl rfl rfl ?_
  refine cl_X5_takableBy 28 hv1 ⟨by decide, by decide, by decide, by decide⟩ (Nat.le_of_ble_eq_true rfl) ml_X1_32 dX1_settle_25 rfl (fun b25 μ25 => ?_)
  refine pb_aload_n 29 dX1_settle_28 rfl rfl rfl ?_
  refine pb_iload_n 30 dX1_settle_29 rfl rfl rfl ?_
  refine cl_X5_beastsOf 33 hv1 ⟨by decide, by decide, by decide, by decide⟩ (Nat.le_of_ble_eq_true rfl) ml_X1_36 dX1_settle_30 rfl (fun b30 μ30 => ?_)
  refine pb_iand 34 dX1_settle_33 rfl ?_
  refine pb_putI 37 (j := 3) tyX1 tyX1_ok nmX1 in_X1 rfl (by decide) rfl rfl (by decide) fl_X1_39 rfl (by decide +kernel) dX1_settle_34 rfl ?_
  refine pb_iconst 38 (v := 0) dX1_settle_37 rfl (by decide) ?_
  refine pb_istore 40 (i := 4) (L' := [some (.ref (E.2.1 15)), some (.ref (E.2.1 h1)), some (.int v2), some (.int v3), some (.int (0 : Int32)), none]) dX1_settle_38 (by decide) rfl rfl rfl ?_
  refine pb_weakM (L' := [some (.ref (E.2.1 15)), some (.ref (E.2.1 h1)), none, none, some (.int (0 : Int32)), none]) [true, true, false, false, true, false] rfl ?_
  refine tX1_settle_L40 l E h1 hv1 (fun μk68 => ?_) pb_F (0 : Int32) (pb_sA μ30 15 (upd (μ30.1 15) 3 (b25 &&& b30)))
  refine pb_aload_n 69 dX1_settle_68 rfl rfl rfl ?_
  refine pb_iconst 70 (v := 0) dX1_settle_69 rfl (by decide) ?_
  refine pb_putI 73 (j := 4) tyX1 tyX1_ok nmX1 in_X1 rfl (by decide) rfl rfl (by decide) fl_X1_49 rfl (by decide +kernel) dX1_settle_70 rfl ?_
  refine pb_aload_n 74 dX1_settle_73 rfl rfl rfl ?_
  refine pb_bipush 76 (v := -9) dX1_settle_74 rfl (by decide) ?_
  refine pb_putI 79 (j := 5) tyX1 tyX1_ok nmX1 in_X1 rfl (by decide) rfl rfl (by decide) fl_X1_52 rfl (by decide +kernel) dX1_settle_76 rfl ?_
  refine pb_iconst 80 (v := 0) dX1_settle_79 rfl (by decide) ?_
  refine pb_istore 82 (i := 4) (L' := [some (.ref (E.2.1 15)), some (.ref (E.2.1 h1)), none, none, some (.int (0 : Int32)), none]) dX1_settle_80 (by decide) rfl rfl rfl ?_
  exact tX1_settle_L82 l E h1 hv1 pb_F (0 : Int32) (pb_sA (pb_sA μk68 15 (upd (μk68.1 15) 4 (0 : Int32))) 15 (upd ((pb_sA μk68 15 (upd (μk68.1 15) 4 (0 : Int32))).1 15) 5 (-9 : Int32)))
theorem mc_X1_settle : pb_MC yX1_settle cX1_settle 6 none 3 := ⟨pb_inW 694 (by decide +kernel) (by decide +kernel), pb_inW 67 (by decide +kernel) (by decide +kernel), by decide +kernel, by decide +kernel, by decide +kernel⟩
theorem mi_X1_settle : Cond.instanceMethod yX1_settle ∈ pb_gw := pb_inW 692 (by decide +kernel) (by decide +kernel)
theorem ms_X1_settle : Cond.selects (yX1_settle).cls yX1_settle yX1_settle ∈ pb_gw := pb_inW 693 (by decide +kernel) (by decide +kernel)
theorem cl_X1_settle {α : Type} {l : Launch} {E : pb_E} {R : Room} {own : String} {cc : ByteArray} {mL : Nat} {ret : Option FieldType} {Xs : State → Prop} {nc ns : Nat} {Qf : State → Array Value → List Frame → α → pb_M → State → Prop} {pc : Nat} {L : List (Option Value)} {S : List Value} {μ : pb_M} {f : Unit → pb_M → Option (α × pb_M)} {h1 : Nat} {v2 : Int32} {v3 : Int32} {index : Nat} (q : Nat) (hv1 : pb_V h1) (hR : 4 + 1 ≤ R.frames ∧ 8 + (6 + 11) + 88 ≤ R.locals ∧ nc ≤ R.cells ∧ ns ≤ R.slots) (hW : (S.map fun v => v.category).sum ≤ 8) (hl1 : Cond.methodLink own index yX1_settle ∈ pb_gw) (hdg : decode cc pc = .ok (.invokevirtual index, 3)) (hq : pc + 3 = q) (k : ∀ b1 μ1, pb_RW l E R own cc mL ret Xs nc ns Qf q L S μ1 (f b1 μ1)) : pb_RW l E R own cc mL ret Xs nc ns Qf pc L (.int v3 :: .int v2 :: .ref (E.2.1 h1) :: .ref (E.2.1 15) :: S) μ (pb_b (pX1_settle h1 v2 v3 μ) f) := pb_callV q (fun _ : Unit => none) mc_X1_settle mi_X1_settle ms_X1_settle (fun b1 μ1 h => evX1_settle l E h1 v2 v3 hv1 μ b1 μ1 h) rfl (by decide) rfl rfl rfl rfl hR rfl hW hl1 hdg hq k
