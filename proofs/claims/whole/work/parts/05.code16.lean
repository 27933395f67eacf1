def pX7_layTrial_L2  : Nat → Int32 → pb_M → Option (Unit × pb_M)
  | 0, _, _ => none
  | n + 1, v1, μ =>
    if (45 : Int32) ≤ v1 then
      some ((), μ)
    else
    if pb_in v1 90 then
      if pb_in ((45 : Int32) + v1) 90 then
        pX7_layTrial_L2 n (v1 + (1 : Int32)) (pb_sA μ 21 (upd (μ.1 21) (((45 : Int32) + v1)).toNatClampNeg (μ.1 21 (v1).toNatClampNeg)))
      else none
    else none
def pX7_layTrial  (μ : pb_M) : Option (Unit × pb_M) :=
  pX7_layTrial_L2 pb_F (0 : Int32) μ
abbrev wX7_layTrial (l : Launch) (E : pb_E) := pb_RW l E { frames := 0, cells := 0, slots := 0, locals := 0 } RX7 cX7_layTrial 2 none (fun _ => True) 0 0 (pb_Qf E (fun _ : Unit => none))
set_option maxRecDepth 100000 in
set_option maxHeartbeats 4000000 in
theorem tX7_layTrial_L2 (l : Launch) (E : pb_E)    : ∀ (n : Nat) (v1 : Int32) (μ : pb_M), wX7_layTrial l E 2 [some (.ref (E.2.1 19)), some (.int v1)] [] μ (pX7_layTrial_L2 n v1 μ) := by
  intro n
  induction n with
  | zero => intro v1 μ; exact pb_none
  | succ n ih =>
    intro v1 μ
    rw [pX7_layTrial_L2]
    refine pb_iload_n 3 dX7_layTrial_2 rfl rfl rfl ?_
    refine pb_bipush 5 (v := 45) dX7_layTrial_3 rfl (by decide) ?_
    refine pb_icmp_ge 8 (tgt := 29) dX7_layTrial_5 (by decide) rfl (fun _ => ?_) (fun _ => ?_)
    · exact pb_vret dX7_layTrial_29
    · refine pb_aload_n 9 dX7_layTrial_8 rfl rfl rfl ?_
      refine pb_getR 12 (j := 3) (d := 21) in_X7 rfl (by decide) rfl rfl (by decide) fl_X7_13 dX7_layTrial_9 rfl ?_
      refine pb_bipush 14 (v := 45) dX7_layTrial_12 rfl (by decide) ?_
      refine pb_iload_n 15 dX7_layTrial_14 rfl rfl rfl ?_
      refine pb_iadd 16 dX7_layTrial_15 rfl ?_
      refine pb_aload_n 17 dX7_layTrial_16 rfl rfl rfl ?_
      refine pb_getR 20 (j := 3) (d := 21) in_X7 rfl (by decide) rfl rfl (by decide) fl_X7_13 dX7_layTrial_17 rfl ?_
      refine pb_iload_n 21 dX7_layTrial_20 rfl rfl rfl ?_
      refine pb_guard (fun hin => pb_iald 22 rfl hin rfl dX7_layTrial_21 rfl ?_)
      refine pb_guard (fun hin => pb_iast 23 rfl hin rfl dX7_layTrial_22 rfl ?_)
      refine pb_iinc 26 (i := 1) (v := (v1 + (1 : Int32))) (L' := [some (.ref (E.2.1 19)), some (.int (v1 + (1 : Int32)))]) dX7_layTrial_23 rfl rfl (by decide) rfl rfl rfl ?_
      refine pb_goto (tgt := 2) dX7_layTrial_26 (by decide) ?_
      exact ih (v1 + (1 : Int32)) (pb_sA μ 21 (upd (μ.1 21) (((45 : Int32) + v1)).toNatClampNeg (μ.1 21 (v1).toNatClampNeg)))
set_option maxRecDepth 100000 in
set_option maxHeartbeats 4000000 in
theorem evX7_layTrial (l : Launch) (E : pb_E)   (μ : pb_M) : ∀ b μ', pX7_layTrial  μ = some (b, μ') → pb_Ev l E yX7_layTrial cX7_layTrial 2 none { frames := 0, cells := 0, slots := 0, locals := 0 } [.ref (E.2.1 19)] μ ((fun _ : Unit => none) b) μ' := by
  refine pb_enter (L := [some (.ref (E.2.1 19)), none]) (by decide +kernel) (Nat.le_of_ble_eq_true rfl) (pb_same [none, none] rfl) (show wX7_layTrial l E 0 [some (.ref (E.2.1 19)), none] [] μ (pX7_layTrial  μ) from ?_)
  unfold pX7_layTrial
  refine pb_iconst 1 (v := 0) dX7_layTrial_0 rfl (by decide) ?_
  refine pb_istore_n 2 (i := 1) (L' := [some (.ref (E.2.1 19)), some (.int (0 : Int32))]) dX7_layTrial_1 rfl (by decide) rfl rfl rfl ?_
  exact tX7_layTrial_L2 l E pb_F (0 : Int32) μ
theorem mc_X7_layTrial : pb_MC yX7_layTrial cX7_layTrial 2 none 0 := ⟨pb_inW 1005 (by decide +kernel) (by decide +kernel), pb_inW 68 (by decide +kernel) (by decide +kernel), by decide +kernel, by decide +kernel, by decide +kernel⟩
theorem mi_X7_layTrial : Cond.instanceMethod yX7_layTrial ∈ pb_gw := pb_inW 1004 (by decide +kernel) (by decide +kernel)
theorem ms_X7_layTrial : Cond.selects (yX7_layTrial).cls yX7_layTrial yX7_layTrial ∈ pb_gw := pb_inW 46 (by decide +kernel) (by decide +kernel)
theorem cl_X7_layTrial {α : Type} {l : Launch} {E : pb_E} {R : Room} {own : String} {cc : ByteArray} {mL : Nat} {ret : Option FieldType} {Xs : State → Prop} {nc ns : Nat} {Qf : State → Array Value → List Frame → α → pb_M → State → Prop} {pc : Nat} {L : List (Option Value)} {S : List Value} {μ : pb_M} {f : Unit → pb_M → Option (α × pb_M)}  {index : Nat} (q : Nat)  (hR : 0 + 1 ≤ R.frames ∧ 8 + (2 + 11) + 0 ≤ R.locals ∧ nc ≤ R.cells ∧ ns ≤ R.slots) (hW : (S.map fun v => v.category).sum ≤ 8) (hl1 : Cond.methodLink own index yX7_layTrial ∈ pb_gw) (hdg : decode cc pc = .ok (.invokevirtual index, 3)) (hq : pc + 3 = q) (k : ∀ b1 μ1, pb_RW l E R own cc mL ret Xs nc ns Qf q L S μ1 (f b1 μ1)) : pb_RW l E R own cc mL ret Xs nc ns Qf pc L (.ref (E.2.1 19) :: S) μ (pb_b (pX7_layTrial  μ) f) := pb_callV q (fun _ : Unit => none) mc_X7_layTrial mi_X7_layTrial ms_X7_layTrial (fun b1 μ1 h => evX7_layTrial l E   μ b1 μ1 h) rfl (by decide) rfl rfl rfl rfl hR rfl hW hl1 hdg hq k
def pX7_clause (v1 : Int32) (v2 : Int32) (μ : pb_M) : Option (Int32 × pb_M) :=
  pb_b (pX7_isPerson v1 μ) (fun b2 μ2 =>
  if b2 = (0 : Int32) then
    some ((-1 : Int32), μ2)
  else
  pb_b (pX7_isBeast v2 μ2) (fun b10 μ10 =>
  if b10 = (0 : Int32) then
    some ((-1 : Int32), μ10)
  else
  pb_b (pX7_clauseOn (0 : Int32) v1 v2 μ10) (fun b20 μ20 =>
  some (b20, μ20))))
abbrev wX7_clause (l : Launch) (E : pb_E) := pb_RW l E { frames := 2, cells := 0, slots := 0, locals := 47 } RX7 cX7_clause 3 (some .int) (fun _ => True) 0 0 (pb_Qf E (fun z : Int32 => some (.int z)))
set_option maxRecDepth 100000 in
set_option maxHeartbeats 4000000 in
theorem evX7_clause (l : Launch) (E : pb_E) (v1 : Int32) (v2 : Int32)  (μ : pb_M) : ∀ b μ', pX7_clause v1 v2 μ = some (b, μ') → pb_Ev l E yX7_clause cX7_clause 3 (some .int) { frames := 2, cells := 0, slots := 0, locals := 47 } [.ref (E.2.1 19), .int v1, .int v2] μ ((fun z : Int32 => some (.int z)) b) μ' := by
  refine pb_enter (L := [some (.ref (E.2.1 19)), some (.int v1), some (.int v2)]) (by decide +kernel) (Nat.le_of_ble_eq_true rfl) (pb_same [none, none, none] rfl) (show wX7_clause l E 0 [some (.ref (E.2.1 19)), some (.int v1), some (.int v2)] [] μ (pX7_clause v1 v2 μ) from ?_)
  unfold pX7_clause
  refine pb_aload_n 1 dX7_clause_0 rfl rfl rfl ?_
  refine pb_iload_n 2 dX7_clause_1 rfl rfl rfl ?_
  refine cl_X7_isPerson 5 ⟨by decide, by decide, by decide, by decide⟩ (Nat.le_of_ble_eq_true rfl) ml_X7_100 dX7_clause_2 rfl (fun b2 μ2 => ?_)
  refine pb_if_eq 8 (tgt := 26) dX7_clause_5 (by decide) rfl (fun _ => ?_) (fun _ => ?_)
  · refine pb_iconst 27 (v := -1) dX7_clause_26 rfl (by decide) ?_
    exact pb_iret dX7_clause_27
  · refine pb_aload_n 9 dX7_clause_8 rfl rfl rfl ?_
    refine pb_iload_n 10 dX7_clause_9 rfl rfl rfl ?_
    refine cl_X7_isBeast 13 ⟨by decide, by decide, by decide, by decide⟩ (Nat.le_of_ble_eq_true rfl) ml_X7_108 dX7_clause_10 rfl (fun b10 μ10 => ?_)
    refine pb_if_eq 16 (tgt := 26) dX7_clause_13 (by decide) rfl (fun _ => ?_) (fun _ => ?_)
    · refine pb_iconst 27 (v := -1) dX7_clause_26 rfl (by decide) ?_
      exact pb_iret dX7_clause_27
    · refine pb_aload_n 17 dX7_clause_16 rfl rfl rfl ?_
      refine pb_iconst 18 (v := 0) dX7_clause_17 rfl (by decide) ?_
      refine pb_iload_n 19 dX7_clause_18 rfl rfl rfl ?_
      refine pb_iload_n 20 dX7_clause_19 rfl rfl rfl ?_
      refine cl_X7_clauseOn 23 ⟨by decide, by decide, by decide, by decide⟩ (Nat.le_of_ble_eq_true rfl) ml_X7_129 dX7_clause_20 rfl (fun b20 μ20 => ?_)
      refine pb_goto (tgt := 27) dX7_clause_23 (by decide) ?_
      exact pb_iret dX7_clause_27
theorem mc_X7_clause : pb_MC yX7_clause cX7_clause 3 (some .int) 2 := ⟨pb_inW 997 (by decide +kernel) (by decide +kernel), pb_inW 68 (by decide +kernel) (by decide +kernel), by decide +kernel, by decide +kernel, by decide +kernel⟩
theorem mi_X7_clause : Cond.instanceMethod yX7_clause ∈ pb_gw := pb_inW 995 (by decide +kernel) (by decide +kernel)
theorem ms_X7_clause : Cond.selects (yX7_clause).cls yX7_clause yX7_clause ∈ pb_gw := pb_inW 996 (by decide +kernel) (by decide +kernel)
theorem cl_X7_clause {α : Type} {l : Launch} {E : pb_E} {R : Room} {own : String} {cc : ByteArray} {mL : Nat} {ret : Option FieldType} {Xs : State → Prop} {nc ns : Nat} {Qf : State → Array Value → List Frame → α → pb_M → State → Prop} {pc : Nat} {L : List (Option Value)} {S : List Value} {μ : pb_M} {f : Int32 → pb_M → Option (α × pb_M)} {v1 : Int32} {v2 : Int32} {index : Nat} (q : Nat)  (hR : 2 + 1 ≤ R.frames ∧ 8 + (3 + 11) + 47 ≤ R.locals ∧ nc ≤ R.cells ∧ ns ≤ R.slots) (hW : (S.map fun v => v.category).sum ≤ 8) (hl1 : Cond.methodLink own index yX7_clause ∈ pb_gw) (hdg : decode cc pc = .ok (.invokevirtual index, 3)) (hq : pc + 3 = q) (k : ∀ b1 μ1, pb_RW l E R own cc mL ret Xs nc ns Qf q L (.int b1 :: S) μ1 (f b1 μ1)) : pb_RW l E R own cc mL ret Xs nc ns Qf pc L (.int v2 :: .int v1 :: .ref (E.2.1 19) :: S) μ (pb_b (pX7_clause v1 v2 μ) f) := pb_callV q (fun z : Int32 => some (.int z)) mc_X7_clause mi_X7_clause ms_X7_clause (fun b1 μ1 h => evX7_clause l E v1 v2  μ b1 μ1 h) rfl (by decide) rfl rfl rfl rfl hR rfl hW hl1 hdg hq k
theorem ml_X7_153 : Cond.methodLink RX7 153 yX7_layTrial ∈ pb_gw := pb_inW 1002 (by decide +kernel) (by decide +kernel)
def pX7_worth_L31 (v1 : Int32) (v2 : Int32) : Nat → Int32 → pb_M → Option (Int32 × pb_M)
  | 0, _, _ => none
  | n + 1, v3, μ =>
    if v2 ≤ v3 then
      if pb_in ((58 : Int32) + v1) 90 then
        some ((μ.1 21 (((58 : Int32) + v1)).toNatClampNeg), μ)
      else none
    else
    pb_b (pX7_passOn (1 : Int32) μ) (fun b38 μ38 =>
    pX7_worth_L31 v1 v2 n (v3 + (1 : Int32)) μ38)
def pX7_worth (v1 : Int32) (v2 : Int32) (μ : pb_M) : Option (Int32 × pb_M) :=
  pb_b (pX7_isBeast v1 μ) (fun b2 μ2 =>
  if b2 = (0 : Int32) then
    some ((-1 : Int32), μ2)
  else
  pb_b (pX7_in (v2).toInt64 (0 : Int64) (9 : Int64) μ2) (fun b16 μ16 =>
  if b16 = (0 : Int32) then
    some ((-2 : Int32), μ16)
  else
  pb_b (pX7_layTrial μ16) (fun b26 μ26 =>
  pX7_worth_L31 v1 v2 pb_F (0 : Int32) μ26)))
abbrev wX7_worth (l : Launch) (E : pb_E) := pb_RW l E { frames := 3, cells := 0, slots := 0, locals := 70 } RX7 cX7_worth 4 (some .int) (fun _ => True) 0 0 (pb_Qf E (fun z : Int32 => some (.int z)))
set_option maxRecDepth 100000 in
set_option maxHeartbeats 4000000 in
theorem tX7_worth_L31 (l : Launch) (E : pb_E) (v1 : Int32) (v2 : Int32)   : ∀ (n : Nat) (v3 : Int32) (μ : pb_M), wX7_worth l E 31 [some (.ref (E.2.1 19)), some (.int v1), some (.int v2), some (.int v3)] [] μ (pX7_worth_L31 v1 v2 n v3 μ) := by
  intro n
  induction n with
  | zero => intro v3 μ; exact pb_none
  | succ n ih =>
    intro v3 μ
    rw [pX7_worth_L31]
    refine pb_iload_n 32 dX7_worth_31 rfl rfl rfl ?_
    refine pb_iload_n 33 dX7_worth_32 rfl rfl rfl ?_
    refine pb_icmp_ge 36 (tgt := 47) dX7_worth_33 (by decide) rfl (fun _ => ?_) (fun _ => ?_)
    · refine pb_aload_n 48 dX7_worth_47 rfl rfl rfl ?_
      refine pb_getR 51 (j := 3) (d := 21) in_X7 rfl (by decide) rfl rfl (by decide) fl_X7_13 dX7_worth_48 rfl ?_
      refine pb_bipush 53 (v := 58) dX7_worth_51 rfl (by decide) ?_
      refine pb_iload_n 54 dX7_worth_53 rfl rfl rfl ?_
      refine pb_iadd 55 dX7_worth_54 rfl ?_
      refine pb_guard (fun hin => pb_iald 56 rfl hin rfl dX7_worth_55 rfl ?_)
      exact pb_iret dX7_worth_56
    · refine pb_aload_n 37 dX7_worth_36 rfl rfl rfl ?_
      refine pb_iconst 38 (v := 1) dX7_worth_37 rfl (by decide) ?_
      refine cl_X7_passOn 41 ⟨by decide, by decide, by decide, by decide⟩ (Nat.le_of_ble_eq_true rfl) ml_X7_135 dX7_worth_38 rfl (fun b38 μ38 => ?_)
      refine pb_iinc 44 (i := 3) (v := (v3 + (1 : Int32))) (L' := [some (.ref (E.2.1 19)), some (.int v1), some (.int v2), some (.int (v3 + (1 : Int32)))]) dX7_worth_41 rfl rfl (by decide) rfl rfl rfl ?_
      refine pb_goto (tgt := 31) dX7_worth_44 (by decide) ?_
      exact ih (v3 + (1 : Int32)) μ38
set_option maxRecDepth 100000 in
set_option maxHeartbeats 4000000 in
theorem evX7_worth (l : Launch) (E : pb_E) (v1 : Int32) (v2 : Int32)  (μ : pb_M) : ∀ b μ', pX7_worth v1 v2 μ = some (b, μ') → pb_Ev l E yX7_worth cX7_worth 4 (some .int) { frames := 3, cells := 0, slots := 0, locals := 70 } [.ref (E.2.1 19), .int v1, .int v2] μ ((fun z : Int32 => some (.int z)) b) μ' := by
  refine pb_enter (L := [some (.ref (E.2.1 19)), some (.int v1), some (.int v2), none]) (by decide +kernel) (Nat.le_of_ble_eq_true rfl) (pb_same [none, none, none, none] rfl) (show wX7_worth l E 0 [some (.ref (E.2.1 19)), some (.int v1), some (.int v2), none] [] μ (pX7_worth v1 v2 μ) from ?_)
  unfold pX7_worth
  refine pb_aload_n 1 dX7_worth_0 rfl rfl rfl ?_
  refine pb_iload_n 2 dX7_worth_1 rfl rfl rfl ?_
  refine cl_X7_isBeast 5 ⟨by decide, by decide, by decide, by decide⟩ (Nat.le_of_ble_eq_true rfl) ml_X7_108 dX7_worth_2 rfl (fun b2 μ2 => ?_)
  refine pb_if_ne 8 (tgt := 10) dX7_worth_5 (by decide) rfl (fun _ => ?_) (fun _ => ?_)
  · refine pb_iconst 9 (v := -1) dX7_worth_8 rfl (by decide) ?_
    exact pb_iret dX7_worth_9
  · refine pb_iload_n 11 dX7_worth_10 rfl rfl rfl ?_
    refine pb_i2l 12 dX7_worth_11 rfl ?_
    refine pb_lconst 13 (v := 0) dX7_worth_12 rfl (by decide) ?_
    refine pb_ldc2 16 kc_X7_60 dX7_worth_13 rfl ?_
    refine cl_X7_in 19 ⟨by decide, by decide, by decide, by decide⟩ (Nat.le_of_ble_eq_true rfl) ml_X7_47 dX7_worth_16 rfl (fun b16 μ16 => ?_)
    refine pb_if_ne 22 (tgt := 25) dX7_worth_19 (by decide) rfl (fun _ => ?_) (fun _ => ?_)
    · refine pb_bipush 24 (v := -2) dX7_worth_22 rfl (by decide) ?_
      exact pb_iret dX7_worth_24
    · refine pb_aload_n 26 dX7_worth_25 rfl rfl rfl ?_
      refine cl_X7_layTrial 29 ⟨by decide, by decide, by decide, by decide⟩ (Nat.le_of_ble_eq_true rfl) ml_X7_153 dX7_worth_26 rfl (fun b26 μ26 => ?_)
      refine pb_iconst 30 (v := 0) dX7_worth_29 rfl (by decide) ?_
      refine pb_istore_n 31 (i := 3) (L' := [some (.ref (E.2.1 19)), some (.int v1), some (.int v2), some (.int (0 : Int32))]) dX7_worth_30 rfl (by decide) rfl rfl rfl ?_
      exact tX7_worth_L31 l E v1 v2 pb_F (0 : Int32) μ26
theorem mc_X7_worth : pb_MC yX7_worth cX7_worth 4 (some .int) 2 := ⟨pb_inW 1001 (by decide +kernel) (by decide +kernel), pb_inW 68 (by decide +kernel) (by decide +kernel), by decide +kernel, by decide +kernel, by decide +kernel⟩
theorem mi_X7_worth : Cond.instanceMethod yX7_worth ∈ pb_gw := pb_inW 999 (by decide +kernel) (by decide +kernel)
theorem ms_X7_worth : Cond.selects (yX7_worth).cls yX7_worth yX7_worth ∈ pb_gw := pb_inW 1000 (by decide +kernel) (by decide +kernel)
theorem cl_X7_worth {α : Type} {l : Launch} {E : pb_E} {R : Room} {own : String} {cc : ByteArray} {mL : Nat} {ret : Option FieldType} {Xs : State → Prop} {nc ns : Nat} {Qf : State → Array Value → List Frame → α → pb_M → State → Prop} {pc : Nat} {L : List (Option Value)} {S : List Value} {μ : pb_M} {f : Int32 → pb_M → Option (α × pb_M)} {v1 : Int32} {v2 : Int32} {index : Nat} (q : Nat)  (hR : 3 + 1 ≤ R.frames ∧ 8 + (4 + 11) + 70 ≤ R.locals ∧ nc ≤ R.cells ∧ ns ≤ R.slots) (hW : (S.map fun v => v.category).sum ≤ 8) (hl1 : Cond.methodLink own index yX7_worth ∈ pb_gw) (hdg : decode cc pc = .ok (.invokevirtual index, 3)) (hq : pc + 3 = q) (k : ∀ b1 μ1, pb_RW l E R own cc mL ret Xs nc ns Qf q L (.int b1 :: S) μ1 (f b1 μ1)) : pb_RW l E R own cc mL ret Xs nc ns Qf pc L (.int v2 :: .int v1 :: .ref (E.2.1 19) :: S) μ (pb_b (pX7_worth v1 v2 μ) f) := pb_callV q (fun z : Int32 => some (.int z)) mc_X7_worth mi_X7_worth ms_X7_worth (fun b1 μ1 h => evX7_worth l E v1 v2  μ b1 μ1 h) rfl (by decide) rfl rfl rfl rfl hR rfl hW hl1 hdg hq k
def pX7_owedIf_L14 (v1 : Int32) (v2 : Int32) (v3 : Int32) (K31 : pb_M → Option (Int32 × pb_M)) : Nat → Int32 → pb_M → Option (Int32 × pb_M)
  | 0, _, _ => none
  | n + 1, v4, μ =>
    if (3 : Int32) ≤ v4 then
      K31 μ
    else
    pb_b (pX7_passOn (1 : Int32) μ) (fun b22 μ22 =>
    pX7_owedIf_L14 v1 v2 v3 K31 n (v4 + (1 : Int32)) μ22)
def pX7_owedIf (v1 : Int32) (v2 : Int32) (v3 : Int32) (μ : pb_M) : Option (Int32 × pb_M) :=
  pb_b (pX7_layTrial μ) (fun b1 μ1 =>
  pb_b (pX7_shutOn (1 : Int32) v3 v1 μ1) (fun b8 μ8 =>
  pX7_owedIf_L14 v1 v2 v3 (fun μk31 =>
    pb_b (pX7_debt (0 : Int32) v2 v1 μk31) (fun b38 μ38 =>
    if pb_in b38 90 then
      if pb_in ((58 : Int32) + v3) 90 then
        if (0 : Int32) ≤ ((μ38.1 21 (b38).toNatClampNeg) - (μ38.1 21 (((58 : Int32) + v3)).toNatClampNeg)) then
          some (((μ38.1 21 (b38).toNatClampNeg) - (μ38.1 21 (((58 : Int32) + v3)).toNatClampNeg)), μ38)
        else
        some ((0 : Int32), μ38)
      else none
    else none)) pb_F (0 : Int32) μ8))
abbrev wX7_owedIf (l : Launch) (E : pb_E) := pb_RW l E { frames := 3, cells := 0, slots := 0, locals := 70 } RX7 cX7_owedIf 5 (some .int) (fun _ => True) 0 0 (pb_Qf E (fun z : Int32 => some (.int z)))
set_option maxRecDepth 100000 in
set_option maxHeartbeats 4000000 in
theorem tX7_owedIf_L14 (l : Launch) (E : pb_E) (v1 : Int32) (v2 : Int32) (v3 : Int32) {K31 : pb_M → Option (Int32 × pb_M)} (hK31 : ∀  (μ : pb_M), wX7_owedIf l E 31 [some (.ref (E.2.1 19)), some (.int v1), some (.int v2), some (.int v3), none] [] μ (K31  μ)) : ∀ (n : Nat) (v4 : Int32) (μ : pb_M), wX7_owedIf l E 14 [some (.ref (E.2.1 19)), some (.int v1), some (.int v2), some (.int v3), some (.int v4)] [] μ (pX7_owedIf_L14 v1 v2 v3 K31 n v4 μ) := by
  intro n
  induction n with
  | zero => intro v4 μ; exact pb_none
  | succ n ih =>
    intro v4 μ
    rw [pX7_owedIf_L14]
    refine pb_iload 16 dX7_owedIf_14 rfl rfl ?_
    refine pb_iconst 17 (v := 3) dX7_owedIf_16 rfl (by decide) ?_
    refine pb_icmp_ge 20 (tgt := 31) dX7_owedIf_17 (by decide) rfl (fun _ => ?_) (fun _ => ?_)
    · refine pb_weakM (L' := [some (.ref (E.2.1 19)), some (.int v1), some (.int v2), some (.int v3), none]) [true, true, true, true, false] rfl ?_
      exact hK31 μ
    · refine pb_aload_n 21 dX7_owedIf_20 rfl rfl rfl ?_
      refine pb_iconst 22 (v := 1) dX7_owedIf_21 rfl (by decide) ?_
      refine cl_X7_passOn 25 ⟨by decide, by decide, by decide, by decide⟩ (Nat.le_of_ble_eq_true rfl) ml_X7_135 dX7_owedIf_22 rfl (fun b22 μ22 => ?_)
      refine pb_iinc 28 (i := 4) (v := (v4 + (1 : Int32))) (L' := [some (.ref (E.2.1 19)), some (.int v1), some (.int v2), some (.int v3), some (.int (v4 + (1 : Int32)))]) dX7_owedIf_25 rfl rfl (by decide) rfl rfl rfl ?_
      refine pb_goto (tgt := 14) dX7_owedIf_28 (by decide) ?_
      exact ih (v4 + (1 : Int32)) μ22
set_option maxRecDepth 100000 in
set_option maxHeartbeats 4000000 in
theorem evX7_owedIf (l : Launch) (E : pb_E) (v1 : Int32) (v2 : Int32) (v3 : Int32)  (μ : pb_M) : ∀ b μ', pX7_owedIf v1 v2 v3 μ = some (b, μ') → pb_Ev l E yX7_owedIf cX7_owedIf 5 (some .int) { frames := 3, cells := 0, slots := 0, locals := 70 } [.ref (E.2.1 19), .int v1, .int v2, .int v3] μ ((fun z : Int32 => some (.int z)) b) μ' := by
  refine pb_enter (L := [some (.ref (E.2.1 19)), some (.int v1), some (.int v2), some (.int v3), none]) (by decide +kernel) (Nat.le_of_ble_eq_true rfl) (pb_same [none, none, none, none, none] rfl) (show wX7_owedIf l E 0 [some (.ref (E.2.1 19)), some (.int v1), some (.int v2), some (.int v3), none] [] μ (pX7_owedIf v1 v2 v3 μ) from ?_)
  unfold pX7_owedIf
  refine pb_aload_n 1 dX7_owedIf_0 rfl rfl rfl ?_
  refine cl_X7_layTrial 4 ⟨by decide, by decide, by decide, by decide⟩ (Nat.le_of_ble_eq_true rfl) ml_X7_153 dX7_owedIf_1 rfl (fun b1 μ1 => ?_)
  refine pb_aload_n 5 dX7_owedIf_4 rfl rfl rfl ?_
  refine pb_iconst 6 (v := 1) dX7_owedIf_5 rfl (by decide) ?_
  refine pb_iload_n 7 dX7_owedIf_6 rfl rfl rfl ?_
  refine pb_iload_n 8 dX7_owedIf_7 rfl rfl rfl ?_
  refine cl_X7_shutOn 11 ⟨by decide, by decide, by decide, by decide⟩ (Nat.le_of_ble_eq_true rfl) ml_X7_114 dX7_owedIf_8 rfl (fun b8 μ8 => ?_)
  refine pb_iconst 12 (v := 0) dX7_owedIf_11 rfl (by decide) ?_
  refine pb_istore 14 (i := 4) (L' := [some (.ref (E.2.1 19)), some (.int v1), some (.int v2), some (.int v3), some (.int (0 : Int32))]) dX7_owedIf_12 (by decide) rfl rfl rfl ?_
  refine tX7_owedIf_L14 l E v1 v2 v3 (fun μk31 => ?_) pb_F (0 : Int32) μ8
  refine pb_aload_n 32 dX7_owedIf_31 rfl rfl rfl ?_
  refine pb_getR 35 (j := 3) (d := 21) in_X7 rfl (by decide) rfl rfl (by decide) fl_X7_13 dX7_owedIf_32 rfl ?_
  refine pb_iconst 36 (v := 0) dX7_owedIf_35 rfl (by decide) ?_
  refine pb_iload_n 37 dX7_owedIf_36 rfl rfl rfl ?_
  refine pb_iload_n 38 dX7_owedIf_37 rfl rfl rfl ?_
  refine cl_X7_debt 41 ⟨by decide, by decide, by decide, by decide⟩ (Nat.le_of_ble_eq_true rfl) ml_X7_104 dX7_owedIf_38 rfl (fun b38 μ38 => ?_)
  refine pb_guard (fun hin => pb_iald 42 rfl hin rfl dX7_owedIf_41 rfl ?_)
  refine pb_aload_n 43 dX7_owedIf_42 rfl rfl rfl ?_
  refine pb_getR 46 (j := 3) (d := 21) in_X7 rfl (by decide) rfl rfl (by decide) fl_X7_13 dX7_owedIf_43 rfl ?_
  refine pb_bipush 48 (v := 58) dX7_owedIf_46 rfl (by decide) ?_
  refine pb_iload_n 49 dX7_owedIf_48 rfl rfl rfl ?_
  refine pb_iadd 50 dX7_owedIf_49 rfl ?_
  refine pb_guard (fun hin => pb_iald 51 rfl hin rfl dX7_owedIf_50 rfl ?_)
  refine pb_isub 52 dX7_owedIf_51 rfl ?_
  refine pb_istore 54 (i := 4) (L' := [some (.ref (E.2.1 19)), some (.int v1), some (.int v2), some (.int v3), some (.int ((μ38.1 21 (b38).toNatClampNeg) - (μ38.1 21 (((58 : Int32) + v3)).toNatClampNeg)))]) dX7_owedIf_52 (by decide) rfl rfl rfl ?_
  refine pb_iload 56 dX7_owedIf_54 rfl rfl ?_
  refine pb_if_ge 59 (tgt := 63) dX7_owedIf_56 (by decide) rfl (fun _ => ?_) (fun _ => ?_)
  · refine pb_iload 65 dX7_owedIf_63 rfl rfl ?_
    exact pb_iret dX7_owedIf_65
  · refine pb_iconst 60 (v := 0) dX7_owedIf_59 rfl (by decide) ?_
    refine pb_goto (tgt := 65) dX7_owedIf_60 (by decide) ?_
    exact pb_iret dX7_owedIf_65
theorem mc_X7_owedIf : pb_MC yX7_owedIf cX7_owedIf 5 (some .int) 3 := ⟨pb_inW 1013 (by decide +kernel) (by decide +kernel), pb_inW 68 (by decide +kernel) (by decide +kernel), by decide +kernel, by decide +kernel, by decide +kernel⟩
theorem mi_X7_owedIf : Cond.instanceMethod yX7_owedIf ∈ pb_gw := pb_inW 1012 (by decide +kernel) (by decide +kernel)
theorem ms_X7_owedIf : Cond.selects (yX7_owedIf).cls yX7_owedIf yX7_owedIf ∈ pb_gw := pb_inW 47 (by decide +kernel) (by decide +kernel)
theorem cl_X7_owedIf {α : Type} {l : Launch} {E : pb_E} {R : Room} {own : String} {cc : ByteArray} {mL : Nat} {ret : Option FieldType} {Xs : State → Prop} {nc ns : Nat} {Qf : State → Array Value → List Frame → α → pb_M → State → Prop} {pc : Nat} {L : List (Option Value)} {S : List Value} {μ : pb_M} {f : Int32 → pb_M → Option (α × pb_M)} {v1 : Int32} {v2 : Int32} {v3 : Int32} {index : Nat} (q : Nat)  (hR : 3 + 1 ≤ R.frames ∧ 8 + (5 + 11) + 70 ≤ R.locals ∧ nc ≤ R.cells ∧ ns ≤ R.slots) (hW : (S.map fun v => v.category).sum ≤ 8) (hl1 : Cond.methodLink own index yX7_owedIf ∈ pb_gw) (hdg : decode cc pc = .ok (.invokevirtual index, 3)) (hq : pc + 3 = q) (k : ∀ b1 μ1, pb_RW l E R own cc mL ret Xs nc ns Qf q L (.int b1 :: S) μ1 (f b1 μ1)) : pb_RW l E R own cc mL ret Xs nc ns Qf pc L (.int v3 :: .int v2 :: .int v1 :: .ref (E.2.1 19) :: S) μ (pb_b (pX7_owedIf v1 v2 v3 μ) f) := pb_callV q (fun z : Int32 => some (.int z)) mc_X7_owedIf mi_X7_owedIf ms_X7_owedIf (fun b1 μ1 h => evX7_owedIf l E v1 v2 v3  μ b1 μ1 h) rfl (by decide) rfl rfl rfl rfl hR rfl hW hl1 hdg hq k
theorem ml_X7_156 : Cond.methodLink RX7 156 yX7_owedIf ∈ pb_gw := pb_inW 1010 (by decide +kernel) (by decide +kernel)
def pX7_take_J130 (v1 : Int32) (v2 : Int32) (v3 : Int32) (S37 : Int32 → Int32 → Int32 → pb_M → Option (Int32 × pb_M)) (v4 : Int32) (v5 : Int32) (v6 : Int32) (v7 : Int32) (s0 : Int32) (μ : pb_M) : Option (Int32 × pb_M) :=
  if s0 = (0 : Int32) then
    if s0 = (0 : Int32) then
      S37 v4 v5 (v6 + (1 : Int32)) μ
    else
    S37 v4 v7 (v6 + (1 : Int32)) μ
  else
  if s0 = (0 : Int32) then
    S37 v6 v5 (v6 + (1 : Int32)) μ
  else
  S37 v6 v7 (v6 + (1 : Int32)) μ
def pX7_take_J125 (v1 : Int32) (v2 : Int32) (v3 : Int32) (S37 : Int32 → Int32 → Int32 → pb_M → Option (Int32 × pb_M)) (v4 : Int32) (v5 : Int32) (v6 : Int32) (v7 : Int32) (μ : pb_M) : Option (Int32 × pb_M) :=
  pX7_take_J130 v1 v2 v3 S37 v4 v5 v6 v7 (1 : Int32) μ
def pX7_take_J129 (v1 : Int32) (v2 : Int32) (v3 : Int32) (S37 : Int32 → Int32 → Int32 → pb_M → Option (Int32 × pb_M)) (v4 : Int32) (v5 : Int32) (v6 : Int32) (v7 : Int32) (μ : pb_M) : Option (Int32 × pb_M) :=
  pX7_take_J130 v1 v2 v3 S37 v4 v5 v6 v7 (0 : Int32) μ
def pX7_take_L37 (v1 : Int32) (v2 : Int32) (v3 : Int32) : Nat → Int32 → Int32 → Int32 → pb_M → Option (Int32 × pb_M)
  | 0, _, _, _, _ => none
  | n + 1, v4, v5, v6, μ =>
    if (μ.1 19 1) ≤ v6 then
      if v3 = (0 : Int32) then
        some (v4, μ)
      else
      some (v5, μ)
    else
    if pb_in ((8 : Int32) + v6) 90 then
      if (μ.1 21 (((8 : Int32) + v6)).toNatClampNeg) = v2 then
        pb_b (pX7_clauseOn (0 : Int32) v1 v6 μ) (fun b65 μ65 =>
        if b65 = (0 : Int32) then
          pb_b (pX7_owedIf v1 v2 v6 μ65) (fun b76 μ76 =>
          if v4 = (-9 : Int32) then
            pX7_take_J125 v1 v2 v3 (pX7_take_L37 v1 v2 v3 n) v4 v5 v6 b76 μ76
          else
          if b76 < v5 then
            pX7_take_J125 v1 v2 v3 (pX7_take_L37 v1 v2 v3 n) v4 v5 v6 b76 μ76
          else
          if b76 = v5 then
            if pb_in ((13 : Int32) + v6) 90 then
              if pb_in ((13 : Int32) + v4) 90 then
                if (μ76.1 21 (((13 : Int32) + v4)).toNatClampNeg) ≤ (μ76.1 21 (((13 : Int32) + v6)).toNatClampNeg) then
                  pX7_take_J129 v1 v2 v3 (pX7_take_L37 v1 v2 v3 n) v4 v5 v6 b76 μ76
                else
                pX7_take_J125 v1 v2 v3 (pX7_take_L37 v1 v2 v3 n) v4 v5 v6 b76 μ76
              else none
            else none
          else
          pX7_take_J129 v1 v2 v3 (pX7_take_L37 v1 v2 v3 n) v4 v5 v6 b76 μ76)
        else
        pX7_take_L37 v1 v2 v3 n v4 v5 (v6 + (1 : Int32)) μ65)
      else
      pX7_take_L37 v1 v2 v3 n v4 v5 (v6 + (1 : Int32)) μ
    else none
def pX7_take (v1 : Int32) (v2 : Int32) (v3 : Int32) (μ : pb_M) : Option (Int32 × pb_M) :=
  pb_b (pX7_isPerson v1 μ) (fun b2 μ2 =>
  if b2 = (0 : Int32) then
    some ((-1 : Int32), μ2)
  else
  pb_b (pX7_isPerson v2 μ2) (fun b10 μ10 =>
  if b10 = (0 : Int32) then
    some ((-1 : Int32), μ10)
  else
  if v1 = v2 then
    some ((-2 : Int32), μ10)
  else
  pX7_take_L37 v1 v2 v3 pb_F (-9 : Int32) (-9 : Int32) (0 : Int32) μ10))
abbrev wX7_take (l : Launch) (E : pb_E) := pb_RW l E { frames := 4, cells := 0, slots := 0, locals := 94 } RX7 cX7_take 9 (some .int) (fun _ => True) 0 0 (pb_Qf E (fun z : Int32 => some (.int z)))
set_option maxRecDepth 100000 in
set_option maxHeartbeats 4000000 in
theorem tX7_take_J130 (l : Launch) (E : pb_E) (v1 : Int32) (v2 : Int32) (v3 : Int32) {S37 : Int32 → Int32 → Int32 → pb_M → Option (Int32 × pb_M)} (hS37 : ∀ (w4 : Int32) (w5 : Int32) (w6 : Int32) (μ : pb_M), wX7_take l E 37 [some (.ref (E.2.1 19)), some (.int v1), some (.int v2), some (.int v3), some (.int w4), some (.int w5), some (.int w6), none, none] [] μ (S37 w4 w5 w6 μ)) : ∀ (v4 : Int32) (v5 : Int32) (v6 : Int32) (v7 : Int32) (s0 : Int32) (μ : pb_M), wX7_take l E 130 [some (.ref (E.2.1 19)), some (.int v1), some (.int v2), some (.int v3), some (.int v4), some (.int v5), some (.int v6), some (.int v7), none] [.int s0] μ (pX7_take_J130 v1 v2 v3 S37 v4 v5 v6 v7 s0 μ) := by
  intro v4 v5 v6 v7 s0 μ
  unfold pX7_take_J130
  refine pb_istore 132 (i := 8) (L' := [some (.ref (E.2.1 19)), some (.int v1), some (.int v2), some (.int v3), some (.int v4), some (.int v5), some (.int v6), some (.int v7), some (.int s0)]) dX7_take_130 (by decide) rfl rfl rfl ?_
  refine pb_iload 134 dX7_take_132 rfl rfl ?_
  refine pb_if_eq 137 (tgt := 142) dX7_take_134 (by decide) rfl (fun _ => ?_) (fun _ => ?_)
  · refine pb_iload 144 dX7_take_142 rfl rfl ?_
    refine pb_istore 146 (i := 4) (L' := [some (.ref (E.2.1 19)), some (.int v1), some (.int v2), some (.int v3), some (.int v4), some (.int v5), some (.int v6), some (.int v7), some (.int s0)]) dX7_take_144 (by decide) rfl rfl rfl ?_
    refine pb_iload 148 dX7_take_146 rfl rfl ?_
    refine pb_if_eq 151 (tgt := 156) dX7_take_148 (by decide) rfl (fun _ => ?_) (fun _ => ?_)
    · refine pb_iload 158 dX7_take_156 rfl rfl ?_
      refine pb_istore 160 (i := 5) (L' := [some (.ref (E.2.1 19)), some (.int v1), some (.int v2), some (.int v3), some (.int v4), some (.int v5), some (.int v6), some (.int v7), some (.int s0)]) dX7_take_158 (by decide) rfl rfl rfl ?_
      refine pb_iinc 163 (i := 6) (v := (v6 + (1 : Int32))) (L' := [some (.ref (E.2.1 19)), some (.int v1), some (.int v2), some (.int v3), some (.int v4), some (.int v5), some (.int (v6 + (1 : Int32))), some (.int v7), some (.int s0)]) dX7_take_160 rfl rfl (by decide) rfl rfl rfl ?_
      refine pb_goto (tgt := 37) dX7_take_163 (by decide) ?_
      refine pb_weakM (L' := [some (.ref (E.2.1 19)), some (.int v1), some (.int v2), some (.int v3), some (.int v4), some (.int v5), some (.int (v6 + (1 : Int32))), none, none]) [true, true, true, true, true, true, true, false, false] rfl ?_
      exact hS37 v4 v5 (v6 + (1 : Int32)) μ
    · refine pb_iload 153 dX7_take_151 rfl rfl ?_
      refine pb_goto (tgt := 158) dX7_take_153 (by decide) ?_
      refine pb_istore 160 (i := 5) (L' := [some (.ref (E.2.1 19)), some (.int v1), some (.int v2), some (.int v3), some (.int v4), some (.int v7), some (.int v6), some (.int v7), some (.int s0)]) dX7_take_158 (by decide) rfl rfl rfl ?_
      refine pb_iinc 163 (i := 6) (v := (v6 + (1 : Int32))) (L' := [some (.ref (E.2.1 19)), some (.int v1), some (.int v2), some (.int v3), some (.int v4), some (.int v7), some (.int (v6 + (1 : Int32))), some (.int v7), some (.int s0)]) dX7_take_160 rfl rfl (by decide) rfl rfl rfl ?_
      refine pb_goto (tgt := 37) dX7_take_163 (by decide) ?_
      refine pb_weakM (L' := [some (.ref (E.2.1 19)), some (.int v1), some (.int v2), some (.int v3), some (.int v4), some (.int v7), some (.int (v6 + (1 : Int32))), none, none]) [true, true, true, true, true, true, true, false, false] rfl ?_
      exact hS37 v4 v7 (v6 + (1 : Int32)) μ
  · refine pb_iload 139 dX7_take_137 rfl rfl ?_
    refine pb_goto (tgt := 144) dX7_take_139 (by decide) ?_
    refine pb_istore 146 (i := 4) (L' := [some (.ref (E.2.1 19)), some (.int v1), some (.int v2), some (.int v3), some (.int v6), some (.int v5), some (.int v6), some (.int v7), some (.int s0)]) dX7_take_144 (by decide) rfl rfl rfl ?_
    refine pb_iload 148 dX7_take_146 rfl rfl ?_
    refine pb_if_eq 151 (tgt := 156) dX7_take_148 (by decide) rfl (fun _ => ?_) (fun _ => ?_)
    · refine pb_iload 158 dX7_take_156 rfl rfl ?_
      refine pb_istore 160 (i := 5) (L' := [some (.ref (E.2.1 19)), some (.int v1), some (.int v2), some (.int v3), some (.int v6), some (.int v5), some (.int v6), some (.int v7), some (.int s0)]) dX7_take_158 (by decide) rfl rfl rfl ?_
      refine pb_iinc 163 (i := 6) (v := (v6 + (1 : Int32))) (L' := [some (.ref (E.2.1 19)), some (.int v1), some (.int v2), some (.int v3), some (.int v6), some (.int v5), some (.int (v6 + (1 : Int32))), some (.int v7), some (.int s0)]) dX7_take_160 rfl rfl (by decide) rfl rfl rfl ?_
      refine pb_goto (tgt := 37) dX7_take_163 (by decide) ?_
      refine pb_weakM (L' := [some (.ref (E.2.1 19)), some (.int v1), some (.int v2), some (.int v3), some (.int v6), some (.int v5), some (.int (v6 + (1 : Int32))), none, none]) [true, true, true, true, true, true, true, false, false] rfl ?_
      exact hS37 v6 v5 (v6 + (1 : Int32)) μ
    · refine pb_iload 153 dX7_take_151 rfl rfl ?_
      refine pb_goto (tgt := 158) dX7_take_153 (by decide) ?_
      refine pb_istore 160 (i := 5) (L' := [some (.ref (E.2.1 19)), some (.int v1), some (.int v2), some (.int v3), some (.int v6), some (.int v7), some (.int v6), some (.int v7), some (.int s0)]) dX7_take_158 (by decide) rfl rfl rfl ?_
      refine pb_iinc 163 (i := 6) (v := (v6 + (1 : Int32))) (L' := [some (.ref (E.2.1 19)), some (.int v1), some (.int v2), some (.int v3), some (.int v6), some (.int v7), some (.int (v6 + (1 : Int32))), some (.int v7), some (.int s0)]) dX7_take_160 rfl rfl (by decide) rfl rfl rfl ?_
      refine pb_goto (tgt := 37) dX7_take_163 (by decide) ?_
      refine pb_weakM (L' := [some (.ref (E.2.1 19)), some (.int v1), some (.int v2), some (.int v3), some (.int v6), some (.int v7), some (.int (v6 + (1 : Int32))), none, none]) [true, true, true, true, true, true, true, false, false] rfl ?_
      exact hS37 v6 v7 (v6 + (1 : Int32)) μ
set_option maxRecDepth 100000 in
set_option maxHeartbeats 4000000 in
theorem tX7_take_J125 (l : Launch) (E : pb_E) (v1 : Int32) (v2 : Int32) (v3 : Int32) {S37 : Int32 → Int32 → Int32 → pb_M → Option (Int32 × pb_M)} (hS37 : ∀ (w4 : Int32) (w5 : Int32) (w6 : Int32) (μ : pb_M), wX7_take l E 37 [some (.ref (E.2.1 19)), some (.int v1), some (.int v2), some (.int v3), some (.int w4), some (.int w5), some (.int w6), none, none] [] μ (S37 w4 w5 w6 μ)) : ∀ (v4 : Int32) (v5 : Int32) (v6 : Int32) (v7 : Int32) (μ : pb_M), wX7_take l E 125 [some (.ref (E.2.1 19)), some (.int v1), some (.int v2), some (.int v3), some (.int v4), some (.int v5), some (.int v6), some (.int v7), none] [] μ (pX7_take_J125 v1 v2 v3 S37 v4 v5 v6 v7 μ) := by
  intro v4 v5 v6 v7 μ
  unfold pX7_take_J125
  refine pb_iconst 126 (v := 1) dX7_take_125 rfl (by decide) ?_
  refine pb_goto (tgt := 130) dX7_take_126 (by decide) ?_
  exact tX7_take_J130 l E v1 v2 v3 hS37 v4 v5 v6 v7 (1 : Int32) μ
set_option maxRecDepth 100000 in
set_option maxHeartbeats 4000000 in
theorem tX7_take_J129 (l : Launch) (E : pb_E) (v1 : Int32) (v2 : Int32) (v3 : Int32) {S37 : Int32 → Int32 → Int32 → pb_M → Option (Int32 × pb_M)} (hS37 : ∀ (w4 : Int32) (w5 : Int32) (w6 : Int32) (μ : pb_M), wX7_take l E 37 [some (.ref (E.2.1 19)), some (.int v1), some (.int v2), some (.int v3), some (.int w4), some (.int w5), some (.int w6), none, none] [] μ (S37 w4 w5 w6 μ)) : ∀ (v4 : Int32) (v5 : Int32) (v6 : Int32) (v7 : Int32) (μ : pb_M), wX7_take l E 129 [some (.ref (E.2.1 19)), some (.int v1), some (.int v2), some (.int v3), some (.int v4), some (.int v5), some (.int v6), some (.int v7), none] [] μ (pX7_take_J129 v1 v2 v3 S37 v4 v5 v6 v7 μ) := by
  intro v4 v5 v6 v7 μ
  unfold pX7_take_J129
  refine pb_iconst 130 (v := 0) dX7_take_129 rfl (by decide) ?_
  exact tX7_take_J130 l E v1 v2 v3 hS37 v4 v5 v6 v7 (0 : Int32) μ
set_option maxRecDepth 100000 in
set_option maxHeartbeats 4000000 in
theorem tX7_take_L37 (l : Launch) (E : pb_E) (v1 : Int32) (v2 : Int32) (v3 : Int32)   : ∀ (n : Nat) (v4 : Int32) (v5 : Int32) (v6 : Int32) (μ : pb_M), wX7_take l E 37 [some (.ref (E.2.1 19)), some (.int v1), some (.int v2), some (.int v3), some (.int v4), some (.int v5), some (.int v6), none, none] [] μ (pX7_take_L37 v1 v2 v3 n v4 v5 v6 μ) := by
  intro n
  induction n with
  | zero => intro v4 v5 v6 μ; exact pb_none
  | succ n ih =>
    intro v4 v5 v6 μ
    rw [pX7_take_L37]
    refine pb_iload 39 dX7_take_37 rfl rfl ?_
    refine pb_aload_n 40 dX7_take_39 rfl rfl rfl ?_
    refine pb_getI 43 (j := 1) in_X7 rfl (by decide) rfl rfl (by decide) fl_X7_94 dX7_take_40 rfl ?_
    refine pb_icmp_ge 46 (tgt := 166) dX7_take_43 (by decide) rfl (fun _ => ?_) (fun _ => ?_)
    · refine pb_iload_n 167 dX7_take_166 rfl rfl rfl ?_
      refine pb_if_eq 170 (tgt := 175) dX7_take_167 (by decide) rfl (fun _ => ?_) (fun _ => ?_)
      · refine pb_iload 177 dX7_take_175 rfl rfl ?_
        exact pb_iret dX7_take_177
      · refine pb_iload 172 dX7_take_170 rfl rfl ?_
        refine pb_goto (tgt := 177) dX7_take_172 (by decide) ?_
        exact pb_iret dX7_take_177
    · refine pb_aload_n 47 dX7_take_46 rfl rfl rfl ?_
      refine pb_getR 50 (j := 3) (d := 21) in_X7 rfl (by decide) rfl rfl (by decide) fl_X7_13 dX7_take_47 rfl ?_
      refine pb_bipush 52 (v := 8) dX7_take_50 rfl (by decide) ?_
      refine pb_iload 54 dX7_take_52 rfl rfl ?_
      refine pb_iadd 55 dX7_take_54 rfl ?_
      refine pb_guard (fun hin => pb_iald 56 rfl hin rfl dX7_take_55 rfl ?_)
      refine pb_iload_n 57 dX7_take_56 rfl rfl rfl ?_
      refine pb_icmp_ne 60 (tgt := 160) dX7_take_57 (by decide) rfl (fun _ => ?_) (fun _ => ?_)
      · refine pb_aload_n 61 dX7_take_60 rfl rfl rfl ?_
        refine pb_iconst 62 (v := 0) dX7_take_61 rfl (by decide) ?_
        refine pb_iload_n 63 dX7_take_62 rfl rfl rfl ?_
        refine pb_iload 65 dX7_take_63 rfl rfl ?_
        refine cl_X7_clauseOn 68 ⟨by decide, by decide, by decide, by decide⟩ (Nat.le_of_ble_eq_true rfl) ml_X7_129 dX7_take_65 rfl (fun b65 μ65 => ?_)
        refine pb_if_ne 71 (tgt := 160) dX7_take_68 (by decide) rfl (fun _ => ?_) (fun _ => ?_)
        · refine pb_aload_n 72 dX7_take_71 rfl rfl rfl ?_
          refine pb_iload_n 73 dX7_take_72 rfl rfl rfl ?_
          refine pb_iload_n 74 dX7_take_73 rfl rfl rfl ?_
          refine pb_iload 76 dX7_take_74 rfl rfl ?_
          refine cl_X7_owedIf 79 ⟨by decide, by decide, by decide, by decide⟩ (Nat.le_of_ble_eq_true rfl) ml_X7_156 dX7_take_76 rfl (fun b76 μ76 => ?_)
          refine pb_istore 81 (i := 7) (L' := [some (.ref (E.2.1 19)), some (.int v1), some (.int v2), some (.int v3), some (.int v4), some (.int v5), some (.int v6), some (.int b76), none]) dX7_take_79 (by decide) rfl rfl rfl ?_
          refine pb_iload 83 dX7_take_81 rfl rfl ?_
          refine pb_bipush 85 (v := -9) dX7_take_83 rfl (by decide) ?_
          refine pb_icmp_eq 88 (tgt := 125) dX7_take_85 (by decide) rfl (fun _ => ?_) (fun _ => ?_)
          · exact tX7_take_J125 l E v1 v2 v3 ih v4 v5 v6 b76 μ76
          · refine pb_iload 90 dX7_take_88 rfl rfl ?_
            refine pb_iload 92 dX7_take_90 rfl rfl ?_
            refine pb_icmp_lt 95 (tgt := 125) dX7_take_92 (by decide) rfl (fun _ => ?_) (fun _ => ?_)
            · exact tX7_take_J125 l E v1 v2 v3 ih v4 v5 v6 b76 μ76
            · refine pb_iload 97 dX7_take_95 rfl rfl ?_
              refine pb_iload 99 dX7_take_97 rfl rfl ?_
              refine pb_icmp_ne 102 (tgt := 129) dX7_take_99 (by decide) rfl (fun _ => ?_) (fun _ => ?_)
              · refine pb_aload_n 103 dX7_take_102 rfl rfl rfl ?_
                refine pb_getR 106 (j := 3) (d := 21) in_X7 rfl (by decide) rfl rfl (by decide) fl_X7_13 dX7_take_103 rfl ?_
                refine pb_bipush 108 (v := 13) dX7_take_106 rfl (by decide) ?_
                refine pb_iload 110 dX7_take_108 rfl rfl ?_
                refine pb_iadd 111 dX7_take_110 rfl ?_
                refine pb_guard (fun hin => pb_iald 112 rfl hin rfl dX7_take_111 rfl ?_)
                refine pb_aload_n 113 dX7_take_112 rfl rfl rfl ?_
                refine pb_getR 116 (j := 3) (d := 21) in_X7 rfl (by decide) rfl rfl (by decide) fl_X7_13 dX7_take_113 rfl ?_
                refine pb_bipush 118 (v := 13) dX7_take_116 rfl (by decide) ?_
                refine pb_iload 120 dX7_take_118 rfl rfl ?_
                refine pb_iadd 121 dX7_take_120 rfl ?_
                refine pb_guard (fun hin => pb_iald 122 rfl hin rfl dX7_take_121 rfl ?_)
                refine pb_icmp_ge 125 (tgt := 129) dX7_take_122 (by decide) rfl (fun _ => ?_) (fun _ => ?_)
                · exact tX7_take_J129 l E v1 v2 v3 ih v4 v5 v6 b76 μ76
                · exact tX7_take_J125 l E v1 v2 v3 ih v4 v5 v6 b76 μ76
              · exact tX7_take_J129 l E v1 v2 v3 ih v4 v5 v6 b76 μ76
        · refine pb_iinc 163 (i := 6) (v := (v6 + (1 : Int32))) (L' := [some (.ref (E.2.1 19)), some (.int v1), some (.int v2), some (.int v3), some (.int v4), some (.int v5), some (.int (v6 + (1 : Int32))), none, none]) dX7_take_160 rfl rfl (by decide) rfl rfl rfl ?_
          refine pb_goto (tgt := 37) dX7_take_163 (by decide) ?_
          exact ih v4 v5 (v6 + (1 : Int32)) μ65
      · refine pb_iinc 163 (i := 6) (v := (v6 + (1 : Int32))) (L' := [some (.ref (E.2.1 19)), some (.int v1), some (.int v2), some (.int v3), some (.int v4), some (.int v5), some (.int (v6 + (1 : Int32))), none, none]) dX7_take_160 rfl rfl (by decide) rfl rfl rfl ?_
        refine pb_goto (tgt := 37) dX7_take_163 (by decide) ?_
        exact ih v4 v5 (v6 + (1 : Int32)) μ
set_option maxRecDepth 100000 in
set_option maxHeartbeats 4000000 in
theorem evX7_take (l : Launch) (E : pb_E) (v1 : Int32) (v2 : Int32) (v3 : Int32)  (μ : pb_M) : ∀ b μ', pX7_take v1 v2 v3 μ = some (b, μ') → pb_Ev l E yX7_take cX7_take 9 (some .int) { frames := 4, cells := 0, slots := 0, locals := 94 } [.ref (E.2.1 19), .int v1, .int v2, .int v3] μ ((fun z : Int32 => some (.int z)) b) μ' := by
  refine pb_enter (L := [some (.ref (E.2.1 19)), some (.int v1), some (.int v2), some (.int v3), none, none, none, none, none]) (by decide +kernel) (Nat.le_of_ble_eq_true rfl) (pb_same [none, none, none, none, none, none, none, none, none] rfl) (show wX7_take l E 0 [some (.ref (E.2.1 19)), some (.int v1), some (.int v2), some (.int v3), none, none, none, none, none] [] μ (pX7_take v1 v2 v3 μ) from ?_)
  unfold pX7_take
  refine pb_aload_n 1 dX7_take_0 rfl rfl rfl ?_
  refine pb_iload_n 2 dX7_take_1 rfl rfl rfl ?_
  refine cl_X7_isPerson 5 ⟨by decide, by decide, by decide, by decide⟩ (Nat.le_of_ble_eq_true rfl) ml_X7_100 dX7_take_2 rfl (fun b2 μ2 => ?_)
  refine pb_if_eq 8 (tgt := 16) dX7_take_5 (by decide) rfl (fun _ => ?_) (fun _ => ?_)
  · refine pb_iconst 17 (v := -1) dX7_take_16 rfl (by decide) ?_
    exact pb_iret dX7_take_17
  · refine pb_aload_n 9 dX7_take_8 rfl rfl rfl ?_
    refine pb_iload_n 10 dX7_take_9 rfl rfl rfl ?_
    refine cl_X7_isPerson 13 ⟨by decide, by decide, by decide, by decide⟩ (Nat.le_of_ble_eq_true rfl) ml_X7_100 dX7_take_10 rfl (fun b10 μ10 => ?_)
    refine pb_if_ne 16 (tgt := 18) dX7_take_13 (by decide) rfl (fun _ => ?_) (fun _ => ?_)
    · refine pb_iconst 17 (v := -1) dX7_take_16 rfl (by decide) ?_
      exact pb_iret dX7_take_17
    · refine pb_iload_n 19 dX7_take_18 rfl rfl rfl ?_
      refine pb_iload_n 20 dX7_take_19 rfl rfl rfl ?_
      refine pb_icmp_ne 23 (tgt := 26) dX7_take_20 (by decide) rfl (fun _ => ?_) (fun _ => ?_)
      · refine pb_bipush 25 (v := -2) dX7_take_23 rfl (by decide) ?_
        exact pb_iret dX7_take_25
      · refine pb_bipush 28 (v := -9) dX7_take_26 rfl (by decide) ?_
        refine pb_istore 30 (i := 4) (L' := [some (.ref (E.2.1 19)), some (.int v1), some (.int v2), some (.int v3), some (.int (-9 : Int32)), none, none, none, none]) dX7_take_28 (by decide) rfl rfl rfl ?_
        refine pb_bipush 32 (v := -9) dX7_take_30 rfl (by decide) ?_
        refine pb_istore 34 (i := 5) (L' := [some (.ref (E.2.1 19)), some (.int v1), some (.int v2), some (.int v3), some (.int (-9 : Int32)), some (.int (-9 : Int32)), none, none, none]) dX7_take_32 (by decide) rfl rfl rfl ?_
        refine pb_iconst 35 (v := 0) dX7_take_34 rfl (by decide) ?_
        refine pb_istore 37 (i := 6) (L' := [some (.ref (E.2.1 19)), some (.int v1), some (.int v2), some (.int v3), some (.int (-9 : Int32)), some (.int (-9 : Int32)), some (.int (0 : Int32)), none, none]) dX7_take_35 (by decide) rfl rfl rfl ?_
        exact tX7_take_L37 l E v1 v2 v3 pb_F (-9 : Int32) (-9 : Int32) (0 : Int32) μ10
theorem mc_X7_take : pb_MC yX7_take cX7_take 9 (some .int) 3 := ⟨pb_inW 1009 (by decide +kernel) (by decide +kernel), pb_inW 68 (by decide +kernel) (by decide +kernel), by decide +kernel, by decide +kernel, by decide +kernel⟩
theorem mi_X7_take : Cond.instanceMethod yX7_take ∈ pb_gw := pb_inW 1007 (by decide +kernel) (by decide +kernel)
theorem ms_X7_take : Cond.selects (yX7_take).cls yX7_take yX7_take ∈ pb_gw := pb_inW 1008 (by decide +kernel) (by decide +kernel)
theorem cl_X7_take {α : Type} {l : Launch} {E : pb_E} {R : Room} {own : String} {cc : ByteArray} {mL : Nat} {ret : Option FieldType} {Xs : State → Prop} {nc ns : Nat} {Qf : State → Array Value → List Frame → α → pb_M → State → Prop} {pc : Nat} {L : List (Option Value)} {S : List Value} {μ : pb_M} {f : Int32 → pb_M → Option (α × pb_M)} {v1 : Int32} {v2 : Int32} {v3 : Int32} {index : Nat} (q : Nat)  (hR : 4 + 1 ≤ R.frames ∧ 8 + (9 + 11) + 94 ≤ R.locals ∧ nc ≤ R.cells ∧ ns ≤ R.slots) (hW : (S.map fun v => v.category).sum ≤ 8) (hl1 : Cond.methodLink own index yX7_take ∈ pb_gw) (hdg : decode cc pc = .ok (.invokevirtual index, 3)) (hq : pc + 3 = q) (k : ∀ b1 μ1, pb_RW l E R own cc mL ret Xs nc ns Qf q L (.int b1 :: S) μ1 (f b1 μ1)) : pb_RW l E R own cc mL ret Xs nc ns Qf pc L (.int v3 :: .int v2 :: .int v1 :: .ref (E.2.1 19) :: S) μ (pb_b (pX7_take v1 v2 v3 μ) f) := pb_callV q (fun z : Int32 => some (.int z)) mc_X7_take mi_X7_take ms_X7_take (fun b1 μ1 h => evX7_take l E v1 v2 v3  μ b1 μ1 h) rfl (by decide) rfl rfl rfl rfl hR rfl hW hl1 hdg hq k
def pX7_power_L4 (v0 : Int32) (v1 : Int32) : Nat → Int32 → Int32 → pb_M → Option (Int32 × pb_M)
  | 0, _, _, _ => none
  | n + 1, v2, v3, μ =>
    if v1 ≤ v3 then
      some (v2, μ)
    else
    pX7_power_L4 v0 v1 n (v2 * v0) (v3 + (1 : Int32)) μ
def pX7_power (v0 : Int32) (v1 : Int32) (μ : pb_M) : Option (Int32 × pb_M) :=
  pX7_power_L4 v0 v1 pb_F (1 : Int32) (0 : Int32) μ
abbrev wX7_power (l : Launch) (E : pb_E) := pb_RW l E { frames := 0, cells := 0, slots := 0, locals := 0 } RX7 cX7_power 4 (some .int) (fun _ => True) 0 0 (pb_Qf E (fun z : Int32 => some (.int z)))
set_option maxRecDepth 100000 in
set_option maxHeartbeats 4000000 in
theorem tX7_power_L4 (l : Launch) (E : pb_E) (v0 : Int32) (v1 : Int32)   : ∀ (n : Nat) (v2 : Int32) (v3 : Int32) (μ : pb_M), wX7_power l E 4 [some (.int v0), some (.int v1), some (.int v2), some (.int v3)] [] μ (pX7_power_L4 v0 v1 n v2 v3 μ) := by
  intro n
  induction n with
  | zero => intro v2 v3 μ; exact pb_none
  | succ n ih =>
    intro v2 v3 μ
    rw [pX7_power_L4]
    refine pb_iload_n 5 dX7_power_4 rfl rfl rfl ?_
    refine pb_iload_n 6 dX7_power_5 rfl rfl rfl ?_
    refine pb_icmp_ge 9 (tgt := 19) dX7_power_6 (by decide) rfl (fun _ => ?_) (fun _ => ?_)
    · refine pb_iload_n 20 dX7_power_19 rfl rfl rfl ?_
      exact pb_iret dX7_power_20
    · refine pb_iload_n 10 dX7_power_9 rfl rfl rfl ?_
      refine pb_iload_n 11 dX7_power_10 rfl rfl rfl ?_
      refine pb_imul 12 dX7_power_11 rfl ?_
      refine pb_istore_n 13 (i := 2) (L' := [some (.int v0), some (.int v1), some (.int (v2 * v0)), some (.int v3)]) dX7_power_12 rfl (by decide) rfl rfl rfl ?_
      refine pb_iinc 16 (i := 3) (v := (v3 + (1 : Int32))) (L' := [some (.int v0), some (.int v1), some (.int (v2 * v0)), some (.int (v3 + (1 : Int32)))]) dX7_power_13 rfl rfl (by decide) rfl rfl rfl ?_
      refine pb_goto (tgt := 4) dX7_power_16 (by decide) ?_
      exact ih (v2 * v0) (v3 + (1 : Int32)) μ
set_option maxRecDepth 100000 in
set_option maxHeartbeats 4000000 in
theorem evX7_power (l : Launch) (E : pb_E) (v0 : Int32) (v1 : Int32)  (μ : pb_M) : ∀ b μ', pX7_power v0 v1 μ = some (b, μ') → pb_Ev l E yX7_power cX7_power 4 (some .int) { frames := 0, cells := 0, slots := 0, locals := 0 } [.int v0, .int v1] μ ((fun z : Int32 => some (.int z)) b) μ' := by
  refine pb_enter (L := [some (.int v0), some (.int v1), none, none]) (by decide +kernel) (Nat.le_of_ble_eq_true rfl) (pb_same [none, none, none, none] rfl) (show wX7_power l E 0 [some (.int v0), some (.int v1), none, none] [] μ (pX7_power v0 v1 μ) from ?_)
  unfold pX7_power
  refine pb_iconst 1 (v := 1) dX7_power_0 rfl (by decide) ?_
  refine pb_istore_n 2 (i := 2) (L' := [some (.int v0), some (.int v1), some (.int (1 : Int32)), none]) dX7_power_1 rfl (by decide) rfl rfl rfl ?_
  refine pb_iconst 3 (v := 0) dX7_power_2 rfl (by decide) ?_
  refine pb_istore_n 4 (i := 3) (L' := [some (.int v0), some (.int v1), some (.int (1 : Int32)), some (.int (0 : Int32))]) dX7_power_3 rfl (by decide) rfl rfl rfl ?_
  exact tX7_power_L4 l E v0 v1 pb_F (1 : Int32) (0 : Int32) μ
theorem mc_X7_power : pb_MC yX7_power cX7_power 4 (some .int) 2 := ⟨pb_inW 1024 (by decide +kernel) (by decide +kernel), pb_inW 68 (by decide +kernel) (by decide +kernel), by decide +kernel, by decide +kernel, by decide +kernel⟩
theorem ms_X7_power : Cond.static yX7_power ∈ pb_gw := pb_inW 1023 (by decide +kernel) (by decide +kernel)
theorem cl_X7_power {α : Type} {l : Launch} {E : pb_E} {R : Room} {own : String} {cc : ByteArray} {mL : Nat} {ret : Option FieldType} {Xs : State → Prop} {nc ns : Nat} {Qf : State → Array Value → List Frame → α → pb_M → State → Prop} {pc : Nat} {L : List (Option Value)} {S : List Value} {μ : pb_M} {f : Int32 → pb_M → Option (α × pb_M)} {v0 : Int32} {v1 : Int32} {index : Nat} (q : Nat)  (hR : 0 + 1 ≤ R.frames ∧ 8 + (4 + 11) + 0 ≤ R.locals ∧ nc ≤ R.cells ∧ ns ≤ R.slots) (hW : (S.map fun v => v.category).sum ≤ 8) (hl1 : Cond.methodLink own index yX7_power ∈ pb_gw) (hdg : decode cc pc = .ok (.invokestatic index, 3)) (hq : pc + 3 = q) (k : ∀ b1 μ1, pb_RW l E R own cc mL ret Xs nc ns Qf q L (.int b1 :: S) μ1 (f b1 μ1)) : pb_RW l E R own cc mL ret Xs nc ns Qf pc L (.int v1 :: .int v0 :: S) μ (pb_b (pX7_power v0 v1 μ) f) := pb_callS q (fun z : Int32 => some (.int z)) mc_X7_power ms_X7_power (fun b1 μ1 h => evX7_power l E v0 v1  μ b1 μ1 h) rfl rfl rfl hR rfl hW hl1 hdg hq k
theorem ml_X7_159 : Cond.methodLink RX7 159 yX7_power ∈ pb_gw := pb_inW 1022 (by decide +kernel) (by decide +kernel)
def pX7_wayOf_L4 (v1 : Int32) : Nat → Int32 → Int32 → pb_M → Option (Int32 × pb_M)
  | 0, _, _, _ => none
  | n + 1, v2, v3, μ =>
    if (μ.1 19 0) ≤ v3 then
      some (v2, μ)
    else
    pb_b (pX7_power ((μ.1 19 1) + (1 : Int32)) (((μ.1 19 0) - (1 : Int32)) - v3) μ) (fun b31 μ31 =>
    if b31 = 0 then none else
    if ((μ31.1 19 1) + (1 : Int32)) = 0 then none else
    pX7_wayOf_L4 v1 n (((10 : Int32) * v2) + (pb_rem (v1 / b31) ((μ31.1 19 1) + (1 : Int32)))) (v3 + (1 : Int32)) μ31)
def pX7_wayOf (v1 : Int32) (μ : pb_M) : Option (Int32 × pb_M) :=
  pX7_wayOf_L4 v1 pb_F (0 : Int32) (0 : Int32) μ
abbrev wX7_wayOf (l : Launch) (E : pb_E) := pb_RW l E { frames := 1, cells := 0, slots := 0, locals := 23 } RX7 cX7_wayOf 4 (some .int) (fun _ => True) 0 0 (pb_Qf E (fun z : Int32 => some (.int z)))
set_option maxRecDepth 100000 in
set_option maxHeartbeats 4000000 in
theorem tX7_wayOf_L4 (l : Launch) (E : pb_E) (v1 : Int32)   : ∀ (n : Nat) (v2 : Int32) (v3 : Int32) (μ : pb_M), wX7_wayOf l E 4 [some (.ref (E.2.1 19)), some (.int v1), some (.int v2), some (.int v3)] [] μ (pX7_wayOf_L4 v1 n v2 v3 μ) := by
  intro n
  induction n with
  | zero => intro v2 v3 μ; exact pb_none
  | succ n ih =>
    intro v2 v3 μ
    rw [pX7_wayOf_L4]
    refine pb_iload_n 5 dX7_wayOf_4 rfl rfl rfl ?_
    refine pb_aload_n 6 dX7_wayOf_5 rfl rfl rfl ?_
    refine pb_getI 9 (j := 0) in_X7 rfl (by decide) rfl rfl (by decide) fl_X7_41 dX7_wayOf_6 rfl ?_
    refine pb_icmp_ge 12 (tgt := 50) dX7_wayOf_9 (by decide) rfl (fun _ => ?_) (fun _ => ?_)
    · refine pb_iload_n 51 dX7_wayOf_50 rfl rfl rfl ?_
      exact pb_iret dX7_wayOf_51
    · refine pb_bipush 14 (v := 10) dX7_wayOf_12 rfl (by decide) ?_
      refine pb_iload_n 15 dX7_wayOf_14 rfl rfl rfl ?_
      refine pb_imul 16 dX7_wayOf_15 rfl ?_
      refine pb_iload_n 17 dX7_wayOf_16 rfl rfl rfl ?_
      refine pb_aload_n 18 dX7_wayOf_17 rfl rfl rfl ?_
      refine pb_getI 21 (j := 1) in_X7 rfl (by decide) rfl rfl (by decide) fl_X7_94 dX7_wayOf_18 rfl ?_
      refine pb_iconst 22 (v := 1) dX7_wayOf_21 rfl (by decide) ?_
      refine pb_iadd 23 dX7_wayOf_22 rfl ?_
      refine pb_aload_n 24 dX7_wayOf_23 rfl rfl rfl ?_
      refine pb_getI 27 (j := 0) in_X7 rfl (by decide) rfl rfl (by decide) fl_X7_41 dX7_wayOf_24 rfl ?_
      refine pb_iconst 28 (v := 1) dX7_wayOf_27 rfl (by decide) ?_
      refine pb_isub 29 dX7_wayOf_28 rfl ?_
      refine pb_iload_n 30 dX7_wayOf_29 rfl rfl rfl ?_
      refine pb_isub 31 dX7_wayOf_30 rfl ?_
      refine cl_X7_power 34 ⟨by decide, by decide, by decide, by decide⟩ (Nat.le_of_ble_eq_true rfl) ml_X7_159 dX7_wayOf_31 rfl (fun b31 μ31 => ?_)
      refine pb_guardN (fun hne => pb_idiv 35 dX7_wayOf_34 rfl hne ?_)
      refine pb_aload_n 36 dX7_wayOf_35 rfl rfl rfl ?_
      refine pb_getI 39 (j := 1) in_X7 rfl (by decide) rfl rfl (by decide) fl_X7_94 dX7_wayOf_36 rfl ?_
      refine pb_iconst 40 (v := 1) dX7_wayOf_39 rfl (by decide) ?_
      refine pb_iadd 41 dX7_wayOf_40 rfl ?_
      refine pb_guardN (fun hne => pb_irem 42 dX7_wayOf_41 rfl hne ?_)
      refine pb_iadd 43 dX7_wayOf_42 rfl ?_
      refine pb_istore_n 44 (i := 2) (L' := [some (.ref (E.2.1 19)), some (.int v1), some (.int (((10 : Int32) * v2) + (pb_rem (v1 / b31) ((μ31.1 19 1) + (1 : Int32))))), some (.int v3)]) dX7_wayOf_43 rfl (by decide) rfl rfl rfl ?_
      refine pb_iinc 47 (i := 3) (v := (v3 + (1 : Int32))) (L' := [some (.ref (E.2.1 19)), some (.int v1), some (.int (((10 : Int32) * v2) + (pb_rem (v1 / b31) ((μ31.1 19 1) + (1 : Int32))))), some (.int (v3 + (1 : Int32)))]) dX7_wayOf_44 rfl rfl (by decide) rfl rfl rfl ?_
      refine pb_goto (tgt := 4) dX7_wayOf_47 (by decide) ?_
      exact ih (((10 : Int32) * v2) + (pb_rem (v1 / b31) ((μ31.1 19 1) + (1 : Int32)))) (v3 + (1 : Int32)) μ31
set_option maxRecDepth 100000 in
set_option maxHeartbeats 4000000 in
theorem evX7_wayOf (l : Launch) (E : pb_E) (v1 : Int32)  (μ : pb_M) : ∀ b μ', pX7_wayOf v1 μ = some (b, μ') → pb_Ev l E yX7_wayOf cX7_wayOf 4 (some .int) { frames := 1, cells := 0, slots := 0, locals := 23 } [.ref (E.2.1 19), .int v1] μ ((fun z : Int32 => some (.int z)) b) μ' := by
  refine pb_enter (L := [some (.ref (E.2.1 19)), some (.int v1), none, none]) (by decide +kernel) (Nat.le_of_ble_eq_true rfl) (pb_same [none, none, none, none] rfl) (show wX7_wayOf l E 0 [some (.ref (E.2.1 19)), some (.int v1), none, none] [] μ (pX7_wayOf v1 μ) from ?_)
  unfold pX7_wayOf
  refine pb_iconst 1 (v := 0) dX7_wayOf_0 rfl (by decide) ?_
  refine pb_istore_n 2 (i := 2) (L' := [some (.ref (E.2.1 19)), some (.int v1), some (.int (0 : Int32)), none]) dX7_wayOf_1 rfl (by decide) rfl rfl rfl ?_
  refine pb_iconst 3 (v := 0) dX7_wayOf_2 rfl (by decide) ?_
  refine pb_istore_n 4 (i := 3) (L' := [some (.ref (E.2.1 19)), some (.int v1), some (.int (0 : Int32)), some (.int (0 : Int32))]) dX7_wayOf_3 rfl (by decide) rfl rfl rfl ?_
  exact tX7_wayOf_L4 l E v1 pb_F (0 : Int32) (0 : Int32) μ
theorem mc_X7_wayOf : pb_MC yX7_wayOf cX7_wayOf 4 (some .int) 1 := ⟨pb_inW 1032 (by decide +kernel) (by decide +kernel), pb_inW 68 (by decide +kernel) (by decide +kernel), by decide +kernel, by decide +kernel, by decide +kernel⟩
theorem mi_X7_wayOf : Cond.instanceMethod yX7_wayOf ∈ pb_gw := pb_inW 1031 (by decide +kernel) (by decide +kernel)
theorem ms_X7_wayOf : Cond.selects (yX7_wayOf).cls yX7_wayOf yX7_wayOf ∈ pb_gw := pb_inW 50 (by decide +kernel) (by decide +kernel)
theorem cl_X7_wayOf {α : Type} {l : Launch} {E : pb_E} {R : Room} {own : String} {cc : ByteArray} {mL : Nat} {ret : Option FieldType} {Xs : State → Prop} {nc ns : Nat} {Qf : State → Array Value → List Frame → α → pb_M → State → Prop} {pc : Nat} {L : List (Option Value)} {S : List Value} {μ : pb_M} {f : Int32 → pb_M → Option (α × pb_M)} {v1 : Int32} {index : Nat} (q : Nat)  (hR : 1 + 1 ≤ R.frames ∧ 8 + (4 + 11) + 23 ≤ R.locals ∧ nc ≤ R.cells ∧ ns ≤ R.slots) (hW : (S.map fun v => v.category).sum ≤ 8) (hl1 : Cond.methodLink own index yX7_wayOf ∈ pb_gw) (hdg : decode cc pc = .ok (.invokevirtual index, 3)) (hq : pc + 3 = q) (k : ∀ b1 μ1, pb_RW l E R own cc mL ret Xs nc ns Qf q L (.int b1 :: S) μ1 (f b1 μ1)) : pb_RW l E R own cc mL ret Xs nc ns Qf pc L (.int v1 :: .ref (E.2.1 19) :: S) μ (pb_b (pX7_wayOf v1 μ) f) := pb_callV q (fun z : Int32 => some (.int z)) mc_X7_wayOf mi_X7_wayOf ms_X7_wayOf (fun b1 μ1 h => evX7_wayOf l E v1  μ b1 μ1 h) rfl (by decide) rfl rfl rfl rfl hR rfl hW hl1 hdg hq k
def pX7_getBy_L5 (v1 : Int32) (v2 : Int32) (K96 : Int32 → pb_M → Option (Int32 × pb_M)) : Nat → Int32 → Int32 → pb_M → Option (Int32 × pb_M)
  | 0, _, _, _ => none
  | n + 1, v3, v4, μ =>
    if (μ.1 19 0) ≤ v4 then
      K96 v3 μ
    else
    pb_b (pX7_power ((μ.1 19 1) + (1 : Int32)) (((μ.1 19 0) - (1 : Int32)) - v4) μ) (fun b30 μ30 =>
    if b30 = 0 then none else
    if ((μ30.1 19 1) + (1 : Int32)) = 0 then none else
    if ((pb_rem (v1 / b30) ((μ30.1 19 1) + (1 : Int32))) - (1 : Int32)) < (0 : Int32) then
      pX7_getBy_L5 v1 v2 K96 n v3 (v4 + (1 : Int32)) μ30
    else
    pb_b (pX7_has v2 v4 μ30) (fun b53 μ53 =>
    if b53 = (0 : Int32) then
      some ((-9 : Int32), μ53)
    else
    pb_b (pX7_has v3 ((pb_rem (v1 / b30) ((μ30.1 19 1) + (1 : Int32))) - (1 : Int32)) μ53) (fun b62 μ62 =>
    if b62 = (0 : Int32) then
      pb_b (pX7_clauseOn (0 : Int32) v4 ((pb_rem (v1 / b30) ((μ30.1 19 1) + (1 : Int32))) - (1 : Int32)) μ62) (fun b74 μ74 =>
      if b74 = (0 : Int32) then
        pX7_getBy_L5 v1 v2 K96 n (v3 ||| ((1 : Int32) <<< (((pb_rem (v1 / b30) ((μ30.1 19 1) + (1 : Int32))) - (1 : Int32)) &&& 31))) (v4 + (1 : Int32)) μ74
      else
      some ((-9 : Int32), μ74))
    else
    some ((-9 : Int32), μ62))))
def pX7_getBy (v1 : Int32) (v2 : Int32) (μ : pb_M) : Option (Int32 × pb_M) :=
  pX7_getBy_L5 v1 v2 (fun x3k96 μk96 =>
    pb_b (pX7_ones x3k96 μk96) (fun b97 μ97 =>
    some (b97, μ97))) pb_F (0 : Int32) (0 : Int32) μ
abbrev wX7_getBy (l : Launch) (E : pb_E) := pb_RW l E { frames := 2, cells := 0, slots := 0, locals := 47 } RX7 cX7_getBy 6 (some .int) (fun _ => True) 0 0 (pb_Qf E (fun z : Int32 => some (.int z)))
set_option maxRecDepth 100000 in
set_option maxHeartbeats 4000000 in
theorem tX7_getBy_L5 (l : Launch) (E : pb_E) (v1 : Int32) (v2 : Int32) {K96 : Int32 → pb_M → Option (Int32 × pb_M)} (hK96 : ∀ (w3 : Int32) (μ : pb_M), wX7_getBy l E 96 [some (.ref (E.2.1 19)), none, none, some (.int w3), none, none] [] μ (K96 w3 μ)) : ∀ (n : Nat) (v3 : Int32) (v4 : Int32) (μ : pb_M), wX7_getBy l E 5 [some (.ref (E.2.1 19)), some (.int v1), some (.int v2), some (.int v3), some (.int v4), none] [] μ (pX7_getBy_L5 v1 v2 K96 n v3 v4 μ) := by
  intro n
  induction n with
  | zero => intro v3 v4 μ; exact pb_none
  | succ n ih =>
    intro v3 v4 μ
    rw [pX7_getBy_L5]
    refine pb_iload 7 dX7_getBy_5 rfl rfl ?_
    refine pb_aload_n 8 dX7_getBy_7 rfl rfl rfl ?_
    refine pb_getI 11 (j := 0) in_X7 rfl (by decide) rfl rfl (by decide) fl_X7_41 dX7_getBy_8 rfl ?_
    refine pb_icmp_ge 14 (tgt := 96) dX7_getBy_11 (by decide) rfl (fun _ => ?_) (fun _ => ?_)
    · refine pb_weakM (L' := [some (.ref (E.2.1 19)), none, none, some (.int v3), none, none]) [true, false, false, true, false, false] rfl ?_
      exact hK96 v3 μ
    · refine pb_iload_n 15 dX7_getBy_14 rfl rfl rfl ?_
      refine pb_aload_n 16 dX7_getBy_15 rfl rfl rfl ?_
      refine pb_getI 19 (j := 1) in_X7 rfl (by decide) rfl rfl (by decide) fl_X7_94 dX7_getBy_16 rfl ?_
      refine pb_iconst 20 (v := 1) dX7_getBy_19 rfl (by decide) ?_
      refine pb_iadd 21 dX7_getBy_20 rfl ?_
      refine pb_aload_n 22 dX7_getBy_21 rfl rfl rfl ?_
      refine pb_getI 25 (j := 0) in_X7 rfl (by decide) rfl rfl (by decide) fl_X7_41 dX7_getBy_22 rfl ?_
      refine pb_iconst 26 (v := 1) dX7_getBy_25 rfl (by decide) ?_
      refine pb_isub 27 dX7_getBy_26 rfl ?_
      refine pb_iload 29 dX7_getBy_27 rfl rfl ?_
      refine pb_isub 30 dX7_getBy_29 rfl ?_
      refine cl_X7_power 33 ⟨by decide, by decide, by decide, by decide⟩ (Nat.le_of_ble_eq_true rfl) ml_X7_159 dX7_getBy_30 rfl (fun b30 μ30 => ?_)
      refine pb_guardN (fun hne => pb_idiv 34 dX7_getBy_33 rfl hne ?_)
      refine pb_aload_n 35 dX7_getBy_34 rfl rfl rfl ?_
      refine pb_getI 38 (j := 1) in_X7 rfl (by decide) rfl rfl (by decide) fl_X7_94 dX7_getBy_35 rfl ?_
      refine pb_iconst 39 (v := 1) dX7_getBy_38 rfl (by decide) ?_
      refine pb_iadd 40 dX7_getBy_39 rfl ?_
      refine pb_guardN (fun hne => pb_irem 41 dX7_getBy_40 rfl hne ?_)
      refine pb_iconst 42 (v := 1) dX7_getBy_41 rfl (by decide) ?_
      refine pb_isub 43 dX7_getBy_42 rfl ?_
      refine pb_istore 45 (i := 5) (L' := [some (.ref (E.2.1 19)), some (.int v1), some (.int v2), some (.int v3), some (.int v4), some (.int ((pb_rem (v1 / b30) ((μ30.1 19 1) + (1 : Int32))) - (1 : Int32)))]) dX7_getBy_43 (by decide) rfl rfl rfl ?_
      refine pb_iload 47 dX7_getBy_45 rfl rfl ?_
      refine pb_if_lt 50 (tgt := 90) dX7_getBy_47 (by decide) rfl (fun _ => ?_) (fun _ => ?_)
      · refine pb_iinc 93 (i := 4) (v := (v4 + (1 : Int32))) (L' := [some (.ref (E.2.1 19)), some (.int v1), some (.int v2), some (.int v3), some (.int (v4 + (1 : Int32))), some (.int ((pb_rem (v1 / b30) ((μ30.1 19 1) + (1 : Int32))) - (1 : Int32)))]) dX7_getBy_90 rfl rfl (by decide) rfl rfl rfl ?_
        refine pb_goto (tgt := 5) dX7_getBy_93 (by decide) ?_
        refine pb_weakM (L' := [some (.ref (E.2.1 19)), some (.int v1), some (.int v2), some (.int v3), some (.int (v4 + (1 : Int32))), none]) [true, true, true, true, true, false] rfl ?_
        exact ih v3 (v4 + (1 : Int32)) μ30
      · refine pb_iload_n 51 dX7_getBy_50 rfl rfl rfl ?_
        refine pb_iload 53 dX7_getBy_51 rfl rfl ?_
        refine cl_X7_has 56 ⟨by decide, by decide, by decide, by decide⟩ (Nat.le_of_ble_eq_true rfl) ml_X7_62 dX7_getBy_53 rfl (fun b53 μ53 => ?_)
        refine pb_if_eq 59 (tgt := 80) dX7_getBy_56 (by decide) rfl (fun _ => ?_) (fun _ => ?_)
        · refine pb_bipush 82 (v := -9) dX7_getBy_80 rfl (by decide) ?_
          exact pb_iret dX7_getBy_82
        · refine pb_iload_n 60 dX7_getBy_59 rfl rfl rfl ?_
          refine pb_iload 62 dX7_getBy_60 rfl rfl ?_
          refine cl_X7_has 65 ⟨by decide, by decide, by decide, by decide⟩ (Nat.le_of_ble_eq_true rfl) ml_X7_62 dX7_getBy_62 rfl (fun b62 μ62 => ?_)
          refine pb_if_ne 68 (tgt := 80) dX7_getBy_65 (by decide) rfl (fun _ => ?_) (fun _ => ?_)
          · refine pb_aload_n 69 dX7_getBy_68 rfl rfl rfl ?_
            refine pb_iconst 70 (v := 0) dX7_getBy_69 rfl (by decide) ?_
            refine pb_iload 72 dX7_getBy_70 rfl rfl ?_
            refine pb_iload 74 dX7_getBy_72 rfl rfl ?_
            refine cl_X7_clauseOn 77 ⟨by decide, by decide, by decide, by decide⟩ (Nat.le_of_ble_eq_true rfl) ml_X7_129 dX7_getBy_74 rfl (fun b74 μ74 => ?_)
            refine pb_if_eq 80 (tgt := 83) dX7_getBy_77 (by decide) rfl (fun _ => ?_) (fun _ => ?_)
            · refine pb_iload_n 84 dX7_getBy_83 rfl rfl rfl ?_
              refine pb_iconst 85 (v := 1) dX7_getBy_84 rfl (by decide) ?_
              refine pb_iload 87 dX7_getBy_85 rfl rfl ?_
              refine pb_ishl 88 dX7_getBy_87 rfl ?_
              refine pb_ior 89 dX7_getBy_88 rfl ?_
              refine pb_istore_n 90 (i := 3) (L' := [some (.ref (E.2.1 19)), some (.int v1), some (.int v2), some (.int (v3 ||| ((1 : Int32) <<< (((pb_rem (v1 / b30) ((μ30.1 19 1) + (1 : Int32))) - (1 : Int32)) &&& 31)))), some (.int v4), some (.int ((pb_rem (v1 / b30) ((μ30.1 19 1) + (1 : Int32))) - (1 : Int32)))]) dX7_getBy_89 rfl (by decide) rfl rfl rfl ?_
              refine pb_iinc 93 (i := 4) (v := (v4 + (1 : Int32))) (L' := [some (.ref (E.2.1 19)), some (.int v1), some (.int v2), some (.int (v3 ||| ((1 : Int32) <<< (((pb_rem (v1 / b30) ((μ30.1 19 1) + (1 : Int32))) - (1 : Int32)) &&& 31)))), some (.int (v4 + (1 : Int32))), some (.int ((pb_rem (v1 / b30) ((μ30.1 19 1) + (1 : Int32))) - (1 : Int32)))]) dX7_getBy_90 rfl rfl (by decide) rfl rfl rfl ?_
              refine pb_goto (tgt := 5) dX7_getBy_93 (by decide) ?_
              refine pb_weakM (L' := [some (.ref (E.2.1 19)), some (.int v1), some (.int v2), some (.int (v3 ||| ((1 : Int32) <<< (((pb_rem (v1 / b30) ((μ30.1 19 1) + (1 : Int32))) - (1 : Int32)) &&& 31)))), some (.int (v4 + (1 : Int32))), none]) [true, true, true, true, true, false] rfl ?_
              exact ih (v3 ||| ((1 : Int32) <<< (((pb_rem (v1 / b30) ((μ30.1 19 1) + (1 : Int32))) - (1 : Int32)) &&& 31))) (v4 + (1 : Int32)) μ74
            · refine pb_bipush 82 (v := -9) dX7_getBy_80 rfl (by decide) ?_
              exact pb_iret dX7_getBy_82
          · refine pb_bipush 82 (v := -9) dX7_getBy_80 rfl (by decide) ?_
            exact pb_iret dX7_getBy_82
set_option maxRecDepth 100000 in
set_option maxHeartbeats 4000000 in
theorem evX7_getBy (l : Launch) (E : pb_E) (v1 : Int32) (v2 : Int32)  (μ : pb_M) : ∀ b μ', pX7_getBy v1 v2 μ = some (b, μ') → pb_Ev l E yX7_getBy cX7_getBy 6 (some .int) { frames := 2, cells := 0, slots := 0, locals := 47 } [.ref (E.2.1 19), .int v1, .int v2] μ ((fun z : Int32 => some (.int z)) b) μ' := by
  refine pb_enter (L := [some (.ref (E.2.1 19)), some (.int v1), some (.int v2), none, none, none]) (by decide +kernel) (Nat.le_of_ble_eq_true rfl) (pb_same [none, none, none, none, none, none] rfl) (show wX7_getBy l E 0 [some (.ref (E.2.1 19)), some (.int v1), some (.int v2), none, none, none] [] μ (pX7_getBy v1 v2 μ) from ?_)
  unfold pX7_getBy
  refine pb_iconst 1 (v := 0) dX7_getBy_0 rfl (by decide) ?_
  refine pb_istore_n 2 (i := 3) (L' := [some (.ref (E.2.1 19)), some (.int v1), some (.int v2), some (.int (0 : Int32)), none, none]) dX7_getBy_1 rfl (by decide) rfl rfl rfl ?_
  refine pb_iconst 3 (v := 0) dX7_getBy_2 rfl (by decide) ?_
  refine pb_istore 5 (i := 4) (L' := [some (.ref (E.2.1 19)), some (.int v1), some (.int v2), some (.int (0 : Int32)), some (.int (0 : Int32)), none]) dX7_getBy_3 (by decide) rfl rfl rfl ?_
  refine tX7_getBy_L5 l E v1 v2 (fun x3k96 μk96 => ?_) pb_F (0 : Int32) (0 : Int32) μ
  refine pb_iload_n 97 dX7_getBy_96 rfl rfl rfl ?_
  refine cl_X7_ones 100 ⟨by decide, by decide, by decide, by decide⟩ (Nat.le_of_ble_eq_true rfl) ml_X7_141 dX7_getBy_97 rfl (fun b97 μ97 => ?_)
  exact pb_iret dX7_getBy_100
theorem mc_X7_getBy : pb_MC yX7_getBy cX7_getBy 6 (some .int) 2 := ⟨pb_inW 1028 (by decide +kernel) (by decide +kernel), pb_inW 68 (by decide +kernel) (by decide +kernel), by decide +kernel, by decide +kernel, by decide +kernel⟩
theorem mi_X7_getBy : Cond.instanceMethod yX7_getBy ∈ pb_gw := pb_inW 1027 (by decide +kernel) (by decide +kernel)
theorem ms_X7_getBy : Cond.selects (yX7_getBy).cls yX7_getBy yX7_getBy ∈ pb_gw := pb_inW 49 (by decide +kernel) (by decide +kernel)
theorem cl_X7_getBy {α : Type} {l : Launch} {E : pb_E} {R : Room} {own : String} {cc : ByteArray} {mL : Nat} {ret : Option FieldType} {Xs : State → Prop} {nc ns : Nat} {Qf : State → Array Value → List Frame → α → pb_M → State → Prop} {pc : Nat} {L : List (Option Value)} {S : List Value} {μ : pb_M} {f : Int32 → pb_M → Option (α × pb_M)} {v1 : Int32} {v2 : Int32} {index : Nat} (q : Nat)  (hR : 2 + 1 ≤ R.frames ∧ 8 + (6 + 11) + 47 ≤ R.locals ∧ nc ≤ R.cells ∧ ns ≤ R.slots) (hW : (S.map fun v => v.category).sum ≤ 8) (hl1 : Cond.methodLink own index yX7_getBy ∈ pb_gw) (hdg : decode cc pc = .ok (.invokevirtual index, 3)) (hq : pc + 3 = q) (k : ∀ b1 μ1, pb_RW l E R own cc mL ret Xs nc ns Qf q L (.int b1 :: S) μ1 (f b1 μ1)) : pb_RW l E R own cc mL ret Xs nc ns Qf pc L (.int v2 :: .int v1 :: .ref (E.2.1 19) :: S) μ (pb_b (pX7_getBy v1 v2 μ) f) := pb_callV q (fun z : Int32 => some (.int z)) mc_X7_getBy mi_X7_getBy ms_X7_getBy (fun b1 μ1 h => evX7_getBy l E v1 v2  μ b1 μ1 h) rfl (by decide) rfl rfl rfl rfl hR rfl hW hl1 hdg hq k
