theorem ml_X5_89 : Cond.methodLink RX5 89 yX5_feed ∈ pb_gw := pb_inW 448 (by decide +kernel) (by decide +kernel)
def pX5_passDay_L2 (h0 : Nat) : Nat → Int32 → pb_M → Option (Unit × pb_M)
  | 0, _, _ => none
  | n + 1, v1, μ =>
    pb_b (pX5_beasts h0 μ) (fun b4 μ4 =>
    if b4 ≤ v1 then
      some ((), (pb_sA μ4 (h0 + 1) (upd (μ4.1 (h0 + 1)) 2 ((μ4.1 (h0 + 1) 2) + (1 : Int32)))))
    else
    pb_b (pX5_isShut h0 v1 μ4) (fun b12 μ12 =>
    if b12 = (0 : Int32) then
      pX5_passDay_L2 h0 n (v1 + (1 : Int32)) μ12
    else
    pb_b (pX5_feed h0 v1 μ12) (fun b20 μ20 =>
    pX5_passDay_L2 h0 n (v1 + (1 : Int32)) μ20)))
def pX5_passDay (h0 : Nat) (μ : pb_M) : Option (Unit × pb_M) :=
  pX5_passDay_L2 h0 pb_F (0 : Int32) μ
abbrev wX5_passDay (l : Launch) (E : pb_E) := pb_RW l E { frames := 3, cells := 0, slots := 0, locals := 65 } RX5 cX5_passDay 2 none (fun _ => True) 0 0 (pb_Qf E (fun _ : Unit => none))
set_option maxRecDepth 100000 in
set_option maxHeartbeats 4000000 in
theorem tX5_passDay_L2 (l : Launch) (E : pb_E) (h0 : Nat) (hv0 : pb_V h0)   : ∀ (n : Nat) (v1 : Int32) (μ : pb_M), wX5_passDay l E 2 [some (.ref (E.2.1 h0)), some (.int v1)] [] μ (pX5_passDay_L2 h0 n v1 μ) := by
  intro n
  induction n with
  | zero => intro v1 μ; exact pb_none
  | succ n ih =>
    intro v1 μ
    rw [pX5_passDay_L2]
    refine pb_iload_n 3 dX5_passDay_2 rfl rfl rfl ?_
    refine pb_aload_n 4 dX5_passDay_3 rfl rfl rfl ?_
    refine cl_X5_beasts 7 hv0 ⟨by decide, by decide, by decide, by decide⟩ (Nat.le_of_ble_eq_true rfl) ml_X5_31 dX5_passDay_4 rfl (fun b4 μ4 => ?_)
    refine pb_icmp_ge 10 (tgt := 29) dX5_passDay_7 (by decide) rfl (fun _ => ?_) (fun _ => ?_)
    · refine pb_aload_n 30 dX5_passDay_29 rfl rfl rfl ?_
      refine pb_getR 33 (j := 0) (d := (h0 + 1)) in_X5 rfl (by decide) hv0.1 rfl (by decide) fl_X5_11 dX5_passDay_30 rfl ?_
      refine pb_iconst 34 (v := 2) dX5_passDay_33 rfl (by decide) ?_
      refine pb_dup2 35 dX5_passDay_34 rfl rfl rfl ?_
      refine pb_iald 36 (j := 2) hv0.2 (by decide) (by decide) dX5_passDay_35 rfl ?_
      refine pb_iconst 37 (v := 1) dX5_passDay_36 rfl (by decide) ?_
      refine pb_iadd 38 dX5_passDay_37 rfl ?_
      refine pb_iast 39 (j := 2) hv0.2 (by decide) (by decide) dX5_passDay_38 rfl ?_
      exact pb_vret dX5_passDay_39
    · refine pb_aload_n 11 dX5_passDay_10 rfl rfl rfl ?_
      refine pb_iload_n 12 dX5_passDay_11 rfl rfl rfl ?_
      refine cl_X5_isShut 15 hv0 ⟨by decide, by decide, by decide, by decide⟩ (Nat.le_of_ble_eq_true rfl) ml_X5_41 dX5_passDay_12 rfl (fun b12 μ12 => ?_)
      refine pb_if_eq 18 (tgt := 23) dX5_passDay_15 (by decide) rfl (fun _ => ?_) (fun _ => ?_)
      · refine pb_iinc 26 (i := 1) (v := (v1 + (1 : Int32))) (L' := [some (.ref (E.2.1 h0)), some (.int (v1 + (1 : Int32)))]) dX5_passDay_23 rfl rfl (by decide) rfl rfl rfl ?_
        refine pb_goto (tgt := 2) dX5_passDay_26 (by decide) ?_
        exact ih (v1 + (1 : Int32)) μ12
      · refine pb_aload_n 19 dX5_passDay_18 rfl rfl rfl ?_
        refine pb_iload_n 20 dX5_passDay_19 rfl rfl rfl ?_
        refine cl_X5_feed 23 hv0 ⟨by decide, by decide, by decide, by decide⟩ (Nat.le_of_ble_eq_true rfl) ml_X5_89 dX5_passDay_20 rfl (fun b20 μ20 => ?_)
        refine pb_iinc 26 (i := 1) (v := (v1 + (1 : Int32))) (L' := [some (.ref (E.2.1 h0)), some (.int (v1 + (1 : Int32)))]) dX5_passDay_23 rfl rfl (by decide) rfl rfl rfl ?_
        refine pb_goto (tgt := 2) dX5_passDay_26 (by decide) ?_
        exact ih (v1 + (1 : Int32)) μ20
set_option maxRecDepth 100000 in
set_option maxHeartbeats 4000000 in
theorem evX5_passDay (l : Launch) (E : pb_E) (h0 : Nat) (hv0 : pb_V h0) (μ : pb_M) : ∀ b μ', pX5_passDay h0 μ = some (b, μ') → pb_Ev l E yX5_passDay cX5_passDay 2 none { frames := 3, cells := 0, slots := 0, locals := 65 } [.ref (E.2.1 h0)] μ ((fun _ : Unit => none) b) μ' := by
  refine pb_enter (L := [some (.ref (E.2.1 h0)), none]) (by decide +kernel) (Nat.le_of_ble_eq_true rfl) (pb_same [none, none] rfl) (show wX5_passDay l E 0 [some (.ref (E.2.1 h0)), none] [] μ (pX5_passDay h0 μ) from ?_)
  unfold pX5_passDay
  refine pb_iconst 1 (v := 0) dX5_passDay_0 rfl (by decide) ?_
  refine pb_istore_n 2 (i := 1) (L' := [some (.ref (E.2.1 h0)), some (.int (0 : Int32))]) dX5_passDay_1 rfl (by decide) rfl rfl rfl ?_
  exact tX5_passDay_L2 l E h0 hv0 pb_F (0 : Int32) μ
theorem mc_X5_passDay : pb_MC yX5_passDay cX5_passDay 2 none 0 := ⟨pb_inW 447 (by decide +kernel) (by decide +kernel), pb_inW 63 (by decide +kernel) (by decide +kernel), by decide +kernel, by decide +kernel, by decide +kernel⟩
theorem mi_X5_passDay : Cond.instanceMethod yX5_passDay ∈ pb_gw := pb_inW 445 (by decide +kernel) (by decide +kernel)
theorem ms_X5_passDay : Cond.selects (yX5_passDay).cls yX5_passDay yX5_passDay ∈ pb_gw := pb_inW 446 (by decide +kernel) (by decide +kernel)
theorem cl_X5_passDay {α : Type} {l : Launch} {E : pb_E} {R : Room} {own : String} {cc : ByteArray} {mL : Nat} {ret : Option FieldType} {Xs : State → Prop} {nc ns : Nat} {Qf : State → Array Value → List Frame → α → pb_M → State → Prop} {pc : Nat} {L : List (Option Value)} {S : List Value} {μ : pb_M} {f : Unit → pb_M → Option (α × pb_M)} {h0 : Nat} {index : Nat} (q : Nat) (hv0 : pb_V h0) (hR : 3 + 1 ≤ R.frames ∧ 8 + (2 + 11) + 65 ≤ R.locals ∧ nc ≤ R.cells ∧ ns ≤ R.slots) (hW : (S.map fun v => v.category).sum ≤ 8) (hl1 : Cond.methodLink own index yX5_passDay ∈ pb_gw) (hdg : decode cc pc = .ok (.invokevirtual index, 3)) (hq : pc + 3 = q) (k : ∀ b1 μ1, pb_RW l E R own cc mL ret Xs nc ns Qf q L S μ1 (f b1 μ1)) : pb_RW l E R own cc mL ret Xs nc ns Qf pc L (.ref (E.2.1 h0) :: S) μ (pb_b (pX5_passDay h0 μ) f) := pb_callV q (fun _ : Unit => none) mc_X5_passDay mi_X5_passDay ms_X5_passDay (fun b1 μ1 h => evX5_passDay l E h0 hv0 μ b1 μ1 h) hv0.1 (by decide) rfl rfl rfl rfl hR rfl hW hl1 hdg hq k
def pX5_sendHome_L2 (h0 : Nat) (v1 : Int32) (v2 : Int32) : Nat → Int32 → pb_M → Option (Unit × pb_M)
  | 0, _, _ => none
  | n + 1, v3, μ =>
    pb_b (pX5_beasts h0 μ) (fun b4 μ4 =>
    if b4 ≤ v3 then
      some ((), μ4)
    else
    pb_b (pX5_ownerOf h0 v3 μ4) (fun b12 μ12 =>
    if b12 = v1 then
      pb_b (pX5_holderOf h0 v3 μ12) (fun b21 μ21 =>
      if b21 = v2 then
        pb_b (pX5_goHome h0 v3 μ21) (fun b30 μ30 =>
        pX5_sendHome_L2 h0 v1 v2 n (v3 + (1 : Int32)) μ30)
      else
      pX5_sendHome_L2 h0 v1 v2 n (v3 + (1 : Int32)) μ21)
    else
    pX5_sendHome_L2 h0 v1 v2 n (v3 + (1 : Int32)) μ12))
def pX5_sendHome (h0 : Nat) (v1 : Int32) (v2 : Int32) (μ : pb_M) : Option (Unit × pb_M) :=
  pX5_sendHome_L2 h0 v1 v2 pb_F (0 : Int32) μ
abbrev wX5_sendHome (l : Launch) (E : pb_E) := pb_RW l E { frames := 1, cells := 0, slots := 0, locals := 21 } RX5 cX5_sendHome 4 none (fun _ => True) 0 0 (pb_Qf E (fun _ : Unit => none))
set_option maxRecDepth 100000 in
set_option maxHeartbeats 4000000 in
theorem tX5_sendHome_L2 (l : Launch) (E : pb_E) (h0 : Nat) (hv0 : pb_V h0) (v1 : Int32) (v2 : Int32)   : ∀ (n : Nat) (v3 : Int32) (μ : pb_M), wX5_sendHome l E 2 [some (.ref (E.2.1 h0)), some (.int v1), some (.int v2), some (.int v3)] [] μ (pX5_sendHome_L2 h0 v1 v2 n v3 μ) := by
  intro n
  induction n with
  | zero => intro v3 μ; exact pb_none
  | succ n ih =>
    intro v3 μ
    rw [pX5_sendHome_L2]
    refine pb_iload_n 3 dX5_sendHome_2 rfl rfl rfl ?_
    refine pb_aload_n 4 dX5_sendHome_3 rfl rfl rfl ?_
    refine cl_X5_beasts 7 hv0 ⟨by decide, by decide, by decide, by decide⟩ (Nat.le_of_ble_eq_true rfl) ml_X5_31 dX5_sendHome_4 rfl (fun b4 μ4 => ?_)
    refine pb_icmp_ge 10 (tgt := 39) dX5_sendHome_7 (by decide) rfl (fun _ => ?_) (fun _ => ?_)
    · exact pb_vret dX5_sendHome_39
    · refine pb_aload_n 11 dX5_sendHome_10 rfl rfl rfl ?_
      refine pb_iload_n 12 dX5_sendHome_11 rfl rfl rfl ?_
      refine cl_X5_ownerOf 15 hv0 ⟨by decide, by decide, by decide, by decide⟩ (Nat.le_of_ble_eq_true rfl) ml_X5_48 dX5_sendHome_12 rfl (fun b12 μ12 => ?_)
      refine pb_iload_n 16 dX5_sendHome_15 rfl rfl rfl ?_
      refine pb_icmp_ne 19 (tgt := 33) dX5_sendHome_16 (by decide) rfl (fun _ => ?_) (fun _ => ?_)
      · refine pb_aload_n 20 dX5_sendHome_19 rfl rfl rfl ?_
        refine pb_iload_n 21 dX5_sendHome_20 rfl rfl rfl ?_
        refine cl_X5_holderOf 24 hv0 ⟨by decide, by decide, by decide, by decide⟩ (Nat.le_of_ble_eq_true rfl) ml_X5_38 dX5_sendHome_21 rfl (fun b21 μ21 => ?_)
        refine pb_iload_n 25 dX5_sendHome_24 rfl rfl rfl ?_
        refine pb_icmp_ne 28 (tgt := 33) dX5_sendHome_25 (by decide) rfl (fun _ => ?_) (fun _ => ?_)
        · refine pb_aload_n 29 dX5_sendHome_28 rfl rfl rfl ?_
          refine pb_iload_n 30 dX5_sendHome_29 rfl rfl rfl ?_
          refine cl_X5_goHome 33 hv0 ⟨by decide, by decide, by decide, by decide⟩ (Nat.le_of_ble_eq_true rfl) ml_X5_96 dX5_sendHome_30 rfl (fun b30 μ30 => ?_)
          refine pb_iinc 36 (i := 3) (v := (v3 + (1 : Int32))) (L' := [some (.ref (E.2.1 h0)), some (.int v1), some (.int v2), some (.int (v3 + (1 : Int32)))]) dX5_sendHome_33 rfl rfl (by decide) rfl rfl rfl ?_
          refine pb_goto (tgt := 2) dX5_sendHome_36 (by decide) ?_
          exact ih (v3 + (1 : Int32)) μ30
        · refine pb_iinc 36 (i := 3) (v := (v3 + (1 : Int32))) (L' := [some (.ref (E.2.1 h0)), some (.int v1), some (.int v2), some (.int (v3 + (1 : Int32)))]) dX5_sendHome_33 rfl rfl (by decide) rfl rfl rfl ?_
          refine pb_goto (tgt := 2) dX5_sendHome_36 (by decide) ?_
          exact ih (v3 + (1 : Int32)) μ21
      · refine pb_iinc 36 (i := 3) (v := (v3 + (1 : Int32))) (L' := [some (.ref (E.2.1 h0)), some (.int v1), some (.int v2), some (.int (v3 + (1 : Int32)))]) dX5_sendHome_33 rfl rfl (by decide) rfl rfl rfl ?_
        refine pb_goto (tgt := 2) dX5_sendHome_36 (by decide) ?_
        exact ih (v3 + (1 : Int32)) μ12
set_option maxRecDepth 100000 in
set_option maxHeartbeats 4000000 in
theorem evX5_sendHome (l : Launch) (E : pb_E) (h0 : Nat) (v1 : Int32) (v2 : Int32) (hv0 : pb_V h0) (μ : pb_M) : ∀ b μ', pX5_sendHome h0 v1 v2 μ = some (b, μ') → pb_Ev l E yX5_sendHome cX5_sendHome 4 none { frames := 1, cells := 0, slots := 0, locals := 21 } [.ref (E.2.1 h0), .int v1, .int v2] μ ((fun _ : Unit => none) b) μ' := by
  refine pb_enter (L := [some (.ref (E.2.1 h0)), some (.int v1), some (.int v2), none]) (by decide +kernel) (Nat.le_of_ble_eq_true rfl) (pb_same [none, none, none, none] rfl) (show wX5_sendHome l E 0 [some (.ref (E.2.1 h0)), some (.int v1), some (.int v2), none] [] μ (pX5_sendHome h0 v1 v2 μ) from ?_)
  unfold pX5_sendHome
  refine pb_iconst 1 (v := 0) dX5_sendHome_0 rfl (by decide) ?_
  refine pb_istore_n 2 (i := 3) (L' := [some (.ref (E.2.1 h0)), some (.int v1), some (.int v2), some (.int (0 : Int32))]) dX5_sendHome_1 rfl (by decide) rfl rfl rfl ?_
  exact tX5_sendHome_L2 l E h0 hv0 v1 v2 pb_F (0 : Int32) μ
theorem mc_X5_sendHome : pb_MC yX5_sendHome cX5_sendHome 4 none 2 := ⟨pb_inW 485 (by decide +kernel) (by decide +kernel), pb_inW 63 (by decide +kernel) (by decide +kernel), by decide +kernel, by decide +kernel, by decide +kernel⟩
theorem mi_X5_sendHome : Cond.instanceMethod yX5_sendHome ∈ pb_gw := pb_inW 484 (by decide +kernel) (by decide +kernel)
theorem ms_X5_sendHome : Cond.selects (yX5_sendHome).cls yX5_sendHome yX5_sendHome ∈ pb_gw := pb_inW 9 (by decide +kernel) (by decide +kernel)
theorem cl_X5_sendHome {α : Type} {l : Launch} {E : pb_E} {R : Room} {own : String} {cc : ByteArray} {mL : Nat} {ret : Option FieldType} {Xs : State → Prop} {nc ns : Nat} {Qf : State → Array Value → List Frame → α → pb_M → State → Prop} {pc : Nat} {L : List (Option Value)} {S : List Value} {μ : pb_M} {f : Unit → pb_M → Option (α × pb_M)} {h0 : Nat} {v1 : Int32} {v2 : Int32} {index : Nat} (q : Nat) (hv0 : pb_V h0) (hR : 1 + 1 ≤ R.frames ∧ 8 + (4 + 11) + 21 ≤ R.locals ∧ nc ≤ R.cells ∧ ns ≤ R.slots) (hW : (S.map fun v => v.category).sum ≤ 8) (hl1 : Cond.methodLink own index yX5_sendHome ∈ pb_gw) (hdg : decode cc pc = .ok (.invokevirtual index, 3)) (hq : pc + 3 = q) (k : ∀ b1 μ1, pb_RW l E R own cc mL ret Xs nc ns Qf q L S μ1 (f b1 μ1)) : pb_RW l E R own cc mL ret Xs nc ns Qf pc L (.int v2 :: .int v1 :: .ref (E.2.1 h0) :: S) μ (pb_b (pX5_sendHome h0 v1 v2 μ) f) := pb_callV q (fun _ : Unit => none) mc_X5_sendHome mi_X5_sendHome ms_X5_sendHome (fun b1 μ1 h => evX5_sendHome l E h0 v1 v2 hv0 μ b1 μ1 h) hv0.1 (by decide) rfl rfl rfl rfl hR rfl hW hl1 hdg hq k
theorem ml_X5_102 : Cond.methodLink RX5 102 yX5_sendHome ∈ pb_gw := pb_inW 482 (by decide +kernel) (by decide +kernel)
theorem ml_X5_99 : Cond.methodLink RX5 99 yX5_lessenDebt ∈ pb_gw := pb_inW 478 (by decide +kernel) (by decide +kernel)
def pX5_payDebt (h0 : Nat) (v1 : Int32) (v2 : Int32) (v3 : Int32) (μ : pb_M) : Option (Unit × pb_M) :=
  if pb_in ((7 : Int32) + v1) 52 then
    if pb_in ((7 : Int32) + v1) 52 then
      if pb_in ((7 : Int32) + v2) 52 then
        if pb_in ((7 : Int32) + v2) 52 then
          pb_b (pX5_lessenDebt h0 v1 v2 v3 (pb_sA (pb_sA μ (h0 + 1) (upd (μ.1 (h0 + 1)) (((7 : Int32) + v1)).toNatClampNeg ((μ.1 (h0 + 1) (((7 : Int32) + v1)).toNatClampNeg) - v3))) (h0 + 1) (upd ((pb_sA μ (h0 + 1) (upd (μ.1 (h0 + 1)) (((7 : Int32) + v1)).toNatClampNeg ((μ.1 (h0 + 1) (((7 : Int32) + v1)).toNatClampNeg) - v3))).1 (h0 + 1)) (((7 : Int32) + v2)).toNatClampNeg (((pb_sA μ (h0 + 1) (upd (μ.1 (h0 + 1)) (((7 : Int32) + v1)).toNatClampNeg ((μ.1 (h0 + 1) (((7 : Int32) + v1)).toNatClampNeg) - v3))).1 (h0 + 1) (((7 : Int32) + v2)).toNatClampNeg) + v3)))) (fun b30 μ30 =>
          pb_b (pX5_debt h0 v1 v2 μ30) (fun b36 μ36 =>
          if b36 = (0 : Int32) then
            pb_b (pX5_sendHome h0 v1 v2 μ36) (fun b45 μ45 =>
            some ((), μ45))
          else
          some ((), μ36)))
        else none
      else none
    else none
  else none
abbrev wX5_payDebt (l : Launch) (E : pb_E) := pb_RW l E { frames := 2, cells := 0, slots := 0, locals := 46 } RX5 cX5_payDebt 4 none (fun _ => True) 0 0 (pb_Qf E (fun _ : Unit => none))
set_option maxRecDepth 100000 in
set_option maxHeartbeats 4000000 in
theorem evX5_payDebt (l : Launch) (E : pb_E) (h0 : Nat) (v1 : Int32) (v2 : Int32) (v3 : Int32) (hv0 : pb_V h0) (μ : pb_M) : ∀ b μ', pX5_payDebt h0 v1 v2 v3 μ = some (b, μ') → pb_Ev l E yX5_payDebt cX5_payDebt 4 none { frames := 2, cells := 0, slots := 0, locals := 46 } [.ref (E.2.1 h0), .int v1, .int v2, .int v3] μ ((fun _ : Unit => none) b) μ' := by
  refine pb_enter (L := [some (.ref (E.2.1 h0)), some (.int v1), some (.int v2), some (.int v3)]) (by decide +kernel) (Nat.le_of_ble_eq_true rfl) (pb_same [none, none, none, none] rfl) (show wX5_payDebt l E 0 [some (.ref (E.2.1 h0)), some (.int v1), some (.int v2), some (.int v3)] [] μ (pX5_payDebt h0 v1 v2 v3 μ) from ?_)
  unfold pX5_payDebt
  refine pb_aload_n 1 dX5_payDebt_0 rfl rfl rfl ?_
  refine pb_getR 4 (j := 0) (d := (h0 + 1)) in_X5 rfl (by decide) hv0.1 rfl (by decide) fl_X5_11 dX5_payDebt_1 rfl ?_
  refine pb_bipush 6 (v := 7) dX5_payDebt_4 rfl (by decide) ?_
  refine pb_iload_n 7 dX5_payDebt_6 rfl rfl rfl ?_
  refine pb_iadd 8 dX5_payDebt_7 rfl ?_
  refine pb_dup2 9 dX5_payDebt_8 rfl rfl rfl ?_
  refine pb_guard (fun hin => pb_iald 10 hv0.2 hin rfl dX5_payDebt_9 rfl ?_)
  refine pb_iload_n 11 dX5_payDebt_10 rfl rfl rfl ?_
  refine pb_isub 12 dX5_payDebt_11 rfl ?_
  refine pb_guard (fun hin => pb_iast 13 hv0.2 hin rfl dX5_payDebt_12 rfl ?_)
  refine pb_aload_n 14 dX5_payDebt_13 rfl rfl rfl ?_
  refine pb_getR 17 (j := 0) (d := (h0 + 1)) in_X5 rfl (by decide) hv0.1 rfl (by decide) fl_X5_11 dX5_payDebt_14 rfl ?_
  refine pb_bipush 19 (v := 7) dX5_payDebt_17 rfl (by decide) ?_
  refine pb_iload_n 20 dX5_payDebt_19 rfl rfl rfl ?_
  refine pb_iadd 21 dX5_payDebt_20 rfl ?_
  refine pb_dup2 22 dX5_payDebt_21 rfl rfl rfl ?_
  refine pb_guard (fun hin => pb_iald 23 hv0.2 hin rfl dX5_payDebt_22 rfl ?_)
  refine pb_iload_n 24 dX5_payDebt_23 rfl rfl rfl ?_
  refine pb_iadd 25 dX5_payDebt_24 rfl ?_
  refine pb_guard (fun hin => pb_iast 26 hv0.2 hin rfl dX5_payDebt_25 rfl ?_)
  refine pb_aload_n 27 dX5_payDebt_26 rfl rfl rfl ?_
  refine pb_iload_n 28 dX5_payDebt_27 rfl rfl rfl ?_
  refine pb_iload_n 29 dX5_payDebt_28 rfl rfl rfl ?_
  refine pb_iload_n 30 dX5_payDebt_29 rfl rfl rfl ?_
  refine cl_X5_lessenDebt 33 hv0 ⟨by decide, by decide, by decide, by decide⟩ (Nat.le_of_ble_eq_true rfl) ml_X5_99 dX5_payDebt_30 rfl (fun b30 μ30 => ?_)
  refine pb_aload_n 34 dX5_payDebt_33 rfl rfl rfl ?_
  refine pb_iload_n 35 dX5_payDebt_34 rfl rfl rfl ?_
  refine pb_iload_n 36 dX5_payDebt_35 rfl rfl rfl ?_
  refine cl_X5_debt 39 hv0 ⟨by decide, by decide, by decide, by decide⟩ (Nat.le_of_ble_eq_true rfl) ml_X5_58 dX5_payDebt_36 rfl (fun b36 μ36 => ?_)
  refine pb_if_ne 42 (tgt := 48) dX5_payDebt_39 (by decide) rfl (fun _ => ?_) (fun _ => ?_)
  · refine pb_aload_n 43 dX5_payDebt_42 rfl rfl rfl ?_
    refine pb_iload_n 44 dX5_payDebt_43 rfl rfl rfl ?_
    refine pb_iload_n 45 dX5_payDebt_44 rfl rfl rfl ?_
    refine cl_X5_sendHome 48 hv0 ⟨by decide, by decide, by decide, by decide⟩ (Nat.le_of_ble_eq_true rfl) ml_X5_102 dX5_payDebt_45 rfl (fun b45 μ45 => ?_)
    exact pb_vret dX5_payDebt_48
  · exact pb_vret dX5_payDebt_48
theorem mc_X5_payDebt : pb_MC yX5_payDebt cX5_payDebt 4 none 3 := ⟨pb_inW 477 (by decide +kernel) (by decide +kernel), pb_inW 63 (by decide +kernel) (by decide +kernel), by decide +kernel, by decide +kernel, by decide +kernel⟩
theorem mi_X5_payDebt : Cond.instanceMethod yX5_payDebt ∈ pb_gw := pb_inW 475 (by decide +kernel) (by decide +kernel)
theorem ms_X5_payDebt : Cond.selects (yX5_payDebt).cls yX5_payDebt yX5_payDebt ∈ pb_gw := pb_inW 476 (by decide +kernel) (by decide +kernel)
theorem cl_X5_payDebt {α : Type} {l : Launch} {E : pb_E} {R : Room} {own : String} {cc : ByteArray} {mL : Nat} {ret : Option FieldType} {Xs : State → Prop} {nc ns : Nat} {Qf : State → Array Value → List Frame → α → pb_M → State → Prop} {pc : Nat} {L : List (Option Value)} {S : List Value} {μ : pb_M} {f : Unit → pb_M → Option (α × pb_M)} {h0 : Nat} {v1 : Int32} {v2 : Int32} {v3 : Int32} {index : Nat} (q : Nat) (hv0 : pb_V h0) (hR : 2 + 1 ≤ R.frames ∧ 8 + (4 + 11) + 46 ≤ R.locals ∧ nc ≤ R.cells ∧ ns ≤ R.slots) (hW : (S.map fun v => v.category).sum ≤ 8) (hl1 : Cond.methodLink own index yX5_payDebt ∈ pb_gw) (hdg : decode cc pc = .ok (.invokevirtual index, 3)) (hq : pc + 3 = q) (k : ∀ b1 μ1, pb_RW l E R own cc mL ret Xs nc ns Qf q L S μ1 (f b1 μ1)) : pb_RW l E R own cc mL ret Xs nc ns Qf pc L (.int v3 :: .int v2 :: .int v1 :: .ref (E.2.1 h0) :: S) μ (pb_b (pX5_payDebt h0 v1 v2 v3 μ) f) := pb_callV q (fun _ : Unit => none) mc_X5_payDebt mi_X5_payDebt ms_X5_payDebt (fun b1 μ1 h => evX5_payDebt l E h0 v1 v2 v3 hv0 μ b1 μ1 h) hv0.1 (by decide) rfl rfl rfl rfl hR rfl hW hl1 hdg hq k
theorem ml_X5_106 : Cond.methodLink RX5 106 yX5_addDebt ∈ pb_gw := pb_inW 495 (by decide +kernel) (by decide +kernel)
def pX5_runHome (h0 : Nat) (v1 : Int32) (μ : pb_M) : Option (Unit × pb_M) :=
  pb_b (pX5_ownerOf h0 v1 μ) (fun b3 μ3 =>
  pb_b (pX5_holderOf h0 v1 μ3) (fun b8 μ8 =>
  pb_b (pX5_addDebt h0 b3 b8 (3 : Int32) μ8) (fun b12 μ12 =>
  pb_b (pX5_goHome h0 v1 μ12) (fun b17 μ17 =>
  some ((), μ17)))))
abbrev wX5_runHome (l : Launch) (E : pb_E) := pb_RW l E { frames := 2, cells := 0, slots := 0, locals := 46 } RX5 cX5_runHome 2 none (fun _ => True) 0 0 (pb_Qf E (fun _ : Unit => none))
set_option maxRecDepth 100000 in
set_option maxHeartbeats 4000000 in
theorem evX5_runHome (l : Launch) (E : pb_E) (h0 : Nat) (v1 : Int32) (hv0 : pb_V h0) (μ : pb_M) : ∀ b μ', pX5_runHome h0 v1 μ = some (b, μ') → pb_Ev l E yX5_runHome cX5_runHome 2 none { frames := 2, cells := 0, slots := 0, locals := 46 } [.ref (E.2.1 h0), .int v1] μ ((fun _ : Unit => none) b) μ' := by
  refine pb_enter (L := [some (.ref (E.2.1 h0)), some (.int v1)]) (by decide +kernel) (Nat.le_of_ble_eq_true rfl) (pb_same [none, none] rfl) (show wX5_runHome l E 0 [some (.ref (E.2.1 h0)), some (.int v1)] [] μ (pX5_runHome h0 v1 μ) from ?_)
  unfold pX5_runHome
  refine pb_aload_n 1 dX5_runHome_0 rfl rfl rfl ?_
  refine pb_aload_n 2 dX5_runHome_1 rfl rfl rfl ?_
  refine pb_iload_n 3 dX5_runHome_2 rfl rfl rfl ?_
  refine cl_X5_ownerOf 6 hv0 ⟨by decide, by decide, by decide, by decide⟩ (Nat.le_of_ble_eq_true rfl) ml_X5_48 dX5_runHome_3 rfl (fun b3 μ3 => ?_)
  refine pb_aload_n 7 dX5_runHome_6 rfl rfl rfl ?_
  refine pb_iload_n 8 dX5_runHome_7 rfl rfl rfl ?_
  refine cl_X5_holderOf 11 hv0 ⟨by decide, by decide, by decide, by decide⟩ (Nat.le_of_ble_eq_true rfl) ml_X5_38 dX5_runHome_8 rfl (fun b8 μ8 => ?_)
  refine pb_iconst 12 (v := 3) dX5_runHome_11 rfl (by decide) ?_
  refine cl_X5_addDebt 15 hv0 ⟨by decide, by decide, by decide, by decide⟩ (Nat.le_of_ble_eq_true rfl) ml_X5_106 dX5_runHome_12 rfl (fun b12 μ12 => ?_)
  refine pb_aload_n 16 dX5_runHome_15 rfl rfl rfl ?_
  refine pb_iload_n 17 dX5_runHome_16 rfl rfl rfl ?_
  refine cl_X5_goHome 20 hv0 ⟨by decide, by decide, by decide, by decide⟩ (Nat.le_of_ble_eq_true rfl) ml_X5_96 dX5_runHome_17 rfl (fun b17 μ17 => ?_)
  exact pb_vret dX5_runHome_20
theorem mc_X5_runHome : pb_MC yX5_runHome cX5_runHome 2 none 1 := ⟨pb_inW 494 (by decide +kernel) (by decide +kernel), pb_inW 63 (by decide +kernel) (by decide +kernel), by decide +kernel, by decide +kernel, by decide +kernel⟩
theorem mi_X5_runHome : Cond.instanceMethod yX5_runHome ∈ pb_gw := pb_inW 492 (by decide +kernel) (by decide +kernel)
theorem ms_X5_runHome : Cond.selects (yX5_runHome).cls yX5_runHome yX5_runHome ∈ pb_gw := pb_inW 493 (by decide +kernel) (by decide +kernel)
theorem cl_X5_runHome {α : Type} {l : Launch} {E : pb_E} {R : Room} {own : String} {cc : ByteArray} {mL : Nat} {ret : Option FieldType} {Xs : State → Prop} {nc ns : Nat} {Qf : State → Array Value → List Frame → α → pb_M → State → Prop} {pc : Nat} {L : List (Option Value)} {S : List Value} {μ : pb_M} {f : Unit → pb_M → Option (α × pb_M)} {h0 : Nat} {v1 : Int32} {index : Nat} (q : Nat) (hv0 : pb_V h0) (hR : 2 + 1 ≤ R.frames ∧ 8 + (2 + 11) + 46 ≤ R.locals ∧ nc ≤ R.cells ∧ ns ≤ R.slots) (hW : (S.map fun v => v.category).sum ≤ 8) (hl1 : Cond.methodLink own index yX5_runHome ∈ pb_gw) (hdg : decode cc pc = .ok (.invokevirtual index, 3)) (hq : pc + 3 = q) (k : ∀ b1 μ1, pb_RW l E R own cc mL ret Xs nc ns Qf q L S μ1 (f b1 μ1)) : pb_RW l E R own cc mL ret Xs nc ns Qf pc L (.int v1 :: .ref (E.2.1 h0) :: S) μ (pb_b (pX5_runHome h0 v1 μ) f) := pb_callV q (fun _ : Unit => none) mc_X5_runHome mi_X5_runHome ms_X5_runHome (fun b1 μ1 h => evX5_runHome l E h0 v1 hv0 μ b1 μ1 h) hv0.1 (by decide) rfl rfl rfl rfl hR rfl hW hl1 hdg hq k
def pX5_handOver (h0 : Nat) (v1 : Int32) (μ : pb_M) : Option (Unit × pb_M) :=
  pb_b (pX5_holderOf h0 v1 μ) (fun b2 μ2 =>
  pb_b (pX5_ownerOf h0 v1 μ2) (fun b9 μ9 =>
  pb_b (pX5_worthOf h0 v1 μ9) (fun b15 μ15 =>
  pb_b (pX5_lessenDebt h0 b9 b2 b15 μ15) (fun b18 μ18 =>
  if pb_in ((27 : Int32) + v1) 52 then
    pb_b (pX5_goHome h0 v1 (pb_sA μ18 (h0 + 1) (upd (μ18.1 (h0 + 1)) (((27 : Int32) + v1)).toNatClampNeg b2))) (fun b33 μ33 =>
    some ((), μ33))
  else none))))
abbrev wX5_handOver (l : Launch) (E : pb_E) := pb_RW l E { frames := 2, cells := 0, slots := 0, locals := 46 } RX5 cX5_handOver 3 none (fun _ => True) 0 0 (pb_Qf E (fun _ : Unit => none))
set_option maxRecDepth 100000 in
set_option maxHeartbeats 4000000 in
theorem evX5_handOver (l : Launch) (E : pb_E) (h0 : Nat) (v1 : Int32) (hv0 : pb_V h0) (μ : pb_M) : ∀ b μ', pX5_handOver h0 v1 μ = some (b, μ') → pb_Ev l E yX5_handOver cX5_handOver 3 none { frames := 2, cells := 0, slots := 0, locals := 46 } [.ref (E.2.1 h0), .int v1] μ ((fun _ : Unit => none) b) μ' := by
  refine pb_enter (L := [some (.ref (E.2.1 h0)), some (.int v1), none]) (by decide +kernel) (Nat.le_of_ble_eq_true rfl) (pb_same [none, none, none] rfl) (show wX5_handOver l E 0 [some (.ref (E.2.1 h0)), some (.int v1), none] [] μ (pX5_handOver h0 v1 μ) from ?_)
  unfold pX5_handOver
  refine pb_aload_n 1 dX5_handOver_0 rfl rfl rfl ?_
  refine pb_iload_n 2 dX5_handOver_1 rfl rfl rfl ?_
  refine cl_X5_holderOf 5 hv0 ⟨by decide, by decide, by decide, by decide⟩ (Nat.le_of_ble_eq_true rfl) ml_X5_38 dX5_handOver_2 rfl (fun b2 μ2 => ?_)
  refine pb_istore_n 6 (i := 2) (L' := [some (.ref (E.2.1 h0)), some (.int v1), some (.int b2)]) dX5_handOver_5 rfl (by decide) rfl rfl rfl ?_
  refine pb_aload_n 7 dX5_handOver_6 rfl rfl rfl ?_
  refine pb_aload_n 8 dX5_handOver_7 rfl rfl rfl ?_
  refine pb_iload_n 9 dX5_handOver_8 rfl rfl rfl ?_
  refine cl_X5_ownerOf 12 hv0 ⟨by decide, by decide, by decide, by decide⟩ (Nat.le_of_ble_eq_true rfl) ml_X5_48 dX5_handOver_9 rfl (fun b9 μ9 => ?_)
  refine pb_iload_n 13 dX5_handOver_12 rfl rfl rfl ?_
  refine pb_aload_n 14 dX5_handOver_13 rfl rfl rfl ?_
  refine pb_iload_n 15 dX5_handOver_14 rfl rfl rfl ?_
  refine cl_X5_worthOf 18 hv0 ⟨by decide, by decide, by decide, by decide⟩ (Nat.le_of_ble_eq_true rfl) ml_X5_34 dX5_handOver_15 rfl (fun b15 μ15 => ?_)
  refine cl_X5_lessenDebt 21 hv0 ⟨by decide, by decide, by decide, by decide⟩ (Nat.le_of_ble_eq_true rfl) ml_X5_99 dX5_handOver_18 rfl (fun b18 μ18 => ?_)
  refine pb_aload_n 22 dX5_handOver_21 rfl rfl rfl ?_
  refine pb_getR 25 (j := 0) (d := (h0 + 1)) in_X5 rfl (by decide) hv0.1 rfl (by decide) fl_X5_11 dX5_handOver_22 rfl ?_
  refine pb_bipush 27 (v := 27) dX5_handOver_25 rfl (by decide) ?_
  refine pb_iload_n 28 dX5_handOver_27 rfl rfl rfl ?_
  refine pb_iadd 29 dX5_handOver_28 rfl ?_
  refine pb_iload_n 30 dX5_handOver_29 rfl rfl rfl ?_
  refine pb_guard (fun hin => pb_iast 31 hv0.2 hin rfl dX5_handOver_30 rfl ?_)
  refine pb_aload_n 32 dX5_handOver_31 rfl rfl rfl ?_
  refine pb_iload_n 33 dX5_handOver_32 rfl rfl rfl ?_
  refine cl_X5_goHome 36 hv0 ⟨by decide, by decide, by decide, by decide⟩ (Nat.le_of_ble_eq_true rfl) ml_X5_96 dX5_handOver_33 rfl (fun b33 μ33 => ?_)
  exact pb_vret dX5_handOver_36
theorem mc_X5_handOver : pb_MC yX5_handOver cX5_handOver 3 none 1 := ⟨pb_inW 508 (by decide +kernel) (by decide +kernel), pb_inW 63 (by decide +kernel) (by decide +kernel), by decide +kernel, by decide +kernel, by decide +kernel⟩
theorem mi_X5_handOver : Cond.instanceMethod yX5_handOver ∈ pb_gw := pb_inW 506 (by decide +kernel) (by decide +kernel)
theorem ms_X5_handOver : Cond.selects (yX5_handOver).cls yX5_handOver yX5_handOver ∈ pb_gw := pb_inW 507 (by decide +kernel) (by decide +kernel)
theorem cl_X5_handOver {α : Type} {l : Launch} {E : pb_E} {R : Room} {own : String} {cc : ByteArray} {mL : Nat} {ret : Option FieldType} {Xs : State → Prop} {nc ns : Nat} {Qf : State → Array Value → List Frame → α → pb_M → State → Prop} {pc : Nat} {L : List (Option Value)} {S : List Value} {μ : pb_M} {f : Unit → pb_M → Option (α × pb_M)} {h0 : Nat} {v1 : Int32} {index : Nat} (q : Nat) (hv0 : pb_V h0) (hR : 2 + 1 ≤ R.frames ∧ 8 + (3 + 11) + 46 ≤ R.locals ∧ nc ≤ R.cells ∧ ns ≤ R.slots) (hW : (S.map fun v => v.category).sum ≤ 8) (hl1 : Cond.methodLink own index yX5_handOver ∈ pb_gw) (hdg : decode cc pc = .ok (.invokevirtual index, 3)) (hq : pc + 3 = q) (k : ∀ b1 μ1, pb_RW l E R own cc mL ret Xs nc ns Qf q L S μ1 (f b1 μ1)) : pb_RW l E R own cc mL ret Xs nc ns Qf pc L (.int v1 :: .ref (E.2.1 h0) :: S) μ (pb_b (pX5_handOver h0 v1 μ) f) := pb_callV q (fun _ : Unit => none) mc_X5_handOver mi_X5_handOver ms_X5_handOver (fun b1 μ1 h => evX5_handOver l E h0 v1 hv0 μ b1 μ1 h) hv0.1 (by decide) rfl rfl rfl rfl hR rfl hW hl1 hdg hq k
theorem fl_X6_10 : Cond.fieldLink RX6 10 (TX6 0).1 (TX6 0).2.1 (TX6 0).2.2.1 ∈ pb_gw := pb_inW 178 (by decide +kernel) (by decide +kernel)
theorem ml_X6_61 : Cond.methodLink RX6 61 yX4_append ∈ pb_gw := pb_inW 216 (by decide +kernel) (by decide +kernel)
theorem ml_X6_65 : Cond.methodLink RX6 65 yX4_length ∈ pb_gw := pb_inW 220 (by decide +kernel) (by decide +kernel)
def pX6_write (v1 : Int32) (μ : pb_M) : Option (Int32 × pb_M) :=
  if v1 < (0 : Int32) then
    some ((-2 : Int32), μ)
  else
  if v1 ≤ (255 : Int32) then
    pb_b (pX4_append v1 μ) (fun b19 μ19 =>
    if b19 = (0 : Int32) then
      some ((-4 : Int32), μ19)
    else
    pb_b (pX4_length μ19) (fun b29 μ29 =>
    some (b29, μ29)))
  else
  some ((-2 : Int32), μ)
abbrev wX6_write (l : Launch) (E : pb_E) := pb_RW l E { frames := 1, cells := 0, slots := 0, locals := 21 } RX6 cX6_write 2 (some .int) (fun _ => True) 0 0 (pb_Qf E (fun z : Int32 => some (.int z)))
set_option maxRecDepth 100000 in
set_option maxHeartbeats 4000000 in
theorem evX6_write (l : Launch) (E : pb_E) (v1 : Int32)  (μ : pb_M) : ∀ b μ', pX6_write v1 μ = some (b, μ') → pb_Ev l E yX6_write cX6_write 2 (some .int) { frames := 1, cells := 0, slots := 0, locals := 21 } [.ref (E.2.1 0), .int v1] μ ((fun z : Int32 => some (.int z)) b) μ' := by
  refine pb_enter (L := [some (.ref (E.2.1 0)), some (.int v1)]) (by decide +kernel) (Nat.le_of_ble_eq_true rfl) (pb_same [none, none] rfl) (show wX6_write l E 0 [some (.ref (E.2.1 0)), some (.int v1)] [] μ (pX6_write v1 μ) from ?_)
  unfold pX6_write
  refine pb_iload_n 1 dX6_write_0 rfl rfl rfl ?_
  refine pb_if_lt 4 (tgt := 11) dX6_write_1 (by decide) rfl (fun _ => ?_) (fun _ => ?_)
  · refine pb_bipush 13 (v := -2) dX6_write_11 rfl (by decide) ?_
    exact pb_iret dX6_write_13
  · refine pb_iload_n 5 dX6_write_4 rfl rfl rfl ?_
    refine pb_sipush 8 (v := 255) dX6_write_5 rfl (by decide) ?_
    refine pb_icmp_le 11 (tgt := 14) dX6_write_8 (by decide) rfl (fun _ => ?_) (fun _ => ?_)
    · refine pb_aload_n 15 dX6_write_14 rfl rfl rfl ?_
      refine pb_getR 18 (j := 0) (d := 1) in_X6 rfl (by decide) rfl rfl (by decide) fl_X6_10 dX6_write_15 rfl ?_
      refine pb_iload_n 19 dX6_write_18 rfl rfl rfl ?_
      refine cl_X4_append 22 ⟨by decide, by decide, by decide, by decide⟩ (Nat.le_of_ble_eq_true rfl) ml_X6_61 dX6_write_19 rfl (fun b19 μ19 => ?_)
      refine pb_if_eq 25 (tgt := 35) dX6_write_22 (by decide) rfl (fun _ => ?_) (fun _ => ?_)
      · refine pb_bipush 37 (v := -4) dX6_write_35 rfl (by decide) ?_
        exact pb_iret dX6_write_37
      · refine pb_aload_n 26 dX6_write_25 rfl rfl rfl ?_
        refine pb_getR 29 (j := 0) (d := 1) in_X6 rfl (by decide) rfl rfl (by decide) fl_X6_10 dX6_write_26 rfl ?_
        refine cl_X4_length 32 ⟨by decide, by decide, by decide, by decide⟩ (Nat.le_of_ble_eq_true rfl) ml_X6_65 dX6_write_29 rfl (fun b29 μ29 => ?_)
        refine pb_goto (tgt := 37) dX6_write_32 (by decide) ?_
        exact pb_iret dX6_write_37
    · refine pb_bipush 13 (v := -2) dX6_write_11 rfl (by decide) ?_
      exact pb_iret dX6_write_13
theorem mc_X6_write : pb_MC yX6_write cX6_write 2 (some .int) 1 := ⟨pb_inW 215 (by decide +kernel) (by decide +kernel), pb_inW 61 (by decide +kernel) (by decide +kernel), by decide +kernel, by decide +kernel, by decide +kernel⟩
theorem mi_X6_write : Cond.instanceMethod yX6_write ∈ pb_gw := pb_inW 213 (by decide +kernel) (by decide +kernel)
theorem ms_X6_write : Cond.selects (yX6_write).cls yX6_write yX6_write ∈ pb_gw := pb_inW 214 (by decide +kernel) (by decide +kernel)
theorem cl_X6_write {α : Type} {l : Launch} {E : pb_E} {R : Room} {own : String} {cc : ByteArray} {mL : Nat} {ret : Option FieldType} {Xs : State → Prop} {nc ns : Nat} {Qf : State → Array Value → List Frame → α → pb_M → State → Prop} {pc : Nat} {L : List (Option Value)} {S : List Value} {μ : pb_M} {f : Int32 → pb_M → Option (α × pb_M)} {v1 : Int32} {index : Nat} (q : Nat)  (hR : 1 + 1 ≤ R.frames ∧ 8 + (2 + 11) + 21 ≤ R.locals ∧ nc ≤ R.cells ∧ ns ≤ R.slots) (hW : (S.map fun v => v.category).sum ≤ 8) (hl1 : Cond.methodLink own index yX6_write ∈ pb_gw) (hdg : decode cc pc = .ok (.invokevirtual index, 3)) (hq : pc + 3 = q) (k : ∀ b1 μ1, pb_RW l E R own cc mL ret Xs nc ns Qf q L (.int b1 :: S) μ1 (f b1 μ1)) : pb_RW l E R own cc mL ret Xs nc ns Qf pc L (.int v1 :: .ref (E.2.1 0) :: S) μ (pb_b (pX6_write v1 μ) f) := pb_callV q (fun z : Int32 => some (.int z)) mc_X6_write mi_X6_write ms_X6_write (fun b1 μ1 h => evX6_write l E v1  μ b1 μ1 h) rfl (by decide) rfl rfl rfl rfl hR rfl hW hl1 hdg hq k
theorem ml_X6_69 : Cond.methodLink RX6 69 yX4_clear ∈ pb_gw := pb_inW 228 (by decide +kernel) (by decide +kernel)
def pX6_wipe  (μ : pb_M) : Option (Int32 × pb_M) :=
  pb_b (pX4_length μ) (fun b4 μ4 =>
  pb_b (pX4_clear μ4) (fun b12 μ12 =>
  some (b4, μ12)))
abbrev wX6_wipe (l : Launch) (E : pb_E) := pb_RW l E { frames := 1, cells := 0, slots := 0, locals := 20 } RX6 cX6_wipe 2 (some .int) (fun _ => True) 0 0 (pb_Qf E (fun z : Int32 => some (.int z)))
set_option maxRecDepth 100000 in
set_option maxHeartbeats 4000000 in
theorem evX6_wipe (l : Launch) (E : pb_E)   (μ : pb_M) : ∀ b μ', pX6_wipe  μ = some (b, μ') → pb_Ev l E yX6_wipe cX6_wipe 2 (some .int) { frames := 1, cells := 0, slots := 0, locals := 20 } [.ref (E.2.1 0)] μ ((fun z : Int32 => some (.int z)) b) μ' := by
  refine pb_enter (L := [some (.ref (E.2.1 0)), none]) (by decide +kernel) (Nat.le_of_ble_eq_true rfl) (pb_same [none, none] rfl) (show wX6_wipe l E 0 [some (.ref (E.2.1 0)), none] [] μ (pX6_wipe  μ) from ?_)
  unfold pX6_wipe
  refine pb_aload_n 1 dX6_wipe_0 rfl rfl rfl ?_
  refine pb_getR 4 (j := 0) (d := 1) in_X6 rfl (by decide) rfl rfl (by decide) fl_X6_10 dX6_wipe_1 rfl ?_
  refine cl_X4_length 7 ⟨by decide, by decide, by decide, by decide⟩ (Nat.le_of_ble_eq_true rfl) ml_X6_65 dX6_wipe_4 rfl (fun b4 μ4 => ?_)
  refine pb_istore_n 8 (i := 1) (L' := [some (.ref (E.2.1 0)), some (.int b4)]) dX6_wipe_7 rfl (by decide) rfl rfl rfl ?_
  refine pb_aload_n 9 dX6_wipe_8 rfl rfl rfl ?_
  refine pb_getR 12 (j := 0) (d := 1) in_X6 rfl (by decide) rfl rfl (by decide) fl_X6_10 dX6_wipe_9 rfl ?_
  refine cl_X4_clear 15 ⟨by decide, by decide, by decide, by decide⟩ (Nat.le_of_ble_eq_true rfl) ml_X6_69 dX6_wipe_12 rfl (fun b12 μ12 => ?_)
  refine pb_iload_n 16 dX6_wipe_15 rfl rfl rfl ?_
  exact pb_iret dX6_wipe_16
theorem mc_X6_wipe : pb_MC yX6_wipe cX6_wipe 2 (some .int) 0 := ⟨pb_inW 227 (by decide +kernel) (by decide +kernel), pb_inW 61 (by decide +kernel) (by decide +kernel), by decide +kernel, by decide +kernel, by decide +kernel⟩
theorem mi_X6_wipe : Cond.instanceMethod yX6_wipe ∈ pb_gw := pb_inW 225 (by decide +kernel) (by decide +kernel)
theorem ms_X6_wipe : Cond.selects (yX6_wipe).cls yX6_wipe yX6_wipe ∈ pb_gw := pb_inW 226 (by decide +kernel) (by decide +kernel)
theorem cl_X6_wipe {α : Type} {l : Launch} {E : pb_E} {R : Room} {own : String} {cc : ByteArray} {mL : Nat} {ret : Option FieldType} {Xs : State → Prop} {nc ns : Nat} {Qf : State → Array Value → List Frame → α → pb_M → State → Prop} {pc : Nat} {L : List (Option Value)} {S : List Value} {μ : pb_M} {f : Int32 → pb_M → Option (α × pb_M)}  {index : Nat} (q : Nat)  (hR : 1 + 1 ≤ R.frames ∧ 8 + (2 + 11) + 20 ≤ R.locals ∧ nc ≤ R.cells ∧ ns ≤ R.slots) (hW : (S.map fun v => v.category).sum ≤ 8) (hl1 : Cond.methodLink own index yX6_wipe ∈ pb_gw) (hdg : decode cc pc = .ok (.invokevirtual index, 3)) (hq : pc + 3 = q) (k : ∀ b1 μ1, pb_RW l E R own cc mL ret Xs nc ns Qf q L (.int b1 :: S) μ1 (f b1 μ1)) : pb_RW l E R own cc mL ret Xs nc ns Qf pc L (.ref (E.2.1 0) :: S) μ (pb_b (pX6_wipe  μ) f) := pb_callV q (fun z : Int32 => some (.int z)) mc_X6_wipe mi_X6_wipe ms_X6_wipe (fun b1 μ1 h => evX6_wipe l E   μ b1 μ1 h) rfl (by decide) rfl rfl rfl rfl hR rfl hW hl1 hdg hq k
theorem fl_X6_23 : Cond.fieldLink RX6 23 (TX6 2).1 (TX6 2).2.1 (TX6 2).2.2.1 ∈ pb_gw := pb_inW 180 (by decide +kernel) (by decide +kernel)
theorem ml_X6_72 : Cond.methodLink RX6 72 yX4_readInto ∈ pb_gw := pb_inW 236 (by decide +kernel) (by decide +kernel)
def pX6_fault  (μ : pb_M) : Option (Int32 × pb_M) :=
  pb_b (pX4_readInto 6 μ) (fun b8 μ8 =>
  some (b8, μ8))
abbrev wX6_fault (l : Launch) (E : pb_E) := pb_RW l E { frames := 6, cells := 0, slots := 0, locals := 140 } RX6 cX6_fault 1 (some .int) (fun _ => True) 0 0 (pb_Qf E (fun z : Int32 => some (.int z)))
set_option maxRecDepth 100000 in
set_option maxHeartbeats 4000000 in
theorem evX6_fault (l : Launch) (E : pb_E)   (μ : pb_M) : ∀ b μ', pX6_fault  μ = some (b, μ') → pb_Ev l E yX6_fault cX6_fault 1 (some .int) { frames := 6, cells := 0, slots := 0, locals := 140 } [.ref (E.2.1 0)] μ ((fun z : Int32 => some (.int z)) b) μ' := by
  refine pb_enter (L := [some (.ref (E.2.1 0))]) (by decide +kernel) (Nat.le_of_ble_eq_true rfl) (pb_same [none] rfl) (show wX6_fault l E 0 [some (.ref (E.2.1 0))] [] μ (pX6_fault  μ) from ?_)
  unfold pX6_fault
  refine pb_aload_n 1 dX6_fault_0 rfl rfl rfl ?_
  refine pb_getR 4 (j := 0) (d := 1) in_X6 rfl (by decide) rfl rfl (by decide) fl_X6_10 dX6_fault_1 rfl ?_
  refine pb_aload_n 5 dX6_fault_4 rfl rfl rfl ?_
  refine pb_getR 8 (j := 2) (d := 6) in_X6 rfl (by decide) rfl rfl (by decide) fl_X6_23 dX6_fault_5 rfl ?_
  refine cl_X4_readInto 11 pb_V6 ⟨by decide, by decide, by decide, by decide⟩ (Nat.le_of_ble_eq_true rfl) ml_X6_72 dX6_fault_8 rfl (fun b8 μ8 => ?_)
  exact pb_iret dX6_fault_11
theorem mc_X6_fault : pb_MC yX6_fault cX6_fault 1 (some .int) 0 := ⟨pb_inW 235 (by decide +kernel) (by decide +kernel), pb_inW 61 (by decide +kernel) (by decide +kernel), by decide +kernel, by decide +kernel, by decide +kernel⟩
theorem mi_X6_fault : Cond.instanceMethod yX6_fault ∈ pb_gw := pb_inW 233 (by decide +kernel) (by decide +kernel)
theorem ms_X6_fault : Cond.selects (yX6_fault).cls yX6_fault yX6_fault ∈ pb_gw := pb_inW 234 (by decide +kernel) (by decide +kernel)
theorem cl_X6_fault {α : Type} {l : Launch} {E : pb_E} {R : Room} {own : String} {cc : ByteArray} {mL : Nat} {ret : Option FieldType} {Xs : State → Prop} {nc ns : Nat} {Qf : State → Array Value → List Frame → α → pb_M → State → Prop} {pc : Nat} {L : List (Option Value)} {S : List Value} {μ : pb_M} {f : Int32 → pb_M → Option (α × pb_M)}  {index : Nat} (q : Nat)  (hR : 6 + 1 ≤ R.frames ∧ 8 + (1 + 11) + 140 ≤ R.locals ∧ nc ≤ R.cells ∧ ns ≤ R.slots) (hW : (S.map fun v => v.category).sum ≤ 8) (hl1 : Cond.methodLink own index yX6_fault ∈ pb_gw) (hdg : decode cc pc = .ok (.invokevirtual index, 3)) (hq : pc + 3 = q) (k : ∀ b1 μ1, pb_RW l E R own cc mL ret Xs nc ns Qf q L (.int b1 :: S) μ1 (f b1 μ1)) : pb_RW l E R own cc mL ret Xs nc ns Qf pc L (.ref (E.2.1 0) :: S) μ (pb_b (pX6_fault  μ) f) := pb_callV q (fun z : Int32 => some (.int z)) mc_X6_fault mi_X6_fault ms_X6_fault (fun b1 μ1 h => evX6_fault l E   μ b1 μ1 h) rfl (by decide) rfl rfl rfl rfl hR rfl hW hl1 hdg hq k
theorem fl_X6_19 : Cond.fieldLink RX6 19 (TX6 1).1 (TX6 1).2.1 (TX6 1).2.2.1 ∈ pb_gw := pb_inW 179 (by decide +kernel) (by decide +kernel)
theorem fl_X6_29 : Cond.fieldLink RX6 29 (TX6 3).1 (TX6 3).2.1 (TX6 3).2.2.1 ∈ pb_gw := pb_inW 181 (by decide +kernel) (by decide +kernel)
theorem fl_X6_81 : Cond.fieldLink RX6 81 (TX6 9).1 (TX6 9).2.1 (TX6 9).2.2.1 ∈ pb_gw := pb_inW 187 (by decide +kernel) (by decide +kernel)
theorem ml_X6_76 : Cond.methodLink RX6 76 yX5_copyFrom ∈ pb_gw := pb_inW 323 (by decide +kernel) (by decide +kernel)
theorem ml_X6_80 : Cond.methodLink RX6 80 yX0_clear ∈ pb_gw := pb_inW 330 (by decide +kernel) (by decide +kernel)
theorem ml_X6_85 : Cond.methodLink RX6 85 yX5_people ∈ pb_gw := pb_inW 334 (by decide +kernel) (by decide +kernel)
theorem ml_X6_88 : Cond.methodLink RX6 88 yX5_beasts ∈ pb_gw := pb_inW 335 (by decide +kernel) (by decide +kernel)
def pX6_village  (μ : pb_M) : Option (Int32 × pb_M) :=
  pb_b (pX4_readInto 6 μ) (fun b8 μ8 =>
  if b8 = (-9 : Int32) then
    pb_b (pX5_copyFrom 4 6 μ8) (fun b27 μ27 =>
    pb_b (pX0_clear μ27) (fun b34 μ34 =>
    pb_b (pX5_people 4 (pb_sA μ34 0 (upd (μ34.1 0) 9 (0 : Int32)))) (fun b48 μ48 =>
    pb_b (pX5_beasts 4 μ48) (fun b56 μ56 =>
    some ((((10 : Int32) * b48) + b56), μ56)))))
  else
  some ((-3 : Int32), μ8))
abbrev wX6_village (l : Launch) (E : pb_E) := pb_RW l E { frames := 6, cells := 0, slots := 0, locals := 140 } RX6 cX6_village 1 (some .int) (fun _ => True) 0 0 (pb_Qf E (fun z : Int32 => some (.int z)))
set_option maxRecDepth 100000 in
set_option maxHeartbeats 4000000 in
theorem evX6_village (l : Launch) (E : pb_E)   (μ : pb_M) : ∀ b μ', pX6_village  μ = some (b, μ') → pb_Ev l E yX6_village cX6_village 1 (some .int) { frames := 6, cells := 0, slots := 0, locals := 140 } [.ref (E.2.1 0)] μ ((fun z : Int32 => some (.int z)) b) μ' := by
  refine pb_enter (L := [some (.ref (E.2.1 0))]) (by decide +kernel) (Nat.le_of_ble_eq_true rfl) (pb_same [none] rfl) (show wX6_village l E 0 [some (.ref (E.2.1 0))] [] μ (pX6_village  μ) from ?_)
  unfold pX6_village
  refine pb_aload_n 1 dX6_village_0 rfl rfl rfl ?_
  refine pb_getR 4 (j := 0) (d := 1) in_X6 rfl (by decide) rfl rfl (by decide) fl_X6_10 dX6_village_1 rfl ?_
  refine pb_aload_n 5 dX6_village_4 rfl rfl rfl ?_
  refine pb_getR 8 (j := 2) (d := 6) in_X6 rfl (by decide) rfl rfl (by decide) fl_X6_23 dX6_village_5 rfl ?_
  refine cl_X4_readInto 11 pb_V6 ⟨by decide, by decide, by decide, by decide⟩ (Nat.le_of_ble_eq_true rfl) ml_X6_72 dX6_village_8 rfl (fun b8 μ8 => ?_)
  refine pb_bipush 13 (v := -9) dX6_village_11 rfl (by decide) ?_
  refine pb_icmp_eq 16 (tgt := 19) dX6_village_13 (by decide) rfl (fun _ => ?_) (fun _ => ?_)
  · refine pb_aload_n 20 dX6_village_19 rfl rfl rfl ?_
    refine pb_getR 23 (j := 1) (d := 4) in_X6 rfl (by decide) rfl rfl (by decide) fl_X6_19 dX6_village_20 rfl ?_
    refine pb_aload_n 24 dX6_village_23 rfl rfl rfl ?_
    refine pb_getR 27 (j := 2) (d := 6) in_X6 rfl (by decide) rfl rfl (by decide) fl_X6_23 dX6_village_24 rfl ?_
    refine cl_X5_copyFrom 30 pb_V4 pb_V6 ⟨by decide, by decide, by decide, by decide⟩ (Nat.le_of_ble_eq_true rfl) ml_X6_76 dX6_village_27 rfl (fun b27 μ27 => ?_)
    refine pb_aload_n 31 dX6_village_30 rfl rfl rfl ?_
    refine pb_getR 34 (j := 3) (d := 8) in_X6 rfl (by decide) rfl rfl (by decide) fl_X6_29 dX6_village_31 rfl ?_
    refine cl_X0_clear 37 ⟨by decide, by decide, by decide, by decide⟩ (Nat.le_of_ble_eq_true rfl) ml_X6_80 dX6_village_34 rfl (fun b34 μ34 => ?_)
    refine pb_aload_n 38 dX6_village_37 rfl rfl rfl ?_
    refine pb_iconst 39 (v := 0) dX6_village_38 rfl (by decide) ?_
    refine pb_putI 42 (j := 9) tyX6 tyX6_ok nmX6 in_X6 rfl (by decide) rfl rfl (by decide) fl_X6_81 rfl (by decide +kernel) dX6_village_39 rfl ?_
    refine pb_bipush 44 (v := 10) dX6_village_42 rfl (by decide) ?_
    refine pb_aload_n 45 dX6_village_44 rfl rfl rfl ?_
    refine pb_getR 48 (j := 1) (d := 4) in_X6 rfl (by decide) rfl rfl (by decide) fl_X6_19 dX6_village_45 rfl ?_
    refine cl_X5_people 51 pb_V4 ⟨by decide, by decide, by decide, by decide⟩ (Nat.le_of_ble_eq_true rfl) ml_X6_85 dX6_village_48 rfl (fun b48 μ48 => ?_)
    refine pb_imul 52 dX6_village_51 rfl ?_
    refine pb_aload_n 53 dX6_village_52 rfl rfl rfl ?_
    refine pb_getR 56 (j := 1) (d := 4) in_X6 rfl (by decide) rfl rfl (by decide) fl_X6_19 dX6_village_53 rfl ?_
    refine cl_X5_beasts 59 pb_V4 ⟨by decide, by decide, by decide, by decide⟩ (Nat.le_of_ble_eq_true rfl) ml_X6_88 dX6_village_56 rfl (fun b56 μ56 => ?_)
    refine pb_iadd 60 dX6_village_59 rfl ?_
    exact pb_iret dX6_village_60
  · refine pb_bipush 18 (v := -3) dX6_village_16 rfl (by decide) ?_
    exact pb_iret dX6_village_18
theorem mc_X6_village : pb_MC yX6_village cX6_village 1 (some .int) 0 := ⟨pb_inW 322 (by decide +kernel) (by decide +kernel), pb_inW 61 (by decide +kernel) (by decide +kernel), by decide +kernel, by decide +kernel, by decide +kernel⟩
theorem mi_X6_village : Cond.instanceMethod yX6_village ∈ pb_gw := pb_inW 320 (by decide +kernel) (by decide +kernel)
theorem ms_X6_village : Cond.selects (yX6_village).cls yX6_village yX6_village ∈ pb_gw := pb_inW 321 (by decide +kernel) (by decide +kernel)
theorem cl_X6_village {α : Type} {l : Launch} {E : pb_E} {R : Room} {own : String} {cc : ByteArray} {mL : Nat} {ret : Option FieldType} {Xs : State → Prop} {nc ns : Nat} {Qf : State → Array Value → List Frame → α → pb_M → State → Prop} {pc : Nat} {L : List (Option Value)} {S : List Value} {μ : pb_M} {f : Int32 → pb_M → Option (α × pb_M)}  {index : Nat} (q : Nat)  (hR : 6 + 1 ≤ R.frames ∧ 8 + (1 + 11) + 140 ≤ R.locals ∧ nc ≤ R.cells ∧ ns ≤ R.slots) (hW : (S.map fun v => v.category).sum ≤ 8) (hl1 : Cond.methodLink own index yX6_village ∈ pb_gw) (hdg : decode cc pc = .ok (.invokevirtual index, 3)) (hq : pc + 3 = q) (k : ∀ b1 μ1, pb_RW l E R own cc mL ret Xs nc ns Qf q L (.int b1 :: S) μ1 (f b1 μ1)) : pb_RW l E R own cc mL ret Xs nc ns Qf pc L (.ref (E.2.1 0) :: S) μ (pb_b (pX6_village  μ) f) := pb_callV q (fun z : Int32 => some (.int z)) mc_X6_village mi_X6_village ms_X6_village (fun b1 μ1 h => evX6_village l E   μ b1 μ1 h) rfl (by decide) rfl rfl rfl rfl hR rfl hW hl1 hdg hq k
theorem ml_X6_101 : Cond.methodLink RX6 101 yX5_beastsOf ∈ pb_gw := pb_inW 349 (by decide +kernel) (by decide +kernel)
theorem ml_X6_104 : Cond.methodLink RX6 104 yX5_owedBy ∈ pb_gw := pb_inW 357 (by decide +kernel) (by decide +kernel)
theorem ml_X6_107 : Cond.methodLink RX6 107 yX5_owedTo ∈ pb_gw := pb_inW 361 (by decide +kernel) (by decide +kernel)
theorem ml_X6_91 : Cond.methodLink RX6 91 yX5_hasPerson ∈ pb_gw := pb_inW 340 (by decide +kernel) (by decide +kernel)
theorem ml_X6_94 : Cond.methodLink RX6 94 yX5_hayOf ∈ pb_gw := pb_inW 341 (by decide +kernel) (by decide +kernel)
theorem ml_X6_98 : Cond.methodLink RX6 98 yX5_moneyOf ∈ pb_gw := pb_inW 345 (by decide +kernel) (by decide +kernel)
def pX6_person (v1 : Int32) (v2 : Int32) (μ : pb_M) : Option (Int32 × pb_M) :=
  pb_b (pX5_hasPerson 4 v1 μ) (fun b5 μ5 =>
  if b5 = (0 : Int32) then
    some ((-1 : Int32), μ5)
  else
  if v2 = (0 : Int32) then
    pb_b (pX5_hayOf 4 v1 μ5) (fun b53 μ53 =>
    some (b53, μ53))
  else
  if v2 = (1 : Int32) then
    pb_b (pX5_moneyOf 4 v1 μ5) (fun b62 μ62 =>
    some (b62, μ62))
  else
  if v2 = (2 : Int32) then
    pb_b (pX5_beastsOf 4 v1 μ5) (fun b71 μ71 =>
    some (b71, μ71))
  else
  if v2 = (3 : Int32) then
    pb_b (pX5_owedBy 4 v1 μ5) (fun b80 μ80 =>
    some (b80, μ80))
  else
  if v2 = (4 : Int32) then
    pb_b (pX5_owedTo 4 v1 μ5) (fun b89 μ89 =>
    some (b89, μ89))
  else
  some ((-2 : Int32), μ5))
abbrev wX6_person (l : Launch) (E : pb_E) := pb_RW l E { frames := 2, cells := 0, slots := 0, locals := 45 } RX6 cX6_person 3 (some .int) (fun _ => True) 0 0 (pb_Qf E (fun z : Int32 => some (.int z)))
set_option maxRecDepth 100000 in
set_option maxHeartbeats 4000000 in
theorem evX6_person (l : Launch) (E : pb_E) (v1 : Int32) (v2 : Int32)  (μ : pb_M) : ∀ b μ', pX6_person v1 v2 μ = some (b, μ') → pb_Ev l E yX6_person cX6_person 3 (some .int) { frames := 2, cells := 0, slots := 0, locals := 45 } [.ref (E.2.1 0), .int v1, .int v2] μ ((fun z : Int32 => some (.int z)) b) μ' := by
  refine pb_enter (L := [some (.ref (E.2.1 0)), some (.int v1), some (.int v2)]) (by decide +kernel) (Nat.le_of_ble_eq_true rfl) (pb_same [none, none, none] rfl) (show wX6_person l E 0 [some (.ref (E.2.1 0)), some (.int v1), some (.int v2)] [] μ (pX6_person v1 v2 μ) from ?_)
  unfold pX6_person
  refine pb_aload_n 1 dX6_person_0 rfl rfl rfl ?_
  refine pb_getR 4 (j := 1) (d := 4) in_X6 rfl (by decide) rfl rfl (by decide) fl_X6_19 dX6_person_1 rfl ?_
  refine pb_iload_n 5 dX6_person_4 rfl rfl rfl ?_
  refine cl_X5_hasPerson 8 pb_V4 ⟨by decide, by decide, by decide, by decide⟩ (Nat.le_of_ble_eq_true rfl) ml_X6_91 dX6_person_5 rfl (fun b5 μ5 => ?_)
  refine pb_if_ne 11 (tgt := 13) dX6_person_8 (by decide) rfl (fun _ => ?_) (fun _ => ?_)
  · refine pb_iconst 12 (v := -1) dX6_person_11 rfl (by decide) ?_
    exact pb_iret dX6_person_12
  · refine pb_iload_n 14 dX6_person_13 rfl rfl rfl ?_
    refine pb_ite (fun c0 => ?_) (fun c0 => ?_)
    · refine pb_tableK (tgt := 48) 0 c0 dX6_person_14 (by decide) (by decide) (by rfl) (by decide) ?_
      refine pb_aload_n 49 dX6_person_48 rfl rfl rfl ?_
      refine pb_getR 52 (j := 1) (d := 4) in_X6 rfl (by decide) rfl rfl (by decide) fl_X6_19 dX6_person_49 rfl ?_
      refine pb_iload_n 53 dX6_person_52 rfl rfl rfl ?_
      refine cl_X5_hayOf 56 pb_V4 ⟨by decide, by decide, by decide, by decide⟩ (Nat.le_of_ble_eq_true rfl) ml_X6_94 dX6_person_53 rfl (fun b53 μ53 => ?_)
      exact pb_iret dX6_person_56
    · refine pb_ite (fun c1 => ?_) (fun c1 => ?_)
      · refine pb_tableK (tgt := 57) 1 c1 dX6_person_14 (by decide) (by decide) (by rfl) (by decide) ?_
        refine pb_aload_n 58 dX6_person_57 rfl rfl rfl ?_
        refine pb_getR 61 (j := 1) (d := 4) in_X6 rfl (by decide) rfl rfl (by decide) fl_X6_19 dX6_person_58 rfl ?_
        refine pb_iload_n 62 dX6_person_61 rfl rfl rfl ?_
        refine cl_X5_moneyOf 65 pb_V4 ⟨by decide, by decide, by decide, by decide⟩ (Nat.le_of_ble_eq_true rfl) ml_X6_98 dX6_person_62 rfl (fun b62 μ62 => ?_)
        exact pb_iret dX6_person_65
      · refine pb_ite (fun c2 => ?_) (fun c2 => ?_)
        · refine pb_tableK (tgt := 66) 2 c2 dX6_person_14 (by decide) (by decide) (by rfl) (by decide) ?_
          refine pb_aload_n 67 dX6_person_66 rfl rfl rfl ?_
          refine pb_getR 70 (j := 1) (d := 4) in_X6 rfl (by decide) rfl rfl (by decide) fl_X6_19 dX6_person_67 rfl ?_
          refine pb_iload_n 71 dX6_person_70 rfl rfl rfl ?_
          refine cl_X5_beastsOf 74 pb_V4 ⟨by decide, by decide, by decide, by decide⟩ (Nat.le_of_ble_eq_true rfl) ml_X6_101 dX6_person_71 rfl (fun b71 μ71 => ?_)
          exact pb_iret dX6_person_74
        · refine pb_ite (fun c3 => ?_) (fun c3 => ?_)
          · refine pb_tableK (tgt := 75) 3 c3 dX6_person_14 (by decide) (by decide) (by rfl) (by decide) ?_
            refine pb_aload_n 76 dX6_person_75 rfl rfl rfl ?_
            refine pb_getR 79 (j := 1) (d := 4) in_X6 rfl (by decide) rfl rfl (by decide) fl_X6_19 dX6_person_76 rfl ?_
            refine pb_iload_n 80 dX6_person_79 rfl rfl rfl ?_
            refine cl_X5_owedBy 83 pb_V4 ⟨by decide, by decide, by decide, by decide⟩ (Nat.le_of_ble_eq_true rfl) ml_X6_104 dX6_person_80 rfl (fun b80 μ80 => ?_)
            exact pb_iret dX6_person_83
          · refine pb_ite (fun c4 => ?_) (fun c4 => ?_)
            · refine pb_tableK (tgt := 84) 4 c4 dX6_person_14 (by decide) (by decide) (by rfl) (by decide) ?_
              refine pb_aload_n 85 dX6_person_84 rfl rfl rfl ?_
              refine pb_getR 88 (j := 1) (d := 4) in_X6 rfl (by decide) rfl rfl (by decide) fl_X6_19 dX6_person_85 rfl ?_
              refine pb_iload_n 89 dX6_person_88 rfl rfl rfl ?_
              refine cl_X5_owedTo 92 pb_V4 ⟨by decide, by decide, by decide, by decide⟩ (Nat.le_of_ble_eq_true rfl) ml_X6_107 dX6_person_89 rfl (fun b89 μ89 => ?_)
              exact pb_iret dX6_person_92
            · refine pb_tableD (tgt := 93) dX6_person_14 (by have e0 := lv_neT (a := 0) c0 (by decide); have e1 := lv_neT (a := 1) c1 (by decide); have e2 := lv_neT (a := 2) c2 (by decide); have e3 := lv_neT (a := 3) c3 (by decide); have e4 := lv_neT (a := 4) c4 (by decide); omega) (by decide) ?_
              refine pb_bipush 95 (v := -2) dX6_person_93 rfl (by decide) ?_
              exact pb_iret dX6_person_95
theorem mc_X6_person : pb_MC yX6_person cX6_person 3 (some .int) 2 := ⟨pb_inW 339 (by decide +kernel) (by decide +kernel), pb_inW 61 (by decide +kernel) (by decide +kernel), by decide +kernel, by decide +kernel, by decide +kernel⟩
theorem mi_X6_person : Cond.instanceMethod yX6_person ∈ pb_gw := pb_inW 337 (by decide +kernel) (by decide +kernel)
theorem ms_X6_person : Cond.selects (yX6_person).cls yX6_person yX6_person ∈ pb_gw := pb_inW 338 (by decide +kernel) (by decide +kernel)
theorem cl_X6_person {α : Type} {l : Launch} {E : pb_E} {R : Room} {own : String} {cc : ByteArray} {mL : Nat} {ret : Option FieldType} {Xs : State → Prop} {nc ns : Nat} {Qf : State → Array Value → List Frame → α → pb_M → State → Prop} {pc : Nat} {L : List (Option Value)} {S : List Value} {μ : pb_M} {f : Int32 → pb_M → Option (α × pb_M)} {v1 : Int32} {v2 : Int32} {index : Nat} (q : Nat)  (hR : 2 + 1 ≤ R.frames ∧ 8 + (3 + 11) + 45 ≤ R.locals ∧ nc ≤ R.cells ∧ ns ≤ R.slots) (hW : (S.map fun v => v.category).sum ≤ 8) (hl1 : Cond.methodLink own index yX6_person ∈ pb_gw) (hdg : decode cc pc = .ok (.invokevirtual index, 3)) (hq : pc + 3 = q) (k : ∀ b1 μ1, pb_RW l E R own cc mL ret Xs nc ns Qf q L (.int b1 :: S) μ1 (f b1 μ1)) : pb_RW l E R own cc mL ret Xs nc ns Qf pc L (.int v2 :: .int v1 :: .ref (E.2.1 0) :: S) μ (pb_b (pX6_person v1 v2 μ) f) := pb_callV q (fun z : Int32 => some (.int z)) mc_X6_person mi_X6_person ms_X6_person (fun b1 μ1 h => evX6_person l E v1 v2  μ b1 μ1 h) rfl (by decide) rfl rfl rfl rfl hR rfl hW hl1 hdg hq k
theorem ml_X6_110 : Cond.methodLink RX6 110 yX5_hasBeast ∈ pb_gw := pb_inW 369 (by decide +kernel) (by decide +kernel)
theorem ml_X6_113 : Cond.methodLink RX6 113 yX5_ownerOf ∈ pb_gw := pb_inW 373 (by decide +kernel) (by decide +kernel)
theorem ml_X6_116 : Cond.methodLink RX6 116 yX5_worthOf ∈ pb_gw := pb_inW 374 (by decide +kernel) (by decide +kernel)
theorem ml_X6_119 : Cond.methodLink RX6 119 yX5_kindOf ∈ pb_gw := pb_inW 378 (by decide +kernel) (by decide +kernel)
theorem ml_X6_122 : Cond.methodLink RX6 122 yX5_holderOf ∈ pb_gw := pb_inW 382 (by decide +kernel) (by decide +kernel)
theorem ml_X6_125 : Cond.methodLink RX6 125 yX5_daysOf ∈ pb_gw := pb_inW 386 (by decide +kernel) (by decide +kernel)
theorem ml_X6_128 : Cond.methodLink RX6 128 yX5_isDead ∈ pb_gw := pb_inW 390 (by decide +kernel) (by decide +kernel)
def pX6_beast (v1 : Int32) (v2 : Int32) (μ : pb_M) : Option (Int32 × pb_M) :=
  pb_b (pX5_hasBeast 4 v1 μ) (fun b5 μ5 =>
  if b5 = (0 : Int32) then
    some ((-1 : Int32), μ5)
  else
  if v2 = (0 : Int32) then
    pb_b (pX5_ownerOf 4 v1 μ5) (fun b57 μ57 =>
    some (b57, μ57))
  else
  if v2 = (1 : Int32) then
    pb_b (pX5_worthOf 4 v1 μ5) (fun b66 μ66 =>
    some (b66, μ66))
  else
  if v2 = (2 : Int32) then
    pb_b (pX5_kindOf 4 v1 μ5) (fun b75 μ75 =>
    some (b75, μ75))
  else
  if v2 = (3 : Int32) then
    pb_b (pX5_holderOf 4 v1 μ5) (fun b84 μ84 =>
    some (b84, μ84))
  else
  if v2 = (4 : Int32) then
    pb_b (pX5_daysOf 4 v1 μ5) (fun b93 μ93 =>
    some (b93, μ93))
  else
  if v2 = (5 : Int32) then
    pb_b (pX5_isDead 4 v1 μ5) (fun b102 μ102 =>
    if b102 = (0 : Int32) then
      some ((0 : Int32), μ102)
    else
    some ((1 : Int32), μ102))
  else
  some ((-2 : Int32), μ5))
abbrev wX6_beast (l : Launch) (E : pb_E) := pb_RW l E { frames := 2, cells := 0, slots := 0, locals := 42 } RX6 cX6_beast 3 (some .int) (fun _ => True) 0 0 (pb_Qf E (fun z : Int32 => some (.int z)))
set_option maxRecDepth 100000 in
set_option maxHeartbeats 4000000 in
theorem evX6_beast (l : Launch) (E : pb_E) (v1 : Int32) (v2 : Int32)  (μ : pb_M) : ∀ b μ', pX6_beast v1 v2 μ = some (b, μ') → pb_Ev l E yX6_beast cX6_beast 3 (some .int) { frames := 2, cells := 0, slots := 0, locals := 42 } [.ref (E.2.1 0), .int v1, .int v2] μ ((fun z : Int32 => some (.int z)) b) μ' := by
  refine pb_enter (L := [some (.ref (E.2.1 0)), some (.int v1), some (.int v2)]) (by decide +kernel) (Nat.le_of_ble_eq_true rfl) (pb_same [none, none, none] rfl) (show wX6_beast l E 0 [some (.ref (E.2.1 0)), some (.int v1), some (.int v2)] [] μ (pX6_beast v1 v2 μ) from ?_)
  unfold pX6_beast
  refine pb_aload_n 1 dX6_beast_0 rfl rfl rfl ?_
  refine pb_getR 4 (j := 1) (d := 4) in_X6 rfl (by decide) rfl rfl (by decide) fl_X6_19 dX6_beast_1 rfl ?_
  refine pb_iload_n 5 dX6_beast_4 rfl rfl rfl ?_
  refine cl_X5_hasBeast 8 pb_V4 ⟨by decide, by decide, by decide, by decide⟩ (Nat.le_of_ble_eq_true rfl) ml_X6_110 dX6_beast_5 rfl (fun b5 μ5 => ?_)
  refine pb_if_ne 11 (tgt := 13) dX6_beast_8 (by decide) rfl (fun _ => ?_) (fun _ => ?_)
  · refine pb_iconst 12 (v := -1) dX6_beast_11 rfl (by decide) ?_
    exact pb_iret dX6_beast_12
  · refine pb_iload_n 14 dX6_beast_13 rfl rfl rfl ?_
    refine pb_ite (fun c0 => ?_) (fun c0 => ?_)
    · refine pb_tableK (tgt := 52) 0 c0 dX6_beast_14 (by decide) (by decide) (by rfl) (by decide) ?_
      refine pb_aload_n 53 dX6_beast_52 rfl rfl rfl ?_
      refine pb_getR 56 (j := 1) (d := 4) in_X6 rfl (by decide) rfl rfl (by decide) fl_X6_19 dX6_beast_53 rfl ?_
      refine pb_iload_n 57 dX6_beast_56 rfl rfl rfl ?_
      refine cl_X5_ownerOf 60 pb_V4 ⟨by decide, by decide, by decide, by decide⟩ (Nat.le_of_ble_eq_true rfl) ml_X6_113 dX6_beast_57 rfl (fun b57 μ57 => ?_)
      exact pb_iret dX6_beast_60
    · refine pb_ite (fun c1 => ?_) (fun c1 => ?_)
      · refine pb_tableK (tgt := 61) 1 c1 dX6_beast_14 (by decide) (by decide) (by rfl) (by decide) ?_
        refine pb_aload_n 62 dX6_beast_61 rfl rfl rfl ?_
        refine pb_getR 65 (j := 1) (d := 4) in_X6 rfl (by decide) rfl rfl (by decide) fl_X6_19 dX6_beast_62 rfl ?_
        refine pb_iload_n 66 dX6_beast_65 rfl rfl rfl ?_
        refine cl_X5_worthOf 69 pb_V4 ⟨by decide, by decide, by decide, by decide⟩ (Nat.le_of_ble_eq_true rfl) ml_X6_116 dX6_beast_66 rfl (fun b66 μ66 => ?_)
        exact pb_iret dX6_beast_69
      · refine pb_ite (fun c2 => ?_) (fun c2 => ?_)
        · refine pb_tableK (tgt := 70) 2 c2 dX6_beast_14 (by decide) (by decide) (by rfl) (by decide) ?_
          refine pb_aload_n 71 dX6_beast_70 rfl rfl rfl ?_
          refine pb_getR 74 (j := 1) (d := 4) in_X6 rfl (by decide) rfl rfl (by decide) fl_X6_19 dX6_beast_71 rfl ?_
          refine pb_iload_n 75 dX6_beast_74 rfl rfl rfl ?_
          refine cl_X5_kindOf 78 pb_V4 ⟨by decide, by decide, by decide, by decide⟩ (Nat.le_of_ble_eq_true rfl) ml_X6_119 dX6_beast_75 rfl (fun b75 μ75 => ?_)
          exact pb_iret dX6_beast_78
        · refine pb_ite (fun c3 => ?_) (fun c3 => ?_)
          · refine pb_tableK (tgt := 79) 3 c3 dX6_beast_14 (by decide) (by decide) (by rfl) (by decide) ?_
            refine pb_aload_n 80 dX6_beast_79 rfl rfl rfl ?_
            refine pb_getR 83 (j := 1) (d := 4) in_X6 rfl (by decide) rfl rfl (by decide) fl_X6_19 dX6_beast_80 rfl ?_
            refine pb_iload_n 84 dX6_beast_83 rfl rfl rfl ?_
            refine cl_X5_holderOf 87 pb_V4 ⟨by decide, by decide, by decide, by decide⟩ (Nat.le_of_ble_eq_true rfl) ml_X6_122 dX6_beast_84 rfl (fun b84 μ84 => ?_)
            exact pb_iret dX6_beast_87
          · refine pb_ite (fun c4 => ?_) (fun c4 => ?_)
            · refine pb_tableK (tgt := 88) 4 c4 dX6_beast_14 (by decide) (by decide) (by rfl) (by decide) ?_
              refine pb_aload_n 89 dX6_beast_88 rfl rfl rfl ?_
              refine pb_getR 92 (j := 1) (d := 4) in_X6 rfl (by decide) rfl rfl (by decide) fl_X6_19 dX6_beast_89 rfl ?_
              refine pb_iload_n 93 dX6_beast_92 rfl rfl rfl ?_
              refine cl_X5_daysOf 96 pb_V4 ⟨by decide, by decide, by decide, by decide⟩ (Nat.le_of_ble_eq_true rfl) ml_X6_125 dX6_beast_93 rfl (fun b93 μ93 => ?_)
              exact pb_iret dX6_beast_96
            · refine pb_ite (fun c5 => ?_) (fun c5 => ?_)
              · refine pb_tableK (tgt := 97) 5 c5 dX6_beast_14 (by decide) (by decide) (by rfl) (by decide) ?_
                refine pb_aload_n 98 dX6_beast_97 rfl rfl rfl ?_
                refine pb_getR 101 (j := 1) (d := 4) in_X6 rfl (by decide) rfl rfl (by decide) fl_X6_19 dX6_beast_98 rfl ?_
                refine pb_iload_n 102 dX6_beast_101 rfl rfl rfl ?_
                refine cl_X5_isDead 105 pb_V4 ⟨by decide, by decide, by decide, by decide⟩ (Nat.le_of_ble_eq_true rfl) ml_X6_128 dX6_beast_102 rfl (fun b102 μ102 => ?_)
                refine pb_if_eq 108 (tgt := 112) dX6_beast_105 (by decide) rfl (fun _ => ?_) (fun _ => ?_)
                · refine pb_iconst 113 (v := 0) dX6_beast_112 rfl (by decide) ?_
                  exact pb_iret dX6_beast_113
                · refine pb_iconst 109 (v := 1) dX6_beast_108 rfl (by decide) ?_
                  refine pb_goto (tgt := 113) dX6_beast_109 (by decide) ?_
                  exact pb_iret dX6_beast_113
              · refine pb_tableD (tgt := 114) dX6_beast_14 (by have e0 := lv_neT (a := 0) c0 (by decide); have e1 := lv_neT (a := 1) c1 (by decide); have e2 := lv_neT (a := 2) c2 (by decide); have e3 := lv_neT (a := 3) c3 (by decide); have e4 := lv_neT (a := 4) c4 (by decide); have e5 := lv_neT (a := 5) c5 (by decide); omega) (by decide) ?_
                refine pb_bipush 116 (v := -2) dX6_beast_114 rfl (by decide) ?_
                exact pb_iret dX6_beast_116
theorem mc_X6_beast : pb_MC yX6_beast cX6_beast 3 (some .int) 2 := ⟨pb_inW 368 (by decide +kernel) (by decide +kernel), pb_inW 61 (by decide +kernel) (by decide +kernel), by decide +kernel, by decide +kernel, by decide +kernel⟩
theorem mi_X6_beast : Cond.instanceMethod yX6_beast ∈ pb_gw := pb_inW 366 (by decide +kernel) (by decide +kernel)
theorem ms_X6_beast : Cond.selects (yX6_beast).cls yX6_beast yX6_beast ∈ pb_gw := pb_inW 367 (by decide +kernel) (by decide +kernel)
theorem cl_X6_beast {α : Type} {l : Launch} {E : pb_E} {R : Room} {own : String} {cc : ByteArray} {mL : Nat} {ret : Option FieldType} {Xs : State → Prop} {nc ns : Nat} {Qf : State → Array Value → List Frame → α → pb_M → State → Prop} {pc : Nat} {L : List (Option Value)} {S : List Value} {μ : pb_M} {f : Int32 → pb_M → Option (α × pb_M)} {v1 : Int32} {v2 : Int32} {index : Nat} (q : Nat)  (hR : 2 + 1 ≤ R.frames ∧ 8 + (3 + 11) + 42 ≤ R.locals ∧ nc ≤ R.cells ∧ ns ≤ R.slots) (hW : (S.map fun v => v.category).sum ≤ 8) (hl1 : Cond.methodLink own index yX6_beast ∈ pb_gw) (hdg : decode cc pc = .ok (.invokevirtual index, 3)) (hq : pc + 3 = q) (k : ∀ b1 μ1, pb_RW l E R own cc mL ret Xs nc ns Qf q L (.int b1 :: S) μ1 (f b1 μ1)) : pb_RW l E R own cc mL ret Xs nc ns Qf pc L (.int v2 :: .int v1 :: .ref (E.2.1 0) :: S) μ (pb_b (pX6_beast v1 v2 μ) f) := pb_callV q (fun z : Int32 => some (.int z)) mc_X6_beast mi_X6_beast ms_X6_beast (fun b1 μ1 h => evX6_beast l E v1 v2  μ b1 μ1 h) rfl (by decide) rfl rfl rfl rfl hR rfl hW hl1 hdg hq k
