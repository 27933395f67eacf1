theorem ml_X7_186 : Cond.methodLink RX7 186 yX7_layRing ∈ pb_gw := pb_inW 1047 (by decide +kernel) (by decide +kernel)
def pX7_ring (v1 : Int32) (μ : pb_M) : Option (Int32 × pb_M) :=
  pb_b (pX7_isPerson v1 μ) (fun b2 μ2 =>
  if b2 = (0 : Int32) then
    some ((-1 : Int32), μ2)
  else
  pb_b (pX7_layRing v1 μ2) (fun b10 μ10 =>
  some (b10, μ10)))
abbrev wX7_ring (l : Launch) (E : pb_E) := pb_RW l E { frames := 4, cells := 0, slots := 0, locals := 98 } RX7 cX7_ring 2 (some .int) (fun _ => True) 0 0 (pb_Qf E (fun z : Int32 => some (.int z)))
set_option maxRecDepth 100000 in
set_option maxHeartbeats 4000000 in
theorem evX7_ring (l : Launch) (E : pb_E) (v1 : Int32)  (μ : pb_M) : ∀ b μ', pX7_ring v1 μ = some (b, μ') → pb_Ev l E yX7_ring cX7_ring 2 (some .int) { frames := 4, cells := 0, slots := 0, locals := 98 } [.ref (E.2.1 19), .int v1] μ ((fun z : Int32 => some (.int z)) b) μ' := by
  refine pb_enter (L := [some (.ref (E.2.1 19)), some (.int v1)]) (by decide +kernel) (Nat.le_of_ble_eq_true rfl) (pb_same [none, none] rfl) (show wX7_ring l E 0 [some (.ref (E.2.1 19)), some (.int v1)] [] μ (pX7_ring v1 μ) from ?_)
  unfold pX7_ring
  refine pb_aload_n 1 dX7_ring_0 rfl rfl rfl ?_
  refine pb_iload_n 2 dX7_ring_1 rfl rfl rfl ?_
  refine cl_X7_isPerson 5 ⟨by decide, by decide, by decide, by decide⟩ (Nat.le_of_ble_eq_true rfl) ml_X7_100 dX7_ring_2 rfl (fun b2 μ2 => ?_)
  refine pb_if_eq 8 (tgt := 16) dX7_ring_5 (by decide) rfl (fun _ => ?_) (fun _ => ?_)
  · refine pb_iconst 17 (v := -1) dX7_ring_16 rfl (by decide) ?_
    exact pb_iret dX7_ring_17
  · refine pb_aload_n 9 dX7_ring_8 rfl rfl rfl ?_
    refine pb_iload_n 10 dX7_ring_9 rfl rfl rfl ?_
    refine cl_X7_layRing 13 ⟨by decide, by decide, by decide, by decide⟩ (Nat.le_of_ble_eq_true rfl) ml_X7_186 dX7_ring_10 rfl (fun b10 μ10 => ?_)
    refine pb_goto (tgt := 17) dX7_ring_13 (by decide) ?_
    exact pb_iret dX7_ring_17
theorem mc_X7_ring : pb_MC yX7_ring cX7_ring 2 (some .int) 1 := ⟨pb_inW 1046 (by decide +kernel) (by decide +kernel), pb_inW 68 (by decide +kernel) (by decide +kernel), by decide +kernel, by decide +kernel, by decide +kernel⟩
theorem mi_X7_ring : Cond.instanceMethod yX7_ring ∈ pb_gw := pb_inW 1044 (by decide +kernel) (by decide +kernel)
theorem ms_X7_ring : Cond.selects (yX7_ring).cls yX7_ring yX7_ring ∈ pb_gw := pb_inW 1045 (by decide +kernel) (by decide +kernel)
theorem cl_X7_ring {α : Type} {l : Launch} {E : pb_E} {R : Room} {own : String} {cc : ByteArray} {mL : Nat} {ret : Option FieldType} {Xs : State → Prop} {nc ns : Nat} {Qf : State → Array Value → List Frame → α → pb_M → State → Prop} {pc : Nat} {L : List (Option Value)} {S : List Value} {μ : pb_M} {f : Int32 → pb_M → Option (α × pb_M)} {v1 : Int32} {index : Nat} (q : Nat)  (hR : 4 + 1 ≤ R.frames ∧ 8 + (2 + 11) + 98 ≤ R.locals ∧ nc ≤ R.cells ∧ ns ≤ R.slots) (hW : (S.map fun v => v.category).sum ≤ 8) (hl1 : Cond.methodLink own index yX7_ring ∈ pb_gw) (hdg : decode cc pc = .ok (.invokevirtual index, 3)) (hq : pc + 3 = q) (k : ∀ b1 μ1, pb_RW l E R own cc mL ret Xs nc ns Qf q L (.int b1 :: S) μ1 (f b1 μ1)) : pb_RW l E R own cc mL ret Xs nc ns Qf pc L (.int v1 :: .ref (E.2.1 19) :: S) μ (pb_b (pX7_ring v1 μ) f) := pb_callV q (fun z : Int32 => some (.int z)) mc_X7_ring mi_X7_ring ms_X7_ring (fun b1 μ1 h => evX7_ring l E v1  μ b1 μ1 h) rfl (by decide) rfl rfl rfl rfl hR rfl hW hl1 hdg hq k
def pX7_close (v1 : Int32) (μ : pb_M) : Option (Int32 × pb_M) :=
  pb_b (pX7_isPerson v1 μ) (fun b2 μ2 =>
  if b2 = (0 : Int32) then
    some ((-1 : Int32), μ2)
  else
  pb_b (pX7_layRing v1 μ2) (fun b12 μ12 =>
  some ((μ12.1 19 16), μ12)))
abbrev wX7_close (l : Launch) (E : pb_E) := pb_RW l E { frames := 4, cells := 0, slots := 0, locals := 98 } RX7 cX7_close 2 (some .int) (fun _ => True) 0 0 (pb_Qf E (fun z : Int32 => some (.int z)))
set_option maxRecDepth 100000 in
set_option maxHeartbeats 4000000 in
theorem evX7_close (l : Launch) (E : pb_E) (v1 : Int32)  (μ : pb_M) : ∀ b μ', pX7_close v1 μ = some (b, μ') → pb_Ev l E yX7_close cX7_close 2 (some .int) { frames := 4, cells := 0, slots := 0, locals := 98 } [.ref (E.2.1 19), .int v1] μ ((fun z : Int32 => some (.int z)) b) μ' := by
  refine pb_enter (L := [some (.ref (E.2.1 19)), some (.int v1)]) (by decide +kernel) (Nat.le_of_ble_eq_true rfl) (pb_same [none, none] rfl) (show wX7_close l E 0 [some (.ref (E.2.1 19)), some (.int v1)] [] μ (pX7_close v1 μ) from ?_)
  unfold pX7_close
  refine pb_aload_n 1 dX7_close_0 rfl rfl rfl ?_
  refine pb_iload_n 2 dX7_close_1 rfl rfl rfl ?_
  refine cl_X7_isPerson 5 ⟨by decide, by decide, by decide, by decide⟩ (Nat.le_of_ble_eq_true rfl) ml_X7_100 dX7_close_2 rfl (fun b2 μ2 => ?_)
  refine pb_if_ne 8 (tgt := 10) dX7_close_5 (by decide) rfl (fun _ => ?_) (fun _ => ?_)
  · refine pb_iconst 9 (v := -1) dX7_close_8 rfl (by decide) ?_
    exact pb_iret dX7_close_9
  · refine pb_aload_n 11 dX7_close_10 rfl rfl rfl ?_
    refine pb_iload_n 12 dX7_close_11 rfl rfl rfl ?_
    refine cl_X7_layRing 15 ⟨by decide, by decide, by decide, by decide⟩ (Nat.le_of_ble_eq_true rfl) ml_X7_186 dX7_close_12 rfl (fun b12 μ12 => ?_)
    refine pb_pop 16 dX7_close_15 rfl rfl ?_
    refine pb_aload_n 17 dX7_close_16 rfl rfl rfl ?_
    refine pb_getI 20 (j := 16) in_X7 rfl (by decide) rfl rfl (by decide) fl_X7_183 dX7_close_17 rfl ?_
    exact pb_iret dX7_close_20
theorem mc_X7_close : pb_MC yX7_close cX7_close 2 (some .int) 1 := ⟨pb_inW 1058 (by decide +kernel) (by decide +kernel), pb_inW 68 (by decide +kernel) (by decide +kernel), by decide +kernel, by decide +kernel, by decide +kernel⟩
theorem mi_X7_close : Cond.instanceMethod yX7_close ∈ pb_gw := pb_inW 1056 (by decide +kernel) (by decide +kernel)
theorem ms_X7_close : Cond.selects (yX7_close).cls yX7_close yX7_close ∈ pb_gw := pb_inW 1057 (by decide +kernel) (by decide +kernel)
theorem cl_X7_close {α : Type} {l : Launch} {E : pb_E} {R : Room} {own : String} {cc : ByteArray} {mL : Nat} {ret : Option FieldType} {Xs : State → Prop} {nc ns : Nat} {Qf : State → Array Value → List Frame → α → pb_M → State → Prop} {pc : Nat} {L : List (Option Value)} {S : List Value} {μ : pb_M} {f : Int32 → pb_M → Option (α × pb_M)} {v1 : Int32} {index : Nat} (q : Nat)  (hR : 4 + 1 ≤ R.frames ∧ 8 + (2 + 11) + 98 ≤ R.locals ∧ nc ≤ R.cells ∧ ns ≤ R.slots) (hW : (S.map fun v => v.category).sum ≤ 8) (hl1 : Cond.methodLink own index yX7_close ∈ pb_gw) (hdg : decode cc pc = .ok (.invokevirtual index, 3)) (hq : pc + 3 = q) (k : ∀ b1 μ1, pb_RW l E R own cc mL ret Xs nc ns Qf q L (.int b1 :: S) μ1 (f b1 μ1)) : pb_RW l E R own cc mL ret Xs nc ns Qf pc L (.int v1 :: .ref (E.2.1 19) :: S) μ (pb_b (pX7_close v1 μ) f) := pb_callV q (fun z : Int32 => some (.int z)) mc_X7_close mi_X7_close ms_X7_close (fun b1 μ1 h => evX7_close l E v1  μ b1 μ1 h) rfl (by decide) rfl rfl rfl rfl hR rfl hW hl1 hdg hq k
theorem kc_X7_189 : Cond.constantLong RX7 189 (10 : Int64) ∈ pb_gw := pb_inW 1067 (by decide +kernel) (by decide +kernel)
def pX7_tenTo_L4 (v0 : Int32) : Nat → Int64 → Int32 → pb_M → Option (Int64 × pb_M)
  | 0, _, _, _ => none
  | n + 1, v1, v3, μ =>
    if v0 ≤ v3 then
      some (v1, μ)
    else
    pX7_tenTo_L4 v0 n (v1 * (10 : Int64)) (v3 + (1 : Int32)) μ
def pX7_tenTo (v0 : Int32) (μ : pb_M) : Option (Int64 × pb_M) :=
  pX7_tenTo_L4 v0 pb_F (1 : Int64) (0 : Int32) μ
abbrev wX7_tenTo (l : Launch) (E : pb_E) := pb_RW l E { frames := 0, cells := 0, slots := 0, locals := 0 } RX7 cX7_tenTo 4 (some .long) (fun _ => True) 0 0 (pb_Qf E (fun z : Int64 => some (.long z)))
set_option maxRecDepth 100000 in
set_option maxHeartbeats 4000000 in
theorem tX7_tenTo_L4 (l : Launch) (E : pb_E) (v0 : Int32)   : ∀ (n : Nat) (v1 : Int64) (v3 : Int32) (μ : pb_M), wX7_tenTo l E 4 [some (.int v0), some (.long v1), none, some (.int v3)] [] μ (pX7_tenTo_L4 v0 n v1 v3 μ) := by
  intro n
  induction n with
  | zero => intro v1 v3 μ; exact pb_none
  | succ n ih =>
    intro v1 v3 μ
    rw [pX7_tenTo_L4]
    refine pb_iload_n 5 dX7_tenTo_4 rfl rfl rfl ?_
    refine pb_iload_n 6 dX7_tenTo_5 rfl rfl rfl ?_
    refine pb_icmp_ge 9 (tgt := 21) dX7_tenTo_6 (by decide) rfl (fun _ => ?_) (fun _ => ?_)
    · refine pb_lload_n 22 dX7_tenTo_21 rfl rfl rfl ?_
      exact pb_lret dX7_tenTo_22
    · refine pb_lload_n 10 dX7_tenTo_9 rfl rfl rfl ?_
      refine pb_ldc2 13 kc_X7_189 dX7_tenTo_10 rfl ?_
      refine pb_lmul 14 dX7_tenTo_13 rfl ?_
      refine pb_lstore_n 15 (i := 1) (L' := [some (.int v0), some (.long (v1 * (10 : Int64))), none, some (.int v3)]) dX7_tenTo_14 rfl (by decide) rfl rfl rfl ?_
      refine pb_iinc 18 (i := 3) (v := (v3 + (1 : Int32))) (L' := [some (.int v0), some (.long (v1 * (10 : Int64))), none, some (.int (v3 + (1 : Int32)))]) dX7_tenTo_15 rfl rfl (by decide) rfl rfl rfl ?_
      refine pb_goto (tgt := 4) dX7_tenTo_18 (by decide) ?_
      exact ih (v1 * (10 : Int64)) (v3 + (1 : Int32)) μ
set_option maxRecDepth 100000 in
set_option maxHeartbeats 4000000 in
theorem evX7_tenTo (l : Launch) (E : pb_E) (v0 : Int32)  (μ : pb_M) : ∀ b μ', pX7_tenTo v0 μ = some (b, μ') → pb_Ev l E yX7_tenTo cX7_tenTo 4 (some .long) { frames := 0, cells := 0, slots := 0, locals := 0 } [.int v0] μ ((fun z : Int64 => some (.long z)) b) μ' := by
  refine pb_enter (L := [some (.int v0), none, none, none]) (by decide +kernel) (Nat.le_of_ble_eq_true rfl) (pb_same [none, none, none, none] rfl) (show wX7_tenTo l E 0 [some (.int v0), none, none, none] [] μ (pX7_tenTo v0 μ) from ?_)
  unfold pX7_tenTo
  refine pb_lconst 1 (v := 1) dX7_tenTo_0 rfl (by decide) ?_
  refine pb_lstore_n 2 (i := 1) (L' := [some (.int v0), some (.long (1 : Int64)), none, none]) dX7_tenTo_1 rfl (by decide) rfl rfl rfl ?_
  refine pb_iconst 3 (v := 0) dX7_tenTo_2 rfl (by decide) ?_
  refine pb_istore_n 4 (i := 3) (L' := [some (.int v0), some (.long (1 : Int64)), none, some (.int (0 : Int32))]) dX7_tenTo_3 rfl (by decide) rfl rfl rfl ?_
  exact tX7_tenTo_L4 l E v0 pb_F (1 : Int64) (0 : Int32) μ
theorem mc_X7_tenTo : pb_MC yX7_tenTo cX7_tenTo 4 (some .long) 1 := ⟨pb_inW 1066 (by decide +kernel) (by decide +kernel), pb_inW 68 (by decide +kernel) (by decide +kernel), by decide +kernel, by decide +kernel, by decide +kernel⟩
theorem ms_X7_tenTo : Cond.static yX7_tenTo ∈ pb_gw := pb_inW 1065 (by decide +kernel) (by decide +kernel)
theorem cl_X7_tenTo {α : Type} {l : Launch} {E : pb_E} {R : Room} {own : String} {cc : ByteArray} {mL : Nat} {ret : Option FieldType} {Xs : State → Prop} {nc ns : Nat} {Qf : State → Array Value → List Frame → α → pb_M → State → Prop} {pc : Nat} {L : List (Option Value)} {S : List Value} {μ : pb_M} {f : Int64 → pb_M → Option (α × pb_M)} {v0 : Int32} {index : Nat} (q : Nat)  (hR : 0 + 1 ≤ R.frames ∧ 8 + (4 + 11) + 0 ≤ R.locals ∧ nc ≤ R.cells ∧ ns ≤ R.slots) (hW : (S.map fun v => v.category).sum ≤ 8) (hl1 : Cond.methodLink own index yX7_tenTo ∈ pb_gw) (hdg : decode cc pc = .ok (.invokestatic index, 3)) (hq : pc + 3 = q) (k : ∀ b1 μ1, pb_RW l E R own cc mL ret Xs nc ns Qf q L (.long b1 :: S) μ1 (f b1 μ1)) : pb_RW l E R own cc mL ret Xs nc ns Qf pc L (.int v0 :: S) μ (pb_b (pX7_tenTo v0 μ) f) := pb_callS q (fun z : Int64 => some (.long z)) mc_X7_tenTo ms_X7_tenTo (fun b1 μ1 h => evX7_tenTo l E v0  μ b1 μ1 h) rfl rfl rfl hR rfl hW hl1 hdg hq k
def pX7_tryThing_J105 (v2 : Int32) (v3 : Int32) (v4 : Int32) (μ : pb_M) : Option (Int32 × pb_M) :=
  if v4 = (2 : Int32) then
    if v2 = (-1 : Int32) then
      pb_b (pX7_canKeep (1 : Int32) v3 μ) (fun b119 μ119 =>
      if b119 = (0 : Int32) then
        some ((0 : Int32), μ119)
      else
      pb_b (pX7_keepOn (1 : Int32) v3 μ119) (fun b128 μ128 =>
      some ((1 : Int32), μ128)))
    else
    some ((0 : Int32), μ)
  else
  some ((0 : Int32), μ)
def pX7_tryThing_J77 (v2 : Int32) (v3 : Int32) (v4 : Int32) (μ : pb_M) : Option (Int32 × pb_M) :=
  if v4 = (1 : Int32) then
    if v2 = (-1 : Int32) then
      pb_b (pX7_isIn (1 : Int32) v3 μ) (fun b91 μ91 =>
      if b91 = (0 : Int32) then
        pX7_tryThing_J105 v2 v3 v4 μ91
      else
      pb_b (pX7_breakOn (1 : Int32) v3 μ91) (fun b100 μ100 =>
      some ((1 : Int32), μ100)))
    else
    pX7_tryThing_J105 v2 v3 v4 μ
  else
  pX7_tryThing_J105 v2 v3 v4 μ
def pX7_tryThing (v1 : Int32) (μ : pb_M) : Option (Int32 × pb_M) :=
  if v1 = (3 : Int32) then
    pb_b (pX7_passOn (1 : Int32) μ) (fun b30 μ30 =>
    some ((1 : Int32), μ30))
  else
  pb_b (pX7_isBeast ((pb_rem (v1 / (10 : Int32)) (10 : Int32)) - (1 : Int32)) μ) (fun b37 μ37 =>
  if b37 = (0 : Int32) then
    some ((0 : Int32), μ37)
  else
  if (pb_rem v1 (10 : Int32)) = (0 : Int32) then
    pb_b (pX7_isPerson ((v1 / (100 : Int32)) - (1 : Int32)) μ37) (fun b52 μ52 =>
    if b52 = (0 : Int32) then
      pX7_tryThing_J77 ((v1 / (100 : Int32)) - (1 : Int32)) ((pb_rem (v1 / (10 : Int32)) (10 : Int32)) - (1 : Int32)) (pb_rem v1 (10 : Int32)) μ52
    else
    pb_b (pX7_clauseOn (1 : Int32) ((v1 / (100 : Int32)) - (1 : Int32)) ((pb_rem (v1 / (10 : Int32)) (10 : Int32)) - (1 : Int32)) μ52) (fun b62 μ62 =>
    if b62 = (0 : Int32) then
      pb_b (pX7_shutOn (1 : Int32) ((pb_rem (v1 / (10 : Int32)) (10 : Int32)) - (1 : Int32)) ((v1 / (100 : Int32)) - (1 : Int32)) μ62) (fun b72 μ72 =>
      some ((1 : Int32), μ72))
    else
    pX7_tryThing_J77 ((v1 / (100 : Int32)) - (1 : Int32)) ((pb_rem (v1 / (10 : Int32)) (10 : Int32)) - (1 : Int32)) (pb_rem v1 (10 : Int32)) μ62))
  else
  pX7_tryThing_J77 ((v1 / (100 : Int32)) - (1 : Int32)) ((pb_rem (v1 / (10 : Int32)) (10 : Int32)) - (1 : Int32)) (pb_rem v1 (10 : Int32)) μ37)
abbrev wX7_tryThing (l : Launch) (E : pb_E) := pb_RW l E { frames := 3, cells := 0, slots := 0, locals := 71 } RX7 cX7_tryThing 5 (some .boolean) (fun _ => True) 0 0 (pb_Qf E (fun z : Int32 => some (.int z)))
set_option maxRecDepth 100000 in
set_option maxHeartbeats 4000000 in
theorem tX7_tryThing_J105 (l : Launch) (E : pb_E)    : ∀ (v2 : Int32) (v3 : Int32) (v4 : Int32) (μ : pb_M), wX7_tryThing l E 105 [some (.ref (E.2.1 19)), none, some (.int v2), some (.int v3), some (.int v4)] [] μ (pX7_tryThing_J105 v2 v3 v4 μ) := by
  intro v2 v3 v4 μ
  unfold pX7_tryThing_J105
  refine pb_iload 107 dX7_tryThing_105 rfl rfl ?_
  refine pb_iconst 108 (v := 2) dX7_tryThing_107 rfl (by decide) ?_
  refine pb_icmp_ne 111 (tgt := 133) dX7_tryThing_108 (by decide) rfl (fun _ => ?_) (fun _ => ?_)
  · refine pb_iload_n 112 dX7_tryThing_111 rfl rfl rfl ?_
    refine pb_iconst 113 (v := -1) dX7_tryThing_112 rfl (by decide) ?_
    refine pb_icmp_ne 116 (tgt := 133) dX7_tryThing_113 (by decide) rfl (fun _ => ?_) (fun _ => ?_)
    · refine pb_aload_n 117 dX7_tryThing_116 rfl rfl rfl ?_
      refine pb_iconst 118 (v := 1) dX7_tryThing_117 rfl (by decide) ?_
      refine pb_iload_n 119 dX7_tryThing_118 rfl rfl rfl ?_
      refine cl_X7_canKeep 122 ⟨by decide, by decide, by decide, by decide⟩ (Nat.le_of_ble_eq_true rfl) ml_X7_147 dX7_tryThing_119 rfl (fun b119 μ119 => ?_)
      refine pb_if_eq 125 (tgt := 133) dX7_tryThing_122 (by decide) rfl (fun _ => ?_) (fun _ => ?_)
      · refine pb_iconst 134 (v := 0) dX7_tryThing_133 rfl (by decide) ?_
        exact pb_zret rfl dX7_tryThing_134
      · refine pb_aload_n 126 dX7_tryThing_125 rfl rfl rfl ?_
        refine pb_iconst 127 (v := 1) dX7_tryThing_126 rfl (by decide) ?_
        refine pb_iload_n 128 dX7_tryThing_127 rfl rfl rfl ?_
        refine cl_X7_keepOn 131 ⟨by decide, by decide, by decide, by decide⟩ (Nat.le_of_ble_eq_true rfl) ml_X7_150 dX7_tryThing_128 rfl (fun b128 μ128 => ?_)
        refine pb_iconst 132 (v := 1) dX7_tryThing_131 rfl (by decide) ?_
        exact pb_zret rfl dX7_tryThing_132
    · refine pb_iconst 134 (v := 0) dX7_tryThing_133 rfl (by decide) ?_
      exact pb_zret rfl dX7_tryThing_134
  · refine pb_iconst 134 (v := 0) dX7_tryThing_133 rfl (by decide) ?_
    exact pb_zret rfl dX7_tryThing_134
set_option maxRecDepth 100000 in
set_option maxHeartbeats 4000000 in
theorem tX7_tryThing_J77 (l : Launch) (E : pb_E)    : ∀ (v2 : Int32) (v3 : Int32) (v4 : Int32) (μ : pb_M), wX7_tryThing l E 77 [some (.ref (E.2.1 19)), none, some (.int v2), some (.int v3), some (.int v4)] [] μ (pX7_tryThing_J77 v2 v3 v4 μ) := by
  intro v2 v3 v4 μ
  unfold pX7_tryThing_J77
  refine pb_iload 79 dX7_tryThing_77 rfl rfl ?_
  refine pb_iconst 80 (v := 1) dX7_tryThing_79 rfl (by decide) ?_
  refine pb_icmp_ne 83 (tgt := 105) dX7_tryThing_80 (by decide) rfl (fun _ => ?_) (fun _ => ?_)
  · refine pb_iload_n 84 dX7_tryThing_83 rfl rfl rfl ?_
    refine pb_iconst 85 (v := -1) dX7_tryThing_84 rfl (by decide) ?_
    refine pb_icmp_ne 88 (tgt := 105) dX7_tryThing_85 (by decide) rfl (fun _ => ?_) (fun _ => ?_)
    · refine pb_aload_n 89 dX7_tryThing_88 rfl rfl rfl ?_
      refine pb_iconst 90 (v := 1) dX7_tryThing_89 rfl (by decide) ?_
      refine pb_iload_n 91 dX7_tryThing_90 rfl rfl rfl ?_
      refine cl_X7_isIn 94 ⟨by decide, by decide, by decide, by decide⟩ (Nat.le_of_ble_eq_true rfl) ml_X7_111 dX7_tryThing_91 rfl (fun b91 μ91 => ?_)
      refine pb_if_eq 97 (tgt := 105) dX7_tryThing_94 (by decide) rfl (fun _ => ?_) (fun _ => ?_)
      · exact tX7_tryThing_J105 l E v2 v3 v4 μ91
      · refine pb_aload_n 98 dX7_tryThing_97 rfl rfl rfl ?_
        refine pb_iconst 99 (v := 1) dX7_tryThing_98 rfl (by decide) ?_
        refine pb_iload_n 100 dX7_tryThing_99 rfl rfl rfl ?_
        refine cl_X7_breakOn 103 ⟨by decide, by decide, by decide, by decide⟩ (Nat.le_of_ble_eq_true rfl) ml_X7_144 dX7_tryThing_100 rfl (fun b100 μ100 => ?_)
        refine pb_iconst 104 (v := 1) dX7_tryThing_103 rfl (by decide) ?_
        exact pb_zret rfl dX7_tryThing_104
    · exact tX7_tryThing_J105 l E v2 v3 v4 μ
  · exact tX7_tryThing_J105 l E v2 v3 v4 μ
set_option maxRecDepth 100000 in
set_option maxHeartbeats 4000000 in
theorem evX7_tryThing (l : Launch) (E : pb_E) (v1 : Int32)  (μ : pb_M) : ∀ b μ', pX7_tryThing v1 μ = some (b, μ') → pb_Ev l E yX7_tryThing cX7_tryThing 5 (some .boolean) { frames := 3, cells := 0, slots := 0, locals := 71 } [.ref (E.2.1 19), .int v1] μ ((fun z : Int32 => some (.int z)) b) μ' := by
  refine pb_enter (L := [some (.ref (E.2.1 19)), some (.int v1), none, none, none]) (by decide +kernel) (Nat.le_of_ble_eq_true rfl) (pb_same [none, none, none, none, none] rfl) (show wX7_tryThing l E 0 [some (.ref (E.2.1 19)), some (.int v1), none, none, none] [] μ (pX7_tryThing v1 μ) from ?_)
  unfold pX7_tryThing
  refine pb_iload_n 1 dX7_tryThing_0 rfl rfl rfl ?_
  refine pb_bipush 3 (v := 100) dX7_tryThing_1 rfl (by decide) ?_
  refine pb_idiv 4 dX7_tryThing_3 rfl (by decide) ?_
  refine pb_iconst 5 (v := 1) dX7_tryThing_4 rfl (by decide) ?_
  refine pb_isub 6 dX7_tryThing_5 rfl ?_
  refine pb_istore_n 7 (i := 2) (L' := [some (.ref (E.2.1 19)), some (.int v1), some (.int ((v1 / (100 : Int32)) - (1 : Int32))), none, none]) dX7_tryThing_6 rfl (by decide) rfl rfl rfl ?_
  refine pb_iload_n 8 dX7_tryThing_7 rfl rfl rfl ?_
  refine pb_bipush 10 (v := 10) dX7_tryThing_8 rfl (by decide) ?_
  refine pb_idiv 11 dX7_tryThing_10 rfl (by decide) ?_
  refine pb_bipush 13 (v := 10) dX7_tryThing_11 rfl (by decide) ?_
  refine pb_irem 14 dX7_tryThing_13 rfl (by decide) ?_
  refine pb_iconst 15 (v := 1) dX7_tryThing_14 rfl (by decide) ?_
  refine pb_isub 16 dX7_tryThing_15 rfl ?_
  refine pb_istore_n 17 (i := 3) (L' := [some (.ref (E.2.1 19)), some (.int v1), some (.int ((v1 / (100 : Int32)) - (1 : Int32))), some (.int ((pb_rem (v1 / (10 : Int32)) (10 : Int32)) - (1 : Int32))), none]) dX7_tryThing_16 rfl (by decide) rfl rfl rfl ?_
  refine pb_iload_n 18 dX7_tryThing_17 rfl rfl rfl ?_
  refine pb_bipush 20 (v := 10) dX7_tryThing_18 rfl (by decide) ?_
  refine pb_irem 21 dX7_tryThing_20 rfl (by decide) ?_
  refine pb_istore 23 (i := 4) (L' := [some (.ref (E.2.1 19)), some (.int v1), some (.int ((v1 / (100 : Int32)) - (1 : Int32))), some (.int ((pb_rem (v1 / (10 : Int32)) (10 : Int32)) - (1 : Int32))), some (.int (pb_rem v1 (10 : Int32)))]) dX7_tryThing_21 (by decide) rfl rfl rfl ?_
  refine pb_iload_n 24 dX7_tryThing_23 rfl rfl rfl ?_
  refine pb_iconst 25 (v := 3) dX7_tryThing_24 rfl (by decide) ?_
  refine pb_icmp_ne 28 (tgt := 35) dX7_tryThing_25 (by decide) rfl (fun _ => ?_) (fun _ => ?_)
  · refine pb_aload_n 29 dX7_tryThing_28 rfl rfl rfl ?_
    refine pb_iconst 30 (v := 1) dX7_tryThing_29 rfl (by decide) ?_
    refine cl_X7_passOn 33 ⟨by decide, by decide, by decide, by decide⟩ (Nat.le_of_ble_eq_true rfl) ml_X7_135 dX7_tryThing_30 rfl (fun b30 μ30 => ?_)
    refine pb_iconst 34 (v := 1) dX7_tryThing_33 rfl (by decide) ?_
    exact pb_zret rfl dX7_tryThing_34
  · refine pb_aload_n 36 dX7_tryThing_35 rfl rfl rfl ?_
    refine pb_iload_n 37 dX7_tryThing_36 rfl rfl rfl ?_
    refine cl_X7_isBeast 40 ⟨by decide, by decide, by decide, by decide⟩ (Nat.le_of_ble_eq_true rfl) ml_X7_108 dX7_tryThing_37 rfl (fun b37 μ37 => ?_)
    refine pb_if_ne 43 (tgt := 45) dX7_tryThing_40 (by decide) rfl (fun _ => ?_) (fun _ => ?_)
    · refine pb_iconst 44 (v := 0) dX7_tryThing_43 rfl (by decide) ?_
      exact pb_zret rfl dX7_tryThing_44
    · refine pb_iload 47 dX7_tryThing_45 rfl rfl ?_
      refine pb_if_ne 50 (tgt := 77) dX7_tryThing_47 (by decide) rfl (fun _ => ?_) (fun _ => ?_)
      · refine pb_aload_n 51 dX7_tryThing_50 rfl rfl rfl ?_
        refine pb_iload_n 52 dX7_tryThing_51 rfl rfl rfl ?_
        refine cl_X7_isPerson 55 ⟨by decide, by decide, by decide, by decide⟩ (Nat.le_of_ble_eq_true rfl) ml_X7_100 dX7_tryThing_52 rfl (fun b52 μ52 => ?_)
        refine pb_if_eq 58 (tgt := 77) dX7_tryThing_55 (by decide) rfl (fun _ => ?_) (fun _ => ?_)
        · refine pb_weakM (L' := [some (.ref (E.2.1 19)), none, some (.int ((v1 / (100 : Int32)) - (1 : Int32))), some (.int ((pb_rem (v1 / (10 : Int32)) (10 : Int32)) - (1 : Int32))), some (.int (pb_rem v1 (10 : Int32)))]) [true, false, true, true, true] rfl ?_
          exact tX7_tryThing_J77 l E ((v1 / (100 : Int32)) - (1 : Int32)) ((pb_rem (v1 / (10 : Int32)) (10 : Int32)) - (1 : Int32)) (pb_rem v1 (10 : Int32)) μ52
        · refine pb_aload_n 59 dX7_tryThing_58 rfl rfl rfl ?_
          refine pb_iconst 60 (v := 1) dX7_tryThing_59 rfl (by decide) ?_
          refine pb_iload_n 61 dX7_tryThing_60 rfl rfl rfl ?_
          refine pb_iload_n 62 dX7_tryThing_61 rfl rfl rfl ?_
          refine cl_X7_clauseOn 65 ⟨by decide, by decide, by decide, by decide⟩ (Nat.le_of_ble_eq_true rfl) ml_X7_129 dX7_tryThing_62 rfl (fun b62 μ62 => ?_)
          refine pb_if_ne 68 (tgt := 77) dX7_tryThing_65 (by decide) rfl (fun _ => ?_) (fun _ => ?_)
          · refine pb_aload_n 69 dX7_tryThing_68 rfl rfl rfl ?_
            refine pb_iconst 70 (v := 1) dX7_tryThing_69 rfl (by decide) ?_
            refine pb_iload_n 71 dX7_tryThing_70 rfl rfl rfl ?_
            refine pb_iload_n 72 dX7_tryThing_71 rfl rfl rfl ?_
            refine cl_X7_shutOn 75 ⟨by decide, by decide, by decide, by decide⟩ (Nat.le_of_ble_eq_true rfl) ml_X7_114 dX7_tryThing_72 rfl (fun b72 μ72 => ?_)
            refine pb_iconst 76 (v := 1) dX7_tryThing_75 rfl (by decide) ?_
            exact pb_zret rfl dX7_tryThing_76
          · refine pb_weakM (L' := [some (.ref (E.2.1 19)), none, some (.int ((v1 / (100 : Int32)) - (1 : Int32))), some (.int ((pb_rem (v1 / (10 : Int32)) (10 : Int32)) - (1 : Int32))), some (.int (pb_rem v1 (10 : Int32)))]) [true, false, true, true, true] rfl ?_
            exact tX7_tryThing_J77 l E ((v1 / (100 : Int32)) - (1 : Int32)) ((pb_rem (v1 / (10 : Int32)) (10 : Int32)) - (1 : Int32)) (pb_rem v1 (10 : Int32)) μ62
      · refine pb_weakM (L' := [some (.ref (E.2.1 19)), none, some (.int ((v1 / (100 : Int32)) - (1 : Int32))), some (.int ((pb_rem (v1 / (10 : Int32)) (10 : Int32)) - (1 : Int32))), some (.int (pb_rem v1 (10 : Int32)))]) [true, false, true, true, true] rfl ?_
        exact tX7_tryThing_J77 l E ((v1 / (100 : Int32)) - (1 : Int32)) ((pb_rem (v1 / (10 : Int32)) (10 : Int32)) - (1 : Int32)) (pb_rem v1 (10 : Int32)) μ37
theorem mc_X7_tryThing : pb_MC yX7_tryThing cX7_tryThing 5 (some .boolean) 1 := ⟨pb_inW 1072 (by decide +kernel) (by decide +kernel), pb_inW 68 (by decide +kernel) (by decide +kernel), by decide +kernel, by decide +kernel, by decide +kernel⟩
theorem mi_X7_tryThing : Cond.instanceMethod yX7_tryThing ∈ pb_gw := pb_inW 1071 (by decide +kernel) (by decide +kernel)
theorem ms_X7_tryThing : Cond.selects (yX7_tryThing).cls yX7_tryThing yX7_tryThing ∈ pb_gw := pb_inW 53 (by decide +kernel) (by decide +kernel)
theorem cl_X7_tryThing {α : Type} {l : Launch} {E : pb_E} {R : Room} {own : String} {cc : ByteArray} {mL : Nat} {ret : Option FieldType} {Xs : State → Prop} {nc ns : Nat} {Qf : State → Array Value → List Frame → α → pb_M → State → Prop} {pc : Nat} {L : List (Option Value)} {S : List Value} {μ : pb_M} {f : Int32 → pb_M → Option (α × pb_M)} {v1 : Int32} {index : Nat} (q : Nat)  (hR : 3 + 1 ≤ R.frames ∧ 8 + (5 + 11) + 71 ≤ R.locals ∧ nc ≤ R.cells ∧ ns ≤ R.slots) (hW : (S.map fun v => v.category).sum ≤ 8) (hl1 : Cond.methodLink own index yX7_tryThing ∈ pb_gw) (hdg : decode cc pc = .ok (.invokevirtual index, 3)) (hq : pc + 3 = q) (k : ∀ b1 μ1, pb_RW l E R own cc mL ret Xs nc ns Qf q L (.int b1 :: S) μ1 (f b1 μ1)) : pb_RW l E R own cc mL ret Xs nc ns Qf pc L (.int v1 :: .ref (E.2.1 19) :: S) μ (pb_b (pX7_tryThing v1 μ) f) := pb_callV q (fun z : Int32 => some (.int z)) mc_X7_tryThing mi_X7_tryThing ms_X7_tryThing (fun b1 μ1 h => evX7_tryThing l E v1  μ b1 μ1 h) rfl (by decide) rfl rfl rfl rfl hR rfl hW hl1 hdg hq k
theorem kc_X7_191 : Cond.constantLong RX7 191 (4 : Int64) ∈ pb_gw := pb_inW 1063 (by decide +kernel) (by decide +kernel)
theorem kc_X7_197 : Cond.constantLong RX7 197 (1000 : Int64) ∈ pb_gw := pb_inW 1068 (by decide +kernel) (by decide +kernel)
theorem ml_X7_193 : Cond.methodLink RX7 193 yX7_tenTo ∈ pb_gw := pb_inW 1064 (by decide +kernel) (by decide +kernel)
theorem ml_X7_199 : Cond.methodLink RX7 199 yX7_tryThing ∈ pb_gw := pb_inW 1069 (by decide +kernel) (by decide +kernel)
def pX7_judge_L38 (v1 : Int32) (v2 : Int64) : Nat → Int32 → pb_M → Option (Int32 × pb_M)
  | 0, _, _ => none
  | n + 1, v4, μ =>
    if v1 ≤ v4 then
      some ((-9 : Int32), μ)
    else
    pb_b (pX7_tenTo ((3 : Int32) * ((v1 - (1 : Int32)) - v4)) μ) (fun b54 μ54 =>
    if b54 = 0 then none else
    pb_b (pX7_tryThing ((pb_lmod (v2 / b54) (1000 : Int64))).toInt32 μ54) (fun b63 μ63 =>
    if b63 = (0 : Int32) then
      some (v4, μ63)
    else
    pX7_judge_L38 v1 v2 n (v4 + (1 : Int32)) μ63))
def pX7_judge (v1 : Int32) (v2 : Int64) (μ : pb_M) : Option (Int32 × pb_M) :=
  pb_b (pX7_in (v1).toInt64 (1 : Int64) (4 : Int64) μ) (fun b6 μ6 =>
  if b6 = (0 : Int32) then
    some ((-2 : Int32), μ6)
  else
  pb_b (pX7_tenTo ((3 : Int32) * v1) μ6) (fun b17 μ17 =>
  pb_b (pX7_in v2 (0 : Int64) (b17 - (1 : Int64)) μ17) (fun b22 μ22 =>
  if b22 = (0 : Int32) then
    some ((-2 : Int32), μ22)
  else
  pb_b (pX7_layTrial μ22) (fun b32 μ32 =>
  pX7_judge_L38 v1 v2 pb_F (0 : Int32) μ32))))
abbrev wX7_judge (l : Launch) (E : pb_E) := pb_RW l E { frames := 4, cells := 0, slots := 0, locals := 95 } RX7 cX7_judge 5 (some .int) (fun _ => True) 0 0 (pb_Qf E (fun z : Int32 => some (.int z)))
set_option maxRecDepth 100000 in
set_option maxHeartbeats 4000000 in
theorem tX7_judge_L38 (l : Launch) (E : pb_E) (v1 : Int32) (v2 : Int64)   : ∀ (n : Nat) (v4 : Int32) (μ : pb_M), wX7_judge l E 38 [some (.ref (E.2.1 19)), some (.int v1), some (.long v2), none, some (.int v4)] [] μ (pX7_judge_L38 v1 v2 n v4 μ) := by
  intro n
  induction n with
  | zero => intro v4 μ; exact pb_none
  | succ n ih =>
    intro v4 μ
    rw [pX7_judge_L38]
    refine pb_iload 40 dX7_judge_38 rfl rfl ?_
    refine pb_iload_n 41 dX7_judge_40 rfl rfl rfl ?_
    refine pb_icmp_ge 44 (tgt := 78) dX7_judge_41 (by decide) rfl (fun _ => ?_) (fun _ => ?_)
    · refine pb_bipush 80 (v := -9) dX7_judge_78 rfl (by decide) ?_
      exact pb_iret dX7_judge_80
    · refine pb_aload_n 45 dX7_judge_44 rfl rfl rfl ?_
      refine pb_lload_n 46 dX7_judge_45 rfl rfl rfl ?_
      refine pb_iconst 47 (v := 3) dX7_judge_46 rfl (by decide) ?_
      refine pb_iload_n 48 dX7_judge_47 rfl rfl rfl ?_
      refine pb_iconst 49 (v := 1) dX7_judge_48 rfl (by decide) ?_
      refine pb_isub 50 dX7_judge_49 rfl ?_
      refine pb_iload 52 dX7_judge_50 rfl rfl ?_
      refine pb_isub 53 dX7_judge_52 rfl ?_
      refine pb_imul 54 dX7_judge_53 rfl ?_
      refine cl_X7_tenTo 57 ⟨by decide, by decide, by decide, by decide⟩ (Nat.le_of_ble_eq_true rfl) ml_X7_193 dX7_judge_54 rfl (fun b54 μ54 => ?_)
      refine pb_guardN (fun hne => pb_ldiv 58 dX7_judge_57 rfl hne ?_)
      refine pb_ldc2 61 kc_X7_197 dX7_judge_58 rfl ?_
      refine pb_lrem 62 dX7_judge_61 rfl (by decide) ?_
      refine pb_l2i 63 dX7_judge_62 rfl ?_
      refine cl_X7_tryThing 66 ⟨by decide, by decide, by decide, by decide⟩ (Nat.le_of_ble_eq_true rfl) ml_X7_199 dX7_judge_63 rfl (fun b63 μ63 => ?_)
      refine pb_if_ne 69 (tgt := 72) dX7_judge_66 (by decide) rfl (fun _ => ?_) (fun _ => ?_)
      · refine pb_iload 71 dX7_judge_69 rfl rfl ?_
        exact pb_iret dX7_judge_71
      · refine pb_iinc 75 (i := 4) (v := (v4 + (1 : Int32))) (L' := [some (.ref (E.2.1 19)), some (.int v1), some (.long v2), none, some (.int (v4 + (1 : Int32)))]) dX7_judge_72 rfl rfl (by decide) rfl rfl rfl ?_
        refine pb_goto (tgt := 38) dX7_judge_75 (by decide) ?_
        exact ih (v4 + (1 : Int32)) μ63
set_option maxRecDepth 100000 in
set_option maxHeartbeats 4000000 in
theorem evX7_judge (l : Launch) (E : pb_E) (v1 : Int32) (v2 : Int64)  (μ : pb_M) : ∀ b μ', pX7_judge v1 v2 μ = some (b, μ') → pb_Ev l E yX7_judge cX7_judge 5 (some .int) { frames := 4, cells := 0, slots := 0, locals := 95 } [.ref (E.2.1 19), .int v1, .long v2] μ ((fun z : Int32 => some (.int z)) b) μ' := by
  refine pb_enter (L := [some (.ref (E.2.1 19)), some (.int v1), some (.long v2), none, none]) (by decide +kernel) (Nat.le_of_ble_eq_true rfl) (pb_same [none, none, none, none, none] rfl) (show wX7_judge l E 0 [some (.ref (E.2.1 19)), some (.int v1), some (.long v2), none, none] [] μ (pX7_judge v1 v2 μ) from ?_)
  unfold pX7_judge
  refine pb_iload_n 1 dX7_judge_0 rfl rfl rfl ?_
  refine pb_i2l 2 dX7_judge_1 rfl ?_
  refine pb_lconst 3 (v := 1) dX7_judge_2 rfl (by decide) ?_
  refine pb_ldc2 6 kc_X7_191 dX7_judge_3 rfl ?_
  refine cl_X7_in 9 ⟨by decide, by decide, by decide, by decide⟩ (Nat.le_of_ble_eq_true rfl) ml_X7_47 dX7_judge_6 rfl (fun b6 μ6 => ?_)
  refine pb_if_eq 12 (tgt := 28) dX7_judge_9 (by decide) rfl (fun _ => ?_) (fun _ => ?_)
  · refine pb_bipush 30 (v := -2) dX7_judge_28 rfl (by decide) ?_
    exact pb_iret dX7_judge_30
  · refine pb_lload_n 13 dX7_judge_12 rfl rfl rfl ?_
    refine pb_lconst 14 (v := 0) dX7_judge_13 rfl (by decide) ?_
    refine pb_iconst 15 (v := 3) dX7_judge_14 rfl (by decide) ?_
    refine pb_iload_n 16 dX7_judge_15 rfl rfl rfl ?_
    refine pb_imul 17 dX7_judge_16 rfl ?_
    refine cl_X7_tenTo 20 ⟨by decide, by decide, by decide, by decide⟩ (Nat.le_of_ble_eq_true rfl) ml_X7_193 dX7_judge_17 rfl (fun b17 μ17 => ?_)
    refine pb_lconst 21 (v := 1) dX7_judge_20 rfl (by decide) ?_
    refine pb_lsub 22 dX7_judge_21 rfl ?_
    refine cl_X7_in 25 ⟨by decide, by decide, by decide, by decide⟩ (Nat.le_of_ble_eq_true rfl) ml_X7_47 dX7_judge_22 rfl (fun b22 μ22 => ?_)
    refine pb_if_ne 28 (tgt := 31) dX7_judge_25 (by decide) rfl (fun _ => ?_) (fun _ => ?_)
    · refine pb_bipush 30 (v := -2) dX7_judge_28 rfl (by decide) ?_
      exact pb_iret dX7_judge_30
    · refine pb_aload_n 32 dX7_judge_31 rfl rfl rfl ?_
      refine cl_X7_layTrial 35 ⟨by decide, by decide, by decide, by decide⟩ (Nat.le_of_ble_eq_true rfl) ml_X7_153 dX7_judge_32 rfl (fun b32 μ32 => ?_)
      refine pb_iconst 36 (v := 0) dX7_judge_35 rfl (by decide) ?_
      refine pb_istore 38 (i := 4) (L' := [some (.ref (E.2.1 19)), some (.int v1), some (.long v2), none, some (.int (0 : Int32))]) dX7_judge_36 (by decide) rfl rfl rfl ?_
      exact tX7_judge_L38 l E v1 v2 pb_F (0 : Int32) μ32
theorem mc_X7_judge : pb_MC yX7_judge cX7_judge 5 (some .int) 2 := ⟨pb_inW 1062 (by decide +kernel) (by decide +kernel), pb_inW 68 (by decide +kernel) (by decide +kernel), by decide +kernel, by decide +kernel, by decide +kernel⟩
theorem mi_X7_judge : Cond.instanceMethod yX7_judge ∈ pb_gw := pb_inW 1060 (by decide +kernel) (by decide +kernel)
theorem ms_X7_judge : Cond.selects (yX7_judge).cls yX7_judge yX7_judge ∈ pb_gw := pb_inW 1061 (by decide +kernel) (by decide +kernel)
theorem cl_X7_judge {α : Type} {l : Launch} {E : pb_E} {R : Room} {own : String} {cc : ByteArray} {mL : Nat} {ret : Option FieldType} {Xs : State → Prop} {nc ns : Nat} {Qf : State → Array Value → List Frame → α → pb_M → State → Prop} {pc : Nat} {L : List (Option Value)} {S : List Value} {μ : pb_M} {f : Int32 → pb_M → Option (α × pb_M)} {v1 : Int32} {v2 : Int64} {index : Nat} (q : Nat)  (hR : 4 + 1 ≤ R.frames ∧ 8 + (5 + 11) + 95 ≤ R.locals ∧ nc ≤ R.cells ∧ ns ≤ R.slots) (hW : (S.map fun v => v.category).sum ≤ 8) (hl1 : Cond.methodLink own index yX7_judge ∈ pb_gw) (hdg : decode cc pc = .ok (.invokevirtual index, 3)) (hq : pc + 3 = q) (k : ∀ b1 μ1, pb_RW l E R own cc mL ret Xs nc ns Qf q L (.int b1 :: S) μ1 (f b1 μ1)) : pb_RW l E R own cc mL ret Xs nc ns Qf pc L (.long v2 :: .int v1 :: .ref (E.2.1 19) :: S) μ (pb_b (pX7_judge v1 v2 μ) f) := pb_callV q (fun z : Int32 => some (.int z)) mc_X7_judge mi_X7_judge ms_X7_judge (fun b1 μ1 h => evX7_judge l E v1 v2  μ b1 μ1 h) rfl (by decide) rfl rfl rfl rfl hR rfl hW hl1 hdg hq k
def pX7_mayTake_L5 (v1 : Int32) (v2 : Int32) : Nat → Int32 → Int32 → pb_M → Option (Int32 × pb_M)
  | 0, _, _, _ => none
  | n + 1, v3, v4, μ =>
    if (μ.1 19 1) ≤ v4 then
      some (v3, μ)
    else
    pb_b (pX7_has v2 v4 μ) (fun b18 μ18 =>
    if b18 = (0 : Int32) then
      pX7_mayTake_L5 v1 v2 n (v3 ||| (0 : Int32)) (v4 + (1 : Int32)) μ18
    else
    pb_b (pX7_clauseOn (0 : Int32) v1 v4 μ18) (fun b29 μ29 =>
    if b29 = (0 : Int32) then
      pX7_mayTake_L5 v1 v2 n (v3 ||| ((1 : Int32) <<< (v4 &&& 31))) (v4 + (1 : Int32)) μ29
    else
    pX7_mayTake_L5 v1 v2 n (v3 ||| (0 : Int32)) (v4 + (1 : Int32)) μ29))
def pX7_mayTake (v1 : Int32) (v2 : Int32) (μ : pb_M) : Option (Int32 × pb_M) :=
  pX7_mayTake_L5 v1 v2 pb_F (0 : Int32) (0 : Int32) μ
abbrev wX7_mayTake (l : Launch) (E : pb_E) := pb_RW l E { frames := 2, cells := 0, slots := 0, locals := 47 } RX7 cX7_mayTake 5 (some .int) (fun _ => True) 0 0 (pb_Qf E (fun z : Int32 => some (.int z)))
set_option maxRecDepth 100000 in
set_option maxHeartbeats 4000000 in
theorem tX7_mayTake_L5 (l : Launch) (E : pb_E) (v1 : Int32) (v2 : Int32)   : ∀ (n : Nat) (v3 : Int32) (v4 : Int32) (μ : pb_M), wX7_mayTake l E 5 [some (.ref (E.2.1 19)), some (.int v1), some (.int v2), some (.int v3), some (.int v4)] [] μ (pX7_mayTake_L5 v1 v2 n v3 v4 μ) := by
  intro n
  induction n with
  | zero => intro v3 v4 μ; exact pb_none
  | succ n ih =>
    intro v3 v4 μ
    rw [pX7_mayTake_L5]
    refine pb_iload 7 dX7_mayTake_5 rfl rfl ?_
    refine pb_aload_n 8 dX7_mayTake_7 rfl rfl rfl ?_
    refine pb_getI 11 (j := 1) in_X7 rfl (by decide) rfl rfl (by decide) fl_X7_94 dX7_mayTake_8 rfl ?_
    refine pb_icmp_ge 14 (tgt := 51) dX7_mayTake_11 (by decide) rfl (fun _ => ?_) (fun _ => ?_)
    · refine pb_iload_n 52 dX7_mayTake_51 rfl rfl rfl ?_
      exact pb_iret dX7_mayTake_52
    · refine pb_iload_n 15 dX7_mayTake_14 rfl rfl rfl ?_
      refine pb_iload_n 16 dX7_mayTake_15 rfl rfl rfl ?_
      refine pb_iload 18 dX7_mayTake_16 rfl rfl ?_
      refine cl_X7_has 21 ⟨by decide, by decide, by decide, by decide⟩ (Nat.le_of_ble_eq_true rfl) ml_X7_62 dX7_mayTake_18 rfl (fun b18 μ18 => ?_)
      refine pb_if_eq 24 (tgt := 42) dX7_mayTake_21 (by decide) rfl (fun _ => ?_) (fun _ => ?_)
      · refine pb_iconst 43 (v := 0) dX7_mayTake_42 rfl (by decide) ?_
        refine pb_ior 44 dX7_mayTake_43 rfl ?_
        refine pb_istore_n 45 (i := 3) (L' := [some (.ref (E.2.1 19)), some (.int v1), some (.int v2), some (.int (v3 ||| (0 : Int32))), some (.int v4)]) dX7_mayTake_44 rfl (by decide) rfl rfl rfl ?_
        refine pb_iinc 48 (i := 4) (v := (v4 + (1 : Int32))) (L' := [some (.ref (E.2.1 19)), some (.int v1), some (.int v2), some (.int (v3 ||| (0 : Int32))), some (.int (v4 + (1 : Int32)))]) dX7_mayTake_45 rfl rfl (by decide) rfl rfl rfl ?_
        refine pb_goto (tgt := 5) dX7_mayTake_48 (by decide) ?_
        exact ih (v3 ||| (0 : Int32)) (v4 + (1 : Int32)) μ18
      · refine pb_aload_n 25 dX7_mayTake_24 rfl rfl rfl ?_
        refine pb_iconst 26 (v := 0) dX7_mayTake_25 rfl (by decide) ?_
        refine pb_iload_n 27 dX7_mayTake_26 rfl rfl rfl ?_
        refine pb_iload 29 dX7_mayTake_27 rfl rfl ?_
        refine cl_X7_clauseOn 32 ⟨by decide, by decide, by decide, by decide⟩ (Nat.le_of_ble_eq_true rfl) ml_X7_129 dX7_mayTake_29 rfl (fun b29 μ29 => ?_)
        refine pb_if_ne 35 (tgt := 42) dX7_mayTake_32 (by decide) rfl (fun _ => ?_) (fun _ => ?_)
        · refine pb_iconst 36 (v := 1) dX7_mayTake_35 rfl (by decide) ?_
          refine pb_iload 38 dX7_mayTake_36 rfl rfl ?_
          refine pb_ishl 39 dX7_mayTake_38 rfl ?_
          refine pb_goto (tgt := 43) dX7_mayTake_39 (by decide) ?_
          refine pb_ior 44 dX7_mayTake_43 rfl ?_
          refine pb_istore_n 45 (i := 3) (L' := [some (.ref (E.2.1 19)), some (.int v1), some (.int v2), some (.int (v3 ||| ((1 : Int32) <<< (v4 &&& 31)))), some (.int v4)]) dX7_mayTake_44 rfl (by decide) rfl rfl rfl ?_
          refine pb_iinc 48 (i := 4) (v := (v4 + (1 : Int32))) (L' := [some (.ref (E.2.1 19)), some (.int v1), some (.int v2), some (.int (v3 ||| ((1 : Int32) <<< (v4 &&& 31)))), some (.int (v4 + (1 : Int32)))]) dX7_mayTake_45 rfl rfl (by decide) rfl rfl rfl ?_
          refine pb_goto (tgt := 5) dX7_mayTake_48 (by decide) ?_
          exact ih (v3 ||| ((1 : Int32) <<< (v4 &&& 31))) (v4 + (1 : Int32)) μ29
        · refine pb_iconst 43 (v := 0) dX7_mayTake_42 rfl (by decide) ?_
          refine pb_ior 44 dX7_mayTake_43 rfl ?_
          refine pb_istore_n 45 (i := 3) (L' := [some (.ref (E.2.1 19)), some (.int v1), some (.int v2), some (.int (v3 ||| (0 : Int32))), some (.int v4)]) dX7_mayTake_44 rfl (by decide) rfl rfl rfl ?_
          refine pb_iinc 48 (i := 4) (v := (v4 + (1 : Int32))) (L' := [some (.ref (E.2.1 19)), some (.int v1), some (.int v2), some (.int (v3 ||| (0 : Int32))), some (.int (v4 + (1 : Int32)))]) dX7_mayTake_45 rfl rfl (by decide) rfl rfl rfl ?_
          refine pb_goto (tgt := 5) dX7_mayTake_48 (by decide) ?_
          exact ih (v3 ||| (0 : Int32)) (v4 + (1 : Int32)) μ29
set_option maxRecDepth 100000 in
set_option maxHeartbeats 4000000 in
theorem evX7_mayTake (l : Launch) (E : pb_E) (v1 : Int32) (v2 : Int32)  (μ : pb_M) : ∀ b μ', pX7_mayTake v1 v2 μ = some (b, μ') → pb_Ev l E yX7_mayTake cX7_mayTake 5 (some .int) { frames := 2, cells := 0, slots := 0, locals := 47 } [.ref (E.2.1 19), .int v1, .int v2] μ ((fun z : Int32 => some (.int z)) b) μ' := by
  refine pb_enter (L := [some (.ref (E.2.1 19)), some (.int v1), some (.int v2), none, none]) (by decide +kernel) (Nat.le_of_ble_eq_true rfl) (pb_same [none, none, none, none, none] rfl) (show wX7_mayTake l E 0 [some (.ref (E.2.1 19)), some (.int v1), some (.int v2), none, none] [] μ (pX7_mayTake v1 v2 μ) from ?_)
  unfold pX7_mayTake
  refine pb_iconst 1 (v := 0) dX7_mayTake_0 rfl (by decide) ?_
  refine pb_istore_n 2 (i := 3) (L' := [some (.ref (E.2.1 19)), some (.int v1), some (.int v2), some (.int (0 : Int32)), none]) dX7_mayTake_1 rfl (by decide) rfl rfl rfl ?_
  refine pb_iconst 3 (v := 0) dX7_mayTake_2 rfl (by decide) ?_
  refine pb_istore 5 (i := 4) (L' := [some (.ref (E.2.1 19)), some (.int v1), some (.int v2), some (.int (0 : Int32)), some (.int (0 : Int32))]) dX7_mayTake_3 (by decide) rfl rfl rfl ?_
  exact tX7_mayTake_L5 l E v1 v2 pb_F (0 : Int32) (0 : Int32) μ
theorem mc_X7_mayTake : pb_MC yX7_mayTake cX7_mayTake 5 (some .int) 2 := ⟨pb_inW 1080 (by decide +kernel) (by decide +kernel), pb_inW 68 (by decide +kernel) (by decide +kernel), by decide +kernel, by decide +kernel, by decide +kernel⟩
theorem mi_X7_mayTake : Cond.instanceMethod yX7_mayTake ∈ pb_gw := pb_inW 1079 (by decide +kernel) (by decide +kernel)
theorem ms_X7_mayTake : Cond.selects (yX7_mayTake).cls yX7_mayTake yX7_mayTake ∈ pb_gw := pb_inW 54 (by decide +kernel) (by decide +kernel)
theorem cl_X7_mayTake {α : Type} {l : Launch} {E : pb_E} {R : Room} {own : String} {cc : ByteArray} {mL : Nat} {ret : Option FieldType} {Xs : State → Prop} {nc ns : Nat} {Qf : State → Array Value → List Frame → α → pb_M → State → Prop} {pc : Nat} {L : List (Option Value)} {S : List Value} {μ : pb_M} {f : Int32 → pb_M → Option (α × pb_M)} {v1 : Int32} {v2 : Int32} {index : Nat} (q : Nat)  (hR : 2 + 1 ≤ R.frames ∧ 8 + (5 + 11) + 47 ≤ R.locals ∧ nc ≤ R.cells ∧ ns ≤ R.slots) (hW : (S.map fun v => v.category).sum ≤ 8) (hl1 : Cond.methodLink own index yX7_mayTake ∈ pb_gw) (hdg : decode cc pc = .ok (.invokevirtual index, 3)) (hq : pc + 3 = q) (k : ∀ b1 μ1, pb_RW l E R own cc mL ret Xs nc ns Qf q L (.int b1 :: S) μ1 (f b1 μ1)) : pb_RW l E R own cc mL ret Xs nc ns Qf pc L (.int v2 :: .int v1 :: .ref (E.2.1 19) :: S) μ (pb_b (pX7_mayTake v1 v2 μ) f) := pb_callV q (fun z : Int32 => some (.int z)) mc_X7_mayTake mi_X7_mayTake ms_X7_mayTake (fun b1 μ1 h => evX7_mayTake l E v1 v2  μ b1 μ1 h) rfl (by decide) rfl rfl rfl rfl hR rfl hW hl1 hdg hq k
theorem ml_X7_202 : Cond.methodLink RX7 202 yX7_mayTake ∈ pb_gw := pb_inW 1077 (by decide +kernel) (by decide +kernel)
def pX7_who_L25 (v1 : Int32) : Nat → Int32 → Int32 → pb_M → Option (Int32 × pb_M)
  | 0, _, _, _ => none
  | n + 1, v2, v3, μ =>
    if (μ.1 19 0) ≤ v3 then
      some (v2, μ)
    else
    pb_b (pX7_mayTake v3 v1 μ) (fun b37 μ37 =>
    if b37 = v1 then
      pX7_who_L25 v1 n (v2 ||| ((1 : Int32) <<< (v3 &&& 31))) (v3 + (1 : Int32)) μ37
    else
    pX7_who_L25 v1 n (v2 ||| (0 : Int32)) (v3 + (1 : Int32)) μ37)
def pX7_who (v1 : Int32) (μ : pb_M) : Option (Int32 × pb_M) :=
  pb_b (pX7_in (v1).toInt64 (0 : Int64) ((((1 : Int32) <<< ((μ.1 19 1) &&& 31)) - (1 : Int32))).toInt64 μ) (fun b12 μ12 =>
  if b12 = (0 : Int32) then
    some ((-2 : Int32), μ12)
  else
  pX7_who_L25 v1 pb_F (0 : Int32) (0 : Int32) μ12)
abbrev wX7_who (l : Launch) (E : pb_E) := pb_RW l E { frames := 3, cells := 0, slots := 0, locals := 71 } RX7 cX7_who 4 (some .int) (fun _ => True) 0 0 (pb_Qf E (fun z : Int32 => some (.int z)))
set_option maxRecDepth 100000 in
set_option maxHeartbeats 4000000 in
theorem tX7_who_L25 (l : Launch) (E : pb_E) (v1 : Int32)   : ∀ (n : Nat) (v2 : Int32) (v3 : Int32) (μ : pb_M), wX7_who l E 25 [some (.ref (E.2.1 19)), some (.int v1), some (.int v2), some (.int v3)] [] μ (pX7_who_L25 v1 n v2 v3 μ) := by
  intro n
  induction n with
  | zero => intro v2 v3 μ; exact pb_none
  | succ n ih =>
    intro v2 v3 μ
    rw [pX7_who_L25]
    refine pb_iload_n 26 dX7_who_25 rfl rfl rfl ?_
    refine pb_aload_n 27 dX7_who_26 rfl rfl rfl ?_
    refine pb_getI 30 (j := 0) in_X7 rfl (by decide) rfl rfl (by decide) fl_X7_41 dX7_who_27 rfl ?_
    refine pb_icmp_ge 33 (tgt := 59) dX7_who_30 (by decide) rfl (fun _ => ?_) (fun _ => ?_)
    · refine pb_iload_n 60 dX7_who_59 rfl rfl rfl ?_
      exact pb_iret dX7_who_60
    · refine pb_iload_n 34 dX7_who_33 rfl rfl rfl ?_
      refine pb_aload_n 35 dX7_who_34 rfl rfl rfl ?_
      refine pb_iload_n 36 dX7_who_35 rfl rfl rfl ?_
      refine pb_iload_n 37 dX7_who_36 rfl rfl rfl ?_
      refine cl_X7_mayTake 40 ⟨by decide, by decide, by decide, by decide⟩ (Nat.le_of_ble_eq_true rfl) ml_X7_202 dX7_who_37 rfl (fun b37 μ37 => ?_)
      refine pb_iload_n 41 dX7_who_40 rfl rfl rfl ?_
      refine pb_icmp_ne 44 (tgt := 50) dX7_who_41 (by decide) rfl (fun _ => ?_) (fun _ => ?_)
      · refine pb_iconst 45 (v := 1) dX7_who_44 rfl (by decide) ?_
        refine pb_iload_n 46 dX7_who_45 rfl rfl rfl ?_
        refine pb_ishl 47 dX7_who_46 rfl ?_
        refine pb_goto (tgt := 51) dX7_who_47 (by decide) ?_
        refine pb_ior 52 dX7_who_51 rfl ?_
        refine pb_istore_n 53 (i := 2) (L' := [some (.ref (E.2.1 19)), some (.int v1), some (.int (v2 ||| ((1 : Int32) <<< (v3 &&& 31)))), some (.int v3)]) dX7_who_52 rfl (by decide) rfl rfl rfl ?_
        refine pb_iinc 56 (i := 3) (v := (v3 + (1 : Int32))) (L' := [some (.ref (E.2.1 19)), some (.int v1), some (.int (v2 ||| ((1 : Int32) <<< (v3 &&& 31)))), some (.int (v3 + (1 : Int32)))]) dX7_who_53 rfl rfl (by decide) rfl rfl rfl ?_
        refine pb_goto (tgt := 25) dX7_who_56 (by decide) ?_
        exact ih (v2 ||| ((1 : Int32) <<< (v3 &&& 31))) (v3 + (1 : Int32)) μ37
      · refine pb_iconst 51 (v := 0) dX7_who_50 rfl (by decide) ?_
        refine pb_ior 52 dX7_who_51 rfl ?_
        refine pb_istore_n 53 (i := 2) (L' := [some (.ref (E.2.1 19)), some (.int v1), some (.int (v2 ||| (0 : Int32))), some (.int v3)]) dX7_who_52 rfl (by decide) rfl rfl rfl ?_
        refine pb_iinc 56 (i := 3) (v := (v3 + (1 : Int32))) (L' := [some (.ref (E.2.1 19)), some (.int v1), some (.int (v2 ||| (0 : Int32))), some (.int (v3 + (1 : Int32)))]) dX7_who_53 rfl rfl (by decide) rfl rfl rfl ?_
        refine pb_goto (tgt := 25) dX7_who_56 (by decide) ?_
        exact ih (v2 ||| (0 : Int32)) (v3 + (1 : Int32)) μ37
set_option maxRecDepth 100000 in
set_option maxHeartbeats 4000000 in
theorem evX7_who (l : Launch) (E : pb_E) (v1 : Int32)  (μ : pb_M) : ∀ b μ', pX7_who v1 μ = some (b, μ') → pb_Ev l E yX7_who cX7_who 4 (some .int) { frames := 3, cells := 0, slots := 0, locals := 71 } [.ref (E.2.1 19), .int v1] μ ((fun z : Int32 => some (.int z)) b) μ' := by
  refine pb_enter (L := [some (.ref (E.2.1 19)), some (.int v1), none, none]) (by decide +kernel) (Nat.le_of_ble_eq_true rfl) (pb_same [none, none, none, none] rfl) (show wX7_who l E 0 [some (.ref (E.2.1 19)), some (.int v1), none, none] [] μ (pX7_who v1 μ) from ?_)
  unfold pX7_who
  refine pb_iload_n 1 dX7_who_0 rfl rfl rfl ?_
  refine pb_i2l 2 dX7_who_1 rfl ?_
  refine pb_lconst 3 (v := 0) dX7_who_2 rfl (by decide) ?_
  refine pb_iconst 4 (v := 1) dX7_who_3 rfl (by decide) ?_
  refine pb_aload_n 5 dX7_who_4 rfl rfl rfl ?_
  refine pb_getI 8 (j := 1) in_X7 rfl (by decide) rfl rfl (by decide) fl_X7_94 dX7_who_5 rfl ?_
  refine pb_ishl 9 dX7_who_8 rfl ?_
  refine pb_iconst 10 (v := 1) dX7_who_9 rfl (by decide) ?_
  refine pb_isub 11 dX7_who_10 rfl ?_
  refine pb_i2l 12 dX7_who_11 rfl ?_
  refine cl_X7_in 15 ⟨by decide, by decide, by decide, by decide⟩ (Nat.le_of_ble_eq_true rfl) ml_X7_47 dX7_who_12 rfl (fun b12 μ12 => ?_)
  refine pb_if_ne 18 (tgt := 21) dX7_who_15 (by decide) rfl (fun _ => ?_) (fun _ => ?_)
  · refine pb_bipush 20 (v := -2) dX7_who_18 rfl (by decide) ?_
    exact pb_iret dX7_who_20
  · refine pb_iconst 22 (v := 0) dX7_who_21 rfl (by decide) ?_
    refine pb_istore_n 23 (i := 2) (L' := [some (.ref (E.2.1 19)), some (.int v1), some (.int (0 : Int32)), none]) dX7_who_22 rfl (by decide) rfl rfl rfl ?_
    refine pb_iconst 24 (v := 0) dX7_who_23 rfl (by decide) ?_
    refine pb_istore_n 25 (i := 3) (L' := [some (.ref (E.2.1 19)), some (.int v1), some (.int (0 : Int32)), some (.int (0 : Int32))]) dX7_who_24 rfl (by decide) rfl rfl rfl ?_
    exact tX7_who_L25 l E v1 pb_F (0 : Int32) (0 : Int32) μ12
theorem mc_X7_who : pb_MC yX7_who cX7_who 4 (some .int) 1 := ⟨pb_inW 1076 (by decide +kernel) (by decide +kernel), pb_inW 68 (by decide +kernel) (by decide +kernel), by decide +kernel, by decide +kernel, by decide +kernel⟩
theorem mi_X7_who : Cond.instanceMethod yX7_who ∈ pb_gw := pb_inW 1074 (by decide +kernel) (by decide +kernel)
theorem ms_X7_who : Cond.selects (yX7_who).cls yX7_who yX7_who ∈ pb_gw := pb_inW 1075 (by decide +kernel) (by decide +kernel)
theorem cl_X7_who {α : Type} {l : Launch} {E : pb_E} {R : Room} {own : String} {cc : ByteArray} {mL : Nat} {ret : Option FieldType} {Xs : State → Prop} {nc ns : Nat} {Qf : State → Array Value → List Frame → α → pb_M → State → Prop} {pc : Nat} {L : List (Option Value)} {S : List Value} {μ : pb_M} {f : Int32 → pb_M → Option (α × pb_M)} {v1 : Int32} {index : Nat} (q : Nat)  (hR : 3 + 1 ≤ R.frames ∧ 8 + (4 + 11) + 71 ≤ R.locals ∧ nc ≤ R.cells ∧ ns ≤ R.slots) (hW : (S.map fun v => v.category).sum ≤ 8) (hl1 : Cond.methodLink own index yX7_who ∈ pb_gw) (hdg : decode cc pc = .ok (.invokevirtual index, 3)) (hq : pc + 3 = q) (k : ∀ b1 μ1, pb_RW l E R own cc mL ret Xs nc ns Qf q L (.int b1 :: S) μ1 (f b1 μ1)) : pb_RW l E R own cc mL ret Xs nc ns Qf pc L (.int v1 :: .ref (E.2.1 19) :: S) μ (pb_b (pX7_who v1 μ) f) := pb_callV q (fun z : Int32 => some (.int z)) mc_X7_who mi_X7_who ms_X7_who (fun b1 μ1 h => evX7_who l E v1  μ b1 μ1 h) rfl (by decide) rfl rfl rfl rfl hR rfl hW hl1 hdg hq k
def pX7_areSuspects_L5 (v1 : Int32) (v2 : Int32) : Nat → Int32 → Int32 → pb_M → Option (Int32 × pb_M)
  | 0, _, _, _ => none
  | n + 1, v3, v4, μ =>
    if (μ.1 19 0) ≤ v4 then
      if v3 = v2 then
        some ((1 : Int32), μ)
      else
      some ((0 : Int32), μ)
    else
    pb_b (pX7_has v1 v4 μ) (fun b17 μ17 =>
    if b17 = (0 : Int32) then
      pX7_areSuspects_L5 v1 v2 n v3 (v4 + (1 : Int32)) μ17
    else
    pb_b (pX7_mayTake v4 v2 μ17) (fun b27 μ27 =>
    if b27 = (0 : Int32) then
      some ((0 : Int32), μ27)
    else
    pb_b (pX7_mayTake v4 v2 μ27) (fun b40 μ40 =>
    pX7_areSuspects_L5 v1 v2 n (v3 ||| b40) (v4 + (1 : Int32)) μ40)))
def pX7_areSuspects (v1 : Int32) (v2 : Int32) (μ : pb_M) : Option (Int32 × pb_M) :=
  pX7_areSuspects_L5 v1 v2 pb_F (0 : Int32) (0 : Int32) μ
abbrev wX7_areSuspects (l : Launch) (E : pb_E) := pb_RW l E { frames := 3, cells := 0, slots := 0, locals := 71 } RX7 cX7_areSuspects 5 (some .boolean) (fun _ => True) 0 0 (pb_Qf E (fun z : Int32 => some (.int z)))
set_option maxRecDepth 100000 in
set_option maxHeartbeats 4000000 in
theorem tX7_areSuspects_L5 (l : Launch) (E : pb_E) (v1 : Int32) (v2 : Int32)   : ∀ (n : Nat) (v3 : Int32) (v4 : Int32) (μ : pb_M), wX7_areSuspects l E 5 [some (.ref (E.2.1 19)), some (.int v1), some (.int v2), some (.int v3), some (.int v4)] [] μ (pX7_areSuspects_L5 v1 v2 n v3 v4 μ) := by
  intro n
  induction n with
  | zero => intro v3 v4 μ; exact pb_none
  | succ n ih =>
    intro v3 v4 μ
    rw [pX7_areSuspects_L5]
    refine pb_iload 7 dX7_areSuspects_5 rfl rfl ?_
    refine pb_aload_n 8 dX7_areSuspects_7 rfl rfl rfl ?_
    refine pb_getI 11 (j := 0) in_X7 rfl (by decide) rfl rfl (by decide) fl_X7_41 dX7_areSuspects_8 rfl ?_
    refine pb_icmp_ge 14 (tgt := 51) dX7_areSuspects_11 (by decide) rfl (fun _ => ?_) (fun _ => ?_)
    · refine pb_iload_n 52 dX7_areSuspects_51 rfl rfl rfl ?_
      refine pb_iload_n 53 dX7_areSuspects_52 rfl rfl rfl ?_
      refine pb_icmp_ne 56 (tgt := 60) dX7_areSuspects_53 (by decide) rfl (fun _ => ?_) (fun _ => ?_)
      · refine pb_iconst 57 (v := 1) dX7_areSuspects_56 rfl (by decide) ?_
        refine pb_goto (tgt := 61) dX7_areSuspects_57 (by decide) ?_
        exact pb_zret rfl dX7_areSuspects_61
      · refine pb_iconst 61 (v := 0) dX7_areSuspects_60 rfl (by decide) ?_
        exact pb_zret rfl dX7_areSuspects_61
    · refine pb_iload_n 15 dX7_areSuspects_14 rfl rfl rfl ?_
      refine pb_iload 17 dX7_areSuspects_15 rfl rfl ?_
      refine cl_X7_has 20 ⟨by decide, by decide, by decide, by decide⟩ (Nat.le_of_ble_eq_true rfl) ml_X7_62 dX7_areSuspects_17 rfl (fun b17 μ17 => ?_)
      refine pb_if_eq 23 (tgt := 45) dX7_areSuspects_20 (by decide) rfl (fun _ => ?_) (fun _ => ?_)
      · refine pb_iinc 48 (i := 4) (v := (v4 + (1 : Int32))) (L' := [some (.ref (E.2.1 19)), some (.int v1), some (.int v2), some (.int v3), some (.int (v4 + (1 : Int32)))]) dX7_areSuspects_45 rfl rfl (by decide) rfl rfl rfl ?_
        refine pb_goto (tgt := 5) dX7_areSuspects_48 (by decide) ?_
        exact ih v3 (v4 + (1 : Int32)) μ17
      · refine pb_aload_n 24 dX7_areSuspects_23 rfl rfl rfl ?_
        refine pb_iload 26 dX7_areSuspects_24 rfl rfl ?_
        refine pb_iload_n 27 dX7_areSuspects_26 rfl rfl rfl ?_
        refine cl_X7_mayTake 30 ⟨by decide, by decide, by decide, by decide⟩ (Nat.le_of_ble_eq_true rfl) ml_X7_202 dX7_areSuspects_27 rfl (fun b27 μ27 => ?_)
        refine pb_if_ne 33 (tgt := 35) dX7_areSuspects_30 (by decide) rfl (fun _ => ?_) (fun _ => ?_)
        · refine pb_iconst 34 (v := 0) dX7_areSuspects_33 rfl (by decide) ?_
          exact pb_zret rfl dX7_areSuspects_34
        · refine pb_iload_n 36 dX7_areSuspects_35 rfl rfl rfl ?_
          refine pb_aload_n 37 dX7_areSuspects_36 rfl rfl rfl ?_
          refine pb_iload 39 dX7_areSuspects_37 rfl rfl ?_
          refine pb_iload_n 40 dX7_areSuspects_39 rfl rfl rfl ?_
          refine cl_X7_mayTake 43 ⟨by decide, by decide, by decide, by decide⟩ (Nat.le_of_ble_eq_true rfl) ml_X7_202 dX7_areSuspects_40 rfl (fun b40 μ40 => ?_)
          refine pb_ior 44 dX7_areSuspects_43 rfl ?_
          refine pb_istore_n 45 (i := 3) (L' := [some (.ref (E.2.1 19)), some (.int v1), some (.int v2), some (.int (v3 ||| b40)), some (.int v4)]) dX7_areSuspects_44 rfl (by decide) rfl rfl rfl ?_
          refine pb_iinc 48 (i := 4) (v := (v4 + (1 : Int32))) (L' := [some (.ref (E.2.1 19)), some (.int v1), some (.int v2), some (.int (v3 ||| b40)), some (.int (v4 + (1 : Int32)))]) dX7_areSuspects_45 rfl rfl (by decide) rfl rfl rfl ?_
          refine pb_goto (tgt := 5) dX7_areSuspects_48 (by decide) ?_
          exact ih (v3 ||| b40) (v4 + (1 : Int32)) μ40
set_option maxRecDepth 100000 in
set_option maxHeartbeats 4000000 in
theorem evX7_areSuspects (l : Launch) (E : pb_E) (v1 : Int32) (v2 : Int32)  (μ : pb_M) : ∀ b μ', pX7_areSuspects v1 v2 μ = some (b, μ') → pb_Ev l E yX7_areSuspects cX7_areSuspects 5 (some .boolean) { frames := 3, cells := 0, slots := 0, locals := 71 } [.ref (E.2.1 19), .int v1, .int v2] μ ((fun z : Int32 => some (.int z)) b) μ' := by
  refine pb_enter (L := [some (.ref (E.2.1 19)), some (.int v1), some (.int v2), none, none]) (by decide +kernel) (Nat.le_of_ble_eq_true rfl) (pb_same [none, none, none, none, none] rfl) (show wX7_areSuspects l E 0 [some (.ref (E.2.1 19)), some (.int v1), some (.int v2), none, none] [] μ (pX7_areSuspects v1 v2 μ) from ?_)
  unfold pX7_areSuspects
  refine pb_iconst 1 (v := 0) dX7_areSuspects_0 rfl (by decide) ?_
  refine pb_istore_n 2 (i := 3) (L' := [some (.ref (E.2.1 19)), some (.int v1), some (.int v2), some (.int (0 : Int32)), none]) dX7_areSuspects_1 rfl (by decide) rfl rfl rfl ?_
  refine pb_iconst 3 (v := 0) dX7_areSuspects_2 rfl (by decide) ?_
  refine pb_istore 5 (i := 4) (L' := [some (.ref (E.2.1 19)), some (.int v1), some (.int v2), some (.int (0 : Int32)), some (.int (0 : Int32))]) dX7_areSuspects_3 (by decide) rfl rfl rfl ?_
  exact tX7_areSuspects_L5 l E v1 v2 pb_F (0 : Int32) (0 : Int32) μ
theorem mc_X7_areSuspects : pb_MC yX7_areSuspects cX7_areSuspects 5 (some .boolean) 2 := ⟨pb_inW 1089 (by decide +kernel) (by decide +kernel), pb_inW 68 (by decide +kernel) (by decide +kernel), by decide +kernel, by decide +kernel, by decide +kernel⟩
theorem mi_X7_areSuspects : Cond.instanceMethod yX7_areSuspects ∈ pb_gw := pb_inW 1088 (by decide +kernel) (by decide +kernel)
theorem ms_X7_areSuspects : Cond.selects (yX7_areSuspects).cls yX7_areSuspects yX7_areSuspects ∈ pb_gw := pb_inW 55 (by decide +kernel) (by decide +kernel)
theorem cl_X7_areSuspects {α : Type} {l : Launch} {E : pb_E} {R : Room} {own : String} {cc : ByteArray} {mL : Nat} {ret : Option FieldType} {Xs : State → Prop} {nc ns : Nat} {Qf : State → Array Value → List Frame → α → pb_M → State → Prop} {pc : Nat} {L : List (Option Value)} {S : List Value} {μ : pb_M} {f : Int32 → pb_M → Option (α × pb_M)} {v1 : Int32} {v2 : Int32} {index : Nat} (q : Nat)  (hR : 3 + 1 ≤ R.frames ∧ 8 + (5 + 11) + 71 ≤ R.locals ∧ nc ≤ R.cells ∧ ns ≤ R.slots) (hW : (S.map fun v => v.category).sum ≤ 8) (hl1 : Cond.methodLink own index yX7_areSuspects ∈ pb_gw) (hdg : decode cc pc = .ok (.invokevirtual index, 3)) (hq : pc + 3 = q) (k : ∀ b1 μ1, pb_RW l E R own cc mL ret Xs nc ns Qf q L (.int b1 :: S) μ1 (f b1 μ1)) : pb_RW l E R own cc mL ret Xs nc ns Qf pc L (.int v2 :: .int v1 :: .ref (E.2.1 19) :: S) μ (pb_b (pX7_areSuspects v1 v2 μ) f) := pb_callV q (fun z : Int32 => some (.int z)) mc_X7_areSuspects mi_X7_areSuspects ms_X7_areSuspects (fun b1 μ1 h => evX7_areSuspects l E v1 v2  μ b1 μ1 h) rfl (by decide) rfl rfl rfl rfl hR rfl hW hl1 hdg hq k
theorem kc_X7_205 : Cond.constantLong RX7 205 (2 : Int64) ∈ pb_gw := pb_inW 1085 (by decide +kernel) (by decide +kernel)
theorem ml_X7_207 : Cond.methodLink RX7 207 yX7_areSuspects ∈ pb_gw := pb_inW 1086 (by decide +kernel) (by decide +kernel)
def pX7_suspects_L51 (v1 : Int32) (v2 : Int32) (K95 : Int32 → Int32 → Int32 → pb_M → Option (Int32 × pb_M)) : Nat → Int32 → Int32 → Int32 → Int32 → pb_M → Option (Int32 × pb_M)
  | 0, _, _, _, _, _ => none
  | n + 1, v3, v4, v5, v6, μ =>
    if ((1 : Int32) <<< ((μ.1 19 0) &&& 31)) ≤ v6 then
      K95 v3 v4 v5 μ
    else
    pb_b (pX7_areSuspects v6 v1 μ) (fun b66 μ66 =>
    if b66 = (0 : Int32) then
      pX7_suspects_L51 v1 v2 K95 n v3 v4 v5 (v6 + (1 : Int32)) μ66
    else
    pX7_suspects_L51 v1 v2 K95 n (v3 + (1 : Int32)) (v4 &&& v6) (v5 ||| v6) (v6 + (1 : Int32)) μ66)
def pX7_suspects (v1 : Int32) (v2 : Int32) (μ : pb_M) : Option (Int32 × pb_M) :=
  pb_b (pX7_in (v1).toInt64 (0 : Int64) ((((1 : Int32) <<< ((μ.1 19 1) &&& 31)) - (1 : Int32))).toInt64 μ) (fun b12 μ12 =>
  if b12 = (0 : Int32) then
    some ((-2 : Int32), μ12)
  else
  pb_b (pX7_in (v2).toInt64 (0 : Int64) (2 : Int64) μ12) (fun b24 μ24 =>
  if b24 = (0 : Int32) then
    some ((-2 : Int32), μ24)
  else
  pX7_suspects_L51 v1 v2 (fun x3k95 x4k95 x5k95 μk95 =>
    if v2 = (0 : Int32) then
      some (x3k95, μk95)
    else
    if x3k95 = (0 : Int32) then
      some ((-9 : Int32), μk95)
    else
    if v2 = (1 : Int32) then
      some (x4k95, μk95)
    else
    some (((((1 : Int32) <<< ((μk95.1 19 0) &&& 31)) - (1 : Int32)) &&& (x5k95 ^^^ (-1 : Int32))), μk95)) pb_F (0 : Int32) (((1 : Int32) <<< ((μ24.1 19 0) &&& 31)) - (1 : Int32)) (0 : Int32) (0 : Int32) μ24))
abbrev wX7_suspects (l : Launch) (E : pb_E) := pb_RW l E { frames := 4, cells := 0, slots := 0, locals := 95 } RX7 cX7_suspects 7 (some .int) (fun _ => True) 0 0 (pb_Qf E (fun z : Int32 => some (.int z)))
set_option maxRecDepth 100000 in
set_option maxHeartbeats 4000000 in
theorem tX7_suspects_L51 (l : Launch) (E : pb_E) (v1 : Int32) (v2 : Int32) {K95 : Int32 → Int32 → Int32 → pb_M → Option (Int32 × pb_M)} (hK95 : ∀ (w3 : Int32) (w4 : Int32) (w5 : Int32) (μ : pb_M), wX7_suspects l E 95 [some (.ref (E.2.1 19)), none, some (.int v2), some (.int w3), some (.int w4), some (.int w5), none] [] μ (K95 w3 w4 w5 μ)) : ∀ (n : Nat) (v3 : Int32) (v4 : Int32) (v5 : Int32) (v6 : Int32) (μ : pb_M), wX7_suspects l E 51 [some (.ref (E.2.1 19)), some (.int v1), some (.int v2), some (.int v3), some (.int v4), some (.int v5), some (.int v6)] [] μ (pX7_suspects_L51 v1 v2 K95 n v3 v4 v5 v6 μ) := by
  intro n
  induction n with
  | zero => intro v3 v4 v5 v6 μ; exact pb_none
  | succ n ih =>
    intro v3 v4 v5 v6 μ
    rw [pX7_suspects_L51]
    refine pb_iload 53 dX7_suspects_51 rfl rfl ?_
    refine pb_iconst 54 (v := 1) dX7_suspects_53 rfl (by decide) ?_
    refine pb_aload_n 55 dX7_suspects_54 rfl rfl rfl ?_
    refine pb_getI 58 (j := 0) in_X7 rfl (by decide) rfl rfl (by decide) fl_X7_41 dX7_suspects_55 rfl ?_
    refine pb_ishl 59 dX7_suspects_58 rfl ?_
    refine pb_icmp_ge 62 (tgt := 95) dX7_suspects_59 (by decide) rfl (fun _ => ?_) (fun _ => ?_)
    · refine pb_weakM (L' := [some (.ref (E.2.1 19)), none, some (.int v2), some (.int v3), some (.int v4), some (.int v5), none]) [true, false, true, true, true, true, false] rfl ?_
      exact hK95 v3 v4 v5 μ
    · refine pb_aload_n 63 dX7_suspects_62 rfl rfl rfl ?_
      refine pb_iload 65 dX7_suspects_63 rfl rfl ?_
      refine pb_iload_n 66 dX7_suspects_65 rfl rfl rfl ?_
      refine cl_X7_areSuspects 69 ⟨by decide, by decide, by decide, by decide⟩ (Nat.le_of_ble_eq_true rfl) ml_X7_207 dX7_suspects_66 rfl (fun b66 μ66 => ?_)
      refine pb_if_eq 72 (tgt := 89) dX7_suspects_69 (by decide) rfl (fun _ => ?_) (fun _ => ?_)
      · refine pb_iinc 92 (i := 6) (v := (v6 + (1 : Int32))) (L' := [some (.ref (E.2.1 19)), some (.int v1), some (.int v2), some (.int v3), some (.int v4), some (.int v5), some (.int (v6 + (1 : Int32)))]) dX7_suspects_89 rfl rfl (by decide) rfl rfl rfl ?_
        refine pb_goto (tgt := 51) dX7_suspects_92 (by decide) ?_
        exact ih v3 v4 v5 (v6 + (1 : Int32)) μ66
      · refine pb_iinc 75 (i := 3) (v := (v3 + (1 : Int32))) (L' := [some (.ref (E.2.1 19)), some (.int v1), some (.int v2), some (.int (v3 + (1 : Int32))), some (.int v4), some (.int v5), some (.int v6)]) dX7_suspects_72 rfl rfl (by decide) rfl rfl rfl ?_
        refine pb_iload 77 dX7_suspects_75 rfl rfl ?_
        refine pb_iload 79 dX7_suspects_77 rfl rfl ?_
        refine pb_iand 80 dX7_suspects_79 rfl ?_
        refine pb_istore 82 (i := 4) (L' := [some (.ref (E.2.1 19)), some (.int v1), some (.int v2), some (.int (v3 + (1 : Int32))), some (.int (v4 &&& v6)), some (.int v5), some (.int v6)]) dX7_suspects_80 (by decide) rfl rfl rfl ?_
        refine pb_iload 84 dX7_suspects_82 rfl rfl ?_
        refine pb_iload 86 dX7_suspects_84 rfl rfl ?_
        refine pb_ior 87 dX7_suspects_86 rfl ?_
        refine pb_istore 89 (i := 5) (L' := [some (.ref (E.2.1 19)), some (.int v1), some (.int v2), some (.int (v3 + (1 : Int32))), some (.int (v4 &&& v6)), some (.int (v5 ||| v6)), some (.int v6)]) dX7_suspects_87 (by decide) rfl rfl rfl ?_
        refine pb_iinc 92 (i := 6) (v := (v6 + (1 : Int32))) (L' := [some (.ref (E.2.1 19)), some (.int v1), some (.int v2), some (.int (v3 + (1 : Int32))), some (.int (v4 &&& v6)), some (.int (v5 ||| v6)), some (.int (v6 + (1 : Int32)))]) dX7_suspects_89 rfl rfl (by decide) rfl rfl rfl ?_
        refine pb_goto (tgt := 51) dX7_suspects_92 (by decide) ?_
        exact ih (v3 + (1 : Int32)) (v4 &&& v6) (v5 ||| v6) (v6 + (1 : Int32)) μ66
set_option maxRecDepth 100000 in
set_option maxHeartbeats 4000000 in
theorem evX7_suspects (l : Launch) (E : pb_E) (v1 : Int32) (v2 : Int32)  (μ : pb_M) : ∀ b μ', pX7_suspects v1 v2 μ = some (b, μ') → pb_Ev l E yX7_suspects cX7_suspects 7 (some .int) { frames := 4, cells := 0, slots := 0, locals := 95 } [.ref (E.2.1 19), .int v1, .int v2] μ ((fun z : Int32 => some (.int z)) b) μ' := by
  refine pb_enter (L := [some (.ref (E.2.1 19)), some (.int v1), some (.int v2), none, none, none, none]) (by decide +kernel) (Nat.le_of_ble_eq_true rfl) (pb_same [none, none, none, none, none, none, none] rfl) (show wX7_suspects l E 0 [some (.ref (E.2.1 19)), some (.int v1), some (.int v2), none, none, none, none] [] μ (pX7_suspects v1 v2 μ) from ?_)
  unfold pX7_suspects
  refine pb_iload_n 1 dX7_suspects_0 rfl rfl rfl ?_
  refine pb_i2l 2 dX7_suspects_1 rfl ?_
  refine pb_lconst 3 (v := 0) dX7_suspects_2 rfl (by decide) ?_
  refine pb_iconst 4 (v := 1) dX7_suspects_3 rfl (by decide) ?_
  refine pb_aload_n 5 dX7_suspects_4 rfl rfl rfl ?_
  refine pb_getI 8 (j := 1) in_X7 rfl (by decide) rfl rfl (by decide) fl_X7_94 dX7_suspects_5 rfl ?_
  refine pb_ishl 9 dX7_suspects_8 rfl ?_
  refine pb_iconst 10 (v := 1) dX7_suspects_9 rfl (by decide) ?_
  refine pb_isub 11 dX7_suspects_10 rfl ?_
  refine pb_i2l 12 dX7_suspects_11 rfl ?_
  refine cl_X7_in 15 ⟨by decide, by decide, by decide, by decide⟩ (Nat.le_of_ble_eq_true rfl) ml_X7_47 dX7_suspects_12 rfl (fun b12 μ12 => ?_)
  refine pb_if_eq 18 (tgt := 30) dX7_suspects_15 (by decide) rfl (fun _ => ?_) (fun _ => ?_)
  · refine pb_bipush 32 (v := -2) dX7_suspects_30 rfl (by decide) ?_
    exact pb_iret dX7_suspects_32
  · refine pb_iload_n 19 dX7_suspects_18 rfl rfl rfl ?_
    refine pb_i2l 20 dX7_suspects_19 rfl ?_
    refine pb_lconst 21 (v := 0) dX7_suspects_20 rfl (by decide) ?_
    refine pb_ldc2 24 kc_X7_205 dX7_suspects_21 rfl ?_
    refine cl_X7_in 27 ⟨by decide, by decide, by decide, by decide⟩ (Nat.le_of_ble_eq_true rfl) ml_X7_47 dX7_suspects_24 rfl (fun b24 μ24 => ?_)
    refine pb_if_ne 30 (tgt := 33) dX7_suspects_27 (by decide) rfl (fun _ => ?_) (fun _ => ?_)
    · refine pb_bipush 32 (v := -2) dX7_suspects_30 rfl (by decide) ?_
      exact pb_iret dX7_suspects_32
    · refine pb_iconst 34 (v := 0) dX7_suspects_33 rfl (by decide) ?_
      refine pb_istore_n 35 (i := 3) (L' := [some (.ref (E.2.1 19)), some (.int v1), some (.int v2), some (.int (0 : Int32)), none, none, none]) dX7_suspects_34 rfl (by decide) rfl rfl rfl ?_
      refine pb_iconst 36 (v := 1) dX7_suspects_35 rfl (by decide) ?_
      refine pb_aload_n 37 dX7_suspects_36 rfl rfl rfl ?_
      refine pb_getI 40 (j := 0) in_X7 rfl (by decide) rfl rfl (by decide) fl_X7_41 dX7_suspects_37 rfl ?_
      refine pb_ishl 41 dX7_suspects_40 rfl ?_
      refine pb_iconst 42 (v := 1) dX7_suspects_41 rfl (by decide) ?_
      refine pb_isub 43 dX7_suspects_42 rfl ?_
      refine pb_istore 45 (i := 4) (L' := [some (.ref (E.2.1 19)), some (.int v1), some (.int v2), some (.int (0 : Int32)), some (.int (((1 : Int32) <<< ((μ24.1 19 0) &&& 31)) - (1 : Int32))), none, none]) dX7_suspects_43 (by decide) rfl rfl rfl ?_
      refine pb_iconst 46 (v := 0) dX7_suspects_45 rfl (by decide) ?_
      refine pb_istore 48 (i := 5) (L' := [some (.ref (E.2.1 19)), some (.int v1), some (.int v2), some (.int (0 : Int32)), some (.int (((1 : Int32) <<< ((μ24.1 19 0) &&& 31)) - (1 : Int32))), some (.int (0 : Int32)), none]) dX7_suspects_46 (by decide) rfl rfl rfl ?_
      refine pb_iconst 49 (v := 0) dX7_suspects_48 rfl (by decide) ?_
      refine pb_istore 51 (i := 6) (L' := [some (.ref (E.2.1 19)), some (.int v1), some (.int v2), some (.int (0 : Int32)), some (.int (((1 : Int32) <<< ((μ24.1 19 0) &&& 31)) - (1 : Int32))), some (.int (0 : Int32)), some (.int (0 : Int32))]) dX7_suspects_49 (by decide) rfl rfl rfl ?_
      refine tX7_suspects_L51 l E v1 v2 (fun x3k95 x4k95 x5k95 μk95 => ?_) pb_F (0 : Int32) (((1 : Int32) <<< ((μ24.1 19 0) &&& 31)) - (1 : Int32)) (0 : Int32) (0 : Int32) μ24
      refine pb_iload_n 96 dX7_suspects_95 rfl rfl rfl ?_
      refine pb_if_ne 99 (tgt := 103) dX7_suspects_96 (by decide) rfl (fun _ => ?_) (fun _ => ?_)
      · refine pb_iload_n 100 dX7_suspects_99 rfl rfl rfl ?_
        refine pb_goto (tgt := 135) dX7_suspects_100 (by decide) ?_
        exact pb_iret dX7_suspects_135
      · refine pb_iload_n 104 dX7_suspects_103 rfl rfl rfl ?_
        refine pb_if_ne 107 (tgt := 112) dX7_suspects_104 (by decide) rfl (fun _ => ?_) (fun _ => ?_)
        · refine pb_bipush 109 (v := -9) dX7_suspects_107 rfl (by decide) ?_
          refine pb_goto (tgt := 135) dX7_suspects_109 (by decide) ?_
          exact pb_iret dX7_suspects_135
        · refine pb_iload_n 113 dX7_suspects_112 rfl rfl rfl ?_
          refine pb_iconst 114 (v := 1) dX7_suspects_113 rfl (by decide) ?_
          refine pb_icmp_ne 117 (tgt := 122) dX7_suspects_114 (by decide) rfl (fun _ => ?_) (fun _ => ?_)
          · refine pb_iload 119 dX7_suspects_117 rfl rfl ?_
            refine pb_goto (tgt := 135) dX7_suspects_119 (by decide) ?_
            exact pb_iret dX7_suspects_135
          · refine pb_iconst 123 (v := 1) dX7_suspects_122 rfl (by decide) ?_
            refine pb_aload_n 124 dX7_suspects_123 rfl rfl rfl ?_
            refine pb_getI 127 (j := 0) in_X7 rfl (by decide) rfl rfl (by decide) fl_X7_41 dX7_suspects_124 rfl ?_
            refine pb_ishl 128 dX7_suspects_127 rfl ?_
            refine pb_iconst 129 (v := 1) dX7_suspects_128 rfl (by decide) ?_
            refine pb_isub 130 dX7_suspects_129 rfl ?_
            refine pb_iload 132 dX7_suspects_130 rfl rfl ?_
            refine pb_iconst 133 (v := -1) dX7_suspects_132 rfl (by decide) ?_
            refine pb_ixor 134 dX7_suspects_133 rfl ?_
            refine pb_iand 135 dX7_suspects_134 rfl ?_
            exact pb_iret dX7_suspects_135
theorem mc_X7_suspects : pb_MC yX7_suspects cX7_suspects 7 (some .int) 2 := ⟨pb_inW 1084 (by decide +kernel) (by decide +kernel), pb_inW 68 (by decide +kernel) (by decide +kernel), by decide +kernel, by decide +kernel, by decide +kernel⟩
theorem mi_X7_suspects : Cond.instanceMethod yX7_suspects ∈ pb_gw := pb_inW 1082 (by decide +kernel) (by decide +kernel)
theorem ms_X7_suspects : Cond.selects (yX7_suspects).cls yX7_suspects yX7_suspects ∈ pb_gw := pb_inW 1083 (by decide +kernel) (by decide +kernel)
theorem cl_X7_suspects {α : Type} {l : Launch} {E : pb_E} {R : Room} {own : String} {cc : ByteArray} {mL : Nat} {ret : Option FieldType} {Xs : State → Prop} {nc ns : Nat} {Qf : State → Array Value → List Frame → α → pb_M → State → Prop} {pc : Nat} {L : List (Option Value)} {S : List Value} {μ : pb_M} {f : Int32 → pb_M → Option (α × pb_M)} {v1 : Int32} {v2 : Int32} {index : Nat} (q : Nat)  (hR : 4 + 1 ≤ R.frames ∧ 8 + (7 + 11) + 95 ≤ R.locals ∧ nc ≤ R.cells ∧ ns ≤ R.slots) (hW : (S.map fun v => v.category).sum ≤ 8) (hl1 : Cond.methodLink own index yX7_suspects ∈ pb_gw) (hdg : decode cc pc = .ok (.invokevirtual index, 3)) (hq : pc + 3 = q) (k : ∀ b1 μ1, pb_RW l E R own cc mL ret Xs nc ns Qf q L (.int b1 :: S) μ1 (f b1 μ1)) : pb_RW l E R own cc mL ret Xs nc ns Qf pc L (.int v2 :: .int v1 :: .ref (E.2.1 19) :: S) μ (pb_b (pX7_suspects v1 v2 μ) f) := pb_callV q (fun z : Int32 => some (.int z)) mc_X7_suspects mi_X7_suspects ms_X7_suspects (fun b1 μ1 h => evX7_suspects l E v1 v2  μ b1 μ1 h) rfl (by decide) rfl rfl rfl rfl hR rfl hW hl1 hdg hq k
