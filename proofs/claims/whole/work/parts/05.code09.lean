theorem ml_X6_183 : Cond.methodLink RX6 183 yX5_takableBy ∈ pb_gw := pb_inW 537 (by decide +kernel) (by decide +kernel)
theorem ml_X6_186 : Cond.methodLink RX6 186 yX6_has ∈ pb_gw := pb_inW 542 (by decide +kernel) (by decide +kernel)
theorem ml_X6_190 : Cond.methodLink RX6 190 yX6_owedAfterKeeping ∈ pb_gw := pb_inW 545 (by decide +kernel) (by decide +kernel)
def pX6_take_J139 (v1 : Int32) (v2 : Int32) (v3 : Int32) (v4 : Int32) (S62 : Int32 → Int32 → Int32 → pb_M → Option (Int32 × pb_M)) (v5 : Int32) (v6 : Int32) (v7 : Int32) (v8 : Int32) (μ : pb_M) : Option (Int32 × pb_M) :=
  if (1 : Int32) = (0 : Int32) then
    S62 v5 v6 (v7 + (1 : Int32)) μ
  else
  S62 v7 v8 (v7 + (1 : Int32)) μ
def pX6_take_L62 (v1 : Int32) (v2 : Int32) (v3 : Int32) (v4 : Int32) : Nat → Int32 → Int32 → Int32 → pb_M → Option (Int32 × pb_M)
  | 0, _, _, _, _ => none
  | n + 1, v5, v6, v7, μ =>
    pb_b (pX5_beasts 4 μ) (fun b68 μ68 =>
    if b68 ≤ v7 then
      if v3 = (0 : Int32) then
        some (v5, μ68)
      else
      some (v6, μ68)
    else
    pb_b (pX6_has v4 v7 μ68) (fun b78 μ78 =>
    if b78 = (0 : Int32) then
      pX6_take_L62 v1 v2 v3 v4 n v5 v6 (v7 + (1 : Int32)) μ78
    else
    pb_b (pX6_owedAfterKeeping v1 v2 v7 μ78) (fun b92 μ92 =>
    if v5 = (-9 : Int32) then
      pX6_take_J139 v1 v2 v3 v4 (pX6_take_L62 v1 v2 v3 v4 n) v5 v6 v7 b92 μ92
    else
    if b92 < v6 then
      pX6_take_J139 v1 v2 v3 v4 (pX6_take_L62 v1 v2 v3 v4 n) v5 v6 v7 b92 μ92
    else
    if b92 = v6 then
      pb_b (pX5_worthOf 4 v7 μ92) (fun b124 μ124 =>
      pb_b (pX5_worthOf 4 v5 μ124) (fun b133 μ133 =>
      if b133 ≤ b124 then
        if (0 : Int32) = (0 : Int32) then
          pX6_take_L62 v1 v2 v3 v4 n v5 v6 (v7 + (1 : Int32)) μ133
        else
        pX6_take_L62 v1 v2 v3 v4 n v7 b92 (v7 + (1 : Int32)) μ133
      else
      pX6_take_J139 v1 v2 v3 v4 (pX6_take_L62 v1 v2 v3 v4 n) v5 v6 v7 b92 μ133))
    else
    if (0 : Int32) = (0 : Int32) then
      pX6_take_L62 v1 v2 v3 v4 n v5 v6 (v7 + (1 : Int32)) μ92
    else
    pX6_take_L62 v1 v2 v3 v4 n v7 b92 (v7 + (1 : Int32)) μ92)))
def pX6_take (v1 : Int32) (v2 : Int32) (v3 : Int32) (μ : pb_M) : Option (Int32 × pb_M) :=
  pb_b (pX5_hasPerson 4 v1 μ) (fun b5 μ5 =>
  if b5 = (0 : Int32) then
    some ((-1 : Int32), μ5)
  else
  pb_b (pX5_hasPerson 4 v2 μ5) (fun b16 μ16 =>
  if b16 = (0 : Int32) then
    some ((-1 : Int32), μ16)
  else
  if v1 = v2 then
    some ((-2 : Int32), μ16)
  else
  pb_b (pX5_takableBy 4 v1 μ16) (fun b37 μ37 =>
  pb_b (pX5_beastsOf 4 v2 μ37) (fun b45 μ45 =>
  pX6_take_L62 v1 v2 v3 (b37 &&& b45) pb_F (-9 : Int32) (-9 : Int32) (0 : Int32) μ45))))
abbrev wX6_take (l : Launch) (E : pb_E) := pb_RW l E { frames := 5, cells := 0, slots := 0, locals := 110 } RX6 cX6_take 10 (some .int) (fun _ => True) 0 0 (pb_Qf E (fun z : Int32 => some (.int z)))
set_option maxRecDepth 100000 in
set_option maxHeartbeats 4000000 in
theorem tX6_take_J139 (l : Launch) (E : pb_E) (v1 : Int32) (v2 : Int32) (v3 : Int32) (v4 : Int32) {S62 : Int32 → Int32 → Int32 → pb_M → Option (Int32 × pb_M)} (hS62 : ∀ (w5 : Int32) (w6 : Int32) (w7 : Int32) (μ : pb_M), wX6_take l E 62 [some (.ref (E.2.1 0)), some (.int v1), some (.int v2), some (.int v3), some (.int v4), some (.int w5), some (.int w6), some (.int w7), none, none] [] μ (S62 w5 w6 w7 μ)) : ∀ (v5 : Int32) (v6 : Int32) (v7 : Int32) (v8 : Int32) (μ : pb_M), wX6_take l E 139 [some (.ref (E.2.1 0)), some (.int v1), some (.int v2), some (.int v3), some (.int v4), some (.int v5), some (.int v6), some (.int v7), some (.int v8), none] [] μ (pX6_take_J139 v1 v2 v3 v4 S62 v5 v6 v7 v8 μ) := by
  intro v5 v6 v7 v8 μ
  unfold pX6_take_J139
  refine pb_iconst 140 (v := 1) dX6_take_139 rfl (by decide) ?_
  refine pb_goto (tgt := 144) dX6_take_140 (by decide) ?_
  refine pb_istore 146 (i := 9) (L' := [some (.ref (E.2.1 0)), some (.int v1), some (.int v2), some (.int v3), some (.int v4), some (.int v5), some (.int v6), some (.int v7), some (.int v8), some (.int (1 : Int32))]) dX6_take_144 (by decide) rfl rfl rfl ?_
  refine pb_iload 148 dX6_take_146 rfl rfl ?_
  refine pb_if_eq 151 (tgt := 159) dX6_take_148 (by decide) rfl (fun _ => ?_) (fun _ => ?_)
  · refine pb_iinc 162 (i := 7) (v := (v7 + (1 : Int32))) (L' := [some (.ref (E.2.1 0)), some (.int v1), some (.int v2), some (.int v3), some (.int v4), some (.int v5), some (.int v6), some (.int (v7 + (1 : Int32))), some (.int v8), some (.int (1 : Int32))]) dX6_take_159 rfl rfl (by decide) rfl rfl rfl ?_
    refine pb_goto (tgt := 62) dX6_take_162 (by decide) ?_
    refine pb_weakM (L' := [some (.ref (E.2.1 0)), some (.int v1), some (.int v2), some (.int v3), some (.int v4), some (.int v5), some (.int v6), some (.int (v7 + (1 : Int32))), none, none]) [true, true, true, true, true, true, true, true, false, false] rfl ?_
    exact hS62 v5 v6 (v7 + (1 : Int32)) μ
  · refine pb_iload 153 dX6_take_151 rfl rfl ?_
    refine pb_istore 155 (i := 5) (L' := [some (.ref (E.2.1 0)), some (.int v1), some (.int v2), some (.int v3), some (.int v4), some (.int v7), some (.int v6), some (.int v7), some (.int v8), some (.int (1 : Int32))]) dX6_take_153 (by decide) rfl rfl rfl ?_
    refine pb_iload 157 dX6_take_155 rfl rfl ?_
    refine pb_istore 159 (i := 6) (L' := [some (.ref (E.2.1 0)), some (.int v1), some (.int v2), some (.int v3), some (.int v4), some (.int v7), some (.int v8), some (.int v7), some (.int v8), some (.int (1 : Int32))]) dX6_take_157 (by decide) rfl rfl rfl ?_
    refine pb_iinc 162 (i := 7) (v := (v7 + (1 : Int32))) (L' := [some (.ref (E.2.1 0)), some (.int v1), some (.int v2), some (.int v3), some (.int v4), some (.int v7), some (.int v8), some (.int (v7 + (1 : Int32))), some (.int v8), some (.int (1 : Int32))]) dX6_take_159 rfl rfl (by decide) rfl rfl rfl ?_
    refine pb_goto (tgt := 62) dX6_take_162 (by decide) ?_
    refine pb_weakM (L' := [some (.ref (E.2.1 0)), some (.int v1), some (.int v2), some (.int v3), some (.int v4), some (.int v7), some (.int v8), some (.int (v7 + (1 : Int32))), none, none]) [true, true, true, true, true, true, true, true, false, false] rfl ?_
    exact hS62 v7 v8 (v7 + (1 : Int32)) μ
set_option maxRecDepth 100000 in
set_option maxHeartbeats 4000000 in
theorem tX6_take_L62 (l : Launch) (E : pb_E) (v1 : Int32) (v2 : Int32) (v3 : Int32) (v4 : Int32)   : ∀ (n : Nat) (v5 : Int32) (v6 : Int32) (v7 : Int32) (μ : pb_M), wX6_take l E 62 [some (.ref (E.2.1 0)), some (.int v1), some (.int v2), some (.int v3), some (.int v4), some (.int v5), some (.int v6), some (.int v7), none, none] [] μ (pX6_take_L62 v1 v2 v3 v4 n v5 v6 v7 μ) := by
  intro n
  induction n with
  | zero => intro v5 v6 v7 μ; exact pb_none
  | succ n ih =>
    intro v5 v6 v7 μ
    rw [pX6_take_L62]
    refine pb_iload 64 dX6_take_62 rfl rfl ?_
    refine pb_aload_n 65 dX6_take_64 rfl rfl rfl ?_
    refine pb_getR 68 (j := 1) (d := 4) in_X6 rfl (by decide) rfl rfl (by decide) fl_X6_19 dX6_take_65 rfl ?_
    refine cl_X5_beasts 71 pb_V4 ⟨by decide, by decide, by decide, by decide⟩ (Nat.le_of_ble_eq_true rfl) ml_X6_88 dX6_take_68 rfl (fun b68 μ68 => ?_)
    refine pb_icmp_ge 74 (tgt := 165) dX6_take_71 (by decide) rfl (fun _ => ?_) (fun _ => ?_)
    · refine pb_iload_n 166 dX6_take_165 rfl rfl rfl ?_
      refine pb_if_eq 169 (tgt := 174) dX6_take_166 (by decide) rfl (fun _ => ?_) (fun _ => ?_)
      · refine pb_iload 176 dX6_take_174 rfl rfl ?_
        exact pb_iret dX6_take_176
      · refine pb_iload 171 dX6_take_169 rfl rfl ?_
        refine pb_goto (tgt := 176) dX6_take_171 (by decide) ?_
        exact pb_iret dX6_take_176
    · refine pb_iload 76 dX6_take_74 rfl rfl ?_
      refine pb_iload 78 dX6_take_76 rfl rfl ?_
      refine cl_X6_has 81 ⟨by decide, by decide, by decide, by decide⟩ (Nat.le_of_ble_eq_true rfl) ml_X6_186 dX6_take_78 rfl (fun b78 μ78 => ?_)
      refine pb_if_ne 84 (tgt := 87) dX6_take_81 (by decide) rfl (fun _ => ?_) (fun _ => ?_)
      · refine pb_goto (tgt := 159) dX6_take_84 (by decide) ?_
        refine pb_iinc 162 (i := 7) (v := (v7 + (1 : Int32))) (L' := [some (.ref (E.2.1 0)), some (.int v1), some (.int v2), some (.int v3), some (.int v4), some (.int v5), some (.int v6), some (.int (v7 + (1 : Int32))), none, none]) dX6_take_159 rfl rfl (by decide) rfl rfl rfl ?_
        refine pb_goto (tgt := 62) dX6_take_162 (by decide) ?_
        exact ih v5 v6 (v7 + (1 : Int32)) μ78
      · refine pb_aload_n 88 dX6_take_87 rfl rfl rfl ?_
        refine pb_iload_n 89 dX6_take_88 rfl rfl rfl ?_
        refine pb_iload_n 90 dX6_take_89 rfl rfl rfl ?_
        refine pb_iload 92 dX6_take_90 rfl rfl ?_
        refine cl_X6_owedAfterKeeping 95 ⟨by decide, by decide, by decide, by decide⟩ (Nat.le_of_ble_eq_true rfl) ml_X6_190 dX6_take_92 rfl (fun b92 μ92 => ?_)
        refine pb_istore 97 (i := 8) (L' := [some (.ref (E.2.1 0)), some (.int v1), some (.int v2), some (.int v3), some (.int v4), some (.int v5), some (.int v6), some (.int v7), some (.int b92), none]) dX6_take_95 (by decide) rfl rfl rfl ?_
        refine pb_iload 99 dX6_take_97 rfl rfl ?_
        refine pb_bipush 101 (v := -9) dX6_take_99 rfl (by decide) ?_
        refine pb_icmp_eq 104 (tgt := 139) dX6_take_101 (by decide) rfl (fun _ => ?_) (fun _ => ?_)
        · exact tX6_take_J139 l E v1 v2 v3 v4 ih v5 v6 v7 b92 μ92
        · refine pb_iload 106 dX6_take_104 rfl rfl ?_
          refine pb_iload 108 dX6_take_106 rfl rfl ?_
          refine pb_icmp_lt 111 (tgt := 139) dX6_take_108 (by decide) rfl (fun _ => ?_) (fun _ => ?_)
          · exact tX6_take_J139 l E v1 v2 v3 v4 ih v5 v6 v7 b92 μ92
          · refine pb_iload 113 dX6_take_111 rfl rfl ?_
            refine pb_iload 115 dX6_take_113 rfl rfl ?_
            refine pb_icmp_ne 118 (tgt := 143) dX6_take_115 (by decide) rfl (fun _ => ?_) (fun _ => ?_)
            · refine pb_aload_n 119 dX6_take_118 rfl rfl rfl ?_
              refine pb_getR 122 (j := 1) (d := 4) in_X6 rfl (by decide) rfl rfl (by decide) fl_X6_19 dX6_take_119 rfl ?_
              refine pb_iload 124 dX6_take_122 rfl rfl ?_
              refine cl_X5_worthOf 127 pb_V4 ⟨by decide, by decide, by decide, by decide⟩ (Nat.le_of_ble_eq_true rfl) ml_X6_116 dX6_take_124 rfl (fun b124 μ124 => ?_)
              refine pb_aload_n 128 dX6_take_127 rfl rfl rfl ?_
              refine pb_getR 131 (j := 1) (d := 4) in_X6 rfl (by decide) rfl rfl (by decide) fl_X6_19 dX6_take_128 rfl ?_
              refine pb_iload 133 dX6_take_131 rfl rfl ?_
              refine cl_X5_worthOf 136 pb_V4 ⟨by decide, by decide, by decide, by decide⟩ (Nat.le_of_ble_eq_true rfl) ml_X6_116 dX6_take_133 rfl (fun b133 μ133 => ?_)
              refine pb_icmp_ge 139 (tgt := 143) dX6_take_136 (by decide) rfl (fun _ => ?_) (fun _ => ?_)
              · refine pb_iconst 144 (v := 0) dX6_take_143 rfl (by decide) ?_
                refine pb_istore 146 (i := 9) (L' := [some (.ref (E.2.1 0)), some (.int v1), some (.int v2), some (.int v3), some (.int v4), some (.int v5), some (.int v6), some (.int v7), some (.int b92), some (.int (0 : Int32))]) dX6_take_144 (by decide) rfl rfl rfl ?_
                refine pb_iload 148 dX6_take_146 rfl rfl ?_
                refine pb_if_eq 151 (tgt := 159) dX6_take_148 (by decide) rfl (fun _ => ?_) (fun _ => ?_)
                · refine pb_iinc 162 (i := 7) (v := (v7 + (1 : Int32))) (L' := [some (.ref (E.2.1 0)), some (.int v1), some (.int v2), some (.int v3), some (.int v4), some (.int v5), some (.int v6), some (.int (v7 + (1 : Int32))), some (.int b92), some (.int (0 : Int32))]) dX6_take_159 rfl rfl (by decide) rfl rfl rfl ?_
                  refine pb_goto (tgt := 62) dX6_take_162 (by decide) ?_
                  refine pb_weakM (L' := [some (.ref (E.2.1 0)), some (.int v1), some (.int v2), some (.int v3), some (.int v4), some (.int v5), some (.int v6), some (.int (v7 + (1 : Int32))), none, none]) [true, true, true, true, true, true, true, true, false, false] rfl ?_
                  exact ih v5 v6 (v7 + (1 : Int32)) μ133
                · refine pb_iload 153 dX6_take_151 rfl rfl ?_
                  refine pb_istore 155 (i := 5) (L' := [some (.ref (E.2.1 0)), some (.int v1), some (.int v2), some (.int v3), some (.int v4), some (.int v7), some (.int v6), some (.int v7), some (.int b92), some (.int (0 : Int32))]) dX6_take_153 (by decide) rfl rfl rfl ?_
                  refine pb_iload 157 dX6_take_155 rfl rfl ?_
                  refine pb_istore 159 (i := 6) (L' := [some (.ref (E.2.1 0)), some (.int v1), some (.int v2), some (.int v3), some (.int v4), some (.int v7), some (.int b92), some (.int v7), some (.int b92), some (.int (0 : Int32))]) dX6_take_157 (by decide) rfl rfl rfl ?_
                  refine pb_iinc 162 (i := 7) (v := (v7 + (1 : Int32))) (L' := [some (.ref (E.2.1 0)), some (.int v1), some (.int v2), some (.int v3), some (.int v4), some (.int v7), some (.int b92), some (.int (v7 + (1 : Int32))), some (.int b92), some (.int (0 : Int32))]) dX6_take_159 rfl rfl (by decide) rfl rfl rfl ?_
                  refine pb_goto (tgt := 62) dX6_take_162 (by decide) ?_
                  refine pb_weakM (L' := [some (.ref (E.2.1 0)), some (.int v1), some (.int v2), some (.int v3), some (.int v4), some (.int v7), some (.int b92), some (.int (v7 + (1 : Int32))), none, none]) [true, true, true, true, true, true, true, true, false, false] rfl ?_
                  exact ih v7 b92 (v7 + (1 : Int32)) μ133
              · exact tX6_take_J139 l E v1 v2 v3 v4 ih v5 v6 v7 b92 μ133
            · refine pb_iconst 144 (v := 0) dX6_take_143 rfl (by decide) ?_
              refine pb_istore 146 (i := 9) (L' := [some (.ref (E.2.1 0)), some (.int v1), some (.int v2), some (.int v3), some (.int v4), some (.int v5), some (.int v6), some (.int v7), some (.int b92), some (.int (0 : Int32))]) dX6_take_144 (by decide) rfl rfl rfl ?_
              refine pb_iload 148 dX6_take_146 rfl rfl ?_
              refine pb_if_eq 151 (tgt := 159) dX6_take_148 (by decide) rfl (fun _ => ?_) (fun _ => ?_)
              · refine pb_iinc 162 (i := 7) (v := (v7 + (1 : Int32))) (L' := [some (.ref (E.2.1 0)), some (.int v1), some (.int v2), some (.int v3), some (.int v4), some (.int v5), some (.int v6), some (.int (v7 + (1 : Int32))), some (.int b92), some (.int (0 : Int32))]) dX6_take_159 rfl rfl (by decide) rfl rfl rfl ?_
                refine pb_goto (tgt := 62) dX6_take_162 (by decide) ?_
                refine pb_weakM (L' := [some (.ref (E.2.1 0)), some (.int v1), some (.int v2), some (.int v3), some (.int v4), some (.int v5), some (.int v6), some (.int (v7 + (1 : Int32))), none, none]) [true, true, true, true, true, true, true, true, false, false] rfl ?_
                exact ih v5 v6 (v7 + (1 : Int32)) μ92
              · refine pb_iload 153 dX6_take_151 rfl rfl ?_
                refine pb_istore 155 (i := 5) (L' := [some (.ref (E.2.1 0)), some (.int v1), some (.int v2), some (.int v3), some (.int v4), some (.int v7), some (.int v6), some (.int v7), some (.int b92), some (.int (0 : Int32))]) dX6_take_153 (by decide) rfl rfl rfl ?_
                refine pb_iload 157 dX6_take_155 rfl rfl ?_
                refine pb_istore 159 (i := 6) (L' := [some (.ref (E.2.1 0)), some (.int v1), some (.int v2), some (.int v3), some (.int v4), some (.int v7), some (.int b92), some (.int v7), some (.int b92), some (.int (0 : Int32))]) dX6_take_157 (by decide) rfl rfl rfl ?_
                refine pb_iinc 162 (i := 7) (v := (v7 + (1 : Int32))) (L' := [some (.ref (E.2.1 0)), some (.int v1), some (.int v2), some (.int v3), some (.int v4), some (.int v7), some (.int b92), some (.int (v7 + (1 : Int32))), some (.int b92), some (.int (0 : Int32))]) dX6_take_159 rfl rfl (by decide) rfl rfl rfl ?_
                refine pb_goto (tgt := 62) dX6_take_162 (by decide) ?_
                refine pb_weakM (L' := [some (.ref (E.2.1 0)), some (.int v1), some (.int v2), some (.int v3), some (.int v4), some (.int v7), some (.int b92), some (.int (v7 + (1 : Int32))), none, none]) [true, true, true, true, true, true, true, true, false, false] rfl ?_
                exact ih v7 b92 (v7 + (1 : Int32)) μ92
set_option maxRecDepth 100000 in
set_option maxHeartbeats 4000000 in
theorem evX6_take (l : Launch) (E : pb_E) (v1 : Int32) (v2 : Int32) (v3 : Int32)  (μ : pb_M) : ∀ b μ', pX6_take v1 v2 v3 μ = some (b, μ') → pb_Ev l E yX6_take cX6_take 10 (some .int) { frames := 5, cells := 0, slots := 0, locals := 110 } [.ref (E.2.1 0), .int v1, .int v2, .int v3] μ ((fun z : Int32 => some (.int z)) b) μ' := by
  refine pb_enter (L := [some (.ref (E.2.1 0)), some (.int v1), some (.int v2), some (.int v3), none, none, none, none, none, none]) (by decide +kernel) (Nat.le_of_ble_eq_true rfl) (pb_same [none, none, none, none, none, none, none, none, none, none] rfl) (show wX6_take l E 0 [some (.ref (E.2.1 0)), some (.int v1), some (.int v2), some (.int v3), none, none, none, none, none, none] [] μ (pX6_take v1 v2 v3 μ) from ?_)
  unfold pX6_take
  refine pb_aload_n 1 dX6_take_0 rfl rfl rfl ?_
  refine pb_getR 4 (j := 1) (d := 4) in_X6 rfl (by decide) rfl rfl (by decide) fl_X6_19 dX6_take_1 rfl ?_
  refine pb_iload_n 5 dX6_take_4 rfl rfl rfl ?_
  refine cl_X5_hasPerson 8 pb_V4 ⟨by decide, by decide, by decide, by decide⟩ (Nat.le_of_ble_eq_true rfl) ml_X6_91 dX6_take_5 rfl (fun b5 μ5 => ?_)
  refine pb_if_eq 11 (tgt := 22) dX6_take_8 (by decide) rfl (fun _ => ?_) (fun _ => ?_)
  · refine pb_iconst 23 (v := -1) dX6_take_22 rfl (by decide) ?_
    exact pb_iret dX6_take_23
  · refine pb_aload_n 12 dX6_take_11 rfl rfl rfl ?_
    refine pb_getR 15 (j := 1) (d := 4) in_X6 rfl (by decide) rfl rfl (by decide) fl_X6_19 dX6_take_12 rfl ?_
    refine pb_iload_n 16 dX6_take_15 rfl rfl rfl ?_
    refine cl_X5_hasPerson 19 pb_V4 ⟨by decide, by decide, by decide, by decide⟩ (Nat.le_of_ble_eq_true rfl) ml_X6_91 dX6_take_16 rfl (fun b16 μ16 => ?_)
    refine pb_if_ne 22 (tgt := 24) dX6_take_19 (by decide) rfl (fun _ => ?_) (fun _ => ?_)
    · refine pb_iconst 23 (v := -1) dX6_take_22 rfl (by decide) ?_
      exact pb_iret dX6_take_23
    · refine pb_iload_n 25 dX6_take_24 rfl rfl rfl ?_
      refine pb_iload_n 26 dX6_take_25 rfl rfl rfl ?_
      refine pb_icmp_ne 29 (tgt := 32) dX6_take_26 (by decide) rfl (fun _ => ?_) (fun _ => ?_)
      · refine pb_bipush 31 (v := -2) dX6_take_29 rfl (by decide) ?_
        exact pb_iret dX6_take_31
      · refine pb_aload_n 33 dX6_take_32 rfl rfl rfl ?_
        refine pb_getR 36 (j := 1) (d := 4) in_X6 rfl (by decide) rfl rfl (by decide) fl_X6_19 dX6_take_33 rfl ?_
        refine pb_iload_n 37 dX6_take_36 rfl rfl rfl ?_
        refine cl_X5_takableBy 40 pb_V4 ⟨by decide, by decide, by decide, by decide⟩ (Nat.le_of_ble_eq_true rfl) ml_X6_183 dX6_take_37 rfl (fun b37 μ37 => ?_)
        refine pb_aload_n 41 dX6_take_40 rfl rfl rfl ?_
        refine pb_getR 44 (j := 1) (d := 4) in_X6 rfl (by decide) rfl rfl (by decide) fl_X6_19 dX6_take_41 rfl ?_
        refine pb_iload_n 45 dX6_take_44 rfl rfl rfl ?_
        refine cl_X5_beastsOf 48 pb_V4 ⟨by decide, by decide, by decide, by decide⟩ (Nat.le_of_ble_eq_true rfl) ml_X6_101 dX6_take_45 rfl (fun b45 μ45 => ?_)
        refine pb_iand 49 dX6_take_48 rfl ?_
        refine pb_istore 51 (i := 4) (L' := [some (.ref (E.2.1 0)), some (.int v1), some (.int v2), some (.int v3), some (.int (b37 &&& b45)), none, none, none, none, none]) dX6_take_49 (by decide) rfl rfl rfl ?_
        refine pb_bipush 53 (v := -9) dX6_take_51 rfl (by decide) ?_
        refine pb_istore 55 (i := 5) (L' := [some (.ref (E.2.1 0)), some (.int v1), some (.int v2), some (.int v3), some (.int (b37 &&& b45)), some (.int (-9 : Int32)), none, none, none, none]) dX6_take_53 (by decide) rfl rfl rfl ?_
        refine pb_bipush 57 (v := -9) dX6_take_55 rfl (by decide) ?_
        refine pb_istore 59 (i := 6) (L' := [some (.ref (E.2.1 0)), some (.int v1), some (.int v2), some (.int v3), some (.int (b37 &&& b45)), some (.int (-9 : Int32)), some (.int (-9 : Int32)), none, none, none]) dX6_take_57 (by decide) rfl rfl rfl ?_
        refine pb_iconst 60 (v := 0) dX6_take_59 rfl (by decide) ?_
        refine pb_istore 62 (i := 7) (L' := [some (.ref (E.2.1 0)), some (.int v1), some (.int v2), some (.int v3), some (.int (b37 &&& b45)), some (.int (-9 : Int32)), some (.int (-9 : Int32)), some (.int (0 : Int32)), none, none]) dX6_take_60 (by decide) rfl rfl rfl ?_
        exact tX6_take_L62 l E v1 v2 v3 (b37 &&& b45) pb_F (-9 : Int32) (-9 : Int32) (0 : Int32) μ45
theorem mc_X6_take : pb_MC yX6_take cX6_take 10 (some .int) 3 := ⟨pb_inW 536 (by decide +kernel) (by decide +kernel), pb_inW 61 (by decide +kernel) (by decide +kernel), by decide +kernel, by decide +kernel, by decide +kernel⟩
theorem mi_X6_take : Cond.instanceMethod yX6_take ∈ pb_gw := pb_inW 534 (by decide +kernel) (by decide +kernel)
theorem ms_X6_take : Cond.selects (yX6_take).cls yX6_take yX6_take ∈ pb_gw := pb_inW 535 (by decide +kernel) (by decide +kernel)
theorem cl_X6_take {α : Type} {l : Launch} {E : pb_E} {R : Room} {own : String} {cc : ByteArray} {mL : Nat} {ret : Option FieldType} {Xs : State → Prop} {nc ns : Nat} {Qf : State → Array Value → List Frame → α → pb_M → State → Prop} {pc : Nat} {L : List (Option Value)} {S : List Value} {μ : pb_M} {f : Int32 → pb_M → Option (α × pb_M)} {v1 : Int32} {v2 : Int32} {v3 : Int32} {index : Nat} (q : Nat)  (hR : 5 + 1 ≤ R.frames ∧ 8 + (10 + 11) + 110 ≤ R.locals ∧ nc ≤ R.cells ∧ ns ≤ R.slots) (hW : (S.map fun v => v.category).sum ≤ 8) (hl1 : Cond.methodLink own index yX6_take ∈ pb_gw) (hdg : decode cc pc = .ok (.invokevirtual index, 3)) (hq : pc + 3 = q) (k : ∀ b1 μ1, pb_RW l E R own cc mL ret Xs nc ns Qf q L (.int b1 :: S) μ1 (f b1 μ1)) : pb_RW l E R own cc mL ret Xs nc ns Qf pc L (.int v3 :: .int v2 :: .int v1 :: .ref (E.2.1 0) :: S) μ (pb_b (pX6_take v1 v2 v3 μ) f) := pb_callV q (fun z : Int32 => some (.int z)) mc_X6_take mi_X6_take ms_X6_take (fun b1 μ1 h => evX6_take l E v1 v2 v3  μ b1 μ1 h) rfl (by decide) rfl rfl rfl rfl hR rfl hW hl1 hdg hq k
theorem fl_X6_36 : Cond.fieldLink RX6 36 (TX6 4).1 (TX6 4).2.1 (TX6 4).2.2.1 ∈ pb_gw := pb_inW 182 (by decide +kernel) (by decide +kernel)
theorem ml_X6_194 : Cond.methodLink RX6 194 yX2_look ∈ pb_gw := pb_inW 553 (by decide +kernel) (by decide +kernel)
theorem ml_X6_197 : Cond.methodLink RX6 197 yX2_firstWay ∈ pb_gw := pb_inW 560 (by decide +kernel) (by decide +kernel)
theorem ml_X6_200 : Cond.methodLink RX6 200 yX2_most ∈ pb_gw := pb_inW 587 (by decide +kernel) (by decide +kernel)
def pX6_each (v1 : Int32) (μ : pb_M) : Option (Int32 × pb_M) :=
  pb_b (pX2_look 4 μ) (fun b8 μ8 =>
  if v1 = (0 : Int32) then
    pb_b (pX2_most μ8) (fun b29 μ29 =>
    some (b29, μ29))
  else
  pb_b (pX2_firstWay μ8) (fun b19 μ19 =>
  some (b19, μ19)))
abbrev wX6_each (l : Launch) (E : pb_E) := pb_RW l E { frames := 5, cells := 0, slots := 0, locals := 120 } RX6 cX6_each 2 (some .int) (fun _ => True) 0 0 (pb_Qf E (fun z : Int32 => some (.int z)))
set_option maxRecDepth 100000 in
set_option maxHeartbeats 4000000 in
theorem evX6_each (l : Launch) (E : pb_E) (v1 : Int32)  (μ : pb_M) : ∀ b μ', pX6_each v1 μ = some (b, μ') → pb_Ev l E yX6_each cX6_each 2 (some .int) { frames := 5, cells := 0, slots := 0, locals := 120 } [.ref (E.2.1 0), .int v1] μ ((fun z : Int32 => some (.int z)) b) μ' := by
  refine pb_enter (L := [some (.ref (E.2.1 0)), some (.int v1)]) (by decide +kernel) (Nat.le_of_ble_eq_true rfl) (pb_same [none, none] rfl) (show wX6_each l E 0 [some (.ref (E.2.1 0)), some (.int v1)] [] μ (pX6_each v1 μ) from ?_)
  unfold pX6_each
  refine pb_aload_n 1 dX6_each_0 rfl rfl rfl ?_
  refine pb_getR 4 (j := 4) (d := 10) in_X6 rfl (by decide) rfl rfl (by decide) fl_X6_36 dX6_each_1 rfl ?_
  refine pb_aload_n 5 dX6_each_4 rfl rfl rfl ?_
  refine pb_getR 8 (j := 1) (d := 4) in_X6 rfl (by decide) rfl rfl (by decide) fl_X6_19 dX6_each_5 rfl ?_
  refine cl_X2_look 11 pb_V4 ⟨by decide, by decide, by decide, by decide⟩ (Nat.le_of_ble_eq_true rfl) ml_X6_194 dX6_each_8 rfl (fun b8 μ8 => ?_)
  refine pb_iload_n 12 dX6_each_11 rfl rfl rfl ?_
  refine pb_if_eq 15 (tgt := 25) dX6_each_12 (by decide) rfl (fun _ => ?_) (fun _ => ?_)
  · refine pb_aload_n 26 dX6_each_25 rfl rfl rfl ?_
    refine pb_getR 29 (j := 4) (d := 10) in_X6 rfl (by decide) rfl rfl (by decide) fl_X6_36 dX6_each_26 rfl ?_
    refine cl_X2_most 32 ⟨by decide, by decide, by decide, by decide⟩ (Nat.le_of_ble_eq_true rfl) ml_X6_200 dX6_each_29 rfl (fun b29 μ29 => ?_)
    exact pb_iret dX6_each_32
  · refine pb_aload_n 16 dX6_each_15 rfl rfl rfl ?_
    refine pb_getR 19 (j := 4) (d := 10) in_X6 rfl (by decide) rfl rfl (by decide) fl_X6_36 dX6_each_16 rfl ?_
    refine cl_X2_firstWay 22 ⟨by decide, by decide, by decide, by decide⟩ (Nat.le_of_ble_eq_true rfl) ml_X6_197 dX6_each_19 rfl (fun b19 μ19 => ?_)
    refine pb_goto (tgt := 32) dX6_each_22 (by decide) ?_
    exact pb_iret dX6_each_32
theorem mc_X6_each : pb_MC yX6_each cX6_each 2 (some .int) 1 := ⟨pb_inW 552 (by decide +kernel) (by decide +kernel), pb_inW 61 (by decide +kernel) (by decide +kernel), by decide +kernel, by decide +kernel, by decide +kernel⟩
theorem mi_X6_each : Cond.instanceMethod yX6_each ∈ pb_gw := pb_inW 550 (by decide +kernel) (by decide +kernel)
theorem ms_X6_each : Cond.selects (yX6_each).cls yX6_each yX6_each ∈ pb_gw := pb_inW 551 (by decide +kernel) (by decide +kernel)
theorem cl_X6_each {α : Type} {l : Launch} {E : pb_E} {R : Room} {own : String} {cc : ByteArray} {mL : Nat} {ret : Option FieldType} {Xs : State → Prop} {nc ns : Nat} {Qf : State → Array Value → List Frame → α → pb_M → State → Prop} {pc : Nat} {L : List (Option Value)} {S : List Value} {μ : pb_M} {f : Int32 → pb_M → Option (α × pb_M)} {v1 : Int32} {index : Nat} (q : Nat)  (hR : 5 + 1 ≤ R.frames ∧ 8 + (2 + 11) + 120 ≤ R.locals ∧ nc ≤ R.cells ∧ ns ≤ R.slots) (hW : (S.map fun v => v.category).sum ≤ 8) (hl1 : Cond.methodLink own index yX6_each ∈ pb_gw) (hdg : decode cc pc = .ok (.invokevirtual index, 3)) (hq : pc + 3 = q) (k : ∀ b1 μ1, pb_RW l E R own cc mL ret Xs nc ns Qf q L (.int b1 :: S) μ1 (f b1 μ1)) : pb_RW l E R own cc mL ret Xs nc ns Qf pc L (.int v1 :: .ref (E.2.1 0) :: S) μ (pb_b (pX6_each v1 μ) f) := pb_callV q (fun z : Int32 => some (.int z)) mc_X6_each mi_X6_each ms_X6_each (fun b1 μ1 h => evX6_each l E v1  μ b1 μ1 h) rfl (by decide) rfl rfl rfl rfl hR rfl hW hl1 hdg hq k
def pX6_commonDivisor_L7  : Nat → Int32 → Int32 → Int32 → pb_M → Option (Int32 × pb_M)
  | 0, _, _, _, _ => none
  | n + 1, v2, v3, v4, μ =>
    if (64 : Int32) ≤ v4 then
      some (v2, μ)
    else
    if v3 = (0 : Int32) then
      some (v2, μ)
    else
    if v3 = 0 then none else
    pX6_commonDivisor_L7 n v3 (pb_rem v2 v3) (v4 + (1 : Int32)) μ
def pX6_commonDivisor (v0 : Int32) (v1 : Int32) (μ : pb_M) : Option (Int32 × pb_M) :=
  pX6_commonDivisor_L7 pb_F v0 v1 (0 : Int32) μ
abbrev wX6_commonDivisor (l : Launch) (E : pb_E) := pb_RW l E { frames := 0, cells := 0, slots := 0, locals := 0 } RX6 cX6_commonDivisor 6 (some .int) (fun _ => True) 0 0 (pb_Qf E (fun z : Int32 => some (.int z)))
set_option maxRecDepth 100000 in
set_option maxHeartbeats 4000000 in
theorem tX6_commonDivisor_L7 (l : Launch) (E : pb_E)    : ∀ (n : Nat) (v2 : Int32) (v3 : Int32) (v4 : Int32) (μ : pb_M), wX6_commonDivisor l E 7 [none, none, some (.int v2), some (.int v3), some (.int v4), none] [] μ (pX6_commonDivisor_L7 n v2 v3 v4 μ) := by
  intro n
  induction n with
  | zero => intro v2 v3 v4 μ; exact pb_none
  | succ n ih =>
    intro v2 v3 v4 μ
    rw [pX6_commonDivisor_L7]
    refine pb_iload 9 dX6_commonDivisor_7 rfl rfl ?_
    refine pb_bipush 11 (v := 64) dX6_commonDivisor_9 rfl (by decide) ?_
    refine pb_icmp_ge 14 (tgt := 34) dX6_commonDivisor_11 (by decide) rfl (fun _ => ?_) (fun _ => ?_)
    · refine pb_iload_n 35 dX6_commonDivisor_34 rfl rfl rfl ?_
      exact pb_iret dX6_commonDivisor_35
    · refine pb_iload_n 15 dX6_commonDivisor_14 rfl rfl rfl ?_
      refine pb_if_eq 18 (tgt := 34) dX6_commonDivisor_15 (by decide) rfl (fun _ => ?_) (fun _ => ?_)
      · refine pb_iload_n 35 dX6_commonDivisor_34 rfl rfl rfl ?_
        exact pb_iret dX6_commonDivisor_35
      · refine pb_iload_n 19 dX6_commonDivisor_18 rfl rfl rfl ?_
        refine pb_iload_n 20 dX6_commonDivisor_19 rfl rfl rfl ?_
        refine pb_guardN (fun hne => pb_irem 21 dX6_commonDivisor_20 rfl hne ?_)
        refine pb_istore 23 (i := 5) (L' := [none, none, some (.int v2), some (.int v3), some (.int v4), some (.int (pb_rem v2 v3))]) dX6_commonDivisor_21 (by decide) rfl rfl rfl ?_
        refine pb_iload_n 24 dX6_commonDivisor_23 rfl rfl rfl ?_
        refine pb_istore_n 25 (i := 2) (L' := [none, none, some (.int v3), some (.int v3), some (.int v4), some (.int (pb_rem v2 v3))]) dX6_commonDivisor_24 rfl (by decide) rfl rfl rfl ?_
        refine pb_iload 27 dX6_commonDivisor_25 rfl rfl ?_
        refine pb_istore_n 28 (i := 3) (L' := [none, none, some (.int v3), some (.int (pb_rem v2 v3)), some (.int v4), some (.int (pb_rem v2 v3))]) dX6_commonDivisor_27 rfl (by decide) rfl rfl rfl ?_
        refine pb_iinc 31 (i := 4) (v := (v4 + (1 : Int32))) (L' := [none, none, some (.int v3), some (.int (pb_rem v2 v3)), some (.int (v4 + (1 : Int32))), some (.int (pb_rem v2 v3))]) dX6_commonDivisor_28 rfl rfl (by decide) rfl rfl rfl ?_
        refine pb_goto (tgt := 7) dX6_commonDivisor_31 (by decide) ?_
        refine pb_weakM (L' := [none, none, some (.int v3), some (.int (pb_rem v2 v3)), some (.int (v4 + (1 : Int32))), none]) [false, false, true, true, true, false] rfl ?_
        exact ih v3 (pb_rem v2 v3) (v4 + (1 : Int32)) μ
set_option maxRecDepth 100000 in
set_option maxHeartbeats 4000000 in
theorem evX6_commonDivisor (l : Launch) (E : pb_E) (v0 : Int32) (v1 : Int32)  (μ : pb_M) : ∀ b μ', pX6_commonDivisor v0 v1 μ = some (b, μ') → pb_Ev l E yX6_commonDivisor cX6_commonDivisor 6 (some .int) { frames := 0, cells := 0, slots := 0, locals := 0 } [.int v0, .int v1] μ ((fun z : Int32 => some (.int z)) b) μ' := by
  refine pb_enter (L := [some (.int v0), some (.int v1), none, none, none, none]) (by decide +kernel) (Nat.le_of_ble_eq_true rfl) (pb_same [none, none, none, none, none, none] rfl) (show wX6_commonDivisor l E 0 [some (.int v0), some (.int v1), none, none, none, none] [] μ (pX6_commonDivisor v0 v1 μ) from ?_)
  unfold pX6_commonDivisor
  refine pb_iload_n 1 dX6_commonDivisor_0 rfl rfl rfl ?_
  refine pb_istore_n 2 (i := 2) (L' := [some (.int v0), some (.int v1), some (.int v0), none, none, none]) dX6_commonDivisor_1 rfl (by decide) rfl rfl rfl ?_
  refine pb_iload_n 3 dX6_commonDivisor_2 rfl rfl rfl ?_
  refine pb_istore_n 4 (i := 3) (L' := [some (.int v0), some (.int v1), some (.int v0), some (.int v1), none, none]) dX6_commonDivisor_3 rfl (by decide) rfl rfl rfl ?_
  refine pb_iconst 5 (v := 0) dX6_commonDivisor_4 rfl (by decide) ?_
  refine pb_istore 7 (i := 4) (L' := [some (.int v0), some (.int v1), some (.int v0), some (.int v1), some (.int (0 : Int32)), none]) dX6_commonDivisor_5 (by decide) rfl rfl rfl ?_
  refine pb_weakM (L' := [none, none, some (.int v0), some (.int v1), some (.int (0 : Int32)), none]) [false, false, true, true, true, false] rfl ?_
  exact tX6_commonDivisor_L7 l E pb_F v0 v1 (0 : Int32) μ
theorem mc_X6_commonDivisor : pb_MC yX6_commonDivisor cX6_commonDivisor 6 (some .int) 2 := ⟨pb_inW 607 (by decide +kernel) (by decide +kernel), pb_inW 61 (by decide +kernel) (by decide +kernel), by decide +kernel, by decide +kernel, by decide +kernel⟩
theorem ms_X6_commonDivisor : Cond.static yX6_commonDivisor ∈ pb_gw := pb_inW 606 (by decide +kernel) (by decide +kernel)
theorem cl_X6_commonDivisor {α : Type} {l : Launch} {E : pb_E} {R : Room} {own : String} {cc : ByteArray} {mL : Nat} {ret : Option FieldType} {Xs : State → Prop} {nc ns : Nat} {Qf : State → Array Value → List Frame → α → pb_M → State → Prop} {pc : Nat} {L : List (Option Value)} {S : List Value} {μ : pb_M} {f : Int32 → pb_M → Option (α × pb_M)} {v0 : Int32} {v1 : Int32} {index : Nat} (q : Nat)  (hR : 0 + 1 ≤ R.frames ∧ 8 + (6 + 11) + 0 ≤ R.locals ∧ nc ≤ R.cells ∧ ns ≤ R.slots) (hW : (S.map fun v => v.category).sum ≤ 8) (hl1 : Cond.methodLink own index yX6_commonDivisor ∈ pb_gw) (hdg : decode cc pc = .ok (.invokestatic index, 3)) (hq : pc + 3 = q) (k : ∀ b1 μ1, pb_RW l E R own cc mL ret Xs nc ns Qf q L (.int b1 :: S) μ1 (f b1 μ1)) : pb_RW l E R own cc mL ret Xs nc ns Qf pc L (.int v1 :: .int v0 :: S) μ (pb_b (pX6_commonDivisor v0 v1 μ) f) := pb_callS q (fun z : Int32 => some (.int z)) mc_X6_commonDivisor ms_X6_commonDivisor (fun b1 μ1 h => evX6_commonDivisor l E v0 v1  μ b1 μ1 h) rfl rfl rfl hR rfl hW hl1 hdg hq k
theorem ml_X6_293 : Cond.methodLink RX6 293 yX6_commonDivisor ∈ pb_gw := pb_inW 605 (by decide +kernel) (by decide +kernel)
def pX6_fraction (v0 : Int32) (v1 : Int32) (v2 : Int32) (μ : pb_M) : Option (Int32 × pb_M) :=
  pb_b (pX6_commonDivisor v0 v1 μ) (fun b2 μ2 =>
  if (1 : Int32) ≤ b2 then
    if v2 = (0 : Int32) then
      if b2 = 0 then none else
      some ((v1 / b2), μ2)
    else
    if b2 = 0 then none else
    some ((v0 / b2), μ2)
  else
  if v2 = (0 : Int32) then
    some (v1, μ2)
  else
  some (v0, μ2))
abbrev wX6_fraction (l : Launch) (E : pb_E) := pb_RW l E { frames := 1, cells := 0, slots := 0, locals := 25 } RX6 cX6_fraction 4 (some .int) (fun _ => True) 0 0 (pb_Qf E (fun z : Int32 => some (.int z)))
set_option maxRecDepth 100000 in
set_option maxHeartbeats 4000000 in
theorem evX6_fraction (l : Launch) (E : pb_E) (v0 : Int32) (v1 : Int32) (v2 : Int32)  (μ : pb_M) : ∀ b μ', pX6_fraction v0 v1 v2 μ = some (b, μ') → pb_Ev l E yX6_fraction cX6_fraction 4 (some .int) { frames := 1, cells := 0, slots := 0, locals := 25 } [.int v0, .int v1, .int v2] μ ((fun z : Int32 => some (.int z)) b) μ' := by
  refine pb_enter (L := [some (.int v0), some (.int v1), some (.int v2), none]) (by decide +kernel) (Nat.le_of_ble_eq_true rfl) (pb_same [none, none, none, none] rfl) (show wX6_fraction l E 0 [some (.int v0), some (.int v1), some (.int v2), none] [] μ (pX6_fraction v0 v1 v2 μ) from ?_)
  unfold pX6_fraction
  refine pb_iload_n 1 dX6_fraction_0 rfl rfl rfl ?_
  refine pb_iload_n 2 dX6_fraction_1 rfl rfl rfl ?_
  refine cl_X6_commonDivisor 5 ⟨by decide, by decide, by decide, by decide⟩ (Nat.le_of_ble_eq_true rfl) ml_X6_293 dX6_fraction_2 rfl (fun b2 μ2 => ?_)
  refine pb_istore_n 6 (i := 3) (L' := [some (.int v0), some (.int v1), some (.int v2), some (.int b2)]) dX6_fraction_5 rfl (by decide) rfl rfl rfl ?_
  refine pb_iload_n 7 dX6_fraction_6 rfl rfl rfl ?_
  refine pb_iconst 8 (v := 1) dX6_fraction_7 rfl (by decide) ?_
  refine pb_icmp_ge 11 (tgt := 21) dX6_fraction_8 (by decide) rfl (fun _ => ?_) (fun _ => ?_)
  · refine pb_iload_n 22 dX6_fraction_21 rfl rfl rfl ?_
    refine pb_if_eq 25 (tgt := 29) dX6_fraction_22 (by decide) rfl (fun _ => ?_) (fun _ => ?_)
    · refine pb_iload_n 30 dX6_fraction_29 rfl rfl rfl ?_
      refine pb_iload_n 31 dX6_fraction_30 rfl rfl rfl ?_
      refine pb_guardN (fun hne => pb_idiv 32 dX6_fraction_31 rfl hne ?_)
      exact pb_iret dX6_fraction_32
    · refine pb_iload_n 26 dX6_fraction_25 rfl rfl rfl ?_
      refine pb_goto (tgt := 30) dX6_fraction_26 (by decide) ?_
      refine pb_iload_n 31 dX6_fraction_30 rfl rfl rfl ?_
      refine pb_guardN (fun hne => pb_idiv 32 dX6_fraction_31 rfl hne ?_)
      exact pb_iret dX6_fraction_32
  · refine pb_iload_n 12 dX6_fraction_11 rfl rfl rfl ?_
    refine pb_if_eq 15 (tgt := 19) dX6_fraction_12 (by decide) rfl (fun _ => ?_) (fun _ => ?_)
    · refine pb_iload_n 20 dX6_fraction_19 rfl rfl rfl ?_
      exact pb_iret dX6_fraction_20
    · refine pb_iload_n 16 dX6_fraction_15 rfl rfl rfl ?_
      refine pb_goto (tgt := 20) dX6_fraction_16 (by decide) ?_
      exact pb_iret dX6_fraction_20
theorem mc_X6_fraction : pb_MC yX6_fraction cX6_fraction 4 (some .int) 3 := ⟨pb_inW 604 (by decide +kernel) (by decide +kernel), pb_inW 61 (by decide +kernel) (by decide +kernel), by decide +kernel, by decide +kernel, by decide +kernel⟩
theorem ms_X6_fraction : Cond.static yX6_fraction ∈ pb_gw := pb_inW 603 (by decide +kernel) (by decide +kernel)
theorem cl_X6_fraction {α : Type} {l : Launch} {E : pb_E} {R : Room} {own : String} {cc : ByteArray} {mL : Nat} {ret : Option FieldType} {Xs : State → Prop} {nc ns : Nat} {Qf : State → Array Value → List Frame → α → pb_M → State → Prop} {pc : Nat} {L : List (Option Value)} {S : List Value} {μ : pb_M} {f : Int32 → pb_M → Option (α × pb_M)} {v0 : Int32} {v1 : Int32} {v2 : Int32} {index : Nat} (q : Nat)  (hR : 1 + 1 ≤ R.frames ∧ 8 + (4 + 11) + 25 ≤ R.locals ∧ nc ≤ R.cells ∧ ns ≤ R.slots) (hW : (S.map fun v => v.category).sum ≤ 8) (hl1 : Cond.methodLink own index yX6_fraction ∈ pb_gw) (hdg : decode cc pc = .ok (.invokestatic index, 3)) (hq : pc + 3 = q) (k : ∀ b1 μ1, pb_RW l E R own cc mL ret Xs nc ns Qf q L (.int b1 :: S) μ1 (f b1 μ1)) : pb_RW l E R own cc mL ret Xs nc ns Qf pc L (.int v2 :: .int v1 :: .int v0 :: S) μ (pb_b (pX6_fraction v0 v1 v2 μ) f) := pb_callS q (fun z : Int32 => some (.int z)) mc_X6_fraction ms_X6_fraction (fun b1 μ1 h => evX6_fraction l E v0 v1 v2  μ b1 μ1 h) rfl rfl rfl hR rfl hW hl1 hdg hq k
theorem ml_X6_203 : Cond.methodLink RX6 203 yX2_ordersWithGain ∈ pb_gw := pb_inW 592 (by decide +kernel) (by decide +kernel)
theorem ml_X6_206 : Cond.methodLink RX6 206 yX2_orders ∈ pb_gw := pb_inW 598 (by decide +kernel) (by decide +kernel)
theorem ml_X6_209 : Cond.methodLink RX6 209 yX6_fraction ∈ pb_gw := pb_inW 602 (by decide +kernel) (by decide +kernel)
def pX6_share (v1 : Int32) (v2 : Int32) (μ : pb_M) : Option (Int32 × pb_M) :=
  pb_b (pX5_hasPerson 4 v1 μ) (fun b5 μ5 =>
  if b5 = (0 : Int32) then
    some ((-1 : Int32), μ5)
  else
  pb_b (pX2_look 4 μ5) (fun b21 μ21 =>
  pb_b (pX2_ordersWithGain v1 μ21) (fun b29 μ29 =>
  pb_b (pX2_orders μ29) (fun b36 μ36 =>
  pb_b (pX6_fraction b29 b36 v2 μ36) (fun b40 μ40 =>
  some (b40, μ40))))))
abbrev wX6_share (l : Launch) (E : pb_E) := pb_RW l E { frames := 5, cells := 0, slots := 0, locals := 110 } RX6 cX6_share 3 (some .int) (fun _ => True) 0 0 (pb_Qf E (fun z : Int32 => some (.int z)))
set_option maxRecDepth 100000 in
set_option maxHeartbeats 4000000 in
theorem evX6_share (l : Launch) (E : pb_E) (v1 : Int32) (v2 : Int32)  (μ : pb_M) : ∀ b μ', pX6_share v1 v2 μ = some (b, μ') → pb_Ev l E yX6_share cX6_share 3 (some .int) { frames := 5, cells := 0, slots := 0, locals := 110 } [.ref (E.2.1 0), .int v1, .int v2] μ ((fun z : Int32 => some (.int z)) b) μ' := by
  refine pb_enter (L := [some (.ref (E.2.1 0)), some (.int v1), some (.int v2)]) (by decide +kernel) (Nat.le_of_ble_eq_true rfl) (pb_same [none, none, none] rfl) (show wX6_share l E 0 [some (.ref (E.2.1 0)), some (.int v1), some (.int v2)] [] μ (pX6_share v1 v2 μ) from ?_)
  unfold pX6_share
  refine pb_aload_n 1 dX6_share_0 rfl rfl rfl ?_
  refine pb_getR 4 (j := 1) (d := 4) in_X6 rfl (by decide) rfl rfl (by decide) fl_X6_19 dX6_share_1 rfl ?_
  refine pb_iload_n 5 dX6_share_4 rfl rfl rfl ?_
  refine cl_X5_hasPerson 8 pb_V4 ⟨by decide, by decide, by decide, by decide⟩ (Nat.le_of_ble_eq_true rfl) ml_X6_91 dX6_share_5 rfl (fun b5 μ5 => ?_)
  refine pb_if_ne 11 (tgt := 13) dX6_share_8 (by decide) rfl (fun _ => ?_) (fun _ => ?_)
  · refine pb_iconst 12 (v := -1) dX6_share_11 rfl (by decide) ?_
    exact pb_iret dX6_share_12
  · refine pb_aload_n 14 dX6_share_13 rfl rfl rfl ?_
    refine pb_getR 17 (j := 4) (d := 10) in_X6 rfl (by decide) rfl rfl (by decide) fl_X6_36 dX6_share_14 rfl ?_
    refine pb_aload_n 18 dX6_share_17 rfl rfl rfl ?_
    refine pb_getR 21 (j := 1) (d := 4) in_X6 rfl (by decide) rfl rfl (by decide) fl_X6_19 dX6_share_18 rfl ?_
    refine cl_X2_look 24 pb_V4 ⟨by decide, by decide, by decide, by decide⟩ (Nat.le_of_ble_eq_true rfl) ml_X6_194 dX6_share_21 rfl (fun b21 μ21 => ?_)
    refine pb_aload_n 25 dX6_share_24 rfl rfl rfl ?_
    refine pb_getR 28 (j := 4) (d := 10) in_X6 rfl (by decide) rfl rfl (by decide) fl_X6_36 dX6_share_25 rfl ?_
    refine pb_iload_n 29 dX6_share_28 rfl rfl rfl ?_
    refine cl_X2_ordersWithGain 32 ⟨by decide, by decide, by decide, by decide⟩ (Nat.le_of_ble_eq_true rfl) ml_X6_203 dX6_share_29 rfl (fun b29 μ29 => ?_)
    refine pb_aload_n 33 dX6_share_32 rfl rfl rfl ?_
    refine pb_getR 36 (j := 4) (d := 10) in_X6 rfl (by decide) rfl rfl (by decide) fl_X6_36 dX6_share_33 rfl ?_
    refine cl_X2_orders 39 ⟨by decide, by decide, by decide, by decide⟩ (Nat.le_of_ble_eq_true rfl) ml_X6_206 dX6_share_36 rfl (fun b36 μ36 => ?_)
    refine pb_iload_n 40 dX6_share_39 rfl rfl rfl ?_
    refine cl_X6_fraction 43 ⟨by decide, by decide, by decide, by decide⟩ (Nat.le_of_ble_eq_true rfl) ml_X6_209 dX6_share_40 rfl (fun b40 μ40 => ?_)
    exact pb_iret dX6_share_43
theorem mc_X6_share : pb_MC yX6_share cX6_share 3 (some .int) 2 := ⟨pb_inW 591 (by decide +kernel) (by decide +kernel), pb_inW 61 (by decide +kernel) (by decide +kernel), by decide +kernel, by decide +kernel, by decide +kernel⟩
theorem mi_X6_share : Cond.instanceMethod yX6_share ∈ pb_gw := pb_inW 589 (by decide +kernel) (by decide +kernel)
theorem ms_X6_share : Cond.selects (yX6_share).cls yX6_share yX6_share ∈ pb_gw := pb_inW 590 (by decide +kernel) (by decide +kernel)
theorem cl_X6_share {α : Type} {l : Launch} {E : pb_E} {R : Room} {own : String} {cc : ByteArray} {mL : Nat} {ret : Option FieldType} {Xs : State → Prop} {nc ns : Nat} {Qf : State → Array Value → List Frame → α → pb_M → State → Prop} {pc : Nat} {L : List (Option Value)} {S : List Value} {μ : pb_M} {f : Int32 → pb_M → Option (α × pb_M)} {v1 : Int32} {v2 : Int32} {index : Nat} (q : Nat)  (hR : 5 + 1 ≤ R.frames ∧ 8 + (3 + 11) + 110 ≤ R.locals ∧ nc ≤ R.cells ∧ ns ≤ R.slots) (hW : (S.map fun v => v.category).sum ≤ 8) (hl1 : Cond.methodLink own index yX6_share ∈ pb_gw) (hdg : decode cc pc = .ok (.invokevirtual index, 3)) (hq : pc + 3 = q) (k : ∀ b1 μ1, pb_RW l E R own cc mL ret Xs nc ns Qf q L (.int b1 :: S) μ1 (f b1 μ1)) : pb_RW l E R own cc mL ret Xs nc ns Qf pc L (.int v2 :: .int v1 :: .ref (E.2.1 0) :: S) μ (pb_b (pX6_share v1 v2 μ) f) := pb_callV q (fun z : Int32 => some (.int z)) mc_X6_share mi_X6_share ms_X6_share (fun b1 μ1 h => evX6_share l E v1 v2  μ b1 μ1 h) rfl (by decide) rfl rfl rfl rfl hR rfl hW hl1 hdg hq k
theorem fl_X6_43 : Cond.fieldLink RX6 43 (TX6 5).1 (TX6 5).2.1 (TX6 5).2.2.1 ∈ pb_gw := pb_inW 183 (by decide +kernel) (by decide +kernel)
theorem ml_X6_213 : Cond.methodLink RX6 213 yX3_find ∈ pb_gw := pb_inW 612 (by decide +kernel) (by decide +kernel)
theorem ml_X6_217 : Cond.methodLink RX6 217 yX3_figures ∈ pb_gw := pb_inW 632 (by decide +kernel) (by decide +kernel)
def pX6_ring (v1 : Int32) (μ : pb_M) : Option (Int32 × pb_M) :=
  pb_b (pX5_hasPerson 4 v1 μ) (fun b5 μ5 =>
  if b5 = (0 : Int32) then
    some ((-1 : Int32), μ5)
  else
  pb_b (pX3_find 4 v1 μ5) (fun b22 μ22 =>
  if b22 = (0 : Int32) then
    some ((-9 : Int32), μ22)
  else
  pb_b (pX3_figures μ22) (fun b32 μ32 =>
  some (b32, μ32))))
abbrev wX6_ring (l : Launch) (E : pb_E) := pb_RW l E { frames := 4, cells := 0, slots := 0, locals := 93 } RX6 cX6_ring 2 (some .int) (fun _ => True) 0 0 (pb_Qf E (fun z : Int32 => some (.int z)))
set_option maxRecDepth 100000 in
set_option maxHeartbeats 4000000 in
theorem evX6_ring (l : Launch) (E : pb_E) (v1 : Int32)  (μ : pb_M) : ∀ b μ', pX6_ring v1 μ = some (b, μ') → pb_Ev l E yX6_ring cX6_ring 2 (some .int) { frames := 4, cells := 0, slots := 0, locals := 93 } [.ref (E.2.1 0), .int v1] μ ((fun z : Int32 => some (.int z)) b) μ' := by
  refine pb_enter (L := [some (.ref (E.2.1 0)), some (.int v1)]) (by decide +kernel) (Nat.le_of_ble_eq_true rfl) (pb_same [none, none] rfl) (show wX6_ring l E 0 [some (.ref (E.2.1 0)), some (.int v1)] [] μ (pX6_ring v1 μ) from ?_)
  unfold pX6_ring
  refine pb_aload_n 1 dX6_ring_0 rfl rfl rfl ?_
  refine pb_getR 4 (j := 1) (d := 4) in_X6 rfl (by decide) rfl rfl (by decide) fl_X6_19 dX6_ring_1 rfl ?_
  refine pb_iload_n 5 dX6_ring_4 rfl rfl rfl ?_
  refine cl_X5_hasPerson 8 pb_V4 ⟨by decide, by decide, by decide, by decide⟩ (Nat.le_of_ble_eq_true rfl) ml_X6_91 dX6_ring_5 rfl (fun b5 μ5 => ?_)
  refine pb_if_ne 11 (tgt := 13) dX6_ring_8 (by decide) rfl (fun _ => ?_) (fun _ => ?_)
  · refine pb_iconst 12 (v := -1) dX6_ring_11 rfl (by decide) ?_
    exact pb_iret dX6_ring_12
  · refine pb_aload_n 14 dX6_ring_13 rfl rfl rfl ?_
    refine pb_getR 17 (j := 5) (d := 12) in_X6 rfl (by decide) rfl rfl (by decide) fl_X6_43 dX6_ring_14 rfl ?_
    refine pb_aload_n 18 dX6_ring_17 rfl rfl rfl ?_
    refine pb_getR 21 (j := 1) (d := 4) in_X6 rfl (by decide) rfl rfl (by decide) fl_X6_19 dX6_ring_18 rfl ?_
    refine pb_iload_n 22 dX6_ring_21 rfl rfl rfl ?_
    refine cl_X3_find 25 pb_V4 ⟨by decide, by decide, by decide, by decide⟩ (Nat.le_of_ble_eq_true rfl) ml_X6_213 dX6_ring_22 rfl (fun b22 μ22 => ?_)
    refine pb_if_eq 28 (tgt := 38) dX6_ring_25 (by decide) rfl (fun _ => ?_) (fun _ => ?_)
    · refine pb_bipush 40 (v := -9) dX6_ring_38 rfl (by decide) ?_
      exact pb_iret dX6_ring_40
    · refine pb_aload_n 29 dX6_ring_28 rfl rfl rfl ?_
      refine pb_getR 32 (j := 5) (d := 12) in_X6 rfl (by decide) rfl rfl (by decide) fl_X6_43 dX6_ring_29 rfl ?_
      refine cl_X3_figures 35 ⟨by decide, by decide, by decide, by decide⟩ (Nat.le_of_ble_eq_true rfl) ml_X6_217 dX6_ring_32 rfl (fun b32 μ32 => ?_)
      refine pb_goto (tgt := 40) dX6_ring_35 (by decide) ?_
      exact pb_iret dX6_ring_40
theorem mc_X6_ring : pb_MC yX6_ring cX6_ring 2 (some .int) 1 := ⟨pb_inW 611 (by decide +kernel) (by decide +kernel), pb_inW 61 (by decide +kernel) (by decide +kernel), by decide +kernel, by decide +kernel, by decide +kernel⟩
theorem mi_X6_ring : Cond.instanceMethod yX6_ring ∈ pb_gw := pb_inW 609 (by decide +kernel) (by decide +kernel)
theorem ms_X6_ring : Cond.selects (yX6_ring).cls yX6_ring yX6_ring ∈ pb_gw := pb_inW 610 (by decide +kernel) (by decide +kernel)
theorem cl_X6_ring {α : Type} {l : Launch} {E : pb_E} {R : Room} {own : String} {cc : ByteArray} {mL : Nat} {ret : Option FieldType} {Xs : State → Prop} {nc ns : Nat} {Qf : State → Array Value → List Frame → α → pb_M → State → Prop} {pc : Nat} {L : List (Option Value)} {S : List Value} {μ : pb_M} {f : Int32 → pb_M → Option (α × pb_M)} {v1 : Int32} {index : Nat} (q : Nat)  (hR : 4 + 1 ≤ R.frames ∧ 8 + (2 + 11) + 93 ≤ R.locals ∧ nc ≤ R.cells ∧ ns ≤ R.slots) (hW : (S.map fun v => v.category).sum ≤ 8) (hl1 : Cond.methodLink own index yX6_ring ∈ pb_gw) (hdg : decode cc pc = .ok (.invokevirtual index, 3)) (hq : pc + 3 = q) (k : ∀ b1 μ1, pb_RW l E R own cc mL ret Xs nc ns Qf q L (.int b1 :: S) μ1 (f b1 μ1)) : pb_RW l E R own cc mL ret Xs nc ns Qf pc L (.int v1 :: .ref (E.2.1 0) :: S) μ (pb_b (pX6_ring v1 μ) f) := pb_callV q (fun z : Int32 => some (.int z)) mc_X6_ring mi_X6_ring ms_X6_ring (fun b1 μ1 h => evX6_ring l E v1  μ b1 μ1 h) rfl (by decide) rfl rfl rfl rfl hR rfl hW hl1 hdg hq k
theorem ml_X6_220 : Cond.methodLink RX6 220 yX3_leastDebt ∈ pb_gw := pb_inW 640 (by decide +kernel) (by decide +kernel)
def pX6_close (v1 : Int32) (μ : pb_M) : Option (Int32 × pb_M) :=
  pb_b (pX5_hasPerson 4 v1 μ) (fun b5 μ5 =>
  if b5 = (0 : Int32) then
    some ((-1 : Int32), μ5)
  else
  pb_b (pX3_find 4 v1 μ5) (fun b22 μ22 =>
  if b22 = (0 : Int32) then
    some ((-9 : Int32), μ22)
  else
  pb_b (pX3_leastDebt 4 μ22) (fun b36 μ36 =>
  some (b36, μ36))))
abbrev wX6_close (l : Launch) (E : pb_E) := pb_RW l E { frames := 4, cells := 0, slots := 0, locals := 93 } RX6 cX6_close 2 (some .int) (fun _ => True) 0 0 (pb_Qf E (fun z : Int32 => some (.int z)))
set_option maxRecDepth 100000 in
set_option maxHeartbeats 4000000 in
theorem evX6_close (l : Launch) (E : pb_E) (v1 : Int32)  (μ : pb_M) : ∀ b μ', pX6_close v1 μ = some (b, μ') → pb_Ev l E yX6_close cX6_close 2 (some .int) { frames := 4, cells := 0, slots := 0, locals := 93 } [.ref (E.2.1 0), .int v1] μ ((fun z : Int32 => some (.int z)) b) μ' := by
  refine pb_enter (L := [some (.ref (E.2.1 0)), some (.int v1)]) (by decide +kernel) (Nat.le_of_ble_eq_true rfl) (pb_same [none, none] rfl) (show wX6_close l E 0 [some (.ref (E.2.1 0)), some (.int v1)] [] μ (pX6_close v1 μ) from ?_)
  unfold pX6_close
  refine pb_aload_n 1 dX6_close_0 rfl rfl rfl ?_
  refine pb_getR 4 (j := 1) (d := 4) in_X6 rfl (by decide) rfl rfl (by decide) fl_X6_19 dX6_close_1 rfl ?_
  refine pb_iload_n 5 dX6_close_4 rfl rfl rfl ?_
  refine cl_X5_hasPerson 8 pb_V4 ⟨by decide, by decide, by decide, by decide⟩ (Nat.le_of_ble_eq_true rfl) ml_X6_91 dX6_close_5 rfl (fun b5 μ5 => ?_)
  refine pb_if_ne 11 (tgt := 13) dX6_close_8 (by decide) rfl (fun _ => ?_) (fun _ => ?_)
  · refine pb_iconst 12 (v := -1) dX6_close_11 rfl (by decide) ?_
    exact pb_iret dX6_close_12
  · refine pb_aload_n 14 dX6_close_13 rfl rfl rfl ?_
    refine pb_getR 17 (j := 5) (d := 12) in_X6 rfl (by decide) rfl rfl (by decide) fl_X6_43 dX6_close_14 rfl ?_
    refine pb_aload_n 18 dX6_close_17 rfl rfl rfl ?_
    refine pb_getR 21 (j := 1) (d := 4) in_X6 rfl (by decide) rfl rfl (by decide) fl_X6_19 dX6_close_18 rfl ?_
    refine pb_iload_n 22 dX6_close_21 rfl rfl rfl ?_
    refine cl_X3_find 25 pb_V4 ⟨by decide, by decide, by decide, by decide⟩ (Nat.le_of_ble_eq_true rfl) ml_X6_213 dX6_close_22 rfl (fun b22 μ22 => ?_)
    refine pb_if_eq 28 (tgt := 42) dX6_close_25 (by decide) rfl (fun _ => ?_) (fun _ => ?_)
    · refine pb_bipush 44 (v := -9) dX6_close_42 rfl (by decide) ?_
      exact pb_iret dX6_close_44
    · refine pb_aload_n 29 dX6_close_28 rfl rfl rfl ?_
      refine pb_getR 32 (j := 5) (d := 12) in_X6 rfl (by decide) rfl rfl (by decide) fl_X6_43 dX6_close_29 rfl ?_
      refine pb_aload_n 33 dX6_close_32 rfl rfl rfl ?_
      refine pb_getR 36 (j := 1) (d := 4) in_X6 rfl (by decide) rfl rfl (by decide) fl_X6_19 dX6_close_33 rfl ?_
      refine cl_X3_leastDebt 39 pb_V4 ⟨by decide, by decide, by decide, by decide⟩ (Nat.le_of_ble_eq_true rfl) ml_X6_220 dX6_close_36 rfl (fun b36 μ36 => ?_)
      refine pb_goto (tgt := 44) dX6_close_39 (by decide) ?_
      exact pb_iret dX6_close_44
theorem mc_X6_close : pb_MC yX6_close cX6_close 2 (some .int) 1 := ⟨pb_inW 639 (by decide +kernel) (by decide +kernel), pb_inW 61 (by decide +kernel) (by decide +kernel), by decide +kernel, by decide +kernel, by decide +kernel⟩
theorem mi_X6_close : Cond.instanceMethod yX6_close ∈ pb_gw := pb_inW 637 (by decide +kernel) (by decide +kernel)
theorem ms_X6_close : Cond.selects (yX6_close).cls yX6_close yX6_close ∈ pb_gw := pb_inW 638 (by decide +kernel) (by decide +kernel)
theorem cl_X6_close {α : Type} {l : Launch} {E : pb_E} {R : Room} {own : String} {cc : ByteArray} {mL : Nat} {ret : Option FieldType} {Xs : State → Prop} {nc ns : Nat} {Qf : State → Array Value → List Frame → α → pb_M → State → Prop} {pc : Nat} {L : List (Option Value)} {S : List Value} {μ : pb_M} {f : Int32 → pb_M → Option (α × pb_M)} {v1 : Int32} {index : Nat} (q : Nat)  (hR : 4 + 1 ≤ R.frames ∧ 8 + (2 + 11) + 93 ≤ R.locals ∧ nc ≤ R.cells ∧ ns ≤ R.slots) (hW : (S.map fun v => v.category).sum ≤ 8) (hl1 : Cond.methodLink own index yX6_close ∈ pb_gw) (hdg : decode cc pc = .ok (.invokevirtual index, 3)) (hq : pc + 3 = q) (k : ∀ b1 μ1, pb_RW l E R own cc mL ret Xs nc ns Qf q L (.int b1 :: S) μ1 (f b1 μ1)) : pb_RW l E R own cc mL ret Xs nc ns Qf pc L (.int v1 :: .ref (E.2.1 0) :: S) μ (pb_b (pX6_close v1 μ) f) := pb_callV q (fun z : Int32 => some (.int z)) mc_X6_close mi_X6_close ms_X6_close (fun b1 μ1 h => evX6_close l E v1  μ b1 μ1 h) rfl (by decide) rfl rfl rfl rfl hR rfl hW hl1 hdg hq k
def pX6_driveIfFree (v1 : Int32) (v2 : Int32) (μ : pb_M) : Option (Int32 × pb_M) :=
  pb_b (pX5_hasPerson 6 v1 μ) (fun b5 μ5 =>
  if b5 = (0 : Int32) then
    some ((0 : Int32), μ5)
  else
  pb_b (pX5_hasBeast 6 v2 μ5) (fun b16 μ16 =>
  if b16 = (0 : Int32) then
    some ((0 : Int32), μ16)
  else
  pb_b (pX5_clauseFor 6 v1 v2 μ16) (fun b28 μ28 =>
  if b28 = (0 : Int32) then
    pb_b (pX5_shutIn 6 v1 v2 μ28) (fun b42 μ42 =>
    some ((1 : Int32), μ42))
  else
  some ((0 : Int32), μ28))))
abbrev wX6_driveIfFree (l : Launch) (E : pb_E) := pb_RW l E { frames := 3, cells := 0, slots := 0, locals := 65 } RX6 cX6_driveIfFree 3 (some .boolean) (fun _ => True) 0 0 (pb_Qf E (fun z : Int32 => some (.int z)))
set_option maxRecDepth 100000 in
set_option maxHeartbeats 4000000 in
theorem evX6_driveIfFree (l : Launch) (E : pb_E) (v1 : Int32) (v2 : Int32)  (μ : pb_M) : ∀ b μ', pX6_driveIfFree v1 v2 μ = some (b, μ') → pb_Ev l E yX6_driveIfFree cX6_driveIfFree 3 (some .boolean) { frames := 3, cells := 0, slots := 0, locals := 65 } [.ref (E.2.1 0), .int v1, .int v2] μ ((fun z : Int32 => some (.int z)) b) μ' := by
  refine pb_enter (L := [some (.ref (E.2.1 0)), some (.int v1), some (.int v2)]) (by decide +kernel) (Nat.le_of_ble_eq_true rfl) (pb_same [none, none, none] rfl) (show wX6_driveIfFree l E 0 [some (.ref (E.2.1 0)), some (.int v1), some (.int v2)] [] μ (pX6_driveIfFree v1 v2 μ) from ?_)
  unfold pX6_driveIfFree
  refine pb_aload_n 1 dX6_driveIfFree_0 rfl rfl rfl ?_
  refine pb_getR 4 (j := 2) (d := 6) in_X6 rfl (by decide) rfl rfl (by decide) fl_X6_23 dX6_driveIfFree_1 rfl ?_
  refine pb_iload_n 5 dX6_driveIfFree_4 rfl rfl rfl ?_
  refine cl_X5_hasPerson 8 pb_V6 ⟨by decide, by decide, by decide, by decide⟩ (Nat.le_of_ble_eq_true rfl) ml_X6_91 dX6_driveIfFree_5 rfl (fun b5 μ5 => ?_)
  refine pb_if_eq 11 (tgt := 34) dX6_driveIfFree_8 (by decide) rfl (fun _ => ?_) (fun _ => ?_)
  · refine pb_iconst 35 (v := 0) dX6_driveIfFree_34 rfl (by decide) ?_
    exact pb_zret rfl dX6_driveIfFree_35
  · refine pb_aload_n 12 dX6_driveIfFree_11 rfl rfl rfl ?_
    refine pb_getR 15 (j := 2) (d := 6) in_X6 rfl (by decide) rfl rfl (by decide) fl_X6_23 dX6_driveIfFree_12 rfl ?_
    refine pb_iload_n 16 dX6_driveIfFree_15 rfl rfl rfl ?_
    refine cl_X5_hasBeast 19 pb_V6 ⟨by decide, by decide, by decide, by decide⟩ (Nat.le_of_ble_eq_true rfl) ml_X6_110 dX6_driveIfFree_16 rfl (fun b16 μ16 => ?_)
    refine pb_if_eq 22 (tgt := 34) dX6_driveIfFree_19 (by decide) rfl (fun _ => ?_) (fun _ => ?_)
    · refine pb_iconst 35 (v := 0) dX6_driveIfFree_34 rfl (by decide) ?_
      exact pb_zret rfl dX6_driveIfFree_35
    · refine pb_aload_n 23 dX6_driveIfFree_22 rfl rfl rfl ?_
      refine pb_getR 26 (j := 2) (d := 6) in_X6 rfl (by decide) rfl rfl (by decide) fl_X6_23 dX6_driveIfFree_23 rfl ?_
      refine pb_iload_n 27 dX6_driveIfFree_26 rfl rfl rfl ?_
      refine pb_iload_n 28 dX6_driveIfFree_27 rfl rfl rfl ?_
      refine cl_X5_clauseFor 31 pb_V6 ⟨by decide, by decide, by decide, by decide⟩ (Nat.le_of_ble_eq_true rfl) ml_X6_135 dX6_driveIfFree_28 rfl (fun b28 μ28 => ?_)
      refine pb_if_eq 34 (tgt := 36) dX6_driveIfFree_31 (by decide) rfl (fun _ => ?_) (fun _ => ?_)
      · refine pb_aload_n 37 dX6_driveIfFree_36 rfl rfl rfl ?_
        refine pb_getR 40 (j := 2) (d := 6) in_X6 rfl (by decide) rfl rfl (by decide) fl_X6_23 dX6_driveIfFree_37 rfl ?_
        refine pb_iload_n 41 dX6_driveIfFree_40 rfl rfl rfl ?_
        refine pb_iload_n 42 dX6_driveIfFree_41 rfl rfl rfl ?_
        refine cl_X5_shutIn 45 pb_V6 ⟨by decide, by decide, by decide, by decide⟩ (Nat.le_of_ble_eq_true rfl) ml_X6_141 dX6_driveIfFree_42 rfl (fun b42 μ42 => ?_)
        refine pb_iconst 46 (v := 1) dX6_driveIfFree_45 rfl (by decide) ?_
        exact pb_zret rfl dX6_driveIfFree_46
      · refine pb_iconst 35 (v := 0) dX6_driveIfFree_34 rfl (by decide) ?_
        exact pb_zret rfl dX6_driveIfFree_35
theorem mc_X6_driveIfFree : pb_MC yX6_driveIfFree cX6_driveIfFree 3 (some .boolean) 2 := ⟨pb_inW 657 (by decide +kernel) (by decide +kernel), pb_inW 61 (by decide +kernel) (by decide +kernel), by decide +kernel, by decide +kernel, by decide +kernel⟩
theorem mi_X6_driveIfFree : Cond.instanceMethod yX6_driveIfFree ∈ pb_gw := pb_inW 656 (by decide +kernel) (by decide +kernel)
theorem ms_X6_driveIfFree : Cond.selects (yX6_driveIfFree).cls yX6_driveIfFree yX6_driveIfFree ∈ pb_gw := pb_inW 16 (by decide +kernel) (by decide +kernel)
theorem cl_X6_driveIfFree {α : Type} {l : Launch} {E : pb_E} {R : Room} {own : String} {cc : ByteArray} {mL : Nat} {ret : Option FieldType} {Xs : State → Prop} {nc ns : Nat} {Qf : State → Array Value → List Frame → α → pb_M → State → Prop} {pc : Nat} {L : List (Option Value)} {S : List Value} {μ : pb_M} {f : Int32 → pb_M → Option (α × pb_M)} {v1 : Int32} {v2 : Int32} {index : Nat} (q : Nat)  (hR : 3 + 1 ≤ R.frames ∧ 8 + (3 + 11) + 65 ≤ R.locals ∧ nc ≤ R.cells ∧ ns ≤ R.slots) (hW : (S.map fun v => v.category).sum ≤ 8) (hl1 : Cond.methodLink own index yX6_driveIfFree ∈ pb_gw) (hdg : decode cc pc = .ok (.invokevirtual index, 3)) (hq : pc + 3 = q) (k : ∀ b1 μ1, pb_RW l E R own cc mL ret Xs nc ns Qf q L (.int b1 :: S) μ1 (f b1 μ1)) : pb_RW l E R own cc mL ret Xs nc ns Qf pc L (.int v2 :: .int v1 :: .ref (E.2.1 0) :: S) μ (pb_b (pX6_driveIfFree v1 v2 μ) f) := pb_callV q (fun z : Int32 => some (.int z)) mc_X6_driveIfFree mi_X6_driveIfFree ms_X6_driveIfFree (fun b1 μ1 h => evX6_driveIfFree l E v1 v2  μ b1 μ1 h) rfl (by decide) rfl rfl rfl rfl hR rfl hW hl1 hdg hq k
def pX6_runHomeIfShut (v1 : Int32) (μ : pb_M) : Option (Int32 × pb_M) :=
  pb_b (pX5_hasBeast 6 v1 μ) (fun b5 μ5 =>
  if b5 = (0 : Int32) then
    some ((0 : Int32), μ5)
  else
  pb_b (pX5_isShut 6 v1 μ5) (fun b16 μ16 =>
  if b16 = (0 : Int32) then
    some ((0 : Int32), μ16)
  else
  pb_b (pX5_runHome 6 v1 μ16) (fun b29 μ29 =>
  some ((1 : Int32), μ29))))
abbrev wX6_runHomeIfShut (l : Launch) (E : pb_E) := pb_RW l E { frames := 3, cells := 0, slots := 0, locals := 67 } RX6 cX6_runHomeIfShut 2 (some .boolean) (fun _ => True) 0 0 (pb_Qf E (fun z : Int32 => some (.int z)))
set_option maxRecDepth 100000 in
set_option maxHeartbeats 4000000 in
theorem evX6_runHomeIfShut (l : Launch) (E : pb_E) (v1 : Int32)  (μ : pb_M) : ∀ b μ', pX6_runHomeIfShut v1 μ = some (b, μ') → pb_Ev l E yX6_runHomeIfShut cX6_runHomeIfShut 2 (some .boolean) { frames := 3, cells := 0, slots := 0, locals := 67 } [.ref (E.2.1 0), .int v1] μ ((fun z : Int32 => some (.int z)) b) μ' := by
  refine pb_enter (L := [some (.ref (E.2.1 0)), some (.int v1)]) (by decide +kernel) (Nat.le_of_ble_eq_true rfl) (pb_same [none, none] rfl) (show wX6_runHomeIfShut l E 0 [some (.ref (E.2.1 0)), some (.int v1)] [] μ (pX6_runHomeIfShut v1 μ) from ?_)
  unfold pX6_runHomeIfShut
  refine pb_aload_n 1 dX6_runHomeIfShut_0 rfl rfl rfl ?_
  refine pb_getR 4 (j := 2) (d := 6) in_X6 rfl (by decide) rfl rfl (by decide) fl_X6_23 dX6_runHomeIfShut_1 rfl ?_
  refine pb_iload_n 5 dX6_runHomeIfShut_4 rfl rfl rfl ?_
  refine cl_X5_hasBeast 8 pb_V6 ⟨by decide, by decide, by decide, by decide⟩ (Nat.le_of_ble_eq_true rfl) ml_X6_110 dX6_runHomeIfShut_5 rfl (fun b5 μ5 => ?_)
  refine pb_if_eq 11 (tgt := 22) dX6_runHomeIfShut_8 (by decide) rfl (fun _ => ?_) (fun _ => ?_)
  · refine pb_iconst 23 (v := 0) dX6_runHomeIfShut_22 rfl (by decide) ?_
    exact pb_zret rfl dX6_runHomeIfShut_23
  · refine pb_aload_n 12 dX6_runHomeIfShut_11 rfl rfl rfl ?_
    refine pb_getR 15 (j := 2) (d := 6) in_X6 rfl (by decide) rfl rfl (by decide) fl_X6_23 dX6_runHomeIfShut_12 rfl ?_
    refine pb_iload_n 16 dX6_runHomeIfShut_15 rfl rfl rfl ?_
    refine cl_X5_isShut 19 pb_V6 ⟨by decide, by decide, by decide, by decide⟩ (Nat.le_of_ble_eq_true rfl) ml_X6_163 dX6_runHomeIfShut_16 rfl (fun b16 μ16 => ?_)
    refine pb_if_ne 22 (tgt := 24) dX6_runHomeIfShut_19 (by decide) rfl (fun _ => ?_) (fun _ => ?_)
    · refine pb_iconst 23 (v := 0) dX6_runHomeIfShut_22 rfl (by decide) ?_
      exact pb_zret rfl dX6_runHomeIfShut_23
    · refine pb_aload_n 25 dX6_runHomeIfShut_24 rfl rfl rfl ?_
      refine pb_getR 28 (j := 2) (d := 6) in_X6 rfl (by decide) rfl rfl (by decide) fl_X6_23 dX6_runHomeIfShut_25 rfl ?_
      refine pb_iload_n 29 dX6_runHomeIfShut_28 rfl rfl rfl ?_
      refine cl_X5_runHome 32 pb_V6 ⟨by decide, by decide, by decide, by decide⟩ (Nat.le_of_ble_eq_true rfl) ml_X6_166 dX6_runHomeIfShut_29 rfl (fun b29 μ29 => ?_)
      refine pb_iconst 33 (v := 1) dX6_runHomeIfShut_32 rfl (by decide) ?_
      exact pb_zret rfl dX6_runHomeIfShut_33
theorem mc_X6_runHomeIfShut : pb_MC yX6_runHomeIfShut cX6_runHomeIfShut 2 (some .boolean) 1 := ⟨pb_inW 661 (by decide +kernel) (by decide +kernel), pb_inW 61 (by decide +kernel) (by decide +kernel), by decide +kernel, by decide +kernel, by decide +kernel⟩
theorem mi_X6_runHomeIfShut : Cond.instanceMethod yX6_runHomeIfShut ∈ pb_gw := pb_inW 660 (by decide +kernel) (by decide +kernel)
theorem ms_X6_runHomeIfShut : Cond.selects (yX6_runHomeIfShut).cls yX6_runHomeIfShut yX6_runHomeIfShut ∈ pb_gw := pb_inW 17 (by decide +kernel) (by decide +kernel)
theorem cl_X6_runHomeIfShut {α : Type} {l : Launch} {E : pb_E} {R : Room} {own : String} {cc : ByteArray} {mL : Nat} {ret : Option FieldType} {Xs : State → Prop} {nc ns : Nat} {Qf : State → Array Value → List Frame → α → pb_M → State → Prop} {pc : Nat} {L : List (Option Value)} {S : List Value} {μ : pb_M} {f : Int32 → pb_M → Option (α × pb_M)} {v1 : Int32} {index : Nat} (q : Nat)  (hR : 3 + 1 ≤ R.frames ∧ 8 + (2 + 11) + 67 ≤ R.locals ∧ nc ≤ R.cells ∧ ns ≤ R.slots) (hW : (S.map fun v => v.category).sum ≤ 8) (hl1 : Cond.methodLink own index yX6_runHomeIfShut ∈ pb_gw) (hdg : decode cc pc = .ok (.invokevirtual index, 3)) (hq : pc + 3 = q) (k : ∀ b1 μ1, pb_RW l E R own cc mL ret Xs nc ns Qf q L (.int b1 :: S) μ1 (f b1 μ1)) : pb_RW l E R own cc mL ret Xs nc ns Qf pc L (.int v1 :: .ref (E.2.1 0) :: S) μ (pb_b (pX6_runHomeIfShut v1 μ) f) := pb_callV q (fun z : Int32 => some (.int z)) mc_X6_runHomeIfShut mi_X6_runHomeIfShut ms_X6_runHomeIfShut (fun b1 μ1 h => evX6_runHomeIfShut l E v1  μ b1 μ1 h) rfl (by decide) rfl rfl rfl rfl hR rfl hW hl1 hdg hq k
