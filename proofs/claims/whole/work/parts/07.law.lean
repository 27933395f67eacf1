/-! THE CLAIM OUT OF ONE WALK OF THE LAW'S BODY. Your part is whole_start (and what it stands on); all else here is the same for every law, but numbers. -/
def R_law : String := "PoundBeastsLaw"
def lw_P (b : Addr) (xs : List Int32) (args : Array Value) (s : State) : Prop := args = #[.ref b] ∧ s.IntsAt b xs ∧ xs.length ≤ 256 ∧ (Jvm.Cond.and given_1 narrow_1).before args s = true
def lw_Q (_ : Array Value) (s : State) (o : Outcome) (t : State) : Prop := o = .returned (some (.int 1)) ∧ Framed s o t [] 30 2040
def lw_Z (below : List Frame) (a : Array Value) (s : State) : State → Prop := fun t => ∃ o, t.status = .running ∧ Ended t below o ∧ lw_Q a s o t
/-- the law's own end, with 1 on the stack, nothing written that was there before, its room as the claim has it -/
theorem lw_ret {p : Program} {l : Launch} {e : Env} {s : State} {m : MethodId} {below : List Frame} {meth : Method} {c : Code} {b : Nat} (hx : p.tables.exec = Jvm.exec) (hb : c.code = code) (hr : meth.sig.returnType = ret) (hlocks : meth.locks = false) {pc : Nat} {H : Heap} {ls : Array Slot} (hdg : decode code pc = .ok (.ireturn, 1)) : W p l e room_1 s m #[Value.ref b] below meth c H [] 30 2040 (lw_Z below #[Value.ref b] s) (F0 m pc ls [.int 1]) := by
  intro T hT X
  obtain ⟨fs, hret, hrun, hended, hW, hframe⟩ := X.leave (v := some (.int 1)) (hlocks := hlocks) (fun h => by rw [hr] at h; cases h)
  have hmeth' : T.vm.method? m = some meth := X.method'
  refine ⟨T.setFrames fs, ?_, .returned (some (.int 1)), hrun, hended, rfl, ⟨_, rfl⟩, hW, hframe⟩
  jvm_step X.here [X.here.top, hx, hb, hdg, hmeth', hr, ret, narrow_b1]
  (try refine ⟨rfl, ?_⟩); (try refine ⟨rfl, ?_⟩)
  first | (intro acts; rw [hret _ acts rfl rfl rfl]) | rw [hret _ _ rfl rfl rfl]
  exact Steps.refl _
/-- what holds at the law's entry: the machine, the code, the tables' words (any of lw_tbl by 'hts w (by decide +kernel)'), the script of L ints xs at the cell b, what the Statement gives of the start (any of its parts by flat_of_before) -/
def lw_At (p : Program) (s : State) (m : MethodId) (meth : Method) (c : Code) (b L : Nat) (xs : Nat → Int32) : Prop :=
  p.tables.exec = Jvm.exec ∧ c.code = code ∧ meth.sig.returnType = ret ∧ c.maxLocals = 4 ∧ s.vm.findClass R_law = some m.cls ∧ (∀ w ∈ lw_tbl, w.before #[Value.ref b] s = true) ∧ va_X b L xs s s.heap ∧ b < s.heap.size ∧ meth.locks = false ∧ (Jvm.Cond.and given_1 narrow_1).before #[Value.ref b] s = true
theorem lw_retG {p : Program} {l : Launch} {e : Env} {s : State} {m : MethodId} {below : List Frame} {meth : Method} {c : Code} {args : Array Value} (hx : p.tables.exec = Jvm.exec) (hb : c.code = code) (hr : meth.sig.returnType = ret) (hlocks : meth.locks = false) {pc : Nat} {H : Heap} {ls : Array Slot} (hdg : decode code pc = .ok (.ireturn, 1)) : W p l e room_1 s m args below meth c H [] 30 2040 (lw_Z below args s) (F0 m pc ls [.int 1]) := by
  intro T hT X
  obtain ⟨fs, hret, hrun, hended, hW, hframe⟩ := X.leave (v := some (.int 1)) (hlocks := hlocks) (fun h => by rw [hr] at h; cases h)
  have hmeth' : T.vm.method? m = some meth := X.method'
  refine ⟨T.setFrames fs, ?_, .returned (some (.int 1)), hrun, hended, rfl, ⟨_, rfl⟩, hW, hframe⟩
  jvm_step X.here [X.here.top, hx, hb, hdg, hmeth', hr, ret, narrow_b1]
  (try refine ⟨rfl, ?_⟩); (try refine ⟨rfl, ?_⟩)
  first | (intro acts; rw [hret _ acts rfl rfl rfl]) | rw [hret _ _ rfl rfl rfl]
  exact Steps.refl _
theorem kc_L_100 : Cond.constantLong RL 100 (4294967295 : Int64) ∈ pb_gw := pb_inW 1138 (by decide +kernel) (by decide +kernel)
theorem ml_L_102 : Cond.methodLink RL 102 yX6_judge ∈ pb_gw := pb_inW 645 (by decide +kernel) (by decide +kernel)
theorem ml_L_106 : Cond.methodLink RL 106 yX7_judge ∈ pb_gw := pb_inW 1059 (by decide +kernel) (by decide +kernel)
theorem ml_L_107 : Cond.methodLink RL 107 yX6_who ∈ pb_gw := pb_inW 670 (by decide +kernel) (by decide +kernel)
theorem ml_L_110 : Cond.methodLink RL 110 yX7_who ∈ pb_gw := pb_inW 1073 (by decide +kernel) (by decide +kernel)
theorem ml_L_111 : Cond.methodLink RL 111 yX6_suspects ∈ pb_gw := pb_inW 678 (by decide +kernel) (by decide +kernel)
theorem ml_L_114 : Cond.methodLink RL 114 yX7_suspects ∈ pb_gw := pb_inW 1081 (by decide +kernel) (by decide +kernel)
theorem ml_L_115 : Cond.methodLink RL 115 yX6_rests ∈ pb_gw := pb_inW 687 (by decide +kernel) (by decide +kernel)
theorem ml_L_118 : Cond.methodLink RL 118 yX7_rests ∈ pb_gw := pb_inW 1090 (by decide +kernel) (by decide +kernel)
theorem ml_L_119 : Cond.methodLink RL 119 yX6_chance ∈ pb_gw := pb_inW 730 (by decide +kernel) (by decide +kernel)
theorem ml_L_122 : Cond.methodLink RL 122 yX7_chance ∈ pb_gw := pb_inW 1106 (by decide +kernel) (by decide +kernel)
theorem ml_L_123 : Cond.methodLink RL 123 yX6_seed ∈ pb_gw := pb_inW 740 (by decide +kernel) (by decide +kernel)
theorem ml_L_127 : Cond.methodLink RL 127 yX7_seed ∈ pb_gw := pb_inW 1111 (by decide +kernel) (by decide +kernel)
theorem ml_L_128 : Cond.methodLink RL 128 yX6_villages ∈ pb_gw := pb_inW 744 (by decide +kernel) (by decide +kernel)
theorem ml_L_13 : Cond.methodLink RL 13 yX6_write ∈ pb_gw := pb_inW 212 (by decide +kernel) (by decide +kernel)
theorem ml_L_131 : Cond.methodLink RL 131 yX7_villages ∈ pb_gw := pb_inW 1115 (by decide +kernel) (by decide +kernel)
theorem ml_L_132 : Cond.methodLink RL 132 yX6_keep ∈ pb_gw := pb_inW 759 (by decide +kernel) (by decide +kernel)
theorem ml_L_135 : Cond.methodLink RL 135 yX7_keep ∈ pb_gw := pb_inW 1126 (by decide +kernel) (by decide +kernel)
theorem ml_L_136 : Cond.methodLink RL 136 yX6_again ∈ pb_gw := pb_inW 765 (by decide +kernel) (by decide +kernel)
theorem ml_L_139 : Cond.methodLink RL 139 yX7_again ∈ pb_gw := pb_inW 1130 (by decide +kernel) (by decide +kernel)
theorem ml_L_140 : Cond.methodLink RL 140 yX6_count ∈ pb_gw := pb_inW 770 (by decide +kernel) (by decide +kernel)
theorem ml_L_143 : Cond.methodLink RL 143 yX7_count ∈ pb_gw := pb_inW 1134 (by decide +kernel) (by decide +kernel)
theorem ml_L_17 : Cond.methodLink RL 17 yX7_write ∈ pb_gw := pb_inW 852 (by decide +kernel) (by decide +kernel)
theorem ml_L_18 : Cond.methodLink RL 18 yX6_wipe ∈ pb_gw := pb_inW 224 (by decide +kernel) (by decide +kernel)
theorem ml_L_22 : Cond.methodLink RL 22 yX7_wipe ∈ pb_gw := pb_inW 860 (by decide +kernel) (by decide +kernel)
theorem ml_L_23 : Cond.methodLink RL 23 yX6_fault ∈ pb_gw := pb_inW 232 (by decide +kernel) (by decide +kernel)
theorem ml_L_26 : Cond.methodLink RL 26 yX7_fault ∈ pb_gw := pb_inW 864 (by decide +kernel) (by decide +kernel)
theorem ml_L_27 : Cond.methodLink RL 27 yX6_village ∈ pb_gw := pb_inW 319 (by decide +kernel) (by decide +kernel)
theorem ml_L_30 : Cond.methodLink RL 30 yX7_village ∈ pb_gw := pb_inW 896 (by decide +kernel) (by decide +kernel)
theorem ml_L_31 : Cond.methodLink RL 31 yX6_person ∈ pb_gw := pb_inW 336 (by decide +kernel) (by decide +kernel)
theorem ml_L_35 : Cond.methodLink RL 35 yX7_person ∈ pb_gw := pb_inW 900 (by decide +kernel) (by decide +kernel)
theorem ml_L_36 : Cond.methodLink RL 36 yX6_beast ∈ pb_gw := pb_inW 365 (by decide +kernel) (by decide +kernel)
theorem ml_L_39 : Cond.methodLink RL 39 yX7_beast ∈ pb_gw := pb_inW 911 (by decide +kernel) (by decide +kernel)
theorem ml_L_40 : Cond.methodLink RL 40 yX6_owes ∈ pb_gw := pb_inW 395 (by decide +kernel) (by decide +kernel)
theorem ml_L_43 : Cond.methodLink RL 43 yX7_owes ∈ pb_gw := pb_inW 919 (by decide +kernel) (by decide +kernel)
theorem ml_L_44 : Cond.methodLink RL 44 yX6_drive ∈ pb_gw := pb_inW 400 (by decide +kernel) (by decide +kernel)
theorem ml_L_47 : Cond.methodLink RL 47 yX7_drive ∈ pb_gw := pb_inW 923 (by decide +kernel) (by decide +kernel)
theorem ml_L_48 : Cond.methodLink RL 48 yX6_day ∈ pb_gw := pb_inW 440 (by decide +kernel) (by decide +kernel)
theorem ml_L_51 : Cond.methodLink RL 51 yX7_day ∈ pb_gw := pb_inW 947 (by decide +kernel) (by decide +kernel)
theorem ml_L_52 : Cond.methodLink RL 52 yX6_pay ∈ pb_gw := pb_inW 470 (by decide +kernel) (by decide +kernel)
theorem ml_L_56 : Cond.methodLink RL 56 yX7_pay ∈ pb_gw := pb_inW 966 (by decide +kernel) (by decide +kernel)
theorem ml_L_57 : Cond.methodLink RL 57 yX6_breakOut ∈ pb_gw := pb_inW 486 (by decide +kernel) (by decide +kernel)
theorem ml_L_60 : Cond.methodLink RL 60 yX7_breakOut ∈ pb_gw := pb_inW 970 (by decide +kernel) (by decide +kernel)
theorem ml_L_61 : Cond.methodLink RL 61 yX6_forfeit ∈ pb_gw := pb_inW 496 (by decide +kernel) (by decide +kernel)
theorem ml_L_64 : Cond.methodLink RL 64 yX7_forfeit ∈ pb_gw := pb_inW 978 (by decide +kernel) (by decide +kernel)
theorem ml_L_65 : Cond.methodLink RL 65 yX6_undo ∈ pb_gw := pb_inW 509 (by decide +kernel) (by decide +kernel)
theorem ml_L_68 : Cond.methodLink RL 68 yX7_undo ∈ pb_gw := pb_inW 990 (by decide +kernel) (by decide +kernel)
theorem ml_L_69 : Cond.methodLink RL 69 yX6_clause ∈ pb_gw := pb_inW 525 (by decide +kernel) (by decide +kernel)
theorem ml_L_72 : Cond.methodLink RL 72 yX7_clause ∈ pb_gw := pb_inW 994 (by decide +kernel) (by decide +kernel)
theorem ml_L_73 : Cond.methodLink RL 73 yX6_worth ∈ pb_gw := pb_inW 529 (by decide +kernel) (by decide +kernel)
theorem ml_L_76 : Cond.methodLink RL 76 yX7_worth ∈ pb_gw := pb_inW 998 (by decide +kernel) (by decide +kernel)
theorem ml_L_77 : Cond.methodLink RL 77 yX6_take ∈ pb_gw := pb_inW 533 (by decide +kernel) (by decide +kernel)
theorem ml_L_81 : Cond.methodLink RL 81 yX7_take ∈ pb_gw := pb_inW 1006 (by decide +kernel) (by decide +kernel)
theorem ml_L_82 : Cond.methodLink RL 82 yX6_each ∈ pb_gw := pb_inW 549 (by decide +kernel) (by decide +kernel)
theorem ml_L_86 : Cond.methodLink RL 86 yX7_each ∈ pb_gw := pb_inW 1014 (by decide +kernel) (by decide +kernel)
theorem ml_L_87 : Cond.methodLink RL 87 yX6_share ∈ pb_gw := pb_inW 588 (by decide +kernel) (by decide +kernel)
theorem ml_L_91 : Cond.methodLink RL 91 yX7_share ∈ pb_gw := pb_inW 1033 (by decide +kernel) (by decide +kernel)
theorem ml_L_92 : Cond.methodLink RL 92 yX6_ring ∈ pb_gw := pb_inW 608 (by decide +kernel) (by decide +kernel)
theorem ml_L_95 : Cond.methodLink RL 95 yX7_ring ∈ pb_gw := pb_inW 1043 (by decide +kernel) (by decide +kernel)
theorem ml_L_96 : Cond.methodLink RL 96 yX6_close ∈ pb_gw := pb_inW 636 (by decide +kernel) (by decide +kernel)
theorem ml_L_99 : Cond.methodLink RL 99 yX7_close ∈ pb_gw := pb_inW 1055 (by decide +kernel) (by decide +kernel)
def pL_law_J922 (xs : Nat → Int32) (N : Nat) (S18 : Int32 → pb_M → Option (Int32 × pb_M)) (v3 : Int32) (s0 : Int32) (s1 : Int32) (s2 : Int32) (μ : pb_M) : Option (Int32 × pb_M) :=
  pb_b (pX6_chance s2 s1 s0 μ) (fun b922 μ922 =>
  if pb_in (v3 + (1 : Int32)) N then
    if pb_in (v3 + (2 : Int32)) N then
      if pb_in (v3 + (3 : Int32)) N then
        if (xs ((v3 + (3 : Int32))).toNatClampNeg) = (0 : Int32) then
          pb_b (pX7_chance (xs ((v3 + (1 : Int32))).toNatClampNeg) (xs ((v3 + (2 : Int32))).toNatClampNeg) (0 : Int32) μ922) (fun b949 μ949 =>
          if b922 = b949 then
            S18 (v3 + (4 : Int32)) μ949
          else
          none)
        else
        pb_b (pX7_chance (xs ((v3 + (1 : Int32))).toNatClampNeg) (xs ((v3 + (2 : Int32))).toNatClampNeg) (1 : Int32) μ922) (fun b949 μ949 =>
        if b922 = b949 then
          S18 (v3 + (4 : Int32)) μ949
        else
        none)
      else none
    else none
  else none)
def pL_law_J660 (xs : Nat → Int32) (N : Nat) (S18 : Int32 → pb_M → Option (Int32 × pb_M)) (v3 : Int32) (s0 : Int32) (s1 : Int32) (μ : pb_M) : Option (Int32 × pb_M) :=
  pb_b (pX6_share s1 s0 μ) (fun b660 μ660 =>
  if pb_in (v3 + (1 : Int32)) N then
    if pb_in (v3 + (2 : Int32)) N then
      if (xs ((v3 + (2 : Int32))).toNatClampNeg) = (0 : Int32) then
        pb_b (pX7_share (xs ((v3 + (1 : Int32))).toNatClampNeg) (0 : Int32) μ660) (fun b682 μ682 =>
        if b660 = b682 then
          S18 (v3 + (4 : Int32)) μ682
        else
        none)
      else
      pb_b (pX7_share (xs ((v3 + (1 : Int32))).toNatClampNeg) (1 : Int32) μ660) (fun b682 μ682 =>
      if b660 = b682 then
        S18 (v3 + (4 : Int32)) μ682
      else
      none)
    else none
  else none)
def pL_law_J616 (xs : Nat → Int32) (N : Nat) (S18 : Int32 → pb_M → Option (Int32 × pb_M)) (v3 : Int32) (s0 : Int32) (μ : pb_M) : Option (Int32 × pb_M) :=
  pb_b (pX6_each s0 μ) (fun b616 μ616 =>
  if pb_in (v3 + (1 : Int32)) N then
    if (xs ((v3 + (1 : Int32))).toNatClampNeg) = (0 : Int32) then
      pb_b (pX7_each (0 : Int32) μ616) (fun b633 μ633 =>
      if b616 = b633 then
        S18 (v3 + (4 : Int32)) μ633
      else
      none)
    else
    pb_b (pX7_each (1 : Int32) μ616) (fun b633 μ633 =>
    if b616 = b633 then
      S18 (v3 + (4 : Int32)) μ633
    else
    none)
  else none)
def pL_law_J567 (xs : Nat → Int32) (N : Nat) (S18 : Int32 → pb_M → Option (Int32 × pb_M)) (v3 : Int32) (s0 : Int32) (s1 : Int32) (s2 : Int32) (μ : pb_M) : Option (Int32 × pb_M) :=
  pb_b (pX6_take s2 s1 s0 μ) (fun b567 μ567 =>
  if pb_in (v3 + (1 : Int32)) N then
    if pb_in (v3 + (2 : Int32)) N then
      if pb_in (v3 + (3 : Int32)) N then
        if (xs ((v3 + (3 : Int32))).toNatClampNeg) = (0 : Int32) then
          pb_b (pX7_take (xs ((v3 + (1 : Int32))).toNatClampNeg) (xs ((v3 + (2 : Int32))).toNatClampNeg) (0 : Int32) μ567) (fun b594 μ594 =>
          if b567 = b594 then
            S18 (v3 + (4 : Int32)) μ594
          else
          none)
        else
        pb_b (pX7_take (xs ((v3 + (1 : Int32))).toNatClampNeg) (xs ((v3 + (2 : Int32))).toNatClampNeg) (1 : Int32) μ567) (fun b594 μ594 =>
        if b567 = b594 then
          S18 (v3 + (4 : Int32)) μ594
        else
        none)
      else none
    else none
  else none)
def pL_law_L18 (xs : Nat → Int32) (N : Nat) : Nat → Int32 → pb_M → Option (Int32 × pb_M)
  | 0, _, _ => none
  | n + 1, v3, μ =>
    if ((Int32.ofNat N) - (4 : Int32)) < v3 then
      some ((1 : Int32), μ)
    else
    if pb_in v3 N then
      if ((xs (v3).toNatClampNeg) &&& (31 : Int32)) = (0 : Int32) then
        if pb_in (v3 + (1 : Int32)) N then
          pb_b (pX6_write (xs ((v3 + (1 : Int32))).toNatClampNeg) μ) (fun b174 μ174 =>
          if pb_in (v3 + (1 : Int32)) N then
            pb_b (pX7_write (xs ((v3 + (1 : Int32))).toNatClampNeg) μ174) (fun b183 μ183 =>
            if b174 = b183 then
              pL_law_L18 xs N n (v3 + (4 : Int32)) μ183
            else
            none)
          else none)
        else none
      else
      if ((xs (v3).toNatClampNeg) &&& (31 : Int32)) = (1 : Int32) then
        pb_b (pX6_wipe μ) (fun b192 μ192 =>
        pb_b (pX7_wipe μ192) (fun b196 μ196 =>
        if b192 = b196 then
          pL_law_L18 xs N n (v3 + (4 : Int32)) μ196
        else
        none))
      else
      if ((xs (v3).toNatClampNeg) &&& (31 : Int32)) = (2 : Int32) then
        pb_b (pX6_fault μ) (fun b205 μ205 =>
        pb_b (pX7_fault μ205) (fun b209 μ209 =>
        if b205 = b209 then
          pL_law_L18 xs N n (v3 + (4 : Int32)) μ209
        else
        none))
      else
      if ((xs (v3).toNatClampNeg) &&& (31 : Int32)) = (3 : Int32) then
        pb_b (pX6_village μ) (fun b218 μ218 =>
        pb_b (pX7_village μ218) (fun b222 μ222 =>
        if b218 = b222 then
          pL_law_L18 xs N n (v3 + (4 : Int32)) μ222
        else
        none))
      else
      if ((xs (v3).toNatClampNeg) &&& (31 : Int32)) = (4 : Int32) then
        if pb_in (v3 + (1 : Int32)) N then
          if pb_in (v3 + (2 : Int32)) N then
            pb_b (pX6_person (xs ((v3 + (1 : Int32))).toNatClampNeg) (xs ((v3 + (2 : Int32))).toNatClampNeg) μ) (fun b241 μ241 =>
            if pb_in (v3 + (1 : Int32)) N then
              if pb_in (v3 + (2 : Int32)) N then
                pb_b (pX7_person (xs ((v3 + (1 : Int32))).toNatClampNeg) (xs ((v3 + (2 : Int32))).toNatClampNeg) μ241) (fun b255 μ255 =>
                if b241 = b255 then
                  pL_law_L18 xs N n (v3 + (4 : Int32)) μ255
                else
                none)
              else none
            else none)
          else none
        else none
      else
      if ((xs (v3).toNatClampNeg) &&& (31 : Int32)) = (5 : Int32) then
        if pb_in (v3 + (1 : Int32)) N then
          if pb_in (v3 + (2 : Int32)) N then
            pb_b (pX6_beast (xs ((v3 + (1 : Int32))).toNatClampNeg) (xs ((v3 + (2 : Int32))).toNatClampNeg) μ) (fun b274 μ274 =>
            if pb_in (v3 + (1 : Int32)) N then
              if pb_in (v3 + (2 : Int32)) N then
                pb_b (pX7_beast (xs ((v3 + (1 : Int32))).toNatClampNeg) (xs ((v3 + (2 : Int32))).toNatClampNeg) μ274) (fun b288 μ288 =>
                if b274 = b288 then
                  pL_law_L18 xs N n (v3 + (4 : Int32)) μ288
                else
                none)
              else none
            else none)
          else none
        else none
      else
      if ((xs (v3).toNatClampNeg) &&& (31 : Int32)) = (6 : Int32) then
        if pb_in (v3 + (1 : Int32)) N then
          if pb_in (v3 + (2 : Int32)) N then
            pb_b (pX6_owes (xs ((v3 + (1 : Int32))).toNatClampNeg) (xs ((v3 + (2 : Int32))).toNatClampNeg) μ) (fun b307 μ307 =>
            if pb_in (v3 + (1 : Int32)) N then
              if pb_in (v3 + (2 : Int32)) N then
                pb_b (pX7_owes (xs ((v3 + (1 : Int32))).toNatClampNeg) (xs ((v3 + (2 : Int32))).toNatClampNeg) μ307) (fun b321 μ321 =>
                if b307 = b321 then
                  pL_law_L18 xs N n (v3 + (4 : Int32)) μ321
                else
                none)
              else none
            else none)
          else none
        else none
      else
      if ((xs (v3).toNatClampNeg) &&& (31 : Int32)) = (7 : Int32) then
        if pb_in (v3 + (1 : Int32)) N then
          if pb_in (v3 + (2 : Int32)) N then
            pb_b (pX6_drive (xs ((v3 + (1 : Int32))).toNatClampNeg) (xs ((v3 + (2 : Int32))).toNatClampNeg) μ) (fun b340 μ340 =>
            if pb_in (v3 + (1 : Int32)) N then
              if pb_in (v3 + (2 : Int32)) N then
                pb_b (pX7_drive (xs ((v3 + (1 : Int32))).toNatClampNeg) (xs ((v3 + (2 : Int32))).toNatClampNeg) μ340) (fun b354 μ354 =>
                if b340 = b354 then
                  pL_law_L18 xs N n (v3 + (4 : Int32)) μ354
                else
                none)
              else none
            else none)
          else none
        else none
      else
      if ((xs (v3).toNatClampNeg) &&& (31 : Int32)) = (8 : Int32) then
        pb_b (pX6_day μ) (fun b363 μ363 =>
        pb_b (pX7_day μ363) (fun b367 μ367 =>
        if b363 = b367 then
          pL_law_L18 xs N n (v3 + (4 : Int32)) μ367
        else
        none))
      else
      if ((xs (v3).toNatClampNeg) &&& (31 : Int32)) = (9 : Int32) then
        if pb_in (v3 + (1 : Int32)) N then
          if pb_in (v3 + (2 : Int32)) N then
            if pb_in (v3 + (3 : Int32)) N then
              pb_b (pX6_pay (xs ((v3 + (1 : Int32))).toNatClampNeg) (xs ((v3 + (2 : Int32))).toNatClampNeg) (xs ((v3 + (3 : Int32))).toNatClampNeg) μ) (fun b391 μ391 =>
              if pb_in (v3 + (1 : Int32)) N then
                if pb_in (v3 + (2 : Int32)) N then
                  if pb_in (v3 + (3 : Int32)) N then
                    pb_b (pX7_pay (xs ((v3 + (1 : Int32))).toNatClampNeg) (xs ((v3 + (2 : Int32))).toNatClampNeg) (xs ((v3 + (3 : Int32))).toNatClampNeg) μ391) (fun b410 μ410 =>
                    if b391 = b410 then
                      pL_law_L18 xs N n (v3 + (4 : Int32)) μ410
                    else
                    none)
                  else none
                else none
              else none)
            else none
          else none
        else none
      else
      if ((xs (v3).toNatClampNeg) &&& (31 : Int32)) = (10 : Int32) then
        if pb_in (v3 + (1 : Int32)) N then
          pb_b (pX6_breakOut (xs ((v3 + (1 : Int32))).toNatClampNeg) μ) (fun b424 μ424 =>
          if pb_in (v3 + (1 : Int32)) N then
            pb_b (pX7_breakOut (xs ((v3 + (1 : Int32))).toNatClampNeg) μ424) (fun b433 μ433 =>
            if b424 = b433 then
              pL_law_L18 xs N n (v3 + (4 : Int32)) μ433
            else
            none)
          else none)
        else none
      else
      if ((xs (v3).toNatClampNeg) &&& (31 : Int32)) = (11 : Int32) then
        if pb_in (v3 + (1 : Int32)) N then
          pb_b (pX6_forfeit (xs ((v3 + (1 : Int32))).toNatClampNeg) μ) (fun b447 μ447 =>
          if pb_in (v3 + (1 : Int32)) N then
            pb_b (pX7_forfeit (xs ((v3 + (1 : Int32))).toNatClampNeg) μ447) (fun b456 μ456 =>
            if b447 = b456 then
              pL_law_L18 xs N n (v3 + (4 : Int32)) μ456
            else
            none)
          else none)
        else none
      else
      if ((xs (v3).toNatClampNeg) &&& (31 : Int32)) = (12 : Int32) then
        pb_b (pX6_undo μ) (fun b465 μ465 =>
        pb_b (pX7_undo μ465) (fun b469 μ469 =>
        if b465 = b469 then
          pL_law_L18 xs N n (v3 + (4 : Int32)) μ469
        else
        none))
      else
      if ((xs (v3).toNatClampNeg) &&& (31 : Int32)) = (13 : Int32) then
        if pb_in (v3 + (1 : Int32)) N then
          if pb_in (v3 + (2 : Int32)) N then
            pb_b (pX6_clause (xs ((v3 + (1 : Int32))).toNatClampNeg) (xs ((v3 + (2 : Int32))).toNatClampNeg) μ) (fun b488 μ488 =>
            if pb_in (v3 + (1 : Int32)) N then
              if pb_in (v3 + (2 : Int32)) N then
                pb_b (pX7_clause (xs ((v3 + (1 : Int32))).toNatClampNeg) (xs ((v3 + (2 : Int32))).toNatClampNeg) μ488) (fun b502 μ502 =>
                if b488 = b502 then
                  pL_law_L18 xs N n (v3 + (4 : Int32)) μ502
                else
                none)
              else none
            else none)
          else none
        else none
      else
      if ((xs (v3).toNatClampNeg) &&& (31 : Int32)) = (14 : Int32) then
        if pb_in (v3 + (1 : Int32)) N then
          if pb_in (v3 + (2 : Int32)) N then
            pb_b (pX6_worth (xs ((v3 + (1 : Int32))).toNatClampNeg) (xs ((v3 + (2 : Int32))).toNatClampNeg) μ) (fun b521 μ521 =>
            if pb_in (v3 + (1 : Int32)) N then
              if pb_in (v3 + (2 : Int32)) N then
                pb_b (pX7_worth (xs ((v3 + (1 : Int32))).toNatClampNeg) (xs ((v3 + (2 : Int32))).toNatClampNeg) μ521) (fun b535 μ535 =>
                if b521 = b535 then
                  pL_law_L18 xs N n (v3 + (4 : Int32)) μ535
                else
                none)
              else none
            else none)
          else none
        else none
      else
      if ((xs (v3).toNatClampNeg) &&& (31 : Int32)) = (15 : Int32) then
        if pb_in (v3 + (1 : Int32)) N then
          if pb_in (v3 + (2 : Int32)) N then
            if pb_in (v3 + (3 : Int32)) N then
              if (xs ((v3 + (3 : Int32))).toNatClampNeg) = (0 : Int32) then
                pL_law_J567 xs N (pL_law_L18 xs N n) v3 (0 : Int32) (xs ((v3 + (2 : Int32))).toNatClampNeg) (xs ((v3 + (1 : Int32))).toNatClampNeg) μ
              else
              pL_law_J567 xs N (pL_law_L18 xs N n) v3 (1 : Int32) (xs ((v3 + (2 : Int32))).toNatClampNeg) (xs ((v3 + (1 : Int32))).toNatClampNeg) μ
            else none
          else none
        else none
      else
      if ((xs (v3).toNatClampNeg) &&& (31 : Int32)) = (16 : Int32) then
        if pb_in (v3 + (1 : Int32)) N then
          if (xs ((v3 + (1 : Int32))).toNatClampNeg) = (0 : Int32) then
            pL_law_J616 xs N (pL_law_L18 xs N n) v3 (0 : Int32) μ
          else
          pL_law_J616 xs N (pL_law_L18 xs N n) v3 (1 : Int32) μ
        else none
      else
      if ((xs (v3).toNatClampNeg) &&& (31 : Int32)) = (17 : Int32) then
        if pb_in (v3 + (1 : Int32)) N then
          if pb_in (v3 + (2 : Int32)) N then
            if (xs ((v3 + (2 : Int32))).toNatClampNeg) = (0 : Int32) then
              pL_law_J660 xs N (pL_law_L18 xs N n) v3 (0 : Int32) (xs ((v3 + (1 : Int32))).toNatClampNeg) μ
            else
            pL_law_J660 xs N (pL_law_L18 xs N n) v3 (1 : Int32) (xs ((v3 + (1 : Int32))).toNatClampNeg) μ
          else none
        else none
      else
      if ((xs (v3).toNatClampNeg) &&& (31 : Int32)) = (18 : Int32) then
        if pb_in (v3 + (1 : Int32)) N then
          pb_b (pX6_ring (xs ((v3 + (1 : Int32))).toNatClampNeg) μ) (fun b696 μ696 =>
          if pb_in (v3 + (1 : Int32)) N then
            pb_b (pX7_ring (xs ((v3 + (1 : Int32))).toNatClampNeg) μ696) (fun b705 μ705 =>
            if b696 = b705 then
              pL_law_L18 xs N n (v3 + (4 : Int32)) μ705
            else
            none)
          else none)
        else none
      else
      if ((xs (v3).toNatClampNeg) &&& (31 : Int32)) = (19 : Int32) then
        if pb_in (v3 + (1 : Int32)) N then
          pb_b (pX6_close (xs ((v3 + (1 : Int32))).toNatClampNeg) μ) (fun b719 μ719 =>
          if pb_in (v3 + (1 : Int32)) N then
            pb_b (pX7_close (xs ((v3 + (1 : Int32))).toNatClampNeg) μ719) (fun b728 μ728 =>
            if b719 = b728 then
              pL_law_L18 xs N n (v3 + (4 : Int32)) μ728
            else
            none)
          else none)
        else none
      else
      if ((xs (v3).toNatClampNeg) &&& (31 : Int32)) = (20 : Int32) then
        if pb_in (v3 + (1 : Int32)) N then
          if pb_in (v3 + (2 : Int32)) N then
            if pb_in (v3 + (3 : Int32)) N then
              pb_b (pX6_judge (xs ((v3 + (1 : Int32))).toNatClampNeg) ((((xs ((v3 + (2 : Int32))).toNatClampNeg)).toInt64 <<< (((32 : Int32)).toInt64 &&& 63)) ||| (((xs ((v3 + (3 : Int32))).toNatClampNeg)).toInt64 &&& (4294967295 : Int64))) μ) (fun b762 μ762 =>
              if pb_in (v3 + (1 : Int32)) N then
                if pb_in (v3 + (2 : Int32)) N then
                  if pb_in (v3 + (3 : Int32)) N then
                    pb_b (pX7_judge (xs ((v3 + (1 : Int32))).toNatClampNeg) ((((xs ((v3 + (2 : Int32))).toNatClampNeg)).toInt64 <<< (((32 : Int32)).toInt64 &&& 63)) ||| (((xs ((v3 + (3 : Int32))).toNatClampNeg)).toInt64 &&& (4294967295 : Int64))) μ762) (fun b791 μ791 =>
                    if b762 = b791 then
                      pL_law_L18 xs N n (v3 + (4 : Int32)) μ791
                    else
                    none)
                  else none
                else none
              else none)
            else none
          else none
        else none
      else
      if ((xs (v3).toNatClampNeg) &&& (31 : Int32)) = (21 : Int32) then
        if pb_in (v3 + (1 : Int32)) N then
          pb_b (pX6_who (xs ((v3 + (1 : Int32))).toNatClampNeg) μ) (fun b805 μ805 =>
          if pb_in (v3 + (1 : Int32)) N then
            pb_b (pX7_who (xs ((v3 + (1 : Int32))).toNatClampNeg) μ805) (fun b814 μ814 =>
            if b805 = b814 then
              pL_law_L18 xs N n (v3 + (4 : Int32)) μ814
            else
            none)
          else none)
        else none
      else
      if ((xs (v3).toNatClampNeg) &&& (31 : Int32)) = (22 : Int32) then
        if pb_in (v3 + (1 : Int32)) N then
          if pb_in (v3 + (2 : Int32)) N then
            pb_b (pX6_suspects (xs ((v3 + (1 : Int32))).toNatClampNeg) (xs ((v3 + (2 : Int32))).toNatClampNeg) μ) (fun b833 μ833 =>
            if pb_in (v3 + (1 : Int32)) N then
              if pb_in (v3 + (2 : Int32)) N then
                pb_b (pX7_suspects (xs ((v3 + (1 : Int32))).toNatClampNeg) (xs ((v3 + (2 : Int32))).toNatClampNeg) μ833) (fun b847 μ847 =>
                if b833 = b847 then
                  pL_law_L18 xs N n (v3 + (4 : Int32)) μ847
                else
                none)
              else none
            else none)
          else none
        else none
      else
      if ((xs (v3).toNatClampNeg) &&& (31 : Int32)) = (23 : Int32) then
        if pb_in (v3 + (1 : Int32)) N then
          if pb_in (v3 + (2 : Int32)) N then
            if pb_in (v3 + (3 : Int32)) N then
              pb_b (pX6_rests (xs ((v3 + (1 : Int32))).toNatClampNeg) (xs ((v3 + (2 : Int32))).toNatClampNeg) (xs ((v3 + (3 : Int32))).toNatClampNeg) μ) (fun b871 μ871 =>
              if pb_in (v3 + (1 : Int32)) N then
                if pb_in (v3 + (2 : Int32)) N then
                  if pb_in (v3 + (3 : Int32)) N then
                    pb_b (pX7_rests (xs ((v3 + (1 : Int32))).toNatClampNeg) (xs ((v3 + (2 : Int32))).toNatClampNeg) (xs ((v3 + (3 : Int32))).toNatClampNeg) μ871) (fun b890 μ890 =>
                    if b871 = b890 then
                      pL_law_L18 xs N n (v3 + (4 : Int32)) μ890
                    else
                    none)
                  else none
                else none
              else none)
            else none
          else none
        else none
      else
      if ((xs (v3).toNatClampNeg) &&& (31 : Int32)) = (24 : Int32) then
        if pb_in (v3 + (1 : Int32)) N then
          if pb_in (v3 + (2 : Int32)) N then
            if pb_in (v3 + (3 : Int32)) N then
              if (xs ((v3 + (3 : Int32))).toNatClampNeg) = (0 : Int32) then
                pL_law_J922 xs N (pL_law_L18 xs N n) v3 (0 : Int32) (xs ((v3 + (2 : Int32))).toNatClampNeg) (xs ((v3 + (1 : Int32))).toNatClampNeg) μ
              else
              pL_law_J922 xs N (pL_law_L18 xs N n) v3 (1 : Int32) (xs ((v3 + (2 : Int32))).toNatClampNeg) (xs ((v3 + (1 : Int32))).toNatClampNeg) μ
            else none
          else none
        else none
      else
      if ((xs (v3).toNatClampNeg) &&& (31 : Int32)) = (25 : Int32) then
        if pb_in (v3 + (1 : Int32)) N then
          if pb_in (v3 + (2 : Int32)) N then
            pb_b (pX6_seed ((((xs ((v3 + (1 : Int32))).toNatClampNeg)).toInt64 <<< (((32 : Int32)).toInt64 &&& 63)) ||| (((xs ((v3 + (2 : Int32))).toNatClampNeg)).toInt64 &&& (4294967295 : Int64))) μ) (fun b978 μ978 =>
            if pb_in (v3 + (1 : Int32)) N then
              if pb_in (v3 + (2 : Int32)) N then
                pb_b (pX7_seed ((((xs ((v3 + (1 : Int32))).toNatClampNeg)).toInt64 <<< (((32 : Int32)).toInt64 &&& 63)) ||| (((xs ((v3 + (2 : Int32))).toNatClampNeg)).toInt64 &&& (4294967295 : Int64))) μ978) (fun b1002 μ1002 =>
                if (lg_cmp b978 b1002) = (0 : Int32) then
                  pL_law_L18 xs N n (v3 + (4 : Int32)) μ1002
                else
                none)
              else none
            else none)
          else none
        else none
      else
      if ((xs (v3).toNatClampNeg) &&& (31 : Int32)) = (26 : Int32) then
        if pb_in (v3 + (1 : Int32)) N then
          pb_b (pX6_villages (xs ((v3 + (1 : Int32))).toNatClampNeg) μ) (fun b1017 μ1017 =>
          if pb_in (v3 + (1 : Int32)) N then
            pb_b (pX7_villages (xs ((v3 + (1 : Int32))).toNatClampNeg) μ1017) (fun b1026 μ1026 =>
            if b1017 = b1026 then
              pL_law_L18 xs N n (v3 + (4 : Int32)) μ1026
            else
            none)
          else none)
        else none
      else
      if ((xs (v3).toNatClampNeg) &&& (31 : Int32)) = (27 : Int32) then
        if pb_in (v3 + (1 : Int32)) N then
          pb_b (pX6_keep (xs ((v3 + (1 : Int32))).toNatClampNeg) μ) (fun b1040 μ1040 =>
          if pb_in (v3 + (1 : Int32)) N then
            pb_b (pX7_keep (xs ((v3 + (1 : Int32))).toNatClampNeg) μ1040) (fun b1049 μ1049 =>
            if b1040 = b1049 then
              pL_law_L18 xs N n (v3 + (4 : Int32)) μ1049
            else
            none)
          else none)
        else none
      else
      if ((xs (v3).toNatClampNeg) &&& (31 : Int32)) = (28 : Int32) then
        if pb_in (v3 + (1 : Int32)) N then
          pb_b (pX6_again (xs ((v3 + (1 : Int32))).toNatClampNeg) μ) (fun b1063 μ1063 =>
          if pb_in (v3 + (1 : Int32)) N then
            pb_b (pX7_again (xs ((v3 + (1 : Int32))).toNatClampNeg) μ1063) (fun b1072 μ1072 =>
            if b1063 = b1072 then
              pL_law_L18 xs N n (v3 + (4 : Int32)) μ1072
            else
            none)
          else none)
        else none
      else
      if ((xs (v3).toNatClampNeg) &&& (31 : Int32)) = (29 : Int32) then
        if pb_in (v3 + (1 : Int32)) N then
          pb_b (pX6_count (xs ((v3 + (1 : Int32))).toNatClampNeg) μ) (fun b1086 μ1086 =>
          if pb_in (v3 + (1 : Int32)) N then
            pb_b (pX7_count (xs ((v3 + (1 : Int32))).toNatClampNeg) μ1086) (fun b1095 μ1095 =>
            if b1086 = b1095 then
              pL_law_L18 xs N n (v3 + (4 : Int32)) μ1095
            else
            none)
          else none)
        else none
      else
      pL_law_L18 xs N n (v3 + (4 : Int32)) μ
    else none
/-- the law's own context: the script at b, N ints xs; the world lies behind all that was there -/
def pb_lawX (E : pb_E) (b N : Nat) (xs : Nat → Int32) (s : State) : Prop := va_X b N xs s s.heap ∧ b < s.heap.size ∧ ∀ q, pb_A E q → s.heap.size ≤ q
def pb_lawQ : State → Array Value → List Frame → Int32 → pb_M → State → Prop := fun s args below _ _ => lw_Z below args s
abbrev wL_law (b N : Nat) (xs : Nat → Int32) (l : Launch) (E : pb_E) := pb_RW l E room_1 RL code 4 ret (pb_lawX E b N xs) 30 2040 pb_lawQ
theorem pb_sld {α : Type} {l : Launch} {E : pb_E} {R : Room} {own : String} {cc : ByteArray} {mL : Nat} {ret : Option FieldType} {b N : Nat} {xs : Nat → Int32} {nc ns : Nat} {Qf : State → Array Value → List Frame → α → pb_M → State → Prop} {pc : Nat} {L : List (Option Value)} {S : List Value} {μ : pb_M} {o : Option (α × pb_M)} (q : Nat) {i : Int32} (hin : pb_in i N = true) (hdg : decode cc pc = .ok (.iaload, 1)) (hq : pc + 1 = q) (k : pb_RW l E R own cc mL ret (pb_lawX E b N xs) nc ns Qf q L (.int (xs i.toNatClampNeg) :: S) μ o) : pb_RW l E R own cc mL ret (pb_lawX E b N xs) nc ns Qf pc L (.int i :: .ref b :: S) μ o := by
  subst hq
  intro b1 μ' ho p e s m args below meth c H locs ls hA hP hS hl
  obtain ⟨h1, h2, h3⟩ := hA.2.2.2.2.2.2.2.2
  exact va_sld hA.1 hA.2.1 h1 h2 (fun z => absurd (h3 b z) (Nat.not_le.mpr h2)) hS (pb_in_vp hin) hdg (k b1 μ' ho p e s m args below meth c H locs ls hA hP hS hl)
theorem pb_slen {α : Type} {l : Launch} {E : pb_E} {R : Room} {own : String} {cc : ByteArray} {mL : Nat} {ret : Option FieldType} {b N : Nat} {xs : Nat → Int32} {nc ns : Nat} {Qf : State → Array Value → List Frame → α → pb_M → State → Prop} {pc : Nat} {L : List (Option Value)} {S : List Value} {μ : pb_M} {o : Option (α × pb_M)} (q : Nat) (hdg : decode cc pc = .ok (.arraylength, 1)) (hq : pc + 1 = q) (k : pb_RW l E R own cc mL ret (pb_lawX E b N xs) nc ns Qf q L (.int (Int32.ofNat N) :: S) μ o) : pb_RW l E R own cc mL ret (pb_lawX E b N xs) nc ns Qf pc L (.ref b :: S) μ o := by
  subst hq
  intro b1 μ' ho p e s m args below meth c H locs ls hA hP hS hl
  obtain ⟨h1, h2, h3⟩ := hA.2.2.2.2.2.2.2.2
  exact va_slen hA.1 hA.2.1 h1 h2 (fun z => absurd (h3 b z) (Nat.not_le.mpr h2)) hS hdg (k b1 μ' ho p e s m args below meth c H locs ls hA hP hS hl)
theorem pb_lawret {l : Launch} {E : pb_E} {b N : Nat} {xs : Nat → Int32} {pc : Nat} {L : List (Option Value)} {μ : pb_M} (hdg : decode code pc = .ok (.ireturn, 1)) : wL_law b N xs l E pc L [.int 1] μ (some ((1 : Int32), μ)) := by
  intro b1 μ' ho p e s m args below meth c H locs ls hA hP hS hl
  obtain ⟨h1, h2, h3⟩ := hA.2.2.2.2.2.2.2.2
  refine va_forget (fun q hq => h3 _ (hS.2.2 q hq)) ?_
  exact lw_retG hA.1 hA.2.1 hA.2.2.2.1 hA.2.2.2.2.2.1 hdg
set_option maxRecDepth 100000 in
set_option maxHeartbeats 4000000 in
theorem tL_law_J922 (l : Launch) (E : pb_E) (xs : Nat → Int32) (N : Nat) {b : Nat} {S18 : Int32 → pb_M → Option (Int32 × pb_M)} (hS18 : ∀ (w3 : Int32) (μ : pb_M), wL_law b N xs l E 18 [some (.ref b), some (.ref (E.2.1 0)), some (.ref (E.2.1 19)), some (.int w3)] [] μ (S18 w3 μ)) : ∀ (v3 : Int32) (s0 : Int32) (s1 : Int32) (s2 : Int32) (μ : pb_M), wL_law b N xs l E 922 [some (.ref b), some (.ref (E.2.1 0)), some (.ref (E.2.1 19)), some (.int v3)] [.int s0, .int s1, .int s2, .ref (E.2.1 0)] μ (pL_law_J922 xs N S18 v3 s0 s1 s2 μ) := by
  intro v3 s0 s1 s2 μ
  unfold pL_law_J922
  refine cl_X6_chance 925 ⟨by decide, by decide, by decide, by decide⟩ (Nat.le_of_ble_eq_true rfl) ml_L_119 dL_law_922 rfl (fun b922 μ922 => ?_)
  refine pb_aload_n 926 dL_law_925 rfl rfl rfl ?_
  refine pb_aload_n 927 dL_law_926 rfl rfl rfl ?_
  refine pb_iload_n 928 dL_law_927 rfl rfl rfl ?_
  refine pb_iconst 929 (v := 1) dL_law_928 rfl (by decide) ?_
  refine pb_iadd 930 dL_law_929 rfl ?_
  refine pb_guard (fun hin => pb_sld 931 hin dL_law_930 rfl ?_)
  refine pb_aload_n 932 dL_law_931 rfl rfl rfl ?_
  refine pb_iload_n 933 dL_law_932 rfl rfl rfl ?_
  refine pb_iconst 934 (v := 2) dL_law_933 rfl (by decide) ?_
  refine pb_iadd 935 dL_law_934 rfl ?_
  refine pb_guard (fun hin => pb_sld 936 hin dL_law_935 rfl ?_)
  refine pb_aload_n 937 dL_law_936 rfl rfl rfl ?_
  refine pb_iload_n 938 dL_law_937 rfl rfl rfl ?_
  refine pb_iconst 939 (v := 3) dL_law_938 rfl (by decide) ?_
  refine pb_iadd 940 dL_law_939 rfl ?_
  refine pb_guard (fun hin => pb_sld 941 hin dL_law_940 rfl ?_)
  refine pb_if_eq 944 (tgt := 948) dL_law_941 (by decide) rfl (fun _ => ?_) (fun _ => ?_)
  · refine pb_iconst 949 (v := 0) dL_law_948 rfl (by decide) ?_
    refine cl_X7_chance 952 ⟨by decide, by decide, by decide, by decide⟩ (Nat.le_of_ble_eq_true rfl) ml_L_122 dL_law_949 rfl (fun b949 μ949 => ?_)
    refine pb_icmp_eq 955 (tgt := 1103) dL_law_952 (by decide) rfl (fun _ => ?_) (fun _ => ?_)
    · refine pb_iinc 1106 (i := 3) (v := (v3 + (4 : Int32))) (L' := [some (.ref b), some (.ref (E.2.1 0)), some (.ref (E.2.1 19)), some (.int (v3 + (4 : Int32)))]) dL_law_1103 rfl rfl (by decide) rfl rfl rfl ?_
      refine pb_goto (tgt := 18) dL_law_1106 (by decide) ?_
      exact hS18 (v3 + (4 : Int32)) μ949
    · refine pb_iconst 956 (v := 0) dL_law_955 rfl (by decide) ?_
      exact pb_none
  · refine pb_iconst 945 (v := 1) dL_law_944 rfl (by decide) ?_
    refine pb_goto (tgt := 949) dL_law_945 (by decide) ?_
    refine cl_X7_chance 952 ⟨by decide, by decide, by decide, by decide⟩ (Nat.le_of_ble_eq_true rfl) ml_L_122 dL_law_949 rfl (fun b949 μ949 => ?_)
    refine pb_icmp_eq 955 (tgt := 1103) dL_law_952 (by decide) rfl (fun _ => ?_) (fun _ => ?_)
    · refine pb_iinc 1106 (i := 3) (v := (v3 + (4 : Int32))) (L' := [some (.ref b), some (.ref (E.2.1 0)), some (.ref (E.2.1 19)), some (.int (v3 + (4 : Int32)))]) dL_law_1103 rfl rfl (by decide) rfl rfl rfl ?_
      refine pb_goto (tgt := 18) dL_law_1106 (by decide) ?_
      exact hS18 (v3 + (4 : Int32)) μ949
    · refine pb_iconst 956 (v := 0) dL_law_955 rfl (by decide) ?_
      exact pb_none
set_option maxRecDepth 100000 in
set_option maxHeartbeats 4000000 in
theorem tL_law_J660 (l : Launch) (E : pb_E) (xs : Nat → Int32) (N : Nat) {b : Nat} {S18 : Int32 → pb_M → Option (Int32 × pb_M)} (hS18 : ∀ (w3 : Int32) (μ : pb_M), wL_law b N xs l E 18 [some (.ref b), some (.ref (E.2.1 0)), some (.ref (E.2.1 19)), some (.int w3)] [] μ (S18 w3 μ)) : ∀ (v3 : Int32) (s0 : Int32) (s1 : Int32) (μ : pb_M), wL_law b N xs l E 660 [some (.ref b), some (.ref (E.2.1 0)), some (.ref (E.2.1 19)), some (.int v3)] [.int s0, .int s1, .ref (E.2.1 0)] μ (pL_law_J660 xs N S18 v3 s0 s1 μ) := by
  intro v3 s0 s1 μ
  unfold pL_law_J660
  refine cl_X6_share 663 ⟨by decide, by decide, by decide, by decide⟩ (Nat.le_of_ble_eq_true rfl) ml_L_87 dL_law_660 rfl (fun b660 μ660 => ?_)
  refine pb_aload_n 664 dL_law_663 rfl rfl rfl ?_
  refine pb_aload_n 665 dL_law_664 rfl rfl rfl ?_
  refine pb_iload_n 666 dL_law_665 rfl rfl rfl ?_
  refine pb_iconst 667 (v := 1) dL_law_666 rfl (by decide) ?_
  refine pb_iadd 668 dL_law_667 rfl ?_
  refine pb_guard (fun hin => pb_sld 669 hin dL_law_668 rfl ?_)
  refine pb_aload_n 670 dL_law_669 rfl rfl rfl ?_
  refine pb_iload_n 671 dL_law_670 rfl rfl rfl ?_
  refine pb_iconst 672 (v := 2) dL_law_671 rfl (by decide) ?_
  refine pb_iadd 673 dL_law_672 rfl ?_
  refine pb_guard (fun hin => pb_sld 674 hin dL_law_673 rfl ?_)
  refine pb_if_eq 677 (tgt := 681) dL_law_674 (by decide) rfl (fun _ => ?_) (fun _ => ?_)
  · refine pb_iconst 682 (v := 0) dL_law_681 rfl (by decide) ?_
    refine cl_X7_share 685 ⟨by decide, by decide, by decide, by decide⟩ (Nat.le_of_ble_eq_true rfl) ml_L_91 dL_law_682 rfl (fun b682 μ682 => ?_)
    refine pb_icmp_eq 688 (tgt := 1103) dL_law_685 (by decide) rfl (fun _ => ?_) (fun _ => ?_)
    · refine pb_iinc 1106 (i := 3) (v := (v3 + (4 : Int32))) (L' := [some (.ref b), some (.ref (E.2.1 0)), some (.ref (E.2.1 19)), some (.int (v3 + (4 : Int32)))]) dL_law_1103 rfl rfl (by decide) rfl rfl rfl ?_
      refine pb_goto (tgt := 18) dL_law_1106 (by decide) ?_
      exact hS18 (v3 + (4 : Int32)) μ682
    · refine pb_iconst 689 (v := 0) dL_law_688 rfl (by decide) ?_
      exact pb_none
  · refine pb_iconst 678 (v := 1) dL_law_677 rfl (by decide) ?_
    refine pb_goto (tgt := 682) dL_law_678 (by decide) ?_
    refine cl_X7_share 685 ⟨by decide, by decide, by decide, by decide⟩ (Nat.le_of_ble_eq_true rfl) ml_L_91 dL_law_682 rfl (fun b682 μ682 => ?_)
    refine pb_icmp_eq 688 (tgt := 1103) dL_law_685 (by decide) rfl (fun _ => ?_) (fun _ => ?_)
    · refine pb_iinc 1106 (i := 3) (v := (v3 + (4 : Int32))) (L' := [some (.ref b), some (.ref (E.2.1 0)), some (.ref (E.2.1 19)), some (.int (v3 + (4 : Int32)))]) dL_law_1103 rfl rfl (by decide) rfl rfl rfl ?_
      refine pb_goto (tgt := 18) dL_law_1106 (by decide) ?_
      exact hS18 (v3 + (4 : Int32)) μ682
    · refine pb_iconst 689 (v := 0) dL_law_688 rfl (by decide) ?_
      exact pb_none
set_option maxRecDepth 100000 in
set_option maxHeartbeats 4000000 in
theorem tL_law_J616 (l : Launch) (E : pb_E) (xs : Nat → Int32) (N : Nat) {b : Nat} {S18 : Int32 → pb_M → Option (Int32 × pb_M)} (hS18 : ∀ (w3 : Int32) (μ : pb_M), wL_law b N xs l E 18 [some (.ref b), some (.ref (E.2.1 0)), some (.ref (E.2.1 19)), some (.int w3)] [] μ (S18 w3 μ)) : ∀ (v3 : Int32) (s0 : Int32) (μ : pb_M), wL_law b N xs l E 616 [some (.ref b), some (.ref (E.2.1 0)), some (.ref (E.2.1 19)), some (.int v3)] [.int s0, .ref (E.2.1 0)] μ (pL_law_J616 xs N S18 v3 s0 μ) := by
  intro v3 s0 μ
  unfold pL_law_J616
  refine cl_X6_each 619 ⟨by decide, by decide, by decide, by decide⟩ (Nat.le_of_ble_eq_true rfl) ml_L_82 dL_law_616 rfl (fun b616 μ616 => ?_)
  refine pb_aload_n 620 dL_law_619 rfl rfl rfl ?_
  refine pb_aload_n 621 dL_law_620 rfl rfl rfl ?_
  refine pb_iload_n 622 dL_law_621 rfl rfl rfl ?_
  refine pb_iconst 623 (v := 1) dL_law_622 rfl (by decide) ?_
  refine pb_iadd 624 dL_law_623 rfl ?_
  refine pb_guard (fun hin => pb_sld 625 hin dL_law_624 rfl ?_)
  refine pb_if_eq 628 (tgt := 632) dL_law_625 (by decide) rfl (fun _ => ?_) (fun _ => ?_)
  · refine pb_iconst 633 (v := 0) dL_law_632 rfl (by decide) ?_
    refine cl_X7_each 636 ⟨by decide, by decide, by decide, by decide⟩ (Nat.le_of_ble_eq_true rfl) ml_L_86 dL_law_633 rfl (fun b633 μ633 => ?_)
    refine pb_icmp_eq 639 (tgt := 1103) dL_law_636 (by decide) rfl (fun _ => ?_) (fun _ => ?_)
    · refine pb_iinc 1106 (i := 3) (v := (v3 + (4 : Int32))) (L' := [some (.ref b), some (.ref (E.2.1 0)), some (.ref (E.2.1 19)), some (.int (v3 + (4 : Int32)))]) dL_law_1103 rfl rfl (by decide) rfl rfl rfl ?_
      refine pb_goto (tgt := 18) dL_law_1106 (by decide) ?_
      exact hS18 (v3 + (4 : Int32)) μ633
    · refine pb_iconst 640 (v := 0) dL_law_639 rfl (by decide) ?_
      exact pb_none
  · refine pb_iconst 629 (v := 1) dL_law_628 rfl (by decide) ?_
    refine pb_goto (tgt := 633) dL_law_629 (by decide) ?_
    refine cl_X7_each 636 ⟨by decide, by decide, by decide, by decide⟩ (Nat.le_of_ble_eq_true rfl) ml_L_86 dL_law_633 rfl (fun b633 μ633 => ?_)
    refine pb_icmp_eq 639 (tgt := 1103) dL_law_636 (by decide) rfl (fun _ => ?_) (fun _ => ?_)
    · refine pb_iinc 1106 (i := 3) (v := (v3 + (4 : Int32))) (L' := [some (.ref b), some (.ref (E.2.1 0)), some (.ref (E.2.1 19)), some (.int (v3 + (4 : Int32)))]) dL_law_1103 rfl rfl (by decide) rfl rfl rfl ?_
      refine pb_goto (tgt := 18) dL_law_1106 (by decide) ?_
      exact hS18 (v3 + (4 : Int32)) μ633
    · refine pb_iconst 640 (v := 0) dL_law_639 rfl (by decide) ?_
      exact pb_none
set_option maxRecDepth 100000 in
set_option maxHeartbeats 4000000 in
theorem tL_law_J567 (l : Launch) (E : pb_E) (xs : Nat → Int32) (N : Nat) {b : Nat} {S18 : Int32 → pb_M → Option (Int32 × pb_M)} (hS18 : ∀ (w3 : Int32) (μ : pb_M), wL_law b N xs l E 18 [some (.ref b), some (.ref (E.2.1 0)), some (.ref (E.2.1 19)), some (.int w3)] [] μ (S18 w3 μ)) : ∀ (v3 : Int32) (s0 : Int32) (s1 : Int32) (s2 : Int32) (μ : pb_M), wL_law b N xs l E 567 [some (.ref b), some (.ref (E.2.1 0)), some (.ref (E.2.1 19)), some (.int v3)] [.int s0, .int s1, .int s2, .ref (E.2.1 0)] μ (pL_law_J567 xs N S18 v3 s0 s1 s2 μ) := by
  intro v3 s0 s1 s2 μ
  unfold pL_law_J567
  refine cl_X6_take 570 ⟨by decide, by decide, by decide, by decide⟩ (Nat.le_of_ble_eq_true rfl) ml_L_77 dL_law_567 rfl (fun b567 μ567 => ?_)
  refine pb_aload_n 571 dL_law_570 rfl rfl rfl ?_
  refine pb_aload_n 572 dL_law_571 rfl rfl rfl ?_
  refine pb_iload_n 573 dL_law_572 rfl rfl rfl ?_
  refine pb_iconst 574 (v := 1) dL_law_573 rfl (by decide) ?_
  refine pb_iadd 575 dL_law_574 rfl ?_
  refine pb_guard (fun hin => pb_sld 576 hin dL_law_575 rfl ?_)
  refine pb_aload_n 577 dL_law_576 rfl rfl rfl ?_
  refine pb_iload_n 578 dL_law_577 rfl rfl rfl ?_
  refine pb_iconst 579 (v := 2) dL_law_578 rfl (by decide) ?_
  refine pb_iadd 580 dL_law_579 rfl ?_
  refine pb_guard (fun hin => pb_sld 581 hin dL_law_580 rfl ?_)
  refine pb_aload_n 582 dL_law_581 rfl rfl rfl ?_
  refine pb_iload_n 583 dL_law_582 rfl rfl rfl ?_
  refine pb_iconst 584 (v := 3) dL_law_583 rfl (by decide) ?_
  refine pb_iadd 585 dL_law_584 rfl ?_
  refine pb_guard (fun hin => pb_sld 586 hin dL_law_585 rfl ?_)
  refine pb_if_eq 589 (tgt := 593) dL_law_586 (by decide) rfl (fun _ => ?_) (fun _ => ?_)
  · refine pb_iconst 594 (v := 0) dL_law_593 rfl (by decide) ?_
    refine cl_X7_take 597 ⟨by decide, by decide, by decide, by decide⟩ (Nat.le_of_ble_eq_true rfl) ml_L_81 dL_law_594 rfl (fun b594 μ594 => ?_)
    refine pb_icmp_eq 600 (tgt := 1103) dL_law_597 (by decide) rfl (fun _ => ?_) (fun _ => ?_)
    · refine pb_iinc 1106 (i := 3) (v := (v3 + (4 : Int32))) (L' := [some (.ref b), some (.ref (E.2.1 0)), some (.ref (E.2.1 19)), some (.int (v3 + (4 : Int32)))]) dL_law_1103 rfl rfl (by decide) rfl rfl rfl ?_
      refine pb_goto (tgt := 18) dL_law_1106 (by decide) ?_
      exact hS18 (v3 + (4 : Int32)) μ594
    · refine pb_iconst 601 (v := 0) dL_law_600 rfl (by decide) ?_
      exact pb_none
  · refine pb_iconst 590 (v := 1) dL_law_589 rfl (by decide) ?_
    refine pb_goto (tgt := 594) dL_law_590 (by decide) ?_
    refine cl_X7_take 597 ⟨by decide, by decide, by decide, by decide⟩ (Nat.le_of_ble_eq_true rfl) ml_L_81 dL_law_594 rfl (fun b594 μ594 => ?_)
    refine pb_icmp_eq 600 (tgt := 1103) dL_law_597 (by decide) rfl (fun _ => ?_) (fun _ => ?_)
    · refine pb_iinc 1106 (i := 3) (v := (v3 + (4 : Int32))) (L' := [some (.ref b), some (.ref (E.2.1 0)), some (.ref (E.2.1 19)), some (.int (v3 + (4 : Int32)))]) dL_law_1103 rfl rfl (by decide) rfl rfl rfl ?_
      refine pb_goto (tgt := 18) dL_law_1106 (by decide) ?_
      exact hS18 (v3 + (4 : Int32)) μ594
    · refine pb_iconst 601 (v := 0) dL_law_600 rfl (by decide) ?_
      exact pb_none
set_option maxRecDepth 100000 in
set_option maxHeartbeats 4000000 in
theorem tL_law_L18 (l : Launch) (E : pb_E) (xs : Nat → Int32) (N : Nat) {b : Nat}   : ∀ (n : Nat) (v3 : Int32) (μ : pb_M), wL_law b N xs l E 18 [some (.ref b), some (.ref (E.2.1 0)), some (.ref (E.2.1 19)), some (.int v3)] [] μ (pL_law_L18 xs N n v3 μ) := by
  intro n
  induction n with
  | zero => intro v3 μ; exact pb_none
  | succ n ih =>
    intro v3 μ
    rw [pL_law_L18]
    refine pb_iload_n 19 dL_law_18 rfl rfl rfl ?_
    refine pb_aload_n 20 dL_law_19 rfl rfl rfl ?_
    refine pb_slen 21 dL_law_20 rfl ?_
    refine pb_iconst 22 (v := 4) dL_law_21 rfl (by decide) ?_
    refine pb_isub 23 dL_law_22 rfl ?_
    refine pb_icmp_gt 26 (tgt := 1109) dL_law_23 (by decide) rfl (fun _ => ?_) (fun _ => ?_)
    · refine pb_iconst 1110 (v := 1) dL_law_1109 rfl (by decide) ?_
      exact pb_lawret dL_law_1110
    · refine pb_aload_n 27 dL_law_26 rfl rfl rfl ?_
      refine pb_iload_n 28 dL_law_27 rfl rfl rfl ?_
      refine pb_guard (fun hin => pb_sld 29 hin dL_law_28 rfl ?_)
      refine pb_bipush 31 (v := 31) dL_law_29 rfl (by decide) ?_
      refine pb_iand 32 dL_law_31 rfl ?_
      refine pb_ite (fun c0 => ?_) (fun c0 => ?_)
      · refine pb_tableK (tgt := 168) 0 c0 dL_law_32 (by decide) (by decide) (by rfl) (by decide) ?_
        refine pb_aload_n 169 dL_law_168 rfl rfl rfl ?_
        refine pb_aload_n 170 dL_law_169 rfl rfl rfl ?_
        refine pb_iload_n 171 dL_law_170 rfl rfl rfl ?_
        refine pb_iconst 172 (v := 1) dL_law_171 rfl (by decide) ?_
        refine pb_iadd 173 dL_law_172 rfl ?_
        refine pb_guard (fun hin => pb_sld 174 hin dL_law_173 rfl ?_)
        refine cl_X6_write 177 ⟨by decide, by decide, by decide, by decide⟩ (Nat.le_of_ble_eq_true rfl) ml_L_13 dL_law_174 rfl (fun b174 μ174 => ?_)
        refine pb_aload_n 178 dL_law_177 rfl rfl rfl ?_
        refine pb_aload_n 179 dL_law_178 rfl rfl rfl ?_
        refine pb_iload_n 180 dL_law_179 rfl rfl rfl ?_
        refine pb_iconst 181 (v := 1) dL_law_180 rfl (by decide) ?_
        refine pb_iadd 182 dL_law_181 rfl ?_
        refine pb_guard (fun hin => pb_sld 183 hin dL_law_182 rfl ?_)
        refine cl_X7_write 186 ⟨by decide, by decide, by decide, by decide⟩ (Nat.le_of_ble_eq_true rfl) ml_L_17 dL_law_183 rfl (fun b183 μ183 => ?_)
        refine pb_icmp_eq 189 (tgt := 1103) dL_law_186 (by decide) rfl (fun _ => ?_) (fun _ => ?_)
        · refine pb_iinc 1106 (i := 3) (v := (v3 + (4 : Int32))) (L' := [some (.ref b), some (.ref (E.2.1 0)), some (.ref (E.2.1 19)), some (.int (v3 + (4 : Int32)))]) dL_law_1103 rfl rfl (by decide) rfl rfl rfl ?_
          refine pb_goto (tgt := 18) dL_law_1106 (by decide) ?_
          exact ih (v3 + (4 : Int32)) μ183
        · refine pb_iconst 190 (v := 0) dL_law_189 rfl (by decide) ?_
          exact pb_none
      · refine pb_ite (fun c1 => ?_) (fun c1 => ?_)
        · refine pb_tableK (tgt := 191) 1 c1 dL_law_32 (by decide) (by decide) (by rfl) (by decide) ?_
          refine pb_aload_n 192 dL_law_191 rfl rfl rfl ?_
          refine cl_X6_wipe 195 ⟨by decide, by decide, by decide, by decide⟩ (Nat.le_of_ble_eq_true rfl) ml_L_18 dL_law_192 rfl (fun b192 μ192 => ?_)
          refine pb_aload_n 196 dL_law_195 rfl rfl rfl ?_
          refine cl_X7_wipe 199 ⟨by decide, by decide, by decide, by decide⟩ (Nat.le_of_ble_eq_true rfl) ml_L_22 dL_law_196 rfl (fun b196 μ196 => ?_)
          refine pb_icmp_eq 202 (tgt := 1103) dL_law_199 (by decide) rfl (fun _ => ?_) (fun _ => ?_)
          · refine pb_iinc 1106 (i := 3) (v := (v3 + (4 : Int32))) (L' := [some (.ref b), some (.ref (E.2.1 0)), some (.ref (E.2.1 19)), some (.int (v3 + (4 : Int32)))]) dL_law_1103 rfl rfl (by decide) rfl rfl rfl ?_
            refine pb_goto (tgt := 18) dL_law_1106 (by decide) ?_
            exact ih (v3 + (4 : Int32)) μ196
          · refine pb_iconst 203 (v := 0) dL_law_202 rfl (by decide) ?_
            exact pb_none
        · refine pb_ite (fun c2 => ?_) (fun c2 => ?_)
          · refine pb_tableK (tgt := 204) 2 c2 dL_law_32 (by decide) (by decide) (by rfl) (by decide) ?_
            refine pb_aload_n 205 dL_law_204 rfl rfl rfl ?_
            refine cl_X6_fault 208 ⟨by decide, by decide, by decide, by decide⟩ (Nat.le_of_ble_eq_true rfl) ml_L_23 dL_law_205 rfl (fun b205 μ205 => ?_)
            refine pb_aload_n 209 dL_law_208 rfl rfl rfl ?_
            refine cl_X7_fault 212 ⟨by decide, by decide, by decide, by decide⟩ (Nat.le_of_ble_eq_true rfl) ml_L_26 dL_law_209 rfl (fun b209 μ209 => ?_)
            refine pb_icmp_eq 215 (tgt := 1103) dL_law_212 (by decide) rfl (fun _ => ?_) (fun _ => ?_)
            · refine pb_iinc 1106 (i := 3) (v := (v3 + (4 : Int32))) (L' := [some (.ref b), some (.ref (E.2.1 0)), some (.ref (E.2.1 19)), some (.int (v3 + (4 : Int32)))]) dL_law_1103 rfl rfl (by decide) rfl rfl rfl ?_
              refine pb_goto (tgt := 18) dL_law_1106 (by decide) ?_
              exact ih (v3 + (4 : Int32)) μ209
            · refine pb_iconst 216 (v := 0) dL_law_215 rfl (by decide) ?_
              exact pb_none
          · refine pb_ite (fun c3 => ?_) (fun c3 => ?_)
            · refine pb_tableK (tgt := 217) 3 c3 dL_law_32 (by decide) (by decide) (by rfl) (by decide) ?_
              refine pb_aload_n 218 dL_law_217 rfl rfl rfl ?_
              refine cl_X6_village 221 ⟨by decide, by decide, by decide, by decide⟩ (Nat.le_of_ble_eq_true rfl) ml_L_27 dL_law_218 rfl (fun b218 μ218 => ?_)
              refine pb_aload_n 222 dL_law_221 rfl rfl rfl ?_
              refine cl_X7_village 225 ⟨by decide, by decide, by decide, by decide⟩ (Nat.le_of_ble_eq_true rfl) ml_L_30 dL_law_222 rfl (fun b222 μ222 => ?_)
              refine pb_icmp_eq 228 (tgt := 1103) dL_law_225 (by decide) rfl (fun _ => ?_) (fun _ => ?_)
              · refine pb_iinc 1106 (i := 3) (v := (v3 + (4 : Int32))) (L' := [some (.ref b), some (.ref (E.2.1 0)), some (.ref (E.2.1 19)), some (.int (v3 + (4 : Int32)))]) dL_law_1103 rfl rfl (by decide) rfl rfl rfl ?_
                refine pb_goto (tgt := 18) dL_law_1106 (by decide) ?_
                exact ih (v3 + (4 : Int32)) μ222
              · refine pb_iconst 229 (v := 0) dL_law_228 rfl (by decide) ?_
                exact pb_none
            · refine pb_ite (fun c4 => ?_) (fun c4 => ?_)
              · refine pb_tableK (tgt := 230) 4 c4 dL_law_32 (by decide) (by decide) (by rfl) (by decide) ?_
                refine pb_aload_n 231 dL_law_230 rfl rfl rfl ?_
                refine pb_aload_n 232 dL_law_231 rfl rfl rfl ?_
                refine pb_iload_n 233 dL_law_232 rfl rfl rfl ?_
                refine pb_iconst 234 (v := 1) dL_law_233 rfl (by decide) ?_
                refine pb_iadd 235 dL_law_234 rfl ?_
                refine pb_guard (fun hin => pb_sld 236 hin dL_law_235 rfl ?_)
                refine pb_aload_n 237 dL_law_236 rfl rfl rfl ?_
                refine pb_iload_n 238 dL_law_237 rfl rfl rfl ?_
                refine pb_iconst 239 (v := 2) dL_law_238 rfl (by decide) ?_
                refine pb_iadd 240 dL_law_239 rfl ?_
                refine pb_guard (fun hin => pb_sld 241 hin dL_law_240 rfl ?_)
                refine cl_X6_person 244 ⟨by decide, by decide, by decide, by decide⟩ (Nat.le_of_ble_eq_true rfl) ml_L_31 dL_law_241 rfl (fun b241 μ241 => ?_)
                refine pb_aload_n 245 dL_law_244 rfl rfl rfl ?_
                refine pb_aload_n 246 dL_law_245 rfl rfl rfl ?_
                refine pb_iload_n 247 dL_law_246 rfl rfl rfl ?_
                refine pb_iconst 248 (v := 1) dL_law_247 rfl (by decide) ?_
                refine pb_iadd 249 dL_law_248 rfl ?_
                refine pb_guard (fun hin => pb_sld 250 hin dL_law_249 rfl ?_)
                refine pb_aload_n 251 dL_law_250 rfl rfl rfl ?_
                refine pb_iload_n 252 dL_law_251 rfl rfl rfl ?_
                refine pb_iconst 253 (v := 2) dL_law_252 rfl (by decide) ?_
                refine pb_iadd 254 dL_law_253 rfl ?_
                refine pb_guard (fun hin => pb_sld 255 hin dL_law_254 rfl ?_)
                refine cl_X7_person 258 ⟨by decide, by decide, by decide, by decide⟩ (Nat.le_of_ble_eq_true rfl) ml_L_35 dL_law_255 rfl (fun b255 μ255 => ?_)
                refine pb_icmp_eq 261 (tgt := 1103) dL_law_258 (by decide) rfl (fun _ => ?_) (fun _ => ?_)
                · refine pb_iinc 1106 (i := 3) (v := (v3 + (4 : Int32))) (L' := [some (.ref b), some (.ref (E.2.1 0)), some (.ref (E.2.1 19)), some (.int (v3 + (4 : Int32)))]) dL_law_1103 rfl rfl (by decide) rfl rfl rfl ?_
                  refine pb_goto (tgt := 18) dL_law_1106 (by decide) ?_
                  exact ih (v3 + (4 : Int32)) μ255
                · refine pb_iconst 262 (v := 0) dL_law_261 rfl (by decide) ?_
                  exact pb_none
              · refine pb_ite (fun c5 => ?_) (fun c5 => ?_)
                · refine pb_tableK (tgt := 263) 5 c5 dL_law_32 (by decide) (by decide) (by rfl) (by decide) ?_
                  refine pb_aload_n 264 dL_law_263 rfl rfl rfl ?_
                  refine pb_aload_n 265 dL_law_264 rfl rfl rfl ?_
                  refine pb_iload_n 266 dL_law_265 rfl rfl rfl ?_
                  refine pb_iconst 267 (v := 1) dL_law_266 rfl (by decide) ?_
                  refine pb_iadd 268 dL_law_267 rfl ?_
                  refine pb_guard (fun hin => pb_sld 269 hin dL_law_268 rfl ?_)
                  refine pb_aload_n 270 dL_law_269 rfl rfl rfl ?_
                  refine pb_iload_n 271 dL_law_270 rfl rfl rfl ?_
                  refine pb_iconst 272 (v := 2) dL_law_271 rfl (by decide) ?_
                  refine pb_iadd 273 dL_law_272 rfl ?_
                  refine pb_guard (fun hin => pb_sld 274 hin dL_law_273 rfl ?_)
                  refine cl_X6_beast 277 ⟨by decide, by decide, by decide, by decide⟩ (Nat.le_of_ble_eq_true rfl) ml_L_36 dL_law_274 rfl (fun b274 μ274 => ?_)
                  refine pb_aload_n 278 dL_law_277 rfl rfl rfl ?_
                  refine pb_aload_n 279 dL_law_278 rfl rfl rfl ?_
                  refine pb_iload_n 280 dL_law_279 rfl rfl rfl ?_
                  refine pb_iconst 281 (v := 1) dL_law_280 rfl (by decide) ?_
                  refine pb_iadd 282 dL_law_281 rfl ?_
                  refine pb_guard (fun hin => pb_sld 283 hin dL_law_282 rfl ?_)
                  refine pb_aload_n 284 dL_law_283 rfl rfl rfl ?_
                  refine pb_iload_n 285 dL_law_284 rfl rfl rfl ?_
                  refine pb_iconst 286 (v := 2) dL_law_285 rfl (by decide) ?_
                  refine pb_iadd 287 dL_law_286 rfl ?_
                  refine pb_guard (fun hin => pb_sld 288 hin dL_law_287 rfl ?_)
                  refine cl_X7_beast 291 ⟨by decide, by decide, by decide, by decide⟩ (Nat.le_of_ble_eq_true rfl) ml_L_39 dL_law_288 rfl (fun b288 μ288 => ?_)
                  refine pb_icmp_eq 294 (tgt := 1103) dL_law_291 (by decide) rfl (fun _ => ?_) (fun _ => ?_)
                  · refine pb_iinc 1106 (i := 3) (v := (v3 + (4 : Int32))) (L' := [some (.ref b), some (.ref (E.2.1 0)), some (.ref (E.2.1 19)), some (.int (v3 + (4 : Int32)))]) dL_law_1103 rfl rfl (by decide) rfl rfl rfl ?_
                    refine pb_goto (tgt := 18) dL_law_1106 (by decide) ?_
                    exact ih (v3 + (4 : Int32)) μ288
                  · refine pb_iconst 295 (v := 0) dL_law_294 rfl (by decide) ?_
                    exact pb_none
                · refine pb_ite (fun c6 => ?_) (fun c6 => ?_)
                  · refine pb_tableK (tgt := 296) 6 c6 dL_law_32 (by decide) (by decide) (by rfl) (by decide) ?_
                    refine pb_aload_n 297 dL_law_296 rfl rfl rfl ?_
                    refine pb_aload_n 298 dL_law_297 rfl rfl rfl ?_
                    refine pb_iload_n 299 dL_law_298 rfl rfl rfl ?_
                    refine pb_iconst 300 (v := 1) dL_law_299 rfl (by decide) ?_
                    refine pb_iadd 301 dL_law_300 rfl ?_
                    refine pb_guard (fun hin => pb_sld 302 hin dL_law_301 rfl ?_)
                    refine pb_aload_n 303 dL_law_302 rfl rfl rfl ?_
                    refine pb_iload_n 304 dL_law_303 rfl rfl rfl ?_
                    refine pb_iconst 305 (v := 2) dL_law_304 rfl (by decide) ?_
                    refine pb_iadd 306 dL_law_305 rfl ?_
                    refine pb_guard (fun hin => pb_sld 307 hin dL_law_306 rfl ?_)
                    refine cl_X6_owes 310 ⟨by decide, by decide, by decide, by decide⟩ (Nat.le_of_ble_eq_true rfl) ml_L_40 dL_law_307 rfl (fun b307 μ307 => ?_)
                    refine pb_aload_n 311 dL_law_310 rfl rfl rfl ?_
                    refine pb_aload_n 312 dL_law_311 rfl rfl rfl ?_
                    refine pb_iload_n 313 dL_law_312 rfl rfl rfl ?_
                    refine pb_iconst 314 (v := 1) dL_law_313 rfl (by decide) ?_
                    refine pb_iadd 315 dL_law_314 rfl ?_
                    refine pb_guard (fun hin => pb_sld 316 hin dL_law_315 rfl ?_)
                    refine pb_aload_n 317 dL_law_316 rfl rfl rfl ?_
                    refine pb_iload_n 318 dL_law_317 rfl rfl rfl ?_
                    refine pb_iconst 319 (v := 2) dL_law_318 rfl (by decide) ?_
                    refine pb_iadd 320 dL_law_319 rfl ?_
                    refine pb_guard (fun hin => pb_sld 321 hin dL_law_320 rfl ?_)
                    refine cl_X7_owes 324 ⟨by decide, by decide, by decide, by decide⟩ (Nat.le_of_ble_eq_true rfl) ml_L_43 dL_law_321 rfl (fun b321 μ321 => ?_)
                    refine pb_icmp_eq 327 (tgt := 1103) dL_law_324 (by decide) rfl (fun _ => ?_) (fun _ => ?_)
                    · refine pb_iinc 1106 (i := 3) (v := (v3 + (4 : Int32))) (L' := [some (.ref b), some (.ref (E.2.1 0)), some (.ref (E.2.1 19)), some (.int (v3 + (4 : Int32)))]) dL_law_1103 rfl rfl (by decide) rfl rfl rfl ?_
                      refine pb_goto (tgt := 18) dL_law_1106 (by decide) ?_
                      exact ih (v3 + (4 : Int32)) μ321
                    · refine pb_iconst 328 (v := 0) dL_law_327 rfl (by decide) ?_
                      exact pb_none
                  · refine pb_ite (fun c7 => ?_) (fun c7 => ?_)
                    · refine pb_tableK (tgt := 329) 7 c7 dL_law_32 (by decide) (by decide) (by rfl) (by decide) ?_
                      refine pb_aload_n 330 dL_law_329 rfl rfl rfl ?_
                      refine pb_aload_n 331 dL_law_330 rfl rfl rfl ?_
                      refine pb_iload_n 332 dL_law_331 rfl rfl rfl ?_
                      refine pb_iconst 333 (v := 1) dL_law_332 rfl (by decide) ?_
                      refine pb_iadd 334 dL_law_333 rfl ?_
                      refine pb_guard (fun hin => pb_sld 335 hin dL_law_334 rfl ?_)
                      refine pb_aload_n 336 dL_law_335 rfl rfl rfl ?_
                      refine pb_iload_n 337 dL_law_336 rfl rfl rfl ?_
                      refine pb_iconst 338 (v := 2) dL_law_337 rfl (by decide) ?_
                      refine pb_iadd 339 dL_law_338 rfl ?_
                      refine pb_guard (fun hin => pb_sld 340 hin dL_law_339 rfl ?_)
                      refine cl_X6_drive 343 ⟨by decide, by decide, by decide, by decide⟩ (Nat.le_of_ble_eq_true rfl) ml_L_44 dL_law_340 rfl (fun b340 μ340 => ?_)
                      refine pb_aload_n 344 dL_law_343 rfl rfl rfl ?_
                      refine pb_aload_n 345 dL_law_344 rfl rfl rfl ?_
                      refine pb_iload_n 346 dL_law_345 rfl rfl rfl ?_
                      refine pb_iconst 347 (v := 1) dL_law_346 rfl (by decide) ?_
                      refine pb_iadd 348 dL_law_347 rfl ?_
                      refine pb_guard (fun hin => pb_sld 349 hin dL_law_348 rfl ?_)
                      refine pb_aload_n 350 dL_law_349 rfl rfl rfl ?_
                      refine pb_iload_n 351 dL_law_350 rfl rfl rfl ?_
                      refine pb_iconst 352 (v := 2) dL_law_351 rfl (by decide) ?_
                      refine pb_iadd 353 dL_law_352 rfl ?_
                      refine pb_guard (fun hin => pb_sld 354 hin dL_law_353 rfl ?_)
                      refine cl_X7_drive 357 ⟨by decide, by decide, by decide, by decide⟩ (Nat.le_of_ble_eq_true rfl) ml_L_47 dL_law_354 rfl (fun b354 μ354 => ?_)
                      refine pb_icmp_eq 360 (tgt := 1103) dL_law_357 (by decide) rfl (fun _ => ?_) (fun _ => ?_)
                      · refine pb_iinc 1106 (i := 3) (v := (v3 + (4 : Int32))) (L' := [some (.ref b), some (.ref (E.2.1 0)), some (.ref (E.2.1 19)), some (.int (v3 + (4 : Int32)))]) dL_law_1103 rfl rfl (by decide) rfl rfl rfl ?_
                        refine pb_goto (tgt := 18) dL_law_1106 (by decide) ?_
                        exact ih (v3 + (4 : Int32)) μ354
                      · refine pb_iconst 361 (v := 0) dL_law_360 rfl (by decide) ?_
                        exact pb_none
                    · refine pb_ite (fun c8 => ?_) (fun c8 => ?_)
                      · refine pb_tableK (tgt := 362) 8 c8 dL_law_32 (by decide) (by decide) (by rfl) (by decide) ?_
                        refine pb_aload_n 363 dL_law_362 rfl rfl rfl ?_
                        refine cl_X6_day 366 ⟨by decide, by decide, by decide, by decide⟩ (Nat.le_of_ble_eq_true rfl) ml_L_48 dL_law_363 rfl (fun b363 μ363 => ?_)
                        refine pb_aload_n 367 dL_law_366 rfl rfl rfl ?_
                        refine cl_X7_day 370 ⟨by decide, by decide, by decide, by decide⟩ (Nat.le_of_ble_eq_true rfl) ml_L_51 dL_law_367 rfl (fun b367 μ367 => ?_)
                        refine pb_icmp_eq 373 (tgt := 1103) dL_law_370 (by decide) rfl (fun _ => ?_) (fun _ => ?_)
                        · refine pb_iinc 1106 (i := 3) (v := (v3 + (4 : Int32))) (L' := [some (.ref b), some (.ref (E.2.1 0)), some (.ref (E.2.1 19)), some (.int (v3 + (4 : Int32)))]) dL_law_1103 rfl rfl (by decide) rfl rfl rfl ?_
                          refine pb_goto (tgt := 18) dL_law_1106 (by decide) ?_
                          exact ih (v3 + (4 : Int32)) μ367
                        · refine pb_iconst 374 (v := 0) dL_law_373 rfl (by decide) ?_
                          exact pb_none
                      · refine pb_ite (fun c9 => ?_) (fun c9 => ?_)
                        · refine pb_tableK (tgt := 375) 9 c9 dL_law_32 (by decide) (by decide) (by rfl) (by decide) ?_
                          refine pb_aload_n 376 dL_law_375 rfl rfl rfl ?_
                          refine pb_aload_n 377 dL_law_376 rfl rfl rfl ?_
                          refine pb_iload_n 378 dL_law_377 rfl rfl rfl ?_
                          refine pb_iconst 379 (v := 1) dL_law_378 rfl (by decide) ?_
                          refine pb_iadd 380 dL_law_379 rfl ?_
                          refine pb_guard (fun hin => pb_sld 381 hin dL_law_380 rfl ?_)
                          refine pb_aload_n 382 dL_law_381 rfl rfl rfl ?_
                          refine pb_iload_n 383 dL_law_382 rfl rfl rfl ?_
                          refine pb_iconst 384 (v := 2) dL_law_383 rfl (by decide) ?_
                          refine pb_iadd 385 dL_law_384 rfl ?_
                          refine pb_guard (fun hin => pb_sld 386 hin dL_law_385 rfl ?_)
                          refine pb_aload_n 387 dL_law_386 rfl rfl rfl ?_
                          refine pb_iload_n 388 dL_law_387 rfl rfl rfl ?_
                          refine pb_iconst 389 (v := 3) dL_law_388 rfl (by decide) ?_
                          refine pb_iadd 390 dL_law_389 rfl ?_
                          refine pb_guard (fun hin => pb_sld 391 hin dL_law_390 rfl ?_)
                          refine cl_X6_pay 394 ⟨by decide, by decide, by decide, by decide⟩ (Nat.le_of_ble_eq_true rfl) ml_L_52 dL_law_391 rfl (fun b391 μ391 => ?_)
                          refine pb_aload_n 395 dL_law_394 rfl rfl rfl ?_
                          refine pb_aload_n 396 dL_law_395 rfl rfl rfl ?_
                          refine pb_iload_n 397 dL_law_396 rfl rfl rfl ?_
                          refine pb_iconst 398 (v := 1) dL_law_397 rfl (by decide) ?_
                          refine pb_iadd 399 dL_law_398 rfl ?_
                          refine pb_guard (fun hin => pb_sld 400 hin dL_law_399 rfl ?_)
                          refine pb_aload_n 401 dL_law_400 rfl rfl rfl ?_
                          refine pb_iload_n 402 dL_law_401 rfl rfl rfl ?_
                          refine pb_iconst 403 (v := 2) dL_law_402 rfl (by decide) ?_
                          refine pb_iadd 404 dL_law_403 rfl ?_
                          refine pb_guard (fun hin => pb_sld 405 hin dL_law_404 rfl ?_)
                          refine pb_aload_n 406 dL_law_405 rfl rfl rfl ?_
                          refine pb_iload_n 407 dL_law_406 rfl rfl rfl ?_
                          refine pb_iconst 408 (v := 3) dL_law_407 rfl (by decide) ?_
                          refine pb_iadd 409 dL_law_408 rfl ?_
                          refine pb_guard (fun hin => pb_sld 410 hin dL_law_409 rfl ?_)
                          refine cl_X7_pay 413 ⟨by decide, by decide, by decide, by decide⟩ (Nat.le_of_ble_eq_true rfl) ml_L_56 dL_law_410 rfl (fun b410 μ410 => ?_)
                          refine pb_icmp_eq 416 (tgt := 1103) dL_law_413 (by decide) rfl (fun _ => ?_) (fun _ => ?_)
                          · refine pb_iinc 1106 (i := 3) (v := (v3 + (4 : Int32))) (L' := [some (.ref b), some (.ref (E.2.1 0)), some (.ref (E.2.1 19)), some (.int (v3 + (4 : Int32)))]) dL_law_1103 rfl rfl (by decide) rfl rfl rfl ?_
                            refine pb_goto (tgt := 18) dL_law_1106 (by decide) ?_
                            exact ih (v3 + (4 : Int32)) μ410
                          · refine pb_iconst 417 (v := 0) dL_law_416 rfl (by decide) ?_
                            exact pb_none
                        · refine pb_ite (fun c10 => ?_) (fun c10 => ?_)
                          · refine pb_tableK (tgt := 418) 10 c10 dL_law_32 (by decide) (by decide) (by rfl) (by decide) ?_
                            refine pb_aload_n 419 dL_law_418 rfl rfl rfl ?_
                            refine pb_aload_n 420 dL_law_419 rfl rfl rfl ?_
                            refine pb_iload_n 421 dL_law_420 rfl rfl rfl ?_
                            refine pb_iconst 422 (v := 1) dL_law_421 rfl (by decide) ?_
                            refine pb_iadd 423 dL_law_422 rfl ?_
                            refine pb_guard (fun hin => pb_sld 424 hin dL_law_423 rfl ?_)
                            refine cl_X6_breakOut 427 ⟨by decide, by decide, by decide, by decide⟩ (Nat.le_of_ble_eq_true rfl) ml_L_57 dL_law_424 rfl (fun b424 μ424 => ?_)
                            refine pb_aload_n 428 dL_law_427 rfl rfl rfl ?_
                            refine pb_aload_n 429 dL_law_428 rfl rfl rfl ?_
                            refine pb_iload_n 430 dL_law_429 rfl rfl rfl ?_
                            refine pb_iconst 431 (v := 1) dL_law_430 rfl (by decide) ?_
                            refine pb_iadd 432 dL_law_431 rfl ?_
                            refine pb_guard (fun hin => pb_sld 433 hin dL_law_432 rfl ?_)
                            refine cl_X7_breakOut 436 ⟨by decide, by decide, by decide, by decide⟩ (Nat.le_of_ble_eq_true rfl) ml_L_60 dL_law_433 rfl (fun b433 μ433 => ?_)
                            refine pb_icmp_eq 439 (tgt := 1103) dL_law_436 (by decide) rfl (fun _ => ?_) (fun _ => ?_)
                            · refine pb_iinc 1106 (i := 3) (v := (v3 + (4 : Int32))) (L' := [some (.ref b), some (.ref (E.2.1 0)), some (.ref (E.2.1 19)), some (.int (v3 + (4 : Int32)))]) dL_law_1103 rfl rfl (by decide) rfl rfl rfl ?_
                              refine pb_goto (tgt := 18) dL_law_1106 (by decide) ?_
                              exact ih (v3 + (4 : Int32)) μ433
                            · refine pb_iconst 440 (v := 0) dL_law_439 rfl (by decide) ?_
                              exact pb_none
                          · refine pb_ite (fun c11 => ?_) (fun c11 => ?_)
                            · refine pb_tableK (tgt := 441) 11 c11 dL_law_32 (by decide) (by decide) (by rfl) (by decide) ?_
                              refine pb_aload_n 442 dL_law_441 rfl rfl rfl ?_
                              refine pb_aload_n 443 dL_law_442 rfl rfl rfl ?_
                              refine pb_iload_n 444 dL_law_443 rfl rfl rfl ?_
                              refine pb_iconst 445 (v := 1) dL_law_444 rfl (by decide) ?_
                              refine pb_iadd 446 dL_law_445 rfl ?_
                              refine pb_guard (fun hin => pb_sld 447 hin dL_law_446 rfl ?_)
                              refine cl_X6_forfeit 450 ⟨by decide, by decide, by decide, by decide⟩ (Nat.le_of_ble_eq_true rfl) ml_L_61 dL_law_447 rfl (fun b447 μ447 => ?_)
                              refine pb_aload_n 451 dL_law_450 rfl rfl rfl ?_
                              refine pb_aload_n 452 dL_law_451 rfl rfl rfl ?_
                              refine pb_iload_n 453 dL_law_452 rfl rfl rfl ?_
                              refine pb_iconst 454 (v := 1) dL_law_453 rfl (by decide) ?_
                              refine pb_iadd 455 dL_law_454 rfl ?_
                              refine pb_guard (fun hin => pb_sld 456 hin dL_law_455 rfl ?_)
                              refine cl_X7_forfeit 459 ⟨by decide, by decide, by decide, by decide⟩ (Nat.le_of_ble_eq_true rfl) ml_L_64 dL_law_456 rfl (fun b456 μ456 => ?_)
                              refine pb_icmp_eq 462 (tgt := 1103) dL_law_459 (by decide) rfl (fun _ => ?_) (fun _ => ?_)
                              · refine pb_iinc 1106 (i := 3) (v := (v3 + (4 : Int32))) (L' := [some (.ref b), some (.ref (E.2.1 0)), some (.ref (E.2.1 19)), some (.int (v3 + (4 : Int32)))]) dL_law_1103 rfl rfl (by decide) rfl rfl rfl ?_
                                refine pb_goto (tgt := 18) dL_law_1106 (by decide) ?_
                                exact ih (v3 + (4 : Int32)) μ456
                              · refine pb_iconst 463 (v := 0) dL_law_462 rfl (by decide) ?_
                                exact pb_none
                            · refine pb_ite (fun c12 => ?_) (fun c12 => ?_)
                              · refine pb_tableK (tgt := 464) 12 c12 dL_law_32 (by decide) (by decide) (by rfl) (by decide) ?_
                                refine pb_aload_n 465 dL_law_464 rfl rfl rfl ?_
                                refine cl_X6_undo 468 ⟨by decide, by decide, by decide, by decide⟩ (Nat.le_of_ble_eq_true rfl) ml_L_65 dL_law_465 rfl (fun b465 μ465 => ?_)
                                refine pb_aload_n 469 dL_law_468 rfl rfl rfl ?_
                                refine cl_X7_undo 472 ⟨by decide, by decide, by decide, by decide⟩ (Nat.le_of_ble_eq_true rfl) ml_L_68 dL_law_469 rfl (fun b469 μ469 => ?_)
                                refine pb_icmp_eq 475 (tgt := 1103) dL_law_472 (by decide) rfl (fun _ => ?_) (fun _ => ?_)
                                · refine pb_iinc 1106 (i := 3) (v := (v3 + (4 : Int32))) (L' := [some (.ref b), some (.ref (E.2.1 0)), some (.ref (E.2.1 19)), some (.int (v3 + (4 : Int32)))]) dL_law_1103 rfl rfl (by decide) rfl rfl rfl ?_
                                  refine pb_goto (tgt := 18) dL_law_1106 (by decide) ?_
                                  exact ih (v3 + (4 : Int32)) μ469
                                · refine pb_iconst 476 (v := 0) dL_law_475 rfl (by decide) ?_
                                  exact pb_none
                              · refine pb_ite (fun c13 => ?_) (fun c13 => ?_)
                                · refine pb_tableK (tgt := 477) 13 c13 dL_law_32 (by decide) (by decide) (by rfl) (by decide) ?_
                                  refine pb_aload_n 478 dL_law_477 rfl rfl rfl ?_
                                  refine pb_aload_n 479 dL_law_478 rfl rfl rfl ?_
                                  refine pb_iload_n 480 dL_law_479 rfl rfl rfl ?_
                                  refine pb_iconst 481 (v := 1) dL_law_480 rfl (by decide) ?_
                                  refine pb_iadd 482 dL_law_481 rfl ?_
                                  refine pb_guard (fun hin => pb_sld 483 hin dL_law_482 rfl ?_)
                                  refine pb_aload_n 484 dL_law_483 rfl rfl rfl ?_
                                  refine pb_iload_n 485 dL_law_484 rfl rfl rfl ?_
                                  refine pb_iconst 486 (v := 2) dL_law_485 rfl (by decide) ?_
                                  refine pb_iadd 487 dL_law_486 rfl ?_
                                  refine pb_guard (fun hin => pb_sld 488 hin dL_law_487 rfl ?_)
                                  refine cl_X6_clause 491 ⟨by decide, by decide, by decide, by decide⟩ (Nat.le_of_ble_eq_true rfl) ml_L_69 dL_law_488 rfl (fun b488 μ488 => ?_)
                                  refine pb_aload_n 492 dL_law_491 rfl rfl rfl ?_
                                  refine pb_aload_n 493 dL_law_492 rfl rfl rfl ?_
                                  refine pb_iload_n 494 dL_law_493 rfl rfl rfl ?_
                                  refine pb_iconst 495 (v := 1) dL_law_494 rfl (by decide) ?_
                                  refine pb_iadd 496 dL_law_495 rfl ?_
                                  refine pb_guard (fun hin => pb_sld 497 hin dL_law_496 rfl ?_)
                                  refine pb_aload_n 498 dL_law_497 rfl rfl rfl ?_
                                  refine pb_iload_n 499 dL_law_498 rfl rfl rfl ?_
                                  refine pb_iconst 500 (v := 2) dL_law_499 rfl (by decide) ?_
                                  refine pb_iadd 501 dL_law_500 rfl ?_
                                  refine pb_guard (fun hin => pb_sld 502 hin dL_law_501 rfl ?_)
                                  refine cl_X7_clause 505 ⟨by decide, by decide, by decide, by decide⟩ (Nat.le_of_ble_eq_true rfl) ml_L_72 dL_law_502 rfl (fun b502 μ502 => ?_)
                                  refine pb_icmp_eq 508 (tgt := 1103) dL_law_505 (by decide) rfl (fun _ => ?_) (fun _ => ?_)
                                  · refine pb_iinc 1106 (i := 3) (v := (v3 + (4 : Int32))) (L' := [some (.ref b), some (.ref (E.2.1 0)), some (.ref (E.2.1 19)), some (.int (v3 + (4 : Int32)))]) dL_law_1103 rfl rfl (by decide) rfl rfl rfl ?_
                                    refine pb_goto (tgt := 18) dL_law_1106 (by decide) ?_
                                    exact ih (v3 + (4 : Int32)) μ502
                                  · refine pb_iconst 509 (v := 0) dL_law_508 rfl (by decide) ?_
                                    exact pb_none
                                · refine pb_ite (fun c14 => ?_) (fun c14 => ?_)
                                  · refine pb_tableK (tgt := 510) 14 c14 dL_law_32 (by decide) (by decide) (by rfl) (by decide) ?_
                                    refine pb_aload_n 511 dL_law_510 rfl rfl rfl ?_
                                    refine pb_aload_n 512 dL_law_511 rfl rfl rfl ?_
                                    refine pb_iload_n 513 dL_law_512 rfl rfl rfl ?_
                                    refine pb_iconst 514 (v := 1) dL_law_513 rfl (by decide) ?_
                                    refine pb_iadd 515 dL_law_514 rfl ?_
                                    refine pb_guard (fun hin => pb_sld 516 hin dL_law_515 rfl ?_)
                                    refine pb_aload_n 517 dL_law_516 rfl rfl rfl ?_
                                    refine pb_iload_n 518 dL_law_517 rfl rfl rfl ?_
                                    refine pb_iconst 519 (v := 2) dL_law_518 rfl (by decide) ?_
                                    refine pb_iadd 520 dL_law_519 rfl ?_
                                    refine pb_guard (fun hin => pb_sld 521 hin dL_law_520 rfl ?_)
                                    refine cl_X6_worth 524 ⟨by decide, by decide, by decide, by decide⟩ (Nat.le_of_ble_eq_true rfl) ml_L_73 dL_law_521 rfl (fun b521 μ521 => ?_)
                                    refine pb_aload_n 525 dL_law_524 rfl rfl rfl ?_
                                    refine pb_aload_n 526 dL_law_525 rfl rfl rfl ?_
                                    refine pb_iload_n 527 dL_law_526 rfl rfl rfl ?_
                                    refine pb_iconst 528 (v := 1) dL_law_527 rfl (by decide) ?_
                                    refine pb_iadd 529 dL_law_528 rfl ?_
                                    refine pb_guard (fun hin => pb_sld 530 hin dL_law_529 rfl ?_)
                                    refine pb_aload_n 531 dL_law_530 rfl rfl rfl ?_
                                    refine pb_iload_n 532 dL_law_531 rfl rfl rfl ?_
                                    refine pb_iconst 533 (v := 2) dL_law_532 rfl (by decide) ?_
                                    refine pb_iadd 534 dL_law_533 rfl ?_
                                    refine pb_guard (fun hin => pb_sld 535 hin dL_law_534 rfl ?_)
                                    refine cl_X7_worth 538 ⟨by decide, by decide, by decide, by decide⟩ (Nat.le_of_ble_eq_true rfl) ml_L_76 dL_law_535 rfl (fun b535 μ535 => ?_)
                                    refine pb_icmp_eq 541 (tgt := 1103) dL_law_538 (by decide) rfl (fun _ => ?_) (fun _ => ?_)
                                    · refine pb_iinc 1106 (i := 3) (v := (v3 + (4 : Int32))) (L' := [some (.ref b), some (.ref (E.2.1 0)), some (.ref (E.2.1 19)), some (.int (v3 + (4 : Int32)))]) dL_law_1103 rfl rfl (by decide) rfl rfl rfl ?_
                                      refine pb_goto (tgt := 18) dL_law_1106 (by decide) ?_
                                      exact ih (v3 + (4 : Int32)) μ535
                                    · refine pb_iconst 542 (v := 0) dL_law_541 rfl (by decide) ?_
                                      exact pb_none
                                  · refine pb_ite (fun c15 => ?_) (fun c15 => ?_)
                                    · refine pb_tableK (tgt := 543) 15 c15 dL_law_32 (by decide) (by decide) (by rfl) (by decide) ?_
                                      refine pb_aload_n 544 dL_law_543 rfl rfl rfl ?_
                                      refine pb_aload_n 545 dL_law_544 rfl rfl rfl ?_
                                      refine pb_iload_n 546 dL_law_545 rfl rfl rfl ?_
                                      refine pb_iconst 547 (v := 1) dL_law_546 rfl (by decide) ?_
                                      refine pb_iadd 548 dL_law_547 rfl ?_
                                      refine pb_guard (fun hin => pb_sld 549 hin dL_law_548 rfl ?_)
                                      refine pb_aload_n 550 dL_law_549 rfl rfl rfl ?_
                                      refine pb_iload_n 551 dL_law_550 rfl rfl rfl ?_
                                      refine pb_iconst 552 (v := 2) dL_law_551 rfl (by decide) ?_
                                      refine pb_iadd 553 dL_law_552 rfl ?_
                                      refine pb_guard (fun hin => pb_sld 554 hin dL_law_553 rfl ?_)
                                      refine pb_aload_n 555 dL_law_554 rfl rfl rfl ?_
                                      refine pb_iload_n 556 dL_law_555 rfl rfl rfl ?_
                                      refine pb_iconst 557 (v := 3) dL_law_556 rfl (by decide) ?_
                                      refine pb_iadd 558 dL_law_557 rfl ?_
                                      refine pb_guard (fun hin => pb_sld 559 hin dL_law_558 rfl ?_)
                                      refine pb_if_eq 562 (tgt := 566) dL_law_559 (by decide) rfl (fun _ => ?_) (fun _ => ?_)
                                      · refine pb_iconst 567 (v := 0) dL_law_566 rfl (by decide) ?_
                                        exact tL_law_J567 l E xs N ih v3 (0 : Int32) (xs ((v3 + (2 : Int32))).toNatClampNeg) (xs ((v3 + (1 : Int32))).toNatClampNeg) μ
                                      · refine pb_iconst 563 (v := 1) dL_law_562 rfl (by decide) ?_
                                        refine pb_goto (tgt := 567) dL_law_563 (by decide) ?_
                                        exact tL_law_J567 l E xs N ih v3 (1 : Int32) (xs ((v3 + (2 : Int32))).toNatClampNeg) (xs ((v3 + (1 : Int32))).toNatClampNeg) μ
                                    · refine pb_ite (fun c16 => ?_) (fun c16 => ?_)
                                      · refine pb_tableK (tgt := 602) 16 c16 dL_law_32 (by decide) (by decide) (by rfl) (by decide) ?_
                                        refine pb_aload_n 603 dL_law_602 rfl rfl rfl ?_
                                        refine pb_aload_n 604 dL_law_603 rfl rfl rfl ?_
                                        refine pb_iload_n 605 dL_law_604 rfl rfl rfl ?_
                                        refine pb_iconst 606 (v := 1) dL_law_605 rfl (by decide) ?_
                                        refine pb_iadd 607 dL_law_606 rfl ?_
                                        refine pb_guard (fun hin => pb_sld 608 hin dL_law_607 rfl ?_)
                                        refine pb_if_eq 611 (tgt := 615) dL_law_608 (by decide) rfl (fun _ => ?_) (fun _ => ?_)
                                        · refine pb_iconst 616 (v := 0) dL_law_615 rfl (by decide) ?_
                                          exact tL_law_J616 l E xs N ih v3 (0 : Int32) μ
                                        · refine pb_iconst 612 (v := 1) dL_law_611 rfl (by decide) ?_
                                          refine pb_goto (tgt := 616) dL_law_612 (by decide) ?_
                                          exact tL_law_J616 l E xs N ih v3 (1 : Int32) μ
                                      · refine pb_ite (fun c17 => ?_) (fun c17 => ?_)
                                        · refine pb_tableK (tgt := 641) 17 c17 dL_law_32 (by decide) (by decide) (by rfl) (by decide) ?_
                                          refine pb_aload_n 642 dL_law_641 rfl rfl rfl ?_
                                          refine pb_aload_n 643 dL_law_642 rfl rfl rfl ?_
                                          refine pb_iload_n 644 dL_law_643 rfl rfl rfl ?_
                                          refine pb_iconst 645 (v := 1) dL_law_644 rfl (by decide) ?_
                                          refine pb_iadd 646 dL_law_645 rfl ?_
                                          refine pb_guard (fun hin => pb_sld 647 hin dL_law_646 rfl ?_)
                                          refine pb_aload_n 648 dL_law_647 rfl rfl rfl ?_
                                          refine pb_iload_n 649 dL_law_648 rfl rfl rfl ?_
                                          refine pb_iconst 650 (v := 2) dL_law_649 rfl (by decide) ?_
                                          refine pb_iadd 651 dL_law_650 rfl ?_
                                          refine pb_guard (fun hin => pb_sld 652 hin dL_law_651 rfl ?_)
                                          refine pb_if_eq 655 (tgt := 659) dL_law_652 (by decide) rfl (fun _ => ?_) (fun _ => ?_)
                                          · refine pb_iconst 660 (v := 0) dL_law_659 rfl (by decide) ?_
                                            exact tL_law_J660 l E xs N ih v3 (0 : Int32) (xs ((v3 + (1 : Int32))).toNatClampNeg) μ
                                          · refine pb_iconst 656 (v := 1) dL_law_655 rfl (by decide) ?_
                                            refine pb_goto (tgt := 660) dL_law_656 (by decide) ?_
                                            exact tL_law_J660 l E xs N ih v3 (1 : Int32) (xs ((v3 + (1 : Int32))).toNatClampNeg) μ
                                        · refine pb_ite (fun c18 => ?_) (fun c18 => ?_)
                                          · refine pb_tableK (tgt := 690) 18 c18 dL_law_32 (by decide) (by decide) (by rfl) (by decide) ?_
                                            refine pb_aload_n 691 dL_law_690 rfl rfl rfl ?_
                                            refine pb_aload_n 692 dL_law_691 rfl rfl rfl ?_
                                            refine pb_iload_n 693 dL_law_692 rfl rfl rfl ?_
                                            refine pb_iconst 694 (v := 1) dL_law_693 rfl (by decide) ?_
                                            refine pb_iadd 695 dL_law_694 rfl ?_
                                            refine pb_guard (fun hin => pb_sld 696 hin dL_law_695 rfl ?_)
                                            refine cl_X6_ring 699 ⟨by decide, by decide, by decide, by decide⟩ (Nat.le_of_ble_eq_true rfl) ml_L_92 dL_law_696 rfl (fun b696 μ696 => ?_)
                                            refine pb_aload_n 700 dL_law_699 rfl rfl rfl ?_
                                            refine pb_aload_n 701 dL_law_700 rfl rfl rfl ?_
                                            refine pb_iload_n 702 dL_law_701 rfl rfl rfl ?_
                                            refine pb_iconst 703 (v := 1) dL_law_702 rfl (by decide) ?_
                                            refine pb_iadd 704 dL_law_703 rfl ?_
                                            refine pb_guard (fun hin => pb_sld 705 hin dL_law_704 rfl ?_)
                                            refine cl_X7_ring 708 ⟨by decide, by decide, by decide, by decide⟩ (Nat.le_of_ble_eq_true rfl) ml_L_95 dL_law_705 rfl (fun b705 μ705 => ?_)
                                            refine pb_icmp_eq 711 (tgt := 1103) dL_law_708 (by decide) rfl (fun _ => ?_) (fun _ => ?_)
                                            · refine pb_iinc 1106 (i := 3) (v := (v3 + (4 : Int32))) (L' := [some (.ref b), some (.ref (E.2.1 0)), some (.ref (E.2.1 19)), some (.int (v3 + (4 : Int32)))]) dL_law_1103 rfl rfl (by decide) rfl rfl rfl ?_
                                              refine pb_goto (tgt := 18) dL_law_1106 (by decide) ?_
                                              exact ih (v3 + (4 : Int32)) μ705
                                            · refine pb_iconst 712 (v := 0) dL_law_711 rfl (by decide) ?_
                                              exact pb_none
                                          · refine pb_ite (fun c19 => ?_) (fun c19 => ?_)
                                            · refine pb_tableK (tgt := 713) 19 c19 dL_law_32 (by decide) (by decide) (by rfl) (by decide) ?_
                                              refine pb_aload_n 714 dL_law_713 rfl rfl rfl ?_
                                              refine pb_aload_n 715 dL_law_714 rfl rfl rfl ?_
                                              refine pb_iload_n 716 dL_law_715 rfl rfl rfl ?_
                                              refine pb_iconst 717 (v := 1) dL_law_716 rfl (by decide) ?_
                                              refine pb_iadd 718 dL_law_717 rfl ?_
                                              refine pb_guard (fun hin => pb_sld 719 hin dL_law_718 rfl ?_)
                                              refine cl_X6_close 722 ⟨by decide, by decide, by decide, by decide⟩ (Nat.le_of_ble_eq_true rfl) ml_L_96 dL_law_719 rfl (fun b719 μ719 => ?_)
                                              refine pb_aload_n 723 dL_law_722 rfl rfl rfl ?_
                                              refine pb_aload_n 724 dL_law_723 rfl rfl rfl ?_
                                              refine pb_iload_n 725 dL_law_724 rfl rfl rfl ?_
                                              refine pb_iconst 726 (v := 1) dL_law_725 rfl (by decide) ?_
                                              refine pb_iadd 727 dL_law_726 rfl ?_
                                              refine pb_guard (fun hin => pb_sld 728 hin dL_law_727 rfl ?_)
                                              refine cl_X7_close 731 ⟨by decide, by decide, by decide, by decide⟩ (Nat.le_of_ble_eq_true rfl) ml_L_99 dL_law_728 rfl (fun b728 μ728 => ?_)
                                              refine pb_icmp_eq 734 (tgt := 1103) dL_law_731 (by decide) rfl (fun _ => ?_) (fun _ => ?_)
                                              · refine pb_iinc 1106 (i := 3) (v := (v3 + (4 : Int32))) (L' := [some (.ref b), some (.ref (E.2.1 0)), some (.ref (E.2.1 19)), some (.int (v3 + (4 : Int32)))]) dL_law_1103 rfl rfl (by decide) rfl rfl rfl ?_
                                                refine pb_goto (tgt := 18) dL_law_1106 (by decide) ?_
                                                exact ih (v3 + (4 : Int32)) μ728
                                              · refine pb_iconst 735 (v := 0) dL_law_734 rfl (by decide) ?_
                                                exact pb_none
                                            · refine pb_ite (fun c20 => ?_) (fun c20 => ?_)
                                              · refine pb_tableK (tgt := 736) 20 c20 dL_law_32 (by decide) (by decide) (by rfl) (by decide) ?_
                                                refine pb_aload_n 737 dL_law_736 rfl rfl rfl ?_
                                                refine pb_aload_n 738 dL_law_737 rfl rfl rfl ?_
                                                refine pb_iload_n 739 dL_law_738 rfl rfl rfl ?_
                                                refine pb_iconst 740 (v := 1) dL_law_739 rfl (by decide) ?_
                                                refine pb_iadd 741 dL_law_740 rfl ?_
                                                refine pb_guard (fun hin => pb_sld 742 hin dL_law_741 rfl ?_)
                                                refine pb_aload_n 743 dL_law_742 rfl rfl rfl ?_
                                                refine pb_iload_n 744 dL_law_743 rfl rfl rfl ?_
                                                refine pb_iconst 745 (v := 2) dL_law_744 rfl (by decide) ?_
                                                refine pb_iadd 746 dL_law_745 rfl ?_
                                                refine pb_guard (fun hin => pb_sld 747 hin dL_law_746 rfl ?_)
                                                refine pb_i2l 748 dL_law_747 rfl ?_
                                                refine pb_bipush 750 (v := 32) dL_law_748 rfl (by decide) ?_
                                                refine pb_lshl 751 dL_law_750 rfl ?_
                                                refine pb_aload_n 752 dL_law_751 rfl rfl rfl ?_
                                                refine pb_iload_n 753 dL_law_752 rfl rfl rfl ?_
                                                refine pb_iconst 754 (v := 3) dL_law_753 rfl (by decide) ?_
                                                refine pb_iadd 755 dL_law_754 rfl ?_
                                                refine pb_guard (fun hin => pb_sld 756 hin dL_law_755 rfl ?_)
                                                refine pb_i2l 757 dL_law_756 rfl ?_
                                                refine pb_ldc2 760 kc_L_100 dL_law_757 rfl ?_
                                                refine pb_land 761 dL_law_760 rfl ?_
                                                refine pb_lor 762 dL_law_761 rfl ?_
                                                refine cl_X6_judge 765 ⟨by decide, by decide, by decide, by decide⟩ (Nat.le_of_ble_eq_true rfl) ml_L_102 dL_law_762 rfl (fun b762 μ762 => ?_)
                                                refine pb_aload_n 766 dL_law_765 rfl rfl rfl ?_
                                                refine pb_aload_n 767 dL_law_766 rfl rfl rfl ?_
                                                refine pb_iload_n 768 dL_law_767 rfl rfl rfl ?_
                                                refine pb_iconst 769 (v := 1) dL_law_768 rfl (by decide) ?_
                                                refine pb_iadd 770 dL_law_769 rfl ?_
                                                refine pb_guard (fun hin => pb_sld 771 hin dL_law_770 rfl ?_)
                                                refine pb_aload_n 772 dL_law_771 rfl rfl rfl ?_
                                                refine pb_iload_n 773 dL_law_772 rfl rfl rfl ?_
                                                refine pb_iconst 774 (v := 2) dL_law_773 rfl (by decide) ?_
                                                refine pb_iadd 775 dL_law_774 rfl ?_
                                                refine pb_guard (fun hin => pb_sld 776 hin dL_law_775 rfl ?_)
                                                refine pb_i2l 777 dL_law_776 rfl ?_
                                                refine pb_bipush 779 (v := 32) dL_law_777 rfl (by decide) ?_
                                                refine pb_lshl 780 dL_law_779 rfl ?_
                                                refine pb_aload_n 781 dL_law_780 rfl rfl rfl ?_
                                                refine pb_iload_n 782 dL_law_781 rfl rfl rfl ?_
                                                refine pb_iconst 783 (v := 3) dL_law_782 rfl (by decide) ?_
                                                refine pb_iadd 784 dL_law_783 rfl ?_
                                                refine pb_guard (fun hin => pb_sld 785 hin dL_law_784 rfl ?_)
                                                refine pb_i2l 786 dL_law_785 rfl ?_
                                                refine pb_ldc2 789 kc_L_100 dL_law_786 rfl ?_
                                                refine pb_land 790 dL_law_789 rfl ?_
                                                refine pb_lor 791 dL_law_790 rfl ?_
                                                refine cl_X7_judge 794 ⟨by decide, by decide, by decide, by decide⟩ (Nat.le_of_ble_eq_true rfl) ml_L_106 dL_law_791 rfl (fun b791 μ791 => ?_)
                                                refine pb_icmp_eq 797 (tgt := 1103) dL_law_794 (by decide) rfl (fun _ => ?_) (fun _ => ?_)
                                                · refine pb_iinc 1106 (i := 3) (v := (v3 + (4 : Int32))) (L' := [some (.ref b), some (.ref (E.2.1 0)), some (.ref (E.2.1 19)), some (.int (v3 + (4 : Int32)))]) dL_law_1103 rfl rfl (by decide) rfl rfl rfl ?_
                                                  refine pb_goto (tgt := 18) dL_law_1106 (by decide) ?_
                                                  exact ih (v3 + (4 : Int32)) μ791
                                                · refine pb_iconst 798 (v := 0) dL_law_797 rfl (by decide) ?_
                                                  exact pb_none
                                              · refine pb_ite (fun c21 => ?_) (fun c21 => ?_)
                                                · refine pb_tableK (tgt := 799) 21 c21 dL_law_32 (by decide) (by decide) (by rfl) (by decide) ?_
                                                  refine pb_aload_n 800 dL_law_799 rfl rfl rfl ?_
                                                  refine pb_aload_n 801 dL_law_800 rfl rfl rfl ?_
                                                  refine pb_iload_n 802 dL_law_801 rfl rfl rfl ?_
                                                  refine pb_iconst 803 (v := 1) dL_law_802 rfl (by decide) ?_
                                                  refine pb_iadd 804 dL_law_803 rfl ?_
                                                  refine pb_guard (fun hin => pb_sld 805 hin dL_law_804 rfl ?_)
                                                  refine cl_X6_who 808 ⟨by decide, by decide, by decide, by decide⟩ (Nat.le_of_ble_eq_true rfl) ml_L_107 dL_law_805 rfl (fun b805 μ805 => ?_)
                                                  refine pb_aload_n 809 dL_law_808 rfl rfl rfl ?_
                                                  refine pb_aload_n 810 dL_law_809 rfl rfl rfl ?_
                                                  refine pb_iload_n 811 dL_law_810 rfl rfl rfl ?_
                                                  refine pb_iconst 812 (v := 1) dL_law_811 rfl (by decide) ?_
                                                  refine pb_iadd 813 dL_law_812 rfl ?_
                                                  refine pb_guard (fun hin => pb_sld 814 hin dL_law_813 rfl ?_)
                                                  refine cl_X7_who 817 ⟨by decide, by decide, by decide, by decide⟩ (Nat.le_of_ble_eq_true rfl) ml_L_110 dL_law_814 rfl (fun b814 μ814 => ?_)
                                                  refine pb_icmp_eq 820 (tgt := 1103) dL_law_817 (by decide) rfl (fun _ => ?_) (fun _ => ?_)
                                                  · refine pb_iinc 1106 (i := 3) (v := (v3 + (4 : Int32))) (L' := [some (.ref b), some (.ref (E.2.1 0)), some (.ref (E.2.1 19)), some (.int (v3 + (4 : Int32)))]) dL_law_1103 rfl rfl (by decide) rfl rfl rfl ?_
                                                    refine pb_goto (tgt := 18) dL_law_1106 (by decide) ?_
                                                    exact ih (v3 + (4 : Int32)) μ814
                                                  · refine pb_iconst 821 (v := 0) dL_law_820 rfl (by decide) ?_
                                                    exact pb_none
                                                · refine pb_ite (fun c22 => ?_) (fun c22 => ?_)
                                                  · refine pb_tableK (tgt := 822) 22 c22 dL_law_32 (by decide) (by decide) (by rfl) (by decide) ?_
                                                    refine pb_aload_n 823 dL_law_822 rfl rfl rfl ?_
                                                    refine pb_aload_n 824 dL_law_823 rfl rfl rfl ?_
                                                    refine pb_iload_n 825 dL_law_824 rfl rfl rfl ?_
                                                    refine pb_iconst 826 (v := 1) dL_law_825 rfl (by decide) ?_
                                                    refine pb_iadd 827 dL_law_826 rfl ?_
                                                    refine pb_guard (fun hin => pb_sld 828 hin dL_law_827 rfl ?_)
                                                    refine pb_aload_n 829 dL_law_828 rfl rfl rfl ?_
                                                    refine pb_iload_n 830 dL_law_829 rfl rfl rfl ?_
                                                    refine pb_iconst 831 (v := 2) dL_law_830 rfl (by decide) ?_
                                                    refine pb_iadd 832 dL_law_831 rfl ?_
                                                    refine pb_guard (fun hin => pb_sld 833 hin dL_law_832 rfl ?_)
                                                    refine cl_X6_suspects 836 ⟨by decide, by decide, by decide, by decide⟩ (Nat.le_of_ble_eq_true rfl) ml_L_111 dL_law_833 rfl (fun b833 μ833 => ?_)
                                                    refine pb_aload_n 837 dL_law_836 rfl rfl rfl ?_
                                                    refine pb_aload_n 838 dL_law_837 rfl rfl rfl ?_
                                                    refine pb_iload_n 839 dL_law_838 rfl rfl rfl ?_
                                                    refine pb_iconst 840 (v := 1) dL_law_839 rfl (by decide) ?_
                                                    refine pb_iadd 841 dL_law_840 rfl ?_
                                                    refine pb_guard (fun hin => pb_sld 842 hin dL_law_841 rfl ?_)
                                                    refine pb_aload_n 843 dL_law_842 rfl rfl rfl ?_
                                                    refine pb_iload_n 844 dL_law_843 rfl rfl rfl ?_
                                                    refine pb_iconst 845 (v := 2) dL_law_844 rfl (by decide) ?_
                                                    refine pb_iadd 846 dL_law_845 rfl ?_
                                                    refine pb_guard (fun hin => pb_sld 847 hin dL_law_846 rfl ?_)
                                                    refine cl_X7_suspects 850 ⟨by decide, by decide, by decide, by decide⟩ (Nat.le_of_ble_eq_true rfl) ml_L_114 dL_law_847 rfl (fun b847 μ847 => ?_)
                                                    refine pb_icmp_eq 853 (tgt := 1103) dL_law_850 (by decide) rfl (fun _ => ?_) (fun _ => ?_)
                                                    · refine pb_iinc 1106 (i := 3) (v := (v3 + (4 : Int32))) (L' := [some (.ref b), some (.ref (E.2.1 0)), some (.ref (E.2.1 19)), some (.int (v3 + (4 : Int32)))]) dL_law_1103 rfl rfl (by decide) rfl rfl rfl ?_
                                                      refine pb_goto (tgt := 18) dL_law_1106 (by decide) ?_
                                                      exact ih (v3 + (4 : Int32)) μ847
                                                    · refine pb_iconst 854 (v := 0) dL_law_853 rfl (by decide) ?_
                                                      exact pb_none
                                                  · refine pb_ite (fun c23 => ?_) (fun c23 => ?_)
                                                    · refine pb_tableK (tgt := 855) 23 c23 dL_law_32 (by decide) (by decide) (by rfl) (by decide) ?_
                                                      refine pb_aload_n 856 dL_law_855 rfl rfl rfl ?_
                                                      refine pb_aload_n 857 dL_law_856 rfl rfl rfl ?_
                                                      refine pb_iload_n 858 dL_law_857 rfl rfl rfl ?_
                                                      refine pb_iconst 859 (v := 1) dL_law_858 rfl (by decide) ?_
                                                      refine pb_iadd 860 dL_law_859 rfl ?_
                                                      refine pb_guard (fun hin => pb_sld 861 hin dL_law_860 rfl ?_)
                                                      refine pb_aload_n 862 dL_law_861 rfl rfl rfl ?_
                                                      refine pb_iload_n 863 dL_law_862 rfl rfl rfl ?_
                                                      refine pb_iconst 864 (v := 2) dL_law_863 rfl (by decide) ?_
                                                      refine pb_iadd 865 dL_law_864 rfl ?_
                                                      refine pb_guard (fun hin => pb_sld 866 hin dL_law_865 rfl ?_)
                                                      refine pb_aload_n 867 dL_law_866 rfl rfl rfl ?_
                                                      refine pb_iload_n 868 dL_law_867 rfl rfl rfl ?_
                                                      refine pb_iconst 869 (v := 3) dL_law_868 rfl (by decide) ?_
                                                      refine pb_iadd 870 dL_law_869 rfl ?_
                                                      refine pb_guard (fun hin => pb_sld 871 hin dL_law_870 rfl ?_)
                                                      refine cl_X6_rests 874 ⟨by decide, by decide, by decide, by decide⟩ (Nat.le_of_ble_eq_true rfl) ml_L_115 dL_law_871 rfl (fun b871 μ871 => ?_)
                                                      refine pb_aload_n 875 dL_law_874 rfl rfl rfl ?_
                                                      refine pb_aload_n 876 dL_law_875 rfl rfl rfl ?_
                                                      refine pb_iload_n 877 dL_law_876 rfl rfl rfl ?_
                                                      refine pb_iconst 878 (v := 1) dL_law_877 rfl (by decide) ?_
                                                      refine pb_iadd 879 dL_law_878 rfl ?_
                                                      refine pb_guard (fun hin => pb_sld 880 hin dL_law_879 rfl ?_)
                                                      refine pb_aload_n 881 dL_law_880 rfl rfl rfl ?_
                                                      refine pb_iload_n 882 dL_law_881 rfl rfl rfl ?_
                                                      refine pb_iconst 883 (v := 2) dL_law_882 rfl (by decide) ?_
                                                      refine pb_iadd 884 dL_law_883 rfl ?_
                                                      refine pb_guard (fun hin => pb_sld 885 hin dL_law_884 rfl ?_)
                                                      refine pb_aload_n 886 dL_law_885 rfl rfl rfl ?_
                                                      refine pb_iload_n 887 dL_law_886 rfl rfl rfl ?_
                                                      refine pb_iconst 888 (v := 3) dL_law_887 rfl (by decide) ?_
                                                      refine pb_iadd 889 dL_law_888 rfl ?_
                                                      refine pb_guard (fun hin => pb_sld 890 hin dL_law_889 rfl ?_)
                                                      refine cl_X7_rests 893 ⟨by decide, by decide, by decide, by decide⟩ (Nat.le_of_ble_eq_true rfl) ml_L_118 dL_law_890 rfl (fun b890 μ890 => ?_)
                                                      refine pb_icmp_eq 896 (tgt := 1103) dL_law_893 (by decide) rfl (fun _ => ?_) (fun _ => ?_)
                                                      · refine pb_iinc 1106 (i := 3) (v := (v3 + (4 : Int32))) (L' := [some (.ref b), some (.ref (E.2.1 0)), some (.ref (E.2.1 19)), some (.int (v3 + (4 : Int32)))]) dL_law_1103 rfl rfl (by decide) rfl rfl rfl ?_
                                                        refine pb_goto (tgt := 18) dL_law_1106 (by decide) ?_
                                                        exact ih (v3 + (4 : Int32)) μ890
                                                      · refine pb_iconst 897 (v := 0) dL_law_896 rfl (by decide) ?_
                                                        exact pb_none
                                                    · refine pb_ite (fun c24 => ?_) (fun c24 => ?_)
                                                      · refine pb_tableK (tgt := 898) 24 c24 dL_law_32 (by decide) (by decide) (by rfl) (by decide) ?_
                                                        refine pb_aload_n 899 dL_law_898 rfl rfl rfl ?_
                                                        refine pb_aload_n 900 dL_law_899 rfl rfl rfl ?_
                                                        refine pb_iload_n 901 dL_law_900 rfl rfl rfl ?_
                                                        refine pb_iconst 902 (v := 1) dL_law_901 rfl (by decide) ?_
                                                        refine pb_iadd 903 dL_law_902 rfl ?_
                                                        refine pb_guard (fun hin => pb_sld 904 hin dL_law_903 rfl ?_)
                                                        refine pb_aload_n 905 dL_law_904 rfl rfl rfl ?_
                                                        refine pb_iload_n 906 dL_law_905 rfl rfl rfl ?_
                                                        refine pb_iconst 907 (v := 2) dL_law_906 rfl (by decide) ?_
                                                        refine pb_iadd 908 dL_law_907 rfl ?_
                                                        refine pb_guard (fun hin => pb_sld 909 hin dL_law_908 rfl ?_)
                                                        refine pb_aload_n 910 dL_law_909 rfl rfl rfl ?_
                                                        refine pb_iload_n 911 dL_law_910 rfl rfl rfl ?_
                                                        refine pb_iconst 912 (v := 3) dL_law_911 rfl (by decide) ?_
                                                        refine pb_iadd 913 dL_law_912 rfl ?_
                                                        refine pb_guard (fun hin => pb_sld 914 hin dL_law_913 rfl ?_)
                                                        refine pb_if_eq 917 (tgt := 921) dL_law_914 (by decide) rfl (fun _ => ?_) (fun _ => ?_)
                                                        · refine pb_iconst 922 (v := 0) dL_law_921 rfl (by decide) ?_
                                                          exact tL_law_J922 l E xs N ih v3 (0 : Int32) (xs ((v3 + (2 : Int32))).toNatClampNeg) (xs ((v3 + (1 : Int32))).toNatClampNeg) μ
                                                        · refine pb_iconst 918 (v := 1) dL_law_917 rfl (by decide) ?_
                                                          refine pb_goto (tgt := 922) dL_law_918 (by decide) ?_
                                                          exact tL_law_J922 l E xs N ih v3 (1 : Int32) (xs ((v3 + (2 : Int32))).toNatClampNeg) (xs ((v3 + (1 : Int32))).toNatClampNeg) μ
                                                      · refine pb_ite (fun c25 => ?_) (fun c25 => ?_)
                                                        · refine pb_tableK (tgt := 957) 25 c25 dL_law_32 (by decide) (by decide) (by rfl) (by decide) ?_
                                                          refine pb_aload_n 958 dL_law_957 rfl rfl rfl ?_
                                                          refine pb_aload_n 959 dL_law_958 rfl rfl rfl ?_
                                                          refine pb_iload_n 960 dL_law_959 rfl rfl rfl ?_
                                                          refine pb_iconst 961 (v := 1) dL_law_960 rfl (by decide) ?_
                                                          refine pb_iadd 962 dL_law_961 rfl ?_
                                                          refine pb_guard (fun hin => pb_sld 963 hin dL_law_962 rfl ?_)
                                                          refine pb_i2l 964 dL_law_963 rfl ?_
                                                          refine pb_bipush 966 (v := 32) dL_law_964 rfl (by decide) ?_
                                                          refine pb_lshl 967 dL_law_966 rfl ?_
                                                          refine pb_aload_n 968 dL_law_967 rfl rfl rfl ?_
                                                          refine pb_iload_n 969 dL_law_968 rfl rfl rfl ?_
                                                          refine pb_iconst 970 (v := 2) dL_law_969 rfl (by decide) ?_
                                                          refine pb_iadd 971 dL_law_970 rfl ?_
                                                          refine pb_guard (fun hin => pb_sld 972 hin dL_law_971 rfl ?_)
                                                          refine pb_i2l 973 dL_law_972 rfl ?_
                                                          refine pb_ldc2 976 kc_L_100 dL_law_973 rfl ?_
                                                          refine pb_land 977 dL_law_976 rfl ?_
                                                          refine pb_lor 978 dL_law_977 rfl ?_
                                                          refine cl_X6_seed 981 ⟨by decide, by decide, by decide, by decide⟩ (Nat.le_of_ble_eq_true rfl) ml_L_123 dL_law_978 rfl (fun b978 μ978 => ?_)
                                                          refine pb_aload_n 982 dL_law_981 rfl rfl rfl ?_
                                                          refine pb_aload_n 983 dL_law_982 rfl rfl rfl ?_
                                                          refine pb_iload_n 984 dL_law_983 rfl rfl rfl ?_
                                                          refine pb_iconst 985 (v := 1) dL_law_984 rfl (by decide) ?_
                                                          refine pb_iadd 986 dL_law_985 rfl ?_
                                                          refine pb_guard (fun hin => pb_sld 987 hin dL_law_986 rfl ?_)
                                                          refine pb_i2l 988 dL_law_987 rfl ?_
                                                          refine pb_bipush 990 (v := 32) dL_law_988 rfl (by decide) ?_
                                                          refine pb_lshl 991 dL_law_990 rfl ?_
                                                          refine pb_aload_n 992 dL_law_991 rfl rfl rfl ?_
                                                          refine pb_iload_n 993 dL_law_992 rfl rfl rfl ?_
                                                          refine pb_iconst 994 (v := 2) dL_law_993 rfl (by decide) ?_
                                                          refine pb_iadd 995 dL_law_994 rfl ?_
                                                          refine pb_guard (fun hin => pb_sld 996 hin dL_law_995 rfl ?_)
                                                          refine pb_i2l 997 dL_law_996 rfl ?_
                                                          refine pb_ldc2 1000 kc_L_100 dL_law_997 rfl ?_
                                                          refine pb_land 1001 dL_law_1000 rfl ?_
                                                          refine pb_lor 1002 dL_law_1001 rfl ?_
                                                          refine cl_X7_seed 1005 ⟨by decide, by decide, by decide, by decide⟩ (Nat.le_of_ble_eq_true rfl) ml_L_127 dL_law_1002 rfl (fun b1002 μ1002 => ?_)
                                                          refine pb_lcmp 1006 dL_law_1005 rfl ?_
                                                          refine pb_if_eq 1009 (tgt := 1103) dL_law_1006 (by decide) rfl (fun _ => ?_) (fun _ => ?_)
                                                          · refine pb_iinc 1106 (i := 3) (v := (v3 + (4 : Int32))) (L' := [some (.ref b), some (.ref (E.2.1 0)), some (.ref (E.2.1 19)), some (.int (v3 + (4 : Int32)))]) dL_law_1103 rfl rfl (by decide) rfl rfl rfl ?_
                                                            refine pb_goto (tgt := 18) dL_law_1106 (by decide) ?_
                                                            exact ih (v3 + (4 : Int32)) μ1002
                                                          · refine pb_iconst 1010 (v := 0) dL_law_1009 rfl (by decide) ?_
                                                            exact pb_none
                                                        · refine pb_ite (fun c26 => ?_) (fun c26 => ?_)
                                                          · refine pb_tableK (tgt := 1011) 26 c26 dL_law_32 (by decide) (by decide) (by rfl) (by decide) ?_
                                                            refine pb_aload_n 1012 dL_law_1011 rfl rfl rfl ?_
                                                            refine pb_aload_n 1013 dL_law_1012 rfl rfl rfl ?_
                                                            refine pb_iload_n 1014 dL_law_1013 rfl rfl rfl ?_
                                                            refine pb_iconst 1015 (v := 1) dL_law_1014 rfl (by decide) ?_
                                                            refine pb_iadd 1016 dL_law_1015 rfl ?_
                                                            refine pb_guard (fun hin => pb_sld 1017 hin dL_law_1016 rfl ?_)
                                                            refine cl_X6_villages 1020 ⟨by decide, by decide, by decide, by decide⟩ (Nat.le_of_ble_eq_true rfl) ml_L_128 dL_law_1017 rfl (fun b1017 μ1017 => ?_)
                                                            refine pb_aload_n 1021 dL_law_1020 rfl rfl rfl ?_
                                                            refine pb_aload_n 1022 dL_law_1021 rfl rfl rfl ?_
                                                            refine pb_iload_n 1023 dL_law_1022 rfl rfl rfl ?_
                                                            refine pb_iconst 1024 (v := 1) dL_law_1023 rfl (by decide) ?_
                                                            refine pb_iadd 1025 dL_law_1024 rfl ?_
                                                            refine pb_guard (fun hin => pb_sld 1026 hin dL_law_1025 rfl ?_)
                                                            refine cl_X7_villages 1029 ⟨by decide, by decide, by decide, by decide⟩ (Nat.le_of_ble_eq_true rfl) ml_L_131 dL_law_1026 rfl (fun b1026 μ1026 => ?_)
                                                            refine pb_icmp_eq 1032 (tgt := 1103) dL_law_1029 (by decide) rfl (fun _ => ?_) (fun _ => ?_)
                                                            · refine pb_iinc 1106 (i := 3) (v := (v3 + (4 : Int32))) (L' := [some (.ref b), some (.ref (E.2.1 0)), some (.ref (E.2.1 19)), some (.int (v3 + (4 : Int32)))]) dL_law_1103 rfl rfl (by decide) rfl rfl rfl ?_
                                                              refine pb_goto (tgt := 18) dL_law_1106 (by decide) ?_
                                                              exact ih (v3 + (4 : Int32)) μ1026
                                                            · refine pb_iconst 1033 (v := 0) dL_law_1032 rfl (by decide) ?_
                                                              exact pb_none
                                                          · refine pb_ite (fun c27 => ?_) (fun c27 => ?_)
                                                            · refine pb_tableK (tgt := 1034) 27 c27 dL_law_32 (by decide) (by decide) (by rfl) (by decide) ?_
                                                              refine pb_aload_n 1035 dL_law_1034 rfl rfl rfl ?_
                                                              refine pb_aload_n 1036 dL_law_1035 rfl rfl rfl ?_
                                                              refine pb_iload_n 1037 dL_law_1036 rfl rfl rfl ?_
                                                              refine pb_iconst 1038 (v := 1) dL_law_1037 rfl (by decide) ?_
                                                              refine pb_iadd 1039 dL_law_1038 rfl ?_
                                                              refine pb_guard (fun hin => pb_sld 1040 hin dL_law_1039 rfl ?_)
                                                              refine cl_X6_keep 1043 ⟨by decide, by decide, by decide, by decide⟩ (Nat.le_of_ble_eq_true rfl) ml_L_132 dL_law_1040 rfl (fun b1040 μ1040 => ?_)
                                                              refine pb_aload_n 1044 dL_law_1043 rfl rfl rfl ?_
                                                              refine pb_aload_n 1045 dL_law_1044 rfl rfl rfl ?_
                                                              refine pb_iload_n 1046 dL_law_1045 rfl rfl rfl ?_
                                                              refine pb_iconst 1047 (v := 1) dL_law_1046 rfl (by decide) ?_
                                                              refine pb_iadd 1048 dL_law_1047 rfl ?_
                                                              refine pb_guard (fun hin => pb_sld 1049 hin dL_law_1048 rfl ?_)
                                                              refine cl_X7_keep 1052 ⟨by decide, by decide, by decide, by decide⟩ (Nat.le_of_ble_eq_true rfl) ml_L_135 dL_law_1049 rfl (fun b1049 μ1049 => ?_)
                                                              refine pb_icmp_eq 1055 (tgt := 1103) dL_law_1052 (by decide) rfl (fun _ => ?_) (fun _ => ?_)
                                                              · refine pb_iinc 1106 (i := 3) (v := (v3 + (4 : Int32))) (L' := [some (.ref b), some (.ref (E.2.1 0)), some (.ref (E.2.1 19)), some (.int (v3 + (4 : Int32)))]) dL_law_1103 rfl rfl (by decide) rfl rfl rfl ?_
                                                                refine pb_goto (tgt := 18) dL_law_1106 (by decide) ?_
                                                                exact ih (v3 + (4 : Int32)) μ1049
                                                              · refine pb_iconst 1056 (v := 0) dL_law_1055 rfl (by decide) ?_
                                                                exact pb_none
                                                            · refine pb_ite (fun c28 => ?_) (fun c28 => ?_)
                                                              · refine pb_tableK (tgt := 1057) 28 c28 dL_law_32 (by decide) (by decide) (by rfl) (by decide) ?_
                                                                refine pb_aload_n 1058 dL_law_1057 rfl rfl rfl ?_
                                                                refine pb_aload_n 1059 dL_law_1058 rfl rfl rfl ?_
                                                                refine pb_iload_n 1060 dL_law_1059 rfl rfl rfl ?_
                                                                refine pb_iconst 1061 (v := 1) dL_law_1060 rfl (by decide) ?_
                                                                refine pb_iadd 1062 dL_law_1061 rfl ?_
                                                                refine pb_guard (fun hin => pb_sld 1063 hin dL_law_1062 rfl ?_)
                                                                refine cl_X6_again 1066 ⟨by decide, by decide, by decide, by decide⟩ (Nat.le_of_ble_eq_true rfl) ml_L_136 dL_law_1063 rfl (fun b1063 μ1063 => ?_)
                                                                refine pb_aload_n 1067 dL_law_1066 rfl rfl rfl ?_
                                                                refine pb_aload_n 1068 dL_law_1067 rfl rfl rfl ?_
                                                                refine pb_iload_n 1069 dL_law_1068 rfl rfl rfl ?_
                                                                refine pb_iconst 1070 (v := 1) dL_law_1069 rfl (by decide) ?_
                                                                refine pb_iadd 1071 dL_law_1070 rfl ?_
                                                                refine pb_guard (fun hin => pb_sld 1072 hin dL_law_1071 rfl ?_)
                                                                refine cl_X7_again 1075 ⟨by decide, by decide, by decide, by decide⟩ (Nat.le_of_ble_eq_true rfl) ml_L_139 dL_law_1072 rfl (fun b1072 μ1072 => ?_)
                                                                refine pb_icmp_eq 1078 (tgt := 1103) dL_law_1075 (by decide) rfl (fun _ => ?_) (fun _ => ?_)
                                                                · refine pb_iinc 1106 (i := 3) (v := (v3 + (4 : Int32))) (L' := [some (.ref b), some (.ref (E.2.1 0)), some (.ref (E.2.1 19)), some (.int (v3 + (4 : Int32)))]) dL_law_1103 rfl rfl (by decide) rfl rfl rfl ?_
                                                                  refine pb_goto (tgt := 18) dL_law_1106 (by decide) ?_
                                                                  exact ih (v3 + (4 : Int32)) μ1072
                                                                · refine pb_iconst 1079 (v := 0) dL_law_1078 rfl (by decide) ?_
                                                                  exact pb_none
                                                              · refine pb_ite (fun c29 => ?_) (fun c29 => ?_)
                                                                · refine pb_tableK (tgt := 1080) 29 c29 dL_law_32 (by decide) (by decide) (by rfl) (by decide) ?_
                                                                  refine pb_aload_n 1081 dL_law_1080 rfl rfl rfl ?_
                                                                  refine pb_aload_n 1082 dL_law_1081 rfl rfl rfl ?_
                                                                  refine pb_iload_n 1083 dL_law_1082 rfl rfl rfl ?_
                                                                  refine pb_iconst 1084 (v := 1) dL_law_1083 rfl (by decide) ?_
                                                                  refine pb_iadd 1085 dL_law_1084 rfl ?_
                                                                  refine pb_guard (fun hin => pb_sld 1086 hin dL_law_1085 rfl ?_)
                                                                  refine cl_X6_count 1089 ⟨by decide, by decide, by decide, by decide⟩ (Nat.le_of_ble_eq_true rfl) ml_L_140 dL_law_1086 rfl (fun b1086 μ1086 => ?_)
                                                                  refine pb_aload_n 1090 dL_law_1089 rfl rfl rfl ?_
                                                                  refine pb_aload_n 1091 dL_law_1090 rfl rfl rfl ?_
                                                                  refine pb_iload_n 1092 dL_law_1091 rfl rfl rfl ?_
                                                                  refine pb_iconst 1093 (v := 1) dL_law_1092 rfl (by decide) ?_
                                                                  refine pb_iadd 1094 dL_law_1093 rfl ?_
                                                                  refine pb_guard (fun hin => pb_sld 1095 hin dL_law_1094 rfl ?_)
                                                                  refine cl_X7_count 1098 ⟨by decide, by decide, by decide, by decide⟩ (Nat.le_of_ble_eq_true rfl) ml_L_143 dL_law_1095 rfl (fun b1095 μ1095 => ?_)
                                                                  refine pb_icmp_eq 1101 (tgt := 1103) dL_law_1098 (by decide) rfl (fun _ => ?_) (fun _ => ?_)
                                                                  · refine pb_iinc 1106 (i := 3) (v := (v3 + (4 : Int32))) (L' := [some (.ref b), some (.ref (E.2.1 0)), some (.ref (E.2.1 19)), some (.int (v3 + (4 : Int32)))]) dL_law_1103 rfl rfl (by decide) rfl rfl rfl ?_
                                                                    refine pb_goto (tgt := 18) dL_law_1106 (by decide) ?_
                                                                    exact ih (v3 + (4 : Int32)) μ1095
                                                                  · refine pb_iconst 1102 (v := 0) dL_law_1101 rfl (by decide) ?_
                                                                    exact pb_none
                                                                · refine pb_tableD (tgt := 1103) dL_law_32 (by have e0 := lv_neT (a := 0) c0 (by decide); have e1 := lv_neT (a := 1) c1 (by decide); have e2 := lv_neT (a := 2) c2 (by decide); have e3 := lv_neT (a := 3) c3 (by decide); have e4 := lv_neT (a := 4) c4 (by decide); have e5 := lv_neT (a := 5) c5 (by decide); have e6 := lv_neT (a := 6) c6 (by decide); have e7 := lv_neT (a := 7) c7 (by decide); have e8 := lv_neT (a := 8) c8 (by decide); have e9 := lv_neT (a := 9) c9 (by decide); have e10 := lv_neT (a := 10) c10 (by decide); have e11 := lv_neT (a := 11) c11 (by decide); have e12 := lv_neT (a := 12) c12 (by decide); have e13 := lv_neT (a := 13) c13 (by decide); have e14 := lv_neT (a := 14) c14 (by decide); have e15 := lv_neT (a := 15) c15 (by decide); have e16 := lv_neT (a := 16) c16 (by decide); have e17 := lv_neT (a := 17) c17 (by decide); have e18 := lv_neT (a := 18) c18 (by decide); have e19 := lv_neT (a := 19) c19 (by decide); have e20 := lv_neT (a := 20) c20 (by decide); have e21 := lv_neT (a := 21) c21 (by decide); have e22 := lv_neT (a := 22) c22 (by decide); have e23 := lv_neT (a := 23) c23 (by decide); have e24 := lv_neT (a := 24) c24 (by decide); have e25 := lv_neT (a := 25) c25 (by decide); have e26 := lv_neT (a := 26) c26 (by decide); have e27 := lv_neT (a := 27) c27 (by decide); have e28 := lv_neT (a := 28) c28 (by decide); have e29 := lv_neT (a := 29) c29 (by decide); omega) (by decide) ?_
                                                                  refine pb_iinc 1106 (i := 3) (v := (v3 + (4 : Int32))) (L' := [some (.ref b), some (.ref (E.2.1 0)), some (.ref (E.2.1 19)), some (.int (v3 + (4 : Int32)))]) dL_law_1103 rfl rfl (by decide) rfl rfl rfl ?_
                                                                  refine pb_goto (tgt := 18) dL_law_1106 (by decide) ?_
                                                                  exact ih (v3 + (4 : Int32)) μ
