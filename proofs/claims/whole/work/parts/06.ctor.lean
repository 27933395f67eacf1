theorem ko_i : Cond.instanceMethod objectInit ∈ pb_gw := pb_inW 79 (by decide +kernel) (by decide +kernel)
theorem ko_c : Cond.code objectInit ⟨#[0xb1]⟩ 1 none ∈ pb_gw := pb_inW 80 (by decide +kernel) (by decide +kernel)
theorem ka_I : Cond.arrayClass .int ∈ pb_gw := pb_inW 97 (by decide +kernel) (by decide +kernel)
theorem ka_Z : Cond.arrayClass .boolean ∈ pb_gw := pb_inW 851 (by decide +kernel) (by decide +kernel)
theorem ml_X4_3 : Cond.methodLink RX4 3 objectInit ∈ pb_gw := pb_inW 86 (by decide +kernel) (by decide +kernel)
theorem ml_X5_3 : Cond.methodLink RX5 3 objectInit ∈ pb_gw := pb_inW 103 (by decide +kernel) (by decide +kernel)
theorem ml_X0_3 : Cond.methodLink RX0 3 objectInit ∈ pb_gw := pb_inW 113 (by decide +kernel) (by decide +kernel)
theorem ml_X2_3 : Cond.methodLink RX2 3 objectInit ∈ pb_gw := pb_inW 129 (by decide +kernel) (by decide +kernel)
theorem ml_X3_3 : Cond.methodLink RX3 3 objectInit ∈ pb_gw := pb_inW 142 (by decide +kernel) (by decide +kernel)
theorem ml_X1_3 : Cond.methodLink RX1 3 objectInit ∈ pb_gw := pb_inW 158 (by decide +kernel) (by decide +kernel)
theorem ml_X6_1 : Cond.methodLink RX6 1 objectInit ∈ pb_gw := pb_inW 78 (by decide +kernel) (by decide +kernel)
theorem kl_X6_7 : Cond.classLink RX6 7 RX4 ∈ pb_gw := pb_inW 81 (by decide +kernel) (by decide +kernel)
theorem kn_X4 : Cond.instantiable RX4 3 ∈ pb_gw := pb_inW 82 (by decide +kernel) (by decide +kernel)
theorem ki_X4 : Cond.initialized RX4 ∈ pb_gw := pb_inW 62 (by decide +kernel) (by decide +kernel)
theorem kl_X6_16 : Cond.classLink RX6 16 RX5 ∈ pb_gw := pb_inW 98 (by decide +kernel) (by decide +kernel)
theorem kn_X5 : Cond.instantiable RX5 1 ∈ pb_gw := pb_inW 99 (by decide +kernel) (by decide +kernel)
theorem ki_X5 : Cond.initialized RX5 ∈ pb_gw := pb_inW 63 (by decide +kernel) (by decide +kernel)
theorem kl_X6_26 : Cond.classLink RX6 26 RX0 ∈ pb_gw := pb_inW 108 (by decide +kernel) (by decide +kernel)
theorem kn_X0 : Cond.instantiable RX0 3 ∈ pb_gw := pb_inW 109 (by decide +kernel) (by decide +kernel)
theorem ki_X0 : Cond.initialized RX0 ∈ pb_gw := pb_inW 64 (by decide +kernel) (by decide +kernel)
theorem kl_X6_33 : Cond.classLink RX6 33 RX2 ∈ pb_gw := pb_inW 124 (by decide +kernel) (by decide +kernel)
theorem kn_X2 : Cond.instantiable RX2 2 ∈ pb_gw := pb_inW 125 (by decide +kernel) (by decide +kernel)
theorem ki_X2 : Cond.initialized RX2 ∈ pb_gw := pb_inW 65 (by decide +kernel) (by decide +kernel)
theorem kl_X6_40 : Cond.classLink RX6 40 RX3 ∈ pb_gw := pb_inW 137 (by decide +kernel) (by decide +kernel)
theorem kn_X3 : Cond.instantiable RX3 3 ∈ pb_gw := pb_inW 138 (by decide +kernel) (by decide +kernel)
theorem ki_X3 : Cond.initialized RX3 ∈ pb_gw := pb_inW 66 (by decide +kernel) (by decide +kernel)
theorem kl_X6_47 : Cond.classLink RX6 47 RX1 ∈ pb_gw := pb_inW 153 (by decide +kernel) (by decide +kernel)
theorem kn_X1 : Cond.instantiable RX1 6 ∈ pb_gw := pb_inW 154 (by decide +kernel) (by decide +kernel)
theorem ki_X1 : Cond.initialized RX1 ∈ pb_gw := pb_inW 67 (by decide +kernel) (by decide +kernel)
theorem ml_X7_1 : Cond.methodLink RX7 1 objectInit ∈ pb_gw := pb_inW 783 (by decide +kernel) (by decide +kernel)
theorem kl_L_7 : Cond.classLink RL 7 RX6 ∈ pb_gw := pb_inW 73 (by decide +kernel) (by decide +kernel)
theorem kn_X6 : Cond.instantiable RX6 11 ∈ pb_gw := pb_inW 74 (by decide +kernel) (by decide +kernel)
theorem ki_X6 : Cond.initialized RX6 ∈ pb_gw := pb_inW 61 (by decide +kernel) (by decide +kernel)
theorem kl_L_10 : Cond.classLink RL 10 RX7 ∈ pb_gw := pb_inW 778 (by decide +kernel) (by decide +kernel)
theorem kn_X7 : Cond.instantiable RX7 22 ∈ pb_gw := pb_inW 779 (by decide +kernel) (by decide +kernel)
theorem ki_X7 : Cond.initialized RX7 ∈ pb_gw := pb_inW 68 (by decide +kernel) (by decide +kernel)
theorem ml_L_9 : Cond.methodLink RL 9 yX6_init ∈ pb_gw := pb_inW 75 (by decide +kernel) (by decide +kernel)
theorem ml_L_12 : Cond.methodLink RL 12 yX7_init ∈ pb_gw := pb_inW 780 (by decide +kernel) (by decide +kernel)
def pb_nestI : List (String × Nat × MethodName × String) := [(RX6, 9, yX4_init, "PoundBeasts"), (RX6, 18, yX5_init, "PoundBeasts"), (RX6, 28, yX0_init, "PoundBeasts"), (RX6, 35, yX2_init, "PoundBeasts"), (RX6, 42, yX3_init, "PoundBeasts"), (RX6, 49, yX1_init, "PoundBeasts")]
theorem ct_pre {D : va_G} {w0 : va_W} {H : Heap} {s : State} {A : Nat → Prop} {sz h0 : Nat} (hP : va_P D vwCl w0 H) (hK : va_K D vwCl [] s) (hD : va_D A w0) (hz : H.size = sz) : PreS s H (va_Pc [.ref h0] (fun U => U.heap.size = sz ∧ va_P D vwCl w0 U.heap ∧ va_K D vwCl [] U ∧ va_D (fun _ => True) w0)) [.ref h0] :=
  ⟨fun a U g mk q => by obtain ⟨q0, q1, qP, qK, qD⟩ := q; exact ⟨q0, q1, qP, va_K.moved (u := U) (U := U.calling g mk a) (Vm.Alike.refl U.vm) qK, qD⟩, fun U hU hW => ⟨rfl, by rw [hU]; exact hz, by rw [hU]; exact hP, va_K.moved hW.alike hK, hD.weaken (fun _ _ _ _ => trivial)⟩⟩
theorem ct_preN {D : va_G} {w0 : va_W} {H : Heap} {s : State} {A : Nat → Prop} {sz h0 : Nat} (hP : va_P D vwCl w0 H) (hK : va_K D vwCl [] s) (hD : va_D A w0) (hz : H.size = sz) (hN : ∀ q ∈ pb_nestI, va_Nw (.methodLinkNest q.1 q.2.1 q.2.2.1 q.2.2.2) s) : PreS s H (va_Pc [.ref h0] (fun U => U.heap.size = sz ∧ va_P D vwCl w0 U.heap ∧ va_K D vwCl [] U ∧ va_D (fun _ => True) w0 ∧ (∀ q ∈ pb_nestI, va_Nw (.methodLinkNest q.1 q.2.1 q.2.2.1 q.2.2.2) U))) [.ref h0] :=
  ⟨fun a U g mk q => by obtain ⟨q0, q1, qP, qK, qD, qN⟩ := q; exact ⟨q0, q1, qP, va_K.moved (u := U) (U := U.calling g mk a) (Vm.Alike.refl U.vm) qK, qD, fun z hz => va_Nw.same (u := U) (U := U.calling g mk a) rfl rfl (qN z hz)⟩, fun U hU hW => ⟨rfl, by rw [hU]; exact hz, by rw [hU]; exact hP, va_K.moved hW.alike hK, hD.weaken (fun _ _ _ _ => trivial), fun z hz => va_Nw.warmM hW (hN z hz)⟩⟩
theorem mcI_X4 : pb_MC yX4_init cX4_init 1 none 0 := ⟨pb_inW 85 (by decide +kernel) (by decide +kernel), pb_inW 62 (by decide +kernel) (by decide +kernel), by decide +kernel, by decide +kernel, by decide +kernel⟩
theorem miI_X4 : Cond.instanceMethod yX4_init ∈ pb_gw := pb_inW 84 (by decide +kernel) (by decide +kernel)
def at_X4 (D : va_G) (A : Nat → Prop) (h0 : Nat) (_ : Unit) (t : State) : Prop := ∃ (q7 : Nat) (q14 : Nat) (c7 : ClassId) (c14 : ClassId), va_P D vwCl [(h0, .inr (4, [.ref q7, .ref q14, .int 0])), (q7, .inl (c7, 56, .inl (fun _ => 0))), (q14, .inl (c14, 3, .inl (fun _ => 0)))] t.heap ∧ va_K D vwCl [(c7, .int), (c14, .int)] t ∧ va_D A [(h0, .inr (4, [.ref q7, .ref q14, .int 0])), (q7, .inl (c7, 56, .inl (fun _ => 0))), (q14, .inl (c14, 3, .inl (fun _ => 0)))]
set_option maxHeartbeats 4000000 in
set_option maxRecDepth 100000 in
theorem ct_X4 (l : Launch) (D : va_G) (h0 sz : Nat) : Met l yX4_init (Cond.code yX4_init cX4_init 1 none :: pb_gw) { frames := 1, cells := 2, slots := 59, locals := 12 } (va_Pc [.ref h0] (fun U => U.heap.size = sz ∧ va_P D vwCl [(h0, .inr (4, [.null, .null, .int 0]))] U.heap ∧ va_K D vwCl [] U ∧ va_D (fun _ => True) [(h0, .inr (4, [.null, .null, .int 0]))])) (va_Qv (fun _ : Unit => True) (at_X4 D (va_A [(h0, .inr (4, [.null, .null, .int 0]))] sz) h0) (va_A [(h0, .inr (4, [.null, .null, .int 0]))] sz)) 2 59 (va_A [(h0, .inr (4, [.null, .null, .int 0]))] sz) := by
  refine Met.ofW (cc := cX4_init) (maxL := 1) (ret := none) (by decide) rfl ?_
  intro p e s m args below meth c s₁ B hml hv
  obtain ⟨rfl, hsz, hP, hK, hD0⟩ := hv
  have hx := B.exec
  have hb := B.bytes
  have hr := B.returns
  have hts0 := atoms_spec (ws := Cond.code yX4_init cX4_init 1 none :: pb_gw) B.pre
  have hts : ∀ w ∈ pb_gw, w.before _ s = true := fun w hw => hts0 w (List.mem_cons_of_mem _ hw)
  have hown : s.vm.findClass RX4 = some m.cls := findClass_of_methodNamed B.named
  have hlocks := B.notSynchronized
  have hin : meth.name = "<init>" := (name_of_methodNamed B.named B.method).1
  subst hsz
  have hD := hD0.self (sz := s.heap.size)
  generalize hAe : va_A [(h0, .inr (4, [.null, .null, .int 0]))] s.heap.size = A at hD ⊢
  have hA : ∀ q : Nat, s.heap.size ≤ q → A q := fun q h => by rw [← hAe]; exact Or.inr h
  have hS : va_S A s.heap s.heap [] := va_S.rf
  have hl := lv_entry ([.ref h0]) (n := 1) (Nat.le_of_ble_eq_true rfl)
  rw [lg_entry_eq]
  generalize (lg_sl ([.ref h0]) ++ List.replicate (1 - (lg_sl ([.ref h0])).length) Slot.unset).toArray = ls at hl ⊢
  have hl : lv_has ls 1 [(0, .ref h0)] := hl
  refine lv_aload_n hx hb dX4_init_0 rfl (lv_at hl 0 rfl) ?_
  refine W.objInit hx hb hown (hts _ ml_X4_3) (hts _ ko_i) (hts _ ko_c) rfl (by rw [hml]; exact hl.1) rfl dX4_init_1 (Nat.le_of_ble_eq_true rfl) (Nat.le_of_ble_eq_true rfl) ?_
  refine W.eq (g2 := F0 m 4 ls []) rfl ?_
  refine lv_aload_n hx hb dX4_init_4 rfl (lv_at hl 0 rfl) ?_
  refine lv_bipush (v := 56) hx hb dX4_init_5 (by decide) ?_
  refine va_newa (atype := .int) (ty := .int) (N' := 56) (a0 := (56, .inl (fun _ => 0))) hx hb (hts _ ka_I) rfl hK hP hD hS hA (fun _ => rfl) (by decide) (by decide) (by decide) (Nat.le_of_ble_eq_true rfl) (Nat.le_of_ble_eq_true rfl) dX4_init_7 (fun q7 c7 H hK hP hD hS => ?_)
  have hP : va_P D vwCl [(h0, .inr (4, [.null, .null, .int 0])), (q7, .inl (c7, 56, .inl (fun _ => 0)))] H := hP
  have hD : va_D A [(h0, .inr (4, [.null, .null, .int 0])), (q7, .inl (c7, 56, .inl (fun _ => 0)))] := hD
  have hK : va_K D vwCl [(c7, .int)] s := hK
  refine W.widen (k := 1) (n := 56) (by decide) (by decide) ?_
  refine va_putF (D := D) (ci := 4) (v := .ref q7) (ty := (.array .int)) (C := RX4) (T := TX4) (N := 3) hx hb hts in_X4 tyX4 tyX4_ok nmX4 hown hK hP hD hS 0 rfl rfl 0 (by decide) (hts _ fl_X4_9) (fun _ h9 => h9) rfl hin rfl (by decide +kernel) rfl rfl (Nat.le_of_ble_eq_true rfl) dX4_init_9 (fun H locs hP hD hS => ?_)
  have hP : va_P D vwCl [(h0, .inr (4, [.ref q7, .null, .int 0])), (q7, .inl (c7, 56, .inl (fun _ => 0)))] H := hP
  have hD : va_D A [(h0, .inr (4, [.ref q7, .null, .int 0])), (q7, .inl (c7, 56, .inl (fun _ => 0)))] := hD
  refine lv_aload_n hx hb dX4_init_12 rfl (lv_at hl 0 rfl) ?_
  refine lv_iconst (v := 3) hx hb dX4_init_13 (by decide) ?_
  refine va_newa (atype := .int) (ty := .int) (N' := 3) (a0 := (3, .inl (fun _ => 0))) hx hb (hts _ ka_I) rfl hK hP hD hS hA (fun _ => rfl) (by decide) (by decide) (by decide) (Nat.le_of_ble_eq_true rfl) (Nat.le_of_ble_eq_true rfl) dX4_init_14 (fun q14 c14 H hK hP hD hS => ?_)
  have hP : va_P D vwCl [(h0, .inr (4, [.ref q7, .null, .int 0])), (q7, .inl (c7, 56, .inl (fun _ => 0))), (q14, .inl (c14, 3, .inl (fun _ => 0)))] H := hP
  have hD : va_D A [(h0, .inr (4, [.ref q7, .null, .int 0])), (q7, .inl (c7, 56, .inl (fun _ => 0))), (q14, .inl (c14, 3, .inl (fun _ => 0)))] := hD
  have hK : va_K D vwCl [(c7, .int), (c14, .int)] s := hK
  refine W.widen (k := 2) (n := 59) (by decide) (by decide) ?_
  refine va_putF (D := D) (ci := 4) (v := .ref q14) (ty := (.array .int)) (C := RX4) (T := TX4) (N := 3) hx hb hts in_X4 tyX4 tyX4_ok nmX4 hown hK hP hD hS 0 rfl rfl 1 (by decide) (hts _ fl_X4_15) (fun _ h9 => h9) rfl hin rfl (by decide +kernel) rfl rfl (Nat.le_of_ble_eq_true rfl) dX4_init_16 (fun H locs hP hD hS => ?_)
  have hP : va_P D vwCl [(h0, .inr (4, [.ref q7, .ref q14, .int 0])), (q7, .inl (c7, 56, .inl (fun _ => 0))), (q14, .inl (c14, 3, .inl (fun _ => 0)))] H := hP
  have hD : va_D A [(h0, .inr (4, [.ref q7, .ref q14, .int 0])), (q7, .inl (c7, 56, .inl (fun _ => 0))), (q14, .inl (c14, 3, .inl (fun _ => 0)))] := hD
  exact W.vret hx hb hr (fun t ht hW => ⟨⟨(), rfl, trivial, q7, q14, c7, c14, by rw [ht]; exact hP, va_K.moved hW.alike hK, hD⟩, hS.F ht⟩) hS.2.2 dX4_init_19
theorem mcI_X5 : pb_MC yX5_init cX5_init 1 none 0 := ⟨pb_inW 102 (by decide +kernel) (by decide +kernel), pb_inW 63 (by decide +kernel) (by decide +kernel), by decide +kernel, by decide +kernel, by decide +kernel⟩
theorem miI_X5 : Cond.instanceMethod yX5_init ∈ pb_gw := pb_inW 101 (by decide +kernel) (by decide +kernel)
def at_X5 (D : va_G) (A : Nat → Prop) (h0 : Nat) (_ : Unit) (t : State) : Prop := ∃ (q7 : Nat) (c7 : ClassId), va_P D vwCl [(h0, .inr (5, [.ref q7])), (q7, .inl (c7, 52, .inl (fun _ => 0)))] t.heap ∧ va_K D vwCl [(c7, .int)] t ∧ va_D A [(h0, .inr (5, [.ref q7])), (q7, .inl (c7, 52, .inl (fun _ => 0)))]
set_option maxHeartbeats 4000000 in
set_option maxRecDepth 100000 in
theorem ct_X5 (l : Launch) (D : va_G) (h0 sz : Nat) : Met l yX5_init (Cond.code yX5_init cX5_init 1 none :: pb_gw) { frames := 1, cells := 1, slots := 52, locals := 12 } (va_Pc [.ref h0] (fun U => U.heap.size = sz ∧ va_P D vwCl [(h0, .inr (5, [.null]))] U.heap ∧ va_K D vwCl [] U ∧ va_D (fun _ => True) [(h0, .inr (5, [.null]))])) (va_Qv (fun _ : Unit => True) (at_X5 D (va_A [(h0, .inr (5, [.null]))] sz) h0) (va_A [(h0, .inr (5, [.null]))] sz)) 1 52 (va_A [(h0, .inr (5, [.null]))] sz) := by
  refine Met.ofW (cc := cX5_init) (maxL := 1) (ret := none) (by decide) rfl ?_
  intro p e s m args below meth c s₁ B hml hv
  obtain ⟨rfl, hsz, hP, hK, hD0⟩ := hv
  have hx := B.exec
  have hb := B.bytes
  have hr := B.returns
  have hts0 := atoms_spec (ws := Cond.code yX5_init cX5_init 1 none :: pb_gw) B.pre
  have hts : ∀ w ∈ pb_gw, w.before _ s = true := fun w hw => hts0 w (List.mem_cons_of_mem _ hw)
  have hown : s.vm.findClass RX5 = some m.cls := findClass_of_methodNamed B.named
  have hlocks := B.notSynchronized
  have hin : meth.name = "<init>" := (name_of_methodNamed B.named B.method).1
  subst hsz
  have hD := hD0.self (sz := s.heap.size)
  generalize hAe : va_A [(h0, .inr (5, [.null]))] s.heap.size = A at hD ⊢
  have hA : ∀ q : Nat, s.heap.size ≤ q → A q := fun q h => by rw [← hAe]; exact Or.inr h
  have hS : va_S A s.heap s.heap [] := va_S.rf
  have hl := lv_entry ([.ref h0]) (n := 1) (Nat.le_of_ble_eq_true rfl)
  rw [lg_entry_eq]
  generalize (lg_sl ([.ref h0]) ++ List.replicate (1 - (lg_sl ([.ref h0])).length) Slot.unset).toArray = ls at hl ⊢
  have hl : lv_has ls 1 [(0, .ref h0)] := hl
  refine lv_aload_n hx hb dX5_init_0 rfl (lv_at hl 0 rfl) ?_
  refine W.objInit hx hb hown (hts _ ml_X5_3) (hts _ ko_i) (hts _ ko_c) rfl (by rw [hml]; exact hl.1) rfl dX5_init_1 (Nat.le_of_ble_eq_true rfl) (Nat.le_of_ble_eq_true rfl) ?_
  refine W.eq (g2 := F0 m 4 ls []) rfl ?_
  refine lv_aload_n hx hb dX5_init_4 rfl (lv_at hl 0 rfl) ?_
  refine lv_bipush (v := 52) hx hb dX5_init_5 (by decide) ?_
  refine va_newa (atype := .int) (ty := .int) (N' := 52) (a0 := (52, .inl (fun _ => 0))) hx hb (hts _ ka_I) rfl hK hP hD hS hA (fun _ => rfl) (by decide) (by decide) (by decide) (Nat.le_of_ble_eq_true rfl) (Nat.le_of_ble_eq_true rfl) dX5_init_7 (fun q7 c7 H hK hP hD hS => ?_)
  have hP : va_P D vwCl [(h0, .inr (5, [.null])), (q7, .inl (c7, 52, .inl (fun _ => 0)))] H := hP
  have hD : va_D A [(h0, .inr (5, [.null])), (q7, .inl (c7, 52, .inl (fun _ => 0)))] := hD
  have hK : va_K D vwCl [(c7, .int)] s := hK
  refine W.widen (k := 1) (n := 52) (by decide) (by decide) ?_
  refine va_putF (D := D) (ci := 5) (v := .ref q7) (ty := (.array .int)) (C := RX5) (T := TX5) (N := 1) hx hb hts in_X5 tyX5 tyX5_ok nmX5 hown hK hP hD hS 0 rfl rfl 0 (by decide) (hts _ fl_X5_11) (fun _ h9 => h9) rfl hin rfl (by decide +kernel) rfl rfl (Nat.le_of_ble_eq_true rfl) dX5_init_9 (fun H locs hP hD hS => ?_)
  have hP : va_P D vwCl [(h0, .inr (5, [.ref q7])), (q7, .inl (c7, 52, .inl (fun _ => 0)))] H := hP
  have hD : va_D A [(h0, .inr (5, [.ref q7])), (q7, .inl (c7, 52, .inl (fun _ => 0)))] := hD
  exact W.vret hx hb hr (fun t ht hW => ⟨⟨(), rfl, trivial, q7, c7, by rw [ht]; exact hP, va_K.moved hW.alike hK, hD⟩, hS.F ht⟩) hS.2.2 dX5_init_12
theorem mcI_X0 : pb_MC yX0_init cX0_init 1 none 0 := ⟨pb_inW 112 (by decide +kernel) (by decide +kernel), pb_inW 64 (by decide +kernel) (by decide +kernel), by decide +kernel, by decide +kernel, by decide +kernel⟩
theorem miI_X0 : Cond.instanceMethod yX0_init ∈ pb_gw := pb_inW 111 (by decide +kernel) (by decide +kernel)
def at_X0 (D : va_G) (A : Nat → Prop) (h0 : Nat) (_ : Unit) (t : State) : Prop := ∃ (q8 : Nat) (c8 : ClassId), va_P D vwCl [(h0, .inr (0, [.ref q8, .int 0, .int 0])), (q8, .inl (c8, 728, .inl (fun _ => 0)))] t.heap ∧ va_K D vwCl [(c8, .int)] t ∧ va_D A [(h0, .inr (0, [.ref q8, .int 0, .int 0])), (q8, .inl (c8, 728, .inl (fun _ => 0)))]
set_option maxHeartbeats 4000000 in
set_option maxRecDepth 100000 in
theorem ct_X0 (l : Launch) (D : va_G) (h0 sz : Nat) : Met l yX0_init (Cond.code yX0_init cX0_init 1 none :: pb_gw) { frames := 1, cells := 1, slots := 728, locals := 12 } (va_Pc [.ref h0] (fun U => U.heap.size = sz ∧ va_P D vwCl [(h0, .inr (0, [.null, .int 0, .int 0]))] U.heap ∧ va_K D vwCl [] U ∧ va_D (fun _ => True) [(h0, .inr (0, [.null, .int 0, .int 0]))])) (va_Qv (fun _ : Unit => True) (at_X0 D (va_A [(h0, .inr (0, [.null, .int 0, .int 0]))] sz) h0) (va_A [(h0, .inr (0, [.null, .int 0, .int 0]))] sz)) 1 728 (va_A [(h0, .inr (0, [.null, .int 0, .int 0]))] sz) := by
  refine Met.ofW (cc := cX0_init) (maxL := 1) (ret := none) (by decide) rfl ?_
  intro p e s m args below meth c s₁ B hml hv
  obtain ⟨rfl, hsz, hP, hK, hD0⟩ := hv
  have hx := B.exec
  have hb := B.bytes
  have hr := B.returns
  have hts0 := atoms_spec (ws := Cond.code yX0_init cX0_init 1 none :: pb_gw) B.pre
  have hts : ∀ w ∈ pb_gw, w.before _ s = true := fun w hw => hts0 w (List.mem_cons_of_mem _ hw)
  have hown : s.vm.findClass RX0 = some m.cls := findClass_of_methodNamed B.named
  have hlocks := B.notSynchronized
  have hin : meth.name = "<init>" := (name_of_methodNamed B.named B.method).1
  subst hsz
  have hD := hD0.self (sz := s.heap.size)
  generalize hAe : va_A [(h0, .inr (0, [.null, .int 0, .int 0]))] s.heap.size = A at hD ⊢
  have hA : ∀ q : Nat, s.heap.size ≤ q → A q := fun q h => by rw [← hAe]; exact Or.inr h
  have hS : va_S A s.heap s.heap [] := va_S.rf
  have hl := lv_entry ([.ref h0]) (n := 1) (Nat.le_of_ble_eq_true rfl)
  rw [lg_entry_eq]
  generalize (lg_sl ([.ref h0]) ++ List.replicate (1 - (lg_sl ([.ref h0])).length) Slot.unset).toArray = ls at hl ⊢
  have hl : lv_has ls 1 [(0, .ref h0)] := hl
  refine lv_aload_n hx hb dX0_init_0 rfl (lv_at hl 0 rfl) ?_
  refine W.objInit hx hb hown (hts _ ml_X0_3) (hts _ ko_i) (hts _ ko_c) rfl (by rw [hml]; exact hl.1) rfl dX0_init_1 (Nat.le_of_ble_eq_true rfl) (Nat.le_of_ble_eq_true rfl) ?_
  refine W.eq (g2 := F0 m 4 ls []) rfl ?_
  refine lv_aload_n hx hb dX0_init_4 rfl (lv_at hl 0 rfl) ?_
  refine lv_sipush (v := 728) hx hb dX0_init_5 (by decide) ?_
  refine va_newa (atype := .int) (ty := .int) (N' := 728) (a0 := (728, .inl (fun _ => 0))) hx hb (hts _ ka_I) rfl hK hP hD hS hA (fun _ => rfl) (by decide) (by decide) (by decide) (Nat.le_of_ble_eq_true rfl) (Nat.le_of_ble_eq_true rfl) dX0_init_8 (fun q8 c8 H hK hP hD hS => ?_)
  have hP : va_P D vwCl [(h0, .inr (0, [.null, .int 0, .int 0])), (q8, .inl (c8, 728, .inl (fun _ => 0)))] H := hP
  have hD : va_D A [(h0, .inr (0, [.null, .int 0, .int 0])), (q8, .inl (c8, 728, .inl (fun _ => 0)))] := hD
  have hK : va_K D vwCl [(c8, .int)] s := hK
  refine W.widen (k := 1) (n := 728) (by decide) (by decide) ?_
  refine va_putF (D := D) (ci := 0) (v := .ref q8) (ty := (.array .int)) (C := RX0) (T := TX0) (N := 3) hx hb hts in_X0 tyX0 tyX0_ok nmX0 hown hK hP hD hS 0 rfl rfl 0 (by decide) (hts _ fl_X0_11) (fun _ h9 => h9) rfl hin rfl (by decide +kernel) rfl rfl (Nat.le_of_ble_eq_true rfl) dX0_init_10 (fun H locs hP hD hS => ?_)
  have hP : va_P D vwCl [(h0, .inr (0, [.ref q8, .int 0, .int 0])), (q8, .inl (c8, 728, .inl (fun _ => 0)))] H := hP
  have hD : va_D A [(h0, .inr (0, [.ref q8, .int 0, .int 0])), (q8, .inl (c8, 728, .inl (fun _ => 0)))] := hD
  exact W.vret hx hb hr (fun t ht hW => ⟨⟨(), rfl, trivial, q8, c8, by rw [ht]; exact hP, va_K.moved hW.alike hK, hD⟩, hS.F ht⟩) hS.2.2 dX0_init_13
theorem mcI_X2 : pb_MC yX2_init cX2_init 1 none 0 := ⟨pb_inW 128 (by decide +kernel) (by decide +kernel), pb_inW 65 (by decide +kernel) (by decide +kernel), by decide +kernel, by decide +kernel, by decide +kernel⟩
theorem miI_X2 : Cond.instanceMethod yX2_init ∈ pb_gw := pb_inW 127 (by decide +kernel) (by decide +kernel)
def at_X2 (D : va_G) (A : Nat → Prop) (h0 : Nat) (_ : Unit) (t : State) : Prop := ∃ (q6 : Nat) (c6 : ClassId), va_P D vwCl [(h0, .inr (2, [.ref q6, .int 0])), (q6, .inl (c6, 4, .inl (fun _ => 0)))] t.heap ∧ va_K D vwCl [(c6, .int)] t ∧ va_D A [(h0, .inr (2, [.ref q6, .int 0])), (q6, .inl (c6, 4, .inl (fun _ => 0)))]
set_option maxHeartbeats 4000000 in
set_option maxRecDepth 100000 in
theorem ct_X2 (l : Launch) (D : va_G) (h0 sz : Nat) : Met l yX2_init (Cond.code yX2_init cX2_init 1 none :: pb_gw) { frames := 1, cells := 1, slots := 4, locals := 12 } (va_Pc [.ref h0] (fun U => U.heap.size = sz ∧ va_P D vwCl [(h0, .inr (2, [.null, .int 0]))] U.heap ∧ va_K D vwCl [] U ∧ va_D (fun _ => True) [(h0, .inr (2, [.null, .int 0]))])) (va_Qv (fun _ : Unit => True) (at_X2 D (va_A [(h0, .inr (2, [.null, .int 0]))] sz) h0) (va_A [(h0, .inr (2, [.null, .int 0]))] sz)) 1 4 (va_A [(h0, .inr (2, [.null, .int 0]))] sz) := by
  refine Met.ofW (cc := cX2_init) (maxL := 1) (ret := none) (by decide) rfl ?_
  intro p e s m args below meth c s₁ B hml hv
  obtain ⟨rfl, hsz, hP, hK, hD0⟩ := hv
  have hx := B.exec
  have hb := B.bytes
  have hr := B.returns
  have hts0 := atoms_spec (ws := Cond.code yX2_init cX2_init 1 none :: pb_gw) B.pre
  have hts : ∀ w ∈ pb_gw, w.before _ s = true := fun w hw => hts0 w (List.mem_cons_of_mem _ hw)
  have hown : s.vm.findClass RX2 = some m.cls := findClass_of_methodNamed B.named
  have hlocks := B.notSynchronized
  have hin : meth.name = "<init>" := (name_of_methodNamed B.named B.method).1
  subst hsz
  have hD := hD0.self (sz := s.heap.size)
  generalize hAe : va_A [(h0, .inr (2, [.null, .int 0]))] s.heap.size = A at hD ⊢
  have hA : ∀ q : Nat, s.heap.size ≤ q → A q := fun q h => by rw [← hAe]; exact Or.inr h
  have hS : va_S A s.heap s.heap [] := va_S.rf
  have hl := lv_entry ([.ref h0]) (n := 1) (Nat.le_of_ble_eq_true rfl)
  rw [lg_entry_eq]
  generalize (lg_sl ([.ref h0]) ++ List.replicate (1 - (lg_sl ([.ref h0])).length) Slot.unset).toArray = ls at hl ⊢
  have hl : lv_has ls 1 [(0, .ref h0)] := hl
  refine lv_aload_n hx hb dX2_init_0 rfl (lv_at hl 0 rfl) ?_
  refine W.objInit hx hb hown (hts _ ml_X2_3) (hts _ ko_i) (hts _ ko_c) rfl (by rw [hml]; exact hl.1) rfl dX2_init_1 (Nat.le_of_ble_eq_true rfl) (Nat.le_of_ble_eq_true rfl) ?_
  refine W.eq (g2 := F0 m 4 ls []) rfl ?_
  refine lv_aload_n hx hb dX2_init_4 rfl (lv_at hl 0 rfl) ?_
  refine lv_iconst (v := 4) hx hb dX2_init_5 (by decide) ?_
  refine va_newa (atype := .int) (ty := .int) (N' := 4) (a0 := (4, .inl (fun _ => 0))) hx hb (hts _ ka_I) rfl hK hP hD hS hA (fun _ => rfl) (by decide) (by decide) (by decide) (Nat.le_of_ble_eq_true rfl) (Nat.le_of_ble_eq_true rfl) dX2_init_6 (fun q6 c6 H hK hP hD hS => ?_)
  have hP : va_P D vwCl [(h0, .inr (2, [.null, .int 0])), (q6, .inl (c6, 4, .inl (fun _ => 0)))] H := hP
  have hD : va_D A [(h0, .inr (2, [.null, .int 0])), (q6, .inl (c6, 4, .inl (fun _ => 0)))] := hD
  have hK : va_K D vwCl [(c6, .int)] s := hK
  refine W.widen (k := 1) (n := 4) (by decide) (by decide) ?_
  refine va_putF (D := D) (ci := 2) (v := .ref q6) (ty := (.array .int)) (C := RX2) (T := TX2) (N := 2) hx hb hts in_X2 tyX2 tyX2_ok nmX2 hown hK hP hD hS 0 rfl rfl 0 (by decide) (hts _ fl_X2_9) (fun _ h9 => h9) rfl hin rfl (by decide +kernel) rfl rfl (Nat.le_of_ble_eq_true rfl) dX2_init_8 (fun H locs hP hD hS => ?_)
  have hP : va_P D vwCl [(h0, .inr (2, [.ref q6, .int 0])), (q6, .inl (c6, 4, .inl (fun _ => 0)))] H := hP
  have hD : va_D A [(h0, .inr (2, [.ref q6, .int 0])), (q6, .inl (c6, 4, .inl (fun _ => 0)))] := hD
  exact W.vret hx hb hr (fun t ht hW => ⟨⟨(), rfl, trivial, q6, c6, by rw [ht]; exact hP, va_K.moved hW.alike hK, hD⟩, hS.F ht⟩) hS.2.2 dX2_init_11
theorem mcI_X3 : pb_MC yX3_init cX3_init 1 none 0 := ⟨pb_inW 141 (by decide +kernel) (by decide +kernel), pb_inW 66 (by decide +kernel) (by decide +kernel), by decide +kernel, by decide +kernel, by decide +kernel⟩
theorem miI_X3 : Cond.instanceMethod yX3_init ∈ pb_gw := pb_inW 140 (by decide +kernel) (by decide +kernel)
def at_X3 (D : va_G) (A : Nat → Prop) (h0 : Nat) (_ : Unit) (t : State) : Prop := ∃ (q6 : Nat) (q13 : Nat) (c6 : ClassId) (c13 : ClassId), va_P D vwCl [(h0, .inr (3, [.ref q6, .ref q13, .int 0])), (q6, .inl (c6, 5, .inl (fun _ => 0))), (q13, .inl (c13, 4, .inl (fun _ => 0)))] t.heap ∧ va_K D vwCl [(c6, .int), (c13, .int)] t ∧ va_D A [(h0, .inr (3, [.ref q6, .ref q13, .int 0])), (q6, .inl (c6, 5, .inl (fun _ => 0))), (q13, .inl (c13, 4, .inl (fun _ => 0)))]
set_option maxHeartbeats 4000000 in
set_option maxRecDepth 100000 in
theorem ct_X3 (l : Launch) (D : va_G) (h0 sz : Nat) : Met l yX3_init (Cond.code yX3_init cX3_init 1 none :: pb_gw) { frames := 1, cells := 2, slots := 9, locals := 12 } (va_Pc [.ref h0] (fun U => U.heap.size = sz ∧ va_P D vwCl [(h0, .inr (3, [.null, .null, .int 0]))] U.heap ∧ va_K D vwCl [] U ∧ va_D (fun _ => True) [(h0, .inr (3, [.null, .null, .int 0]))])) (va_Qv (fun _ : Unit => True) (at_X3 D (va_A [(h0, .inr (3, [.null, .null, .int 0]))] sz) h0) (va_A [(h0, .inr (3, [.null, .null, .int 0]))] sz)) 2 9 (va_A [(h0, .inr (3, [.null, .null, .int 0]))] sz) := by
  refine Met.ofW (cc := cX3_init) (maxL := 1) (ret := none) (by decide) rfl ?_
  intro p e s m args below meth c s₁ B hml hv
  obtain ⟨rfl, hsz, hP, hK, hD0⟩ := hv
  have hx := B.exec
  have hb := B.bytes
  have hr := B.returns
  have hts0 := atoms_spec (ws := Cond.code yX3_init cX3_init 1 none :: pb_gw) B.pre
  have hts : ∀ w ∈ pb_gw, w.before _ s = true := fun w hw => hts0 w (List.mem_cons_of_mem _ hw)
  have hown : s.vm.findClass RX3 = some m.cls := findClass_of_methodNamed B.named
  have hlocks := B.notSynchronized
  have hin : meth.name = "<init>" := (name_of_methodNamed B.named B.method).1
  subst hsz
  have hD := hD0.self (sz := s.heap.size)
  generalize hAe : va_A [(h0, .inr (3, [.null, .null, .int 0]))] s.heap.size = A at hD ⊢
  have hA : ∀ q : Nat, s.heap.size ≤ q → A q := fun q h => by rw [← hAe]; exact Or.inr h
  have hS : va_S A s.heap s.heap [] := va_S.rf
  have hl := lv_entry ([.ref h0]) (n := 1) (Nat.le_of_ble_eq_true rfl)
  rw [lg_entry_eq]
  generalize (lg_sl ([.ref h0]) ++ List.replicate (1 - (lg_sl ([.ref h0])).length) Slot.unset).toArray = ls at hl ⊢
  have hl : lv_has ls 1 [(0, .ref h0)] := hl
  refine lv_aload_n hx hb dX3_init_0 rfl (lv_at hl 0 rfl) ?_
  refine W.objInit hx hb hown (hts _ ml_X3_3) (hts _ ko_i) (hts _ ko_c) rfl (by rw [hml]; exact hl.1) rfl dX3_init_1 (Nat.le_of_ble_eq_true rfl) (Nat.le_of_ble_eq_true rfl) ?_
  refine W.eq (g2 := F0 m 4 ls []) rfl ?_
  refine lv_aload_n hx hb dX3_init_4 rfl (lv_at hl 0 rfl) ?_
  refine lv_iconst (v := 5) hx hb dX3_init_5 (by decide) ?_
  refine va_newa (atype := .int) (ty := .int) (N' := 5) (a0 := (5, .inl (fun _ => 0))) hx hb (hts _ ka_I) rfl hK hP hD hS hA (fun _ => rfl) (by decide) (by decide) (by decide) (Nat.le_of_ble_eq_true rfl) (Nat.le_of_ble_eq_true rfl) dX3_init_6 (fun q6 c6 H hK hP hD hS => ?_)
  have hP : va_P D vwCl [(h0, .inr (3, [.null, .null, .int 0])), (q6, .inl (c6, 5, .inl (fun _ => 0)))] H := hP
  have hD : va_D A [(h0, .inr (3, [.null, .null, .int 0])), (q6, .inl (c6, 5, .inl (fun _ => 0)))] := hD
  have hK : va_K D vwCl [(c6, .int)] s := hK
  refine W.widen (k := 1) (n := 5) (by decide) (by decide) ?_
  refine va_putF (D := D) (ci := 3) (v := .ref q6) (ty := (.array .int)) (C := RX3) (T := TX3) (N := 3) hx hb hts in_X3 tyX3 tyX3_ok nmX3 hown hK hP hD hS 0 rfl rfl 0 (by decide) (hts _ fl_X3_9) (fun _ h9 => h9) rfl hin rfl (by decide +kernel) rfl rfl (Nat.le_of_ble_eq_true rfl) dX3_init_8 (fun H locs hP hD hS => ?_)
  have hP : va_P D vwCl [(h0, .inr (3, [.ref q6, .null, .int 0])), (q6, .inl (c6, 5, .inl (fun _ => 0)))] H := hP
  have hD : va_D A [(h0, .inr (3, [.ref q6, .null, .int 0])), (q6, .inl (c6, 5, .inl (fun _ => 0)))] := hD
  refine lv_aload_n hx hb dX3_init_11 rfl (lv_at hl 0 rfl) ?_
  refine lv_iconst (v := 4) hx hb dX3_init_12 (by decide) ?_
  refine va_newa (atype := .int) (ty := .int) (N' := 4) (a0 := (4, .inl (fun _ => 0))) hx hb (hts _ ka_I) rfl hK hP hD hS hA (fun _ => rfl) (by decide) (by decide) (by decide) (Nat.le_of_ble_eq_true rfl) (Nat.le_of_ble_eq_true rfl) dX3_init_13 (fun q13 c13 H hK hP hD hS => ?_)
  have hP : va_P D vwCl [(h0, .inr (3, [.ref q6, .null, .int 0])), (q6, .inl (c6, 5, .inl (fun _ => 0))), (q13, .inl (c13, 4, .inl (fun _ => 0)))] H := hP
  have hD : va_D A [(h0, .inr (3, [.ref q6, .null, .int 0])), (q6, .inl (c6, 5, .inl (fun _ => 0))), (q13, .inl (c13, 4, .inl (fun _ => 0)))] := hD
  have hK : va_K D vwCl [(c6, .int), (c13, .int)] s := hK
  refine W.widen (k := 2) (n := 9) (by decide) (by decide) ?_
  refine va_putF (D := D) (ci := 3) (v := .ref q13) (ty := (.array .int)) (C := RX3) (T := TX3) (N := 3) hx hb hts in_X3 tyX3 tyX3_ok nmX3 hown hK hP hD hS 0 rfl rfl 1 (by decide) (hts _ fl_X3_15) (fun _ h9 => h9) rfl hin rfl (by decide +kernel) rfl rfl (Nat.le_of_ble_eq_true rfl) dX3_init_15 (fun H locs hP hD hS => ?_)
  have hP : va_P D vwCl [(h0, .inr (3, [.ref q6, .ref q13, .int 0])), (q6, .inl (c6, 5, .inl (fun _ => 0))), (q13, .inl (c13, 4, .inl (fun _ => 0)))] H := hP
  have hD : va_D A [(h0, .inr (3, [.ref q6, .ref q13, .int 0])), (q6, .inl (c6, 5, .inl (fun _ => 0))), (q13, .inl (c13, 4, .inl (fun _ => 0)))] := hD
  exact W.vret hx hb hr (fun t ht hW => ⟨⟨(), rfl, trivial, q6, q13, c6, c13, by rw [ht]; exact hP, va_K.moved hW.alike hK, hD⟩, hS.F ht⟩) hS.2.2 dX3_init_18
theorem mcI_X1 : pb_MC yX1_init cX1_init 1 none 0 := ⟨pb_inW 157 (by decide +kernel) (by decide +kernel), pb_inW 67 (by decide +kernel) (by decide +kernel), by decide +kernel, by decide +kernel, by decide +kernel⟩
theorem miI_X1 : Cond.instanceMethod yX1_init ∈ pb_gw := pb_inW 156 (by decide +kernel) (by decide +kernel)
def at_X1 (D : va_G) (A : Nat → Prop) (h0 : Nat) (_ : Unit) (t : State) : Prop := ∃ (q6 : Nat) (c6 : ClassId), va_P D vwCl [(h0, .inr (1, [.ref q6, .int 0, .int 0, .int 0, .int 0, .int 0])), (q6, .inl (c6, 5, .inl (fun _ => 0)))] t.heap ∧ va_K D vwCl [(c6, .int)] t ∧ va_D A [(h0, .inr (1, [.ref q6, .int 0, .int 0, .int 0, .int 0, .int 0])), (q6, .inl (c6, 5, .inl (fun _ => 0)))]
set_option maxHeartbeats 4000000 in
set_option maxRecDepth 100000 in
theorem ct_X1 (l : Launch) (D : va_G) (h0 sz : Nat) : Met l yX1_init (Cond.code yX1_init cX1_init 1 none :: pb_gw) { frames := 1, cells := 1, slots := 5, locals := 12 } (va_Pc [.ref h0] (fun U => U.heap.size = sz ∧ va_P D vwCl [(h0, .inr (1, [.null, .int 0, .int 0, .int 0, .int 0, .int 0]))] U.heap ∧ va_K D vwCl [] U ∧ va_D (fun _ => True) [(h0, .inr (1, [.null, .int 0, .int 0, .int 0, .int 0, .int 0]))])) (va_Qv (fun _ : Unit => True) (at_X1 D (va_A [(h0, .inr (1, [.null, .int 0, .int 0, .int 0, .int 0, .int 0]))] sz) h0) (va_A [(h0, .inr (1, [.null, .int 0, .int 0, .int 0, .int 0, .int 0]))] sz)) 1 5 (va_A [(h0, .inr (1, [.null, .int 0, .int 0, .int 0, .int 0, .int 0]))] sz) := by
  refine Met.ofW (cc := cX1_init) (maxL := 1) (ret := none) (by decide) rfl ?_
  intro p e s m args below meth c s₁ B hml hv
  obtain ⟨rfl, hsz, hP, hK, hD0⟩ := hv
  have hx := B.exec
  have hb := B.bytes
  have hr := B.returns
  have hts0 := atoms_spec (ws := Cond.code yX1_init cX1_init 1 none :: pb_gw) B.pre
  have hts : ∀ w ∈ pb_gw, w.before _ s = true := fun w hw => hts0 w (List.mem_cons_of_mem _ hw)
  have hown : s.vm.findClass RX1 = some m.cls := findClass_of_methodNamed B.named
  have hlocks := B.notSynchronized
  have hin : meth.name = "<init>" := (name_of_methodNamed B.named B.method).1
  subst hsz
  have hD := hD0.self (sz := s.heap.size)
  generalize hAe : va_A [(h0, .inr (1, [.null, .int 0, .int 0, .int 0, .int 0, .int 0]))] s.heap.size = A at hD ⊢
  have hA : ∀ q : Nat, s.heap.size ≤ q → A q := fun q h => by rw [← hAe]; exact Or.inr h
  have hS : va_S A s.heap s.heap [] := va_S.rf
  have hl := lv_entry ([.ref h0]) (n := 1) (Nat.le_of_ble_eq_true rfl)
  rw [lg_entry_eq]
  generalize (lg_sl ([.ref h0]) ++ List.replicate (1 - (lg_sl ([.ref h0])).length) Slot.unset).toArray = ls at hl ⊢
  have hl : lv_has ls 1 [(0, .ref h0)] := hl
  refine lv_aload_n hx hb dX1_init_0 rfl (lv_at hl 0 rfl) ?_
  refine W.objInit hx hb hown (hts _ ml_X1_3) (hts _ ko_i) (hts _ ko_c) rfl (by rw [hml]; exact hl.1) rfl dX1_init_1 (Nat.le_of_ble_eq_true rfl) (Nat.le_of_ble_eq_true rfl) ?_
  refine W.eq (g2 := F0 m 4 ls []) rfl ?_
  refine lv_aload_n hx hb dX1_init_4 rfl (lv_at hl 0 rfl) ?_
  refine lv_iconst (v := 5) hx hb dX1_init_5 (by decide) ?_
  refine va_newa (atype := .int) (ty := .int) (N' := 5) (a0 := (5, .inl (fun _ => 0))) hx hb (hts _ ka_I) rfl hK hP hD hS hA (fun _ => rfl) (by decide) (by decide) (by decide) (Nat.le_of_ble_eq_true rfl) (Nat.le_of_ble_eq_true rfl) dX1_init_6 (fun q6 c6 H hK hP hD hS => ?_)
  have hP : va_P D vwCl [(h0, .inr (1, [.null, .int 0, .int 0, .int 0, .int 0, .int 0])), (q6, .inl (c6, 5, .inl (fun _ => 0)))] H := hP
  have hD : va_D A [(h0, .inr (1, [.null, .int 0, .int 0, .int 0, .int 0, .int 0])), (q6, .inl (c6, 5, .inl (fun _ => 0)))] := hD
  have hK : va_K D vwCl [(c6, .int)] s := hK
  refine W.widen (k := 1) (n := 5) (by decide) (by decide) ?_
  refine va_putF (D := D) (ci := 1) (v := .ref q6) (ty := (.array .int)) (C := RX1) (T := TX1) (N := 6) hx hb hts in_X1 tyX1 tyX1_ok nmX1 hown hK hP hD hS 0 rfl rfl 0 (by decide) (hts _ fl_X1_9) (fun _ h9 => h9) rfl hin rfl (by decide +kernel) rfl rfl (Nat.le_of_ble_eq_true rfl) dX1_init_8 (fun H locs hP hD hS => ?_)
  have hP : va_P D vwCl [(h0, .inr (1, [.ref q6, .int 0, .int 0, .int 0, .int 0, .int 0])), (q6, .inl (c6, 5, .inl (fun _ => 0)))] H := hP
  have hD : va_D A [(h0, .inr (1, [.ref q6, .int 0, .int 0, .int 0, .int 0, .int 0])), (q6, .inl (c6, 5, .inl (fun _ => 0)))] := hD
  exact W.vret hx hb hr (fun t ht hW => ⟨⟨(), rfl, trivial, q6, c6, by rw [ht]; exact hP, va_K.moved hW.alike hK, hD⟩, hS.F ht⟩) hS.2.2 dX1_init_11
theorem mcI_X6 : pb_MC yX6_init cX6_init 1 none 0 := ⟨pb_inW 77 (by decide +kernel) (by decide +kernel), pb_inW 61 (by decide +kernel) (by decide +kernel), by decide +kernel, by decide +kernel, by decide +kernel⟩
theorem miI_X6 : Cond.instanceMethod yX6_init ∈ pb_gw := pb_inW 76 (by decide +kernel) (by decide +kernel)
def at_X6 (D : va_G) (A : Nat → Prop) (h0 : Nat) (_ : Unit) (t : State) : Prop := ∃ (q5 : Nat) (q7_9 : Nat) (q14_9 : Nat) (q16 : Nat) (q7_20 : Nat) (q27 : Nat) (q7_31 : Nat) (q38 : Nat) (q8_42 : Nat) (q49 : Nat) (q6_53 : Nat) (q60 : Nat) (q6_64 : Nat) (q13_64 : Nat) (q71 : Nat) (q6_75 : Nat) (q84 : Nat) (q91 : Nat) (c7_9 : ClassId) (c14_9 : ClassId) (c7_20 : ClassId) (c7_31 : ClassId) (c8_42 : ClassId) (c6_53 : ClassId) (c6_64 : ClassId) (c13_64 : ClassId) (c6_75 : ClassId) (c84 : ClassId) (c91 : ClassId), va_P D vwCl [(h0, .inr (6, [.ref q5, .ref q16, .ref q27, .ref q38, .ref q49, .ref q60, .ref q71, .ref q84, .ref q91, .int 0, .long 0])), (q5, .inr (4, [.ref q7_9, .ref q14_9, .int 0])), (q7_9, .inl (c7_9, 56, .inl (fun _ => 0))), (q14_9, .inl (c14_9, 3, .inl (fun _ => 0))), (q16, .inr (5, [.ref q7_20])), (q7_20, .inl (c7_20, 52, .inl (fun _ => 0))), (q27, .inr (5, [.ref q7_31])), (q7_31, .inl (c7_31, 52, .inl (fun _ => 0))), (q38, .inr (0, [.ref q8_42, .int 0, .int 0])), (q8_42, .inl (c8_42, 728, .inl (fun _ => 0))), (q49, .inr (2, [.ref q6_53, .int 0])), (q6_53, .inl (c6_53, 4, .inl (fun _ => 0))), (q60, .inr (3, [.ref q6_64, .ref q13_64, .int 0])), (q6_64, .inl (c6_64, 5, .inl (fun _ => 0))), (q13_64, .inl (c13_64, 4, .inl (fun _ => 0))), (q71, .inr (1, [.ref q6_75, .int 0, .int 0, .int 0, .int 0, .int 0])), (q6_75, .inl (c6_75, 5, .inl (fun _ => 0))), (q84, .inl (c84, 104, .inl (fun _ => 0))), (q91, .inl (c91, 4, .inl (fun _ => 0)))] t.heap ∧ va_K D vwCl [(c7_9, .int), (c14_9, .int), (c7_20, .int), (c7_31, .int), (c8_42, .int), (c6_53, .int), (c6_64, .int), (c13_64, .int), (c6_75, .int), (c84, .int), (c91, .int)] t ∧ va_D A [(h0, .inr (6, [.ref q5, .ref q16, .ref q27, .ref q38, .ref q49, .ref q60, .ref q71, .ref q84, .ref q91, .int 0, .long 0])), (q5, .inr (4, [.ref q7_9, .ref q14_9, .int 0])), (q7_9, .inl (c7_9, 56, .inl (fun _ => 0))), (q14_9, .inl (c14_9, 3, .inl (fun _ => 0))), (q16, .inr (5, [.ref q7_20])), (q7_20, .inl (c7_20, 52, .inl (fun _ => 0))), (q27, .inr (5, [.ref q7_31])), (q7_31, .inl (c7_31, 52, .inl (fun _ => 0))), (q38, .inr (0, [.ref q8_42, .int 0, .int 0])), (q8_42, .inl (c8_42, 728, .inl (fun _ => 0))), (q49, .inr (2, [.ref q6_53, .int 0])), (q6_53, .inl (c6_53, 4, .inl (fun _ => 0))), (q60, .inr (3, [.ref q6_64, .ref q13_64, .int 0])), (q6_64, .inl (c6_64, 5, .inl (fun _ => 0))), (q13_64, .inl (c13_64, 4, .inl (fun _ => 0))), (q71, .inr (1, [.ref q6_75, .int 0, .int 0, .int 0, .int 0, .int 0])), (q6_75, .inl (c6_75, 5, .inl (fun _ => 0))), (q84, .inl (c84, 104, .inl (fun _ => 0))), (q91, .inl (c91, 4, .inl (fun _ => 0)))]
set_option maxHeartbeats 4000000 in
set_option maxRecDepth 100000 in
theorem ct_X6 (l : Launch) (D : va_G) (h0 sz : Nat) : Met l yX6_init (Cond.code yX6_init cX6_init 1 none :: pb_gw) { frames := 2, cells := 18, slots := 1036, locals := 32 } (va_Pc [.ref h0] (fun U => U.heap.size = sz ∧ va_P D vwCl [(h0, .inr (6, [.null, .null, .null, .null, .null, .null, .null, .null, .null, .int 0, .long 0]))] U.heap ∧ va_K D vwCl [] U ∧ va_D (fun _ => True) [(h0, .inr (6, [.null, .null, .null, .null, .null, .null, .null, .null, .null, .int 0, .long 0]))] ∧ (∀ q ∈ pb_nestI, va_Nw (.methodLinkNest q.1 q.2.1 q.2.2.1 q.2.2.2) U))) (va_Qv (fun _ : Unit => True) (at_X6 D (va_A [(h0, .inr (6, [.null, .null, .null, .null, .null, .null, .null, .null, .null, .int 0, .long 0]))] sz) h0) (va_A [(h0, .inr (6, [.null, .null, .null, .null, .null, .null, .null, .null, .null, .int 0, .long 0]))] sz)) 18 1036 (va_A [(h0, .inr (6, [.null, .null, .null, .null, .null, .null, .null, .null, .null, .int 0, .long 0]))] sz) := by
  refine Met.ofW (cc := cX6_init) (maxL := 1) (ret := none) (by decide) rfl ?_
  intro p e s m args below meth c s₁ B hml hv
  obtain ⟨rfl, hsz, hP, hK, hD0, hN⟩ := hv
  have hx := B.exec
  have hb := B.bytes
  have hr := B.returns
  have hts0 := atoms_spec (ws := Cond.code yX6_init cX6_init 1 none :: pb_gw) B.pre
  have hts : ∀ w ∈ pb_gw, w.before _ s = true := fun w hw => hts0 w (List.mem_cons_of_mem _ hw)
  have hown : s.vm.findClass RX6 = some m.cls := findClass_of_methodNamed B.named
  have hlocks := B.notSynchronized
  have hin : meth.name = "<init>" := (name_of_methodNamed B.named B.method).1
  subst hsz
  have hD := hD0.self (sz := s.heap.size)
  generalize hAe : va_A [(h0, .inr (6, [.null, .null, .null, .null, .null, .null, .null, .null, .null, .int 0, .long 0]))] s.heap.size = A at hD ⊢
  have hA : ∀ q : Nat, s.heap.size ≤ q → A q := fun q h => by rw [← hAe]; exact Or.inr h
  have hS : va_S A s.heap s.heap [] := va_S.rf
  have hl := lv_entry ([.ref h0]) (n := 1) (Nat.le_of_ble_eq_true rfl)
  rw [lg_entry_eq]
  generalize (lg_sl ([.ref h0]) ++ List.replicate (1 - (lg_sl ([.ref h0])).length) Slot.unset).toArray = ls at hl ⊢
  have hl : lv_has ls 1 [(0, .ref h0)] := hl
  refine lv_aload_n hx hb dX6_init_0 rfl (lv_at hl 0 rfl) ?_
  refine W.objInit hx hb hown (hts _ ml_X6_1) (hts _ ko_i) (hts _ ko_c) rfl (by rw [hml]; exact hl.1) rfl dX6_init_1 (Nat.le_of_ble_eq_true rfl) (Nat.le_of_ble_eq_true rfl) ?_
  refine W.eq (g2 := F0 m 4 ls []) rfl ?_
  refine lv_aload_n hx hb dX6_init_4 rfl (lv_at hl 0 rfl) ?_
  refine va_new (ci := 4) (fs := [.null, .null, .int 0]) (C := RX4) (T := TX4) (N := 3) hx hb hts in_X4 tyX4 tyX4_ok hown (hts _ kl_X6_7) (hts _ kn_X4) (hts _ ki_X4) hK hP hD hS hA rfl (fun j hj => by
    rcases (show j = 0 ∨ j = 1 ∨ j = 2 by omega) with rfl | rfl | rfl <;> rfl) (Nat.le_of_ble_eq_true rfl) (Nat.le_of_ble_eq_true rfl) dX6_init_5 (fun q5 H hP hD hS => ?_)
  have hP : va_P D vwCl [(h0, .inr (6, [.null, .null, .null, .null, .null, .null, .null, .null, .null, .int 0, .long 0])), (q5, .inr (4, [.null, .null, .int 0]))] H := hP
  have hD : va_D A [(h0, .inr (6, [.null, .null, .null, .null, .null, .null, .null, .null, .null, .int 0, .long 0])), (q5, .inr (4, [.null, .null, .int 0]))] := hD
  refine W.widen (k := 1) (n := 3) (by decide) (by decide) ?_
  refine lv_dup hx hb dX6_init_8 rfl ?_
  have hPc := hP.sub (ws' := [(q5, .inr (4, [.null, .null, .int 0]))]) [1] rfl
  have hDc := hD.sub (ws' := [(q5, .inr (4, [.null, .null, .int 0]))]) [1] (by decide) rfl
  have hKc := hK.sub (tys' := []) [] rfl
  have hFc := va_free (wc := [(q5, .inr (4, [.null, .null, .int 0]))]) hD hS hA [1] rfl
  refine va_callv (va_runIN (As := []) (rest := [.ref q5, .ref h0]) (Ts := pb_gw) ⟨hx, hb, hml, hown, hts⟩ (ct_X4 l D q5 H.size) ⟨va_cnB 0 hts (pb_goodC mcI_X4.1) rfl rfl rfl (hN (RX6, 9, yX4_init, "PoundBeasts") (by unfold pb_nestI; simp)) (hts _ mcI_X4.2.1) mcI_X4.2.2 ⟨Nat.le_of_ble_eq_true rfl, Nat.le_of_ble_eq_true rfl⟩, rfl, hts _ miI_X4⟩ (ct_pre hPc hKc hDc rfl) rfl rfl hl.1 rfl (lv_room (Nat.le_of_ble_eq_true rfl)) dX6_init_9 ⟨Nat.le_of_ble_eq_true rfl, Nat.le_of_ble_eq_true rfl⟩) hS (fun q _ h => hFc q h) hFc (fun u t H1 locs ht hvm _ hB hz1 hk1 hS => ?_)
  obtain ⟨q7_9, q14_9, c7_9, c14_9, hP1, hK1, hD1⟩ := hB
  rw [ht] at hP1
  have hK1 := va_K.moved hvm.symm hK1
  obtain ⟨hP, hD⟩ := va_join (wr := [(h0, .inr (6, [.null, .null, .null, .null, .null, .null, .null, .null, .null, .int 0, .long 0]))]) (w1 := [(q5, .inr (4, [.ref q7_9, .ref q14_9, .int 0])), (q7_9, .inl (c7_9, 56, .inl (fun _ => 0))), (q14_9, .inl (c14_9, 3, .inl (fun _ => 0)))]) hP hD [1] [0] rfl rfl (by decide) (by decide) hk1 hFc hP1 hD1
  have hK := (hK.sub (tys' := []) [] rfl).app hK1
  generalize H1 = H at hP hS ⊢
  have hP : va_P D vwCl [(h0, .inr (6, [.null, .null, .null, .null, .null, .null, .null, .null, .null, .int 0, .long 0])), (q5, .inr (4, [.ref q7_9, .ref q14_9, .int 0])), (q7_9, .inl (c7_9, 56, .inl (fun _ => 0))), (q14_9, .inl (c14_9, 3, .inl (fun _ => 0)))] H := hP
  have hD : va_D A [(h0, .inr (6, [.null, .null, .null, .null, .null, .null, .null, .null, .null, .int 0, .long 0])), (q5, .inr (4, [.ref q7_9, .ref q14_9, .int 0])), (q7_9, .inl (c7_9, 56, .inl (fun _ => 0))), (q14_9, .inl (c14_9, 3, .inl (fun _ => 0)))] := hD
  have hK : va_K D vwCl [(c7_9, .int), (c14_9, .int)] s := hK
  refine W.widen (k := 3) (n := 62) (by decide) (by decide) ?_
  refine va_putF (D := D) (ci := 6) (v := .ref q5) (ty := (.object "PoundBeasts$Script")) (C := RX6) (T := TX6) (N := 11) hx hb hts in_X6 tyX6 tyX6_ok nmX6 hown hK hP hD hS 0 rfl rfl 0 (by decide) (hts _ fl_X6_10) (fun _ h9 => h9) rfl hin rfl (by decide +kernel) rfl rfl (Nat.le_of_ble_eq_true rfl) dX6_init_12 (fun H locs hP hD hS => ?_)
  have hP : va_P D vwCl [(h0, .inr (6, [.ref q5, .null, .null, .null, .null, .null, .null, .null, .null, .int 0, .long 0])), (q5, .inr (4, [.ref q7_9, .ref q14_9, .int 0])), (q7_9, .inl (c7_9, 56, .inl (fun _ => 0))), (q14_9, .inl (c14_9, 3, .inl (fun _ => 0)))] H := hP
  have hD : va_D A [(h0, .inr (6, [.ref q5, .null, .null, .null, .null, .null, .null, .null, .null, .int 0, .long 0])), (q5, .inr (4, [.ref q7_9, .ref q14_9, .int 0])), (q7_9, .inl (c7_9, 56, .inl (fun _ => 0))), (q14_9, .inl (c14_9, 3, .inl (fun _ => 0)))] := hD
  refine lv_aload_n hx hb dX6_init_15 rfl (lv_at hl 0 rfl) ?_
  refine va_new (ci := 5) (fs := [.null]) (C := RX5) (T := TX5) (N := 1) hx hb hts in_X5 tyX5 tyX5_ok hown (hts _ kl_X6_16) (hts _ kn_X5) (hts _ ki_X5) hK hP hD hS hA rfl (fun j hj => by
    rcases (show j = 0 by omega) with rfl <;> rfl) (Nat.le_of_ble_eq_true rfl) (Nat.le_of_ble_eq_true rfl) dX6_init_16 (fun q16 H hP hD hS => ?_)
  have hP : va_P D vwCl [(h0, .inr (6, [.ref q5, .null, .null, .null, .null, .null, .null, .null, .null, .int 0, .long 0])), (q5, .inr (4, [.ref q7_9, .ref q14_9, .int 0])), (q7_9, .inl (c7_9, 56, .inl (fun _ => 0))), (q14_9, .inl (c14_9, 3, .inl (fun _ => 0))), (q16, .inr (5, [.null]))] H := hP
  have hD : va_D A [(h0, .inr (6, [.ref q5, .null, .null, .null, .null, .null, .null, .null, .null, .int 0, .long 0])), (q5, .inr (4, [.ref q7_9, .ref q14_9, .int 0])), (q7_9, .inl (c7_9, 56, .inl (fun _ => 0))), (q14_9, .inl (c14_9, 3, .inl (fun _ => 0))), (q16, .inr (5, [.null]))] := hD
  refine W.widen (k := 4) (n := 63) (by decide) (by decide) ?_
  refine lv_dup hx hb dX6_init_19 rfl ?_
  have hPc := hP.sub (ws' := [(q16, .inr (5, [.null]))]) [4] rfl
  have hDc := hD.sub (ws' := [(q16, .inr (5, [.null]))]) [4] (by decide) rfl
  have hKc := hK.sub (tys' := []) [] rfl
  have hFc := va_free (wc := [(q16, .inr (5, [.null]))]) hD hS hA [4] rfl
  refine va_callv (va_runIN (As := []) (rest := [.ref q16, .ref h0]) (Ts := pb_gw) ⟨hx, hb, hml, hown, hts⟩ (ct_X5 l D q16 H.size) ⟨va_cnB 0 hts (pb_goodC mcI_X5.1) rfl rfl rfl (hN (RX6, 18, yX5_init, "PoundBeasts") (by unfold pb_nestI; simp)) (hts _ mcI_X5.2.1) mcI_X5.2.2 ⟨Nat.le_of_ble_eq_true rfl, Nat.le_of_ble_eq_true rfl⟩, rfl, hts _ miI_X5⟩ (ct_pre hPc hKc hDc rfl) rfl rfl hl.1 rfl (lv_room (Nat.le_of_ble_eq_true rfl)) dX6_init_20 ⟨Nat.le_of_ble_eq_true rfl, Nat.le_of_ble_eq_true rfl⟩) hS (fun q _ h => hFc q h) hFc (fun u t H1 locs ht hvm _ hB hz1 hk1 hS => ?_)
  obtain ⟨q7_20, c7_20, hP1, hK1, hD1⟩ := hB
  rw [ht] at hP1
  have hK1 := va_K.moved hvm.symm hK1
  obtain ⟨hP, hD⟩ := va_join (wr := [(h0, .inr (6, [.ref q5, .null, .null, .null, .null, .null, .null, .null, .null, .int 0, .long 0])), (q5, .inr (4, [.ref q7_9, .ref q14_9, .int 0])), (q7_9, .inl (c7_9, 56, .inl (fun _ => 0))), (q14_9, .inl (c14_9, 3, .inl (fun _ => 0)))]) (w1 := [(q16, .inr (5, [.ref q7_20])), (q7_20, .inl (c7_20, 52, .inl (fun _ => 0)))]) hP hD [4] [0, 1, 2, 3] rfl rfl (by decide) (by decide) hk1 hFc hP1 hD1
  have hK := (hK.sub (tys' := [(c7_9, .int), (c14_9, .int)]) [0, 1] rfl).app hK1
  generalize H1 = H at hP hS ⊢
  have hP : va_P D vwCl [(h0, .inr (6, [.ref q5, .null, .null, .null, .null, .null, .null, .null, .null, .int 0, .long 0])), (q5, .inr (4, [.ref q7_9, .ref q14_9, .int 0])), (q7_9, .inl (c7_9, 56, .inl (fun _ => 0))), (q14_9, .inl (c14_9, 3, .inl (fun _ => 0))), (q16, .inr (5, [.ref q7_20])), (q7_20, .inl (c7_20, 52, .inl (fun _ => 0)))] H := hP
  have hD : va_D A [(h0, .inr (6, [.ref q5, .null, .null, .null, .null, .null, .null, .null, .null, .int 0, .long 0])), (q5, .inr (4, [.ref q7_9, .ref q14_9, .int 0])), (q7_9, .inl (c7_9, 56, .inl (fun _ => 0))), (q14_9, .inl (c14_9, 3, .inl (fun _ => 0))), (q16, .inr (5, [.ref q7_20])), (q7_20, .inl (c7_20, 52, .inl (fun _ => 0)))] := hD
  have hK : va_K D vwCl [(c7_9, .int), (c14_9, .int), (c7_20, .int)] s := hK
  refine W.widen (k := 5) (n := 115) (by decide) (by decide) ?_
  refine va_putF (D := D) (ci := 6) (v := .ref q16) (ty := (.object "PoundBeasts$Village")) (C := RX6) (T := TX6) (N := 11) hx hb hts in_X6 tyX6 tyX6_ok nmX6 hown hK hP hD hS 0 rfl rfl 1 (by decide) (hts _ fl_X6_19) (fun _ h9 => h9) rfl hin rfl (by decide +kernel) rfl rfl (Nat.le_of_ble_eq_true rfl) dX6_init_23 (fun H locs hP hD hS => ?_)
  have hP : va_P D vwCl [(h0, .inr (6, [.ref q5, .ref q16, .null, .null, .null, .null, .null, .null, .null, .int 0, .long 0])), (q5, .inr (4, [.ref q7_9, .ref q14_9, .int 0])), (q7_9, .inl (c7_9, 56, .inl (fun _ => 0))), (q14_9, .inl (c14_9, 3, .inl (fun _ => 0))), (q16, .inr (5, [.ref q7_20])), (q7_20, .inl (c7_20, 52, .inl (fun _ => 0)))] H := hP
  have hD : va_D A [(h0, .inr (6, [.ref q5, .ref q16, .null, .null, .null, .null, .null, .null, .null, .int 0, .long 0])), (q5, .inr (4, [.ref q7_9, .ref q14_9, .int 0])), (q7_9, .inl (c7_9, 56, .inl (fun _ => 0))), (q14_9, .inl (c14_9, 3, .inl (fun _ => 0))), (q16, .inr (5, [.ref q7_20])), (q7_20, .inl (c7_20, 52, .inl (fun _ => 0)))] := hD
  refine lv_aload_n hx hb dX6_init_26 rfl (lv_at hl 0 rfl) ?_
  refine va_new (ci := 5) (fs := [.null]) (C := RX5) (T := TX5) (N := 1) hx hb hts in_X5 tyX5 tyX5_ok hown (hts _ kl_X6_16) (hts _ kn_X5) (hts _ ki_X5) hK hP hD hS hA rfl (fun j hj => by
    rcases (show j = 0 by omega) with rfl <;> rfl) (Nat.le_of_ble_eq_true rfl) (Nat.le_of_ble_eq_true rfl) dX6_init_27 (fun q27 H hP hD hS => ?_)
  have hP : va_P D vwCl [(h0, .inr (6, [.ref q5, .ref q16, .null, .null, .null, .null, .null, .null, .null, .int 0, .long 0])), (q5, .inr (4, [.ref q7_9, .ref q14_9, .int 0])), (q7_9, .inl (c7_9, 56, .inl (fun _ => 0))), (q14_9, .inl (c14_9, 3, .inl (fun _ => 0))), (q16, .inr (5, [.ref q7_20])), (q7_20, .inl (c7_20, 52, .inl (fun _ => 0))), (q27, .inr (5, [.null]))] H := hP
  have hD : va_D A [(h0, .inr (6, [.ref q5, .ref q16, .null, .null, .null, .null, .null, .null, .null, .int 0, .long 0])), (q5, .inr (4, [.ref q7_9, .ref q14_9, .int 0])), (q7_9, .inl (c7_9, 56, .inl (fun _ => 0))), (q14_9, .inl (c14_9, 3, .inl (fun _ => 0))), (q16, .inr (5, [.ref q7_20])), (q7_20, .inl (c7_20, 52, .inl (fun _ => 0))), (q27, .inr (5, [.null]))] := hD
  refine W.widen (k := 6) (n := 116) (by decide) (by decide) ?_
  refine lv_dup hx hb dX6_init_30 rfl ?_
  have hPc := hP.sub (ws' := [(q27, .inr (5, [.null]))]) [6] rfl
  have hDc := hD.sub (ws' := [(q27, .inr (5, [.null]))]) [6] (by decide) rfl
  have hKc := hK.sub (tys' := []) [] rfl
  have hFc := va_free (wc := [(q27, .inr (5, [.null]))]) hD hS hA [6] rfl
  refine va_callv (va_runIN (As := []) (rest := [.ref q27, .ref h0]) (Ts := pb_gw) ⟨hx, hb, hml, hown, hts⟩ (ct_X5 l D q27 H.size) ⟨va_cnB 0 hts (pb_goodC mcI_X5.1) rfl rfl rfl (hN (RX6, 18, yX5_init, "PoundBeasts") (by unfold pb_nestI; simp)) (hts _ mcI_X5.2.1) mcI_X5.2.2 ⟨Nat.le_of_ble_eq_true rfl, Nat.le_of_ble_eq_true rfl⟩, rfl, hts _ miI_X5⟩ (ct_pre hPc hKc hDc rfl) rfl rfl hl.1 rfl (lv_room (Nat.le_of_ble_eq_true rfl)) dX6_init_31 ⟨Nat.le_of_ble_eq_true rfl, Nat.le_of_ble_eq_true rfl⟩) hS (fun q _ h => hFc q h) hFc (fun u t H1 locs ht hvm _ hB hz1 hk1 hS => ?_)
  obtain ⟨q7_31, c7_31, hP1, hK1, hD1⟩ := hB
  rw [ht] at hP1
  have hK1 := va_K.moved hvm.symm hK1
  obtain ⟨hP, hD⟩ := va_join (wr := [(h0, .inr (6, [.ref q5, .ref q16, .null, .null, .null, .null, .null, .null, .null, .int 0, .long 0])), (q5, .inr (4, [.ref q7_9, .ref q14_9, .int 0])), (q7_9, .inl (c7_9, 56, .inl (fun _ => 0))), (q14_9, .inl (c14_9, 3, .inl (fun _ => 0))), (q16, .inr (5, [.ref q7_20])), (q7_20, .inl (c7_20, 52, .inl (fun _ => 0)))]) (w1 := [(q27, .inr (5, [.ref q7_31])), (q7_31, .inl (c7_31, 52, .inl (fun _ => 0)))]) hP hD [6] [0, 1, 2, 3, 4, 5] rfl rfl (by decide) (by decide) hk1 hFc hP1 hD1
  have hK := (hK.sub (tys' := [(c7_9, .int), (c14_9, .int), (c7_20, .int)]) [0, 1, 2] rfl).app hK1
  generalize H1 = H at hP hS ⊢
  have hP : va_P D vwCl [(h0, .inr (6, [.ref q5, .ref q16, .null, .null, .null, .null, .null, .null, .null, .int 0, .long 0])), (q5, .inr (4, [.ref q7_9, .ref q14_9, .int 0])), (q7_9, .inl (c7_9, 56, .inl (fun _ => 0))), (q14_9, .inl (c14_9, 3, .inl (fun _ => 0))), (q16, .inr (5, [.ref q7_20])), (q7_20, .inl (c7_20, 52, .inl (fun _ => 0))), (q27, .inr (5, [.ref q7_31])), (q7_31, .inl (c7_31, 52, .inl (fun _ => 0)))] H := hP
  have hD : va_D A [(h0, .inr (6, [.ref q5, .ref q16, .null, .null, .null, .null, .null, .null, .null, .int 0, .long 0])), (q5, .inr (4, [.ref q7_9, .ref q14_9, .int 0])), (q7_9, .inl (c7_9, 56, .inl (fun _ => 0))), (q14_9, .inl (c14_9, 3, .inl (fun _ => 0))), (q16, .inr (5, [.ref q7_20])), (q7_20, .inl (c7_20, 52, .inl (fun _ => 0))), (q27, .inr (5, [.ref q7_31])), (q7_31, .inl (c7_31, 52, .inl (fun _ => 0)))] := hD
  have hK : va_K D vwCl [(c7_9, .int), (c14_9, .int), (c7_20, .int), (c7_31, .int)] s := hK
  refine W.widen (k := 7) (n := 168) (by decide) (by decide) ?_
  refine va_putF (D := D) (ci := 6) (v := .ref q27) (ty := (.object "PoundBeasts$Village")) (C := RX6) (T := TX6) (N := 11) hx hb hts in_X6 tyX6 tyX6_ok nmX6 hown hK hP hD hS 0 rfl rfl 2 (by decide) (hts _ fl_X6_23) (fun _ h9 => h9) rfl hin rfl (by decide +kernel) rfl rfl (Nat.le_of_ble_eq_true rfl) dX6_init_34 (fun H locs hP hD hS => ?_)
  have hP : va_P D vwCl [(h0, .inr (6, [.ref q5, .ref q16, .ref q27, .null, .null, .null, .null, .null, .null, .int 0, .long 0])), (q5, .inr (4, [.ref q7_9, .ref q14_9, .int 0])), (q7_9, .inl (c7_9, 56, .inl (fun _ => 0))), (q14_9, .inl (c14_9, 3, .inl (fun _ => 0))), (q16, .inr (5, [.ref q7_20])), (q7_20, .inl (c7_20, 52, .inl (fun _ => 0))), (q27, .inr (5, [.ref q7_31])), (q7_31, .inl (c7_31, 52, .inl (fun _ => 0)))] H := hP
  have hD : va_D A [(h0, .inr (6, [.ref q5, .ref q16, .ref q27, .null, .null, .null, .null, .null, .null, .int 0, .long 0])), (q5, .inr (4, [.ref q7_9, .ref q14_9, .int 0])), (q7_9, .inl (c7_9, 56, .inl (fun _ => 0))), (q14_9, .inl (c14_9, 3, .inl (fun _ => 0))), (q16, .inr (5, [.ref q7_20])), (q7_20, .inl (c7_20, 52, .inl (fun _ => 0))), (q27, .inr (5, [.ref q7_31])), (q7_31, .inl (c7_31, 52, .inl (fun _ => 0)))] := hD
  refine lv_aload_n hx hb dX6_init_37 rfl (lv_at hl 0 rfl) ?_
  refine va_new (ci := 0) (fs := [.null, .int 0, .int 0]) (C := RX0) (T := TX0) (N := 3) hx hb hts in_X0 tyX0 tyX0_ok hown (hts _ kl_X6_26) (hts _ kn_X0) (hts _ ki_X0) hK hP hD hS hA rfl (fun j hj => by
    rcases (show j = 0 ∨ j = 1 ∨ j = 2 by omega) with rfl | rfl | rfl <;> rfl) (Nat.le_of_ble_eq_true rfl) (Nat.le_of_ble_eq_true rfl) dX6_init_38 (fun q38 H hP hD hS => ?_)
  have hP : va_P D vwCl [(h0, .inr (6, [.ref q5, .ref q16, .ref q27, .null, .null, .null, .null, .null, .null, .int 0, .long 0])), (q5, .inr (4, [.ref q7_9, .ref q14_9, .int 0])), (q7_9, .inl (c7_9, 56, .inl (fun _ => 0))), (q14_9, .inl (c14_9, 3, .inl (fun _ => 0))), (q16, .inr (5, [.ref q7_20])), (q7_20, .inl (c7_20, 52, .inl (fun _ => 0))), (q27, .inr (5, [.ref q7_31])), (q7_31, .inl (c7_31, 52, .inl (fun _ => 0))), (q38, .inr (0, [.null, .int 0, .int 0]))] H := hP
  have hD : va_D A [(h0, .inr (6, [.ref q5, .ref q16, .ref q27, .null, .null, .null, .null, .null, .null, .int 0, .long 0])), (q5, .inr (4, [.ref q7_9, .ref q14_9, .int 0])), (q7_9, .inl (c7_9, 56, .inl (fun _ => 0))), (q14_9, .inl (c14_9, 3, .inl (fun _ => 0))), (q16, .inr (5, [.ref q7_20])), (q7_20, .inl (c7_20, 52, .inl (fun _ => 0))), (q27, .inr (5, [.ref q7_31])), (q7_31, .inl (c7_31, 52, .inl (fun _ => 0))), (q38, .inr (0, [.null, .int 0, .int 0]))] := hD
  refine W.widen (k := 8) (n := 171) (by decide) (by decide) ?_
  refine lv_dup hx hb dX6_init_41 rfl ?_
  have hPc := hP.sub (ws' := [(q38, .inr (0, [.null, .int 0, .int 0]))]) [8] rfl
  have hDc := hD.sub (ws' := [(q38, .inr (0, [.null, .int 0, .int 0]))]) [8] (by decide) rfl
  have hKc := hK.sub (tys' := []) [] rfl
  have hFc := va_free (wc := [(q38, .inr (0, [.null, .int 0, .int 0]))]) hD hS hA [8] rfl
  refine va_callv (va_runIN (As := []) (rest := [.ref q38, .ref h0]) (Ts := pb_gw) ⟨hx, hb, hml, hown, hts⟩ (ct_X0 l D q38 H.size) ⟨va_cnB 0 hts (pb_goodC mcI_X0.1) rfl rfl rfl (hN (RX6, 28, yX0_init, "PoundBeasts") (by unfold pb_nestI; simp)) (hts _ mcI_X0.2.1) mcI_X0.2.2 ⟨Nat.le_of_ble_eq_true rfl, Nat.le_of_ble_eq_true rfl⟩, rfl, hts _ miI_X0⟩ (ct_pre hPc hKc hDc rfl) rfl rfl hl.1 rfl (lv_room (Nat.le_of_ble_eq_true rfl)) dX6_init_42 ⟨Nat.le_of_ble_eq_true rfl, Nat.le_of_ble_eq_true rfl⟩) hS (fun q _ h => hFc q h) hFc (fun u t H1 locs ht hvm _ hB hz1 hk1 hS => ?_)
  obtain ⟨q8_42, c8_42, hP1, hK1, hD1⟩ := hB
  rw [ht] at hP1
  have hK1 := va_K.moved hvm.symm hK1
  obtain ⟨hP, hD⟩ := va_join (wr := [(h0, .inr (6, [.ref q5, .ref q16, .ref q27, .null, .null, .null, .null, .null, .null, .int 0, .long 0])), (q5, .inr (4, [.ref q7_9, .ref q14_9, .int 0])), (q7_9, .inl (c7_9, 56, .inl (fun _ => 0))), (q14_9, .inl (c14_9, 3, .inl (fun _ => 0))), (q16, .inr (5, [.ref q7_20])), (q7_20, .inl (c7_20, 52, .inl (fun _ => 0))), (q27, .inr (5, [.ref q7_31])), (q7_31, .inl (c7_31, 52, .inl (fun _ => 0)))]) (w1 := [(q38, .inr (0, [.ref q8_42, .int 0, .int 0])), (q8_42, .inl (c8_42, 728, .inl (fun _ => 0)))]) hP hD [8] [0, 1, 2, 3, 4, 5, 6, 7] rfl rfl (by decide) (by decide) hk1 hFc hP1 hD1
  have hK := (hK.sub (tys' := [(c7_9, .int), (c14_9, .int), (c7_20, .int), (c7_31, .int)]) [0, 1, 2, 3] rfl).app hK1
  generalize H1 = H at hP hS ⊢
  have hP : va_P D vwCl [(h0, .inr (6, [.ref q5, .ref q16, .ref q27, .null, .null, .null, .null, .null, .null, .int 0, .long 0])), (q5, .inr (4, [.ref q7_9, .ref q14_9, .int 0])), (q7_9, .inl (c7_9, 56, .inl (fun _ => 0))), (q14_9, .inl (c14_9, 3, .inl (fun _ => 0))), (q16, .inr (5, [.ref q7_20])), (q7_20, .inl (c7_20, 52, .inl (fun _ => 0))), (q27, .inr (5, [.ref q7_31])), (q7_31, .inl (c7_31, 52, .inl (fun _ => 0))), (q38, .inr (0, [.ref q8_42, .int 0, .int 0])), (q8_42, .inl (c8_42, 728, .inl (fun _ => 0)))] H := hP
  have hD : va_D A [(h0, .inr (6, [.ref q5, .ref q16, .ref q27, .null, .null, .null, .null, .null, .null, .int 0, .long 0])), (q5, .inr (4, [.ref q7_9, .ref q14_9, .int 0])), (q7_9, .inl (c7_9, 56, .inl (fun _ => 0))), (q14_9, .inl (c14_9, 3, .inl (fun _ => 0))), (q16, .inr (5, [.ref q7_20])), (q7_20, .inl (c7_20, 52, .inl (fun _ => 0))), (q27, .inr (5, [.ref q7_31])), (q7_31, .inl (c7_31, 52, .inl (fun _ => 0))), (q38, .inr (0, [.ref q8_42, .int 0, .int 0])), (q8_42, .inl (c8_42, 728, .inl (fun _ => 0)))] := hD
  have hK : va_K D vwCl [(c7_9, .int), (c14_9, .int), (c7_20, .int), (c7_31, .int), (c8_42, .int)] s := hK
  refine W.widen (k := 9) (n := 899) (by decide) (by decide) ?_
  refine va_putF (D := D) (ci := 6) (v := .ref q38) (ty := (.object "PoundBeasts$Acts")) (C := RX6) (T := TX6) (N := 11) hx hb hts in_X6 tyX6 tyX6_ok nmX6 hown hK hP hD hS 0 rfl rfl 3 (by decide) (hts _ fl_X6_29) (fun _ h9 => h9) rfl hin rfl (by decide +kernel) rfl rfl (Nat.le_of_ble_eq_true rfl) dX6_init_45 (fun H locs hP hD hS => ?_)
  have hP : va_P D vwCl [(h0, .inr (6, [.ref q5, .ref q16, .ref q27, .ref q38, .null, .null, .null, .null, .null, .int 0, .long 0])), (q5, .inr (4, [.ref q7_9, .ref q14_9, .int 0])), (q7_9, .inl (c7_9, 56, .inl (fun _ => 0))), (q14_9, .inl (c14_9, 3, .inl (fun _ => 0))), (q16, .inr (5, [.ref q7_20])), (q7_20, .inl (c7_20, 52, .inl (fun _ => 0))), (q27, .inr (5, [.ref q7_31])), (q7_31, .inl (c7_31, 52, .inl (fun _ => 0))), (q38, .inr (0, [.ref q8_42, .int 0, .int 0])), (q8_42, .inl (c8_42, 728, .inl (fun _ => 0)))] H := hP
  have hD : va_D A [(h0, .inr (6, [.ref q5, .ref q16, .ref q27, .ref q38, .null, .null, .null, .null, .null, .int 0, .long 0])), (q5, .inr (4, [.ref q7_9, .ref q14_9, .int 0])), (q7_9, .inl (c7_9, 56, .inl (fun _ => 0))), (q14_9, .inl (c14_9, 3, .inl (fun _ => 0))), (q16, .inr (5, [.ref q7_20])), (q7_20, .inl (c7_20, 52, .inl (fun _ => 0))), (q27, .inr (5, [.ref q7_31])), (q7_31, .inl (c7_31, 52, .inl (fun _ => 0))), (q38, .inr (0, [.ref q8_42, .int 0, .int 0])), (q8_42, .inl (c8_42, 728, .inl (fun _ => 0)))] := hD
  refine lv_aload_n hx hb dX6_init_48 rfl (lv_at hl 0 rfl) ?_
  refine va_new (ci := 2) (fs := [.null, .int 0]) (C := RX2) (T := TX2) (N := 2) hx hb hts in_X2 tyX2 tyX2_ok hown (hts _ kl_X6_33) (hts _ kn_X2) (hts _ ki_X2) hK hP hD hS hA rfl (fun j hj => by
    rcases (show j = 0 ∨ j = 1 by omega) with rfl | rfl <;> rfl) (Nat.le_of_ble_eq_true rfl) (Nat.le_of_ble_eq_true rfl) dX6_init_49 (fun q49 H hP hD hS => ?_)
  have hP : va_P D vwCl [(h0, .inr (6, [.ref q5, .ref q16, .ref q27, .ref q38, .null, .null, .null, .null, .null, .int 0, .long 0])), (q5, .inr (4, [.ref q7_9, .ref q14_9, .int 0])), (q7_9, .inl (c7_9, 56, .inl (fun _ => 0))), (q14_9, .inl (c14_9, 3, .inl (fun _ => 0))), (q16, .inr (5, [.ref q7_20])), (q7_20, .inl (c7_20, 52, .inl (fun _ => 0))), (q27, .inr (5, [.ref q7_31])), (q7_31, .inl (c7_31, 52, .inl (fun _ => 0))), (q38, .inr (0, [.ref q8_42, .int 0, .int 0])), (q8_42, .inl (c8_42, 728, .inl (fun _ => 0))), (q49, .inr (2, [.null, .int 0]))] H := hP
  have hD : va_D A [(h0, .inr (6, [.ref q5, .ref q16, .ref q27, .ref q38, .null, .null, .null, .null, .null, .int 0, .long 0])), (q5, .inr (4, [.ref q7_9, .ref q14_9, .int 0])), (q7_9, .inl (c7_9, 56, .inl (fun _ => 0))), (q14_9, .inl (c14_9, 3, .inl (fun _ => 0))), (q16, .inr (5, [.ref q7_20])), (q7_20, .inl (c7_20, 52, .inl (fun _ => 0))), (q27, .inr (5, [.ref q7_31])), (q7_31, .inl (c7_31, 52, .inl (fun _ => 0))), (q38, .inr (0, [.ref q8_42, .int 0, .int 0])), (q8_42, .inl (c8_42, 728, .inl (fun _ => 0))), (q49, .inr (2, [.null, .int 0]))] := hD
  refine W.widen (k := 10) (n := 901) (by decide) (by decide) ?_
  refine lv_dup hx hb dX6_init_52 rfl ?_
  have hPc := hP.sub (ws' := [(q49, .inr (2, [.null, .int 0]))]) [10] rfl
  have hDc := hD.sub (ws' := [(q49, .inr (2, [.null, .int 0]))]) [10] (by decide) rfl
  have hKc := hK.sub (tys' := []) [] rfl
  have hFc := va_free (wc := [(q49, .inr (2, [.null, .int 0]))]) hD hS hA [10] rfl
  refine va_callv (va_runIN (As := []) (rest := [.ref q49, .ref h0]) (Ts := pb_gw) ⟨hx, hb, hml, hown, hts⟩ (ct_X2 l D q49 H.size) ⟨va_cnB 0 hts (pb_goodC mcI_X2.1) rfl rfl rfl (hN (RX6, 35, yX2_init, "PoundBeasts") (by unfold pb_nestI; simp)) (hts _ mcI_X2.2.1) mcI_X2.2.2 ⟨Nat.le_of_ble_eq_true rfl, Nat.le_of_ble_eq_true rfl⟩, rfl, hts _ miI_X2⟩ (ct_pre hPc hKc hDc rfl) rfl rfl hl.1 rfl (lv_room (Nat.le_of_ble_eq_true rfl)) dX6_init_53 ⟨Nat.le_of_ble_eq_true rfl, Nat.le_of_ble_eq_true rfl⟩) hS (fun q _ h => hFc q h) hFc (fun u t H1 locs ht hvm _ hB hz1 hk1 hS => ?_)
  obtain ⟨q6_53, c6_53, hP1, hK1, hD1⟩ := hB
  rw [ht] at hP1
  have hK1 := va_K.moved hvm.symm hK1
  obtain ⟨hP, hD⟩ := va_join (wr := [(h0, .inr (6, [.ref q5, .ref q16, .ref q27, .ref q38, .null, .null, .null, .null, .null, .int 0, .long 0])), (q5, .inr (4, [.ref q7_9, .ref q14_9, .int 0])), (q7_9, .inl (c7_9, 56, .inl (fun _ => 0))), (q14_9, .inl (c14_9, 3, .inl (fun _ => 0))), (q16, .inr (5, [.ref q7_20])), (q7_20, .inl (c7_20, 52, .inl (fun _ => 0))), (q27, .inr (5, [.ref q7_31])), (q7_31, .inl (c7_31, 52, .inl (fun _ => 0))), (q38, .inr (0, [.ref q8_42, .int 0, .int 0])), (q8_42, .inl (c8_42, 728, .inl (fun _ => 0)))]) (w1 := [(q49, .inr (2, [.ref q6_53, .int 0])), (q6_53, .inl (c6_53, 4, .inl (fun _ => 0)))]) hP hD [10] [0, 1, 2, 3, 4, 5, 6, 7, 8, 9] rfl rfl (by decide) (by decide) hk1 hFc hP1 hD1
  have hK := (hK.sub (tys' := [(c7_9, .int), (c14_9, .int), (c7_20, .int), (c7_31, .int), (c8_42, .int)]) [0, 1, 2, 3, 4] rfl).app hK1
  generalize H1 = H at hP hS ⊢
  have hP : va_P D vwCl [(h0, .inr (6, [.ref q5, .ref q16, .ref q27, .ref q38, .null, .null, .null, .null, .null, .int 0, .long 0])), (q5, .inr (4, [.ref q7_9, .ref q14_9, .int 0])), (q7_9, .inl (c7_9, 56, .inl (fun _ => 0))), (q14_9, .inl (c14_9, 3, .inl (fun _ => 0))), (q16, .inr (5, [.ref q7_20])), (q7_20, .inl (c7_20, 52, .inl (fun _ => 0))), (q27, .inr (5, [.ref q7_31])), (q7_31, .inl (c7_31, 52, .inl (fun _ => 0))), (q38, .inr (0, [.ref q8_42, .int 0, .int 0])), (q8_42, .inl (c8_42, 728, .inl (fun _ => 0))), (q49, .inr (2, [.ref q6_53, .int 0])), (q6_53, .inl (c6_53, 4, .inl (fun _ => 0)))] H := hP
  have hD : va_D A [(h0, .inr (6, [.ref q5, .ref q16, .ref q27, .ref q38, .null, .null, .null, .null, .null, .int 0, .long 0])), (q5, .inr (4, [.ref q7_9, .ref q14_9, .int 0])), (q7_9, .inl (c7_9, 56, .inl (fun _ => 0))), (q14_9, .inl (c14_9, 3, .inl (fun _ => 0))), (q16, .inr (5, [.ref q7_20])), (q7_20, .inl (c7_20, 52, .inl (fun _ => 0))), (q27, .inr (5, [.ref q7_31])), (q7_31, .inl (c7_31, 52, .inl (fun _ => 0))), (q38, .inr (0, [.ref q8_42, .int 0, .int 0])), (q8_42, .inl (c8_42, 728, .inl (fun _ => 0))), (q49, .inr (2, [.ref q6_53, .int 0])), (q6_53, .inl (c6_53, 4, .inl (fun _ => 0)))] := hD
  have hK : va_K D vwCl [(c7_9, .int), (c14_9, .int), (c7_20, .int), (c7_31, .int), (c8_42, .int), (c6_53, .int)] s := hK
  refine W.widen (k := 11) (n := 905) (by decide) (by decide) ?_
  refine va_putF (D := D) (ci := 6) (v := .ref q49) (ty := (.object "PoundBeasts$Matching")) (C := RX6) (T := TX6) (N := 11) hx hb hts in_X6 tyX6 tyX6_ok nmX6 hown hK hP hD hS 0 rfl rfl 4 (by decide) (hts _ fl_X6_36) (fun _ h9 => h9) rfl hin rfl (by decide +kernel) rfl rfl (Nat.le_of_ble_eq_true rfl) dX6_init_56 (fun H locs hP hD hS => ?_)
  have hP : va_P D vwCl [(h0, .inr (6, [.ref q5, .ref q16, .ref q27, .ref q38, .ref q49, .null, .null, .null, .null, .int 0, .long 0])), (q5, .inr (4, [.ref q7_9, .ref q14_9, .int 0])), (q7_9, .inl (c7_9, 56, .inl (fun _ => 0))), (q14_9, .inl (c14_9, 3, .inl (fun _ => 0))), (q16, .inr (5, [.ref q7_20])), (q7_20, .inl (c7_20, 52, .inl (fun _ => 0))), (q27, .inr (5, [.ref q7_31])), (q7_31, .inl (c7_31, 52, .inl (fun _ => 0))), (q38, .inr (0, [.ref q8_42, .int 0, .int 0])), (q8_42, .inl (c8_42, 728, .inl (fun _ => 0))), (q49, .inr (2, [.ref q6_53, .int 0])), (q6_53, .inl (c6_53, 4, .inl (fun _ => 0)))] H := hP
  have hD : va_D A [(h0, .inr (6, [.ref q5, .ref q16, .ref q27, .ref q38, .ref q49, .null, .null, .null, .null, .int 0, .long 0])), (q5, .inr (4, [.ref q7_9, .ref q14_9, .int 0])), (q7_9, .inl (c7_9, 56, .inl (fun _ => 0))), (q14_9, .inl (c14_9, 3, .inl (fun _ => 0))), (q16, .inr (5, [.ref q7_20])), (q7_20, .inl (c7_20, 52, .inl (fun _ => 0))), (q27, .inr (5, [.ref q7_31])), (q7_31, .inl (c7_31, 52, .inl (fun _ => 0))), (q38, .inr (0, [.ref q8_42, .int 0, .int 0])), (q8_42, .inl (c8_42, 728, .inl (fun _ => 0))), (q49, .inr (2, [.ref q6_53, .int 0])), (q6_53, .inl (c6_53, 4, .inl (fun _ => 0)))] := hD
  refine lv_aload_n hx hb dX6_init_59 rfl (lv_at hl 0 rfl) ?_
  refine va_new (ci := 3) (fs := [.null, .null, .int 0]) (C := RX3) (T := TX3) (N := 3) hx hb hts in_X3 tyX3 tyX3_ok hown (hts _ kl_X6_40) (hts _ kn_X3) (hts _ ki_X3) hK hP hD hS hA rfl (fun j hj => by
    rcases (show j = 0 ∨ j = 1 ∨ j = 2 by omega) with rfl | rfl | rfl <;> rfl) (Nat.le_of_ble_eq_true rfl) (Nat.le_of_ble_eq_true rfl) dX6_init_60 (fun q60 H hP hD hS => ?_)
  have hP : va_P D vwCl [(h0, .inr (6, [.ref q5, .ref q16, .ref q27, .ref q38, .ref q49, .null, .null, .null, .null, .int 0, .long 0])), (q5, .inr (4, [.ref q7_9, .ref q14_9, .int 0])), (q7_9, .inl (c7_9, 56, .inl (fun _ => 0))), (q14_9, .inl (c14_9, 3, .inl (fun _ => 0))), (q16, .inr (5, [.ref q7_20])), (q7_20, .inl (c7_20, 52, .inl (fun _ => 0))), (q27, .inr (5, [.ref q7_31])), (q7_31, .inl (c7_31, 52, .inl (fun _ => 0))), (q38, .inr (0, [.ref q8_42, .int 0, .int 0])), (q8_42, .inl (c8_42, 728, .inl (fun _ => 0))), (q49, .inr (2, [.ref q6_53, .int 0])), (q6_53, .inl (c6_53, 4, .inl (fun _ => 0))), (q60, .inr (3, [.null, .null, .int 0]))] H := hP
  have hD : va_D A [(h0, .inr (6, [.ref q5, .ref q16, .ref q27, .ref q38, .ref q49, .null, .null, .null, .null, .int 0, .long 0])), (q5, .inr (4, [.ref q7_9, .ref q14_9, .int 0])), (q7_9, .inl (c7_9, 56, .inl (fun _ => 0))), (q14_9, .inl (c14_9, 3, .inl (fun _ => 0))), (q16, .inr (5, [.ref q7_20])), (q7_20, .inl (c7_20, 52, .inl (fun _ => 0))), (q27, .inr (5, [.ref q7_31])), (q7_31, .inl (c7_31, 52, .inl (fun _ => 0))), (q38, .inr (0, [.ref q8_42, .int 0, .int 0])), (q8_42, .inl (c8_42, 728, .inl (fun _ => 0))), (q49, .inr (2, [.ref q6_53, .int 0])), (q6_53, .inl (c6_53, 4, .inl (fun _ => 0))), (q60, .inr (3, [.null, .null, .int 0]))] := hD
  refine W.widen (k := 12) (n := 908) (by decide) (by decide) ?_
  refine lv_dup hx hb dX6_init_63 rfl ?_
  have hPc := hP.sub (ws' := [(q60, .inr (3, [.null, .null, .int 0]))]) [12] rfl
  have hDc := hD.sub (ws' := [(q60, .inr (3, [.null, .null, .int 0]))]) [12] (by decide) rfl
  have hKc := hK.sub (tys' := []) [] rfl
  have hFc := va_free (wc := [(q60, .inr (3, [.null, .null, .int 0]))]) hD hS hA [12] rfl
  refine va_callv (va_runIN (As := []) (rest := [.ref q60, .ref h0]) (Ts := pb_gw) ⟨hx, hb, hml, hown, hts⟩ (ct_X3 l D q60 H.size) ⟨va_cnB 0 hts (pb_goodC mcI_X3.1) rfl rfl rfl (hN (RX6, 42, yX3_init, "PoundBeasts") (by unfold pb_nestI; simp)) (hts _ mcI_X3.2.1) mcI_X3.2.2 ⟨Nat.le_of_ble_eq_true rfl, Nat.le_of_ble_eq_true rfl⟩, rfl, hts _ miI_X3⟩ (ct_pre hPc hKc hDc rfl) rfl rfl hl.1 rfl (lv_room (Nat.le_of_ble_eq_true rfl)) dX6_init_64 ⟨Nat.le_of_ble_eq_true rfl, Nat.le_of_ble_eq_true rfl⟩) hS (fun q _ h => hFc q h) hFc (fun u t H1 locs ht hvm _ hB hz1 hk1 hS => ?_)
  obtain ⟨q6_64, q13_64, c6_64, c13_64, hP1, hK1, hD1⟩ := hB
  rw [ht] at hP1
  have hK1 := va_K.moved hvm.symm hK1
  obtain ⟨hP, hD⟩ := va_join (wr := [(h0, .inr (6, [.ref q5, .ref q16, .ref q27, .ref q38, .ref q49, .null, .null, .null, .null, .int 0, .long 0])), (q5, .inr (4, [.ref q7_9, .ref q14_9, .int 0])), (q7_9, .inl (c7_9, 56, .inl (fun _ => 0))), (q14_9, .inl (c14_9, 3, .inl (fun _ => 0))), (q16, .inr (5, [.ref q7_20])), (q7_20, .inl (c7_20, 52, .inl (fun _ => 0))), (q27, .inr (5, [.ref q7_31])), (q7_31, .inl (c7_31, 52, .inl (fun _ => 0))), (q38, .inr (0, [.ref q8_42, .int 0, .int 0])), (q8_42, .inl (c8_42, 728, .inl (fun _ => 0))), (q49, .inr (2, [.ref q6_53, .int 0])), (q6_53, .inl (c6_53, 4, .inl (fun _ => 0)))]) (w1 := [(q60, .inr (3, [.ref q6_64, .ref q13_64, .int 0])), (q6_64, .inl (c6_64, 5, .inl (fun _ => 0))), (q13_64, .inl (c13_64, 4, .inl (fun _ => 0)))]) hP hD [12] [0, 1, 2, 3, 4, 5, 6, 7, 8, 9, 10, 11] rfl rfl (by decide) (by decide) hk1 hFc hP1 hD1
  have hK := (hK.sub (tys' := [(c7_9, .int), (c14_9, .int), (c7_20, .int), (c7_31, .int), (c8_42, .int), (c6_53, .int)]) [0, 1, 2, 3, 4, 5] rfl).app hK1
  generalize H1 = H at hP hS ⊢
  have hP : va_P D vwCl [(h0, .inr (6, [.ref q5, .ref q16, .ref q27, .ref q38, .ref q49, .null, .null, .null, .null, .int 0, .long 0])), (q5, .inr (4, [.ref q7_9, .ref q14_9, .int 0])), (q7_9, .inl (c7_9, 56, .inl (fun _ => 0))), (q14_9, .inl (c14_9, 3, .inl (fun _ => 0))), (q16, .inr (5, [.ref q7_20])), (q7_20, .inl (c7_20, 52, .inl (fun _ => 0))), (q27, .inr (5, [.ref q7_31])), (q7_31, .inl (c7_31, 52, .inl (fun _ => 0))), (q38, .inr (0, [.ref q8_42, .int 0, .int 0])), (q8_42, .inl (c8_42, 728, .inl (fun _ => 0))), (q49, .inr (2, [.ref q6_53, .int 0])), (q6_53, .inl (c6_53, 4, .inl (fun _ => 0))), (q60, .inr (3, [.ref q6_64, .ref q13_64, .int 0])), (q6_64, .inl (c6_64, 5, .inl (fun _ => 0))), (q13_64, .inl (c13_64, 4, .inl (fun _ => 0)))] H := hP
  have hD : va_D A [(h0, .inr (6, [.ref q5, .ref q16, .ref q27, .ref q38, .ref q49, .null, .null, .null, .null, .int 0, .long 0])), (q5, .inr (4, [.ref q7_9, .ref q14_9, .int 0])), (q7_9, .inl (c7_9, 56, .inl (fun _ => 0))), (q14_9, .inl (c14_9, 3, .inl (fun _ => 0))), (q16, .inr (5, [.ref q7_20])), (q7_20, .inl (c7_20, 52, .inl (fun _ => 0))), (q27, .inr (5, [.ref q7_31])), (q7_31, .inl (c7_31, 52, .inl (fun _ => 0))), (q38, .inr (0, [.ref q8_42, .int 0, .int 0])), (q8_42, .inl (c8_42, 728, .inl (fun _ => 0))), (q49, .inr (2, [.ref q6_53, .int 0])), (q6_53, .inl (c6_53, 4, .inl (fun _ => 0))), (q60, .inr (3, [.ref q6_64, .ref q13_64, .int 0])), (q6_64, .inl (c6_64, 5, .inl (fun _ => 0))), (q13_64, .inl (c13_64, 4, .inl (fun _ => 0)))] := hD
  have hK : va_K D vwCl [(c7_9, .int), (c14_9, .int), (c7_20, .int), (c7_31, .int), (c8_42, .int), (c6_53, .int), (c6_64, .int), (c13_64, .int)] s := hK
  refine W.widen (k := 14) (n := 917) (by decide) (by decide) ?_
  refine va_putF (D := D) (ci := 6) (v := .ref q60) (ty := (.object "PoundBeasts$Rings")) (C := RX6) (T := TX6) (N := 11) hx hb hts in_X6 tyX6 tyX6_ok nmX6 hown hK hP hD hS 0 rfl rfl 5 (by decide) (hts _ fl_X6_43) (fun _ h9 => h9) rfl hin rfl (by decide +kernel) rfl rfl (Nat.le_of_ble_eq_true rfl) dX6_init_67 (fun H locs hP hD hS => ?_)
  have hP : va_P D vwCl [(h0, .inr (6, [.ref q5, .ref q16, .ref q27, .ref q38, .ref q49, .ref q60, .null, .null, .null, .int 0, .long 0])), (q5, .inr (4, [.ref q7_9, .ref q14_9, .int 0])), (q7_9, .inl (c7_9, 56, .inl (fun _ => 0))), (q14_9, .inl (c14_9, 3, .inl (fun _ => 0))), (q16, .inr (5, [.ref q7_20])), (q7_20, .inl (c7_20, 52, .inl (fun _ => 0))), (q27, .inr (5, [.ref q7_31])), (q7_31, .inl (c7_31, 52, .inl (fun _ => 0))), (q38, .inr (0, [.ref q8_42, .int 0, .int 0])), (q8_42, .inl (c8_42, 728, .inl (fun _ => 0))), (q49, .inr (2, [.ref q6_53, .int 0])), (q6_53, .inl (c6_53, 4, .inl (fun _ => 0))), (q60, .inr (3, [.ref q6_64, .ref q13_64, .int 0])), (q6_64, .inl (c6_64, 5, .inl (fun _ => 0))), (q13_64, .inl (c13_64, 4, .inl (fun _ => 0)))] H := hP
  have hD : va_D A [(h0, .inr (6, [.ref q5, .ref q16, .ref q27, .ref q38, .ref q49, .ref q60, .null, .null, .null, .int 0, .long 0])), (q5, .inr (4, [.ref q7_9, .ref q14_9, .int 0])), (q7_9, .inl (c7_9, 56, .inl (fun _ => 0))), (q14_9, .inl (c14_9, 3, .inl (fun _ => 0))), (q16, .inr (5, [.ref q7_20])), (q7_20, .inl (c7_20, 52, .inl (fun _ => 0))), (q27, .inr (5, [.ref q7_31])), (q7_31, .inl (c7_31, 52, .inl (fun _ => 0))), (q38, .inr (0, [.ref q8_42, .int 0, .int 0])), (q8_42, .inl (c8_42, 728, .inl (fun _ => 0))), (q49, .inr (2, [.ref q6_53, .int 0])), (q6_53, .inl (c6_53, 4, .inl (fun _ => 0))), (q60, .inr (3, [.ref q6_64, .ref q13_64, .int 0])), (q6_64, .inl (c6_64, 5, .inl (fun _ => 0))), (q13_64, .inl (c13_64, 4, .inl (fun _ => 0)))] := hD
  refine lv_aload_n hx hb dX6_init_70 rfl (lv_at hl 0 rfl) ?_
  refine va_new (ci := 1) (fs := [.null, .int 0, .int 0, .int 0, .int 0, .int 0]) (C := RX1) (T := TX1) (N := 6) hx hb hts in_X1 tyX1 tyX1_ok hown (hts _ kl_X6_47) (hts _ kn_X1) (hts _ ki_X1) hK hP hD hS hA rfl (fun j hj => by
    rcases (show j = 0 ∨ j = 1 ∨ j = 2 ∨ j = 3 ∨ j = 4 ∨ j = 5 by omega) with rfl | rfl | rfl | rfl | rfl | rfl <;> rfl) (Nat.le_of_ble_eq_true rfl) (Nat.le_of_ble_eq_true rfl) dX6_init_71 (fun q71 H hP hD hS => ?_)
  have hP : va_P D vwCl [(h0, .inr (6, [.ref q5, .ref q16, .ref q27, .ref q38, .ref q49, .ref q60, .null, .null, .null, .int 0, .long 0])), (q5, .inr (4, [.ref q7_9, .ref q14_9, .int 0])), (q7_9, .inl (c7_9, 56, .inl (fun _ => 0))), (q14_9, .inl (c14_9, 3, .inl (fun _ => 0))), (q16, .inr (5, [.ref q7_20])), (q7_20, .inl (c7_20, 52, .inl (fun _ => 0))), (q27, .inr (5, [.ref q7_31])), (q7_31, .inl (c7_31, 52, .inl (fun _ => 0))), (q38, .inr (0, [.ref q8_42, .int 0, .int 0])), (q8_42, .inl (c8_42, 728, .inl (fun _ => 0))), (q49, .inr (2, [.ref q6_53, .int 0])), (q6_53, .inl (c6_53, 4, .inl (fun _ => 0))), (q60, .inr (3, [.ref q6_64, .ref q13_64, .int 0])), (q6_64, .inl (c6_64, 5, .inl (fun _ => 0))), (q13_64, .inl (c13_64, 4, .inl (fun _ => 0))), (q71, .inr (1, [.null, .int 0, .int 0, .int 0, .int 0, .int 0]))] H := hP
  have hD : va_D A [(h0, .inr (6, [.ref q5, .ref q16, .ref q27, .ref q38, .ref q49, .ref q60, .null, .null, .null, .int 0, .long 0])), (q5, .inr (4, [.ref q7_9, .ref q14_9, .int 0])), (q7_9, .inl (c7_9, 56, .inl (fun _ => 0))), (q14_9, .inl (c14_9, 3, .inl (fun _ => 0))), (q16, .inr (5, [.ref q7_20])), (q7_20, .inl (c7_20, 52, .inl (fun _ => 0))), (q27, .inr (5, [.ref q7_31])), (q7_31, .inl (c7_31, 52, .inl (fun _ => 0))), (q38, .inr (0, [.ref q8_42, .int 0, .int 0])), (q8_42, .inl (c8_42, 728, .inl (fun _ => 0))), (q49, .inr (2, [.ref q6_53, .int 0])), (q6_53, .inl (c6_53, 4, .inl (fun _ => 0))), (q60, .inr (3, [.ref q6_64, .ref q13_64, .int 0])), (q6_64, .inl (c6_64, 5, .inl (fun _ => 0))), (q13_64, .inl (c13_64, 4, .inl (fun _ => 0))), (q71, .inr (1, [.null, .int 0, .int 0, .int 0, .int 0, .int 0]))] := hD
  refine W.widen (k := 15) (n := 923) (by decide) (by decide) ?_
  refine lv_dup hx hb dX6_init_74 rfl ?_
  have hPc := hP.sub (ws' := [(q71, .inr (1, [.null, .int 0, .int 0, .int 0, .int 0, .int 0]))]) [15] rfl
  have hDc := hD.sub (ws' := [(q71, .inr (1, [.null, .int 0, .int 0, .int 0, .int 0, .int 0]))]) [15] (by decide) rfl
  have hKc := hK.sub (tys' := []) [] rfl
  have hFc := va_free (wc := [(q71, .inr (1, [.null, .int 0, .int 0, .int 0, .int 0, .int 0]))]) hD hS hA [15] rfl
  refine va_callv (va_runIN (As := []) (rest := [.ref q71, .ref h0]) (Ts := pb_gw) ⟨hx, hb, hml, hown, hts⟩ (ct_X1 l D q71 H.size) ⟨va_cnB 0 hts (pb_goodC mcI_X1.1) rfl rfl rfl (hN (RX6, 49, yX1_init, "PoundBeasts") (by unfold pb_nestI; simp)) (hts _ mcI_X1.2.1) mcI_X1.2.2 ⟨Nat.le_of_ble_eq_true rfl, Nat.le_of_ble_eq_true rfl⟩, rfl, hts _ miI_X1⟩ (ct_pre hPc hKc hDc rfl) rfl rfl hl.1 rfl (lv_room (Nat.le_of_ble_eq_true rfl)) dX6_init_75 ⟨Nat.le_of_ble_eq_true rfl, Nat.le_of_ble_eq_true rfl⟩) hS (fun q _ h => hFc q h) hFc (fun u t H1 locs ht hvm _ hB hz1 hk1 hS => ?_)
  obtain ⟨q6_75, c6_75, hP1, hK1, hD1⟩ := hB
  rw [ht] at hP1
  have hK1 := va_K.moved hvm.symm hK1
  obtain ⟨hP, hD⟩ := va_join (wr := [(h0, .inr (6, [.ref q5, .ref q16, .ref q27, .ref q38, .ref q49, .ref q60, .null, .null, .null, .int 0, .long 0])), (q5, .inr (4, [.ref q7_9, .ref q14_9, .int 0])), (q7_9, .inl (c7_9, 56, .inl (fun _ => 0))), (q14_9, .inl (c14_9, 3, .inl (fun _ => 0))), (q16, .inr (5, [.ref q7_20])), (q7_20, .inl (c7_20, 52, .inl (fun _ => 0))), (q27, .inr (5, [.ref q7_31])), (q7_31, .inl (c7_31, 52, .inl (fun _ => 0))), (q38, .inr (0, [.ref q8_42, .int 0, .int 0])), (q8_42, .inl (c8_42, 728, .inl (fun _ => 0))), (q49, .inr (2, [.ref q6_53, .int 0])), (q6_53, .inl (c6_53, 4, .inl (fun _ => 0))), (q60, .inr (3, [.ref q6_64, .ref q13_64, .int 0])), (q6_64, .inl (c6_64, 5, .inl (fun _ => 0))), (q13_64, .inl (c13_64, 4, .inl (fun _ => 0)))]) (w1 := [(q71, .inr (1, [.ref q6_75, .int 0, .int 0, .int 0, .int 0, .int 0])), (q6_75, .inl (c6_75, 5, .inl (fun _ => 0)))]) hP hD [15] [0, 1, 2, 3, 4, 5, 6, 7, 8, 9, 10, 11, 12, 13, 14] rfl rfl (by decide) (by decide) hk1 hFc hP1 hD1
  have hK := (hK.sub (tys' := [(c7_9, .int), (c14_9, .int), (c7_20, .int), (c7_31, .int), (c8_42, .int), (c6_53, .int), (c6_64, .int), (c13_64, .int)]) [0, 1, 2, 3, 4, 5, 6, 7] rfl).app hK1
  generalize H1 = H at hP hS ⊢
  have hP : va_P D vwCl [(h0, .inr (6, [.ref q5, .ref q16, .ref q27, .ref q38, .ref q49, .ref q60, .null, .null, .null, .int 0, .long 0])), (q5, .inr (4, [.ref q7_9, .ref q14_9, .int 0])), (q7_9, .inl (c7_9, 56, .inl (fun _ => 0))), (q14_9, .inl (c14_9, 3, .inl (fun _ => 0))), (q16, .inr (5, [.ref q7_20])), (q7_20, .inl (c7_20, 52, .inl (fun _ => 0))), (q27, .inr (5, [.ref q7_31])), (q7_31, .inl (c7_31, 52, .inl (fun _ => 0))), (q38, .inr (0, [.ref q8_42, .int 0, .int 0])), (q8_42, .inl (c8_42, 728, .inl (fun _ => 0))), (q49, .inr (2, [.ref q6_53, .int 0])), (q6_53, .inl (c6_53, 4, .inl (fun _ => 0))), (q60, .inr (3, [.ref q6_64, .ref q13_64, .int 0])), (q6_64, .inl (c6_64, 5, .inl (fun _ => 0))), (q13_64, .inl (c13_64, 4, .inl (fun _ => 0))), (q71, .inr (1, [.ref q6_75, .int 0, .int 0, .int 0, .int 0, .int 0])), (q6_75, .inl (c6_75, 5, .inl (fun _ => 0)))] H := hP
  have hD : va_D A [(h0, .inr (6, [.ref q5, .ref q16, .ref q27, .ref q38, .ref q49, .ref q60, .null, .null, .null, .int 0, .long 0])), (q5, .inr (4, [.ref q7_9, .ref q14_9, .int 0])), (q7_9, .inl (c7_9, 56, .inl (fun _ => 0))), (q14_9, .inl (c14_9, 3, .inl (fun _ => 0))), (q16, .inr (5, [.ref q7_20])), (q7_20, .inl (c7_20, 52, .inl (fun _ => 0))), (q27, .inr (5, [.ref q7_31])), (q7_31, .inl (c7_31, 52, .inl (fun _ => 0))), (q38, .inr (0, [.ref q8_42, .int 0, .int 0])), (q8_42, .inl (c8_42, 728, .inl (fun _ => 0))), (q49, .inr (2, [.ref q6_53, .int 0])), (q6_53, .inl (c6_53, 4, .inl (fun _ => 0))), (q60, .inr (3, [.ref q6_64, .ref q13_64, .int 0])), (q6_64, .inl (c6_64, 5, .inl (fun _ => 0))), (q13_64, .inl (c13_64, 4, .inl (fun _ => 0))), (q71, .inr (1, [.ref q6_75, .int 0, .int 0, .int 0, .int 0, .int 0])), (q6_75, .inl (c6_75, 5, .inl (fun _ => 0)))] := hD
  have hK : va_K D vwCl [(c7_9, .int), (c14_9, .int), (c7_20, .int), (c7_31, .int), (c8_42, .int), (c6_53, .int), (c6_64, .int), (c13_64, .int), (c6_75, .int)] s := hK
  refine W.widen (k := 16) (n := 928) (by decide) (by decide) ?_
  refine va_putF (D := D) (ci := 6) (v := .ref q71) (ty := (.object "PoundBeasts$Bargain")) (C := RX6) (T := TX6) (N := 11) hx hb hts in_X6 tyX6 tyX6_ok nmX6 hown hK hP hD hS 0 rfl rfl 6 (by decide) (hts _ fl_X6_50) (fun _ h9 => h9) rfl hin rfl (by decide +kernel) rfl rfl (Nat.le_of_ble_eq_true rfl) dX6_init_78 (fun H locs hP hD hS => ?_)
  have hP : va_P D vwCl [(h0, .inr (6, [.ref q5, .ref q16, .ref q27, .ref q38, .ref q49, .ref q60, .ref q71, .null, .null, .int 0, .long 0])), (q5, .inr (4, [.ref q7_9, .ref q14_9, .int 0])), (q7_9, .inl (c7_9, 56, .inl (fun _ => 0))), (q14_9, .inl (c14_9, 3, .inl (fun _ => 0))), (q16, .inr (5, [.ref q7_20])), (q7_20, .inl (c7_20, 52, .inl (fun _ => 0))), (q27, .inr (5, [.ref q7_31])), (q7_31, .inl (c7_31, 52, .inl (fun _ => 0))), (q38, .inr (0, [.ref q8_42, .int 0, .int 0])), (q8_42, .inl (c8_42, 728, .inl (fun _ => 0))), (q49, .inr (2, [.ref q6_53, .int 0])), (q6_53, .inl (c6_53, 4, .inl (fun _ => 0))), (q60, .inr (3, [.ref q6_64, .ref q13_64, .int 0])), (q6_64, .inl (c6_64, 5, .inl (fun _ => 0))), (q13_64, .inl (c13_64, 4, .inl (fun _ => 0))), (q71, .inr (1, [.ref q6_75, .int 0, .int 0, .int 0, .int 0, .int 0])), (q6_75, .inl (c6_75, 5, .inl (fun _ => 0)))] H := hP
  have hD : va_D A [(h0, .inr (6, [.ref q5, .ref q16, .ref q27, .ref q38, .ref q49, .ref q60, .ref q71, .null, .null, .int 0, .long 0])), (q5, .inr (4, [.ref q7_9, .ref q14_9, .int 0])), (q7_9, .inl (c7_9, 56, .inl (fun _ => 0))), (q14_9, .inl (c14_9, 3, .inl (fun _ => 0))), (q16, .inr (5, [.ref q7_20])), (q7_20, .inl (c7_20, 52, .inl (fun _ => 0))), (q27, .inr (5, [.ref q7_31])), (q7_31, .inl (c7_31, 52, .inl (fun _ => 0))), (q38, .inr (0, [.ref q8_42, .int 0, .int 0])), (q8_42, .inl (c8_42, 728, .inl (fun _ => 0))), (q49, .inr (2, [.ref q6_53, .int 0])), (q6_53, .inl (c6_53, 4, .inl (fun _ => 0))), (q60, .inr (3, [.ref q6_64, .ref q13_64, .int 0])), (q6_64, .inl (c6_64, 5, .inl (fun _ => 0))), (q13_64, .inl (c13_64, 4, .inl (fun _ => 0))), (q71, .inr (1, [.ref q6_75, .int 0, .int 0, .int 0, .int 0, .int 0])), (q6_75, .inl (c6_75, 5, .inl (fun _ => 0)))] := hD
  refine lv_aload_n hx hb dX6_init_81 rfl (lv_at hl 0 rfl) ?_
  refine lv_bipush (v := 104) hx hb dX6_init_82 (by decide) ?_
  refine va_newa (atype := .int) (ty := .int) (N' := 104) (a0 := (104, .inl (fun _ => 0))) hx hb (hts _ ka_I) rfl hK hP hD hS hA (fun _ => rfl) (by decide) (by decide) (by decide) (Nat.le_of_ble_eq_true rfl) (Nat.le_of_ble_eq_true rfl) dX6_init_84 (fun q84 c84 H hK hP hD hS => ?_)
  have hP : va_P D vwCl [(h0, .inr (6, [.ref q5, .ref q16, .ref q27, .ref q38, .ref q49, .ref q60, .ref q71, .null, .null, .int 0, .long 0])), (q5, .inr (4, [.ref q7_9, .ref q14_9, .int 0])), (q7_9, .inl (c7_9, 56, .inl (fun _ => 0))), (q14_9, .inl (c14_9, 3, .inl (fun _ => 0))), (q16, .inr (5, [.ref q7_20])), (q7_20, .inl (c7_20, 52, .inl (fun _ => 0))), (q27, .inr (5, [.ref q7_31])), (q7_31, .inl (c7_31, 52, .inl (fun _ => 0))), (q38, .inr (0, [.ref q8_42, .int 0, .int 0])), (q8_42, .inl (c8_42, 728, .inl (fun _ => 0))), (q49, .inr (2, [.ref q6_53, .int 0])), (q6_53, .inl (c6_53, 4, .inl (fun _ => 0))), (q60, .inr (3, [.ref q6_64, .ref q13_64, .int 0])), (q6_64, .inl (c6_64, 5, .inl (fun _ => 0))), (q13_64, .inl (c13_64, 4, .inl (fun _ => 0))), (q71, .inr (1, [.ref q6_75, .int 0, .int 0, .int 0, .int 0, .int 0])), (q6_75, .inl (c6_75, 5, .inl (fun _ => 0))), (q84, .inl (c84, 104, .inl (fun _ => 0)))] H := hP
  have hD : va_D A [(h0, .inr (6, [.ref q5, .ref q16, .ref q27, .ref q38, .ref q49, .ref q60, .ref q71, .null, .null, .int 0, .long 0])), (q5, .inr (4, [.ref q7_9, .ref q14_9, .int 0])), (q7_9, .inl (c7_9, 56, .inl (fun _ => 0))), (q14_9, .inl (c14_9, 3, .inl (fun _ => 0))), (q16, .inr (5, [.ref q7_20])), (q7_20, .inl (c7_20, 52, .inl (fun _ => 0))), (q27, .inr (5, [.ref q7_31])), (q7_31, .inl (c7_31, 52, .inl (fun _ => 0))), (q38, .inr (0, [.ref q8_42, .int 0, .int 0])), (q8_42, .inl (c8_42, 728, .inl (fun _ => 0))), (q49, .inr (2, [.ref q6_53, .int 0])), (q6_53, .inl (c6_53, 4, .inl (fun _ => 0))), (q60, .inr (3, [.ref q6_64, .ref q13_64, .int 0])), (q6_64, .inl (c6_64, 5, .inl (fun _ => 0))), (q13_64, .inl (c13_64, 4, .inl (fun _ => 0))), (q71, .inr (1, [.ref q6_75, .int 0, .int 0, .int 0, .int 0, .int 0])), (q6_75, .inl (c6_75, 5, .inl (fun _ => 0))), (q84, .inl (c84, 104, .inl (fun _ => 0)))] := hD
  have hK : va_K D vwCl [(c7_9, .int), (c14_9, .int), (c7_20, .int), (c7_31, .int), (c8_42, .int), (c6_53, .int), (c6_64, .int), (c13_64, .int), (c6_75, .int), (c84, .int)] s := hK
  refine W.widen (k := 17) (n := 1032) (by decide) (by decide) ?_
  refine va_putF (D := D) (ci := 6) (v := .ref q84) (ty := (.array .int)) (C := RX6) (T := TX6) (N := 11) hx hb hts in_X6 tyX6 tyX6_ok nmX6 hown hK hP hD hS 0 rfl rfl 7 (by decide) (hts _ fl_X6_54) (fun _ h9 => h9) rfl hin rfl (by decide +kernel) rfl rfl (Nat.le_of_ble_eq_true rfl) dX6_init_86 (fun H locs hP hD hS => ?_)
  have hP : va_P D vwCl [(h0, .inr (6, [.ref q5, .ref q16, .ref q27, .ref q38, .ref q49, .ref q60, .ref q71, .ref q84, .null, .int 0, .long 0])), (q5, .inr (4, [.ref q7_9, .ref q14_9, .int 0])), (q7_9, .inl (c7_9, 56, .inl (fun _ => 0))), (q14_9, .inl (c14_9, 3, .inl (fun _ => 0))), (q16, .inr (5, [.ref q7_20])), (q7_20, .inl (c7_20, 52, .inl (fun _ => 0))), (q27, .inr (5, [.ref q7_31])), (q7_31, .inl (c7_31, 52, .inl (fun _ => 0))), (q38, .inr (0, [.ref q8_42, .int 0, .int 0])), (q8_42, .inl (c8_42, 728, .inl (fun _ => 0))), (q49, .inr (2, [.ref q6_53, .int 0])), (q6_53, .inl (c6_53, 4, .inl (fun _ => 0))), (q60, .inr (3, [.ref q6_64, .ref q13_64, .int 0])), (q6_64, .inl (c6_64, 5, .inl (fun _ => 0))), (q13_64, .inl (c13_64, 4, .inl (fun _ => 0))), (q71, .inr (1, [.ref q6_75, .int 0, .int 0, .int 0, .int 0, .int 0])), (q6_75, .inl (c6_75, 5, .inl (fun _ => 0))), (q84, .inl (c84, 104, .inl (fun _ => 0)))] H := hP
  have hD : va_D A [(h0, .inr (6, [.ref q5, .ref q16, .ref q27, .ref q38, .ref q49, .ref q60, .ref q71, .ref q84, .null, .int 0, .long 0])), (q5, .inr (4, [.ref q7_9, .ref q14_9, .int 0])), (q7_9, .inl (c7_9, 56, .inl (fun _ => 0))), (q14_9, .inl (c14_9, 3, .inl (fun _ => 0))), (q16, .inr (5, [.ref q7_20])), (q7_20, .inl (c7_20, 52, .inl (fun _ => 0))), (q27, .inr (5, [.ref q7_31])), (q7_31, .inl (c7_31, 52, .inl (fun _ => 0))), (q38, .inr (0, [.ref q8_42, .int 0, .int 0])), (q8_42, .inl (c8_42, 728, .inl (fun _ => 0))), (q49, .inr (2, [.ref q6_53, .int 0])), (q6_53, .inl (c6_53, 4, .inl (fun _ => 0))), (q60, .inr (3, [.ref q6_64, .ref q13_64, .int 0])), (q6_64, .inl (c6_64, 5, .inl (fun _ => 0))), (q13_64, .inl (c13_64, 4, .inl (fun _ => 0))), (q71, .inr (1, [.ref q6_75, .int 0, .int 0, .int 0, .int 0, .int 0])), (q6_75, .inl (c6_75, 5, .inl (fun _ => 0))), (q84, .inl (c84, 104, .inl (fun _ => 0)))] := hD
  refine lv_aload_n hx hb dX6_init_89 rfl (lv_at hl 0 rfl) ?_
  refine lv_iconst (v := 4) hx hb dX6_init_90 (by decide) ?_
  refine va_newa (atype := .int) (ty := .int) (N' := 4) (a0 := (4, .inl (fun _ => 0))) hx hb (hts _ ka_I) rfl hK hP hD hS hA (fun _ => rfl) (by decide) (by decide) (by decide) (Nat.le_of_ble_eq_true rfl) (Nat.le_of_ble_eq_true rfl) dX6_init_91 (fun q91 c91 H hK hP hD hS => ?_)
  have hP : va_P D vwCl [(h0, .inr (6, [.ref q5, .ref q16, .ref q27, .ref q38, .ref q49, .ref q60, .ref q71, .ref q84, .null, .int 0, .long 0])), (q5, .inr (4, [.ref q7_9, .ref q14_9, .int 0])), (q7_9, .inl (c7_9, 56, .inl (fun _ => 0))), (q14_9, .inl (c14_9, 3, .inl (fun _ => 0))), (q16, .inr (5, [.ref q7_20])), (q7_20, .inl (c7_20, 52, .inl (fun _ => 0))), (q27, .inr (5, [.ref q7_31])), (q7_31, .inl (c7_31, 52, .inl (fun _ => 0))), (q38, .inr (0, [.ref q8_42, .int 0, .int 0])), (q8_42, .inl (c8_42, 728, .inl (fun _ => 0))), (q49, .inr (2, [.ref q6_53, .int 0])), (q6_53, .inl (c6_53, 4, .inl (fun _ => 0))), (q60, .inr (3, [.ref q6_64, .ref q13_64, .int 0])), (q6_64, .inl (c6_64, 5, .inl (fun _ => 0))), (q13_64, .inl (c13_64, 4, .inl (fun _ => 0))), (q71, .inr (1, [.ref q6_75, .int 0, .int 0, .int 0, .int 0, .int 0])), (q6_75, .inl (c6_75, 5, .inl (fun _ => 0))), (q84, .inl (c84, 104, .inl (fun _ => 0))), (q91, .inl (c91, 4, .inl (fun _ => 0)))] H := hP
  have hD : va_D A [(h0, .inr (6, [.ref q5, .ref q16, .ref q27, .ref q38, .ref q49, .ref q60, .ref q71, .ref q84, .null, .int 0, .long 0])), (q5, .inr (4, [.ref q7_9, .ref q14_9, .int 0])), (q7_9, .inl (c7_9, 56, .inl (fun _ => 0))), (q14_9, .inl (c14_9, 3, .inl (fun _ => 0))), (q16, .inr (5, [.ref q7_20])), (q7_20, .inl (c7_20, 52, .inl (fun _ => 0))), (q27, .inr (5, [.ref q7_31])), (q7_31, .inl (c7_31, 52, .inl (fun _ => 0))), (q38, .inr (0, [.ref q8_42, .int 0, .int 0])), (q8_42, .inl (c8_42, 728, .inl (fun _ => 0))), (q49, .inr (2, [.ref q6_53, .int 0])), (q6_53, .inl (c6_53, 4, .inl (fun _ => 0))), (q60, .inr (3, [.ref q6_64, .ref q13_64, .int 0])), (q6_64, .inl (c6_64, 5, .inl (fun _ => 0))), (q13_64, .inl (c13_64, 4, .inl (fun _ => 0))), (q71, .inr (1, [.ref q6_75, .int 0, .int 0, .int 0, .int 0, .int 0])), (q6_75, .inl (c6_75, 5, .inl (fun _ => 0))), (q84, .inl (c84, 104, .inl (fun _ => 0))), (q91, .inl (c91, 4, .inl (fun _ => 0)))] := hD
  have hK : va_K D vwCl [(c7_9, .int), (c14_9, .int), (c7_20, .int), (c7_31, .int), (c8_42, .int), (c6_53, .int), (c6_64, .int), (c13_64, .int), (c6_75, .int), (c84, .int), (c91, .int)] s := hK
  refine W.widen (k := 18) (n := 1036) (by decide) (by decide) ?_
  refine va_putF (D := D) (ci := 6) (v := .ref q91) (ty := (.array .int)) (C := RX6) (T := TX6) (N := 11) hx hb hts in_X6 tyX6 tyX6_ok nmX6 hown hK hP hD hS 0 rfl rfl 8 (by decide) (hts _ fl_X6_58) (fun _ h9 => h9) rfl hin rfl (by decide +kernel) rfl rfl (Nat.le_of_ble_eq_true rfl) dX6_init_93 (fun H locs hP hD hS => ?_)
  have hP : va_P D vwCl [(h0, .inr (6, [.ref q5, .ref q16, .ref q27, .ref q38, .ref q49, .ref q60, .ref q71, .ref q84, .ref q91, .int 0, .long 0])), (q5, .inr (4, [.ref q7_9, .ref q14_9, .int 0])), (q7_9, .inl (c7_9, 56, .inl (fun _ => 0))), (q14_9, .inl (c14_9, 3, .inl (fun _ => 0))), (q16, .inr (5, [.ref q7_20])), (q7_20, .inl (c7_20, 52, .inl (fun _ => 0))), (q27, .inr (5, [.ref q7_31])), (q7_31, .inl (c7_31, 52, .inl (fun _ => 0))), (q38, .inr (0, [.ref q8_42, .int 0, .int 0])), (q8_42, .inl (c8_42, 728, .inl (fun _ => 0))), (q49, .inr (2, [.ref q6_53, .int 0])), (q6_53, .inl (c6_53, 4, .inl (fun _ => 0))), (q60, .inr (3, [.ref q6_64, .ref q13_64, .int 0])), (q6_64, .inl (c6_64, 5, .inl (fun _ => 0))), (q13_64, .inl (c13_64, 4, .inl (fun _ => 0))), (q71, .inr (1, [.ref q6_75, .int 0, .int 0, .int 0, .int 0, .int 0])), (q6_75, .inl (c6_75, 5, .inl (fun _ => 0))), (q84, .inl (c84, 104, .inl (fun _ => 0))), (q91, .inl (c91, 4, .inl (fun _ => 0)))] H := hP
  have hD : va_D A [(h0, .inr (6, [.ref q5, .ref q16, .ref q27, .ref q38, .ref q49, .ref q60, .ref q71, .ref q84, .ref q91, .int 0, .long 0])), (q5, .inr (4, [.ref q7_9, .ref q14_9, .int 0])), (q7_9, .inl (c7_9, 56, .inl (fun _ => 0))), (q14_9, .inl (c14_9, 3, .inl (fun _ => 0))), (q16, .inr (5, [.ref q7_20])), (q7_20, .inl (c7_20, 52, .inl (fun _ => 0))), (q27, .inr (5, [.ref q7_31])), (q7_31, .inl (c7_31, 52, .inl (fun _ => 0))), (q38, .inr (0, [.ref q8_42, .int 0, .int 0])), (q8_42, .inl (c8_42, 728, .inl (fun _ => 0))), (q49, .inr (2, [.ref q6_53, .int 0])), (q6_53, .inl (c6_53, 4, .inl (fun _ => 0))), (q60, .inr (3, [.ref q6_64, .ref q13_64, .int 0])), (q6_64, .inl (c6_64, 5, .inl (fun _ => 0))), (q13_64, .inl (c13_64, 4, .inl (fun _ => 0))), (q71, .inr (1, [.ref q6_75, .int 0, .int 0, .int 0, .int 0, .int 0])), (q6_75, .inl (c6_75, 5, .inl (fun _ => 0))), (q84, .inl (c84, 104, .inl (fun _ => 0))), (q91, .inl (c91, 4, .inl (fun _ => 0)))] := hD
  exact W.vret hx hb hr (fun t ht hW => ⟨⟨(), rfl, trivial, q5, q7_9, q14_9, q16, q7_20, q27, q7_31, q38, q8_42, q49, q6_53, q60, q6_64, q13_64, q71, q6_75, q84, q91, c7_9, c14_9, c7_20, c7_31, c8_42, c6_53, c6_64, c13_64, c6_75, c84, c91, by rw [ht]; exact hP, va_K.moved hW.alike hK, hD⟩, hS.F ht⟩) hS.2.2 dX6_init_96
theorem mcI_X7 : pb_MC yX7_init cX7_init 1 none 0 := ⟨pb_inW 782 (by decide +kernel) (by decide +kernel), pb_inW 68 (by decide +kernel) (by decide +kernel), by decide +kernel, by decide +kernel, by decide +kernel⟩
theorem miI_X7 : Cond.instanceMethod yX7_init ∈ pb_gw := pb_inW 781 (by decide +kernel) (by decide +kernel)
def at_X7 (D : va_G) (A : Nat → Prop) (h0 : Nat) (_ : Unit) (t : State) : Prop := ∃ (q6 : Nat) (q14 : Nat) (q22 : Nat) (q29 : Nat) (q37 : Nat) (q46 : Nat) (q54 : Nat) (q62 : Nat) (q69 : Nat) (q77 : Nat) (c6 : ClassId) (c14 : ClassId) (c22 : ClassId) (c29 : ClassId) (c37 : ClassId) (c46 : ClassId) (c54 : ClassId) (c62 : ClassId) (c69 : ClassId) (c77 : ClassId), va_P D vwCl [(h0, .inr (7, [.int 0, .int 0, .ref q6, .ref q14, .ref q22, .ref q29, .int 0, .int 0, .ref q37, .int 0, .int 0, .int 0, .int 0, .int 0, .ref q46, .int 0, .int 0, .ref q54, .ref q62, .long 0, .ref q69, .ref q77])), (q6, .inl (c6, 5, .inl (fun _ => 0))), (q14, .inl (c14, 90, .inl (fun _ => 0))), (q22, .inl (c22, 45, .inl (fun _ => 0))), (q29, .inl (c29, 5, .inl (fun _ => 0))), (q37, .inl (c37, 56, .inl (fun _ => 0))), (q46, .inl (c46, 630, .inl (fun _ => 0))), (q54, .inl (c54, 24, .inl (fun _ => 0))), (q62, .inl (c62, 24, .inl (fun _ => 0))), (q69, .inl (c69, 2, .inl (fun _ => 0))), (q77, .inl (c77, 90, .inl (fun _ => 0)))] t.heap ∧ va_K D vwCl [(c6, .int), (c14, .int), (c22, .int), (c29, .int), (c37, .int), (c46, .int), (c54, .int), (c62, .int), (c69, .boolean), (c77, .int)] t ∧ va_D A [(h0, .inr (7, [.int 0, .int 0, .ref q6, .ref q14, .ref q22, .ref q29, .int 0, .int 0, .ref q37, .int 0, .int 0, .int 0, .int 0, .int 0, .ref q46, .int 0, .int 0, .ref q54, .ref q62, .long 0, .ref q69, .ref q77])), (q6, .inl (c6, 5, .inl (fun _ => 0))), (q14, .inl (c14, 90, .inl (fun _ => 0))), (q22, .inl (c22, 45, .inl (fun _ => 0))), (q29, .inl (c29, 5, .inl (fun _ => 0))), (q37, .inl (c37, 56, .inl (fun _ => 0))), (q46, .inl (c46, 630, .inl (fun _ => 0))), (q54, .inl (c54, 24, .inl (fun _ => 0))), (q62, .inl (c62, 24, .inl (fun _ => 0))), (q69, .inl (c69, 2, .inl (fun _ => 0))), (q77, .inl (c77, 90, .inl (fun _ => 0)))]
set_option maxHeartbeats 4000000 in
set_option maxRecDepth 100000 in
theorem ct_X7 (l : Launch) (D : va_G) (h0 sz : Nat) : Met l yX7_init (Cond.code yX7_init cX7_init 1 none :: pb_gw) { frames := 1, cells := 10, slots := 971, locals := 12 } (va_Pc [.ref h0] (fun U => U.heap.size = sz ∧ va_P D vwCl [(h0, .inr (7, [.int 0, .int 0, .null, .null, .null, .null, .int 0, .int 0, .null, .int 0, .int 0, .int 0, .int 0, .int 0, .null, .int 0, .int 0, .null, .null, .long 0, .null, .null]))] U.heap ∧ va_K D vwCl [] U ∧ va_D (fun _ => True) [(h0, .inr (7, [.int 0, .int 0, .null, .null, .null, .null, .int 0, .int 0, .null, .int 0, .int 0, .int 0, .int 0, .int 0, .null, .int 0, .int 0, .null, .null, .long 0, .null, .null]))])) (va_Qv (fun _ : Unit => True) (at_X7 D (va_A [(h0, .inr (7, [.int 0, .int 0, .null, .null, .null, .null, .int 0, .int 0, .null, .int 0, .int 0, .int 0, .int 0, .int 0, .null, .int 0, .int 0, .null, .null, .long 0, .null, .null]))] sz) h0) (va_A [(h0, .inr (7, [.int 0, .int 0, .null, .null, .null, .null, .int 0, .int 0, .null, .int 0, .int 0, .int 0, .int 0, .int 0, .null, .int 0, .int 0, .null, .null, .long 0, .null, .null]))] sz)) 10 971 (va_A [(h0, .inr (7, [.int 0, .int 0, .null, .null, .null, .null, .int 0, .int 0, .null, .int 0, .int 0, .int 0, .int 0, .int 0, .null, .int 0, .int 0, .null, .null, .long 0, .null, .null]))] sz) := by
  refine Met.ofW (cc := cX7_init) (maxL := 1) (ret := none) (by decide) rfl ?_
  intro p e s m args below meth c s₁ B hml hv
  obtain ⟨rfl, hsz, hP, hK, hD0⟩ := hv
  have hx := B.exec
  have hb := B.bytes
  have hr := B.returns
  have hts0 := atoms_spec (ws := Cond.code yX7_init cX7_init 1 none :: pb_gw) B.pre
  have hts : ∀ w ∈ pb_gw, w.before _ s = true := fun w hw => hts0 w (List.mem_cons_of_mem _ hw)
  have hown : s.vm.findClass RX7 = some m.cls := findClass_of_methodNamed B.named
  have hlocks := B.notSynchronized
  have hin : meth.name = "<init>" := (name_of_methodNamed B.named B.method).1
  subst hsz
  have hD := hD0.self (sz := s.heap.size)
  generalize hAe : va_A [(h0, .inr (7, [.int 0, .int 0, .null, .null, .null, .null, .int 0, .int 0, .null, .int 0, .int 0, .int 0, .int 0, .int 0, .null, .int 0, .int 0, .null, .null, .long 0, .null, .null]))] s.heap.size = A at hD ⊢
  have hA : ∀ q : Nat, s.heap.size ≤ q → A q := fun q h => by rw [← hAe]; exact Or.inr h
  have hS : va_S A s.heap s.heap [] := va_S.rf
  have hl := lv_entry ([.ref h0]) (n := 1) (Nat.le_of_ble_eq_true rfl)
  rw [lg_entry_eq]
  generalize (lg_sl ([.ref h0]) ++ List.replicate (1 - (lg_sl ([.ref h0])).length) Slot.unset).toArray = ls at hl ⊢
  have hl : lv_has ls 1 [(0, .ref h0)] := hl
  refine lv_aload_n hx hb dX7_init_0 rfl (lv_at hl 0 rfl) ?_
  refine W.objInit hx hb hown (hts _ ml_X7_1) (hts _ ko_i) (hts _ ko_c) rfl (by rw [hml]; exact hl.1) rfl dX7_init_1 (Nat.le_of_ble_eq_true rfl) (Nat.le_of_ble_eq_true rfl) ?_
  refine W.eq (g2 := F0 m 4 ls []) rfl ?_
  refine lv_aload_n hx hb dX7_init_4 rfl (lv_at hl 0 rfl) ?_
  refine lv_iconst (v := 5) hx hb dX7_init_5 (by decide) ?_
  refine va_newa (atype := .int) (ty := .int) (N' := 5) (a0 := (5, .inl (fun _ => 0))) hx hb (hts _ ka_I) rfl hK hP hD hS hA (fun _ => rfl) (by decide) (by decide) (by decide) (Nat.le_of_ble_eq_true rfl) (Nat.le_of_ble_eq_true rfl) dX7_init_6 (fun q6 c6 H hK hP hD hS => ?_)
  have hP : va_P D vwCl [(h0, .inr (7, [.int 0, .int 0, .null, .null, .null, .null, .int 0, .int 0, .null, .int 0, .int 0, .int 0, .int 0, .int 0, .null, .int 0, .int 0, .null, .null, .long 0, .null, .null])), (q6, .inl (c6, 5, .inl (fun _ => 0)))] H := hP
  have hD : va_D A [(h0, .inr (7, [.int 0, .int 0, .null, .null, .null, .null, .int 0, .int 0, .null, .int 0, .int 0, .int 0, .int 0, .int 0, .null, .int 0, .int 0, .null, .null, .long 0, .null, .null])), (q6, .inl (c6, 5, .inl (fun _ => 0)))] := hD
  have hK : va_K D vwCl [(c6, .int)] s := hK
  refine W.widen (k := 1) (n := 5) (by decide) (by decide) ?_
  refine va_putF (D := D) (ci := 7) (v := .ref q6) (ty := (.array .int)) (C := RX7) (T := TX7) (N := 22) hx hb hts in_X7 tyX7 tyX7_ok nmX7 hown hK hP hD hS 0 rfl rfl 2 (by decide) (hts _ fl_X7_7) (fun _ h9 => h9) rfl hin rfl (by decide +kernel) rfl rfl (Nat.le_of_ble_eq_true rfl) dX7_init_8 (fun H locs hP hD hS => ?_)
  have hP : va_P D vwCl [(h0, .inr (7, [.int 0, .int 0, .ref q6, .null, .null, .null, .int 0, .int 0, .null, .int 0, .int 0, .int 0, .int 0, .int 0, .null, .int 0, .int 0, .null, .null, .long 0, .null, .null])), (q6, .inl (c6, 5, .inl (fun _ => 0)))] H := hP
  have hD : va_D A [(h0, .inr (7, [.int 0, .int 0, .ref q6, .null, .null, .null, .int 0, .int 0, .null, .int 0, .int 0, .int 0, .int 0, .int 0, .null, .int 0, .int 0, .null, .null, .long 0, .null, .null])), (q6, .inl (c6, 5, .inl (fun _ => 0)))] := hD
  refine lv_aload_n hx hb dX7_init_11 rfl (lv_at hl 0 rfl) ?_
  refine lv_bipush (v := 90) hx hb dX7_init_12 (by decide) ?_
  refine va_newa (atype := .int) (ty := .int) (N' := 90) (a0 := (90, .inl (fun _ => 0))) hx hb (hts _ ka_I) rfl hK hP hD hS hA (fun _ => rfl) (by decide) (by decide) (by decide) (Nat.le_of_ble_eq_true rfl) (Nat.le_of_ble_eq_true rfl) dX7_init_14 (fun q14 c14 H hK hP hD hS => ?_)
  have hP : va_P D vwCl [(h0, .inr (7, [.int 0, .int 0, .ref q6, .null, .null, .null, .int 0, .int 0, .null, .int 0, .int 0, .int 0, .int 0, .int 0, .null, .int 0, .int 0, .null, .null, .long 0, .null, .null])), (q6, .inl (c6, 5, .inl (fun _ => 0))), (q14, .inl (c14, 90, .inl (fun _ => 0)))] H := hP
  have hD : va_D A [(h0, .inr (7, [.int 0, .int 0, .ref q6, .null, .null, .null, .int 0, .int 0, .null, .int 0, .int 0, .int 0, .int 0, .int 0, .null, .int 0, .int 0, .null, .null, .long 0, .null, .null])), (q6, .inl (c6, 5, .inl (fun _ => 0))), (q14, .inl (c14, 90, .inl (fun _ => 0)))] := hD
  have hK : va_K D vwCl [(c6, .int), (c14, .int)] s := hK
  refine W.widen (k := 2) (n := 95) (by decide) (by decide) ?_
  refine va_putF (D := D) (ci := 7) (v := .ref q14) (ty := (.array .int)) (C := RX7) (T := TX7) (N := 22) hx hb hts in_X7 tyX7 tyX7_ok nmX7 hown hK hP hD hS 0 rfl rfl 3 (by decide) (hts _ fl_X7_13) (fun _ h9 => h9) rfl hin rfl (by decide +kernel) rfl rfl (Nat.le_of_ble_eq_true rfl) dX7_init_16 (fun H locs hP hD hS => ?_)
  have hP : va_P D vwCl [(h0, .inr (7, [.int 0, .int 0, .ref q6, .ref q14, .null, .null, .int 0, .int 0, .null, .int 0, .int 0, .int 0, .int 0, .int 0, .null, .int 0, .int 0, .null, .null, .long 0, .null, .null])), (q6, .inl (c6, 5, .inl (fun _ => 0))), (q14, .inl (c14, 90, .inl (fun _ => 0)))] H := hP
  have hD : va_D A [(h0, .inr (7, [.int 0, .int 0, .ref q6, .ref q14, .null, .null, .int 0, .int 0, .null, .int 0, .int 0, .int 0, .int 0, .int 0, .null, .int 0, .int 0, .null, .null, .long 0, .null, .null])), (q6, .inl (c6, 5, .inl (fun _ => 0))), (q14, .inl (c14, 90, .inl (fun _ => 0)))] := hD
  refine lv_aload_n hx hb dX7_init_19 rfl (lv_at hl 0 rfl) ?_
  refine lv_bipush (v := 45) hx hb dX7_init_20 (by decide) ?_
  refine va_newa (atype := .int) (ty := .int) (N' := 45) (a0 := (45, .inl (fun _ => 0))) hx hb (hts _ ka_I) rfl hK hP hD hS hA (fun _ => rfl) (by decide) (by decide) (by decide) (Nat.le_of_ble_eq_true rfl) (Nat.le_of_ble_eq_true rfl) dX7_init_22 (fun q22 c22 H hK hP hD hS => ?_)
  have hP : va_P D vwCl [(h0, .inr (7, [.int 0, .int 0, .ref q6, .ref q14, .null, .null, .int 0, .int 0, .null, .int 0, .int 0, .int 0, .int 0, .int 0, .null, .int 0, .int 0, .null, .null, .long 0, .null, .null])), (q6, .inl (c6, 5, .inl (fun _ => 0))), (q14, .inl (c14, 90, .inl (fun _ => 0))), (q22, .inl (c22, 45, .inl (fun _ => 0)))] H := hP
  have hD : va_D A [(h0, .inr (7, [.int 0, .int 0, .ref q6, .ref q14, .null, .null, .int 0, .int 0, .null, .int 0, .int 0, .int 0, .int 0, .int 0, .null, .int 0, .int 0, .null, .null, .long 0, .null, .null])), (q6, .inl (c6, 5, .inl (fun _ => 0))), (q14, .inl (c14, 90, .inl (fun _ => 0))), (q22, .inl (c22, 45, .inl (fun _ => 0)))] := hD
  have hK : va_K D vwCl [(c6, .int), (c14, .int), (c22, .int)] s := hK
  refine W.widen (k := 3) (n := 140) (by decide) (by decide) ?_
  refine va_putF (D := D) (ci := 7) (v := .ref q22) (ty := (.array .int)) (C := RX7) (T := TX7) (N := 22) hx hb hts in_X7 tyX7 tyX7_ok nmX7 hown hK hP hD hS 0 rfl rfl 4 (by decide) (hts _ fl_X7_16) (fun _ h9 => h9) rfl hin rfl (by decide +kernel) rfl rfl (Nat.le_of_ble_eq_true rfl) dX7_init_24 (fun H locs hP hD hS => ?_)
  have hP : va_P D vwCl [(h0, .inr (7, [.int 0, .int 0, .ref q6, .ref q14, .ref q22, .null, .int 0, .int 0, .null, .int 0, .int 0, .int 0, .int 0, .int 0, .null, .int 0, .int 0, .null, .null, .long 0, .null, .null])), (q6, .inl (c6, 5, .inl (fun _ => 0))), (q14, .inl (c14, 90, .inl (fun _ => 0))), (q22, .inl (c22, 45, .inl (fun _ => 0)))] H := hP
  have hD : va_D A [(h0, .inr (7, [.int 0, .int 0, .ref q6, .ref q14, .ref q22, .null, .int 0, .int 0, .null, .int 0, .int 0, .int 0, .int 0, .int 0, .null, .int 0, .int 0, .null, .null, .long 0, .null, .null])), (q6, .inl (c6, 5, .inl (fun _ => 0))), (q14, .inl (c14, 90, .inl (fun _ => 0))), (q22, .inl (c22, 45, .inl (fun _ => 0)))] := hD
  refine lv_aload_n hx hb dX7_init_27 rfl (lv_at hl 0 rfl) ?_
  refine lv_iconst (v := 5) hx hb dX7_init_28 (by decide) ?_
  refine va_newa (atype := .int) (ty := .int) (N' := 5) (a0 := (5, .inl (fun _ => 0))) hx hb (hts _ ka_I) rfl hK hP hD hS hA (fun _ => rfl) (by decide) (by decide) (by decide) (Nat.le_of_ble_eq_true rfl) (Nat.le_of_ble_eq_true rfl) dX7_init_29 (fun q29 c29 H hK hP hD hS => ?_)
  have hP : va_P D vwCl [(h0, .inr (7, [.int 0, .int 0, .ref q6, .ref q14, .ref q22, .null, .int 0, .int 0, .null, .int 0, .int 0, .int 0, .int 0, .int 0, .null, .int 0, .int 0, .null, .null, .long 0, .null, .null])), (q6, .inl (c6, 5, .inl (fun _ => 0))), (q14, .inl (c14, 90, .inl (fun _ => 0))), (q22, .inl (c22, 45, .inl (fun _ => 0))), (q29, .inl (c29, 5, .inl (fun _ => 0)))] H := hP
  have hD : va_D A [(h0, .inr (7, [.int 0, .int 0, .ref q6, .ref q14, .ref q22, .null, .int 0, .int 0, .null, .int 0, .int 0, .int 0, .int 0, .int 0, .null, .int 0, .int 0, .null, .null, .long 0, .null, .null])), (q6, .inl (c6, 5, .inl (fun _ => 0))), (q14, .inl (c14, 90, .inl (fun _ => 0))), (q22, .inl (c22, 45, .inl (fun _ => 0))), (q29, .inl (c29, 5, .inl (fun _ => 0)))] := hD
  have hK : va_K D vwCl [(c6, .int), (c14, .int), (c22, .int), (c29, .int)] s := hK
  refine W.widen (k := 4) (n := 145) (by decide) (by decide) ?_
  refine va_putF (D := D) (ci := 7) (v := .ref q29) (ty := (.array .int)) (C := RX7) (T := TX7) (N := 22) hx hb hts in_X7 tyX7 tyX7_ok nmX7 hown hK hP hD hS 0 rfl rfl 5 (by decide) (hts _ fl_X7_19) (fun _ h9 => h9) rfl hin rfl (by decide +kernel) rfl rfl (Nat.le_of_ble_eq_true rfl) dX7_init_31 (fun H locs hP hD hS => ?_)
  have hP : va_P D vwCl [(h0, .inr (7, [.int 0, .int 0, .ref q6, .ref q14, .ref q22, .ref q29, .int 0, .int 0, .null, .int 0, .int 0, .int 0, .int 0, .int 0, .null, .int 0, .int 0, .null, .null, .long 0, .null, .null])), (q6, .inl (c6, 5, .inl (fun _ => 0))), (q14, .inl (c14, 90, .inl (fun _ => 0))), (q22, .inl (c22, 45, .inl (fun _ => 0))), (q29, .inl (c29, 5, .inl (fun _ => 0)))] H := hP
  have hD : va_D A [(h0, .inr (7, [.int 0, .int 0, .ref q6, .ref q14, .ref q22, .ref q29, .int 0, .int 0, .null, .int 0, .int 0, .int 0, .int 0, .int 0, .null, .int 0, .int 0, .null, .null, .long 0, .null, .null])), (q6, .inl (c6, 5, .inl (fun _ => 0))), (q14, .inl (c14, 90, .inl (fun _ => 0))), (q22, .inl (c22, 45, .inl (fun _ => 0))), (q29, .inl (c29, 5, .inl (fun _ => 0)))] := hD
  refine lv_aload_n hx hb dX7_init_34 rfl (lv_at hl 0 rfl) ?_
  refine lv_bipush (v := 56) hx hb dX7_init_35 (by decide) ?_
  refine va_newa (atype := .int) (ty := .int) (N' := 56) (a0 := (56, .inl (fun _ => 0))) hx hb (hts _ ka_I) rfl hK hP hD hS hA (fun _ => rfl) (by decide) (by decide) (by decide) (Nat.le_of_ble_eq_true rfl) (Nat.le_of_ble_eq_true rfl) dX7_init_37 (fun q37 c37 H hK hP hD hS => ?_)
  have hP : va_P D vwCl [(h0, .inr (7, [.int 0, .int 0, .ref q6, .ref q14, .ref q22, .ref q29, .int 0, .int 0, .null, .int 0, .int 0, .int 0, .int 0, .int 0, .null, .int 0, .int 0, .null, .null, .long 0, .null, .null])), (q6, .inl (c6, 5, .inl (fun _ => 0))), (q14, .inl (c14, 90, .inl (fun _ => 0))), (q22, .inl (c22, 45, .inl (fun _ => 0))), (q29, .inl (c29, 5, .inl (fun _ => 0))), (q37, .inl (c37, 56, .inl (fun _ => 0)))] H := hP
  have hD : va_D A [(h0, .inr (7, [.int 0, .int 0, .ref q6, .ref q14, .ref q22, .ref q29, .int 0, .int 0, .null, .int 0, .int 0, .int 0, .int 0, .int 0, .null, .int 0, .int 0, .null, .null, .long 0, .null, .null])), (q6, .inl (c6, 5, .inl (fun _ => 0))), (q14, .inl (c14, 90, .inl (fun _ => 0))), (q22, .inl (c22, 45, .inl (fun _ => 0))), (q29, .inl (c29, 5, .inl (fun _ => 0))), (q37, .inl (c37, 56, .inl (fun _ => 0)))] := hD
  have hK : va_K D vwCl [(c6, .int), (c14, .int), (c22, .int), (c29, .int), (c37, .int)] s := hK
  refine W.widen (k := 5) (n := 201) (by decide) (by decide) ?_
  refine va_putF (D := D) (ci := 7) (v := .ref q37) (ty := (.array .int)) (C := RX7) (T := TX7) (N := 22) hx hb hts in_X7 tyX7 tyX7_ok nmX7 hown hK hP hD hS 0 rfl rfl 8 (by decide) (hts _ fl_X7_22) (fun _ h9 => h9) rfl hin rfl (by decide +kernel) rfl rfl (Nat.le_of_ble_eq_true rfl) dX7_init_39 (fun H locs hP hD hS => ?_)
  have hP : va_P D vwCl [(h0, .inr (7, [.int 0, .int 0, .ref q6, .ref q14, .ref q22, .ref q29, .int 0, .int 0, .ref q37, .int 0, .int 0, .int 0, .int 0, .int 0, .null, .int 0, .int 0, .null, .null, .long 0, .null, .null])), (q6, .inl (c6, 5, .inl (fun _ => 0))), (q14, .inl (c14, 90, .inl (fun _ => 0))), (q22, .inl (c22, 45, .inl (fun _ => 0))), (q29, .inl (c29, 5, .inl (fun _ => 0))), (q37, .inl (c37, 56, .inl (fun _ => 0)))] H := hP
  have hD : va_D A [(h0, .inr (7, [.int 0, .int 0, .ref q6, .ref q14, .ref q22, .ref q29, .int 0, .int 0, .ref q37, .int 0, .int 0, .int 0, .int 0, .int 0, .null, .int 0, .int 0, .null, .null, .long 0, .null, .null])), (q6, .inl (c6, 5, .inl (fun _ => 0))), (q14, .inl (c14, 90, .inl (fun _ => 0))), (q22, .inl (c22, 45, .inl (fun _ => 0))), (q29, .inl (c29, 5, .inl (fun _ => 0))), (q37, .inl (c37, 56, .inl (fun _ => 0)))] := hD
  refine lv_aload_n hx hb dX7_init_42 rfl (lv_at hl 0 rfl) ?_
  refine lv_sipush (v := 630) hx hb dX7_init_43 (by decide) ?_
  refine va_newa (atype := .int) (ty := .int) (N' := 630) (a0 := (630, .inl (fun _ => 0))) hx hb (hts _ ka_I) rfl hK hP hD hS hA (fun _ => rfl) (by decide) (by decide) (by decide) (Nat.le_of_ble_eq_true rfl) (Nat.le_of_ble_eq_true rfl) dX7_init_46 (fun q46 c46 H hK hP hD hS => ?_)
  have hP : va_P D vwCl [(h0, .inr (7, [.int 0, .int 0, .ref q6, .ref q14, .ref q22, .ref q29, .int 0, .int 0, .ref q37, .int 0, .int 0, .int 0, .int 0, .int 0, .null, .int 0, .int 0, .null, .null, .long 0, .null, .null])), (q6, .inl (c6, 5, .inl (fun _ => 0))), (q14, .inl (c14, 90, .inl (fun _ => 0))), (q22, .inl (c22, 45, .inl (fun _ => 0))), (q29, .inl (c29, 5, .inl (fun _ => 0))), (q37, .inl (c37, 56, .inl (fun _ => 0))), (q46, .inl (c46, 630, .inl (fun _ => 0)))] H := hP
  have hD : va_D A [(h0, .inr (7, [.int 0, .int 0, .ref q6, .ref q14, .ref q22, .ref q29, .int 0, .int 0, .ref q37, .int 0, .int 0, .int 0, .int 0, .int 0, .null, .int 0, .int 0, .null, .null, .long 0, .null, .null])), (q6, .inl (c6, 5, .inl (fun _ => 0))), (q14, .inl (c14, 90, .inl (fun _ => 0))), (q22, .inl (c22, 45, .inl (fun _ => 0))), (q29, .inl (c29, 5, .inl (fun _ => 0))), (q37, .inl (c37, 56, .inl (fun _ => 0))), (q46, .inl (c46, 630, .inl (fun _ => 0)))] := hD
  have hK : va_K D vwCl [(c6, .int), (c14, .int), (c22, .int), (c29, .int), (c37, .int), (c46, .int)] s := hK
  refine W.widen (k := 6) (n := 831) (by decide) (by decide) ?_
  refine va_putF (D := D) (ci := 7) (v := .ref q46) (ty := (.array .int)) (C := RX7) (T := TX7) (N := 22) hx hb hts in_X7 tyX7 tyX7_ok nmX7 hown hK hP hD hS 0 rfl rfl 14 (by decide) (hts _ fl_X7_25) (fun _ h9 => h9) rfl hin rfl (by decide +kernel) rfl rfl (Nat.le_of_ble_eq_true rfl) dX7_init_48 (fun H locs hP hD hS => ?_)
  have hP : va_P D vwCl [(h0, .inr (7, [.int 0, .int 0, .ref q6, .ref q14, .ref q22, .ref q29, .int 0, .int 0, .ref q37, .int 0, .int 0, .int 0, .int 0, .int 0, .ref q46, .int 0, .int 0, .null, .null, .long 0, .null, .null])), (q6, .inl (c6, 5, .inl (fun _ => 0))), (q14, .inl (c14, 90, .inl (fun _ => 0))), (q22, .inl (c22, 45, .inl (fun _ => 0))), (q29, .inl (c29, 5, .inl (fun _ => 0))), (q37, .inl (c37, 56, .inl (fun _ => 0))), (q46, .inl (c46, 630, .inl (fun _ => 0)))] H := hP
  have hD : va_D A [(h0, .inr (7, [.int 0, .int 0, .ref q6, .ref q14, .ref q22, .ref q29, .int 0, .int 0, .ref q37, .int 0, .int 0, .int 0, .int 0, .int 0, .ref q46, .int 0, .int 0, .null, .null, .long 0, .null, .null])), (q6, .inl (c6, 5, .inl (fun _ => 0))), (q14, .inl (c14, 90, .inl (fun _ => 0))), (q22, .inl (c22, 45, .inl (fun _ => 0))), (q29, .inl (c29, 5, .inl (fun _ => 0))), (q37, .inl (c37, 56, .inl (fun _ => 0))), (q46, .inl (c46, 630, .inl (fun _ => 0)))] := hD
  refine lv_aload_n hx hb dX7_init_51 rfl (lv_at hl 0 rfl) ?_
  refine lv_bipush (v := 24) hx hb dX7_init_52 (by decide) ?_
  refine va_newa (atype := .int) (ty := .int) (N' := 24) (a0 := (24, .inl (fun _ => 0))) hx hb (hts _ ka_I) rfl hK hP hD hS hA (fun _ => rfl) (by decide) (by decide) (by decide) (Nat.le_of_ble_eq_true rfl) (Nat.le_of_ble_eq_true rfl) dX7_init_54 (fun q54 c54 H hK hP hD hS => ?_)
  have hP : va_P D vwCl [(h0, .inr (7, [.int 0, .int 0, .ref q6, .ref q14, .ref q22, .ref q29, .int 0, .int 0, .ref q37, .int 0, .int 0, .int 0, .int 0, .int 0, .ref q46, .int 0, .int 0, .null, .null, .long 0, .null, .null])), (q6, .inl (c6, 5, .inl (fun _ => 0))), (q14, .inl (c14, 90, .inl (fun _ => 0))), (q22, .inl (c22, 45, .inl (fun _ => 0))), (q29, .inl (c29, 5, .inl (fun _ => 0))), (q37, .inl (c37, 56, .inl (fun _ => 0))), (q46, .inl (c46, 630, .inl (fun _ => 0))), (q54, .inl (c54, 24, .inl (fun _ => 0)))] H := hP
  have hD : va_D A [(h0, .inr (7, [.int 0, .int 0, .ref q6, .ref q14, .ref q22, .ref q29, .int 0, .int 0, .ref q37, .int 0, .int 0, .int 0, .int 0, .int 0, .ref q46, .int 0, .int 0, .null, .null, .long 0, .null, .null])), (q6, .inl (c6, 5, .inl (fun _ => 0))), (q14, .inl (c14, 90, .inl (fun _ => 0))), (q22, .inl (c22, 45, .inl (fun _ => 0))), (q29, .inl (c29, 5, .inl (fun _ => 0))), (q37, .inl (c37, 56, .inl (fun _ => 0))), (q46, .inl (c46, 630, .inl (fun _ => 0))), (q54, .inl (c54, 24, .inl (fun _ => 0)))] := hD
  have hK : va_K D vwCl [(c6, .int), (c14, .int), (c22, .int), (c29, .int), (c37, .int), (c46, .int), (c54, .int)] s := hK
  refine W.widen (k := 7) (n := 855) (by decide) (by decide) ?_
  refine va_putF (D := D) (ci := 7) (v := .ref q54) (ty := (.array .int)) (C := RX7) (T := TX7) (N := 22) hx hb hts in_X7 tyX7 tyX7_ok nmX7 hown hK hP hD hS 0 rfl rfl 17 (by decide) (hts _ fl_X7_28) (fun _ h9 => h9) rfl hin rfl (by decide +kernel) rfl rfl (Nat.le_of_ble_eq_true rfl) dX7_init_56 (fun H locs hP hD hS => ?_)
  have hP : va_P D vwCl [(h0, .inr (7, [.int 0, .int 0, .ref q6, .ref q14, .ref q22, .ref q29, .int 0, .int 0, .ref q37, .int 0, .int 0, .int 0, .int 0, .int 0, .ref q46, .int 0, .int 0, .ref q54, .null, .long 0, .null, .null])), (q6, .inl (c6, 5, .inl (fun _ => 0))), (q14, .inl (c14, 90, .inl (fun _ => 0))), (q22, .inl (c22, 45, .inl (fun _ => 0))), (q29, .inl (c29, 5, .inl (fun _ => 0))), (q37, .inl (c37, 56, .inl (fun _ => 0))), (q46, .inl (c46, 630, .inl (fun _ => 0))), (q54, .inl (c54, 24, .inl (fun _ => 0)))] H := hP
  have hD : va_D A [(h0, .inr (7, [.int 0, .int 0, .ref q6, .ref q14, .ref q22, .ref q29, .int 0, .int 0, .ref q37, .int 0, .int 0, .int 0, .int 0, .int 0, .ref q46, .int 0, .int 0, .ref q54, .null, .long 0, .null, .null])), (q6, .inl (c6, 5, .inl (fun _ => 0))), (q14, .inl (c14, 90, .inl (fun _ => 0))), (q22, .inl (c22, 45, .inl (fun _ => 0))), (q29, .inl (c29, 5, .inl (fun _ => 0))), (q37, .inl (c37, 56, .inl (fun _ => 0))), (q46, .inl (c46, 630, .inl (fun _ => 0))), (q54, .inl (c54, 24, .inl (fun _ => 0)))] := hD
  refine lv_aload_n hx hb dX7_init_59 rfl (lv_at hl 0 rfl) ?_
  refine lv_bipush (v := 24) hx hb dX7_init_60 (by decide) ?_
  refine va_newa (atype := .int) (ty := .int) (N' := 24) (a0 := (24, .inl (fun _ => 0))) hx hb (hts _ ka_I) rfl hK hP hD hS hA (fun _ => rfl) (by decide) (by decide) (by decide) (Nat.le_of_ble_eq_true rfl) (Nat.le_of_ble_eq_true rfl) dX7_init_62 (fun q62 c62 H hK hP hD hS => ?_)
  have hP : va_P D vwCl [(h0, .inr (7, [.int 0, .int 0, .ref q6, .ref q14, .ref q22, .ref q29, .int 0, .int 0, .ref q37, .int 0, .int 0, .int 0, .int 0, .int 0, .ref q46, .int 0, .int 0, .ref q54, .null, .long 0, .null, .null])), (q6, .inl (c6, 5, .inl (fun _ => 0))), (q14, .inl (c14, 90, .inl (fun _ => 0))), (q22, .inl (c22, 45, .inl (fun _ => 0))), (q29, .inl (c29, 5, .inl (fun _ => 0))), (q37, .inl (c37, 56, .inl (fun _ => 0))), (q46, .inl (c46, 630, .inl (fun _ => 0))), (q54, .inl (c54, 24, .inl (fun _ => 0))), (q62, .inl (c62, 24, .inl (fun _ => 0)))] H := hP
  have hD : va_D A [(h0, .inr (7, [.int 0, .int 0, .ref q6, .ref q14, .ref q22, .ref q29, .int 0, .int 0, .ref q37, .int 0, .int 0, .int 0, .int 0, .int 0, .ref q46, .int 0, .int 0, .ref q54, .null, .long 0, .null, .null])), (q6, .inl (c6, 5, .inl (fun _ => 0))), (q14, .inl (c14, 90, .inl (fun _ => 0))), (q22, .inl (c22, 45, .inl (fun _ => 0))), (q29, .inl (c29, 5, .inl (fun _ => 0))), (q37, .inl (c37, 56, .inl (fun _ => 0))), (q46, .inl (c46, 630, .inl (fun _ => 0))), (q54, .inl (c54, 24, .inl (fun _ => 0))), (q62, .inl (c62, 24, .inl (fun _ => 0)))] := hD
  have hK : va_K D vwCl [(c6, .int), (c14, .int), (c22, .int), (c29, .int), (c37, .int), (c46, .int), (c54, .int), (c62, .int)] s := hK
  refine W.widen (k := 8) (n := 879) (by decide) (by decide) ?_
  refine va_putF (D := D) (ci := 7) (v := .ref q62) (ty := (.array .int)) (C := RX7) (T := TX7) (N := 22) hx hb hts in_X7 tyX7 tyX7_ok nmX7 hown hK hP hD hS 0 rfl rfl 18 (by decide) (hts _ fl_X7_31) (fun _ h9 => h9) rfl hin rfl (by decide +kernel) rfl rfl (Nat.le_of_ble_eq_true rfl) dX7_init_64 (fun H locs hP hD hS => ?_)
  have hP : va_P D vwCl [(h0, .inr (7, [.int 0, .int 0, .ref q6, .ref q14, .ref q22, .ref q29, .int 0, .int 0, .ref q37, .int 0, .int 0, .int 0, .int 0, .int 0, .ref q46, .int 0, .int 0, .ref q54, .ref q62, .long 0, .null, .null])), (q6, .inl (c6, 5, .inl (fun _ => 0))), (q14, .inl (c14, 90, .inl (fun _ => 0))), (q22, .inl (c22, 45, .inl (fun _ => 0))), (q29, .inl (c29, 5, .inl (fun _ => 0))), (q37, .inl (c37, 56, .inl (fun _ => 0))), (q46, .inl (c46, 630, .inl (fun _ => 0))), (q54, .inl (c54, 24, .inl (fun _ => 0))), (q62, .inl (c62, 24, .inl (fun _ => 0)))] H := hP
  have hD : va_D A [(h0, .inr (7, [.int 0, .int 0, .ref q6, .ref q14, .ref q22, .ref q29, .int 0, .int 0, .ref q37, .int 0, .int 0, .int 0, .int 0, .int 0, .ref q46, .int 0, .int 0, .ref q54, .ref q62, .long 0, .null, .null])), (q6, .inl (c6, 5, .inl (fun _ => 0))), (q14, .inl (c14, 90, .inl (fun _ => 0))), (q22, .inl (c22, 45, .inl (fun _ => 0))), (q29, .inl (c29, 5, .inl (fun _ => 0))), (q37, .inl (c37, 56, .inl (fun _ => 0))), (q46, .inl (c46, 630, .inl (fun _ => 0))), (q54, .inl (c54, 24, .inl (fun _ => 0))), (q62, .inl (c62, 24, .inl (fun _ => 0)))] := hD
  refine lv_aload_n hx hb dX7_init_67 rfl (lv_at hl 0 rfl) ?_
  refine lv_iconst (v := 2) hx hb dX7_init_68 (by decide) ?_
  refine va_newa (atype := .boolean) (ty := .boolean) (N' := 2) (a0 := (2, .inl (fun _ => 0))) hx hb (hts _ ka_Z) rfl hK hP hD hS hA (fun _ => rfl) (by decide) (by decide) (by decide) (Nat.le_of_ble_eq_true rfl) (Nat.le_of_ble_eq_true rfl) dX7_init_69 (fun q69 c69 H hK hP hD hS => ?_)
  have hP : va_P D vwCl [(h0, .inr (7, [.int 0, .int 0, .ref q6, .ref q14, .ref q22, .ref q29, .int 0, .int 0, .ref q37, .int 0, .int 0, .int 0, .int 0, .int 0, .ref q46, .int 0, .int 0, .ref q54, .ref q62, .long 0, .null, .null])), (q6, .inl (c6, 5, .inl (fun _ => 0))), (q14, .inl (c14, 90, .inl (fun _ => 0))), (q22, .inl (c22, 45, .inl (fun _ => 0))), (q29, .inl (c29, 5, .inl (fun _ => 0))), (q37, .inl (c37, 56, .inl (fun _ => 0))), (q46, .inl (c46, 630, .inl (fun _ => 0))), (q54, .inl (c54, 24, .inl (fun _ => 0))), (q62, .inl (c62, 24, .inl (fun _ => 0))), (q69, .inl (c69, 2, .inl (fun _ => 0)))] H := hP
  have hD : va_D A [(h0, .inr (7, [.int 0, .int 0, .ref q6, .ref q14, .ref q22, .ref q29, .int 0, .int 0, .ref q37, .int 0, .int 0, .int 0, .int 0, .int 0, .ref q46, .int 0, .int 0, .ref q54, .ref q62, .long 0, .null, .null])), (q6, .inl (c6, 5, .inl (fun _ => 0))), (q14, .inl (c14, 90, .inl (fun _ => 0))), (q22, .inl (c22, 45, .inl (fun _ => 0))), (q29, .inl (c29, 5, .inl (fun _ => 0))), (q37, .inl (c37, 56, .inl (fun _ => 0))), (q46, .inl (c46, 630, .inl (fun _ => 0))), (q54, .inl (c54, 24, .inl (fun _ => 0))), (q62, .inl (c62, 24, .inl (fun _ => 0))), (q69, .inl (c69, 2, .inl (fun _ => 0)))] := hD
  have hK : va_K D vwCl [(c6, .int), (c14, .int), (c22, .int), (c29, .int), (c37, .int), (c46, .int), (c54, .int), (c62, .int), (c69, .boolean)] s := hK
  refine W.widen (k := 9) (n := 881) (by decide) (by decide) ?_
  refine va_putF (D := D) (ci := 7) (v := .ref q69) (ty := (.array .boolean)) (C := RX7) (T := TX7) (N := 22) hx hb hts in_X7 tyX7 tyX7_ok nmX7 hown hK hP hD hS 0 rfl rfl 20 (by decide) (hts _ fl_X7_34) (fun _ h9 => h9) rfl hin rfl (by decide +kernel) rfl rfl (Nat.le_of_ble_eq_true rfl) dX7_init_71 (fun H locs hP hD hS => ?_)
  have hP : va_P D vwCl [(h0, .inr (7, [.int 0, .int 0, .ref q6, .ref q14, .ref q22, .ref q29, .int 0, .int 0, .ref q37, .int 0, .int 0, .int 0, .int 0, .int 0, .ref q46, .int 0, .int 0, .ref q54, .ref q62, .long 0, .ref q69, .null])), (q6, .inl (c6, 5, .inl (fun _ => 0))), (q14, .inl (c14, 90, .inl (fun _ => 0))), (q22, .inl (c22, 45, .inl (fun _ => 0))), (q29, .inl (c29, 5, .inl (fun _ => 0))), (q37, .inl (c37, 56, .inl (fun _ => 0))), (q46, .inl (c46, 630, .inl (fun _ => 0))), (q54, .inl (c54, 24, .inl (fun _ => 0))), (q62, .inl (c62, 24, .inl (fun _ => 0))), (q69, .inl (c69, 2, .inl (fun _ => 0)))] H := hP
  have hD : va_D A [(h0, .inr (7, [.int 0, .int 0, .ref q6, .ref q14, .ref q22, .ref q29, .int 0, .int 0, .ref q37, .int 0, .int 0, .int 0, .int 0, .int 0, .ref q46, .int 0, .int 0, .ref q54, .ref q62, .long 0, .ref q69, .null])), (q6, .inl (c6, 5, .inl (fun _ => 0))), (q14, .inl (c14, 90, .inl (fun _ => 0))), (q22, .inl (c22, 45, .inl (fun _ => 0))), (q29, .inl (c29, 5, .inl (fun _ => 0))), (q37, .inl (c37, 56, .inl (fun _ => 0))), (q46, .inl (c46, 630, .inl (fun _ => 0))), (q54, .inl (c54, 24, .inl (fun _ => 0))), (q62, .inl (c62, 24, .inl (fun _ => 0))), (q69, .inl (c69, 2, .inl (fun _ => 0)))] := hD
  refine lv_aload_n hx hb dX7_init_74 rfl (lv_at hl 0 rfl) ?_
  refine lv_bipush (v := 90) hx hb dX7_init_75 (by decide) ?_
  refine va_newa (atype := .int) (ty := .int) (N' := 90) (a0 := (90, .inl (fun _ => 0))) hx hb (hts _ ka_I) rfl hK hP hD hS hA (fun _ => rfl) (by decide) (by decide) (by decide) (Nat.le_of_ble_eq_true rfl) (Nat.le_of_ble_eq_true rfl) dX7_init_77 (fun q77 c77 H hK hP hD hS => ?_)
  have hP : va_P D vwCl [(h0, .inr (7, [.int 0, .int 0, .ref q6, .ref q14, .ref q22, .ref q29, .int 0, .int 0, .ref q37, .int 0, .int 0, .int 0, .int 0, .int 0, .ref q46, .int 0, .int 0, .ref q54, .ref q62, .long 0, .ref q69, .null])), (q6, .inl (c6, 5, .inl (fun _ => 0))), (q14, .inl (c14, 90, .inl (fun _ => 0))), (q22, .inl (c22, 45, .inl (fun _ => 0))), (q29, .inl (c29, 5, .inl (fun _ => 0))), (q37, .inl (c37, 56, .inl (fun _ => 0))), (q46, .inl (c46, 630, .inl (fun _ => 0))), (q54, .inl (c54, 24, .inl (fun _ => 0))), (q62, .inl (c62, 24, .inl (fun _ => 0))), (q69, .inl (c69, 2, .inl (fun _ => 0))), (q77, .inl (c77, 90, .inl (fun _ => 0)))] H := hP
  have hD : va_D A [(h0, .inr (7, [.int 0, .int 0, .ref q6, .ref q14, .ref q22, .ref q29, .int 0, .int 0, .ref q37, .int 0, .int 0, .int 0, .int 0, .int 0, .ref q46, .int 0, .int 0, .ref q54, .ref q62, .long 0, .ref q69, .null])), (q6, .inl (c6, 5, .inl (fun _ => 0))), (q14, .inl (c14, 90, .inl (fun _ => 0))), (q22, .inl (c22, 45, .inl (fun _ => 0))), (q29, .inl (c29, 5, .inl (fun _ => 0))), (q37, .inl (c37, 56, .inl (fun _ => 0))), (q46, .inl (c46, 630, .inl (fun _ => 0))), (q54, .inl (c54, 24, .inl (fun _ => 0))), (q62, .inl (c62, 24, .inl (fun _ => 0))), (q69, .inl (c69, 2, .inl (fun _ => 0))), (q77, .inl (c77, 90, .inl (fun _ => 0)))] := hD
  have hK : va_K D vwCl [(c6, .int), (c14, .int), (c22, .int), (c29, .int), (c37, .int), (c46, .int), (c54, .int), (c62, .int), (c69, .boolean), (c77, .int)] s := hK
  refine W.widen (k := 10) (n := 971) (by decide) (by decide) ?_
  refine va_putF (D := D) (ci := 7) (v := .ref q77) (ty := (.array .int)) (C := RX7) (T := TX7) (N := 22) hx hb hts in_X7 tyX7 tyX7_ok nmX7 hown hK hP hD hS 0 rfl rfl 21 (by decide) (hts _ fl_X7_38) (fun _ h9 => h9) rfl hin rfl (by decide +kernel) rfl rfl (Nat.le_of_ble_eq_true rfl) dX7_init_79 (fun H locs hP hD hS => ?_)
  have hP : va_P D vwCl [(h0, .inr (7, [.int 0, .int 0, .ref q6, .ref q14, .ref q22, .ref q29, .int 0, .int 0, .ref q37, .int 0, .int 0, .int 0, .int 0, .int 0, .ref q46, .int 0, .int 0, .ref q54, .ref q62, .long 0, .ref q69, .ref q77])), (q6, .inl (c6, 5, .inl (fun _ => 0))), (q14, .inl (c14, 90, .inl (fun _ => 0))), (q22, .inl (c22, 45, .inl (fun _ => 0))), (q29, .inl (c29, 5, .inl (fun _ => 0))), (q37, .inl (c37, 56, .inl (fun _ => 0))), (q46, .inl (c46, 630, .inl (fun _ => 0))), (q54, .inl (c54, 24, .inl (fun _ => 0))), (q62, .inl (c62, 24, .inl (fun _ => 0))), (q69, .inl (c69, 2, .inl (fun _ => 0))), (q77, .inl (c77, 90, .inl (fun _ => 0)))] H := hP
  have hD : va_D A [(h0, .inr (7, [.int 0, .int 0, .ref q6, .ref q14, .ref q22, .ref q29, .int 0, .int 0, .ref q37, .int 0, .int 0, .int 0, .int 0, .int 0, .ref q46, .int 0, .int 0, .ref q54, .ref q62, .long 0, .ref q69, .ref q77])), (q6, .inl (c6, 5, .inl (fun _ => 0))), (q14, .inl (c14, 90, .inl (fun _ => 0))), (q22, .inl (c22, 45, .inl (fun _ => 0))), (q29, .inl (c29, 5, .inl (fun _ => 0))), (q37, .inl (c37, 56, .inl (fun _ => 0))), (q46, .inl (c46, 630, .inl (fun _ => 0))), (q54, .inl (c54, 24, .inl (fun _ => 0))), (q62, .inl (c62, 24, .inl (fun _ => 0))), (q69, .inl (c69, 2, .inl (fun _ => 0))), (q77, .inl (c77, 90, .inl (fun _ => 0)))] := hD
  refine lv_aload_n hx hb dX7_init_82 rfl (lv_at hl 0 rfl) ?_
  refine lv_iconst (v := 0) hx hb dX7_init_83 (by decide) ?_
  refine va_put (D := D) (ci := 7) (v := .int 0) (ty := .int) (C := RX7) (T := TX7) (N := 22) hx hb hts in_X7 tyX7 tyX7_ok nmX7 hown hK hP hD hS 0 rfl rfl 0 (by decide) (hts _ fl_X7_41) (fun _ h9 => h9) rfl (by decide +kernel) rfl rfl (Nat.le_of_ble_eq_true rfl) dX7_init_84 (fun H locs hP hD hS => ?_)
  have hP : va_P D vwCl [(h0, .inr (7, [.int 0, .int 0, .ref q6, .ref q14, .ref q22, .ref q29, .int 0, .int 0, .ref q37, .int 0, .int 0, .int 0, .int 0, .int 0, .ref q46, .int 0, .int 0, .ref q54, .ref q62, .long 0, .ref q69, .ref q77])), (q6, .inl (c6, 5, .inl (fun _ => 0))), (q14, .inl (c14, 90, .inl (fun _ => 0))), (q22, .inl (c22, 45, .inl (fun _ => 0))), (q29, .inl (c29, 5, .inl (fun _ => 0))), (q37, .inl (c37, 56, .inl (fun _ => 0))), (q46, .inl (c46, 630, .inl (fun _ => 0))), (q54, .inl (c54, 24, .inl (fun _ => 0))), (q62, .inl (c62, 24, .inl (fun _ => 0))), (q69, .inl (c69, 2, .inl (fun _ => 0))), (q77, .inl (c77, 90, .inl (fun _ => 0)))] H := hP
  have hD : va_D A [(h0, .inr (7, [.int 0, .int 0, .ref q6, .ref q14, .ref q22, .ref q29, .int 0, .int 0, .ref q37, .int 0, .int 0, .int 0, .int 0, .int 0, .ref q46, .int 0, .int 0, .ref q54, .ref q62, .long 0, .ref q69, .ref q77])), (q6, .inl (c6, 5, .inl (fun _ => 0))), (q14, .inl (c14, 90, .inl (fun _ => 0))), (q22, .inl (c22, 45, .inl (fun _ => 0))), (q29, .inl (c29, 5, .inl (fun _ => 0))), (q37, .inl (c37, 56, .inl (fun _ => 0))), (q46, .inl (c46, 630, .inl (fun _ => 0))), (q54, .inl (c54, 24, .inl (fun _ => 0))), (q62, .inl (c62, 24, .inl (fun _ => 0))), (q69, .inl (c69, 2, .inl (fun _ => 0))), (q77, .inl (c77, 90, .inl (fun _ => 0)))] := hD
  exact W.vret hx hb hr (fun t ht hW => ⟨⟨(), rfl, trivial, q6, q14, q22, q29, q37, q46, q54, q62, q69, q77, c6, c14, c22, c29, c37, c46, c54, c62, c69, c77, by rw [ht]; exact hP, va_K.moved hW.alike hK, hD⟩, hS.F ht⟩) hS.2.2 dX7_init_87
