set_option maxHeartbeats 4000000 in
set_option maxRecDepth 100000 in
theorem start_end {p : Program} {e : Env} {s : State} {m : MethodId} {below : List Frame} {meth : Method} {c : Code} (l : Launch) {b L : Nat} {xs : Nat → Int32} (hL : L ≤ 256) (hx : p.tables.exec = Jvm.exec) (hb : c.code = code) (hr : meth.sig.returnType = ret) (hml : c.maxLocals = 4) (hown : s.vm.findClass RL = some m.cls) (hts : ∀ w ∈ pb_gw, w.before #[Value.ref b] s = true) (hX : va_X b L xs s s.heap) (hbl : b < s.heap.size) (hlocks : meth.locks = false) (hN : ∀ q ∈ pb_nest, va_Nw (.methodLinkNest q.1 q.2.1 q.2.2.1 q.2.2.2) s) {fa : Nat} (hZ : va_Z "PoundBeasts$Matching" "FACTORIALS" "[I" (.ref fa) (fun q : Nat => s.heap.size ≤ q) s s.heap) (hT : va_T .int fa 5 pb_fac (fun q : Nat => s.heap.size ≤ q) s s.heap)
    {D : va_G} {ad : Nat → Nat} {cI cZ : ClassId} {H : Heap} {locs : List Loc} {ls : Array Slot} (hK : va_K D vwCl [(cI, .int), (cZ, .boolean)] s) (hP : va_P D vwCl [(ad 0, .inr (6, [.ref (ad 1), .ref (ad 4), .ref (ad 6), .ref (ad 8), .ref (ad 10), .ref (ad 12), .ref (ad 15), .ref (ad 17), .ref (ad 18), .int 0, .long 0])), (ad 1, .inr (4, [.ref (ad 2), .ref (ad 3), .int 0])), (ad 2, .inl (cI, 56, .inl (fun _ => 0))), (ad 3, .inl (cI, 3, .inl (fun _ => 0))), (ad 4, .inr (5, [.ref (ad 5)])), (ad 5, .inl (cI, 52, .inl (fun _ => 0))), (ad 6, .inr (5, [.ref (ad 7)])), (ad 7, .inl (cI, 52, .inl (fun _ => 0))), (ad 8, .inr (0, [.ref (ad 9), .int 0, .int 0])), (ad 9, .inl (cI, 728, .inl (fun _ => 0))), (ad 10, .inr (2, [.ref (ad 11), .int 0])), (ad 11, .inl (cI, 4, .inl (fun _ => 0))), (ad 12, .inr (3, [.ref (ad 13), .ref (ad 14), .int 0])), (ad 13, .inl (cI, 5, .inl (fun _ => 0))), (ad 14, .inl (cI, 4, .inl (fun _ => 0))), (ad 15, .inr (1, [.ref (ad 16), .int 0, .int 0, .int 0, .int 0, .int 0])), (ad 16, .inl (cI, 5, .inl (fun _ => 0))), (ad 17, .inl (cI, 104, .inl (fun _ => 0))), (ad 18, .inl (cI, 4, .inl (fun _ => 0))), (ad 19, .inr (7, [.int 0, .int 0, .ref (ad 20), .ref (ad 21), .ref (ad 22), .ref (ad 23), .int 0, .int 0, .ref (ad 24), .int 0, .int 0, .int 0, .int 0, .int 0, .ref (ad 25), .int 0, .int 0, .ref (ad 26), .ref (ad 27), .long 0, .ref (ad 28), .ref (ad 29)])), (ad 20, .inl (cI, 5, .inl (fun _ => 0))), (ad 21, .inl (cI, 90, .inl (fun _ => 0))), (ad 22, .inl (cI, 45, .inl (fun _ => 0))), (ad 23, .inl (cI, 5, .inl (fun _ => 0))), (ad 24, .inl (cI, 56, .inl (fun _ => 0))), (ad 25, .inl (cI, 630, .inl (fun _ => 0))), (ad 26, .inl (cI, 24, .inl (fun _ => 0))), (ad 27, .inl (cI, 24, .inl (fun _ => 0))), (ad 28, .inl (cZ, 2, .inl (fun _ => 0))), (ad 29, .inl (cI, 90, .inl (fun _ => 0)))] H) (hD : va_D (fun q : Nat => s.heap.size ≤ q) [(ad 0, .inr (6, [.ref (ad 1), .ref (ad 4), .ref (ad 6), .ref (ad 8), .ref (ad 10), .ref (ad 12), .ref (ad 15), .ref (ad 17), .ref (ad 18), .int 0, .long 0])), (ad 1, .inr (4, [.ref (ad 2), .ref (ad 3), .int 0])), (ad 2, .inl (cI, 56, .inl (fun _ => 0))), (ad 3, .inl (cI, 3, .inl (fun _ => 0))), (ad 4, .inr (5, [.ref (ad 5)])), (ad 5, .inl (cI, 52, .inl (fun _ => 0))), (ad 6, .inr (5, [.ref (ad 7)])), (ad 7, .inl (cI, 52, .inl (fun _ => 0))), (ad 8, .inr (0, [.ref (ad 9), .int 0, .int 0])), (ad 9, .inl (cI, 728, .inl (fun _ => 0))), (ad 10, .inr (2, [.ref (ad 11), .int 0])), (ad 11, .inl (cI, 4, .inl (fun _ => 0))), (ad 12, .inr (3, [.ref (ad 13), .ref (ad 14), .int 0])), (ad 13, .inl (cI, 5, .inl (fun _ => 0))), (ad 14, .inl (cI, 4, .inl (fun _ => 0))), (ad 15, .inr (1, [.ref (ad 16), .int 0, .int 0, .int 0, .int 0, .int 0])), (ad 16, .inl (cI, 5, .inl (fun _ => 0))), (ad 17, .inl (cI, 104, .inl (fun _ => 0))), (ad 18, .inl (cI, 4, .inl (fun _ => 0))), (ad 19, .inr (7, [.int 0, .int 0, .ref (ad 20), .ref (ad 21), .ref (ad 22), .ref (ad 23), .int 0, .int 0, .ref (ad 24), .int 0, .int 0, .int 0, .int 0, .int 0, .ref (ad 25), .int 0, .int 0, .ref (ad 26), .ref (ad 27), .long 0, .ref (ad 28), .ref (ad 29)])), (ad 20, .inl (cI, 5, .inl (fun _ => 0))), (ad 21, .inl (cI, 90, .inl (fun _ => 0))), (ad 22, .inl (cI, 45, .inl (fun _ => 0))), (ad 23, .inl (cI, 5, .inl (fun _ => 0))), (ad 24, .inl (cI, 56, .inl (fun _ => 0))), (ad 25, .inl (cI, 630, .inl (fun _ => 0))), (ad 26, .inl (cI, 24, .inl (fun _ => 0))), (ad 27, .inl (cI, 24, .inl (fun _ => 0))), (ad 28, .inl (cZ, 2, .inl (fun _ => 0))), (ad 29, .inl (cI, 90, .inl (fun _ => 0)))]) (hS : va_S (fun q : Nat => s.heap.size ≤ q) s.heap H locs) (hl : lv_has ls 4 [(3, .int 0), (2, .ref (ad 19)), (1, .ref (ad 0)), (0, .ref b)]) : W p l e room_1 s m #[Value.ref b] below meth c H locs 30 2040 (lw_Z below #[Value.ref b] s) (F0 m 18 ls []) := by
  have hPw : va_P D vwCl (pb_ws (D, ad, cI, cZ, fa) pb_m0) H := by rw [pb_ws_list]; exact hP
  have hDw : va_D (fun q : Nat => s.heap.size ≤ q) (pb_ws (D, ad, cI, cZ, fa) pb_m0) := by rw [pb_ws_list]; exact hD
  generalize hE : ((D, ad, cI, cZ, fa) : pb_E) = E at hPw hDw
  have e1 : E.1 = D := by rw [← hE]
  have e2 : E.2.1 = ad := by rw [← hE]
  have e3 : E.2.2.1 = cI := by rw [← hE]
  have e4 : E.2.2.2.1 = cZ := by rw [← hE]
  have e5 : E.2.2.2.2 = fa := by rw [← hE]
  have hinj : ∀ i j : Nat, i < pb_sh.length → j < pb_sh.length → E.2.1 i = E.2.1 j → i = j := fun i j hi hj he => by
    obtain ⟨x, hx1⟩ : ∃ x, pb_sh[i]? = some x := ⟨_, List.getElem?_eq_getElem hi⟩
    obtain ⟨y, hy1⟩ : ∃ y, pb_sh[j]? = some y := ⟨_, List.getElem?_eq_getElem hj⟩
    exact hDw.1 i j _ _ (pb_ws_at hx1) (pb_ws_at hy1) he
  have hAw : ∀ q, pb_A E q → s.heap.size ≤ q := fun q hq => by
    obtain ⟨h, hh, rfl⟩ := hq
    obtain ⟨x, hx1⟩ : ∃ x, pb_sh[h]? = some x := ⟨_, List.getElem?_eq_getElem hh⟩
    exact hDw.2 h _ (pb_ws_at hx1)
  have hG : pb_G E s := ⟨by rw [e1, e3, e4]; exact hK, fun q hq => hN q hq, by rw [e5]; exact hZ.narrow (fun q hq => hAw q hq), by rw [e5]; exact hT.narrow (fun q hq => hAw q hq), hinj⟩
  have hSw : va_S (pb_A E) s.heap H [] := ⟨hS.1, fun q h1 _ => hS.2.1 q h1 (fun z => absurd z (Nat.not_le.mpr h1)), fun _ h => by cases h⟩
  refine va_forget (fun q hq => hS.2.2 q hq) ?_
  obtain ⟨r, μ', hpure⟩ := law_pure L xs hL
  exact tL_law_L18 l E xs L pb_F 0 pb_m0 r μ' hpure p e s m _ below meth c H [] ls ⟨hx, hb, hml, hr, hown, hlocks, hts, hG, ⟨hX, hbl, hAw⟩⟩ (by rw [e1]; exact hPw) hSw ⟨hl.1, hl.2.1, fun i v hi => hl.2.2 (i, v) (by
    rw [← e2]
    match i, hi with
    | 0, hi => cases hi; simp
    | 1, hi => cases hi; simp
    | 2, hi => cases hi; simp
    | 3, hi => cases hi; simp
    | i + 4, hi => simp at hi)⟩
set_option maxHeartbeats 8000000 in
set_option maxRecDepth 100000 in
/-- THE LAW, from its entry -/
theorem whole_start {p : Program} {e : Env} {s : State} {m : MethodId} {below : List Frame} {meth : Method} {c : Code} (l : Launch) {b L : Nat} {xs : Nat → Int32} (hL : L ≤ 256) (C0 : lw_At p s m meth c b L xs) : W p l e room_1 s m #[Value.ref b] below meth c s.heap [] 0 0 (lw_Z below #[Value.ref b] s) (entryFrame m ([Value.ref b] : List Value).toArray 4) := by
  obtain ⟨hx, hb, hr, hml, hown, hts0, hX, hbl, hlocks, hgv⟩ := id C0
  have hts : ∀ w ∈ pb_gw, w.before #[Value.ref b] s = true := fun w hw => hts0 w (List.mem_filter.mp hw).1
  have hA : ∀ q : Nat, s.heap.size ≤ q → (fun q : Nat => s.heap.size ≤ q) q := fun _ h => h
  have hA0 : ∀ a : Nat, a < s.heap.size → ¬ (fun q : Nat => s.heap.size ≤ q) a := fun a h => Nat.not_le.mpr h
  have hNI : ∀ q ∈ pb_nestI, va_Nw (.methodLinkNest q.1 q.2.1 q.2.2.1 q.2.2.2) s := fun q hq => va_Nw.of rfl (hts0 _ (nst_allI q hq))
  have hN : ∀ q ∈ pb_nest, va_Nw (.methodLinkNest q.1 q.2.1 q.2.2.1 q.2.2.2) s := fun q hq => va_Nw.of rfl (hts0 _ (nst_all q hq))
  have hfl := flat_of_before _ hgv
  obtain ⟨fa, hfa, hT⟩ := va_Tof (args := #[Value.ref b]) (s := s) (tm := .static "PoundBeasts$Matching" "FACTORIALS" "[I") (ty := .int) (N := 5) (f := pb_fac) (A := fun q : Nat => s.heap.size ≤ q) (by decide) (hfl _ (by decide +kernel)) (va_eqt (hfl (.eq (.length (.static "PoundBeasts$Matching" "FACTORIALS" "[I")) (.int 5)) (by decide +kernel))) (fun j hj => by
    rcases (show j = 0 ∨ j = 1 ∨ j = 2 ∨ j = 3 ∨ j = 4 by omega) with rfl | rfl | rfl | rfl | rfl
    · exact va_eqt (hfl (.eq (.elem (.static "PoundBeasts$Matching" "FACTORIALS" "[I") (.int 0)) (.int 1)) (by decide +kernel))
    · exact va_eqt (hfl (.eq (.elem (.static "PoundBeasts$Matching" "FACTORIALS" "[I") (.int 1)) (.int 1)) (by decide +kernel))
    · exact va_eqt (hfl (.eq (.elem (.static "PoundBeasts$Matching" "FACTORIALS" "[I") (.int 2)) (.int 2)) (by decide +kernel))
    · exact va_eqt (hfl (.eq (.elem (.static "PoundBeasts$Matching" "FACTORIALS" "[I") (.int 3)) (.int 6)) (by decide +kernel))
    · exact va_eqt (hfl (.eq (.elem (.static "PoundBeasts$Matching" "FACTORIALS" "[I") (.int 4)) (.int 24)) (by decide +kernel))) hA0
  have hZ : va_Z "PoundBeasts$Matching" "FACTORIALS" "[I" (.ref fa) (fun q : Nat => s.heap.size ≤ q) s s.heap := va_Zof (hts0 _ kz_fac) (hts _ ki_X2) hfa hA0
  obtain ⟨k0, iS0, hKn0⟩ := u_known (C := RX0) (T := TX0) (N := 3) (n := 3) hts in_X0 (hts _ kn_X0)
  obtain ⟨k1, iS1, hKn1⟩ := u_known (C := RX1) (T := TX1) (N := 6) (n := 6) hts in_X1 (hts _ kn_X1)
  obtain ⟨k2, iS2, hKn2⟩ := u_known (C := RX2) (T := TX2) (N := 2) (n := 2) hts in_X2 (hts _ kn_X2)
  obtain ⟨k3, iS3, hKn3⟩ := u_known (C := RX3) (T := TX3) (N := 3) (n := 3) hts in_X3 (hts _ kn_X3)
  obtain ⟨k4, iS4, hKn4⟩ := u_known (C := RX4) (T := TX4) (N := 3) (n := 3) hts in_X4 (hts _ kn_X4)
  obtain ⟨k5, iS5, hKn5⟩ := u_known (C := RX5) (T := TX5) (N := 1) (n := 1) hts in_X5 (hts _ kn_X5)
  obtain ⟨k6, iS6, hKn6⟩ := u_known (C := RX6) (T := TX6) (N := 11) (n := 11) hts in_X6 (hts _ kn_X6)
  obtain ⟨k7, iS7, hKn7⟩ := u_known (C := RX7) (T := TX7) (N := 22) (n := 22) hts in_X7 (hts _ kn_X7)
  obtain ⟨D, hKc⟩ : ∃ D : va_G, ∀ (k : Nat) (q : vw_C), vwCl[k]? = some q → u_Kn s q.1 q.2.1 q.2.2 (D.1 k) (D.2 k) := by
    refine ⟨(fun k => if k = 0 then k0 else if k = 1 then k1 else if k = 2 then k2 else if k = 3 then k3 else if k = 4 then k4 else if k = 5 then k5 else if k = 6 then k6 else k7, fun k => if k = 0 then iS0 else if k = 1 then iS1 else if k = 2 then iS2 else if k = 3 then iS3 else if k = 4 then iS4 else if k = 5 then iS5 else if k = 6 then iS6 else iS7), ?_⟩
    intro k q hq
    match k, hq with
    | 0, hq => cases hq; exact hKn0
    | 1, hq => cases hq; exact hKn1
    | 2, hq => cases hq; exact hKn2
    | 3, hq => cases hq; exact hKn3
    | 4, hq => cases hq; exact hKn4
    | 5, hq => cases hq; exact hKn5
    | 6, hq => cases hq; exact hKn6
    | 7, hq => cases hq; exact hKn7
    | k + 8, hq => simp [vwCl] at hq
  have hS : va_S (fun q : Nat => s.heap.size ≤ q) s.heap s.heap [] := va_S.rf
  have hK : va_K D vwCl [] s := ⟨hKc, fun k q h => by simp at h⟩
  have hP : va_P D vwCl [] s.heap := fun k q h => by simp at h
  have hD : va_D (fun q : Nat => s.heap.size ≤ q) [] := ⟨fun i j p q h => by simp at h, fun k q h => by simp at h⟩
  have hl := lv_entry ([.ref b]) (n := 4) (Nat.le_of_ble_eq_true rfl)
  rw [lg_entry_eq]
  generalize (lg_sl ([.ref b]) ++ List.replicate (4 - (lg_sl ([.ref b])).length) Slot.unset).toArray = ls at hl ⊢
  have hl : lv_has ls 4 [(0, .ref b)] := hl
  refine va_new (ci := 6) (fs := [.null, .null, .null, .null, .null, .null, .null, .null, .null, .int 0, .long 0]) (C := RX6) (T := TX6) (N := 11) hx hb hts in_X6 tyX6 tyX6_ok hown (hts _ kl_L_7) (hts _ kn_X6) (hts _ ki_X6) hK hP hD hS hA rfl (fun j hj => by
    rcases (show j = 0 ∨ j = 1 ∨ j = 2 ∨ j = 3 ∨ j = 4 ∨ j = 5 ∨ j = 6 ∨ j = 7 ∨ j = 8 ∨ j = 9 ∨ j = 10 by omega) with rfl | rfl | rfl | rfl | rfl | rfl | rfl | rfl | rfl | rfl | rfl <;> rfl) (Nat.le_of_ble_eq_true rfl) (Nat.le_of_ble_eq_true rfl) dL_law_0 (fun qa H hP hD hS => ?_)
  have hP : va_P D vwCl [(qa, .inr (6, [.null, .null, .null, .null, .null, .null, .null, .null, .null, .int 0, .long 0]))] H := hP
  have hD : va_D (fun q : Nat => s.heap.size ≤ q) [(qa, .inr (6, [.null, .null, .null, .null, .null, .null, .null, .null, .null, .int 0, .long 0]))] := hD
  refine W.widen (k := 1) (n := 11) (by decide) (by decide) ?_
  refine lv_dup hx hb dL_law_3 rfl ?_
  have hPc := hP.sub (ws' := [(qa, .inr (6, [.null, .null, .null, .null, .null, .null, .null, .null, .null, .int 0, .long 0]))]) [0] rfl
  have hDc := hD.sub (ws' := [(qa, .inr (6, [.null, .null, .null, .null, .null, .null, .null, .null, .null, .int 0, .long 0]))]) [0] (by decide) rfl
  have hKc := hK.sub (tys' := []) [] rfl
  have hFc := va_free (wc := [(qa, .inr (6, [.null, .null, .null, .null, .null, .null, .null, .null, .null, .int 0, .long 0]))]) hD hS hA [0] rfl
  refine va_callv (va_runI (As := []) (rest := [.ref qa]) (Ts := pb_gw) ⟨hx, hb, hml, hown, hts⟩ (ct_X6 l D qa H.size) ⟨callB_of 0 hts (pb_goodC mcI_X6.1) rfl rfl rfl (hts _ mcI_X6.2.1) (hts _ ml_L_9) mcI_X6.2.2 ⟨Nat.le_of_ble_eq_true rfl, Nat.le_of_ble_eq_true rfl⟩, rfl, hts _ miI_X6⟩ (ct_preN hPc hKc hDc rfl hNI) rfl rfl hl.1 rfl (lv_room (Nat.le_of_ble_eq_true rfl)) dL_law_4 ⟨Nat.le_of_ble_eq_true rfl, Nat.le_of_ble_eq_true rfl⟩) hS (fun q _ h => hFc q h) hFc (fun u t H1 locs ht hvm _ hB hz1 hk1 hS => ?_)
  obtain ⟨q5_qa, q7_9_qa, q14_9_qa, q16_qa, q7_20_qa, q27_qa, q7_31_qa, q38_qa, q8_42_qa, q49_qa, q6_53_qa, q60_qa, q6_64_qa, q13_64_qa, q71_qa, q6_75_qa, q84_qa, q91_qa, c7_9_qa, c14_9_qa, c7_20_qa, c7_31_qa, c8_42_qa, c6_53_qa, c6_64_qa, c13_64_qa, c6_75_qa, c84_qa, c91_qa, hP1, hK1, hD1⟩ := hB
  rw [ht] at hP1
  have hK1 := va_K.moved hvm.symm hK1
  obtain ⟨hP, hD⟩ := va_join (wr := []) (w1 := [(qa, .inr (6, [.ref q5_qa, .ref q16_qa, .ref q27_qa, .ref q38_qa, .ref q49_qa, .ref q60_qa, .ref q71_qa, .ref q84_qa, .ref q91_qa, .int 0, .long 0])), (q5_qa, .inr (4, [.ref q7_9_qa, .ref q14_9_qa, .int 0])), (q7_9_qa, .inl (c7_9_qa, 56, .inl (fun _ => 0))), (q14_9_qa, .inl (c14_9_qa, 3, .inl (fun _ => 0))), (q16_qa, .inr (5, [.ref q7_20_qa])), (q7_20_qa, .inl (c7_20_qa, 52, .inl (fun _ => 0))), (q27_qa, .inr (5, [.ref q7_31_qa])), (q7_31_qa, .inl (c7_31_qa, 52, .inl (fun _ => 0))), (q38_qa, .inr (0, [.ref q8_42_qa, .int 0, .int 0])), (q8_42_qa, .inl (c8_42_qa, 728, .inl (fun _ => 0))), (q49_qa, .inr (2, [.ref q6_53_qa, .int 0])), (q6_53_qa, .inl (c6_53_qa, 4, .inl (fun _ => 0))), (q60_qa, .inr (3, [.ref q6_64_qa, .ref q13_64_qa, .int 0])), (q6_64_qa, .inl (c6_64_qa, 5, .inl (fun _ => 0))), (q13_64_qa, .inl (c13_64_qa, 4, .inl (fun _ => 0))), (q71_qa, .inr (1, [.ref q6_75_qa, .int 0, .int 0, .int 0, .int 0, .int 0])), (q6_75_qa, .inl (c6_75_qa, 5, .inl (fun _ => 0))), (q84_qa, .inl (c84_qa, 104, .inl (fun _ => 0))), (q91_qa, .inl (c91_qa, 4, .inl (fun _ => 0)))]) hP hD [0] [] rfl rfl (by decide) (by decide) hk1 hFc hP1 hD1
  have hK := (hK.sub (tys' := []) [] rfl).app hK1
  generalize H1 = H at hP hS ⊢
  have hP : va_P D vwCl [(qa, .inr (6, [.ref q5_qa, .ref q16_qa, .ref q27_qa, .ref q38_qa, .ref q49_qa, .ref q60_qa, .ref q71_qa, .ref q84_qa, .ref q91_qa, .int 0, .long 0])), (q5_qa, .inr (4, [.ref q7_9_qa, .ref q14_9_qa, .int 0])), (q7_9_qa, .inl (c7_9_qa, 56, .inl (fun _ => 0))), (q14_9_qa, .inl (c14_9_qa, 3, .inl (fun _ => 0))), (q16_qa, .inr (5, [.ref q7_20_qa])), (q7_20_qa, .inl (c7_20_qa, 52, .inl (fun _ => 0))), (q27_qa, .inr (5, [.ref q7_31_qa])), (q7_31_qa, .inl (c7_31_qa, 52, .inl (fun _ => 0))), (q38_qa, .inr (0, [.ref q8_42_qa, .int 0, .int 0])), (q8_42_qa, .inl (c8_42_qa, 728, .inl (fun _ => 0))), (q49_qa, .inr (2, [.ref q6_53_qa, .int 0])), (q6_53_qa, .inl (c6_53_qa, 4, .inl (fun _ => 0))), (q60_qa, .inr (3, [.ref q6_64_qa, .ref q13_64_qa, .int 0])), (q6_64_qa, .inl (c6_64_qa, 5, .inl (fun _ => 0))), (q13_64_qa, .inl (c13_64_qa, 4, .inl (fun _ => 0))), (q71_qa, .inr (1, [.ref q6_75_qa, .int 0, .int 0, .int 0, .int 0, .int 0])), (q6_75_qa, .inl (c6_75_qa, 5, .inl (fun _ => 0))), (q84_qa, .inl (c84_qa, 104, .inl (fun _ => 0))), (q91_qa, .inl (c91_qa, 4, .inl (fun _ => 0)))] H := hP
  have hD : va_D (fun q : Nat => s.heap.size ≤ q) [(qa, .inr (6, [.ref q5_qa, .ref q16_qa, .ref q27_qa, .ref q38_qa, .ref q49_qa, .ref q60_qa, .ref q71_qa, .ref q84_qa, .ref q91_qa, .int 0, .long 0])), (q5_qa, .inr (4, [.ref q7_9_qa, .ref q14_9_qa, .int 0])), (q7_9_qa, .inl (c7_9_qa, 56, .inl (fun _ => 0))), (q14_9_qa, .inl (c14_9_qa, 3, .inl (fun _ => 0))), (q16_qa, .inr (5, [.ref q7_20_qa])), (q7_20_qa, .inl (c7_20_qa, 52, .inl (fun _ => 0))), (q27_qa, .inr (5, [.ref q7_31_qa])), (q7_31_qa, .inl (c7_31_qa, 52, .inl (fun _ => 0))), (q38_qa, .inr (0, [.ref q8_42_qa, .int 0, .int 0])), (q8_42_qa, .inl (c8_42_qa, 728, .inl (fun _ => 0))), (q49_qa, .inr (2, [.ref q6_53_qa, .int 0])), (q6_53_qa, .inl (c6_53_qa, 4, .inl (fun _ => 0))), (q60_qa, .inr (3, [.ref q6_64_qa, .ref q13_64_qa, .int 0])), (q6_64_qa, .inl (c6_64_qa, 5, .inl (fun _ => 0))), (q13_64_qa, .inl (c13_64_qa, 4, .inl (fun _ => 0))), (q71_qa, .inr (1, [.ref q6_75_qa, .int 0, .int 0, .int 0, .int 0, .int 0])), (q6_75_qa, .inl (c6_75_qa, 5, .inl (fun _ => 0))), (q84_qa, .inl (c84_qa, 104, .inl (fun _ => 0))), (q91_qa, .inl (c91_qa, 4, .inl (fun _ => 0)))] := hD
  have hK : va_K D vwCl [(c7_9_qa, .int), (c14_9_qa, .int), (c7_20_qa, .int), (c7_31_qa, .int), (c8_42_qa, .int), (c6_53_qa, .int), (c6_64_qa, .int), (c13_64_qa, .int), (c6_75_qa, .int), (c84_qa, .int), (c91_qa, .int)] s := hK
  refine W.widen (k := 19) (n := 1047) (by decide) (by decide) ?_
  refine lv_astore_n (lv' := [(1, .ref qa), (0, .ref b)]) hx hb dL_law_7 rfl hl (by decide) rfl (fun ls hl => ?_)
  refine va_new (ci := 7) (fs := [.int 0, .int 0, .null, .null, .null, .null, .int 0, .int 0, .null, .int 0, .int 0, .int 0, .int 0, .int 0, .null, .int 0, .int 0, .null, .null, .long 0, .null, .null]) (C := RX7) (T := TX7) (N := 22) hx hb hts in_X7 tyX7 tyX7_ok hown (hts _ kl_L_10) (hts _ kn_X7) (hts _ ki_X7) hK hP hD hS hA rfl (fun j hj => by
    rcases (show j = 0 ∨ j = 1 ∨ j = 2 ∨ j = 3 ∨ j = 4 ∨ j = 5 ∨ j = 6 ∨ j = 7 ∨ j = 8 ∨ j = 9 ∨ j = 10 ∨ j = 11 ∨ j = 12 ∨ j = 13 ∨ j = 14 ∨ j = 15 ∨ j = 16 ∨ j = 17 ∨ j = 18 ∨ j = 19 ∨ j = 20 ∨ j = 21 by omega) with rfl | rfl | rfl | rfl | rfl | rfl | rfl | rfl | rfl | rfl | rfl | rfl | rfl | rfl | rfl | rfl | rfl | rfl | rfl | rfl | rfl | rfl <;> rfl) (Nat.le_of_ble_eq_true rfl) (Nat.le_of_ble_eq_true rfl) dL_law_8 (fun qm H hP hD hS => ?_)
  have hP : va_P D vwCl [(qa, .inr (6, [.ref q5_qa, .ref q16_qa, .ref q27_qa, .ref q38_qa, .ref q49_qa, .ref q60_qa, .ref q71_qa, .ref q84_qa, .ref q91_qa, .int 0, .long 0])), (q5_qa, .inr (4, [.ref q7_9_qa, .ref q14_9_qa, .int 0])), (q7_9_qa, .inl (c7_9_qa, 56, .inl (fun _ => 0))), (q14_9_qa, .inl (c14_9_qa, 3, .inl (fun _ => 0))), (q16_qa, .inr (5, [.ref q7_20_qa])), (q7_20_qa, .inl (c7_20_qa, 52, .inl (fun _ => 0))), (q27_qa, .inr (5, [.ref q7_31_qa])), (q7_31_qa, .inl (c7_31_qa, 52, .inl (fun _ => 0))), (q38_qa, .inr (0, [.ref q8_42_qa, .int 0, .int 0])), (q8_42_qa, .inl (c8_42_qa, 728, .inl (fun _ => 0))), (q49_qa, .inr (2, [.ref q6_53_qa, .int 0])), (q6_53_qa, .inl (c6_53_qa, 4, .inl (fun _ => 0))), (q60_qa, .inr (3, [.ref q6_64_qa, .ref q13_64_qa, .int 0])), (q6_64_qa, .inl (c6_64_qa, 5, .inl (fun _ => 0))), (q13_64_qa, .inl (c13_64_qa, 4, .inl (fun _ => 0))), (q71_qa, .inr (1, [.ref q6_75_qa, .int 0, .int 0, .int 0, .int 0, .int 0])), (q6_75_qa, .inl (c6_75_qa, 5, .inl (fun _ => 0))), (q84_qa, .inl (c84_qa, 104, .inl (fun _ => 0))), (q91_qa, .inl (c91_qa, 4, .inl (fun _ => 0))), (qm, .inr (7, [.int 0, .int 0, .null, .null, .null, .null, .int 0, .int 0, .null, .int 0, .int 0, .int 0, .int 0, .int 0, .null, .int 0, .int 0, .null, .null, .long 0, .null, .null]))] H := hP
  have hD : va_D (fun q : Nat => s.heap.size ≤ q) [(qa, .inr (6, [.ref q5_qa, .ref q16_qa, .ref q27_qa, .ref q38_qa, .ref q49_qa, .ref q60_qa, .ref q71_qa, .ref q84_qa, .ref q91_qa, .int 0, .long 0])), (q5_qa, .inr (4, [.ref q7_9_qa, .ref q14_9_qa, .int 0])), (q7_9_qa, .inl (c7_9_qa, 56, .inl (fun _ => 0))), (q14_9_qa, .inl (c14_9_qa, 3, .inl (fun _ => 0))), (q16_qa, .inr (5, [.ref q7_20_qa])), (q7_20_qa, .inl (c7_20_qa, 52, .inl (fun _ => 0))), (q27_qa, .inr (5, [.ref q7_31_qa])), (q7_31_qa, .inl (c7_31_qa, 52, .inl (fun _ => 0))), (q38_qa, .inr (0, [.ref q8_42_qa, .int 0, .int 0])), (q8_42_qa, .inl (c8_42_qa, 728, .inl (fun _ => 0))), (q49_qa, .inr (2, [.ref q6_53_qa, .int 0])), (q6_53_qa, .inl (c6_53_qa, 4, .inl (fun _ => 0))), (q60_qa, .inr (3, [.ref q6_64_qa, .ref q13_64_qa, .int 0])), (q6_64_qa, .inl (c6_64_qa, 5, .inl (fun _ => 0))), (q13_64_qa, .inl (c13_64_qa, 4, .inl (fun _ => 0))), (q71_qa, .inr (1, [.ref q6_75_qa, .int 0, .int 0, .int 0, .int 0, .int 0])), (q6_75_qa, .inl (c6_75_qa, 5, .inl (fun _ => 0))), (q84_qa, .inl (c84_qa, 104, .inl (fun _ => 0))), (q91_qa, .inl (c91_qa, 4, .inl (fun _ => 0))), (qm, .inr (7, [.int 0, .int 0, .null, .null, .null, .null, .int 0, .int 0, .null, .int 0, .int 0, .int 0, .int 0, .int 0, .null, .int 0, .int 0, .null, .null, .long 0, .null, .null]))] := hD
  refine W.widen (k := 20) (n := 1069) (by decide) (by decide) ?_
  refine lv_dup hx hb dL_law_11 rfl ?_
  have hPc := hP.sub (ws' := [(qm, .inr (7, [.int 0, .int 0, .null, .null, .null, .null, .int 0, .int 0, .null, .int 0, .int 0, .int 0, .int 0, .int 0, .null, .int 0, .int 0, .null, .null, .long 0, .null, .null]))]) [19] rfl
  have hDc := hD.sub (ws' := [(qm, .inr (7, [.int 0, .int 0, .null, .null, .null, .null, .int 0, .int 0, .null, .int 0, .int 0, .int 0, .int 0, .int 0, .null, .int 0, .int 0, .null, .null, .long 0, .null, .null]))]) [19] (by decide) rfl
  have hKc := hK.sub (tys' := []) [] rfl
  have hFc := va_free (wc := [(qm, .inr (7, [.int 0, .int 0, .null, .null, .null, .null, .int 0, .int 0, .null, .int 0, .int 0, .int 0, .int 0, .int 0, .null, .int 0, .int 0, .null, .null, .long 0, .null, .null]))]) hD hS hA [19] rfl
  refine va_callv (va_runI (As := []) (rest := [.ref qm]) (Ts := pb_gw) ⟨hx, hb, hml, hown, hts⟩ (ct_X7 l D qm H.size) ⟨callB_of 0 hts (pb_goodC mcI_X7.1) rfl rfl rfl (hts _ mcI_X7.2.1) (hts _ ml_L_12) mcI_X7.2.2 ⟨Nat.le_of_ble_eq_true rfl, Nat.le_of_ble_eq_true rfl⟩, rfl, hts _ miI_X7⟩ (ct_pre hPc hKc hDc rfl) rfl rfl hl.1 rfl (lv_room (Nat.le_of_ble_eq_true rfl)) dL_law_12 ⟨Nat.le_of_ble_eq_true rfl, Nat.le_of_ble_eq_true rfl⟩) hS (fun q _ h => hFc q h) hFc (fun u t H1 locs ht hvm _ hB hz1 hk1 hS => ?_)
  obtain ⟨q6_qm, q14_qm, q22_qm, q29_qm, q37_qm, q46_qm, q54_qm, q62_qm, q69_qm, q77_qm, c6_qm, c14_qm, c22_qm, c29_qm, c37_qm, c46_qm, c54_qm, c62_qm, c69_qm, c77_qm, hP1, hK1, hD1⟩ := hB
  rw [ht] at hP1
  have hK1 := va_K.moved hvm.symm hK1
  obtain ⟨hP, hD⟩ := va_join (wr := [(qa, .inr (6, [.ref q5_qa, .ref q16_qa, .ref q27_qa, .ref q38_qa, .ref q49_qa, .ref q60_qa, .ref q71_qa, .ref q84_qa, .ref q91_qa, .int 0, .long 0])), (q5_qa, .inr (4, [.ref q7_9_qa, .ref q14_9_qa, .int 0])), (q7_9_qa, .inl (c7_9_qa, 56, .inl (fun _ => 0))), (q14_9_qa, .inl (c14_9_qa, 3, .inl (fun _ => 0))), (q16_qa, .inr (5, [.ref q7_20_qa])), (q7_20_qa, .inl (c7_20_qa, 52, .inl (fun _ => 0))), (q27_qa, .inr (5, [.ref q7_31_qa])), (q7_31_qa, .inl (c7_31_qa, 52, .inl (fun _ => 0))), (q38_qa, .inr (0, [.ref q8_42_qa, .int 0, .int 0])), (q8_42_qa, .inl (c8_42_qa, 728, .inl (fun _ => 0))), (q49_qa, .inr (2, [.ref q6_53_qa, .int 0])), (q6_53_qa, .inl (c6_53_qa, 4, .inl (fun _ => 0))), (q60_qa, .inr (3, [.ref q6_64_qa, .ref q13_64_qa, .int 0])), (q6_64_qa, .inl (c6_64_qa, 5, .inl (fun _ => 0))), (q13_64_qa, .inl (c13_64_qa, 4, .inl (fun _ => 0))), (q71_qa, .inr (1, [.ref q6_75_qa, .int 0, .int 0, .int 0, .int 0, .int 0])), (q6_75_qa, .inl (c6_75_qa, 5, .inl (fun _ => 0))), (q84_qa, .inl (c84_qa, 104, .inl (fun _ => 0))), (q91_qa, .inl (c91_qa, 4, .inl (fun _ => 0)))]) (w1 := [(qm, .inr (7, [.int 0, .int 0, .ref q6_qm, .ref q14_qm, .ref q22_qm, .ref q29_qm, .int 0, .int 0, .ref q37_qm, .int 0, .int 0, .int 0, .int 0, .int 0, .ref q46_qm, .int 0, .int 0, .ref q54_qm, .ref q62_qm, .long 0, .ref q69_qm, .ref q77_qm])), (q6_qm, .inl (c6_qm, 5, .inl (fun _ => 0))), (q14_qm, .inl (c14_qm, 90, .inl (fun _ => 0))), (q22_qm, .inl (c22_qm, 45, .inl (fun _ => 0))), (q29_qm, .inl (c29_qm, 5, .inl (fun _ => 0))), (q37_qm, .inl (c37_qm, 56, .inl (fun _ => 0))), (q46_qm, .inl (c46_qm, 630, .inl (fun _ => 0))), (q54_qm, .inl (c54_qm, 24, .inl (fun _ => 0))), (q62_qm, .inl (c62_qm, 24, .inl (fun _ => 0))), (q69_qm, .inl (c69_qm, 2, .inl (fun _ => 0))), (q77_qm, .inl (c77_qm, 90, .inl (fun _ => 0)))]) hP hD [19] [0, 1, 2, 3, 4, 5, 6, 7, 8, 9, 10, 11, 12, 13, 14, 15, 16, 17, 18] rfl rfl (by decide) (by decide) hk1 hFc hP1 hD1
  have hK := (hK.sub (tys' := [(c7_9_qa, .int), (c14_9_qa, .int), (c7_20_qa, .int), (c7_31_qa, .int), (c8_42_qa, .int), (c6_53_qa, .int), (c6_64_qa, .int), (c13_64_qa, .int), (c6_75_qa, .int), (c84_qa, .int), (c91_qa, .int)]) [0, 1, 2, 3, 4, 5, 6, 7, 8, 9, 10] rfl).app hK1
  generalize H1 = H at hP hS ⊢
  have hP : va_P D vwCl [(qa, .inr (6, [.ref q5_qa, .ref q16_qa, .ref q27_qa, .ref q38_qa, .ref q49_qa, .ref q60_qa, .ref q71_qa, .ref q84_qa, .ref q91_qa, .int 0, .long 0])), (q5_qa, .inr (4, [.ref q7_9_qa, .ref q14_9_qa, .int 0])), (q7_9_qa, .inl (c7_9_qa, 56, .inl (fun _ => 0))), (q14_9_qa, .inl (c14_9_qa, 3, .inl (fun _ => 0))), (q16_qa, .inr (5, [.ref q7_20_qa])), (q7_20_qa, .inl (c7_20_qa, 52, .inl (fun _ => 0))), (q27_qa, .inr (5, [.ref q7_31_qa])), (q7_31_qa, .inl (c7_31_qa, 52, .inl (fun _ => 0))), (q38_qa, .inr (0, [.ref q8_42_qa, .int 0, .int 0])), (q8_42_qa, .inl (c8_42_qa, 728, .inl (fun _ => 0))), (q49_qa, .inr (2, [.ref q6_53_qa, .int 0])), (q6_53_qa, .inl (c6_53_qa, 4, .inl (fun _ => 0))), (q60_qa, .inr (3, [.ref q6_64_qa, .ref q13_64_qa, .int 0])), (q6_64_qa, .inl (c6_64_qa, 5, .inl (fun _ => 0))), (q13_64_qa, .inl (c13_64_qa, 4, .inl (fun _ => 0))), (q71_qa, .inr (1, [.ref q6_75_qa, .int 0, .int 0, .int 0, .int 0, .int 0])), (q6_75_qa, .inl (c6_75_qa, 5, .inl (fun _ => 0))), (q84_qa, .inl (c84_qa, 104, .inl (fun _ => 0))), (q91_qa, .inl (c91_qa, 4, .inl (fun _ => 0))), (qm, .inr (7, [.int 0, .int 0, .ref q6_qm, .ref q14_qm, .ref q22_qm, .ref q29_qm, .int 0, .int 0, .ref q37_qm, .int 0, .int 0, .int 0, .int 0, .int 0, .ref q46_qm, .int 0, .int 0, .ref q54_qm, .ref q62_qm, .long 0, .ref q69_qm, .ref q77_qm])), (q6_qm, .inl (c6_qm, 5, .inl (fun _ => 0))), (q14_qm, .inl (c14_qm, 90, .inl (fun _ => 0))), (q22_qm, .inl (c22_qm, 45, .inl (fun _ => 0))), (q29_qm, .inl (c29_qm, 5, .inl (fun _ => 0))), (q37_qm, .inl (c37_qm, 56, .inl (fun _ => 0))), (q46_qm, .inl (c46_qm, 630, .inl (fun _ => 0))), (q54_qm, .inl (c54_qm, 24, .inl (fun _ => 0))), (q62_qm, .inl (c62_qm, 24, .inl (fun _ => 0))), (q69_qm, .inl (c69_qm, 2, .inl (fun _ => 0))), (q77_qm, .inl (c77_qm, 90, .inl (fun _ => 0)))] H := hP
  have hD : va_D (fun q : Nat => s.heap.size ≤ q) [(qa, .inr (6, [.ref q5_qa, .ref q16_qa, .ref q27_qa, .ref q38_qa, .ref q49_qa, .ref q60_qa, .ref q71_qa, .ref q84_qa, .ref q91_qa, .int 0, .long 0])), (q5_qa, .inr (4, [.ref q7_9_qa, .ref q14_9_qa, .int 0])), (q7_9_qa, .inl (c7_9_qa, 56, .inl (fun _ => 0))), (q14_9_qa, .inl (c14_9_qa, 3, .inl (fun _ => 0))), (q16_qa, .inr (5, [.ref q7_20_qa])), (q7_20_qa, .inl (c7_20_qa, 52, .inl (fun _ => 0))), (q27_qa, .inr (5, [.ref q7_31_qa])), (q7_31_qa, .inl (c7_31_qa, 52, .inl (fun _ => 0))), (q38_qa, .inr (0, [.ref q8_42_qa, .int 0, .int 0])), (q8_42_qa, .inl (c8_42_qa, 728, .inl (fun _ => 0))), (q49_qa, .inr (2, [.ref q6_53_qa, .int 0])), (q6_53_qa, .inl (c6_53_qa, 4, .inl (fun _ => 0))), (q60_qa, .inr (3, [.ref q6_64_qa, .ref q13_64_qa, .int 0])), (q6_64_qa, .inl (c6_64_qa, 5, .inl (fun _ => 0))), (q13_64_qa, .inl (c13_64_qa, 4, .inl (fun _ => 0))), (q71_qa, .inr (1, [.ref q6_75_qa, .int 0, .int 0, .int 0, .int 0, .int 0])), (q6_75_qa, .inl (c6_75_qa, 5, .inl (fun _ => 0))), (q84_qa, .inl (c84_qa, 104, .inl (fun _ => 0))), (q91_qa, .inl (c91_qa, 4, .inl (fun _ => 0))), (qm, .inr (7, [.int 0, .int 0, .ref q6_qm, .ref q14_qm, .ref q22_qm, .ref q29_qm, .int 0, .int 0, .ref q37_qm, .int 0, .int 0, .int 0, .int 0, .int 0, .ref q46_qm, .int 0, .int 0, .ref q54_qm, .ref q62_qm, .long 0, .ref q69_qm, .ref q77_qm])), (q6_qm, .inl (c6_qm, 5, .inl (fun _ => 0))), (q14_qm, .inl (c14_qm, 90, .inl (fun _ => 0))), (q22_qm, .inl (c22_qm, 45, .inl (fun _ => 0))), (q29_qm, .inl (c29_qm, 5, .inl (fun _ => 0))), (q37_qm, .inl (c37_qm, 56, .inl (fun _ => 0))), (q46_qm, .inl (c46_qm, 630, .inl (fun _ => 0))), (q54_qm, .inl (c54_qm, 24, .inl (fun _ => 0))), (q62_qm, .inl (c62_qm, 24, .inl (fun _ => 0))), (q69_qm, .inl (c69_qm, 2, .inl (fun _ => 0))), (q77_qm, .inl (c77_qm, 90, .inl (fun _ => 0)))] := hD
  have hK : va_K D vwCl [(c7_9_qa, .int), (c14_9_qa, .int), (c7_20_qa, .int), (c7_31_qa, .int), (c8_42_qa, .int), (c6_53_qa, .int), (c6_64_qa, .int), (c13_64_qa, .int), (c6_75_qa, .int), (c84_qa, .int), (c91_qa, .int), (c6_qm, .int), (c14_qm, .int), (c22_qm, .int), (c29_qm, .int), (c37_qm, .int), (c46_qm, .int), (c54_qm, .int), (c62_qm, .int), (c69_qm, .boolean), (c77_qm, .int)] s := hK
  refine W.widen (k := 30) (n := 2040) (by decide) (by decide) ?_
  refine lv_astore_n (lv' := [(2, .ref qm), (1, .ref qa), (0, .ref b)]) hx hb dL_law_15 rfl hl (by decide) rfl (fun ls hl => ?_)
  refine lv_iconst (v := 0) hx hb dL_law_16 (by decide) ?_
  refine lv_istore_n (lv' := [(3, .int 0), (2, .ref qm), (1, .ref qa), (0, .ref b)]) hx hb dL_law_17 rfl hl (by decide) rfl (fun ls hl => ?_)
  have e_c14_9_qa : c7_9_qa = c14_9_qa := Option.some.inj (((hK.2 0 _ rfl).2 : s.vm.findClass _ = some c7_9_qa).symm.trans ((hK.2 1 _ rfl).2 : s.vm.findClass _ = some c14_9_qa))
  have e_c7_20_qa : c7_9_qa = c7_20_qa := Option.some.inj (((hK.2 0 _ rfl).2 : s.vm.findClass _ = some c7_9_qa).symm.trans ((hK.2 2 _ rfl).2 : s.vm.findClass _ = some c7_20_qa))
  have e_c7_31_qa : c7_9_qa = c7_31_qa := Option.some.inj (((hK.2 0 _ rfl).2 : s.vm.findClass _ = some c7_9_qa).symm.trans ((hK.2 3 _ rfl).2 : s.vm.findClass _ = some c7_31_qa))
  have e_c8_42_qa : c7_9_qa = c8_42_qa := Option.some.inj (((hK.2 0 _ rfl).2 : s.vm.findClass _ = some c7_9_qa).symm.trans ((hK.2 4 _ rfl).2 : s.vm.findClass _ = some c8_42_qa))
  have e_c6_53_qa : c7_9_qa = c6_53_qa := Option.some.inj (((hK.2 0 _ rfl).2 : s.vm.findClass _ = some c7_9_qa).symm.trans ((hK.2 5 _ rfl).2 : s.vm.findClass _ = some c6_53_qa))
  have e_c6_64_qa : c7_9_qa = c6_64_qa := Option.some.inj (((hK.2 0 _ rfl).2 : s.vm.findClass _ = some c7_9_qa).symm.trans ((hK.2 6 _ rfl).2 : s.vm.findClass _ = some c6_64_qa))
  have e_c13_64_qa : c7_9_qa = c13_64_qa := Option.some.inj (((hK.2 0 _ rfl).2 : s.vm.findClass _ = some c7_9_qa).symm.trans ((hK.2 7 _ rfl).2 : s.vm.findClass _ = some c13_64_qa))
  have e_c6_75_qa : c7_9_qa = c6_75_qa := Option.some.inj (((hK.2 0 _ rfl).2 : s.vm.findClass _ = some c7_9_qa).symm.trans ((hK.2 8 _ rfl).2 : s.vm.findClass _ = some c6_75_qa))
  have e_c84_qa : c7_9_qa = c84_qa := Option.some.inj (((hK.2 0 _ rfl).2 : s.vm.findClass _ = some c7_9_qa).symm.trans ((hK.2 9 _ rfl).2 : s.vm.findClass _ = some c84_qa))
  have e_c91_qa : c7_9_qa = c91_qa := Option.some.inj (((hK.2 0 _ rfl).2 : s.vm.findClass _ = some c7_9_qa).symm.trans ((hK.2 10 _ rfl).2 : s.vm.findClass _ = some c91_qa))
  have e_c6_qm : c7_9_qa = c6_qm := Option.some.inj (((hK.2 0 _ rfl).2 : s.vm.findClass _ = some c7_9_qa).symm.trans ((hK.2 11 _ rfl).2 : s.vm.findClass _ = some c6_qm))
  have e_c14_qm : c7_9_qa = c14_qm := Option.some.inj (((hK.2 0 _ rfl).2 : s.vm.findClass _ = some c7_9_qa).symm.trans ((hK.2 12 _ rfl).2 : s.vm.findClass _ = some c14_qm))
  have e_c22_qm : c7_9_qa = c22_qm := Option.some.inj (((hK.2 0 _ rfl).2 : s.vm.findClass _ = some c7_9_qa).symm.trans ((hK.2 13 _ rfl).2 : s.vm.findClass _ = some c22_qm))
  have e_c29_qm : c7_9_qa = c29_qm := Option.some.inj (((hK.2 0 _ rfl).2 : s.vm.findClass _ = some c7_9_qa).symm.trans ((hK.2 14 _ rfl).2 : s.vm.findClass _ = some c29_qm))
  have e_c37_qm : c7_9_qa = c37_qm := Option.some.inj (((hK.2 0 _ rfl).2 : s.vm.findClass _ = some c7_9_qa).symm.trans ((hK.2 15 _ rfl).2 : s.vm.findClass _ = some c37_qm))
  have e_c46_qm : c7_9_qa = c46_qm := Option.some.inj (((hK.2 0 _ rfl).2 : s.vm.findClass _ = some c7_9_qa).symm.trans ((hK.2 16 _ rfl).2 : s.vm.findClass _ = some c46_qm))
  have e_c54_qm : c7_9_qa = c54_qm := Option.some.inj (((hK.2 0 _ rfl).2 : s.vm.findClass _ = some c7_9_qa).symm.trans ((hK.2 17 _ rfl).2 : s.vm.findClass _ = some c54_qm))
  have e_c62_qm : c7_9_qa = c62_qm := Option.some.inj (((hK.2 0 _ rfl).2 : s.vm.findClass _ = some c7_9_qa).symm.trans ((hK.2 18 _ rfl).2 : s.vm.findClass _ = some c62_qm))
  have e_c77_qm : c7_9_qa = c77_qm := Option.some.inj (((hK.2 0 _ rfl).2 : s.vm.findClass _ = some c7_9_qa).symm.trans ((hK.2 20 _ rfl).2 : s.vm.findClass _ = some c77_qm))
  subst e_c14_9_qa
  subst e_c7_20_qa
  subst e_c7_31_qa
  subst e_c8_42_qa
  subst e_c6_53_qa
  subst e_c6_64_qa
  subst e_c13_64_qa
  subst e_c6_75_qa
  subst e_c84_qa
  subst e_c91_qa
  subst e_c6_qm
  subst e_c14_qm
  subst e_c22_qm
  subst e_c29_qm
  subst e_c37_qm
  subst e_c46_qm
  subst e_c54_qm
  subst e_c62_qm
  subst e_c77_qm
  obtain ⟨ad, r0, r1, r2, r3, r4, r5, r6, r7, r8, r9, r10, r11, r12, r13, r14, r15, r16, r17, r18, r19, r20, r21, r22, r23, r24, r25, r26, r27, r28, r29⟩ : ∃ ad : Nat → Nat, ad 0 = qa ∧ ad 1 = q5_qa ∧ ad 2 = q7_9_qa ∧ ad 3 = q14_9_qa ∧ ad 4 = q16_qa ∧ ad 5 = q7_20_qa ∧ ad 6 = q27_qa ∧ ad 7 = q7_31_qa ∧ ad 8 = q38_qa ∧ ad 9 = q8_42_qa ∧ ad 10 = q49_qa ∧ ad 11 = q6_53_qa ∧ ad 12 = q60_qa ∧ ad 13 = q6_64_qa ∧ ad 14 = q13_64_qa ∧ ad 15 = q71_qa ∧ ad 16 = q6_75_qa ∧ ad 17 = q84_qa ∧ ad 18 = q91_qa ∧ ad 19 = qm ∧ ad 20 = q6_qm ∧ ad 21 = q14_qm ∧ ad 22 = q22_qm ∧ ad 23 = q29_qm ∧ ad 24 = q37_qm ∧ ad 25 = q46_qm ∧ ad 26 = q54_qm ∧ ad 27 = q62_qm ∧ ad 28 = q69_qm ∧ ad 29 = q77_qm := ⟨(fun h => ([qa, q5_qa, q7_9_qa, q14_9_qa, q16_qa, q7_20_qa, q27_qa, q7_31_qa, q38_qa, q8_42_qa, q49_qa, q6_53_qa, q60_qa, q6_64_qa, q13_64_qa, q71_qa, q6_75_qa, q84_qa, q91_qa, qm, q6_qm, q14_qm, q22_qm, q29_qm, q37_qm, q46_qm, q54_qm, q62_qm, q69_qm, q77_qm] : List Nat).getD h 0), rfl, rfl, rfl, rfl, rfl, rfl, rfl, rfl, rfl, rfl, rfl, rfl, rfl, rfl, rfl, rfl, rfl, rfl, rfl, rfl, rfl, rfl, rfl, rfl, rfl, rfl, rfl, rfl, rfl, rfl⟩
  subst r0
  subst r1
  subst r2
  subst r3
  subst r4
  subst r5
  subst r6
  subst r7
  subst r8
  subst r9
  subst r10
  subst r11
  subst r12
  subst r13
  subst r14
  subst r15
  subst r16
  subst r17
  subst r18
  subst r19
  subst r20
  subst r21
  subst r22
  subst r23
  subst r24
  subst r25
  subst r26
  subst r27
  subst r28
  subst r29
  exact start_end l hL hx hb hr hml hown hts hX hbl hlocks hN hZ hT (va_K.sub hK [0, 19] rfl) (hP.sub [0, 1, 2, 3, 4, 5, 6, 7, 8, 9, 10, 11, 12, 13, 14, 15, 16, 17, 18, 19, 20, 21, 22, 23, 24, 25, 26, 27, 28, 29] rfl) (hD.sub [0, 1, 2, 3, 4, 5, 6, 7, 8, 9, 10, 11, 12, 13, 14, 15, 16, 17, 18, 19, 20, 21, 22, 23, 24, 25, 26, 27, 28, 29] (by decide) rfl) hS hl
-- ===== YOUR PART ENDS =====
set_option maxHeartbeats 4000000 in
theorem lw_walk (l : Launch) (b : Addr) (xs : List Int32) : MetFree l x (headSpec (Jvm.Cond.code x code maxLocals ret :: tables_1) room_1) (lw_P b xs) (fun _ _ _ _ _ => True) lw_Q := by
  refine MetFree.of_bodyS (code := code) (maxLocals := maxLocals) (ret := ret) (by decide) ?_ ?_
  · intro args s m h hn
    obtain ⟨meth, c, h1, h2, h3, h4, h5, h6, -, -⟩ := Cond.code_spec hn (atoms_spec (ws := Jvm.Cond.code x code maxLocals ret :: tables_1) h _ List.mem_cons_self)
    exact ⟨meth, c, h1, h2, h3, h4, h5, h6⟩
  · intro p e s m args below meth c s₁ B hml0 hP _
    obtain ⟨rfl, hx, hbd, hgv⟩ := hP
    obtain ⟨scr, harrAt, hlist, hof, hsmall⟩ := hx
    obtain ⟨hcb, hkn, -, -⟩ := State.arrayAt?_spec harrAt
    have hown : s.vm.findClass R_law = some m.cls := findClass_of_methodNamed B.named
    have hts0 : ∀ c ∈ (Jvm.Cond.code x code maxLocals ret :: tables_1), c.before #[Value.ref b] s = true := atoms_spec (ws := Jvm.Cond.code x code maxLocals ret :: tables_1) B.pre
    have hts : ∀ w ∈ lw_tbl, w.before #[Value.ref b] s = true := k2_hts_sels lw_privs (fun w hw => hts0 w (List.mem_cons_of_mem _ hw)) lw_privs_ok
    have hml : c.maxLocals = 4 := B.maxLocals_eq (hts0 _ List.mem_cons_self)
    have X₀ : Stand p l e room_1 s m #[Value.ref b] below meth c s₁ [] 0 0 := Stand.of_body B
    have hh0 : s₁.heap = s.heap := by rw [B.state]; rfl
    have hsz : scr.slots.size = xs.length := by rw [← Array.length_toList, hlist, List.length_map]
    have hval : ∀ j : Nat, j < xs.length → scr.slots[j]? = some (.int (xs.getD j 0)) := fun j hj => by
      rw [← Array.getElem?_toList, hlist]
      simp [hj]
    have hbl : b < s.heap.size := (Array.getElem?_eq_some_iff.mp hcb).1
    have hX : va_X b xs.length (fun j => xs.getD j 0) s s.heap := ⟨scr, hcb, hof, hkn, hsz, hval⟩
    have K : W p l e room_1 s m #[Value.ref b] below meth c s₁.heap [] 0 0 (lw_Z below #[Value.ref b] s) (entryFrame m ([Value.ref b] : List Value).toArray 4) := by
      rw [hh0]
      exact whole_start l hbd ⟨B.exec, B.bytes, B.returns, hml, hown, hts, hX, hbl, B.notSynchronized, hgv⟩
    obtain ⟨t, a1, o, b1, b2, b3⟩ := K s₁ rfl X₀
    exact ⟨t, o, a1, b1, b2, b3⟩
theorem lw_pre_spec {args : Array Value} {s : State} (h : (Jvm.Cond.and given_1 narrow_1).before args s = true) (hr : rest_1_c.before args s = true) : ∃ (b : Addr) (xs : List Int32), lw_P b xs args s := by
  have hs := flat_of_before _ h
  have hq := flat_of_before _ hr
  have hc : (Cond.count 1).before args s = true := hs _ (by decide +kernel)
  have harr : (Cond.arrayOf (.arg 0) .int).before args s = true := hs _ (by decide +kernel)
  have hle : (Cond.le (.length (.arg 0)) (.int 256)).before args s = true := hs _ (by decide +kernel)
  have hlen : (Cond.isInt (.length (.arg 0))).before args s = true := hq _ (by decide +kernel)
  have hall : (Cond.all (.arg 0) (.isInt (.elem (.arg 0) (.index 0)))).before args s = true := hq _ (by decide +kernel)
  obtain ⟨b, xs, hb, hx⟩ := State.ints_of_pre rfl harr hlen hall
  have hsm : xs.length < 2 ^ 31 := hx.choose_spec.2.2.2
  have hev : (Term.length (.arg 0)).eval args s none [] s = some (.int xs.length.toInt32) := hx.length_eval hb
  have hv := Cond.le_ints hev (show (Term.int 256).eval args s none [] s = some (.int 256) from rfl)
  have hd : xs.length.toInt32 ≤ 256 := by
    simpa [Cond.before, Cond.holds, hv] using hle
  have hN : xs.length ≤ 256 := (Int32.ofNat_le_ofNat hsm (by decide)).mp (show Int32.ofNat xs.length ≤ Int32.ofNat 256 from hd)
  exact ⟨b, xs, Cond.one_arg hc (show args[0]? = some (.ref b) from hb), hx, hN, h⟩
theorem lw_comes (l : Launch) : Comes l x (Jvm.Cond.code x code maxLocals ret :: tables_1) room_1 (fun tb e args s => Calls_1 tb e args s ∧ rest_1 tb e args s ∧ Pre_1 tb e args s)
    (fun _ _ args s o t => lw_Q args s o t) := by
  intro p e ha hc hk s m args below hf hfit hheap happ hpre
  obtain ⟨b, xs, hP⟩ := lw_pre_spec hpre.2.2 hpre.2.1
  obtain ⟨k, o, h1, h2, h3, hQ⟩ := lw_walk l b xs p e ha hc hk s m args below hf ((Spec.applies_iff_loose hf).mp happ).1 hP trivial
  exact ⟨k, o, h1, h2, h3, hQ⟩
theorem lw_frame {s t : State} {o : Outcome} {args : Array Value} (h : Framed s o t [] 30 2040) :
    Framed s o t (fieldLocs frame_1_writes args s ++ arrayLocs frame_1_arrays args s ++ staticLocs frame_1_statics s) 30 2040 := h
theorem lw_limb (L : Cond) (hL : ∀ (args : Array Value) (s t : State), L.after args s (.returned (some (.int 1))) t = true) :
    ArmFor flags0 classFile x code maxLocals ret World_1 tables_1 room_1 Calls_1 rest_1 Pre_1
      (fun tb e a s o t => postC L tb e a s o t ∧ Framed s o t (fieldLocs frame_1_writes a s ++ arrayLocs frame_1_arrays a s ++ staticLocs frame_1_statics s) 30 2040) := by
  intro l _ _ _ p e ha hc hk s m args below hf hfit hheap happ hpre
  obtain ⟨k, o, h1, h2, h3, rfl, hF⟩ := lw_comes l p e ha hc hk s m args below hf hfit hheap happ hpre
  exact ⟨k, _, h1, h2, h3, hL args s _, lw_frame hF⟩
theorem i_vc : Claimed_1_1 ∧ Claimed_1_2 := ⟨lw_limb limb_1_1 (fun args s t => by simp [limb_1_1, Cond.after, Cond.holds, Cond.value]), lw_limb limb_1_2 (fun args s t => Cond.after_iff.mpr (by
  first | (rw [show limb_1_2 = Cond.eq .result (.int 1) from rfl, Cond.eq_ints (x := 1) (y := 1) rfl rfl]; simp; done) | (simp [limb_1_2, Cond.value, Term.eval]; done)))⟩

