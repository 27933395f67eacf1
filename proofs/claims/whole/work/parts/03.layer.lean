
/-! THE PURE MEMORY: ints by handle and place, longs by handle; the world's cells out of it -/
abbrev pb_M : Type := (Nat → Nat → Int32) × (Nat → Int64)
abbrev pb_E : Type := va_G × (Nat → Nat) × ClassId × ClassId × Nat
def pb_sA (μ : pb_M) (h : Nat) (f : Nat → Int32) : pb_M := (fun h' => if h' = h then f else μ.1 h', μ.2)
def pb_sL (μ : pb_M) (h : Nat) (v : Int64) : pb_M := (μ.1, fun h' => if h' = h then v else μ.2 h')
/-- the handles: 0..99 an object of that class (its fields: 0 an int, 1 a long, d + 2 the handle d), 100 an int array, 101 a boolean one (its length) -/
def pb_sh : List (Nat × List Nat) := [(6, [3, 6, 8, 10, 12, 14, 17, 19, 20, 0, 1]), (4, [4, 5, 0]), (100, [56]), (100, [3]), (5, [7]), (100, [52]), (5, [9]), (100, [52]), (0, [11, 0, 0]), (100, [728]), (2, [13, 0]), (100, [4]), (3, [15, 16, 0]), (100, [5]), (100, [4]), (1, [18, 0, 0, 0, 0, 0]), (100, [5]), (100, [104]), (100, [4]), (7, [0, 0, 22, 23, 24, 25, 0, 0, 26, 0, 0, 0, 0, 0, 27, 0, 0, 28, 29, 1, 30, 31]), (100, [5]), (100, [90]), (100, [45]), (100, [5]), (100, [56]), (100, [630]), (100, [24]), (100, [24]), (101, [2]), (100, [90])]
def pb_fv (ad : Nat → Nat) (μ : pb_M) (h j : Nat) : Nat → Value
  | 0 => .int (μ.1 h j)
  | 1 => .long (μ.2 h)
  | d + 2 => .ref (ad d)
def pb_cell (E : pb_E) (μ : pb_M) (h : Nat) (e : Nat × List Nat) : va_E := if e.1 = 100 then .inl (E.2.2.1, e.2.headD 0, .inl (μ.1 h)) else if e.1 = 101 then .inl (E.2.2.2.1, e.2.headD 0, .inl (μ.1 h)) else .inr (e.1, e.2.mapIdx (fun j d => pb_fv E.2.1 μ h j d))
def pb_ws (E : pb_E) (μ : pb_M) : va_W := pb_sh.mapIdx (fun h e => (E.2.1 h, pb_cell E μ h e))
def pb_A (E : pb_E) : Nat → Prop := fun q => ∃ h, h < pb_sh.length ∧ q = E.2.1 h
def pb_nest : List (String × Nat × MethodName × String) := [(RX2, 34, yX6_has, "PoundBeasts"), (RX3, 32, yX6_has, "PoundBeasts"), (RX1, 66, yX6_has, "PoundBeasts")]
def pb_fac : Nat → Value := fun j => .int (([1, 1, 2, 6, 24] : List Int32).getD j 0)
def pb_G (E : pb_E) (U : State) : Prop := va_K E.1 vwCl [(E.2.2.1, .int), (E.2.2.2.1, .boolean)] U ∧ (∀ q ∈ pb_nest, va_Nw (.methodLinkNest q.1 q.2.1 q.2.2.1 q.2.2.2) U) ∧ va_Z "PoundBeasts$Matching" "FACTORIALS" "[I" (.ref E.2.2.2.2) (pb_A E) U U.heap ∧ va_T .int E.2.2.2.2 5 pb_fac (pb_A E) U U.heap ∧ ∀ i j : Nat, i < pb_sh.length → j < pb_sh.length → E.2.1 i = E.2.1 j → i = j
theorem pb_ws_at {E : pb_E} {μ : pb_M} {h : Nat} {e : Nat × List Nat} (hs : pb_sh[h]? = some e) : (pb_ws E μ)[h]? = some (E.2.1 h, pb_cell E μ h e) := by
  unfold pb_ws
  rw [List.getElem?_mapIdx, hs]
  rfl
theorem pb_ws_of {E : pb_E} {μ : pb_M} {h : Nat} {q : Nat × va_E} (hq : (pb_ws E μ)[h]? = some q) : ∃ e, pb_sh[h]? = some e ∧ q = (E.2.1 h, pb_cell E μ h e) := by
  unfold pb_ws at hq
  rw [List.getElem?_mapIdx] at hq
  cases hs : pb_sh[h]? with
  | none => rw [hs] at hq; cases hq
  | some e => rw [hs] at hq; exact ⟨e, rfl, (Option.some.inj hq).symm⟩
theorem pb_lt {h : Nat} {e : Nat × List Nat} (hs : pb_sh[h]? = some e) : h < pb_sh.length := (List.getElem?_eq_some_iff.mp hs).1
theorem pb_D {E : pb_E} {U : State} (hG : pb_G E U) (μ : pb_M) : va_D (pb_A E) (pb_ws E μ) := by
  refine ⟨fun i j p q hi hj hpq => ?_, fun k q hk => ?_⟩
  · obtain ⟨e1, h1, rfl⟩ := pb_ws_of hi
    obtain ⟨e2, h2, rfl⟩ := pb_ws_of hj
    exact hG.2.2.2.2 i j (pb_lt h1) (pb_lt h2) hpq
  · obtain ⟨e1, h1, rfl⟩ := pb_ws_of hk
    exact ⟨k, pb_lt h1, rfl⟩
theorem pb_G.blind {E : pb_E} {U : State} (h : pb_G E U) (g : JFrame) (mk : MethodId) (a : Array Value) : pb_G E (U.calling g mk a) := by
  obtain ⟨h1, h2, h3, h4, h5⟩ := h
  exact ⟨va_K.moved (u := U) (U := U.calling g mk a) (Vm.Alike.refl U.vm) h1, fun q hq => va_Nw.same (u := U) (U := U.calling g mk a) rfl rfl (h2 q hq), va_Z.moved (u := U) (U := U.calling g mk a) (Vm.Alike.refl U.vm) h3, va_T.moved (u := U) (U := U.calling g mk a) (Vm.Alike.refl U.vm) h4, h5⟩
theorem pb_G.to {E : pb_E} {s U : State} {H : Heap} {locs : List Loc} (h : pb_G E s) (hW : s.WarmedH U.vm) (hH : U.heap = H) (hS : va_S (pb_A E) s.heap H locs) : pb_G E U := by
  obtain ⟨h1, h2, h3, h4, h5⟩ := h
  refine ⟨va_K.moved hW.alike h1, fun q hq => va_Nw.warmM hW (h2 q hq), ?_, ?_, h5⟩
  · rw [hH]; exact va_Z.moved hW.alike (h3.kept hS.2.1)
  · rw [hH]; exact va_T.moved hW.alike (h4.kept hS.2.1)
/-- setting an int's place, or an array's whole row, in the pure memory is setting one cell of the world -/
theorem pb_set_ws {E : pb_E} {μ μ' : pb_M} {h : Nat} {e : Nat × List Nat} {x : va_E} (hs : pb_sh[h]? = some e) (hx : pb_cell E μ' h e = x) (ho : ∀ h', h' ≠ h → ∀ e', pb_cell E μ' h' e' = pb_cell E μ h' e') : (pb_ws E μ).set h (E.2.1 h, x) = pb_ws E μ' := by
  apply List.ext_getElem?
  intro k
  by_cases hk : k = h
  · subst hk
    rw [List.getElem?_set_self (by unfold pb_ws; rw [List.length_mapIdx]; exact pb_lt hs), pb_ws_at hs, hx]
  · rw [List.getElem?_set_ne (Ne.symm hk)]
    unfold pb_ws
    rw [List.getElem?_mapIdx, List.getElem?_mapIdx]
    cases hq : pb_sh[k]? with
    | none => rfl
    | some e' => simp only [Option.map_some, ho k hk e']
theorem pb_sA_ne {μ : pb_M} {h h' : Nat} {f : Nat → Int32} (hn : h' ≠ h) : (pb_sA μ h f).1 h' = μ.1 h' := by simp [pb_sA, hn]
theorem pb_sA_eq {μ : pb_M} {h : Nat} {f : Nat → Int32} : (pb_sA μ h f).1 h = f := by simp [pb_sA]
theorem pb_cell_ne {E : pb_E} {μ μ' : pb_M} {h' : Nat} (h1 : μ'.1 h' = μ.1 h') (h2 : μ'.2 h' = μ.2 h') (e' : Nat × List Nat) : pb_cell E μ' h' e' = pb_cell E μ h' e' := by
  have e : ∀ j d, pb_fv E.2.1 μ' h' j d = pb_fv E.2.1 μ h' j d := fun j d => by
    match d with
    | 0 => simp only [pb_fv, h1]
    | 1 => simp only [pb_fv, h2]
    | d + 2 => rfl
  simp only [pb_cell, h1, e]
theorem pb_cell_I {E : pb_E} {μ : pb_M} {h n : Nat} : pb_cell E μ h (100, [n]) = .inl (E.2.2.1, n, .inl (μ.1 h)) := rfl
theorem pb_cell_Z {E : pb_E} {μ : pb_M} {h n : Nat} : pb_cell E μ h (101, [n]) = .inl (E.2.2.2.1, n, .inl (μ.1 h)) := rfl
theorem pb_cell_O {E : pb_E} {μ : pb_M} {h ci : Nat} {ds : List Nat} (hc : ci < 100) : pb_cell E μ h (ci, ds) = .inr (ci, ds.mapIdx (fun j d => pb_fv E.2.1 μ h j d)) := by
  unfold pb_cell
  rw [if_neg (by show ¬ ci = 100; omega), if_neg (by show ¬ ci = 101; omega)]
/-! THE WORDS: those of the tables that stay -/
def pb_gw : List Cond := lw_tbl.filter goodWord
theorem pb_inW {w : Cond} (i : Nat) (h : lw_tbl[i]? = some w) (hg : goodWord w = true) : w ∈ pb_gw := List.mem_filter.mpr ⟨List.mem_of_getElem? h, hg⟩
theorem pb_good {w : Cond} (h : w ∈ pb_gw) : (w.onTables && w.keeps) = true ∨ ∃ ty, w = .arrayClass ty := good_of_word (List.mem_filter.mp h).2
theorem pb_goodC {w : Cond} (h : w ∈ pb_gw) : GoodIn pb_gw (w :: pb_gw) := fun v hv => (List.mem_cons.mp hv).elim (fun e => by rw [e]; exact ⟨h, pb_good h⟩) (fun hv => ⟨hv, pb_good hv⟩)
/-! THE JUDGEMENT -/
def pb_Qc (E : pb_E) (r : Option Value) (μ' : pb_M) : Array Value → State → Outcome → State → Prop := fun _ st oc t => oc = .returned r ∧ va_P E.1 vwCl (pb_ws E μ') t.heap ∧ va_F (pb_A E) st t
def pb_Pc (E : pb_E) (av : List Value) (μ : pb_M) : Array Value → State → Prop := va_Pc av (fun U => va_P E.1 vwCl (pb_ws E μ) U.heap ∧ pb_G E U)
def pb_Ev (l : Launch) (E : pb_E) (y : MethodName) (cc : ByteArray) (mL : Nat) (ret : Option FieldType) (rm : Room) (av : List Value) (μ : pb_M) (r : Option Value) (μ' : pb_M) : Prop :=
  Met l y (Cond.code y cc mL ret :: pb_gw) rm (pb_Pc E av μ) (pb_Qc E r μ') 0 0 (pb_A E)
def pb_L (ls : Array Slot) (nL : Nat) (L : List (Option Value)) : Prop := ls.size = nL ∧ lv_wf ls ∧ ∀ (i : Nat) (v : Value), L[i]? = some (some v) → ls[i]? = some (.val v)
def pb_At (E : pb_E) (own : String) (cc : ByteArray) (mL : Nat) (ret : Option FieldType) (Xs : State → Prop) (p : Program) (s : State) (m : MethodId) (args : Array Value) (meth : Method) (c : Code) : Prop :=
  p.tables.exec = Jvm.exec ∧ c.code = cc ∧ c.maxLocals = mL ∧ meth.sig.returnType = ret ∧ s.vm.findClass own = some m.cls ∧ meth.locks = false ∧ (∀ w ∈ pb_gw, w.before args s = true) ∧ pb_G E s ∧ Xs s
def pb_RW {α : Type} (l : Launch) (E : pb_E) (R : Room) (own : String) (cc : ByteArray) (mL : Nat) (ret : Option FieldType) (Xs : State → Prop) (nc ns : Nat) (Qf : State → Array Value → List Frame → α → pb_M → State → Prop) (pc : Nat) (L : List (Option Value)) (S : List Value) (μ : pb_M) (o : Option (α × pb_M)) : Prop :=
  ∀ (b : α) (μ' : pb_M), o = some (b, μ') → ∀ (p : Program) (e : Env) (s : State) (m : MethodId) (args : Array Value) (below : List Frame) (meth : Method) (c : Code) (H : Heap) (locs : List Loc) (ls : Array Slot),
    pb_At E own cc mL ret Xs p s m args meth c → va_P E.1 vwCl (pb_ws E μ) H → va_S (pb_A E) s.heap H locs → pb_L ls mL L →
    W p l e R s m args below meth c H locs nc ns (Qf s args below b μ') (F0 m pc ls S)
def pb_Qf {α : Type} (E : pb_E) (emb : α → Option Value) : State → Array Value → List Frame → α → pb_M → State → Prop := fun s args below b μ' => MQ below (pb_Qc E (emb b) μ') args s 0 0 (pb_A E)
def pb_in (i : Int32) (n : Nat) : Bool := decide (0 ≤ i) && decide (i.toNatClampNeg < n)
theorem pb_in_vp {i : Int32} {n : Nat} (h : pb_in i n = true) : vp_in i n := by
  unfold pb_in at h
  rw [Bool.and_eq_true, decide_eq_true_eq, decide_eq_true_eq] at h
  rintro (q | q)
  · exact absurd h.1 (Int32.not_le.mpr q)
  · omega
def pb_cp (sp dp n : Int32) (n0 n1 : Nat) : Bool := decide (0 ≤ sp) && decide (0 ≤ dp) && decide (0 ≤ n) && decide (sp.toNatClampNeg + n.toNatClampNeg ≤ n0) && decide (dp.toNatClampNeg + n.toNatClampNeg ≤ n1)
def pb_b {α β : Type} (gc : Option (β × pb_M)) (f : β → pb_M → Option (α × pb_M)) : Option (α × pb_M) := match gc with
  | none => none
  | some q => f q.1 q.2
theorem pb_b_some {α β : Type} {b : β} {μ : pb_M} {f : β → pb_M → Option (α × pb_M)} : pb_b (some (b, μ)) f = f b μ := rfl
theorem pb_b_none {α β : Type} {f : β → pb_M → Option (α × pb_M)} : pb_b none f = none := rfl
def pb_F : Nat := 5000
def pb_ln (h : Nat) : Nat := ((pb_sh[h]?).getD (0, [0])).2.headD 0
def pb_V (h : Nat) : Prop := pb_sh[h]? = some (5, [h + 1 + 2]) ∧ pb_sh[h + 1]? = some (100, [52])
def pb_R (h : Nat) : Prop := pb_sh[h]? = some (100, [pb_ln h])
def pb_rem (x y : Int32) : Int32 := x - x / y * y
def pb_lmod (x y : Int64) : Int64 := x - x / y * y
/-- no two-word value just ahead of place i -/
def pb_c1 (L : List (Option Value)) : Nat → Bool
  | 0 => true
  | j + 1 => match L[j]? with
    | some (some v) => v.category == 1
    | _ => true
def pb_fl (L : List (Option Value)) : List (Nat × Value) := L.zipIdx.filterMap (fun q => q.1.map (fun v => (q.2, v)))
theorem pb_fl_mem {L : List (Option Value)} {i : Nat} {v : Value} : (i, v) ∈ pb_fl L ↔ L[i]? = some (some v) := by
  unfold pb_fl
  rw [List.mem_filterMap]
  constructor
  · rintro ⟨⟨w, k⟩, h1, h2⟩
    rw [List.mem_zipIdx_iff_getElem?] at h1
    cases w with
    | none => cases h2
    | some w => cases h2; exact h1
  · intro h
    exact ⟨(some v, i), List.mem_zipIdx_iff_getElem?.mpr h, rfl⟩
theorem pb_L.has {ls : Array Slot} {nL : Nat} {L : List (Option Value)} (h : pb_L ls nL L) : lv_has ls nL (pb_fl L) := ⟨h.1, h.2.1, fun q hq => h.2.2 q.1 q.2 (pb_fl_mem.mp hq)⟩
theorem pb_L.set1 {ls' : Array Slot} {nL : Nat} {L : List (Option Value)} {i : Nat} {v : Value} (hc : pb_c1 L i = true) (h : lv_has ls' nL ((i, v) :: (pb_fl L).filter (fun q => !(q.1 == i) && !(q.1 + 1 == i && q.2.category == 2)))) : pb_L ls' nL (L.set i (some v)) := by
  refine ⟨h.1, h.2.1, fun j w hj => ?_⟩
  by_cases hji : j = i
  · subst hji
    rw [List.getElem?_set] at hj
    simp at hj
    rw [← hj.2]
    exact h.2.2 _ List.mem_cons_self
  · rw [List.getElem?_set_ne (Ne.symm hji)] at hj
    refine h.2.2 (j, w) (List.mem_cons_of_mem _ (List.mem_filter.mpr ⟨pb_fl_mem.mpr hj, ?_⟩))
    have hne : (j == i) = false := by simpa using hji
    by_cases h1 : j + 1 = i
    · subst h1
      simp only [pb_c1, hj] at hc
      have hcat : w.category = 1 := by simpa using hc
      simp [hcat]
    · simp [hne, h1]
theorem pb_L.set2 {ls' : Array Slot} {nL : Nat} {L : List (Option Value)} {i : Nat} {v : Value} (hc : pb_c1 L i = true) (h : lv_has ls' nL ((i, v) :: (pb_fl L).filter (fun q => !(q.1 == i) && (!(q.1 == i + 1) && !(q.1 + 1 == i && q.2.category == 2))))) : pb_L ls' nL ((L.set i (some v)).set (i + 1) none) := by
  refine ⟨h.1, h.2.1, fun j w hj => ?_⟩
  by_cases hj1 : j = i + 1
  · subst hj1
    rw [List.getElem?_set] at hj
    simp at hj
  rw [List.getElem?_set_ne (Ne.symm hj1)] at hj
  by_cases hji : j = i
  · subst hji
    rw [List.getElem?_set] at hj
    simp at hj
    rw [← hj.2]
    exact h.2.2 _ List.mem_cons_self
  · rw [List.getElem?_set_ne (Ne.symm hji)] at hj
    refine h.2.2 (j, w) (List.mem_cons_of_mem _ (List.mem_filter.mpr ⟨pb_fl_mem.mpr hj, ?_⟩))
    have hne : (j == i) = false := by simpa using hji
    have hne1 : (j == i + 1) = false := by simpa using hj1
    by_cases h1 : j + 1 = i
    · subst h1
      simp only [pb_c1, hj] at hc
      have hcat : w.category = 1 := by simpa using hc
      have h3 : ¬ j = j + 1 + 1 := by omega
      simp [hcat, h3]
    · simp [hne, hne1, h1]
theorem pb_L.weak {ls : Array Slot} {nL : Nat} {L L' : List (Option Value)} (h : pb_L ls nL L) (hw : ∀ (i : Nat) (v : Value), L'[i]? = some (some v) → L[i]? = some (some v)) : pb_L ls nL L' := ⟨h.1, h.2.1, fun i v hi => h.2.2 i v (hw i v hi)⟩
section PBR
variable {α : Type} {l : Launch} {E : pb_E} {R : Room} {own : String} {cc : ByteArray} {mL : Nat} {ret : Option FieldType} {Xs : State → Prop} {nc ns : Nat} {Qf : State → Array Value → List Frame → α → pb_M → State → Prop} {pc : Nat} {L : List (Option Value)} {S : List Value} {μ : pb_M} {o : Option (α × pb_M)}
theorem pb_iconst (q : Nat) {n : Int} {v : Int32} (hdg : decode cc pc = .ok (.iconst n, 1)) (hq : pc + 1 = q) (hv : Int32.ofInt n = v) (k : pb_RW l E R own cc mL ret Xs nc ns Qf q L (.int v :: S) μ o) : pb_RW l E R own cc mL ret Xs nc ns Qf pc L S μ o := by
  subst hq
  intro b μ' ho p e s m args below meth c H locs ls hA hP hS hl
  exact lv_iconst hA.1 hA.2.1 hdg hv (k b μ' ho p e s m args below meth c H locs ls hA hP hS hl)
theorem pb_bipush (q : Nat) {n : Int} {v : Int32} (hdg : decode cc pc = .ok (.bipush n, 2)) (hq : pc + 2 = q) (hv : (Int8.ofInt n).toInt32 = v) (k : pb_RW l E R own cc mL ret Xs nc ns Qf q L (.int v :: S) μ o) : pb_RW l E R own cc mL ret Xs nc ns Qf pc L S μ o := by
  subst hq
  intro b μ' ho p e s m args below meth c H locs ls hA hP hS hl
  exact lv_bipush hA.1 hA.2.1 hdg hv (k b μ' ho p e s m args below meth c H locs ls hA hP hS hl)
theorem pb_sipush (q : Nat) {n : Int} {v : Int32} (hdg : decode cc pc = .ok (.sipush n, 3)) (hq : pc + 3 = q) (hv : (Int16.ofInt n).toInt32 = v) (k : pb_RW l E R own cc mL ret Xs nc ns Qf q L (.int v :: S) μ o) : pb_RW l E R own cc mL ret Xs nc ns Qf pc L S μ o := by
  subst hq
  intro b μ' ho p e s m args below meth c H locs ls hA hP hS hl
  exact lv_sipush hA.1 hA.2.1 hdg hv (k b μ' ho p e s m args below meth c H locs ls hA hP hS hl)
theorem pb_lconst (q : Nat) {n : Fin 2} {v : Int64} (hdg : decode cc pc = .ok (.lconst n, 1)) (hq : pc + 1 = q) (hv : Int64.ofNat (n : Nat) = v) (k : pb_RW l E R own cc mL ret Xs nc ns Qf q L (.long v :: S) μ o) : pb_RW l E R own cc mL ret Xs nc ns Qf pc L S μ o := by
  subst hq
  intro b μ' ho p e s m args below meth c H locs ls hA hP hS hl
  exact lv_lconst hA.1 hA.2.1 hdg hv (k b μ' ho p e s m args below meth c H locs ls hA hP hS hl)
theorem pb_ldcw (q : Nat) {index : Nat} {v : Int32} (hw : Cond.constant own index v ∈ pb_gw) (hdg : decode cc pc = .ok (.ldc_w index, 3)) (hq : pc + 3 = q) (k : pb_RW l E R own cc mL ret Xs nc ns Qf q L (.int v :: S) μ o) : pb_RW l E R own cc mL ret Xs nc ns Qf pc L S μ o := by
  subst hq
  intro b μ' ho p e s m args below meth c H locs ls hA hP hS hl
  exact lv_ldcw hA.1 hA.2.1 hA.2.2.2.2.1 (hA.2.2.2.2.2.2.1 _ hw) hdg (k b μ' ho p e s m args below meth c H locs ls hA hP hS hl)
theorem pb_ldc2 (q : Nat) {index : Nat} {v : Int64} (hw : Cond.constantLong own index v ∈ pb_gw) (hdg : decode cc pc = .ok (.ldc2_w index, 3)) (hq : pc + 3 = q) (k : pb_RW l E R own cc mL ret Xs nc ns Qf q L (.long v :: S) μ o) : pb_RW l E R own cc mL ret Xs nc ns Qf pc L S μ o := by
  subst hq
  intro b μ' ho p e s m args below meth c H locs ls hA hP hS hl
  exact lv_ldc2 hA.1 hA.2.1 hA.2.2.2.2.1 (hA.2.2.2.2.2.2.1 _ hw) hdg (k b μ' ho p e s m args below meth c H locs ls hA hP hS hl)
theorem pb_iload_n (q : Nat) {k4 : Fin 4} {i : Nat} {x : Int32} (hdg : decode cc pc = .ok (.iload_n k4, 1)) (hq : pc + 1 = q) (hi : (k4 : Nat) = i) (hL : L[i]? = some (some (.int x))) (k : pb_RW l E R own cc mL ret Xs nc ns Qf q L (.int x :: S) μ o) : pb_RW l E R own cc mL ret Xs nc ns Qf pc L S μ o := by
  subst hq
  intro b μ' ho p e s m args below meth c H locs ls hA hP hS hl
  exact lv_iload_n hA.1 hA.2.1 hdg hi (hl.2.2 _ _ hL) (k b μ' ho p e s m args below meth c H locs ls hA hP hS hl)
theorem pb_iload (q : Nat) {i : Nat} {x : Int32} (hdg : decode cc pc = .ok (.iload i, 2)) (hq : pc + 2 = q) (hL : L[i]? = some (some (.int x))) (k : pb_RW l E R own cc mL ret Xs nc ns Qf q L (.int x :: S) μ o) : pb_RW l E R own cc mL ret Xs nc ns Qf pc L S μ o := by
  subst hq
  intro b μ' ho p e s m args below meth c H locs ls hA hP hS hl
  exact lv_iload hA.1 hA.2.1 hdg (hl.2.2 _ _ hL) (k b μ' ho p e s m args below meth c H locs ls hA hP hS hl)
theorem pb_lload_n (q : Nat) {k4 : Fin 4} {i : Nat} {x : Int64} (hdg : decode cc pc = .ok (.lload_n k4, 1)) (hq : pc + 1 = q) (hi : (k4 : Nat) = i) (hL : L[i]? = some (some (.long x))) (k : pb_RW l E R own cc mL ret Xs nc ns Qf q L (.long x :: S) μ o) : pb_RW l E R own cc mL ret Xs nc ns Qf pc L S μ o := by
  subst hq
  intro b μ' ho p e s m args below meth c H locs ls hA hP hS hl
  exact lv_lload_n hA.1 hA.2.1 hdg hi (hl.2.2 _ _ hL) (k b μ' ho p e s m args below meth c H locs ls hA hP hS hl)
theorem pb_lload (q : Nat) {i : Nat} {x : Int64} (hdg : decode cc pc = .ok (.lload i, 2)) (hq : pc + 2 = q) (hL : L[i]? = some (some (.long x))) (k : pb_RW l E R own cc mL ret Xs nc ns Qf q L (.long x :: S) μ o) : pb_RW l E R own cc mL ret Xs nc ns Qf pc L S μ o := by
  subst hq
  intro b μ' ho p e s m args below meth c H locs ls hA hP hS hl
  exact lv_lload hA.1 hA.2.1 hdg (hl.2.2 _ _ hL) (k b μ' ho p e s m args below meth c H locs ls hA hP hS hl)
theorem pb_aload_n (q : Nat) {k4 : Fin 4} {i : Nat} {x : Nat} (hdg : decode cc pc = .ok (.aload_n k4, 1)) (hq : pc + 1 = q) (hi : (k4 : Nat) = i) (hL : L[i]? = some (some (.ref x))) (k : pb_RW l E R own cc mL ret Xs nc ns Qf q L (.ref x :: S) μ o) : pb_RW l E R own cc mL ret Xs nc ns Qf pc L S μ o := by
  subst hq
  intro b μ' ho p e s m args below meth c H locs ls hA hP hS hl
  exact lv_aload_n hA.1 hA.2.1 hdg hi (hl.2.2 _ _ hL) (k b μ' ho p e s m args below meth c H locs ls hA hP hS hl)
theorem pb_aload (q : Nat) {i : Nat} {x : Nat} (hdg : decode cc pc = .ok (.aload i, 2)) (hq : pc + 2 = q) (hL : L[i]? = some (some (.ref x))) (k : pb_RW l E R own cc mL ret Xs nc ns Qf q L (.ref x :: S) μ o) : pb_RW l E R own cc mL ret Xs nc ns Qf pc L S μ o := by
  subst hq
  intro b μ' ho p e s m args below meth c H locs ls hA hP hS hl
  exact lv_aload hA.1 hA.2.1 hdg (hl.2.2 _ _ hL) (k b μ' ho p e s m args below meth c H locs ls hA hP hS hl)
theorem pb_istore_n (q : Nat) {k4 : Fin 4} {i : Nat} {x : Int32} {L' : List (Option Value)} (hdg : decode cc pc = .ok (.istore_n k4, 1)) (hi : (k4 : Nat) = i) (hn : i < mL) (hc : pb_c1 L i = true) (hL' : L.set i (some (.int x)) = L') (hq : pc + 1 = q) (k : pb_RW l E R own cc mL ret Xs nc ns Qf q L' S μ o) : pb_RW l E R own cc mL ret Xs nc ns Qf pc L (.int x :: S) μ o := by
  subst hq
  intro b μ' ho p e s m args below meth c H locs ls hA hP hS hl
  exact lv_istore_n hA.1 hA.2.1 hdg hi hl.has hn rfl (fun ls hl' => k b μ' ho p e s m args below meth c H locs ls hA hP hS (by rw [← hL']; exact pb_L.set1 hc hl'))
theorem pb_istore (q : Nat) {i : Nat} {x : Int32} {L' : List (Option Value)} (hdg : decode cc pc = .ok (.istore i, 2)) (hn : i < mL) (hc : pb_c1 L i = true) (hL' : L.set i (some (.int x)) = L') (hq : pc + 2 = q) (k : pb_RW l E R own cc mL ret Xs nc ns Qf q L' S μ o) : pb_RW l E R own cc mL ret Xs nc ns Qf pc L (.int x :: S) μ o := by
  subst hq
  intro b μ' ho p e s m args below meth c H locs ls hA hP hS hl
  exact lv_istore hA.1 hA.2.1 hdg hl.has hn rfl (fun ls hl' => k b μ' ho p e s m args below meth c H locs ls hA hP hS (by rw [← hL']; exact pb_L.set1 hc hl'))
theorem pb_lstore_n (q : Nat) {k4 : Fin 4} {i : Nat} {x : Int64} {L' : List (Option Value)} (hdg : decode cc pc = .ok (.lstore_n k4, 1)) (hi : (k4 : Nat) = i) (hn : i + 1 < mL) (hc : pb_c1 L i = true) (hL' : (L.set i (some (.long x))).set (i + 1) none = L') (hq : pc + 1 = q) (k : pb_RW l E R own cc mL ret Xs nc ns Qf q L' S μ o) : pb_RW l E R own cc mL ret Xs nc ns Qf pc L (.long x :: S) μ o := by
  subst hq
  intro b μ' ho p e s m args below meth c H locs ls hA hP hS hl
  exact lv_lstore_n hA.1 hA.2.1 hdg hi hl.has hn rfl (fun ls hl' => k b μ' ho p e s m args below meth c H locs ls hA hP hS (by rw [← hL']; exact pb_L.set2 hc hl'))
theorem pb_lstore (q : Nat) {i : Nat} {x : Int64} {L' : List (Option Value)} (hdg : decode cc pc = .ok (.lstore i, 2)) (hn : i + 1 < mL) (hc : pb_c1 L i = true) (hL' : (L.set i (some (.long x))).set (i + 1) none = L') (hq : pc + 2 = q) (k : pb_RW l E R own cc mL ret Xs nc ns Qf q L' S μ o) : pb_RW l E R own cc mL ret Xs nc ns Qf pc L (.long x :: S) μ o := by
  subst hq
  intro b μ' ho p e s m args below meth c H locs ls hA hP hS hl
  exact lv_lstore hA.1 hA.2.1 hdg hl.has hn rfl (fun ls hl' => k b μ' ho p e s m args below meth c H locs ls hA hP hS (by rw [← hL']; exact pb_L.set2 hc hl'))
theorem pb_astore_n (q : Nat) {k4 : Fin 4} {i : Nat} {x : Nat} {L' : List (Option Value)} (hdg : decode cc pc = .ok (.astore_n k4, 1)) (hi : (k4 : Nat) = i) (hn : i < mL) (hc : pb_c1 L i = true) (hL' : L.set i (some (.ref x)) = L') (hq : pc + 1 = q) (k : pb_RW l E R own cc mL ret Xs nc ns Qf q L' S μ o) : pb_RW l E R own cc mL ret Xs nc ns Qf pc L (.ref x :: S) μ o := by
  subst hq
  intro b μ' ho p e s m args below meth c H locs ls hA hP hS hl
  exact lv_astore_n hA.1 hA.2.1 hdg hi hl.has hn rfl (fun ls hl' => k b μ' ho p e s m args below meth c H locs ls hA hP hS (by rw [← hL']; exact pb_L.set1 hc hl'))
theorem pb_astore (q : Nat) {i : Nat} {x : Nat} {L' : List (Option Value)} (hdg : decode cc pc = .ok (.astore i, 2)) (hn : i < mL) (hc : pb_c1 L i = true) (hL' : L.set i (some (.ref x)) = L') (hq : pc + 2 = q) (k : pb_RW l E R own cc mL ret Xs nc ns Qf q L' S μ o) : pb_RW l E R own cc mL ret Xs nc ns Qf pc L (.ref x :: S) μ o := by
  subst hq
  intro b μ' ho p e s m args below meth c H locs ls hA hP hS hl
  exact lv_astore hA.1 hA.2.1 hdg hl.has hn rfl (fun ls hl' => k b μ' ho p e s m args below meth c H locs ls hA hP hS (by rw [← hL']; exact pb_L.set1 hc hl'))
theorem pb_iinc (q : Nat) {i : Nat} {n : Int} {x v : Int32} {L' : List (Option Value)} (hdg : decode cc pc = .ok (.iinc i n, 3)) (hL : L[i]? = some (some (.int x))) (hv : x + Int32.ofInt n = v) (hn : i < mL) (hc : pb_c1 L i = true) (hL' : L.set i (some (.int v)) = L') (hq : pc + 3 = q) (k : pb_RW l E R own cc mL ret Xs nc ns Qf q L' S μ o) : pb_RW l E R own cc mL ret Xs nc ns Qf pc L S μ o := by
  subst hq
  intro b μ' ho p e s m args below meth c H locs ls hA hP hS hl
  obtain ⟨kk, hkk⟩ := List.getElem?_of_mem (pb_fl_mem.mpr hL)
  exact lv_iinc hA.1 hA.2.1 hdg hl.has hkk hv hn rfl (fun ls hl' => k b μ' ho p e s m args below meth c H locs ls hA hP hS (by rw [← hL']; exact pb_L.set1 hc hl'))
theorem pb_iadd (q : Nat) {x y : Int32} (hdg : decode cc pc = .ok (.iadd, 1)) (hq : pc + 1 = q) (k : pb_RW l E R own cc mL ret Xs nc ns Qf q L (.int (x + y) :: S) μ o) : pb_RW l E R own cc mL ret Xs nc ns Qf pc L (.int y :: .int x :: S) μ o := by
  subst hq
  intro b μ' ho p e s m args below meth c H locs ls hA hP hS hl
  exact lv_iadd hA.1 hA.2.1 hdg (k b μ' ho p e s m args below meth c H locs ls hA hP hS hl)
theorem pb_isub (q : Nat) {x y : Int32} (hdg : decode cc pc = .ok (.isub, 1)) (hq : pc + 1 = q) (k : pb_RW l E R own cc mL ret Xs nc ns Qf q L (.int (x - y) :: S) μ o) : pb_RW l E R own cc mL ret Xs nc ns Qf pc L (.int y :: .int x :: S) μ o := by
  subst hq
  intro b μ' ho p e s m args below meth c H locs ls hA hP hS hl
  exact lv_isub hA.1 hA.2.1 hdg (k b μ' ho p e s m args below meth c H locs ls hA hP hS hl)
theorem pb_imul (q : Nat) {x y : Int32} (hdg : decode cc pc = .ok (.imul, 1)) (hq : pc + 1 = q) (k : pb_RW l E R own cc mL ret Xs nc ns Qf q L (.int (x * y) :: S) μ o) : pb_RW l E R own cc mL ret Xs nc ns Qf pc L (.int y :: .int x :: S) μ o := by
  subst hq
  intro b μ' ho p e s m args below meth c H locs ls hA hP hS hl
  exact lv_imul hA.1 hA.2.1 hdg (k b μ' ho p e s m args below meth c H locs ls hA hP hS hl)
theorem pb_iand (q : Nat) {x y : Int32} (hdg : decode cc pc = .ok (.iand, 1)) (hq : pc + 1 = q) (k : pb_RW l E R own cc mL ret Xs nc ns Qf q L (.int (x &&& y) :: S) μ o) : pb_RW l E R own cc mL ret Xs nc ns Qf pc L (.int y :: .int x :: S) μ o := by
  subst hq
  intro b μ' ho p e s m args below meth c H locs ls hA hP hS hl
  exact lv_iand hA.1 hA.2.1 hdg (k b μ' ho p e s m args below meth c H locs ls hA hP hS hl)
theorem pb_ior (q : Nat) {x y : Int32} (hdg : decode cc pc = .ok (.ior, 1)) (hq : pc + 1 = q) (k : pb_RW l E R own cc mL ret Xs nc ns Qf q L (.int (x ||| y) :: S) μ o) : pb_RW l E R own cc mL ret Xs nc ns Qf pc L (.int y :: .int x :: S) μ o := by
  subst hq
  intro b μ' ho p e s m args below meth c H locs ls hA hP hS hl
  exact lv_ior hA.1 hA.2.1 hdg (k b μ' ho p e s m args below meth c H locs ls hA hP hS hl)
theorem pb_ixor (q : Nat) {x y : Int32} (hdg : decode cc pc = .ok (.ixor, 1)) (hq : pc + 1 = q) (k : pb_RW l E R own cc mL ret Xs nc ns Qf q L (.int (x ^^^ y) :: S) μ o) : pb_RW l E R own cc mL ret Xs nc ns Qf pc L (.int y :: .int x :: S) μ o := by
  subst hq
  intro b μ' ho p e s m args below meth c H locs ls hA hP hS hl
  exact lv_ixor hA.1 hA.2.1 hdg (k b μ' ho p e s m args below meth c H locs ls hA hP hS hl)
theorem pb_ishl (q : Nat) {x y : Int32} (hdg : decode cc pc = .ok (.ishl, 1)) (hq : pc + 1 = q) (k : pb_RW l E R own cc mL ret Xs nc ns Qf q L (.int (x <<< (y &&& 31)) :: S) μ o) : pb_RW l E R own cc mL ret Xs nc ns Qf pc L (.int y :: .int x :: S) μ o := by
  subst hq
  intro b μ' ho p e s m args below meth c H locs ls hA hP hS hl
  exact lv_ishl hA.1 hA.2.1 hdg (k b μ' ho p e s m args below meth c H locs ls hA hP hS hl)
theorem pb_ishr (q : Nat) {x y : Int32} (hdg : decode cc pc = .ok (.ishr, 1)) (hq : pc + 1 = q) (k : pb_RW l E R own cc mL ret Xs nc ns Qf q L (.int (x >>> (y &&& 31)) :: S) μ o) : pb_RW l E R own cc mL ret Xs nc ns Qf pc L (.int y :: .int x :: S) μ o := by
  subst hq
  intro b μ' ho p e s m args below meth c H locs ls hA hP hS hl
  exact lv_ishr hA.1 hA.2.1 hdg (k b μ' ho p e s m args below meth c H locs ls hA hP hS hl)
theorem pb_ladd (q : Nat) {x y : Int64} (hdg : decode cc pc = .ok (.ladd, 1)) (hq : pc + 1 = q) (k : pb_RW l E R own cc mL ret Xs nc ns Qf q L (.long (x + y) :: S) μ o) : pb_RW l E R own cc mL ret Xs nc ns Qf pc L (.long y :: .long x :: S) μ o := by
  subst hq
  intro b μ' ho p e s m args below meth c H locs ls hA hP hS hl
  exact lv_ladd hA.1 hA.2.1 hdg (k b μ' ho p e s m args below meth c H locs ls hA hP hS hl)
theorem pb_lsub (q : Nat) {x y : Int64} (hdg : decode cc pc = .ok (.lsub, 1)) (hq : pc + 1 = q) (k : pb_RW l E R own cc mL ret Xs nc ns Qf q L (.long (x - y) :: S) μ o) : pb_RW l E R own cc mL ret Xs nc ns Qf pc L (.long y :: .long x :: S) μ o := by
  subst hq
  intro b μ' ho p e s m args below meth c H locs ls hA hP hS hl
  exact lv_lsub hA.1 hA.2.1 hdg (k b μ' ho p e s m args below meth c H locs ls hA hP hS hl)
theorem pb_lmul (q : Nat) {x y : Int64} (hdg : decode cc pc = .ok (.lmul, 1)) (hq : pc + 1 = q) (k : pb_RW l E R own cc mL ret Xs nc ns Qf q L (.long (x * y) :: S) μ o) : pb_RW l E R own cc mL ret Xs nc ns Qf pc L (.long y :: .long x :: S) μ o := by
  subst hq
  intro b μ' ho p e s m args below meth c H locs ls hA hP hS hl
  exact lv_lmul hA.1 hA.2.1 hdg (k b μ' ho p e s m args below meth c H locs ls hA hP hS hl)
theorem pb_land (q : Nat) {x y : Int64} (hdg : decode cc pc = .ok (.land, 1)) (hq : pc + 1 = q) (k : pb_RW l E R own cc mL ret Xs nc ns Qf q L (.long (x &&& y) :: S) μ o) : pb_RW l E R own cc mL ret Xs nc ns Qf pc L (.long y :: .long x :: S) μ o := by
  subst hq
  intro b μ' ho p e s m args below meth c H locs ls hA hP hS hl
  exact lv_land hA.1 hA.2.1 hdg (k b μ' ho p e s m args below meth c H locs ls hA hP hS hl)
theorem pb_lor (q : Nat) {x y : Int64} (hdg : decode cc pc = .ok (.lor, 1)) (hq : pc + 1 = q) (k : pb_RW l E R own cc mL ret Xs nc ns Qf q L (.long (x ||| y) :: S) μ o) : pb_RW l E R own cc mL ret Xs nc ns Qf pc L (.long y :: .long x :: S) μ o := by
  subst hq
  intro b μ' ho p e s m args below meth c H locs ls hA hP hS hl
  exact lv_lor hA.1 hA.2.1 hdg (k b μ' ho p e s m args below meth c H locs ls hA hP hS hl)
theorem pb_idiv (q : Nat) {x y : Int32} (hdg : decode cc pc = .ok (.idiv, 1)) (hq : pc + 1 = q) (hne : ¬ y = 0) (k : pb_RW l E R own cc mL ret Xs nc ns Qf q L (.int (x / y) :: S) μ o) : pb_RW l E R own cc mL ret Xs nc ns Qf pc L (.int y :: .int x :: S) μ o := by
  subst hq
  intro b μ' ho p e s m args below meth c H locs ls hA hP hS hl
  exact lv_idiv hA.1 hA.2.1 hdg hne (k b μ' ho p e s m args below meth c H locs ls hA hP hS hl)
theorem pb_irem (q : Nat) {x y : Int32} (hdg : decode cc pc = .ok (.irem, 1)) (hq : pc + 1 = q) (hne : ¬ y = 0) (k : pb_RW l E R own cc mL ret Xs nc ns Qf q L (.int (pb_rem x y) :: S) μ o) : pb_RW l E R own cc mL ret Xs nc ns Qf pc L (.int y :: .int x :: S) μ o := by
  subst hq
  intro b μ' ho p e s m args below meth c H locs ls hA hP hS hl
  exact lv_irem hA.1 hA.2.1 hdg hne (k b μ' ho p e s m args below meth c H locs ls hA hP hS hl)
theorem pb_ldiv (q : Nat) {x y : Int64} (hdg : decode cc pc = .ok (.ldiv, 1)) (hq : pc + 1 = q) (hne : ¬ y = 0) (k : pb_RW l E R own cc mL ret Xs nc ns Qf q L (.long (x / y) :: S) μ o) : pb_RW l E R own cc mL ret Xs nc ns Qf pc L (.long y :: .long x :: S) μ o := by
  subst hq
  intro b μ' ho p e s m args below meth c H locs ls hA hP hS hl
  exact lv_ldiv hA.1 hA.2.1 hdg hne (k b μ' ho p e s m args below meth c H locs ls hA hP hS hl)
theorem pb_lrem (q : Nat) {x y : Int64} (hdg : decode cc pc = .ok (.lrem, 1)) (hq : pc + 1 = q) (hne : ¬ y = 0) (k : pb_RW l E R own cc mL ret Xs nc ns Qf q L (.long (pb_lmod x y) :: S) μ o) : pb_RW l E R own cc mL ret Xs nc ns Qf pc L (.long y :: .long x :: S) μ o := by
  subst hq
  intro b μ' ho p e s m args below meth c H locs ls hA hP hS hl
  exact lv_lrem hA.1 hA.2.1 hdg hne (k b μ' ho p e s m args below meth c H locs ls hA hP hS hl)
theorem pb_ineg (q : Nat) {x : Int32} (hdg : decode cc pc = .ok (.ineg, 1)) (hq : pc + 1 = q) (k : pb_RW l E R own cc mL ret Xs nc ns Qf q L (.int (-x) :: S) μ o) : pb_RW l E R own cc mL ret Xs nc ns Qf pc L (.int x :: S) μ o := by
  subst hq
  intro b μ' ho p e s m args below meth c H locs ls hA hP hS hl
  exact lv_ineg hA.1 hA.2.1 hdg (k b μ' ho p e s m args below meth c H locs ls hA hP hS hl)
theorem pb_iushr (q : Nat) {x y : Int32} (hdg : decode cc pc = .ok (.iushr, 1)) (hq : pc + 1 = q) (k : pb_RW l E R own cc mL ret Xs nc ns Qf q L (.int ((x.toUInt32 >>> (y.toUInt32 &&& Int32.toUInt32 31)).toInt32) :: S) μ o) : pb_RW l E R own cc mL ret Xs nc ns Qf pc L (.int y :: .int x :: S) μ o := by
  subst hq
  intro b μ' ho p e s m args below meth c H locs ls hA hP hS hl
  exact lv_iushr hA.1 hA.2.1 hdg rfl (k b μ' ho p e s m args below meth c H locs ls hA hP hS hl)
theorem pb_lushr (q : Nat) {x : Int64} {y : Int32} (hdg : decode cc pc = .ok (.lushr, 1)) (hq : pc + 1 = q) (k : pb_RW l E R own cc mL ret Xs nc ns Qf q L (.long ((x.toUInt64 >>> (y.toInt64.toUInt64 &&& Int64.toUInt64 63)).toInt64) :: S) μ o) : pb_RW l E R own cc mL ret Xs nc ns Qf pc L (.int y :: .long x :: S) μ o := by
  subst hq
  intro b μ' ho p e s m args below meth c H locs ls hA hP hS hl
  exact lv_lushr hA.1 hA.2.1 hdg rfl (k b μ' ho p e s m args below meth c H locs ls hA hP hS hl)
theorem pb_lshl (q : Nat) {x : Int64} {y : Int32} (hdg : decode cc pc = .ok (.lshl, 1)) (hq : pc + 1 = q) (k : pb_RW l E R own cc mL ret Xs nc ns Qf q L (.long (x <<< (y.toInt64 &&& 63)) :: S) μ o) : pb_RW l E R own cc mL ret Xs nc ns Qf pc L (.int y :: .long x :: S) μ o := by
  subst hq
  intro b μ' ho p e s m args below meth c H locs ls hA hP hS hl
  exact lv_lshl hA.1 hA.2.1 hdg rfl (k b μ' ho p e s m args below meth c H locs ls hA hP hS hl)
theorem pb_i2l (q : Nat) {x : Int32} (hdg : decode cc pc = .ok (.i2l, 1)) (hq : pc + 1 = q) (k : pb_RW l E R own cc mL ret Xs nc ns Qf q L (.long x.toInt64 :: S) μ o) : pb_RW l E R own cc mL ret Xs nc ns Qf pc L (.int x :: S) μ o := by
  subst hq
  intro b μ' ho p e s m args below meth c H locs ls hA hP hS hl
  exact lv_i2l hA.1 hA.2.1 hdg rfl (k b μ' ho p e s m args below meth c H locs ls hA hP hS hl)
theorem pb_l2i (q : Nat) {x : Int64} (hdg : decode cc pc = .ok (.l2i, 1)) (hq : pc + 1 = q) (k : pb_RW l E R own cc mL ret Xs nc ns Qf q L (.int x.toInt32 :: S) μ o) : pb_RW l E R own cc mL ret Xs nc ns Qf pc L (.long x :: S) μ o := by
  subst hq
  intro b μ' ho p e s m args below meth c H locs ls hA hP hS hl
  exact lv_l2i hA.1 hA.2.1 hdg rfl (k b μ' ho p e s m args below meth c H locs ls hA hP hS hl)
theorem pb_lcmp (q : Nat) {x y : Int64} (hdg : decode cc pc = .ok (.lcmp, 1)) (hq : pc + 1 = q) (k : pb_RW l E R own cc mL ret Xs nc ns Qf q L (.int (lg_cmp x y) :: S) μ o) : pb_RW l E R own cc mL ret Xs nc ns Qf pc L (.long y :: .long x :: S) μ o := by
  subst hq
  intro b μ' ho p e s m args below meth c H locs ls hA hP hS hl
  exact W.lcmp hA.1 hA.2.1 hdg (k b μ' ho p e s m args below meth c H locs ls hA hP hS hl)
theorem pb_dup (q : Nat) {va : Value} (hdg : decode cc pc = .ok (.dup, 1)) (hq : pc + 1 = q) (hva : va.category = 1) (k : pb_RW l E R own cc mL ret Xs nc ns Qf q L (va :: va :: S) μ o) : pb_RW l E R own cc mL ret Xs nc ns Qf pc L (va :: S) μ o := by
  subst hq
  intro b μ' ho p e s m args below meth c H locs ls hA hP hS hl
  exact lv_dup hA.1 hA.2.1 hdg hva (k b μ' ho p e s m args below meth c H locs ls hA hP hS hl)
theorem pb_dup2 (q : Nat) {va vb : Value} (hdg : decode cc pc = .ok (.dup2, 1)) (hq : pc + 1 = q) (hva : va.category = 1) (hvb : vb.category = 1) (k : pb_RW l E R own cc mL ret Xs nc ns Qf q L (va :: vb :: va :: vb :: S) μ o) : pb_RW l E R own cc mL ret Xs nc ns Qf pc L (va :: vb :: S) μ o := by
  subst hq
  intro b μ' ho p e s m args below meth c H locs ls hA hP hS hl
  exact lv_dup2_11 hA.1 hA.2.1 hdg hva hvb (k b μ' ho p e s m args below meth c H locs ls hA hP hS hl)
theorem pb_pop (q : Nat) {va : Value} (hdg : decode cc pc = .ok (.pop, 1)) (hq : pc + 1 = q) (hva : va.category = 1) (k : pb_RW l E R own cc mL ret Xs nc ns Qf q L S μ o) : pb_RW l E R own cc mL ret Xs nc ns Qf pc L (va :: S) μ o := by
  subst hq
  intro b μ' ho p e s m args below meth c H locs ls hA hP hS hl
  exact lv_pop hA.1 hA.2.1 hdg hva (k b μ' ho p e s m args below meth c H locs ls hA hP hS hl)
theorem pb_goto {off : Int} {tgt : Nat} (hdg : decode cc pc = .ok (.goto off, 3)) (ht : (pc : Int) + off = (tgt : Int)) (k : pb_RW l E R own cc mL ret Xs nc ns Qf tgt L S μ o) : pb_RW l E R own cc mL ret Xs nc ns Qf pc L S μ o := by
  intro b μ' ho p e s m args below meth c H locs ls hA hP hS hl
  exact lv_goto hA.1 hA.2.1 hdg ht (k b μ' ho p e s m args below meth c H locs ls hA hP hS hl)
theorem pb_if_eq (q : Nat) {x : Int32} {off : Int} {tgt : Nat} {o1 o2 : Option (α × pb_M)} (hdg : decode cc pc = .ok (.ifCond .eq off, 3)) (ht : (pc : Int) + off = (tgt : Int)) (hq : pc + 3 = q) (kt : x = 0 → pb_RW l E R own cc mL ret Xs nc ns Qf tgt L S μ o1) (kf : ¬ x = 0 → pb_RW l E R own cc mL ret Xs nc ns Qf q L S μ o2) : pb_RW l E R own cc mL ret Xs nc ns Qf pc L (.int x :: S) μ (if x = 0 then o1 else o2) := by
  subst hq
  intro b μ' ho p e s m args below meth c H locs ls hA hP hS hl
  exact lv_if_eq hA.1 hA.2.1 hdg ht (fun hc => kt hc b μ' (by rw [if_pos hc] at ho; exact ho) p e s m args below meth c H locs ls hA hP hS hl) (fun hc => kf hc b μ' (by rw [if_neg hc] at ho; exact ho) p e s m args below meth c H locs ls hA hP hS hl)
theorem pb_if_ne (q : Nat) {x : Int32} {off : Int} {tgt : Nat} {o1 o2 : Option (α × pb_M)} (hdg : decode cc pc = .ok (.ifCond .ne off, 3)) (ht : (pc : Int) + off = (tgt : Int)) (hq : pc + 3 = q) (kf : x = 0 → pb_RW l E R own cc mL ret Xs nc ns Qf q L S μ o1) (kt : ¬ x = 0 → pb_RW l E R own cc mL ret Xs nc ns Qf tgt L S μ o2) : pb_RW l E R own cc mL ret Xs nc ns Qf pc L (.int x :: S) μ (if x = 0 then o1 else o2) := by
  subst hq
  intro b μ' ho p e s m args below meth c H locs ls hA hP hS hl
  exact lv_if_ne hA.1 hA.2.1 hdg ht (fun hc => kt hc b μ' (by rw [if_neg hc] at ho; exact ho) p e s m args below meth c H locs ls hA hP hS hl) (fun hc => kf hc b μ' (by rw [if_pos hc] at ho; exact ho) p e s m args below meth c H locs ls hA hP hS hl)
theorem pb_if_lt (q : Nat) {x : Int32} {off : Int} {tgt : Nat} {o1 o2 : Option (α × pb_M)} (hdg : decode cc pc = .ok (.ifCond .lt off, 3)) (ht : (pc : Int) + off = (tgt : Int)) (hq : pc + 3 = q) (kt : x < 0 → pb_RW l E R own cc mL ret Xs nc ns Qf tgt L S μ o1) (kf : ¬ x < 0 → pb_RW l E R own cc mL ret Xs nc ns Qf q L S μ o2) : pb_RW l E R own cc mL ret Xs nc ns Qf pc L (.int x :: S) μ (if x < 0 then o1 else o2) := by
  subst hq
  intro b μ' ho p e s m args below meth c H locs ls hA hP hS hl
  exact lv_if_lt hA.1 hA.2.1 hdg ht (fun hc => kt hc b μ' (by rw [if_pos hc] at ho; exact ho) p e s m args below meth c H locs ls hA hP hS hl) (fun hc => kf hc b μ' (by rw [if_neg hc] at ho; exact ho) p e s m args below meth c H locs ls hA hP hS hl)
theorem pb_if_ge (q : Nat) {x : Int32} {off : Int} {tgt : Nat} {o1 o2 : Option (α × pb_M)} (hdg : decode cc pc = .ok (.ifCond .ge off, 3)) (ht : (pc : Int) + off = (tgt : Int)) (hq : pc + 3 = q) (kt : 0 ≤ x → pb_RW l E R own cc mL ret Xs nc ns Qf tgt L S μ o1) (kf : ¬ 0 ≤ x → pb_RW l E R own cc mL ret Xs nc ns Qf q L S μ o2) : pb_RW l E R own cc mL ret Xs nc ns Qf pc L (.int x :: S) μ (if 0 ≤ x then o1 else o2) := by
  subst hq
  intro b μ' ho p e s m args below meth c H locs ls hA hP hS hl
  exact lv_if_ge hA.1 hA.2.1 hdg ht (fun hc => kt hc b μ' (by rw [if_pos hc] at ho; exact ho) p e s m args below meth c H locs ls hA hP hS hl) (fun hc => kf hc b μ' (by rw [if_neg hc] at ho; exact ho) p e s m args below meth c H locs ls hA hP hS hl)
theorem pb_if_gt (q : Nat) {x : Int32} {off : Int} {tgt : Nat} {o1 o2 : Option (α × pb_M)} (hdg : decode cc pc = .ok (.ifCond .gt off, 3)) (ht : (pc : Int) + off = (tgt : Int)) (hq : pc + 3 = q) (kt : 0 < x → pb_RW l E R own cc mL ret Xs nc ns Qf tgt L S μ o1) (kf : ¬ 0 < x → pb_RW l E R own cc mL ret Xs nc ns Qf q L S μ o2) : pb_RW l E R own cc mL ret Xs nc ns Qf pc L (.int x :: S) μ (if 0 < x then o1 else o2) := by
  subst hq
  intro b μ' ho p e s m args below meth c H locs ls hA hP hS hl
  exact lv_if_gt hA.1 hA.2.1 hdg ht (fun hc => kt hc b μ' (by rw [if_pos hc] at ho; exact ho) p e s m args below meth c H locs ls hA hP hS hl) (fun hc => kf hc b μ' (by rw [if_neg hc] at ho; exact ho) p e s m args below meth c H locs ls hA hP hS hl)
theorem pb_if_le (q : Nat) {x : Int32} {off : Int} {tgt : Nat} {o1 o2 : Option (α × pb_M)} (hdg : decode cc pc = .ok (.ifCond .le off, 3)) (ht : (pc : Int) + off = (tgt : Int)) (hq : pc + 3 = q) (kt : x ≤ 0 → pb_RW l E R own cc mL ret Xs nc ns Qf tgt L S μ o1) (kf : ¬ x ≤ 0 → pb_RW l E R own cc mL ret Xs nc ns Qf q L S μ o2) : pb_RW l E R own cc mL ret Xs nc ns Qf pc L (.int x :: S) μ (if x ≤ 0 then o1 else o2) := by
  subst hq
  intro b μ' ho p e s m args below meth c H locs ls hA hP hS hl
  exact lv_if_le hA.1 hA.2.1 hdg ht (fun hc => kt hc b μ' (by rw [if_pos hc] at ho; exact ho) p e s m args below meth c H locs ls hA hP hS hl) (fun hc => kf hc b μ' (by rw [if_neg hc] at ho; exact ho) p e s m args below meth c H locs ls hA hP hS hl)
theorem pb_icmp_eq (q : Nat) {x y : Int32} {off : Int} {tgt : Nat} {o1 o2 : Option (α × pb_M)} (hdg : decode cc pc = .ok (.if_icmp .eq off, 3)) (ht : (pc : Int) + off = (tgt : Int)) (hq : pc + 3 = q) (kt : x = y → pb_RW l E R own cc mL ret Xs nc ns Qf tgt L S μ o1) (kf : ¬ x = y → pb_RW l E R own cc mL ret Xs nc ns Qf q L S μ o2) : pb_RW l E R own cc mL ret Xs nc ns Qf pc L (.int y :: .int x :: S) μ (if x = y then o1 else o2) := by
  subst hq
  intro b μ' ho p e s m args below meth c H locs ls hA hP hS hl
  exact lv_icmp_eq hA.1 hA.2.1 hdg ht (fun hc => kt hc b μ' (by rw [if_pos hc] at ho; exact ho) p e s m args below meth c H locs ls hA hP hS hl) (fun hc => kf hc b μ' (by rw [if_neg hc] at ho; exact ho) p e s m args below meth c H locs ls hA hP hS hl)
theorem pb_icmp_ne (q : Nat) {x y : Int32} {off : Int} {tgt : Nat} {o1 o2 : Option (α × pb_M)} (hdg : decode cc pc = .ok (.if_icmp .ne off, 3)) (ht : (pc : Int) + off = (tgt : Int)) (hq : pc + 3 = q) (kf : x = y → pb_RW l E R own cc mL ret Xs nc ns Qf q L S μ o1) (kt : ¬ x = y → pb_RW l E R own cc mL ret Xs nc ns Qf tgt L S μ o2) : pb_RW l E R own cc mL ret Xs nc ns Qf pc L (.int y :: .int x :: S) μ (if x = y then o1 else o2) := by
  subst hq
  intro b μ' ho p e s m args below meth c H locs ls hA hP hS hl
  exact lv_icmp_ne hA.1 hA.2.1 hdg ht (fun hc => kt hc b μ' (by rw [if_neg hc] at ho; exact ho) p e s m args below meth c H locs ls hA hP hS hl) (fun hc => kf hc b μ' (by rw [if_pos hc] at ho; exact ho) p e s m args below meth c H locs ls hA hP hS hl)
theorem pb_icmp_lt (q : Nat) {x y : Int32} {off : Int} {tgt : Nat} {o1 o2 : Option (α × pb_M)} (hdg : decode cc pc = .ok (.if_icmp .lt off, 3)) (ht : (pc : Int) + off = (tgt : Int)) (hq : pc + 3 = q) (kt : x < y → pb_RW l E R own cc mL ret Xs nc ns Qf tgt L S μ o1) (kf : ¬ x < y → pb_RW l E R own cc mL ret Xs nc ns Qf q L S μ o2) : pb_RW l E R own cc mL ret Xs nc ns Qf pc L (.int y :: .int x :: S) μ (if x < y then o1 else o2) := by
  subst hq
  intro b μ' ho p e s m args below meth c H locs ls hA hP hS hl
  exact lv_icmp_lt hA.1 hA.2.1 hdg ht (fun hc => kt hc b μ' (by rw [if_pos hc] at ho; exact ho) p e s m args below meth c H locs ls hA hP hS hl) (fun hc => kf hc b μ' (by rw [if_neg hc] at ho; exact ho) p e s m args below meth c H locs ls hA hP hS hl)
theorem pb_icmp_ge (q : Nat) {x y : Int32} {off : Int} {tgt : Nat} {o1 o2 : Option (α × pb_M)} (hdg : decode cc pc = .ok (.if_icmp .ge off, 3)) (ht : (pc : Int) + off = (tgt : Int)) (hq : pc + 3 = q) (kt : y ≤ x → pb_RW l E R own cc mL ret Xs nc ns Qf tgt L S μ o1) (kf : ¬ y ≤ x → pb_RW l E R own cc mL ret Xs nc ns Qf q L S μ o2) : pb_RW l E R own cc mL ret Xs nc ns Qf pc L (.int y :: .int x :: S) μ (if y ≤ x then o1 else o2) := by
  subst hq
  intro b μ' ho p e s m args below meth c H locs ls hA hP hS hl
  exact lv_icmp_ge hA.1 hA.2.1 hdg ht (fun hc => kt hc b μ' (by rw [if_pos hc] at ho; exact ho) p e s m args below meth c H locs ls hA hP hS hl) (fun hc => kf hc b μ' (by rw [if_neg hc] at ho; exact ho) p e s m args below meth c H locs ls hA hP hS hl)
theorem pb_icmp_gt (q : Nat) {x y : Int32} {off : Int} {tgt : Nat} {o1 o2 : Option (α × pb_M)} (hdg : decode cc pc = .ok (.if_icmp .gt off, 3)) (ht : (pc : Int) + off = (tgt : Int)) (hq : pc + 3 = q) (kt : y < x → pb_RW l E R own cc mL ret Xs nc ns Qf tgt L S μ o1) (kf : ¬ y < x → pb_RW l E R own cc mL ret Xs nc ns Qf q L S μ o2) : pb_RW l E R own cc mL ret Xs nc ns Qf pc L (.int y :: .int x :: S) μ (if y < x then o1 else o2) := by
  subst hq
  intro b μ' ho p e s m args below meth c H locs ls hA hP hS hl
  exact lv_icmp_gt hA.1 hA.2.1 hdg ht (fun hc => kt hc b μ' (by rw [if_pos hc] at ho; exact ho) p e s m args below meth c H locs ls hA hP hS hl) (fun hc => kf hc b μ' (by rw [if_neg hc] at ho; exact ho) p e s m args below meth c H locs ls hA hP hS hl)
theorem pb_icmp_le (q : Nat) {x y : Int32} {off : Int} {tgt : Nat} {o1 o2 : Option (α × pb_M)} (hdg : decode cc pc = .ok (.if_icmp .le off, 3)) (ht : (pc : Int) + off = (tgt : Int)) (hq : pc + 3 = q) (kt : x ≤ y → pb_RW l E R own cc mL ret Xs nc ns Qf tgt L S μ o1) (kf : ¬ x ≤ y → pb_RW l E R own cc mL ret Xs nc ns Qf q L S μ o2) : pb_RW l E R own cc mL ret Xs nc ns Qf pc L (.int y :: .int x :: S) μ (if x ≤ y then o1 else o2) := by
  subst hq
  intro b μ' ho p e s m args below meth c H locs ls hA hP hS hl
  exact lv_icmp_le hA.1 hA.2.1 hdg ht (fun hc => kt hc b μ' (by rw [if_pos hc] at ho; exact ho) p e s m args below meth c H locs ls hA hP hS hl) (fun hc => kf hc b μ' (by rw [if_neg hc] at ho; exact ho) p e s m args below meth c H locs ls hA hP hS hl)
/-- a pure 'if' that no branch of the code makes -/
theorem pb_ite {c0 : Prop} [Decidable c0] {o1 o2 : Option (α × pb_M)} (kt : c0 → pb_RW l E R own cc mL ret Xs nc ns Qf pc L S μ o1) (kf : ¬ c0 → pb_RW l E R own cc mL ret Xs nc ns Qf pc L S μ o2) : pb_RW l E R own cc mL ret Xs nc ns Qf pc L S μ (if c0 then o1 else o2) := by
  intro b μ' ho
  by_cases hc : c0
  · rw [if_pos hc] at ho; exact kt hc b μ' ho
  · rw [if_neg hc] at ho; exact kf hc b μ' ho
theorem pb_none : pb_RW l E R own cc mL ret Xs nc ns Qf pc L S μ none := fun b μ' ho => by cases ho
theorem pb_guard {c0 : Prop} [Decidable c0] (kt : c0 → pb_RW l E R own cc mL ret Xs nc ns Qf pc L S μ o) : pb_RW l E R own cc mL ret Xs nc ns Qf pc L S μ (if c0 then o else none) := pb_ite kt (fun _ => pb_none)
theorem pb_guardN {c0 : Prop} [Decidable c0] (kt : ¬ c0 → pb_RW l E R own cc mL ret Xs nc ns Qf pc L S μ o) : pb_RW l E R own cc mL ret Xs nc ns Qf pc L S μ (if c0 then none else o) := pb_ite (fun _ => pb_none) kt
theorem pb_weak {L' : List (Option Value)} (hw : ∀ (i : Nat) (v : Value), L'[i]? = some (some v) → L[i]? = some (some v)) (k : pb_RW l E R own cc mL ret Xs nc ns Qf pc L' S μ o) : pb_RW l E R own cc mL ret Xs nc ns Qf pc L S μ o := fun b μ' ho p e s m args below meth c H locs ls hA hP hS hl => k b μ' ho p e s m args below meth c H locs ls hA hP hS (hl.weak hw)
theorem pb_tableK {dflt lo hi : Int} {offs : Array Int} {len : Nat} {x : Int32} {off : Int} {tgt : Nat} (kv : Int32) (hx : x = kv) (hdg : decode cc pc = .ok (.tableswitch dflt lo hi offs, len)) (h1 : ¬ kv.toInt < lo) (h2 : ¬ hi < kv.toInt) (hof : offs[(kv.toInt - lo).toNat]? = some off) (ht : (pc : Int) + off = (tgt : Int)) (k : pb_RW l E R own cc mL ret Xs nc ns Qf tgt L S μ o) : pb_RW l E R own cc mL ret Xs nc ns Qf pc L (.int x :: S) μ o := by
  subst hx
  intro b μ' ho p e s m args below meth c H locs ls hA hP hS hl
  exact lv_tableIn hA.1 hA.2.1 hdg h1 h2 hof ht (k b μ' ho p e s m args below meth c H locs ls hA hP hS hl)
theorem pb_tableD {dflt lo hi : Int} {offs : Array Int} {len : Nat} {x : Int32} {tgt : Nat} (hdg : decode cc pc = .ok (.tableswitch dflt lo hi offs, len)) (h : x.toInt < lo ∨ hi < x.toInt) (ht : (pc : Int) + dflt = (tgt : Int)) (k : pb_RW l E R own cc mL ret Xs nc ns Qf tgt L S μ o) : pb_RW l E R own cc mL ret Xs nc ns Qf pc L (.int x :: S) μ o := by
  intro b μ' ho p e s m args below meth c H locs ls hA hP hS hl
  exact lv_tableOut hA.1 hA.2.1 hdg h ht (k b μ' ho p e s m args below meth c H locs ls hA hP hS hl)
theorem pb_lookup {dflt : Int} {ps : Array (Int × Int)} {len : Nat} {x : Int32} {off : Int} {tgt : Nat} (hdg : decode cc pc = .ok (.lookupswitch dflt ps, len)) (hp : (ps.toList.zip (ps.toList.drop 1)).all (fun (a, next) => a.1 < next.1) = true) (hof : Op.lookupswitch.offset ps.toList dflt x.toInt = off) (ht : (pc : Int) + off = (tgt : Int)) (k : pb_RW l E R own cc mL ret Xs nc ns Qf tgt L S μ o) : pb_RW l E R own cc mL ret Xs nc ns Qf pc L (.int x :: S) μ o := by
  intro b μ' ho p e s m args below meth c H locs ls hA hP hS hl
  exact lv_lookup hA.1 hA.2.1 hdg hp hof ht (k b μ' ho p e s m args below meth c H locs ls hA hP hS hl)
/-! fields -/
theorem pb_get (q : Nat) {C : String} {T : u_T} {N ci index h j d : Nat} {ds : List Nat} {v : Value} (hin : ∀ w ∈ u_ws C T N, w ∈ pb_gw) (hc : vwCl[ci]? = some (C, T, N)) (hci : ci < 100) (hs : pb_sh[h]? = some (ci, ds)) (hj : ds[j]? = some d) (hN : j < N) (hlw : Cond.fieldLink own index (T j).1 (T j).2.1 (T j).2.2.1 ∈ pb_gw) (hv : pb_fv E.2.1 μ h j d = v) (hdg : decode cc pc = .ok (.getfield index, 3)) (hq : pc + 3 = q) (k : pb_RW l E R own cc mL ret Xs nc ns Qf q L (v :: S) μ o) : pb_RW l E R own cc mL ret Xs nc ns Qf pc L (.ref (E.2.1 h) :: S) μ o := by
  subst hq
  intro b μ' ho p e s m args below meth c H locs ls hA hP hS hl
  have hw := pb_ws_at (E := E) (μ := μ) hs
  rw [pb_cell_O hci] at hw
  exact va_get hA.1 hA.2.1 hA.2.2.2.2.2.2.1 hin hA.2.2.2.2.1 hA.2.2.2.2.2.2.2.1.1 hP h hw hc j hN (hA.2.2.2.2.2.2.1 _ hlw) (fun _ h9 => h9) (by rw [List.getElem?_mapIdx, hj]; simp only [Option.map_some, hv]) hdg (k b μ' ho p e s m args below meth c H locs ls hA hP hS hl)
theorem pb_getR (q : Nat) {C : String} {T : u_T} {N ci index h j d : Nat} {ds : List Nat} (hin : ∀ w ∈ u_ws C T N, w ∈ pb_gw) (hc : vwCl[ci]? = some (C, T, N)) (hci : ci < 100) (hs : pb_sh[h]? = some (ci, ds)) (hj : ds[j]? = some (d + 2)) (hN : j < N) (hlw : Cond.fieldLink own index (T j).1 (T j).2.1 (T j).2.2.1 ∈ pb_gw) (hdg : decode cc pc = .ok (.getfield index, 3)) (hq : pc + 3 = q) (k : pb_RW l E R own cc mL ret Xs nc ns Qf q L (.ref (E.2.1 d) :: S) μ o) : pb_RW l E R own cc mL ret Xs nc ns Qf pc L (.ref (E.2.1 h) :: S) μ o := pb_get q hin hc hci hs hj hN hlw rfl hdg hq k
theorem pb_getI (q : Nat) {C : String} {T : u_T} {N ci index h j : Nat} {ds : List Nat} (hin : ∀ w ∈ u_ws C T N, w ∈ pb_gw) (hc : vwCl[ci]? = some (C, T, N)) (hci : ci < 100) (hs : pb_sh[h]? = some (ci, ds)) (hj : ds[j]? = some 0) (hN : j < N) (hlw : Cond.fieldLink own index (T j).1 (T j).2.1 (T j).2.2.1 ∈ pb_gw) (hdg : decode cc pc = .ok (.getfield index, 3)) (hq : pc + 3 = q) (k : pb_RW l E R own cc mL ret Xs nc ns Qf q L (.int (μ.1 h j) :: S) μ o) : pb_RW l E R own cc mL ret Xs nc ns Qf pc L (.ref (E.2.1 h) :: S) μ o := pb_get q hin hc hci hs hj hN hlw rfl hdg hq k
theorem pb_getL (q : Nat) {C : String} {T : u_T} {N ci index h j : Nat} {ds : List Nat} (hin : ∀ w ∈ u_ws C T N, w ∈ pb_gw) (hc : vwCl[ci]? = some (C, T, N)) (hci : ci < 100) (hs : pb_sh[h]? = some (ci, ds)) (hj : ds[j]? = some 1) (hN : j < N) (hlw : Cond.fieldLink own index (T j).1 (T j).2.1 (T j).2.2.1 ∈ pb_gw) (hdg : decode cc pc = .ok (.getfield index, 3)) (hq : pc + 3 = q) (k : pb_RW l E R own cc mL ret Xs nc ns Qf q L (.long (μ.2 h) :: S) μ o) : pb_RW l E R own cc mL ret Xs nc ns Qf pc L (.ref (E.2.1 h) :: S) μ o := pb_get q hin hc hci hs hj hN hlw rfl hdg hq k
theorem pb_map_upd {E : pb_E} {μ : pb_M} {h j : Nat} {ds : List Nat} {v : Int32} (hj : ds[j]? = some 0) : ds.mapIdx (fun i d => pb_fv E.2.1 (pb_sA μ h (upd (μ.1 h) j v)) h i d) = (ds.mapIdx (fun i d => pb_fv E.2.1 μ h i d)).set j (.int v) := by
  apply List.ext_getElem?
  intro i
  rw [List.getElem?_mapIdx, List.getElem?_set, List.getElem?_mapIdx, List.length_mapIdx]
  by_cases hi : j = i
  · subst hi
    rw [if_pos rfl, if_pos (List.getElem?_eq_some_iff.mp hj).1, hj]
    simp [pb_fv, pb_sA, upd]
  · rw [if_neg hi]
    cases hd : ds[i]? with
    | none => rfl
    | some d =>
      simp only [Option.map_some]
      match d with
      | 0 => simp [pb_fv, pb_sA, upd, Ne.symm hi]
      | 1 => rfl
      | d + 2 => rfl
/-- a long field is the only one of its object -/
theorem pb_map_updL {E : pb_E} {μ : pb_M} {h j : Nat} {ds : List Nat} {v : Int64} (hj : ds[j]? = some 1) (hone : ∀ i, ds[i]? = some 1 → i = j) : ds.mapIdx (fun i d => pb_fv E.2.1 (pb_sL μ h v) h i d) = (ds.mapIdx (fun i d => pb_fv E.2.1 μ h i d)).set j (.long v) := by
  apply List.ext_getElem?
  intro i
  rw [List.getElem?_mapIdx, List.getElem?_set, List.getElem?_mapIdx, List.length_mapIdx]
  by_cases hi : j = i
  · subst hi
    rw [if_pos rfl, if_pos (List.getElem?_eq_some_iff.mp hj).1, hj]
    simp [pb_fv, pb_sL]
  · rw [if_neg hi]
    cases hd : ds[i]? with
    | none => rfl
    | some d =>
      simp only [Option.map_some]
      match d, hd with
      | 0, _ => rfl
      | 1, hd => exact absurd (hone i hd).symm hi
      | d + 2, _ => rfl
theorem pb_putI (q : Nat) {C : String} {T : u_T} {N ci index h j : Nat} {ds : List Nat} {v : Int32} (ty0 : Nat → FieldType) (hty : ∀ k, k < N → parseFieldDescriptor (T k).2.2.1 = some (ty0 k)) (hnm : ∀ a, a < N → ∀ b, b < N → a ≠ b → (T a).2.1 ≠ (T b).2.1) (hin : ∀ w ∈ u_ws C T N, w ∈ pb_gw) (hc : vwCl[ci]? = some (C, T, N)) (hci : ci < 100) (hs : pb_sh[h]? = some (ci, ds)) (hj : ds[j]? = some 0) (hN : j < N) (hlw : Cond.fieldLink own index (T j).1 (T j).2.1 (T j).2.2.1 ∈ pb_gw) (hfin : (T j).2.2.2 = false) (hd : parseFieldDescriptor (T j).2.2.1 = some .int) (hdg : decode cc pc = .ok (.putfield index, 3)) (hq : pc + 3 = q) (k : pb_RW l E R own cc mL ret Xs nc ns Qf q L S (pb_sA μ h (upd (μ.1 h) j v)) o) : pb_RW l E R own cc mL ret Xs nc ns Qf pc L (.int v :: .ref (E.2.1 h) :: S) μ o := by
  subst hq
  intro b μ' ho p e s m args below meth c H locs ls hA hP hS hl
  have hw := pb_ws_at (E := E) (μ := μ) hs
  rw [pb_cell_O hci] at hw
  have hjl : j < ds.length := (List.getElem?_eq_some_iff.mp hj).1
  refine va_put hA.1 hA.2.1 hA.2.2.2.2.2.2.1 hin ty0 hty hnm hA.2.2.2.2.1 hA.2.2.2.2.2.2.2.1.1 hP (pb_D hA.2.2.2.2.2.2.2.1 μ) hS h hw hc j hN (hA.2.2.2.2.2.2.1 _ hlw) (fun _ h9 => h9) hfin hd rfl rfl (by rw [List.length_mapIdx]; exact hjl) hdg (fun H1 locs1 hP1 _ hS1 => ?_)
  rw [pb_set_ws (μ' := pb_sA μ h (upd (μ.1 h) j v)) hs (by rw [pb_cell_O hci, pb_map_upd hj]) (fun h' hn e' => pb_cell_ne (pb_sA_ne hn) rfl e')] at hP1
  exact k b μ' ho p e s m args below meth c H1 locs1 ls hA hP1 hS1 hl
theorem pb_putL (q : Nat) {C : String} {T : u_T} {N ci index h j : Nat} {ds : List Nat} {v : Int64} (ty0 : Nat → FieldType) (hty : ∀ k, k < N → parseFieldDescriptor (T k).2.2.1 = some (ty0 k)) (hnm : ∀ a, a < N → ∀ b, b < N → a ≠ b → (T a).2.1 ≠ (T b).2.1) (hin : ∀ w ∈ u_ws C T N, w ∈ pb_gw) (hc : vwCl[ci]? = some (C, T, N)) (hci : ci < 100) (hs : pb_sh[h]? = some (ci, ds)) (hj : ds[j]? = some 1) (hone : ∀ i, ds[i]? = some 1 → i = j) (hN : j < N) (hlw : Cond.fieldLink own index (T j).1 (T j).2.1 (T j).2.2.1 ∈ pb_gw) (hfin : (T j).2.2.2 = false) (hd : parseFieldDescriptor (T j).2.2.1 = some .long) (hdg : decode cc pc = .ok (.putfield index, 3)) (hq : pc + 3 = q) (k : pb_RW l E R own cc mL ret Xs nc ns Qf q L S (pb_sL μ h v) o) : pb_RW l E R own cc mL ret Xs nc ns Qf pc L (.long v :: .ref (E.2.1 h) :: S) μ o := by
  subst hq
  intro b μ' ho p e s m args below meth c H locs ls hA hP hS hl
  have hw := pb_ws_at (E := E) (μ := μ) hs
  rw [pb_cell_O hci] at hw
  have hjl : j < ds.length := (List.getElem?_eq_some_iff.mp hj).1
  refine va_put hA.1 hA.2.1 hA.2.2.2.2.2.2.1 hin ty0 hty hnm hA.2.2.2.2.1 hA.2.2.2.2.2.2.2.1.1 hP (pb_D hA.2.2.2.2.2.2.2.1 μ) hS h hw hc j hN (hA.2.2.2.2.2.2.1 _ hlw) (fun _ h9 => h9) hfin hd rfl rfl (by rw [List.length_mapIdx]; exact hjl) hdg (fun H1 locs1 hP1 _ hS1 => ?_)
  rw [pb_set_ws (E := E) (μ := μ) (μ' := pb_sL μ h v) hs (by rw [pb_cell_O hci, pb_map_updL hj hone]) (fun h' hn e' => pb_cell_ne (μ := μ) (μ' := pb_sL μ h v) (h' := h') rfl (by simp [pb_sL, hn]) e')] at hP1
  exact k b μ' ho p e s m args below meth c H1 locs1 ls hA hP1 hS1 hl
/-! arrays -/
theorem pb_iald (q : Nat) {h n j : Nat} {i : Int32} (hs : pb_sh[h]? = some (100, [n])) (hin : pb_in i n = true) (hj : i.toNatClampNeg = j) (hdg : decode cc pc = .ok (.iaload, 1)) (hq : pc + 1 = q) (k : pb_RW l E R own cc mL ret Xs nc ns Qf q L (.int (μ.1 h j) :: S) μ o) : pb_RW l E R own cc mL ret Xs nc ns Qf pc L (.int i :: .ref (E.2.1 h) :: S) μ o := by
  subst hq
  subst hj
  intro b μ' ho p e s m args below meth c H locs ls hA hP hS hl
  exact va_iald hA.1 hA.2.1 hA.2.2.2.2.2.2.2.1.1 hP h 0 (pb_ws_at hs) rfl (pb_in_vp hin) hdg (k b μ' ho p e s m args below meth c H locs ls hA hP hS hl)
theorem pb_zald (q : Nat) {h n j : Nat} {i : Int32} (hs : pb_sh[h]? = some (101, [n])) (hin : pb_in i n = true) (hj : i.toNatClampNeg = j) (hdg : decode cc pc = .ok (.baload, 1)) (hq : pc + 1 = q) (k : pb_RW l E R own cc mL ret Xs nc ns Qf q L (.int (μ.1 h j) :: S) μ o) : pb_RW l E R own cc mL ret Xs nc ns Qf pc L (.int i :: .ref (E.2.1 h) :: S) μ o := by
  subst hq
  subst hj
  intro b μ' ho p e s m args below meth c H locs ls hA hP hS hl
  exact va_zald hA.1 hA.2.1 hA.2.2.2.2.2.2.2.1.1 hP h 1 (pb_ws_at hs) rfl (pb_in_vp hin) hdg (k b μ' ho p e s m args below meth c H locs ls hA hP hS hl)
theorem pb_iast (q : Nat) {h n j : Nat} {i x : Int32} (hs : pb_sh[h]? = some (100, [n])) (hin : pb_in i n = true) (hj : i.toNatClampNeg = j) (hdg : decode cc pc = .ok (.iastore, 1)) (hq : pc + 1 = q) (k : pb_RW l E R own cc mL ret Xs nc ns Qf q L S (pb_sA μ h (upd (μ.1 h) j x)) o) : pb_RW l E R own cc mL ret Xs nc ns Qf pc L (.int x :: .int i :: .ref (E.2.1 h) :: S) μ o := by
  subst hq
  subst hj
  intro b μ' ho p e s m args below meth c H locs ls hA hP hS hl
  refine va_iast hA.1 hA.2.1 hA.2.2.2.2.2.2.2.1.1 hP (pb_D hA.2.2.2.2.2.2.2.1 μ) hS h 0 (pb_ws_at hs) rfl (pb_in_vp hin) hdg (fun H1 locs1 hP1 _ hS1 => ?_)
  rw [pb_set_ws (μ' := pb_sA μ h (upd (μ.1 h) i.toNatClampNeg x)) hs (by rw [pb_cell_I, pb_sA_eq]; rfl) (fun h' hn e' => pb_cell_ne (pb_sA_ne hn) rfl e')] at hP1
  exact k b μ' ho p e s m args below meth c H1 locs1 ls hA hP1 hS1 hl
theorem pb_zast (q : Nat) {h n j : Nat} {i x : Int32} (hs : pb_sh[h]? = some (101, [n])) (hin : pb_in i n = true) (hj : i.toNatClampNeg = j) (hx : vp_nar .boolean x = x) (hdg : decode cc pc = .ok (.bastore, 1)) (hq : pc + 1 = q) (k : pb_RW l E R own cc mL ret Xs nc ns Qf q L S (pb_sA μ h (upd (μ.1 h) j x)) o) : pb_RW l E R own cc mL ret Xs nc ns Qf pc L (.int x :: .int i :: .ref (E.2.1 h) :: S) μ o := by
  subst hq
  subst hj
  intro b μ' ho p e s m args below meth c H locs ls hA hP hS hl
  refine va_zast hA.1 hA.2.1 hA.2.2.2.2.2.2.2.1.1 hP (pb_D hA.2.2.2.2.2.2.2.1 μ) hS h 1 (pb_ws_at hs) rfl (pb_in_vp hin) hdg (fun H1 locs1 hP1 _ hS1 => ?_)
  rw [hx, pb_set_ws (μ' := pb_sA μ h (upd (μ.1 h) i.toNatClampNeg x)) hs (by rw [pb_cell_Z, pb_sA_eq]; rfl) (fun h' hn e' => pb_cell_ne (pb_sA_ne hn) rfl e')] at hP1
  exact k b μ' ho p e s m args below meth c H1 locs1 ls hA hP1 hS1 hl
theorem pb_alen (q : Nat) {h n : Nat} {v : Int32} (hs : pb_sh[h]? = some (100, [n])) (hv : Int32.ofNat n = v) (hdg : decode cc pc = .ok (.arraylength, 1)) (hq : pc + 1 = q) (k : pb_RW l E R own cc mL ret Xs nc ns Qf q L (.int v :: S) μ o) : pb_RW l E R own cc mL ret Xs nc ns Qf pc L (.ref (E.2.1 h) :: S) μ o := by
  subst hq
  intro b μ' ho p e s m args below meth c H locs ls hA hP hS hl
  exact va_alen hA.1 hA.2.1 hA.2.2.2.2.2.2.2.1.1 hP h 0 (pb_ws_at hs) rfl hv hdg (k b μ' ho p e s m args below meth c H locs ls hA hP hS hl)
theorem pb_gets (q : Nat) {index : Nat} (hlw : Cond.fieldLink own index "PoundBeasts$Matching" "FACTORIALS" "[I" ∈ pb_gw) (hdg : decode cc pc = .ok (.getstatic index, 3)) (hq : pc + 3 = q) (k : pb_RW l E R own cc mL ret Xs nc ns Qf q L (.ref E.2.2.2.2 :: S) μ o) : pb_RW l E R own cc mL ret Xs nc ns Qf pc L S μ o := by
  subst hq
  intro b μ' ho p e s m args below meth c H locs ls hA hP hS hl
  exact va_gets hA.1 hA.2.1 hA.2.2.2.2.2.2.2.1.2.2.1 hS hA.2.2.2.2.1 (hA.2.2.2.2.2.2.1 _ hlw) (fun _ h9 => h9) hdg (k b μ' ho p e s m args below meth c H locs ls hA hP hS hl)
theorem pb_facld (q : Nat) {i : Int32} (hin : pb_in i 5 = true) (hdg : decode cc pc = .ok (.iaload, 1)) (hq : pc + 1 = q) (k : pb_RW l E R own cc mL ret Xs nc ns Qf q L (.int (([1, 1, 2, 6, 24] : List Int32).getD i.toNatClampNeg 0) :: S) μ o) : pb_RW l E R own cc mL ret Xs nc ns Qf pc L (.int i :: .ref E.2.2.2.2 :: S) μ o := by
  subst hq
  intro b μ' ho p e s m args below meth c H locs ls hA hP hS hl
  exact va_ti hA.1 hA.2.1 hA.2.2.2.2.2.2.2.1.2.2.2.1 hS (pb_in_vp hin) rfl hdg (k b μ' ho p e s m args below meth c H locs ls hA hP hS hl)
/-! the library's three -/
theorem pb_min (q : Nat) {index : Nat} {x y : Int32} (hl1 : Cond.methodLink own index Lib.Math.min.name ∈ pb_gw) (hl2 : Cond.static Lib.Math.min.name ∈ pb_gw) (hl3 : Cond.initialized "java/lang/Math" ∈ pb_gw) (hl4 : Cond.code Lib.Math.min.name Lib.Math.min.code 2 (some .int) ∈ pb_gw) (hr : 1 ≤ R.frames ∧ (S.map fun v => v.category).sum + 13 ≤ R.locals ∧ nc ≤ R.cells ∧ ns ≤ R.slots) (hdg : decode cc pc = .ok (.invokestatic index, 3)) (hq : pc + 3 = q) (k : pb_RW l E R own cc mL ret Xs nc ns Qf q L (.int (if y < x then y else x) :: S) μ o) : pb_RW l E R own cc mL ret Xs nc ns Qf pc L (.int y :: .int x :: S) μ o := by
  subst hq
  intro b μ' ho p e s m args below meth c H locs ls hA hP hS hl
  exact va_mmin hA.1 hA.2.1 (by rw [hA.2.2.1]; exact hl.1.symm) hA.2.2.2.2.1 (hA.2.2.2.2.2.2.1 _ hl1) (hA.2.2.2.2.2.2.1 _ hl2) (hA.2.2.2.2.2.2.1 _ hl3) (hA.2.2.2.2.2.2.1 _ hl4) hr.1 hr.2.1 hr.2.2.1 hr.2.2.2 hdg (k b μ' ho p e s m args below meth c H locs ls hA hP hS hl)
theorem pb_max (q : Nat) {index : Nat} {x y : Int32} (hl1 : Cond.methodLink own index Lib.Math.max.name ∈ pb_gw) (hl2 : Cond.static Lib.Math.max.name ∈ pb_gw) (hl3 : Cond.initialized "java/lang/Math" ∈ pb_gw) (hl4 : Cond.code Lib.Math.max.name Lib.Math.max.code 2 (some .int) ∈ pb_gw) (hr : 1 ≤ R.frames ∧ (S.map fun v => v.category).sum + 13 ≤ R.locals ∧ nc ≤ R.cells ∧ ns ≤ R.slots) (hdg : decode cc pc = .ok (.invokestatic index, 3)) (hq : pc + 3 = q) (k : pb_RW l E R own cc mL ret Xs nc ns Qf q L (.int (if x < y then y else x) :: S) μ o) : pb_RW l E R own cc mL ret Xs nc ns Qf pc L (.int y :: .int x :: S) μ o := by
  subst hq
  intro b μ' ho p e s m args below meth c H locs ls hA hP hS hl
  exact va_mmax hA.1 hA.2.1 (by rw [hA.2.2.1]; exact hl.1.symm) hA.2.2.2.2.1 (hA.2.2.2.2.2.2.1 _ hl1) (hA.2.2.2.2.2.2.1 _ hl2) (hA.2.2.2.2.2.2.1 _ hl3) (hA.2.2.2.2.2.2.1 _ hl4) hr.1 hr.2.1 hr.2.2.1 hr.2.2.2 hdg (k b μ' ho p e s m args below meth c H locs ls hA hP hS hl)
theorem pb_copy (q : Nat) {index h0 h1 n0 n1 : Nat} {sp dp n : Int32} (hl1 : Cond.methodLink own index arraycopyName ∈ pb_gw) (hl2 : Cond.native arraycopyName ∈ pb_gw) (hl3 : Cond.static arraycopyName ∈ pb_gw) (hl4 : Cond.initialized "java/lang/System" ∈ pb_gw) (hs0 : pb_sh[h0]? = some (100, [n0])) (hs1 : pb_sh[h1]? = some (100, [n1])) (hcp : pb_cp sp dp n n0 n1 = true) (hr : 1 ≤ R.frames ∧ (S.map fun v => v.category).sum + (nativeFrameWords "java/lang/System" "arraycopy" 5 + 11) ≤ R.locals) (hdg : decode cc pc = .ok (.invokestatic index, 3)) (hq : pc + 3 = q) (k : pb_RW l E R own cc mL ret Xs nc ns Qf q L S (pb_sA μ h1 (va_cpy (μ.1 h0) (μ.1 h1) sp.toNatClampNeg dp.toNatClampNeg n.toNatClampNeg)) o) : pb_RW l E R own cc mL ret Xs nc ns Qf pc L (.int n :: .int dp :: .ref (E.2.1 h1) :: .int sp :: .ref (E.2.1 h0) :: S) μ o := by
  subst hq
  intro b μ' ho p e s m args below meth c H locs ls hA hP hS hl
  unfold pb_cp at hcp
  simp only [Bool.and_eq_true, decide_eq_true_eq] at hcp
  obtain ⟨⟨⟨⟨c1, c2⟩, c3⟩, c4⟩, c5⟩ := hcp
  refine va_copyi hA.1 hA.2.1 (by rw [hA.2.2.1]; exact hl.1.symm) hA.2.2.2.2.1 (hA.2.2.2.2.2.2.1 _ hl1) (hA.2.2.2.2.2.2.1 _ hl2) (hA.2.2.2.2.2.2.1 _ hl3) (hA.2.2.2.2.2.2.1 _ hl4) hA.2.2.2.2.2.2.2.1.1 hP (pb_D hA.2.2.2.2.2.2.2.1 μ) hS h0 h1 0 0 (pb_ws_at hs0) (pb_ws_at hs1) rfl rfl rfl (Int32.not_lt.mpr c1) (Int32.not_lt.mpr c2) (Int32.not_lt.mpr c3) c4 c5 (fun _ _ => rfl) hr.1 hr.2 hdg (fun H1 locs1 hP1 _ hS1 => ?_)
  rw [pb_set_ws (μ' := pb_sA μ h1 (va_cpy (μ.1 h0) (μ.1 h1) sp.toNatClampNeg dp.toNatClampNeg n.toNatClampNeg)) hs1 (by rw [pb_cell_I, pb_sA_eq]; rfl) (fun h' hn e' => pb_cell_ne (pb_sA_ne hn) rfl e')] at hP1
  exact k b μ' ho p e s m args below meth c H1 locs1 ls hA hP1 hS1 hl
/-! calls -/
def pb_MC (y : MethodName) (cc : ByteArray) (mL : Nat) (ret : Option FieldType) (n : Nat) : Prop := Cond.code y cc mL ret ∈ pb_gw ∧ Cond.initialized y.cls ∈ pb_gw ∧ y.cls ≠ "java/lang/invoke/MethodHandle" ∧ y.cls ≠ "java/lang/invoke/VarHandle" ∧ (parseMethodDescriptor y.desc).map (fun d => d.parameters.length) = some n
theorem pb_after {β : Type} {emb' : β → Option Value} {p : Program} {e : Env} {s : State} {m : MethodId} {args : Array Value} {below : List Frame} {meth : Method} {c : Code} {H : Heap} {locs : List Loc} {ls : Array Slot} {St : List Value} {a : Array Value} {b1 : β} {μ1 : pb_M} {Q : State → Prop}
    (hr : va_Run p l e R s m args below meth c H locs nc ns 0 0 (F0 m pc ls St) S (pb_Qc E (emb' b1) μ1 a) (pb_A E)) (hS : va_S (pb_A E) s.heap H locs)
    (kk : ∀ (H1 : Heap) (locs1 : List Loc), va_P E.1 vwCl (pb_ws E μ1) H1 → va_S (pb_A E) s.heap H1 locs1 → W p l e R s m args below meth c H1 locs1 nc ns Q (F0 m (pc + 3) ls ((emb' b1).toList ++ S))) : W p l e R s m args below meth c H locs nc ns Q (F0 m pc ls St) := by
  intro T hT X
  obtain ⟨v, st₀, t, T', L2, h0, X', hL, e1, e2, ⟨hv, hp, hz, hk⟩, st⟩ := hr T hT X
  cases hv
  rw [h0] at hz hk
  obtain ⟨t2, a1, b1⟩ := kk T'.heap (locs ++ L2) (by rw [e1]; exact hp) ⟨Nat.le_trans hS.1 (by rw [e1]; exact hz), fun q h1 h2 => by rw [e1, hk q (Nat.lt_of_lt_of_le h1 hS.1) h2]; exact hS.2.1 q h1 h2, fun q hq => by
      rcases List.mem_append.mp hq with h | h
      · exact hS.2.2 q h
      · exact hL q h⟩ T' rfl X'
  exact ⟨t2, st t2 a1, b1⟩
theorem pb_preS {s : State} {H : Heap} {locs : List Loc} (hG : pb_G E s) (hP : va_P E.1 vwCl (pb_ws E μ) H) (hS : va_S (pb_A E) s.heap H locs) (av : List Value) : PreS s H (pb_Pc E av μ) av :=
  ⟨fun a U g mk q => ⟨q.1, q.2.1, q.2.2.blind g mk a⟩, fun U hU hW => ⟨rfl, by rw [hU]; exact hP, hG.to hW hU hS⟩⟩
theorem pb_bind {β : Type} {gc : Option (β × pb_M)} {f : β → pb_M → Option (α × pb_M)} {z : α × pb_M} (h : pb_b gc f = some z) : ∃ b1 μ1, gc = some (b1, μ1) ∧ f b1 μ1 = some z := by
  cases gc with
  | none => cases h
  | some q => exact ⟨q.1, q.2, rfl, h⟩
theorem pb_callV (q : Nat) {β : Type} (emb' : β → Option Value) {gc : Option (β × pb_M)} {f : β → pb_M → Option (α × pb_M)} {y : MethodName} {cc' : ByteArray} {mL' n index h ci N : Nat} {ds : List Nat} {T : u_T} {ret' : Option FieldType} {rm : Room} {As St : List Value}
    (hy : pb_MC y cc' mL' ret' n) (hyi : Cond.instanceMethod y ∈ pb_gw) (hys : Cond.selects y.cls y y ∈ pb_gw) (hM : ∀ b1 μ1, gc = some (b1, μ1) → pb_Ev l E y cc' mL' ret' rm (.ref (E.2.1 h) :: As) μ (emb' b1) μ1)
    (hs : pb_sh[h]? = some (ci, ds)) (hci : ci < 100) (hcl : vwCl[ci]? = some (y.cls, T, N)) (hn : As.length = n) (hrc : rm.cells = 0) (hrs : rm.slots = 0) (hR : rm.frames + 1 ≤ R.frames ∧ 8 + (mL' + 11) + rm.locals ≤ R.locals ∧ nc ≤ R.cells ∧ ns ≤ R.slots)
    (hst : As.reverse ++ .ref (E.2.1 h) :: S = St) (hW : (S.map fun v => v.category).sum ≤ 8) (hl1 : Cond.methodLink own index y ∈ pb_gw) (hdg : decode cc pc = .ok (.invokevirtual index, 3)) (hq : pc + 3 = q) (k : ∀ b1 μ1, pb_RW l E R own cc mL ret Xs nc ns Qf q L ((emb' b1).toList ++ S) μ1 (f b1 μ1)) : pb_RW l E R own cc mL ret Xs nc ns Qf pc L St μ (pb_b gc f) := by
  subst hq
  intro b μ' ho p e s m args below meth c H locs ls hA hP hS hl
  obtain ⟨b1, μ1, h1, h2⟩ := pb_bind ho
  have hts := hA.2.2.2.2.2.2.1
  have hw := pb_ws_at (E := E) (μ := μ) hs
  rw [pb_cell_O hci] at hw
  have hpS := pb_preS (E := E) (μ := μ) hA.2.2.2.2.2.2.2.1 hP hS (.ref (E.2.1 h) :: As)
  refine pb_after (b1 := b1) (μ1 := μ1) (emb' := emb') (S := S) (va_runV (As := As) (rest := S) (Ts := pb_gw) (C := y.cls) ⟨hA.1, hA.2.1, hA.2.2.1, hA.2.2.2.2.1, hts⟩ (hM b1 μ1 h1) ⟨callB_of n hts (pb_goodC hy.1) rfl hrc hrs (hts _ hy.2.1) (hts _ hl1) hy.2.2 ⟨hR.1, hR.2.1⟩, hts _ hyi, hts _ hys⟩ ⟨hpS.1, va_recv hA.2.2.2.2.2.2.2.1.1 hP hcl hw, hpS.2⟩ rfl hn hl.1 hst.symm (by show 2 * 0 + _ ≤ 8; omega) hdg ⟨hR.2.2.1, hR.2.2.2⟩) hS (fun H1 locs1 hP1 hS1 => k b1 μ1 b μ' h2 p e s m args below meth c H1 locs1 ls hA hP1 hS1 hl)
theorem pb_callS (q : Nat) {β : Type} (emb' : β → Option Value) {gc : Option (β × pb_M)} {f : β → pb_M → Option (α × pb_M)} {y : MethodName} {cc' : ByteArray} {mL' n index : Nat} {ret' : Option FieldType} {rm : Room} {As St : List Value}
    (hy : pb_MC y cc' mL' ret' n) (hys : Cond.static y ∈ pb_gw) (hM : ∀ b1 μ1, gc = some (b1, μ1) → pb_Ev l E y cc' mL' ret' rm As μ (emb' b1) μ1)
    (hn : As.length = n) (hrc : rm.cells = 0) (hrs : rm.slots = 0) (hR : rm.frames + 1 ≤ R.frames ∧ 8 + (mL' + 11) + rm.locals ≤ R.locals ∧ nc ≤ R.cells ∧ ns ≤ R.slots)
    (hst : As.reverse ++ S = St) (hW : (S.map fun v => v.category).sum ≤ 8) (hl1 : Cond.methodLink own index y ∈ pb_gw) (hdg : decode cc pc = .ok (.invokestatic index, 3)) (hq : pc + 3 = q) (k : ∀ b1 μ1, pb_RW l E R own cc mL ret Xs nc ns Qf q L ((emb' b1).toList ++ S) μ1 (f b1 μ1)) : pb_RW l E R own cc mL ret Xs nc ns Qf pc L St μ (pb_b gc f) := by
  subst hq
  intro b μ' ho p e s m args below meth c H locs ls hA hP hS hl
  obtain ⟨b1, μ1, h1, h2⟩ := pb_bind ho
  have hts := hA.2.2.2.2.2.2.1
  have hpS := pb_preS (E := E) (μ := μ) hA.2.2.2.2.2.2.2.1 hP hS As
  refine pb_after (b1 := b1) (μ1 := μ1) (emb' := emb') (S := S) (va_runS (As := As) (rest := S) (Ts := pb_gw) ⟨hA.1, hA.2.1, hA.2.2.1, hA.2.2.2.2.1, hts⟩ (hM b1 μ1 h1) ⟨callB_of n hts (pb_goodC hy.1) rfl hrc hrs (hts _ hy.2.1) (hts _ hl1) hy.2.2 ⟨hR.1, hR.2.1⟩, hts _ hys⟩ hpS rfl hn hl.1 hst.symm (by show 2 * 0 + _ ≤ 8; omega) hdg ⟨hR.2.2.1, hR.2.2.2⟩) hS (fun H1 locs1 hP1 hS1 => k b1 μ1 b μ' h2 p e s m args below meth c H1 locs1 ls hA hP1 hS1 hl)
theorem pb_callSN (q : Nat) {β : Type} (emb' : β → Option Value) {gc : Option (β × pb_M)} {f : β → pb_M → Option (α × pb_M)} {y : MethodName} {cc' : ByteArray} {mL' n index : Nat} {host : String} {ret' : Option FieldType} {rm : Room} {As St : List Value}
    (hy : pb_MC y cc' mL' ret' n) (hys : Cond.static y ∈ pb_gw) (hM : ∀ b1 μ1, gc = some (b1, μ1) → pb_Ev l E y cc' mL' ret' rm As μ (emb' b1) μ1)
    (hn : As.length = n) (hrc : rm.cells = 0) (hrs : rm.slots = 0) (hR : rm.frames + 1 ≤ R.frames ∧ 8 + (mL' + 11) + rm.locals ≤ R.locals ∧ nc ≤ R.cells ∧ ns ≤ R.slots)
    (hst : As.reverse ++ S = St) (hW : (S.map fun v => v.category).sum ≤ 8) (hl1 : (own, index, y, host) ∈ pb_nest) (hdg : decode cc pc = .ok (.invokestatic index, 3)) (hq : pc + 3 = q) (k : ∀ b1 μ1, pb_RW l E R own cc mL ret Xs nc ns Qf q L ((emb' b1).toList ++ S) μ1 (f b1 μ1)) : pb_RW l E R own cc mL ret Xs nc ns Qf pc L St μ (pb_b gc f) := by
  subst hq
  intro b μ' ho p e s m args below meth c H locs ls hA hP hS hl
  obtain ⟨b1, μ1, h1, h2⟩ := pb_bind ho
  have hts := hA.2.2.2.2.2.2.1
  have hpS := pb_preS (E := E) (μ := μ) hA.2.2.2.2.2.2.2.1 hP hS As
  refine pb_after (b1 := b1) (μ1 := μ1) (emb' := emb') (S := S) (va_runSN (As := As) (rest := S) (Ts := pb_gw) ⟨hA.1, hA.2.1, hA.2.2.1, hA.2.2.2.2.1, hts⟩ (hM b1 μ1 h1) ⟨va_cnB n hts (pb_goodC hy.1) rfl hrc hrs (hA.2.2.2.2.2.2.2.1.2.1 _ hl1) (hts _ hy.2.1) hy.2.2 ⟨hR.1, hR.2.1⟩, hts _ hys, trivial⟩ hpS rfl hn hl.1 hst.symm (by show 2 * 0 + _ ≤ 8; omega) hdg ⟨hR.2.2.1, hR.2.2.2⟩) hS (fun H1 locs1 hP1 hS1 => k b1 μ1 b μ' h2 p e s m args below meth c H1 locs1 ls hA hP1 hS1 hl)
end PBR
section PBE
variable {α : Type} {l : Launch} {E : pb_E} {R : Room} {own : String} {cc : ByteArray} {mL : Nat} {Xs : State → Prop} {pc : Nat} {L : List (Option Value)} {μ : pb_M}
theorem pb_Qend {s t : State} {H : Heap} {locs : List Loc} {args : Array Value} {r : Option Value} (hP : va_P E.1 vwCl (pb_ws E μ) H) (hS : va_S (pb_A E) s.heap H locs) (ht : t.heap = H) : pb_Qc E r μ args s (.returned r) t := ⟨rfl, by rw [ht]; exact hP, hS.F ht⟩
theorem pb_iret {x : Int32} (hdg : decode cc pc = .ok (.ireturn, 1)) : pb_RW l E R own cc mL (some .int) Xs 0 0 (pb_Qf E (fun z : Int32 => some (.int z))) pc L [.int x] μ (some (x, μ)) := by
  intro b μ' ho p e s m args below meth c H locs ls hA hP hS hl
  cases ho
  have hlocks := hA.2.2.2.2.2.1
  exact W.iret hA.1 hA.2.1 hA.2.2.2.1 (fun t ht _ => pb_Qend hP hS ht) hS.2.2 hdg hlocks
theorem pb_zret {x : Int32} (hx : narrow .boolean (.int x) = .int x) (hdg : decode cc pc = .ok (.ireturn, 1)) : pb_RW l E R own cc mL (some .boolean) Xs 0 0 (pb_Qf E (fun z : Int32 => some (.int z))) pc L [.int x] μ (some (x, μ)) := by
  intro b μ' ho p e s m args below meth c H locs ls hA hP hS hl
  cases ho
  have hlocks := hA.2.2.2.2.2.1
  exact W.zret hA.1 hA.2.1 hA.2.2.2.1 hx (fun t ht _ => pb_Qend hP hS ht) hS.2.2 hdg hlocks
theorem pb_zretG {x : Int32} (hdg : decode cc pc = .ok (.ireturn, 1)) : pb_RW l E R own cc mL (some .boolean) Xs 0 0 (pb_Qf E (fun z : Int32 => some (.int z))) pc L [.int x] μ (if x = 0 ∨ x = 1 then some (x, μ) else none) := pb_guard (fun h => pb_zret (by rcases h with rfl | rfl <;> rfl) hdg)
theorem pb_lret {x : Int64} (hdg : decode cc pc = .ok (.lreturn, 1)) : pb_RW l E R own cc mL (some .long) Xs 0 0 (pb_Qf E (fun z : Int64 => some (.long z))) pc L [.long x] μ (some (x, μ)) := by
  intro b μ' ho p e s m args below meth c H locs ls hA hP hS hl
  cases ho
  have hlocks := hA.2.2.2.2.2.1
  exact W.lret hA.1 hA.2.1 hA.2.2.2.1 (fun t ht _ => pb_Qend hP hS ht) hS.2.2 hdg hlocks
theorem pb_vret (hdg : decode cc pc = .ok (.return_, 1)) : pb_RW l E R own cc mL none Xs 0 0 (pb_Qf E (fun _ : Unit => none)) pc L [] μ (some ((), μ)) := by
  intro b μ' ho p e s m args below meth c H locs ls hA hP hS hl
  cases ho
  have hlocks := hA.2.2.2.2.2.1
  exact W.vret hA.1 hA.2.1 hA.2.2.2.1 (fun t ht _ => pb_Qend hP hS ht) hS.2.2 hdg hlocks
def pb_args : List Value → List (Option Value)
  | [] => []
  | v :: vs => some v :: ((if v.category = 2 then [none] else []) ++ pb_args vs)
theorem pb_args_at : ∀ (av : List Value) (n i : Nat) (v : Value), (pb_args av)[i]? = some (some v) → (n + i, v) ∈ lv_args n av
  | [], n, i, v, h => by simp [pb_args] at h
  | w :: vs, n, i, v, h => by
    unfold pb_args at h
    unfold lv_args
    cases i with
    | zero =>
      simp at h
      subst h
      simp
    | succ i =>
      rw [List.getElem?_cons_succ] at h
      by_cases hc : w.category = 2
      · rw [if_pos hc] at h
        cases i with
        | zero => simp at h
        | succ i =>
          have h' : (pb_args vs)[i]? = some (some v) := by simpa using h
          have := pb_args_at vs (n + 2) i v h'
          refine List.mem_cons_of_mem _ ?_
          rw [show n + (i + 1 + 1) = n + 2 + i by omega, hc]
          exact this
      · rw [if_neg hc] at h
        have h' : (pb_args vs)[i]? = some (some v) := by simpa using h
        have h1 : w.category = 1 := (lv_cat w).resolve_right hc
        have := pb_args_at vs (n + 1) i v h'
        refine List.mem_cons_of_mem _ ?_
        rw [show n + (i + 1) = n + 1 + i by omega, h1]
        exact this
/-- as the kit's Met.ofW, for a method that no entry stands for, its class however named -/
theorem pb_ofW {y : MethodName} {ws ws' : List Cond} {rm : Room} {Pc : Array Value → State → Prop} {Qc : Array Value → State → Outcome → State → Prop} {mc ms : Nat} {free : Addr → Prop} {ret : Option FieldType} (hy : plainFor y = true) (hw : ws = Cond.code y cc mL ret :: ws')
    (body : ∀ p e s m args below meth c s₁, BodyLoose p l y (headSpec ws rm) cc mL ret e s m args below meth c s₁ → c.maxLocals = mL → Pc args s → W p l e (headSpec ws rm).room s m args below meth c s.heap [] 0 0 (MQ below Qc args s mc ms free) (entryFrame m args mL)) : Met l y ws rm Pc Qc mc ms free := by
  refine MetFree.of_bodySF (code := cc) (maxLocals := mL) (ret := ret) hy ?_ ?_
  · intro args s m h hn
    obtain ⟨meth, c, h1, h2, h3, h4, h5, h6, -, -⟩ := Cond.code_spec hn (atoms_spec (ws := ws) h _ (by rw [hw]; exact List.mem_cons_self))
    exact ⟨meth, c, h1, h2, h3, h4, h5, h6⟩
  · intro p e s m args below meth c s₁ B hml hP _
    have hh0 : s₁.heap = s.heap := by rw [B.state]; rfl
    obtain ⟨t, a1, o, b1, b2, b3⟩ := body p e s m args below meth c s₁ B hml hP s₁ hh0 (Stand.of_body B)
    exact ⟨t, o, a1, b1, b2, ⟨b3.1, b3.2⟩⟩
theorem pb_enter {o : Option (α × pb_M)} {emb : α → Option Value} {y : MethodName} {ret : Option FieldType} {av : List Value} (hpl : plainFor y = true) (hlen : (lg_sl av).length ≤ mL) (hL : ∀ (i : Nat) (v : Value), L[i]? = some (some v) → (pb_args av)[i]? = some (some v)) (k : pb_RW l E R y.cls cc mL ret (fun _ => True) 0 0 (pb_Qf E emb) 0 L [] μ o) : ∀ b μ', o = some (b, μ') → pb_Ev l E y cc mL ret R av μ (emb b) μ' := by
  intro b μ' ho
  refine pb_ofW (ret := ret) hpl rfl ?_
  intro p e s m args below meth c s₁ B hml hv
  obtain ⟨rfl, hP, hG⟩ := hv
  have hts := atoms_spec (ws := Cond.code y cc mL ret :: pb_gw) B.pre
  have hent := lv_entry av (n := mL) hlen
  rw [lg_entry_eq]
  exact k b μ' ho p e s m _ below meth c s.heap [] _ ⟨B.exec, B.bytes, hml, B.returns, findClass_of_methodNamed B.named, B.notSynchronized, fun w hw => hts w (List.mem_cons_of_mem _ hw), hG, trivial⟩ hP va_S.rf ⟨hent.1, hent.2.1, fun i v hi => hent.2.2 (i, v) (by have := pb_args_at av 0 i v (hL i v hi); rwa [Nat.zero_add] at this)⟩
end PBE
