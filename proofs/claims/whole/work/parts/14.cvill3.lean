/-! what a change keeps -/
theorem pb_u_comm (a : pb_Vg) {k l x y : Nat} (h : k ≠ l) : pb_u (pb_u a k x) l y = pb_u (pb_u a l y) k x := by
  funext j
  simp only [pb_u]
  by_cases h1 : j = l
  · subst h1
    simp [Ne.symm h]
  · simp [h1]
theorem pb_it_inv {σ : Type} (f : Nat → σ → σ) (I : σ → Prop) (e : Nat) (hf : ∀ b s, b < e → I s → I (f b s)) : ∀ (c b : Nat) (s : σ), b + c ≤ e → I s → I (pb_it f c b s)
  | 0, _, _, _, h => h
  | c + 1, b, s, hb, h => pb_it_inv f I e hf c (b + 1) (f b s) (by omega) (hf b s (by omega) h)
theorem vOk.mono {M M' : Nat} {a : pb_Vg} (h : vOk M a) (hM : M ≤ M') : vOk M' a := ⟨h.1, h.2.1, h.2.2.1, fun j hj => Nat.lt_of_lt_of_le (h.2.2.2 j hj) hM⟩
section OK
variable {M : Nat} {a : pb_Vg}
theorem vOk.uF (h : vOk M a) {k x : Nat} (hk : (2 ≤ k ∧ k < 11) ∨ (37 ≤ k ∧ k < 42) ∨ 47 ≤ k) (hx : x < M) : vOk M (pb_u a k x) := by
  obtain ⟨⟨h1, h2⟩, h3, h4, h5⟩ := h
  have e0 : vP (pb_u a k x) = vP a := pb_u_ne (by omega)
  have e1 : vB (pb_u a k x) = vB a := pb_u_ne (by omega)
  refine ⟨by rw [e0, e1]; exact ⟨h1, h2⟩, fun b hb => ?_, fun i j hi hj => ?_, fun j hj => ?_⟩
  · rw [e1] at hb
    have := h3 b hb
    rw [e0, pb_u_ne (by omega), pb_u_ne (by omega), pb_u_ne (by omega)]
    exact this
  · have : vDebt (pb_u a k x) i j = vDebt a i j := pb_u_ne (by omega)
    rw [e0, this]
    exact h4 i j hi hj
  · by_cases e : j = k
    · rw [e, pb_u_eq]; exact hx
    · rw [pb_u_ne e]; exact h5 j hj
theorem vOk.uD (h : vOk M a) {i j x : Nat} (hi : i < vP a) (hj : j < vP a) (hij : i ≠ j) (hx : x ≤ 99) (hM : 100 ≤ M) : vOk M (pb_u a (11 + 4 * i + j) x) := by
  obtain ⟨⟨h1, h2⟩, h3, h4, h5⟩ := h
  have e0 : vP (pb_u a (11 + 4 * i + j) x) = vP a := pb_u_ne (by omega)
  have e1 : vB (pb_u a (11 + 4 * i + j) x) = vB a := pb_u_ne (by omega)
  refine ⟨by rw [e0, e1]; exact ⟨h1, h2⟩, fun b hb => ?_, fun i' j' hi' hj' => ?_, fun j' hj' => ?_⟩
  · rw [e1] at hb
    have := h3 b hb
    rw [e0, pb_u_ne (by omega), pb_u_ne (by omega), pb_u_ne (by omega)]
    exact this
  · rw [e0]
    by_cases e : i' = i ∧ j' = j
    · obtain ⟨rfl, rfl⟩ := e
      have : vDebt (pb_u a (11 + 4 * i' + j') x) i' j' = x := pb_u_eq _ _ _
      rw [this]
      exact ⟨hx, fun q => by omega⟩
    · have : vDebt (pb_u a (11 + 4 * i + j) x) i' j' = vDebt a i' j' := pb_u_ne (by omega)
      rw [this]
      exact h4 i' j' hi' hj'
  · by_cases e : j' = 11 + 4 * i + j
    · rw [e, pb_u_eq]; omega
    · rw [pb_u_ne e]; exact h5 j' hj'
theorem vOk.uH (h : vOk M a) {b x : Nat} (hb : b < vB a) (hx : x ≤ vP a) (hw : x ≠ 0 → a (32 + b) ≠ 0 ∧ x ≠ a (27 + b) + 1) (hM : 100 ≤ M) : vOk M (pb_u a (42 + b) x) := by
  obtain ⟨⟨h1, h2⟩, h3, h4, h5⟩ := h
  have e0 : vP (pb_u a (42 + b) x) = vP a := pb_u_ne (by omega)
  have e1 : vB (pb_u a (42 + b) x) = vB a := pb_u_ne (by omega)
  refine ⟨by rw [e0, e1]; exact ⟨h1, h2⟩, fun b' hb' => ?_, fun i j hi hj => ?_, fun j hj => ?_⟩
  · rw [e1] at hb'
    have := h3 b' hb'
    rw [e0, pb_u_ne (show 27 + b' ≠ 42 + b by omega), pb_u_ne (show 32 + b' ≠ 42 + b by omega)]
    by_cases e : b' = b
    · subst e
      rw [pb_u_eq]
      exact ⟨this.1, hx, hw⟩
    · rw [pb_u_ne (by omega)]
      exact this
  · have : vDebt (pb_u a (42 + b) x) i j = vDebt a i j := pb_u_ne (by omega)
    rw [e0, this]
    exact h4 i j hi hj
  · by_cases e : j = 42 + b
    · rw [e, pb_u_eq]; omega
    · rw [pb_u_ne e]; exact h5 j hj
theorem vOk.uW (h : vOk M a) {b x : Nat} (hb : b < vB a) (hw : a (42 + b) ≠ 0 → x ≠ 0) (hx : x < M) : vOk M (pb_u a (32 + b) x) := by
  obtain ⟨⟨h1, h2⟩, h3, h4, h5⟩ := h
  have e0 : vP (pb_u a (32 + b) x) = vP a := pb_u_ne (by omega)
  have e1 : vB (pb_u a (32 + b) x) = vB a := pb_u_ne (by omega)
  refine ⟨by rw [e0, e1]; exact ⟨h1, h2⟩, fun b' hb' => ?_, fun i j hi hj => ?_, fun j hj => ?_⟩
  · rw [e1] at hb'
    have := h3 b' hb'
    rw [e0, pb_u_ne (show 27 + b' ≠ 32 + b by omega), pb_u_ne (show 42 + b' ≠ 32 + b by omega)]
    by_cases e : b' = b
    · subst e
      rw [pb_u_eq]
      exact ⟨this.1, this.2.1, fun q => ⟨hw q, (this.2.2 q).2⟩⟩
    · rw [pb_u_ne (by omega)]
      exact this
  · have : vDebt (pb_u a (32 + b) x) i j = vDebt a i j := pb_u_ne (by omega)
    rw [e0, this]
    exact h4 i j hi hj
  · by_cases e : j = 32 + b
    · rw [e, pb_u_eq]; exact hx
    · rw [pb_u_ne e]; exact h5 j hj
theorem vOk.uO (h : vOk M a) {b x : Nat} (hb : b < vB a) (hx : x < vP a) (hw : a (42 + b) = 0) (hM : 100 ≤ M) : vOk M (pb_u a (27 + b) x) := by
  obtain ⟨⟨h1, h2⟩, h3, h4, h5⟩ := h
  have e0 : vP (pb_u a (27 + b) x) = vP a := pb_u_ne (by omega)
  have e1 : vB (pb_u a (27 + b) x) = vB a := pb_u_ne (by omega)
  refine ⟨by rw [e0, e1]; exact ⟨h1, h2⟩, fun b' hb' => ?_, fun i j hi hj => ?_, fun j hj => ?_⟩
  · rw [e1] at hb'
    have := h3 b' hb'
    rw [e0, pb_u_ne (show 32 + b' ≠ 27 + b by omega), pb_u_ne (show 42 + b' ≠ 27 + b by omega)]
    by_cases e : b' = b
    · subst e
      rw [pb_u_eq]
      exact ⟨hx, this.2.1, fun q => absurd hw q⟩
    · rw [pb_u_ne (by omega)]
      exact this
  · have : vDebt (pb_u a (27 + b) x) i j = vDebt a i j := pb_u_ne (by omega)
    rw [e0, this]
    exact h4 i j hi hj
  · by_cases e : j = 27 + b
    · rw [e, pb_u_eq]; omega
    · rw [pb_u_ne e]; exact h5 j hj
theorem vOk.home (h : vOk M a) {b : Nat} (hb : b < vB a) (hM : 100 ≤ M) : vOk M (vHome a b) := (h.uH (x := 0) hb (Nat.zero_le _) (fun q => absurd rfl q) hM).uF (by omega) (by omega)
theorem vOk.shut (h : vOk M a) {p b : Nat} (hb : b < vB a) (hp : p < vP a) (ho : a (27 + b) ≠ p) (hw : a (32 + b) ≠ 0) (hM : 100 ≤ M) : vOk M (vShut a p b) := (h.uH (x := p + 1) hb hp (fun _ => ⟨hw, by omega⟩) hM).uF (by omega) (by omega)
theorem vOk.add (h : vOk M a) {i j x : Nat} (hi : i < vP a) (hj : j < vP a) (hij : i ≠ j) (hM : 100 ≤ M) : vOk M (vAdd a i j x) := h.uD hi hj hij (Nat.min_le_left _ _) hM
theorem vOk.less (h : vOk M a) {i j x : Nat} (hi : i < vP a) (hj : j < vP a) (hij : i ≠ j) (hM : 100 ≤ M) : vOk M (vLess a i j x) := h.uD hi hj hij (by have := (h.2.2.1 i j (by have := h.1.1; omega) (by have := h.1.1; omega)).1; omega) hM
theorem vFeed_eq (a : pb_Vg) {b : Nat} (hb : b < 5) : vFeed a b = if 0 < a (3 + a (27 + b)) then pb_u (pb_u a (47 + b) (a (47 + b) + 1)) (3 + a (27 + b)) (a (3 + a (27 + b)) - 1)
  else if a (32 + b) - (if a (37 + b) = 2 then 2 else 1) = 0 then pb_u (vHome (pb_u a (47 + b) (a (47 + b) + 1)) b) (32 + b) 0
  else pb_u (pb_u a (47 + b) (a (47 + b) + 1)) (32 + b) (a (32 + b) - (if a (37 + b) = 2 then 2 else 1)) := by
  unfold vFeed
  generalize (if a (37 + b) = 2 then 2 else 1) = k
  split
  · rfl
  · split
    · unfold vHome
      rw [pb_u_comm _ (show 32 + b ≠ 42 + b by omega), pb_u_comm _ (show 32 + b ≠ 47 + b by omega)]
    · rfl
theorem vOk.feed (h : vOk M a) {b : Nat} (hb : b < vB a) (hM : 100 ≤ M) : vOk (M + 1) (vFeed a b) := by
  have hB := h.1.2
  have hP := h.1.1
  have h1 := h.2.1 b hb
  have d1 := h.2.2.2 (47 + b) (by omega)
  have d2 := h.2.2.2 (3 + a (27 + b)) (by omega)
  have d3 := h.2.2.2 (32 + b) (by omega)
  have h' : vOk (M + 1) (pb_u a (47 + b) (a (47 + b) + 1)) := (h.mono (Nat.le_succ M)).uF (by omega) (by omega)
  have hb' : b < vB (pb_u a (47 + b) (a (47 + b) + 1)) := by rw [show vB (pb_u a (47 + b) (a (47 + b) + 1)) = vB a from pb_u_ne (by omega)]; exact hb
  rw [vFeed_eq a (by omega)]
  generalize (if a (37 + b) = 2 then 2 else 1) = k
  split
  · exact h'.uF (by omega) (by omega)
  · split
    · have h2 := h'.home hb' (by omega)
      refine h2.uW (x := 0) (by rw [show vB (vHome (pb_u a (47 + b) (a (47 + b) + 1)) b) = vB (pb_u a (47 + b) (a (47 + b) + 1)) by unfold vHome vB; rw [pb_u_ne (by omega), pb_u_ne (by omega)]]; exact hb') (fun q => ?_) (by omega)
      unfold vHome at q
      rw [pb_u_ne (by omega), pb_u_eq] at q
      exact absurd rfl q
    · rename_i q1 q2
      exact h'.uW (x := a (32 + b) - k) hb' (fun _ => q2) (by omega)
theorem vFeed_lo {b j : Nat} (hb : b < 5) (ho : a (27 + b) < 4) (hj : j < 3 ∨ (7 ≤ j ∧ j < 32) ∨ (37 ≤ j ∧ j < 42)) : vFeed a b j = a j := by
  unfold vFeed vHome
  repeat' split
  all_goals simp (disch := omega) only [pb_u_ne]
theorem vFeed_oth {b b' : Nat} (hb : b < 5) (hb' : b' < 5) (hne : b' ≠ b) (ho : a (27 + b) < 4) : vFeed a b (42 + b') = a (42 + b') := by
  unfold vFeed vHome
  repeat' split
  all_goals simp (disch := omega) only [pb_u_ne]
theorem vOk.run (h : vOk M a) {b : Nat} (hb : b < vB a) (hh : a (42 + b) ≠ 0) (hM : 100 ≤ M) : vOk M (vRun a b) := by
  have h1 := h.2.1 b hb
  have hP := h.1.1
  have h2 := h1.2.2 hh
  refine (h.add (x := 3) h1.1 (by omega) (by omega) hM).home ?_ hM
  show b < (vAdd a (a (27 + b)) (a (42 + b) - 1) 3) 1
  unfold vAdd
  rw [pb_u_ne (by omega)]
  exact hb
theorem vKeep_eq (a : pb_Vg) {b : Nat} (hb : b < 5) : vKeep a b = pb_u (vHome (vLess a (a (27 + b)) (a (42 + b) - 1) (a (32 + b))) b) (27 + b) (a (42 + b) - 1) := by
  unfold vKeep vHome
  rw [pb_u_comm _ (show 27 + b ≠ 42 + b by omega), pb_u_comm _ (show 27 + b ≠ 47 + b by omega)]
theorem vOk.keep (h : vOk M a) {b : Nat} (hb : b < vB a) (hh : a (42 + b) ≠ 0) (hM : 100 ≤ M) : vOk M (vKeep a b) := by
  have h1 := h.2.1 b hb
  have hP := h.1.1
  have hB := h.1.2
  have h2 := h1.2.2 hh
  have hl := h.less (x := a (32 + b)) h1.1 (show a (42 + b) - 1 < vP a by omega) (by omega) hM
  have e1 : vB (vLess a (a (27 + b)) (a (42 + b) - 1) (a (32 + b))) = vB a := by unfold vLess vB; exact pb_u_ne (by omega)
  have e0 : vP (vLess a (a (27 + b)) (a (42 + b) - 1) (a (32 + b))) = vP a := by unfold vLess vP; exact pb_u_ne (by omega)
  have h3 := hl.home (b := b) (by rw [e1]; exact hb) hM
  rw [vKeep_eq a (by omega)]
  refine h3.uO ?_ ?_ ?_ hM
  · show b < (vHome _ b) 1
    unfold vHome
    rw [pb_u_ne (by omega), pb_u_ne (by omega)]
    have : vLess a (a (27 + b)) (a (42 + b) - 1) (a (32 + b)) 1 = vB a := e1
    omega
  · show _ < (vHome _ b) 0
    unfold vHome
    rw [pb_u_ne (by omega), pb_u_ne (by omega)]
    have : vLess a (a (27 + b)) (a (42 + b) - 1) (a (32 + b)) 0 = vP a := e0
    omega
  · unfold vHome
    rw [pb_u_ne (by omega), pb_u_eq]
end OK
