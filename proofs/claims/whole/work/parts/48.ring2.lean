section RING2
variable {a : pb_Vg} {M p : Nat}
def rgF (a : pb_Vg) (p k : Nat) : Nat := pb_it (fun i v => v * 10 + rgM a p k i + 1) k 0 0
def rgD (a : pb_Vg) (p k : Nat) : Nat := pb_it (fun i v => min v (vDebt a (rgM a p k i) (if i + 1 < k then rgM a p k (i + 1) else rgM a p k 0))) k 0 99
theorem rq2 {x : Nat} (hp : p < 4) (h : rgI 2 p x) (q : (rgQ a p 2 x).isSome = true) : ∃ d, rgG 2 x 1 = d + 1 ∧ d < vP a ∧ rE a p d = true ∧ rE a d p = true := by
  obtain ⟨g0, -, -⟩ := rgG2 hp h
  have h0 := rgS_of q 0 (by omega) (by omega)
  have h1 := rgS_of q 1 (by omega) (by omega)
  have n0 : rgN p 2 (rgG 2 x) 0 = rgG 2 x 1 := by unfold rgN; rw [if_neg (by decide)]
  have n1 : rgN p 2 (rgG 2 x) 1 = p + 1 := by unfold rgN; rw [if_pos rfl]
  rw [n0, g0] at h0
  rw [n1] at h1
  refine ⟨rgG 2 x 1 - 1, by omega, by omega, ?_, ?_⟩
  · exact h0.2.2.2.2
  · exact h1.2.2.2.2
theorem rq3 {x : Nat} (hp : p < 4) (h : rgI 3 p x) (q : (rgQ a p 3 x).isSome = true) : ∃ d e, (rgG 3 x 1 = d + 1 ∧ rgG 3 x 2 = e + 1) ∧ (d < vP a ∧ e < vP a) ∧ rE a p d = true ∧ rE a d e = true ∧ rE a e p = true := by
  obtain ⟨g0, -, -⟩ := rgG3 hp h
  have h0 := rgS_of q 0 (by omega) (by omega)
  have h1 := rgS_of q 1 (by omega) (by omega)
  have h2 := rgS_of q 2 (by omega) (by omega)
  have n0 : rgN p 3 (rgG 3 x) 0 = rgG 3 x 1 := by unfold rgN; rw [if_neg (by decide)]
  have n1 : rgN p 3 (rgG 3 x) 1 = rgG 3 x 2 := by unfold rgN; rw [if_neg (by decide)]
  have n2 : rgN p 3 (rgG 3 x) 2 = p + 1 := by unfold rgN; rw [if_pos rfl]
  rw [n0, g0] at h0
  rw [n1] at h1
  rw [n2] at h2
  exact ⟨rgG 3 x 1 - 1, rgG 3 x 2 - 1, ⟨by omega, by omega⟩, ⟨by omega, by omega⟩, h0.2.2.2.2, h1.2.2.2.2, h2.2.2.2.2⟩
theorem rq4 {x : Nat} (hp : p < 4) (h : rgI 4 p x) (q : (rgQ a p 4 x).isSome = true) : ∃ d e f, (rgG 4 x 1 = d + 1 ∧ rgG 4 x 2 = e + 1 ∧ rgG 4 x 3 = f + 1) ∧ (d < vP a ∧ e < vP a ∧ f < vP a) ∧ rE a p d = true ∧ rE a d e = true ∧ rE a e f = true ∧ rE a f p = true := by
  obtain ⟨g0, -, -⟩ := rgG4 hp h
  have h0 := rgS_of q 0 (by omega) (by omega)
  have h1 := rgS_of q 1 (by omega) (by omega)
  have h2 := rgS_of q 2 (by omega) (by omega)
  have h3 := rgS_of q 3 (by omega) (by omega)
  have n0 : rgN p 4 (rgG 4 x) 0 = rgG 4 x 1 := by unfold rgN; rw [if_neg (by decide)]
  have n1 : rgN p 4 (rgG 4 x) 1 = rgG 4 x 2 := by unfold rgN; rw [if_neg (by decide)]
  have n2 : rgN p 4 (rgG 4 x) 2 = rgG 4 x 3 := by unfold rgN; rw [if_neg (by decide)]
  have n3 : rgN p 4 (rgG 4 x) 3 = p + 1 := by unfold rgN; rw [if_pos rfl]
  rw [n0, g0] at h0
  rw [n1] at h1
  rw [n2] at h2
  rw [n3] at h3
  exact ⟨rgG 4 x 1 - 1, rgG 4 x 2 - 1, rgG 4 x 3 - 1, ⟨by omega, by omega, by omega⟩, ⟨by omega, by omega, by omega⟩, h0.2.2.2.2, h1.2.2.2.2, h2.2.2.2.2, h3.2.2.2.2⟩
theorem rW1 (hz : vOk M a) (hp : p < 4) : ¬ (rgL a p 1).testBit p = true := fun h => (rE_of hz hp hp (W1 p h)).2.2 rfl
theorem rW2 (hz : vOk M a) (hp : p < 4) {d : Nat} (hd : d < 4) (h1 : rE a p d = true) (h2 : rE a d p = true) : (rgL a p 2).testBit p = true := Ws hz hp hd (W1' hz hp hd h2) h1
theorem rW3 (hz : vOk M a) (hp : p < 4) {d e : Nat} (hd : d < 4) (he : e < 4) (h1 : rE a p d = true) (h2 : rE a d e = true) (h3 : rE a e p = true) : (rgL a p 3).testBit p = true := Ws hz hp hd (Ws hz hd he (W1' hz hp he h3) h2) h1
theorem rW4 (hz : vOk M a) (hp : p < 4) {d e f : Nat} (hd : d < 4) (he : e < 4) (hf : f < 4) (h1 : rE a p d = true) (h2 : rE a d e = true) (h3 : rE a e f = true) (h4 : rE a f p = true) : (rgL a p 4).testBit p = true := Ws hz hp hd (Ws hz hd he (Ws hz he hf (W1' hz hp hf h4) h3) h2) h1
theorem rg_miss (hz : vOk M a) (hp : p < 4) {n : Nat} (hn : n = 2 ∨ n = 3 ∨ n = 4) (hw : ¬ (rgL a p n).testBit p = true) {x : Nat} (hx : rgI n p x) : (rgQ a p n x).isSome = false := by
  have hP := hz.1.1
  cases q : (rgQ a p n x).isSome with
  | false => rfl
  | true =>
    exfalso
    rcases hn with rfl | rfl | rfl
    · obtain ⟨d, -, h1, h2, h3⟩ := rq2 hp hx q
      exact hw (rW2 hz hp (by omega) h2 h3)
    · obtain ⟨d, e, -, ⟨h1, h2⟩, h3, h4, h5⟩ := rq3 hp hx q
      exact hw (rW3 hz hp (by omega) (by omega) h3 h4 h5)
    · obtain ⟨d, e, f, -, ⟨h1, h2, h3⟩, h4, h5, h6, h7⟩ := rq4 hp hx q
      exact hw (rW4 hz hp (by omega) (by omega) (by omega) h4 h5 h6 h7)
theorem dle (hz : vOk M a) {i j : Nat} (hi : i < 4) (hj : j < 4) : vDebt a i j ≤ 99 := (hz.2.2.1 i j hi hj).1
theorem rg_hit2 (hz : vOk M a) (hp : p < vP a) (h : (rgL a p 2).testBit p = true) : rgI 2 p (rgF a p 2) ∧ rgQ a p 2 (rgF a p 2) = some (rgD a p 2) ∧ ∀ y, rgI 2 p y → y < rgF a p 2 → (rgQ a p 2 y).isSome = false := by
  have hP := hz.1.1
  have m1 := rgM_lt hP hp 2 1
  have e0 : rE a p (rgM a p 2 1) = true := rgM_E hP h (i := 0) (by omega)
  have e1 : rE a (rgM a p 2 1) p = true := rgM_end hP (by omega) h
  have ef : rgF a p 2 = 10 * (p + 1) + (rgM a p 2 1 + 1) := by
    show ((0 * 10 + p + 1) * 10 + rgM a p 2 1 + 1) = _
    omega
  have hI : rgI 2 p (rgF a p 2) := by
    unfold rgI
    rw [ef]
    simp only [show (2 - 1 : Nat) = 1 from rfl, Nat.pow_one]
    omega
  obtain ⟨g0, gx, g1⟩ := rgG2 (by omega) hI
  have x1 : rgG 2 (rgF a p 2) 1 = rgM a p 2 1 + 1 := by omega
  have n0 : rgN p 2 (rgG 2 (rgF a p 2)) 0 = rgM a p 2 1 + 1 := by unfold rgN; rw [if_neg (by decide)]; exact x1
  have n1 : rgN p 2 (rgG 2 (rgF a p 2)) 1 = p + 1 := by unfold rgN; rw [if_pos rfl]
  have hne := (rE_of hz (by omega) (by omega) e1).2.2
  refine ⟨hI, ?_, fun y hy hlt => ?_⟩
  · unfold rgQ
    rw [rgS_to (fun i r1 r2 => ?_) (fun i r1 r2 => by simp) (fun i j r1 r2 r3 => ?_)]
    · show some (min (min 100 (vDebt a (rgG 2 (rgF a p 2) 0 - 1) (rgN p 2 (rgG 2 (rgF a p 2)) 0 - 1))) (vDebt a (rgG 2 (rgF a p 2) 1 - 1) (rgN p 2 (rgG 2 (rgF a p 2)) 1 - 1))) = some (min (min 99 (vDebt a p (rgM a p 2 1))) (vDebt a (rgM a p 2 1) p))
      rw [n0, n1, g0, x1, Nat.add_sub_cancel, Nat.add_sub_cancel]
      have := dle hz (show p < 4 by omega) (show rgM a p 2 1 < 4 by omega)
      exact congrArg some (by omega)
    · rcases (show i = 0 ∨ i = 1 by omega) with rfl | rfl
      · rw [n0, g0, Nat.add_sub_cancel, Nat.add_sub_cancel]
        exact ⟨by omega, by omega, by omega, by omega, e0⟩
      · rw [n1, x1, Nat.add_sub_cancel, Nat.add_sub_cancel]
        exact ⟨by omega, by omega, by omega, by omega, e1⟩
    · have : i = 0 ∧ j = 1 := by omega
      rw [this.1, this.2, g0, x1]
      omega
  · cases q : (rgQ a p 2 y).isSome with
    | false => rfl
    | true =>
      exfalso
      obtain ⟨d, c1, c2, c3, c4⟩ := rq2 (by omega) hy q
      obtain ⟨-, gy, -⟩ := rgG2 (by omega) hy
      have := rgM_le hP h (i := 0) (by omega) c2 (W1' hz (by omega) (by omega) c4) c3
      rw [Nat.zero_add] at this
      omega
theorem rg_hit3 (hz : vOk M a) (hp : p < vP a) (h : (rgL a p 3).testBit p = true) : rgI 3 p (rgF a p 3) ∧ rgQ a p 3 (rgF a p 3) = some (rgD a p 3) ∧ ∀ y, rgI 3 p y → y < rgF a p 3 → (rgQ a p 3 y).isSome = false := by
  have hP := hz.1.1
  have m1 := rgM_lt hP hp 3 1
  have m2 := rgM_lt hP hp 3 2
  have e0 : rE a p (rgM a p 3 1) = true := rgM_E hP h (i := 0) (by omega)
  have e1 : rE a (rgM a p 3 1) (rgM a p 3 2) = true := rgM_E hP h (i := 1) (by omega)
  have e2 : rE a (rgM a p 3 2) p = true := rgM_end hP (by omega) h
  have ef : rgF a p 3 = 100 * (p + 1) + 10 * (rgM a p 3 1 + 1) + (rgM a p 3 2 + 1) := by
    show (((0 * 10 + p + 1) * 10 + rgM a p 3 1 + 1) * 10 + rgM a p 3 2 + 1) = _
    omega
  have hI : rgI 3 p (rgF a p 3) := by
    unfold rgI
    rw [ef]
    simp only [show (3 - 1 : Nat) = 2 from rfl, show (10 : Nat) ^ 2 = 100 from rfl]
    omega
  obtain ⟨g0, gx, g1, g2⟩ := rgG3 (by omega) hI
  have x1 : rgG 3 (rgF a p 3) 1 = rgM a p 3 1 + 1 := by omega
  have x2 : rgG 3 (rgF a p 3) 2 = rgM a p 3 2 + 1 := by omega
  have n0 : rgN p 3 (rgG 3 (rgF a p 3)) 0 = rgM a p 3 1 + 1 := by unfold rgN; rw [if_neg (by decide)]; exact x1
  have n1 : rgN p 3 (rgG 3 (rgF a p 3)) 1 = rgM a p 3 2 + 1 := by unfold rgN; rw [if_neg (by decide)]; exact x2
  have n2 : rgN p 3 (rgG 3 (rgF a p 3)) 2 = p + 1 := by unfold rgN; rw [if_pos rfl]
  have d0 := (rE_of hz (by omega) (by omega) e0).2.2
  have d1 := (rE_of hz (by omega) (by omega) e1).2.2
  have d2 := (rE_of hz (by omega) (by omega) e2).2.2
  refine ⟨hI, ?_, fun y hy hlt => ?_⟩
  · unfold rgQ
    rw [rgS_to (fun i r1 r2 => ?_) (fun i r1 r2 => by simp) (fun i j r1 r2 r3 => ?_)]
    · show some (min (min (min 100 (vDebt a (rgG 3 (rgF a p 3) 0 - 1) (rgN p 3 (rgG 3 (rgF a p 3)) 0 - 1))) (vDebt a (rgG 3 (rgF a p 3) 1 - 1) (rgN p 3 (rgG 3 (rgF a p 3)) 1 - 1))) (vDebt a (rgG 3 (rgF a p 3) 2 - 1) (rgN p 3 (rgG 3 (rgF a p 3)) 2 - 1))) = some (min (min (min 99 (vDebt a p (rgM a p 3 1))) (vDebt a (rgM a p 3 1) (rgM a p 3 2))) (vDebt a (rgM a p 3 2) p))
      rw [n0, n1, n2, g0, x1, x2, Nat.add_sub_cancel, Nat.add_sub_cancel, Nat.add_sub_cancel]
      have := dle hz (show p < 4 by omega) (show rgM a p 3 1 < 4 by omega)
      exact congrArg some (by omega)
    · rcases (show i = 0 ∨ i = 1 ∨ i = 2 by omega) with rfl | rfl | rfl
      · rw [n0, g0, Nat.add_sub_cancel, Nat.add_sub_cancel]
        exact ⟨by omega, by omega, by omega, by omega, e0⟩
      · rw [n1, x1, Nat.add_sub_cancel, Nat.add_sub_cancel]
        exact ⟨by omega, by omega, by omega, by omega, e1⟩
      · rw [n2, x2, Nat.add_sub_cancel, Nat.add_sub_cancel]
        exact ⟨by omega, by omega, by omega, by omega, e2⟩
    · rcases (show (i = 0 ∧ j = 1) ∨ (i = 0 ∧ j = 2) ∨ (i = 1 ∧ j = 2) by omega) with ⟨rfl, rfl⟩ | ⟨rfl, rfl⟩ | ⟨rfl, rfl⟩
      · rw [g0, x1]; omega
      · rw [g0, x2]; omega
      · rw [x1, x2]; omega
  · cases q : (rgQ a p 3 y).isSome with
    | false => rfl
    | true =>
      exfalso
      obtain ⟨d, e, ⟨c1, c2⟩, ⟨c3, c4⟩, c5, c6, c7⟩ := rq3 (by omega) hy q
      obtain ⟨-, gy, -, -⟩ := rgG3 (by omega) hy
      have w1 := W1' hz (show p < 4 by omega) (show e < 4 by omega) c7
      have k1 : rgM a p 3 1 ≤ d := rgM_le hP h (i := 0) (by omega) c3 (Ws hz (by omega) (by omega) w1 c6) c5
      have k2 : d = rgM a p 3 1 → rgM a p 3 2 ≤ e := fun z => rgM_le hP h (i := 1) (by omega) c4 w1 (by rw [show rgM a p 3 1 = d from z.symm]; exact c6)
      by_cases z : d = rgM a p 3 1
      · have := k2 z
        omega
      · omega
theorem rg_hit4 (hz : vOk M a) (hp : p < vP a) (h : (rgL a p 4).testBit p = true) (hno : ¬ (rgL a p 2).testBit p = true) : rgI 4 p (rgF a p 4) ∧ rgQ a p 4 (rgF a p 4) = some (rgD a p 4) ∧ ∀ y, rgI 4 p y → y < rgF a p 4 → (rgQ a p 4 y).isSome = false := by
  have hP := hz.1.1
  have m1 := rgM_lt hP hp 4 1
  have m2 := rgM_lt hP hp 4 2
  have m3 := rgM_lt hP hp 4 3
  have e0 : rE a p (rgM a p 4 1) = true := rgM_E hP h (i := 0) (by omega)
  have e1 : rE a (rgM a p 4 1) (rgM a p 4 2) = true := rgM_E hP h (i := 1) (by omega)
  have e2 : rE a (rgM a p 4 2) (rgM a p 4 3) = true := rgM_E hP h (i := 2) (by omega)
  have e3 : rE a (rgM a p 4 3) p = true := rgM_end hP (by omega) h
  have ef : rgF a p 4 = 1000 * (p + 1) + 100 * (rgM a p 4 1 + 1) + 10 * (rgM a p 4 2 + 1) + (rgM a p 4 3 + 1) := by
    show ((((0 * 10 + p + 1) * 10 + rgM a p 4 1 + 1) * 10 + rgM a p 4 2 + 1) * 10 + rgM a p 4 3 + 1) = _
    omega
  have hI : rgI 4 p (rgF a p 4) := by
    unfold rgI
    rw [ef]
    simp only [show (4 - 1 : Nat) = 3 from rfl, show (10 : Nat) ^ 3 = 1000 from rfl]
    omega
  obtain ⟨g0, gx, g1, g2, g3⟩ := rgG4 (by omega) hI
  have x1 : rgG 4 (rgF a p 4) 1 = rgM a p 4 1 + 1 := by omega
  have x2 : rgG 4 (rgF a p 4) 2 = rgM a p 4 2 + 1 := by omega
  have x3 : rgG 4 (rgF a p 4) 3 = rgM a p 4 3 + 1 := by omega
  have n0 : rgN p 4 (rgG 4 (rgF a p 4)) 0 = rgM a p 4 1 + 1 := by unfold rgN; rw [if_neg (by decide)]; exact x1
  have n1 : rgN p 4 (rgG 4 (rgF a p 4)) 1 = rgM a p 4 2 + 1 := by unfold rgN; rw [if_neg (by decide)]; exact x2
  have n2 : rgN p 4 (rgG 4 (rgF a p 4)) 2 = rgM a p 4 3 + 1 := by unfold rgN; rw [if_neg (by decide)]; exact x3
  have n3 : rgN p 4 (rgG 4 (rgF a p 4)) 3 = p + 1 := by unfold rgN; rw [if_pos rfl]
  have d0 := (rE_of hz (by omega) (by omega) e0).2.2
  have d1 := (rE_of hz (by omega) (by omega) e1).2.2
  have d2 := (rE_of hz (by omega) (by omega) e2).2.2
  have d3 := (rE_of hz (by omega) (by omega) e3).2.2
  have d4 : rgM a p 4 2 ≠ p := fun z => hno (rW2 hz (by omega) (show rgM a p 4 1 < 4 by omega) e0 (by rw [z] at e1; exact e1))
  have d5 : rgM a p 4 1 ≠ rgM a p 4 3 := fun z => hno (rW2 hz (by omega) (show rgM a p 4 1 < 4 by omega) e0 (by rw [z]; exact e3))
  refine ⟨hI, ?_, fun y hy hlt => ?_⟩
  · unfold rgQ
    rw [rgS_to (fun i r1 r2 => ?_) (fun i r1 r2 => by simp) (fun i j r1 r2 r3 => ?_)]
    · show some (min (min (min (min 100 (vDebt a (rgG 4 (rgF a p 4) 0 - 1) (rgN p 4 (rgG 4 (rgF a p 4)) 0 - 1))) (vDebt a (rgG 4 (rgF a p 4) 1 - 1) (rgN p 4 (rgG 4 (rgF a p 4)) 1 - 1))) (vDebt a (rgG 4 (rgF a p 4) 2 - 1) (rgN p 4 (rgG 4 (rgF a p 4)) 2 - 1))) (vDebt a (rgG 4 (rgF a p 4) 3 - 1) (rgN p 4 (rgG 4 (rgF a p 4)) 3 - 1))) = some (min (min (min (min 99 (vDebt a p (rgM a p 4 1))) (vDebt a (rgM a p 4 1) (rgM a p 4 2))) (vDebt a (rgM a p 4 2) (rgM a p 4 3))) (vDebt a (rgM a p 4 3) p))
      rw [n0, n1, n2, n3, g0, x1, x2, x3, Nat.add_sub_cancel, Nat.add_sub_cancel, Nat.add_sub_cancel, Nat.add_sub_cancel]
      have := dle hz (show p < 4 by omega) (show rgM a p 4 1 < 4 by omega)
      exact congrArg some (by omega)
    · rcases (show i = 0 ∨ i = 1 ∨ i = 2 ∨ i = 3 by omega) with rfl | rfl | rfl | rfl
      · rw [n0, g0, Nat.add_sub_cancel, Nat.add_sub_cancel]
        exact ⟨by omega, by omega, by omega, by omega, e0⟩
      · rw [n1, x1, Nat.add_sub_cancel, Nat.add_sub_cancel]
        exact ⟨by omega, by omega, by omega, by omega, e1⟩
      · rw [n2, x2, Nat.add_sub_cancel, Nat.add_sub_cancel]
        exact ⟨by omega, by omega, by omega, by omega, e2⟩
      · rw [n3, x3, Nat.add_sub_cancel, Nat.add_sub_cancel]
        exact ⟨by omega, by omega, by omega, by omega, e3⟩
    · rcases (show (i = 0 ∧ j = 1) ∨ (i = 0 ∧ j = 2) ∨ (i = 1 ∧ j = 2) ∨ (i = 0 ∧ j = 3) ∨ (i = 1 ∧ j = 3) ∨ (i = 2 ∧ j = 3) by omega) with ⟨rfl, rfl⟩ | ⟨rfl, rfl⟩ | ⟨rfl, rfl⟩ | ⟨rfl, rfl⟩ | ⟨rfl, rfl⟩ | ⟨rfl, rfl⟩
      · rw [g0, x1]; omega
      · rw [g0, x2]; omega
      · rw [x1, x2]; omega
      · rw [g0, x3]; omega
      · rw [x1, x3]; omega
      · rw [x2, x3]; omega
  · cases q : (rgQ a p 4 y).isSome with
    | false => rfl
    | true =>
      exfalso
      obtain ⟨d, e, f, ⟨c1, c2, c3⟩, ⟨c4, c5, c6⟩, c7, c8, c9, c10⟩ := rq4 (by omega) hy q
      obtain ⟨-, gy, -, -, -⟩ := rgG4 (by omega) hy
      have w1 := W1' hz (show p < 4 by omega) (show f < 4 by omega) c10
      have w2 := Ws hz (show e < 4 by omega) (by omega) w1 c9
      have k1 : rgM a p 4 1 ≤ d := rgM_le hP h (i := 0) (by omega) c4 (Ws hz (by omega) (by omega) w2 c8) c7
      have k2 : d = rgM a p 4 1 → rgM a p 4 2 ≤ e := fun z => rgM_le hP h (i := 1) (by omega) c5 w2 (by rw [show rgM a p 4 1 = d from z.symm]; exact c8)
      have k3 : e = rgM a p 4 2 → rgM a p 4 3 ≤ f := fun z => rgM_le hP h (i := 2) (by omega) c6 w1 (by rw [show rgM a p 4 2 = e from z.symm]; exact c9)
      by_cases z : d = rgM a p 4 1
      · have := k2 z
        by_cases z2 : e = rgM a p 4 2
        · have := k3 z2
          omega
        · omega
      · omega
/-- a ring of at most four is found within as many steps as there are people -/
theorem rg_P (hz : vOk M a) (hp : p < vP a) {n : Nat} (hn : n = 2 ∨ n = 3 ∨ n = 4) (h : (rgL a p n).testBit p = true) : ∃ k, 2 ≤ k ∧ k ≤ vP a ∧ k ≤ n ∧ (rgL a p k).testBit p = true := by
  have hP := hz.1.1
  have key2 : (rgL a p 2).testBit p = true → 2 ≤ vP a := fun h => by
    have e0 : rE a p (rgM a p 2 1) = true := rgM_E hP h (i := 0) (by omega)
    have := rE_of hz (show p < 4 by omega) (by have := rgM_lt hP hp 2 1; omega) e0
    omega
  rcases hn with rfl | rfl | rfl
  · exact ⟨2, by omega, key2 h, by omega, h⟩
  · refine ⟨3, by omega, ?_, by omega, h⟩
    have m1 := rgM_lt hP hp 3 1
    have m2 := rgM_lt hP hp 3 2
    have e0 : rE a p (rgM a p 3 1) = true := rgM_E hP h (i := 0) (by omega)
    have e1 : rE a (rgM a p 3 1) (rgM a p 3 2) = true := rgM_E hP h (i := 1) (by omega)
    have e2 : rE a (rgM a p 3 2) p = true := rgM_end hP (by omega) h
    have d0 := (rE_of hz (by omega) (by omega) e0).2.2
    have d1 := (rE_of hz (by omega) (by omega) e1).2.2
    have d2 := (rE_of hz (by omega) (by omega) e2).2.2
    omega
  · by_cases h2 : (rgL a p 2).testBit p = true
    · exact ⟨2, by omega, key2 h2, by omega, h2⟩
    · refine ⟨4, by omega, ?_, by omega, h⟩
      have m1 := rgM_lt hP hp 4 1
      have m2 := rgM_lt hP hp 4 2
      have m3 := rgM_lt hP hp 4 3
      have e0 : rE a p (rgM a p 4 1) = true := rgM_E hP h (i := 0) (by omega)
      have e1 : rE a (rgM a p 4 1) (rgM a p 4 2) = true := rgM_E hP h (i := 1) (by omega)
      have e2 : rE a (rgM a p 4 2) (rgM a p 4 3) = true := rgM_E hP h (i := 2) (by omega)
      have e3 : rE a (rgM a p 4 3) p = true := rgM_end hP (by omega) h
      have d0 := (rE_of hz (by omega) (by omega) e0).2.2
      have d1 := (rE_of hz (by omega) (by omega) e1).2.2
      have d2 := (rE_of hz (by omega) (by omega) e2).2.2
      have d3 := (rE_of hz (by omega) (by omega) e3).2.2
      have d4 : rgM a p 4 2 ≠ p := fun z => h2 (rW2 hz (by omega) (show rgM a p 4 1 < 4 by omega) e0 (by rw [z] at e1; exact e1))
      have d5 : rgM a p 4 1 ≠ rgM a p 4 3 := fun z => h2 (rW2 hz (by omega) (show rgM a p 4 1 < 4 by omega) e0 (by rw [z]; exact e3))
      omega
end RING2
