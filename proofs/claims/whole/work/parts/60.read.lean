/-! reading the text: what both mean by it, and the class -/
section READ
variable {K : Nat} {S : pb_S} {μ : pb_M} {z : pb_Vg} {M : Nat} {t : Nat → Nat} {L p : Nat}
def pl (z : pb_Vg) (i j : Nat) : Bool := (i != j) && (vDebt z i j == 0)
def plO (z : pb_Vg) (i : Nat) : Bool := (pb_fst (pl z i) (vP z) 0).isSome
def plA (z : pb_Vg) : Bool := (pb_fst (plO z) (vP z) 0).isSome
def bgn (z : pb_Vg) (c : Nat) : Bool := if c = 66 then decide (0 < vP z ∧ vB z < 5) else if c = 68 then plA z else if c = 80 then decide (vP z < 4) else false
def fok (z : pb_Vg) (c k f0 v : Nat) : Bool :=
  if c = 66 then (if k = 0 then decide (v < vP z) else if k = 1 then decide (1 ≤ v) else decide (v ≤ 3))
  else if c = 68 then (if k = 0 then decide (v < vP z) && plO z v else if k = 1 then decide (v < vP z) && pl z f0 v else decide (1 ≤ v))
  else true
def fgd (t : Nat → Nat) (z : pb_Vg) (p k : Nat) : Bool := decide (48 ≤ t (p + 1 + k) ∧ t (p + 1 + k) ≤ 57) && fok z (t p) k (t (p + 1) - 48) (t (p + 1 + k) - 48)
def fbad (t : Nat → Nat) (L : Nat) (z : pb_Vg) (p k : Nat) : Bool := decide (L ≤ p + 1 + k) || !(fgd t z p k)
def fw (c : Nat) : Nat := if c = 80 then 2 else 3
def flt (t : Nat → Nat) (L : Nat) (z : pb_Vg) (p : Nat) : Option Nat := if bgn z (t p) = true then (pb_fst (fbad t L z p) (fw (t p)) 0).map (p + 1 + ·) else some p
def vAP (z : pb_Vg) (h m : Nat) : pb_Vg := pb_u (pb_u (pb_u z (3 + vP z) h) (7 + vP z) m) 0 (vP z + 1)
def vAB (z : pb_Vg) (o w k : Nat) : pb_Vg := pb_u (pb_u (pb_u (pb_u (pb_u z (27 + vB z) o) (32 + vB z) w) (37 + vB z) k) (42 + vB z) 0) 1 (vB z + 1)
def tel (z : pb_Vg) (c f0 f1 f2 : Nat) : pb_Vg := if c = 66 then vAB z f0 f1 f2 else if c = 80 then vAP z f0 f1 else vAdd z f0 f1 f2
def telT (t : Nat → Nat) (z : pb_Vg) (p : Nat) : pb_Vg := tel z (t p) (t (p + 1) - 48) (t (p + 1 + 1) - 48) (t (p + 1 + 2) - 48)
def rdT (t : Nat → Nat) (L : Nat) : Nat → Nat → pb_Vg → Sum Nat pb_Vg
  | 0, _, z => .inr z
  | c + 1, p, z => if L ≤ p then .inr z else match flt t L z p with
    | some q => .inl q
    | none => rdT t L c (p + 1 + fw (t p)) (telT t z p)
def rsE : Sum Nat pb_Vg → Int32
  | .inl q => nI q
  | .inr _ => -9
def z0 : pb_Vg := fun j => if 42 ≤ j ∧ j < 47 then 1 else 0
def PI (z : pb_Vg) : Prop := vOk 100 z ∧ ∀ b, b < vB z → z (42 + b) = 0
theorem z0_PI : PI z0 := by
  refine ⟨⟨⟨?_, ?_⟩, fun b hb => ?_, fun i j hi hj => ?_, fun j hj => ?_⟩, fun b hb => ?_⟩
  · show (0 : Nat) ≤ 4; omega
  · show (0 : Nat) ≤ 5; omega
  · exact absurd (show b < 0 from hb) (Nat.not_lt_zero _)
  · have : vDebt z0 i j = 0 := by
      unfold vDebt z0
      rw [if_neg (by omega)]
    rw [this]
    exact ⟨by omega, fun _ => rfl⟩
  · unfold z0
    split <;> omega
  · exact absurd (show b < 0 from hb) (Nat.not_lt_zero _)
/-- figures that fit -/
theorem fgd_of {k : Nat} (h : fbad t L z p k = false) : p + 1 + k < L ∧ 48 ≤ t (p + 1 + k) ∧ t (p + 1 + k) ≤ 57 ∧ fok z (t p) k (t (p + 1) - 48) (t (p + 1 + k) - 48) = true := by
  unfold fbad fgd at h
  simp at h
  exact ⟨h.1, h.2.1.1, h.2.1.2, h.2.2⟩
theorem plO_lt {i : Nat} (h : plO z i = true) : ∃ j, j < vP z ∧ pl z i j = true := by
  unfold plO at h
  cases e : pb_fst (pl z i) (vP z) 0 with
  | none => rw [e] at h; cases h
  | some j =>
    obtain ⟨-, k2, k3, -⟩ := pb_fst_some e
    exact ⟨j, by omega, k3⟩
theorem flt_none (h : flt t L z p = none) : bgn z (t p) = true ∧ ∀ k, k < fw (t p) → p + 1 + k < L ∧ 48 ≤ t (p + 1 + k) ∧ t (p + 1 + k) ≤ 57 ∧ fok z (t p) k (t (p + 1) - 48) (t (p + 1 + k) - 48) = true := by
  unfold flt at h
  by_cases e : bgn z (t p) = true
  · rw [if_pos e] at h
    refine ⟨e, fun k hk => ?_⟩
    cases q : pb_fst (fbad t L z p) (fw (t p)) 0 with
    | some x => rw [q] at h; cases h
    | none => exact fgd_of (pb_fst_none q k (by omega) (by omega))
  · rw [if_neg e] at h
    cases h
theorem vAP_PI (hz : PI z) (hP : vP z < 4) {h m : Nat} (hh : h ≤ 9) (hm : m ≤ 9) : PI (vAP z h m) := by
  obtain ⟨⟨⟨a1, a2⟩, a3, a4, a5⟩, a6⟩ := hz
  have e0 : vP (vAP z h m) = vP z + 1 := by unfold vAP vP; rw [pb_u_eq]
  have e1 : vB (vAP z h m) = vB z := by unfold vAP vB; rw [pb_u_ne (by omega), pb_u_ne (by omega), pb_u_ne (by omega)]
  have eo : ∀ j, (1 ≤ j ∧ j < 3) ∨ 11 ≤ j → vAP z h m j = z j := fun j hj => by unfold vAP; rw [pb_u_ne (by omega), pb_u_ne (by omega), pb_u_ne (by omega)]
  refine ⟨⟨⟨by omega, by omega⟩, fun b hb => ?_, fun i j hi hj => ?_, fun j hj => ?_⟩, fun b hb => ?_⟩
  · rw [e1] at hb
    rw [eo _ (by omega), eo _ (by omega), eo _ (by omega), e0]
    have := a3 b hb
    exact ⟨by omega, by omega, this.2.2⟩
  · have ed : vDebt (vAP z h m) i j = vDebt z i j := eo _ (by omega)
    rw [ed, e0]
    exact ⟨(a4 i j hi hj).1, fun q => (a4 i j hi hj).2 (by omega)⟩
  · by_cases q : j = 0
    · subst q
      have : vAP z h m 0 = vP z + 1 := e0
      omega
    · by_cases q2 : j = 7 + vP z
      · subst q2
        unfold vAP
        rw [pb_u_ne (by omega), pb_u_eq]
        omega
      · by_cases q3 : j = 3 + vP z
        · subst q3
          unfold vAP
          rw [pb_u_ne (by omega), pb_u_ne (by omega), pb_u_eq]
          omega
        · unfold vAP
          rw [pb_u_ne q, pb_u_ne q2, pb_u_ne q3]
          exact a5 j hj
  · rw [e1] at hb
    rw [eo _ (by omega)]
    exact a6 b hb
theorem vAB_PI (hz : PI z) (hB : vB z < 5) {o w k : Nat} (ho : o < vP z) (hw : w ≤ 9) (hk : k ≤ 9) : PI (vAB z o w k) := by
  obtain ⟨⟨⟨a1, a2⟩, a3, a4, a5⟩, a6⟩ := hz
  have e1 : vB (vAB z o w k) = vB z + 1 := by unfold vAB vB; rw [pb_u_eq]
  have eo : ∀ j, j ≠ 1 → j ≠ 42 + vB z → j ≠ 37 + vB z → j ≠ 32 + vB z → j ≠ 27 + vB z → vAB z o w k j = z j := fun j h1 h2 h3 h4 h5 => by unfold vAB; rw [pb_u_ne h1, pb_u_ne h2, pb_u_ne h3, pb_u_ne h4, pb_u_ne h5]
  have e0 : vP (vAB z o w k) = vP z := eo 0 (by omega) (by omega) (by omega) (by omega) (by omega)
  have x42 : vAB z o w k (42 + vB z) = 0 := by unfold vAB; rw [pb_u_ne (by omega), pb_u_eq]
  have x27 : vAB z o w k (27 + vB z) = o := by unfold vAB; rw [pb_u_ne (by omega), pb_u_ne (by omega), pb_u_ne (by omega), pb_u_ne (by omega), pb_u_eq]
  have x32 : vAB z o w k (32 + vB z) = w := by unfold vAB; rw [pb_u_ne (by omega), pb_u_ne (by omega), pb_u_ne (by omega), pb_u_eq]
  have x37 : vAB z o w k (37 + vB z) = k := by unfold vAB; rw [pb_u_ne (by omega), pb_u_ne (by omega), pb_u_eq]
  refine ⟨⟨⟨by omega, by omega⟩, fun b hb => ?_, fun i j hi hj => ?_, fun j hj => ?_⟩, fun b hb => ?_⟩
  · rw [e1] at hb
    rw [e0]
    by_cases q : b = vB z
    · subst q
      rw [x27, x42]
      exact ⟨ho, by omega, fun q => absurd rfl q⟩
    · rw [eo _ (by omega) (by omega) (by omega) (by omega) (by omega), eo _ (by omega) (by omega) (by omega) (by omega) (by omega), eo _ (by omega) (by omega) (by omega) (by omega) (by omega)]
      exact a3 b (by omega)
  · have ed : vDebt (vAB z o w k) i j = vDebt z i j := eo _ (by omega) (by omega) (by omega) (by omega) (by omega)
    rw [ed, e0]
    exact a4 i j hi hj
  · by_cases q1 : j = 1
    · subst q1
      have : vAB z o w k 1 = vB z + 1 := e1
      omega
    · by_cases q2 : j = 42 + vB z
      · rw [q2, x42]; omega
      · by_cases q3 : j = 37 + vB z
        · rw [q3, x37]; omega
        · by_cases q4 : j = 32 + vB z
          · rw [q4, x32]; omega
          · by_cases q5 : j = 27 + vB z
            · rw [q5, x27]; omega
            · rw [eo j q1 q2 q3 q4 q5]
              exact a5 j hj
  · rw [e1] at hb
    by_cases q : b = vB z
    · rw [q]; exact x42
    · rw [eo _ (by omega) (by omega) (by omega) (by omega) (by omega)]
      exact a6 b (by omega)
theorem vAD_PI (hz : PI z) {i j v : Nat} (hi : i < vP z) (hj : j < vP z) (hij : i ≠ j) : PI (vAdd z i j v) := by
  have hP := hz.1.1.1
  have hB := hz.1.1.2
  have h1 := hz.1.add (x := v) hi hj hij (by omega)
  refine ⟨h1, fun b hb => ?_⟩
  have e1 : vB (vAdd z i j v) = vB z := by unfold vAdd vB; rw [pb_u_ne (by omega)]
  rw [e1] at hb
  unfold vAdd
  rw [pb_u_ne (by omega)]
  exact hz.2 b hb
theorem telT_PI (hz : PI z) (h : flt t L z p = none) : PI (telT t z p) := by
  obtain ⟨h1, h2⟩ := flt_none h
  have hP := hz.1.1.1
  have hB := hz.1.1.2
  unfold telT tel
  unfold bgn at h1
  by_cases e1 : t p = 66
  · have f0 := h2 0 (by unfold fw; split <;> omega)
    have f1 := h2 1 (by unfold fw; split <;> omega)
    have f2 := h2 2 (by unfold fw; rw [if_neg (by omega)]; omega)
    rw [if_pos e1] at h1 ⊢
    unfold fok at f0 f1 f2
    rw [if_pos e1] at f0 f1 f2
    simp at h1 f0 f1 f2
    exact vAB_PI hz h1.2 (by omega) (by omega) (by omega)
  · rw [if_neg e1] at h1 ⊢
    by_cases e2 : t p = 80
    · have f0 := h2 0 (by unfold fw; split <;> omega)
      have f1 := h2 1 (by unfold fw; split <;> omega)
      rw [if_neg (by omega), if_pos e2] at h1
      rw [if_pos e2]
      simp only [decide_eq_true_eq] at h1
      exact vAP_PI hz h1 (by have := f0.2.2.1; rw [Nat.add_zero] at this; omega) (by omega)
    · rw [if_neg e2]
      by_cases e3 : t p = 68
      · have f0 := h2 0 (by unfold fw; split <;> omega)
        have f1 := h2 1 (by unfold fw; split <;> omega)
        unfold fok at f0 f1
        rw [if_neg e1, if_pos e3] at f0 f1
        rw [if_pos rfl] at f0
        rw [if_neg (by omega), if_pos rfl] at f1
        have g0 := f0.2.2.2
        have g1 := f1.2.2.2
        rw [Bool.and_eq_true, decide_eq_true_eq] at g0 g1
        have g2 := g1.2
        unfold pl at g2
        rw [Bool.and_eq_true] at g2
        exact vAD_PI hz g0.1 g1.1 (by simpa using g2.1)
      · rw [if_neg e3, if_neg e2] at h1
        cases h1
theorem rdT_PI : ∀ (c p : Nat) (z z' : pb_Vg), PI z → rdT t L c p z = .inr z' → PI z'
  | 0, p, z, z', hz, h => by
    unfold rdT at h
    cases h
    exact hz
  | c + 1, p, z, z', hz, h => by
    unfold rdT at h
    by_cases e : L ≤ p
    · rw [if_pos e] at h
      cases h
      exact hz
    · rw [if_neg e] at h
      cases q : flt t L z p with
      | some x => rw [q] at h; cases h
      | none =>
        rw [q] at h
        exact rdT_PI c _ _ z' (telT_PI hz q) h
theorem rdT_le {q : Nat} (hL : L ≤ 56) : ∀ (c p : Nat) (z : pb_Vg), p ≤ 60 → rdT t L c p z = .inl q → q ≤ 60
  | 0, p, z, _, h => by
    unfold rdT at h
    cases h
  | c + 1, p, z, hp, h => by
    unfold rdT at h
    by_cases e : L ≤ p
    · rw [if_pos e] at h
      cases h
    · rw [if_neg e] at h
      have hw : fw (t p) ≤ 3 := by unfold fw; split <;> omega
      cases r : flt t L z p with
      | some x =>
        rw [r] at h
        cases h
        unfold flt at r
        by_cases e2 : bgn z (t p) = true
        · rw [if_pos e2] at r
          cases s : pb_fst (fbad t L z p) (fw (t p)) 0 with
          | none => rw [s] at r; cases r
          | some y =>
            obtain ⟨-, k2, -, -⟩ := pb_fst_some s
            rw [s] at r
            have : p + 1 + y = q := by simpa using r
            omega
        · rw [if_neg e2] at r
          cases r
          omega
      | none =>
        rw [r] at h
        exact rdT_le hL c _ _ (by omega) h
end READ
