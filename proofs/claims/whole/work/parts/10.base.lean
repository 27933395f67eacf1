/-! THE PURE SIDE. A village is a : pb_Vg, numbers by place (the class's places; a holder is told as 0: none, else the person and 1) -/
abbrev pb_Vg : Type := Nat → Nat
def pb_u (a : pb_Vg) (k x : Nat) : pb_Vg := fun j => if j = k then x else a j
def pb_e (j x : Nat) : Int32 := if 42 ≤ j ∧ j < 47 then (if x = 0 then -9 else nI (x - 1)) else nI x
def pb_pi (j : Nat) : Nat := if j < 8 then j + 3 else if j < 18 then j + 19 else if j < 28 then j + 24 else if j < 44 then j - 17 else 2
/-- a row that holds the village from place o on: the class's 52 cells, the reference's 45 -/
def pb_CR (f : Nat → Int32) (o : Nat) (a : pb_Vg) : Prop := ∀ j, j < 52 → f (o + j) = pb_e j (a j)
def pb_MR (r : Nat → Int32) (o : Nat) (a : pb_Vg) : Prop := ∀ j, j < 45 → r (o + j) = pb_e (pb_pi j) (a (pb_pi j))
theorem pb_u_eq (a : pb_Vg) (k x : Nat) : pb_u a k x k = x := by simp [pb_u]
theorem pb_u_ne {a : pb_Vg} {k x j : Nat} (h : j ≠ k) : pb_u a k x j = a j := by simp [pb_u, h]
theorem pb_e_lo {j x : Nat} (h : j < 42 ∨ 47 ≤ j) : pb_e j x = nI x := by
  unfold pb_e
  rw [if_neg (by omega)]
theorem pb_e_0 {j : Nat} (h : 42 ≤ j ∧ j < 47) : pb_e j 0 = -9 := by
  unfold pb_e
  rw [if_pos h, if_pos rfl]
theorem pb_e_s {j x : Nat} (h : 42 ≤ j ∧ j < 47) : pb_e j (x + 1) = nI x := by
  unfold pb_e
  rw [if_pos h, if_neg (by omega)]
  rfl
theorem pb_in_nI {j n : Nat} (hj : j < 2 ^ 31) : pb_in (nI j) n = decide (j < n) := by
  unfold pb_in
  rw [nI_clamp hj, decide_eq_true (nI_pos' hj), Bool.true_and]
theorem pb_if {α : Type} {i : Int32} {n j : Nat} {x y : Option α} (hi : i = nI j) (hj : j < n) (hn : n < 2 ^ 31) : (if pb_in i n = true then x else y) = x := by
  rw [hi, pb_in_nI (by omega), if_pos (by simpa using hj)]
theorem pb_cl {i : Int32} {j : Nat} (hi : i = nI j) (hj : j < 2 ^ 31) : i.toNatClampNeg = j := by rw [hi]; exact nI_clamp hj
theorem nI_ne9 {n : Nat} (h : n < 2 ^ 31) : nI n ≠ -9 := by
  intro e
  have := congrArg Int32.toInt e
  rw [nI_toInt h] at this
  have h2 : (-9 : Int32).toInt = -9 := by decide
  omega
theorem pb_sA_get {μ : pb_M} {h h' : Nat} {f : Nat → Int32} : (pb_sA μ h f).1 h' = if h' = h then f else μ.1 h' := rfl
theorem pb_sA_sA {μ : pb_M} {h : Nat} {f g : Nat → Int32} : pb_sA (pb_sA μ h f) h g = pb_sA μ h g := by
  unfold pb_sA
  congr 1
  funext h'
  by_cases e : h' = h
  · simp [e]
  · simp [e]
theorem pb_sA_self {μ : pb_M} {h : Nat} : pb_sA μ h (μ.1 h) = μ := by
  unfold pb_sA
  cases μ with
  | mk x y =>
    congr 1
    funext h'
    by_cases e : h' = h
    · simp [e]
    · simp [e]
theorem pb_sA_l {μ : pb_M} {h : Nat} {f : Nat → Int32} : (pb_sA μ h f).2 = μ.2 := rfl
theorem upd_eq {f : Nat → Int32} {k : Nat} {x : Int32} : upd f k x k = x := by simp [upd]
theorem upd_ne {f : Nat → Int32} {k j : Nat} {x : Int32} (h : j ≠ k) : upd f k x j = f j := by simp [upd, h]
theorem ad1 (b : Nat) : (1 : Int32) + nI b = nI (1 + b) := nI_add 1 b
theorem ad2 (b : Nat) : (2 : Int32) + nI b = nI (2 + b) := nI_add 2 b
theorem ad3 (b : Nat) : (3 : Int32) + nI b = nI (3 + b) := nI_add 3 b
theorem ad7 (b : Nat) : (7 : Int32) + nI b = nI (7 + b) := nI_add 7 b
theorem ad11 (b : Nat) : (11 : Int32) + nI b = nI (11 + b) := nI_add 11 b
theorem ad27 (b : Nat) : (27 : Int32) + nI b = nI (27 + b) := nI_add 27 b
theorem ad32 (b : Nat) : (32 : Int32) + nI b = nI (32 + b) := nI_add 32 b
theorem ad37 (b : Nat) : (37 : Int32) + nI b = nI (37 + b) := nI_add 37 b
theorem ad42 (b : Nat) : (42 : Int32) + nI b = nI (42 + b) := nI_add 42 b
theorem ad47 (b : Nat) : (47 : Int32) + nI b = nI (47 + b) := nI_add 47 b
theorem ad4 (b : Nat) : (4 : Int32) + nI b = nI (4 + b) := nI_add 4 b
theorem ad8 (b : Nat) : (8 : Int32) + nI b = nI (8 + b) := nI_add 8 b
theorem ad13 (b : Nat) : (13 : Int32) + nI b = nI (13 + b) := nI_add 13 b
theorem ad18 (b : Nat) : (18 : Int32) + nI b = nI (18 + b) := nI_add 18 b
theorem ad23 (b : Nat) : (23 : Int32) + nI b = nI (23 + b) := nI_add 23 b
theorem ad28 (b : Nat) : (28 : Int32) + nI b = nI (28 + b) := nI_add 28 b
/-- the place of a debt -/
theorem ix_debt (i j : Nat) : ((11 : Int32) + (nI i * (4 : Int32))) + nI j = nI (11 + 4 * i + j) := by
  rw [show nI i * (4 : Int32) = nI (i * 4) from pk_mul i 4, ad11, nI_add, Nat.mul_comm i 4]
theorem pb_CR.at {f : Nat → Int32} {a : pb_Vg} (h : pb_CR f 0 a) {j : Nat} (hj : j < 52) : f j = pb_e j (a j) := by
  have := h j hj
  rwa [Nat.zero_add] at this
theorem pb_CR.lo {f : Nat → Int32} {a : pb_Vg} (h : pb_CR f 0 a) {j : Nat} (hj : j < 42 ∨ (47 ≤ j ∧ j < 52)) : f j = nI (a j) := by
  rw [h.at (by omega), pb_e_lo (by omega)]
theorem pb_CR.upd {f : Nat → Int32} {a : pb_Vg} (h : pb_CR f 0 a) {k x : Nat} {v : Int32} (hv : v = pb_e k x) : pb_CR (upd f k v) 0 (pb_u a k x) := by
  intro j hj
  rw [Nat.zero_add]
  by_cases e : j = k
  · subst e
    rw [upd_eq, pb_u_eq, hv]
  · rw [upd_ne e, pb_u_ne e]
    exact h.at hj
/-! WHAT THE VILLAGE'S WORDS MEAN -/
def vP (a : pb_Vg) : Nat := a 0
def vB (a : pb_Vg) : Nat := a 1
def vDebt (a : pb_Vg) (i j : Nat) : Nat := a (11 + 4 * i + j)
def vClause (a : pb_Vg) (p b : Nat) : Nat := if a (27 + b) = p then 1 else if a (32 + b) = 0 then 2 else if a (42 + b) ≠ 0 then 3 else if vDebt a (a (27 + b)) p = 0 then 4 else if a (37 + b) = 1 ∧ a 2 % 12 < 3 then 5 else if a (37 + b) = 3 then 6 else 0
def vShut (a : pb_Vg) (p b : Nat) : pb_Vg := pb_u (pb_u a (42 + b) (p + 1)) (47 + b) 0
def vHome (a : pb_Vg) (b : Nat) : pb_Vg := pb_u (pb_u a (42 + b) 0) (47 + b) 0
def vFeed (a : pb_Vg) (b : Nat) : pb_Vg :=
  if 0 < a (3 + a (27 + b)) then pb_u (pb_u a (47 + b) (a (47 + b) + 1)) (3 + a (27 + b)) (a (3 + a (27 + b)) - 1)
  else if a (32 + b) - (if a (37 + b) = 2 then 2 else 1) = 0 then vHome (pb_u (pb_u a (47 + b) (a (47 + b) + 1)) (32 + b) 0) b
  else pb_u (pb_u a (47 + b) (a (47 + b) + 1)) (32 + b) (a (32 + b) - (if a (37 + b) = 2 then 2 else 1))
def vPassB (a : pb_Vg) (b : Nat) : pb_Vg := if a (42 + b) = 0 then a else vFeed a b
/-- f for b, b + 1, .. c times -/
def pb_it {σ : Type} (f : Nat → σ → σ) : Nat → Nat → σ → σ
  | 0, _, s => s
  | c + 1, b, s => pb_it f c (b + 1) (f b s)
def vPass (a : pb_Vg) : pb_Vg := (fun z : pb_Vg => pb_u z 2 (z 2 + 1)) (pb_it (fun b z => vPassB z b) (vB a) 0 a)
def vAdd (a : pb_Vg) (i j x : Nat) : pb_Vg := pb_u a (11 + 4 * i + j) (min 99 (vDebt a i j + x))
def vLess (a : pb_Vg) (i j x : Nat) : pb_Vg := pb_u a (11 + 4 * i + j) (vDebt a i j - x)
def vRun (a : pb_Vg) (b : Nat) : pb_Vg := vHome (vAdd a (a (27 + b)) (a (42 + b) - 1) 3) b
def vKeep (a : pb_Vg) (b : Nat) : pb_Vg := vHome (pb_u (vLess a (a (27 + b)) (a (42 + b) - 1) (a (32 + b))) (27 + b) (a (42 + b) - 1)) b
def vSend (a : pb_Vg) (p o : Nat) : pb_Vg := pb_it (fun b z => if z (27 + b) = p ∧ z (42 + b) = o + 1 then vHome z b else z) (vB a) 0 a
def vPay0 (a : pb_Vg) (p o n : Nat) : pb_Vg := vLess (pb_u (pb_u a (7 + p) (a (7 + p) - n)) (7 + o) (pb_u a (7 + p) (a (7 + p) - n) (7 + o) + n)) p o n
def vPay (a : pb_Vg) (p o n : Nat) : pb_Vg := if vDebt (vPay0 a p o n) p o = 0 then vSend (vPay0 a p o n) p o else vPay0 a p o n
/-- a village as it can be, all numbers below M -/
def vOk (M : Nat) (a : pb_Vg) : Prop := (vP a ≤ 4 ∧ vB a ≤ 5) ∧ (∀ b, b < vB a → a (27 + b) < vP a ∧ a (42 + b) ≤ vP a ∧ (a (42 + b) ≠ 0 → a (32 + b) ≠ 0 ∧ a (42 + b) ≠ a (27 + b) + 1)) ∧ (∀ i j, i < 4 → j < 4 → vDebt a i j ≤ 99 ∧ (vP a ≤ i ∨ vP a ≤ j ∨ i = j → vDebt a i j = 0)) ∧ (∀ j, j < 52 → a j < M)
def vS (a : pb_Vg) : Prop := ∀ j, j < 52 → a j < 1000000
theorem vOk.s {M : Nat} {a : pb_Vg} (h : vOk M a) (hM : M ≤ 1000000) : vS a := fun j hj => Nat.lt_of_lt_of_le (h.2.2.2 j hj) hM
