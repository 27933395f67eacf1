section TAKE2
variable {K : Nat} {S : pb_S}
def tkE1 : Option (Nat × Nat) → Int32
  | none => -9
  | some z => nI z.1
def tkE2 : Option (Nat × Nat) → Int32
  | none => -9
  | some z => nI z.2
def tkN (a : pb_Vg) (p o b : Nat) : Option (Nat × Nat) → Option (Nat × Nat)
  | none => some (b, vOwed a p o b)
  | some z => if vOwed a p o b < z.2 ∨ (vOwed a p o b = z.2 ∧ a (32 + b) < a (32 + z.1)) then some (b, vOwed a p o b) else some z
def tkB (a : pb_Vg) (p o b : Nat) (z : Option (Nat × Nat)) : Option (Nat × Nat) := if vClause a p b = 0 ∧ a (27 + b) = o then tkN a p o b z else z
def tkOk (a : pb_Vg) (z : Option (Nat × Nat)) : Prop := ∀ y, z = some y → y.1 < vB a ∧ y.2 ≤ 99
theorem vOwed_le {M : Nat} {a : pb_Vg} (hz : vOk M a) {p o b : Nat} (hp : p < vP a) (ho : o < vP a) : vOwed a p o b ≤ 99 := by
  have hP := hz.1.1
  have := (hz.2.2.1 o p (by omega) (by omega)).1
  unfold vOwed
  omega
theorem tkOk.B {M : Nat} {a : pb_Vg} (hz : vOk M a) {p o b : Nat} (hp : p < vP a) (ho : o < vP a) (hb : b < vB a) {z : Option (Nat × Nat)} (h : tkOk a z) : tkOk a (tkB a p o b z) := by
  have hv := vOwed_le hz hp ho (b := b)
  unfold tkB
  split
  · intro y hy
    cases z with
    | none => cases hy; exact ⟨hb, hv⟩
    | some w =>
      have hw := h w rfl
      unfold tkN at hy
      simp only at hy
      split at hy
      · cases hy; exact ⟨hb, hv⟩
      · cases hy; exact hw
  · exact h
end TAKE2
