/-! THE STATE that class and reference share: (village, letters told, the letters, acts, what was ahead of them (the last first), slots, seed) -/
abbrev pb_S : Type := pb_Vg × Nat × (Nat → Nat) × Nat × (Nat → pb_Vg) × (Nat → Option pb_Vg) × Int64
def vSame (v a : pb_Vg) : Prop := v 0 = a 0 ∧ v 1 = a 1 ∧ ∀ b, b < vB a → v (37 + b) = a (37 + b)
def pb_kb (o : Option pb_Vg) : Nat := if o.isSome then 1 else 0
def InvA (K : Nat) (S : pb_S) : Prop :=
  (vOk (100 + 10 * K) S.1 ∧ K ≤ 64) ∧ (S.2.1 ≤ 56 ∧ ∀ j, j < S.2.1 → S.2.2.1 j ≤ 255) ∧ (S.2.2.2.1 ≤ 14 ∧ ∀ j, j < S.2.2.2.1 → vOk (100 + 10 * K) (S.2.2.2.2.1 j) ∧ vSame (S.2.2.2.2.1 j) S.1) ∧ ∀ s, s < 2 → ∀ v, S.2.2.2.2.2.1 s = some v → vOk (100 + 10 * K) v ∧ vSame v S.1
def InvC (μ : pb_M) (S : pb_S) : Prop :=
  pb_CR (μ.1 5) 0 S.1 ∧ (μ.1 1 2 = nI S.2.1 ∧ ∀ j, j < S.2.1 → μ.1 2 j = nI (S.2.2.1 j)) ∧ (∃ c, c < 14 ∧ μ.1 8 1 = nI S.2.2.2.1 ∧ μ.1 8 2 = nI c ∧ ∀ j, j < S.2.2.2.1 → pb_CR (μ.1 9) (52 * ((c + 13 - j) % 14)) (S.2.2.2.2.1 j)) ∧ (μ.1 0 9 = nI (pb_kb (S.2.2.2.2.2.1 0) + 2 * pb_kb (S.2.2.2.2.2.1 1)) ∧ ∀ s, s < 2 → ∀ v, S.2.2.2.2.2.1 s = some v → pb_CR (μ.1 17) (52 * s) v) ∧ μ.2 0 = S.2.2.2.2.2.2
def InvM (μ : pb_M) (S : pb_S) : Prop :=
  pb_MM μ 0 S.1 ∧ (μ.1 19 9 = nI S.2.1 ∧ ∀ j, j < S.2.1 → μ.1 24 j = nI (S.2.2.1 j)) ∧ (∃ c, c < 14 ∧ μ.1 19 12 = nI S.2.2.2.1 ∧ μ.1 19 13 = nI c ∧ ∀ j, j < S.2.2.2.1 → pb_MR (μ.1 25) (45 * ((c + 13 - j) % 14)) (S.2.2.2.2.1 j)) ∧ (∀ s, s < 2 → μ.1 28 s = nI (pb_kb (S.2.2.2.2.2.1 s)) ∧ ∀ v, S.2.2.2.2.2.1 s = some v → pb_MR (μ.1 29) (45 * s) v) ∧ μ.2 19 = S.2.2.2.2.2.2
def frC (μ μ1 : pb_M) : Prop := (∀ h, 19 ≤ h → μ1.1 h = μ.1 h) ∧ μ1.2 19 = μ.2 19
def frM (μ μ1 : pb_M) : Prop := (∀ h, h < 19 → μ1.1 h = μ.1 h) ∧ μ1.2 0 = μ.2 0
def agC (μ μ1 : pb_M) : Prop := μ1.1 0 = μ.1 0 ∧ μ1.1 1 = μ.1 1 ∧ μ1.1 2 = μ.1 2 ∧ μ1.1 5 = μ.1 5 ∧ μ1.1 8 = μ.1 8 ∧ μ1.1 9 = μ.1 9 ∧ μ1.1 17 = μ.1 17 ∧ μ1.2 0 = μ.2 0
def agM (μ μ1 : pb_M) : Prop := (μ1.1 20 = μ.1 20 ∧ μ1.1 24 = μ.1 24 ∧ μ1.1 25 = μ.1 25 ∧ μ1.1 28 = μ.1 28 ∧ μ1.1 29 = μ.1 29) ∧ (μ1.1 19 0 = μ.1 19 0 ∧ μ1.1 19 1 = μ.1 19 1 ∧ μ1.1 19 9 = μ.1 19 9 ∧ μ1.1 19 12 = μ.1 19 12 ∧ μ1.1 19 13 = μ.1 19 13) ∧ (∀ j, j < 45 → μ1.1 21 j = μ.1 21 j) ∧ μ1.2 19 = μ.2 19
theorem InvC.ag {μ μ1 : pb_M} {S : pb_S} (h : InvC μ S) (g : agC μ μ1) : InvC μ1 S := by
  obtain ⟨g0, g1, g2, g5, g8, g9, g17, gl⟩ := g
  unfold InvC
  rw [g0, g1, g2, g5, g8, g9, g17, gl]
  exact h
theorem InvM.ag {μ μ1 : pb_M} {S : pb_S} (h : InvM μ S) (g : agM μ μ1) : InvM μ1 S := by
  obtain ⟨⟨g20, g24, g25, g28, g29⟩, ⟨f0, f1, f9, f12, f13⟩, g21, gl⟩ := g
  unfold InvM pb_MM at h ⊢
  rw [g20, g24, g25, g28, g29, f0, f1, f9, f12, f13, gl]
  refine ⟨⟨fun j hj => ?_, h.1.2⟩, h.2⟩
  rw [g21 _ (by omega)]
  exact h.1.1 j hj
theorem frM.agC {μ μ1 : pb_M} (g : frM μ μ1) : agC μ μ1 := ⟨g.1 0 (by omega), g.1 1 (by omega), g.1 2 (by omega), g.1 5 (by omega), g.1 8 (by omega), g.1 9 (by omega), g.1 17 (by omega), g.2⟩
theorem frC.agM {μ μ1 : pb_M} (g : frC μ μ1) : agM μ μ1 := by
  have e19 := g.1 19 (by omega)
  exact ⟨⟨g.1 20 (by omega), g.1 24 (by omega), g.1 25 (by omega), g.1 28 (by omega), g.1 29 (by omega)⟩, ⟨by rw [e19], by rw [e19], by rw [e19], by rw [e19], by rw [e19]⟩, fun j _ => by rw [g.1 21 (by omega)], g.2⟩
theorem frC.rf {μ : pb_M} : frC μ μ := ⟨fun _ _ => rfl, rfl⟩
theorem frM.rf {μ : pb_M} : frM μ μ := ⟨fun _ _ => rfl, rfl⟩
theorem frC.tr {μ μ1 μ2 : pb_M} (h : frC μ μ1) (g : frC μ1 μ2) : frC μ μ2 := ⟨fun k hk => (g.1 k hk).trans (h.1 k hk), g.2.trans h.2⟩
theorem frM.tr {μ μ1 μ2 : pb_M} (h : frM μ μ1) (g : frM μ1 μ2) : frM μ μ2 := ⟨fun k hk => (g.1 k hk).trans (h.1 k hk), g.2.trans h.2⟩
theorem frC.sA {μ : pb_M} {h : Nat} {f : Nat → Int32} (hh : h < 19) : frC μ (pb_sA μ h f) := ⟨fun k hk => pb_sA_ne (by omega), rfl⟩
theorem frM.sA {μ : pb_M} {h : Nat} {f : Nat → Int32} (hh : 19 ≤ h) : frM μ (pb_sA μ h f) := ⟨fun k hk => pb_sA_ne (by omega), rfl⟩
theorem agC.rf {μ : pb_M} : agC μ μ := ⟨rfl, rfl, rfl, rfl, rfl, rfl, rfl, rfl⟩
theorem agM.rf {μ : pb_M} : agM μ μ := ⟨⟨rfl, rfl, rfl, rfl, rfl⟩, ⟨rfl, rfl, rfl, rfl, rfl⟩, fun _ _ => rfl, rfl⟩
theorem agC.tr {μ μ1 μ2 : pb_M} (h : agC μ μ1) (g : agC μ1 μ2) : agC μ μ2 := by
  obtain ⟨a0, a1, a2, a5, a8, a9, a17, al⟩ := h
  obtain ⟨b0, b1, b2, b5, b8, b9, b17, bl⟩ := g
  exact ⟨b0.trans a0, b1.trans a1, b2.trans a2, b5.trans a5, b8.trans a8, b9.trans a9, b17.trans a17, bl.trans al⟩
theorem agM.tr {μ μ1 μ2 : pb_M} (h : agM μ μ1) (g : agM μ1 μ2) : agM μ μ2 := by
  obtain ⟨⟨a20, a24, a25, a28, a29⟩, ⟨c0, c1, c9, c12, c13⟩, a21, al⟩ := h
  obtain ⟨⟨b20, b24, b25, b28, b29⟩, ⟨d0, d1, d9, d12, d13⟩, b21, bl⟩ := g
  exact ⟨⟨b20.trans a20, b24.trans a24, b25.trans a25, b28.trans a28, b29.trans a29⟩, ⟨d0.trans c0, d1.trans c1, d9.trans c9, d12.trans c12, d13.trans c13⟩, fun j hj => (b21 j hj).trans (a21 j hj), bl.trans al⟩
/-- a scratch row of the class: no part of the state -/
theorem agC.sA {μ : pb_M} {h : Nat} {f : Nat → Int32} (hh : h = 3 ∨ h = 7 ∨ h = 11 ∨ h = 10 ∨ h = 12 ∨ h = 13 ∨ h = 14 ∨ h = 15 ∨ h = 16 ∨ h = 18) : agC μ (pb_sA μ h f) := ⟨pb_sA_ne (by omega), pb_sA_ne (by omega), pb_sA_ne (by omega), pb_sA_ne (by omega), pb_sA_ne (by omega), pb_sA_ne (by omega), pb_sA_ne (by omega), rfl⟩
/-- scratch of the reference: rows of its own, the trial's half of 'now', fields that are no part of the state -/
theorem agM.sA {μ : pb_M} {h : Nat} {f : Nat → Int32} (hh : h = 22 ∨ h = 23 ∨ h = 26 ∨ h = 27) : agM μ (pb_sA μ h f) := by
  have e19 : (pb_sA μ h f).1 19 = μ.1 19 := pb_sA_ne (by omega)
  have e21 : (pb_sA μ h f).1 21 = μ.1 21 := pb_sA_ne (by omega)
  exact ⟨⟨pb_sA_ne (by omega), pb_sA_ne (by omega), pb_sA_ne (by omega), pb_sA_ne (by omega), pb_sA_ne (by omega)⟩, ⟨by rw [e19], by rw [e19], by rw [e19], by rw [e19], by rw [e19]⟩, fun j _ => by rw [e21], rfl⟩
theorem agM.s21 {μ : pb_M} {r : Nat → Int32} (hr : pb_Fr (μ.1 21) r 45) : agM μ (pb_sA μ 21 r) := by
  have e19 : (pb_sA μ 21 r).1 19 = μ.1 19 := pb_sA_ne (by omega)
  exact ⟨⟨pb_sA_ne (by omega), pb_sA_ne (by omega), pb_sA_ne (by omega), pb_sA_ne (by omega), pb_sA_ne (by omega)⟩, ⟨by rw [e19], by rw [e19], by rw [e19], by rw [e19], by rw [e19]⟩, fun j hj => by rw [pb_sA_eq]; exact hr j (by omega), rfl⟩
theorem agM.s19 {μ : pb_M} {k : Nat} {x : Int32} (hk : k ≠ 0 ∧ k ≠ 1 ∧ k ≠ 9 ∧ k ≠ 12 ∧ k ≠ 13) : agM μ (pb_sA μ 19 (upd (μ.1 19) k x)) := by
  have e21 : (pb_sA μ 19 (upd (μ.1 19) k x)).1 21 = μ.1 21 := pb_sA_ne (by omega)
  refine ⟨⟨pb_sA_ne (by omega), pb_sA_ne (by omega), pb_sA_ne (by omega), pb_sA_ne (by omega), pb_sA_ne (by omega)⟩, ⟨?_, ?_, ?_, ?_, ?_⟩, fun j _ => by rw [e21], rfl⟩
  all_goals
    rw [pb_sA_eq]
    exact upd_ne (by omega)
/-- a call of the class, and of the reference, over the state S: it answers r, and the state is S' -/
def pC {α : Type} (p : pb_M → Option (α × pb_M)) (S : pb_S) (r : α) (S' : pb_S) : Prop := ∀ μ, InvC μ S → ∃ μ1, p μ = some (r, μ1) ∧ InvC μ1 S' ∧ frC μ μ1
def pM {α : Type} (p : pb_M → Option (α × pb_M)) (S : pb_S) (r : α) (S' : pb_S) : Prop := ∀ μ, InvM μ S → ∃ μ1, p μ = some (r, μ1) ∧ InvM μ1 S' ∧ frM μ μ1
def pOp {α : Type} (K : Nat) (S : pb_S) (p q : pb_M → Option (α × pb_M)) : Prop := ∃ r S', pC p S r S' ∧ pM q S r S' ∧ InvA (K + 1) S'
/-- a call that only reads -/
theorem pC.read {α : Type} {p : pb_M → Option (α × pb_M)} {S : pb_S} {r : α} (h : ∀ μ, InvC μ S → ∃ μ1, p μ = some (r, μ1) ∧ agC μ μ1 ∧ frC μ μ1) : pC p S r S := fun μ hC => by
  obtain ⟨μ1, h1, h2, h3⟩ := h μ hC
  exact ⟨μ1, h1, hC.ag h2, h3⟩
theorem pM.read {α : Type} {p : pb_M → Option (α × pb_M)} {S : pb_S} {r : α} (h : ∀ μ, InvM μ S → ∃ μ1, p μ = some (r, μ1) ∧ agM μ μ1 ∧ frM μ μ1) : pM p S r S := fun μ hM => by
  obtain ⟨μ1, h1, h2, h3⟩ := h μ hM
  exact ⟨μ1, h1, hM.ag h2, h3⟩
theorem pC.same {α : Type} {p : pb_M → Option (α × pb_M)} {S : pb_S} {r : α} (h : ∀ μ, InvC μ S → p μ = some (r, μ)) : pC p S r S := fun μ hC => ⟨μ, h μ hC, hC, frC.rf⟩
theorem pM.same {α : Type} {p : pb_M → Option (α × pb_M)} {S : pb_S} {r : α} (h : ∀ μ, InvM μ S → p μ = some (r, μ)) : pM p S r S := fun μ hM => ⟨μ, h μ hM, hM, frM.rf⟩
theorem InvA.mono {K : Nat} {S : pb_S} (h : InvA K S) (hK : K + 1 ≤ 64) : InvA (K + 1) S := by
  obtain ⟨⟨h1, -⟩, h2, ⟨h3, h4⟩, h5⟩ := h
  exact ⟨⟨h1.mono (by omega), hK⟩, h2, ⟨h3, fun j hj => ⟨(h4 j hj).1.mono (by omega), (h4 j hj).2⟩⟩, fun s hs v hv => ⟨(h5 s hs v hv).1.mono (by omega), (h5 s hs v hv).2⟩⟩
theorem pOp.read {α : Type} {K : Nat} {S : pb_S} {p q : pb_M → Option (α × pb_M)} (hA : InvA K S) (hK : K + 1 ≤ 64) (r : α) (hp : pC p S r S) (hq : pM q S r S) : pOp K S p q := ⟨r, S, hp, hq, hA.mono hK⟩
theorem pOp.both {α : Type} {K : Nat} {S : pb_S} {p q : pb_M → Option (α × pb_M)} (h : pOp K S p q) {μ : pb_M} (hC : InvC μ S) (hM : InvM μ S) : ∃ r μ1 μ2 S', p μ = some (r, μ1) ∧ q μ1 = some (r, μ2) ∧ InvA (K + 1) S' ∧ InvC μ2 S' ∧ InvM μ2 S' := by
  obtain ⟨r, S', h1, h2, h3⟩ := h
  obtain ⟨μ1, g1, g2, g3⟩ := h1 μ hC
  obtain ⟨μ2, k1, k2, k3⟩ := h2 μ1 (hM.ag g3.agM)
  exact ⟨r, μ1, μ2, S', g1, k1, h3, g2.ag k3.agC, k2⟩
