/-! an owner and a creditor at rest -/
section RESTS
variable {K : Nat} {S : pb_S} {μ : pb_M} {a : pb_Vg} {M : Nat}
def pb_all (q : Nat → Bool) : Nat → Nat → Bool
  | 0, _ => true
  | c + 1, b => q b && pb_all q c (b + 1)
theorem pb_all_iff (q : Nat → Bool) : ∀ c b, pb_all q c b = true ↔ ∀ e, b ≤ e → e < b + c → q e = true
  | 0, b => by
    unfold pb_all
    exact ⟨fun _ e h1 h2 => by omega, fun _ => rfl⟩
  | c + 1, b => by
    unfold pb_all
    rw [Bool.and_eq_true, pb_all_iff q c (b + 1)]
    exact ⟨fun h e h1 h2 => by
      by_cases e0 : e = b
      · rw [e0]; exact h.1
      · exact h.2 e (by omega) (by omega), fun h => ⟨h b (by omega) (by omega), fun e h1 h2 => h e (by omega) (by omega)⟩⟩
theorem pb_it_add {σ : Type} (f : Nat → σ → σ) : ∀ (c d b : Nat) (s : σ), pb_it f (c + d) b s = pb_it f d (b + c) (pb_it f c b s)
  | 0, d, b, s => by
    rw [Nat.zero_add, Nat.add_zero]
    rfl
  | c + 1, d, b, s => by
    rw [show c + 1 + d = (c + d) + 1 by omega]
    show pb_it f (c + d) (b + 1) (f b s) = pb_it f d (b + (c + 1)) (pb_it f c (b + 1) (f b s))
    rw [pb_it_add f c d (b + 1), show b + 1 + c = b + (c + 1) by omega]
theorem pb_it_shift {σ : Type} (f : Nat → σ → σ) (k : Nat) : ∀ (c b : Nat) (s : σ), pb_it (fun e t => f (k + e) t) c b s = pb_it f c (k + b) s
  | 0, b, s => rfl
  | c + 1, b, s => by
    show pb_it (fun e t => f (k + e) t) c (b + 1) (f (k + b) s) = pb_it f c (k + b + 1) (f (k + b) s)
    rw [pb_it_shift f k c (b + 1)]
    rfl
theorem pb_it_idle {σ : Type} (f : Nat → σ → σ) : ∀ (c b : Nat) (s : σ), (∀ e s, b ≤ e → e < b + c → f e s = s) → pb_it f c b s = s
  | 0, b, s, _ => rfl
  | c + 1, b, s, h => by
    show pb_it f c (b + 1) (f b s) = s
    rw [h b s (by omega) (by omega)]
    exact pb_it_idle f c (b + 1) s (fun e s h1 h2 => h e s (by omega) (by omega))
theorem upd_upd {f : Nat → Int32} {k : Nat} {x y : Int32} : upd (upd f k x) k y = upd f k y := by
  funext j
  by_cases e : j = k
  · subst e
    rw [upd_eq, upd_eq]
  · rw [upd_ne e, upd_ne e, upd_ne e]
def rsO (a : pb_Vg) (o c k : Nat) : Bool := k == 0 || (decide (k - 1 < vB a) && (a (27 + (k - 1)) == o && vClause a c (k - 1) == 0))
def rsC (a : pb_Vg) (D p k : Nat) : Nat := p + (if k ≠ 0 ∧ p < D then a (32 + (k - 1)) else 0)
def rsG (a : pb_Vg) (D p k : Nat) : Nat := if k = 0 then p + 1 else p + min (a (32 + (k - 1))) (D - p)
def rsA (a : pb_Vg) (D p k : Nat) : Bool := pb_all (fun e => decide (rsC a D p k ≤ rsC a D e k)) (min 3 D + 1) 0
def rsB (a : pb_Vg) (o c D p k : Nat) : Bool := pb_all (fun e => !(rsO a o c e) || decide (rsG a D p e ≤ rsG a D p k)) 6 0
def rsR (a : pb_Vg) (o c D k : Nat) : Bool := decide (k / 6 ≤ min 3 D) && (rsO a o c (k % 6) && (rsA a D (k / 6) (k % 6) && rsB a o c D (k / 6) (k % 6)))
def rsF (a : pb_Vg) (o c D k : Nat) (t : Nat × Int32) : Nat × Int32 := if rsR a o c D k = true then (t.1 + 1, if t.1 = 0 then nI (10 * (k / 6) + k % 6) else t.2) else t
def pb_BG (μ : pb_M) (a : pb_Vg) (D T : Nat) : Prop := (μ.1 15 1 = nI D ∧ μ.1 15 2 = nI (min 3 D) ∧ μ.1 15 3 = nI T) ∧ ∀ b, b < vB a → μ.1 16 b = nI (a (32 + b))
theorem c_open {D o c k : Nat} (hg : pb_BG μ a D (vTak a c &&& pb_bits (fun b => a (27 + b) == o) (vB a))) (hB : vB a ≤ 5) (hk : k < 6) : pX1_isOpen (nI k) μ = some (nI (if rsO a o c k = true then 1 else 0), μ) := by
  have h32 : vTak a c &&& pb_bits (fun b => a (27 + b) == o) (vB a) < 32 := Nat.lt_of_le_of_lt Nat.and_le_left (vTak_32 hB)
  unfold pX1_isOpen rsO
  cases k with
  | zero =>
    rw [if_pos (show nI 0 = (0 : Int32) from rfl)]
    rfl
  | succ k =>
    rw [if_neg (show ¬ nI (k + 1) = (0 : Int32) from fun q => (show ¬ k + 1 = 0 by omega) ((nI_eq (b := 0) (by omega) (by omega)).mp q)), hg.1.2.2, show nI (k + 1) - (1 : Int32) = nI k from pk_sub (show 1 ≤ k + 1 by omega), c_has (by omega) (by omega), pb_b_some, Nat.add_sub_cancel]
    have e : (vTak a c &&& pb_bits (fun b => a (27 + b) == o) (vB a)).testBit k = (decide (k < vB a) && (a (27 + k) == o && vClause a c k == 0)) := by
      unfold vTak
      rw [Nat.testBit_and, pb_bits_test, pb_bits_test]
      cases decide (k < vB a) <;> cases (a (27 + k) == o) <;> cases (vClause a c k == 0) <;> rfl
    rw [e]
    have e0 : (k + 1 == 0) = false := rfl
    rw [e0, Bool.false_or]
    cases (decide (k < vB a) && (a (27 + k) == o && vClause a c k == 0)) <;> rfl
theorem rsO_lt {o c k : Nat} (h : rsO a o c k = true) (h0 : k ≠ 0) : k - 1 < vB a := by
  unfold rsO at h
  simp [h0] at h
  exact h.1
theorem c_cost {D T p k : Nat} (hg : pb_BG μ a D T) (hB : vB a ≤ 5) (hs : vS a) (hD : D ≤ 99) (hp : p ≤ 3) (hk : k < 6) (ho : k ≠ 0 → k - 1 < vB a) : pX1_cost (nI p) (nI k) μ = some (nI (rsC a D p k), μ) := by
  unfold pX1_cost pX1_cost_J16 pX1_cost_J17 rsC
  by_cases h0 : k = 0
  · subst h0
    rw [if_pos (show nI 0 ≤ (0 : Int32) from by decide), if_pos rfl, if_neg (fun q => q.1 rfl), Nat.add_zero, Int32.add_zero]
  · have h1 := ho h0
    rw [if_neg (show ¬ nI k ≤ (0 : Int32) from fun z => (show ¬ k ≤ 0 by omega) ((nI_leI (b := 0) (by omega) (by omega)).mp z)), hg.1.1]
    by_cases h2 : p < D
    · rw [if_neg (fun z => (show ¬ D ≤ p by omega) ((nI_leI (by omega) (by omega)).mp z)), if_neg (by decide), show nI k - (1 : Int32) = nI (k - 1) from pk_sub (show 1 ≤ k by omega), if_pos (q_in (by omega) (by omega)), q_cl (by omega), hg.2 _ h1, nI_add, if_pos ⟨h0, h2⟩]
    · rw [if_pos ((nI_leI (by omega) (by omega)).mpr (by omega)), if_pos rfl, if_neg (fun q => h2 q.2), Nat.add_zero, Int32.add_zero]
theorem c_gain {D T p k : Nat} (hg : pb_BG μ a D T) (hB : vB a ≤ 5) (hs : vS a) (hD : D ≤ 99) (hp : p ≤ D) (hk : k < 6) (ho : k ≠ 0 → k - 1 < vB a) : pX1_gain (nI p) (nI k) μ = some (nI (rsG a D p k) - (1 : Int32), μ) := by
  unfold pX1_gain rsG
  by_cases h0 : k = 0
  · subst h0
    rw [if_pos (show nI 0 = (0 : Int32) from rfl), if_pos rfl, show nI (p + 1) - (1 : Int32) = nI p from pk_sub (show 1 ≤ p + 1 by omega)]
  · have h1 := ho h0
    have hw := hs (32 + (k - 1)) (by omega)
    rw [if_neg (show ¬ nI k = (0 : Int32) from fun q => h0 ((nI_eq (b := 0) (by omega) (by omega)).mp q)), show nI k - (1 : Int32) = nI (k - 1) from pk_sub (show 1 ≤ k by omega), if_pos (q_in (by omega) (by omega)), q_cl (by omega), hg.2 _ h1, hg.1.1, pk_sub hp, if_neg h0]
    by_cases h2 : D - p < a (32 + (k - 1))
    · rw [if_pos ((nI_ltI (by omega) (by omega)).mpr h2), Nat.min_eq_right (by omega), nI_add]
    · rw [if_neg (fun z => h2 ((nI_ltI (by omega) (by omega)).mp z)), Nat.min_eq_left (by omega), nI_add]
theorem dec_le {x y : Nat} (hx : x < 2000000) (hy : y < 2000000) : (nI x - (1 : Int32) ≤ nI y - (1 : Int32)) = (x ≤ y) := by
  have e : ∀ z, z < 2000000 → (nI z - (1 : Int32)).toInt = (z : Int) - 1 := fun z hz => pk_sub_toInt (b := 1) (by omega) (by omega)
  refine propext ?_
  rw [Int32.le_iff_toInt_le, e x hx, e y hy]
  omega
theorem rsC_lt {D p k : Nat} (hs : vS a) (hp : p ≤ 3) (hk : k < 6) : rsC a D p k < 1100000 := by
  unfold rsC
  have hw := hs (32 + (k - 1)) (by omega)
  split <;> omega
theorem rsG_lt {D p k : Nat} (hs : vS a) (hp : p ≤ 3) (hk : k < 6) : rsG a D p k < 1100000 := by
  unfold rsG
  have hw := hs (32 + (k - 1)) (by omega)
  split <;> omega
theorem c_ownL {D T p k : Nat} (hg : pb_BG μ a D T) (hB : vB a ≤ 5) (hs : vS a) (hD : D ≤ 99) (hp : p ≤ 3) (hk : k < 6) (ho : k ≠ 0 → k - 1 < vB a) : ∀ (c b n : Nat), b + c = min 3 D + 1 → c < n → pX1_ownerRests_L2 (nI p) (nI k) n (nI b) μ = some (nI (if pb_all (fun e => decide (rsC a D p k ≤ rsC a D e k)) c b = true then 1 else 0), μ)
  | _, _, 0, _, hn => by omega
  | 0, b, n + 1, hb, _ => by
    rw [pX1_ownerRests_L2, hg.1.2.1, if_pos ((nI_ltI (by omega) (by omega)).mpr (by omega))]
    rfl
  | c + 1, b, n + 1, hb, hn => by
    have k1 := rsC_lt (a := a) (D := D) (p := p) hs hp hk
    have k2 := rsC_lt (a := a) (D := D) (p := b) hs (by omega) hk
    rw [pX1_ownerRests_L2, hg.1.2.1, if_neg (fun z => (show ¬ min 3 D < b by omega) ((nI_ltI (by omega) (by omega)).mp z)), c_cost hg hB hs hD (by omega) hk ho, pb_b_some, c_cost hg hB hs hD hp hk ho, pb_b_some]
    unfold pb_all
    by_cases h : rsC a D p k ≤ rsC a D b k
    · rw [if_pos ((nI_leI (by omega) (by omega)).mpr h), show nI b + (1 : Int32) = nI (b + 1) from nI_add b 1, c_ownL hg hB hs hD hp hk ho c (b + 1) n (by omega) (by omega), decide_eq_true h, Bool.true_and]
    · rw [if_neg (fun z => h ((nI_leI (by omega) (by omega)).mp z)), decide_eq_false h, Bool.false_and]
      rfl
theorem c_crdL {D o c0 p k : Nat} (hg : pb_BG μ a D (vTak a c0 &&& pb_bits (fun b => a (27 + b) == o) (vB a))) (hB : vB a ≤ 5) (hs : vS a) (hD : D ≤ 99) (hp : p ≤ 3) (hpD : p ≤ D) (hk : k < 6) (ho : k ≠ 0 → k - 1 < vB a) : ∀ (c b n : Nat), b + c = 6 → c < n → pX1_creditorRests_L2 (nI p) (nI k) n (nI b) μ = some (nI (if pb_all (fun e => !(rsO a o c0 e) || decide (rsG a D p e ≤ rsG a D p k)) c b = true then 1 else 0), μ)
  | _, _, 0, _, hn => by omega
  | 0, b, n + 1, hb, _ => by
    rw [pX1_creditorRests_L2, if_pos (show (5 : Int32) < nI b from (nI_ltI (a := 5) (by omega) (by omega)).mpr (by omega))]
    rfl
  | c + 1, b, n + 1, hb, hn => by
    have k1 := rsG_lt (a := a) (D := D) (p := p) hs hp hk
    have k2 := rsG_lt (a := a) (D := D) (p := p) (k := b) hs hp (by omega)
    have n1 : nI b + (1 : Int32) = nI (b + 1) := nI_add b 1
    have ih := c_crdL hg hB hs hD hp hpD hk ho c (b + 1) n (by omega) (by omega)
    rw [pX1_creditorRests_L2, if_neg (show ¬ (5 : Int32) < nI b from fun z => (show ¬ 5 < b by omega) ((nI_ltI (a := 5) (by omega) (by omega)).mp z)), c_open hg hB (by omega), pb_b_some]
    unfold pb_all
    by_cases e : rsO a o c0 b = true
    · rw [if_pos e, if_neg (by decide), c_gain hg hB hs hD hpD (by omega) (rsO_lt e), pb_b_some, c_gain hg hB hs hD hpD hk ho, pb_b_some]
      simp only [dec_le (show rsG a D p b < 2000000 by omega) (show rsG a D p k < 2000000 by omega)]
      by_cases h : rsG a D p b ≤ rsG a D p k
      · rw [if_pos h, n1, ih, decide_eq_true h, Bool.or_true, Bool.true_and]
      · rw [if_neg h, decide_eq_false h, e]
        rfl
    · rw [if_neg e, if_pos (show nI 0 = (0 : Int32) from rfl), n1, ih]
      simp [e]
/-- the class's rows while it settles -/
theorem c_setI {D o c0 p : Nat} (hB : vB a ≤ 5) (hs : vS a) (hD : D ≤ 99) (hp : p ≤ min 3 D) {h1 : Nat} : ∀ (c b n : Nat) (g : Nat → Int32) (t : Nat × Int32), b + c = 6 → c < n → t.1 < 1000 + 6 * p + b → pb_BG (pb_sA μ 15 g) a D (vTak a c0 &&& pb_bits (fun b => a (27 + b) == o) (vB a)) → g 4 = nI t.1 → g 5 = t.2 → ∃ g', (∀ Kc, pX1_settle_L94 h1 (nI p) Kc n (nI b) (pb_sA μ 15 g) = Kc (pb_sA μ 15 g')) ∧ pb_BG (pb_sA μ 15 g') a D (vTak a c0 &&& pb_bits (fun b => a (27 + b) == o) (vB a)) ∧ g' 4 = nI (pb_it (rsF a o c0 D) c (6 * p + b) t).1 ∧ g' 5 = (pb_it (rsF a o c0 D) c (6 * p + b) t).2 ∧ (pb_it (rsF a o c0 D) c (6 * p + b) t).1 < 1000 + 6 * p + 6
  | _, _, 0, _, _, _, hn, _, _, _, _ => by omega
  | 0, b, n + 1, g, t, hb, _, ht, hg, h4, h5 => by
    refine ⟨g, fun Kc => ?_, hg, h4, h5, by show t.1 < _; omega⟩
    rw [pX1_settle_L94, if_pos (show (5 : Int32) < nI b from (nI_ltI (a := 5) (by omega) (by omega)).mpr (by omega))]
  | c + 1, b, n + 1, g, t, hb, hn, ht, hg, h4, h5 => by
    have n1 : nI b + (1 : Int32) = nI (b + 1) := nI_add b 1
    have hdv : (6 * p + b) / 6 = p := by omega
    have hmd : (6 * p + b) % 6 = b := by omega
    have hst : ∃ g1, (∀ Kc, pX1_settle_L94 h1 (nI p) Kc (n + 1) (nI b) (pb_sA μ 15 g) = pX1_settle_L94 h1 (nI p) Kc n (nI (b + 1)) (pb_sA μ 15 g1)) ∧ pb_BG (pb_sA μ 15 g1) a D (vTak a c0 &&& pb_bits (fun b => a (27 + b) == o) (vB a)) ∧ g1 4 = nI (rsF a o c0 D (6 * p + b) t).1 ∧ g1 5 = (rsF a o c0 D (6 * p + b) t).2 := by
      unfold rsF rsR
      rw [hdv, hmd, decide_eq_true hp, Bool.true_and]
      by_cases e1 : rsO a o c0 b = true
      · have ho := rsO_lt e1
        have hA1 : pX1_ownerRests (nI p) (nI b) (pb_sA μ 15 g) = some (nI (if rsA a D p b = true then 1 else 0), pb_sA μ 15 g) := c_ownL hg hB hs hD (by omega) (by omega) ho (min 3 D + 1) 0 pb_F (by omega) (pb_Fgt (by omega))
        have hA2 : pX1_creditorRests (nI p) (nI b) (pb_sA μ 15 g) = some (nI (if rsB a o c0 D p b = true then 1 else 0), pb_sA μ 15 g) := c_crdL hg hB hs hD (by omega) (by omega) (by omega) ho 6 0 pb_F (by omega) (pb_Fgt (by omega))
        by_cases e2 : rsA a D p b = true
        · by_cases e3 : rsB a o c0 D p b = true
          · rw [e1, e2, e3]
            by_cases e4 : t.1 = 0
            · refine ⟨upd (upd g 5 (nI (10 * p + b))) 4 (nI (t.1 + 1)), fun Kc => ?_, ?_, ?_, ?_⟩
              · rw [pX1_settle_L94, if_neg (show ¬ (5 : Int32) < nI b from fun z => (show ¬ 5 < b by omega) ((nI_ltI (a := 5) (by omega) (by omega)).mp z)), c_open hg hB (by omega), pb_b_some, if_pos e1, if_neg (by decide), hA1, pb_b_some, if_pos e2, if_neg (by decide), hA2, pb_b_some, if_pos e3, if_neg (by decide), pb_sA_eq, h4, e4, if_pos (show nI 0 = (0 : Int32) from rfl), n1, pb_sA_sA, pb_sA_sA, pb_sA_eq, upd_ne (show (4 : Nat) ≠ 5 by decide), h4, e4, show (10 : Int32) * nI p = nI (10 * p) from pk_mul 10 p, nI_add, show nI 0 + (1 : Int32) = nI (0 + 1) from nI_add 0 1]
              · obtain ⟨⟨q1, q2, q3⟩, q4⟩ := hg
                rw [pb_sA_eq] at q1 q2 q3
                refine ⟨⟨?_, ?_, ?_⟩, fun b hb => ?_⟩
                · rw [pb_sA_eq, upd_ne (by decide), upd_ne (by decide)]; exact q1
                · rw [pb_sA_eq, upd_ne (by decide), upd_ne (by decide)]; exact q2
                · rw [pb_sA_eq, upd_ne (by decide), upd_ne (by decide)]; exact q3
                · have := q4 b hb
                  rw [pb_sA_ne (by decide)] at this ⊢
                  exact this
              · rw [upd_eq]
                rfl
              · rw [upd_ne (by decide), upd_eq]
                show _ = (if t.1 = 0 then nI (10 * p + b) else t.2)
                rw [if_pos e4]
            · refine ⟨upd (upd g 5 (g 5)) 4 (nI (t.1 + 1)), fun Kc => ?_, ?_, ?_, ?_⟩
              · rw [pX1_settle_L94, if_neg (show ¬ (5 : Int32) < nI b from fun z => (show ¬ 5 < b by omega) ((nI_ltI (a := 5) (by omega) (by omega)).mp z)), c_open hg hB (by omega), pb_b_some, if_pos e1, if_neg (by decide), hA1, pb_b_some, if_pos e2, if_neg (by decide), hA2, pb_b_some, if_pos e3, if_neg (by decide), pb_sA_eq, h4, if_neg (show ¬ nI t.1 = (0 : Int32) from fun q => e4 ((nI_eq (b := 0) (by omega) (by omega)).mp q)), n1, pb_sA_sA, pb_sA_sA, pb_sA_eq, upd_ne (show (4 : Nat) ≠ 5 by decide), h4, show nI t.1 + (1 : Int32) = nI (t.1 + 1) from nI_add _ 1]
              · obtain ⟨⟨q1, q2, q3⟩, q4⟩ := hg
                rw [pb_sA_eq] at q1 q2 q3
                refine ⟨⟨?_, ?_, ?_⟩, fun b hb => ?_⟩
                · rw [pb_sA_eq, upd_ne (by decide), upd_ne (by decide)]; exact q1
                · rw [pb_sA_eq, upd_ne (by decide), upd_ne (by decide)]; exact q2
                · rw [pb_sA_eq, upd_ne (by decide), upd_ne (by decide)]; exact q3
                · have := q4 b hb
                  rw [pb_sA_ne (by decide)] at this ⊢
                  exact this
              · rw [upd_eq]
                rfl
              · rw [upd_ne (by decide), upd_eq, h5]
                show _ = (if t.1 = 0 then nI (10 * p + b) else t.2)
                rw [if_neg e4]
          · refine ⟨g, fun Kc => ?_, hg, ?_, ?_⟩
            · rw [pX1_settle_L94, if_neg (show ¬ (5 : Int32) < nI b from fun z => (show ¬ 5 < b by omega) ((nI_ltI (a := 5) (by omega) (by omega)).mp z)), c_open hg hB (by omega), pb_b_some, if_pos e1, if_neg (by decide), hA1, pb_b_some, if_pos e2, if_neg (by decide), hA2, pb_b_some, if_neg e3, if_pos (show nI 0 = (0 : Int32) from rfl), n1]
            · rw [if_neg (by simp [e3])]; exact h4
            · rw [if_neg (by simp [e3])]; exact h5
        · refine ⟨g, fun Kc => ?_, hg, ?_, ?_⟩
          · rw [pX1_settle_L94, if_neg (show ¬ (5 : Int32) < nI b from fun z => (show ¬ 5 < b by omega) ((nI_ltI (a := 5) (by omega) (by omega)).mp z)), c_open hg hB (by omega), pb_b_some, if_pos e1, if_neg (by decide), hA1, pb_b_some, if_neg e2, if_pos (show nI 0 = (0 : Int32) from rfl), n1]
          · rw [if_neg (by simp [e2])]; exact h4
          · rw [if_neg (by simp [e2])]; exact h5
      · refine ⟨g, fun Kc => ?_, hg, ?_, ?_⟩
        · rw [pX1_settle_L94, if_neg (show ¬ (5 : Int32) < nI b from fun z => (show ¬ 5 < b by omega) ((nI_ltI (a := 5) (by omega) (by omega)).mp z)), c_open hg hB (by omega), pb_b_some, if_neg e1, if_pos (show nI 0 = (0 : Int32) from rfl), n1]
        · rw [if_neg (by simp [e1])]; exact h4
        · rw [if_neg (by simp [e1])]; exact h5
    obtain ⟨g1, j1, j2, j3, j4⟩ := hst
    have ht2 : (rsF a o c0 D (6 * p + b) t).1 < 1000 + 6 * p + (b + 1) := by
      unfold rsF
      split
      · show t.1 + 1 < _; omega
      · omega
    obtain ⟨g', k1, k2, k3, k4, k5⟩ := c_setI hB hs hD hp c (b + 1) n g1 _ (by omega) (by omega) ht2 j2 j3 j4
    exact ⟨g', fun Kc => (j1 Kc).trans (k1 Kc), k2, k3, k4, k5⟩
theorem c_setO {D o c0 : Nat} (hB : vB a ≤ 5) (hs : vS a) (hD : D ≤ 99) {h1 : Nat} : ∀ (c p n : Nat) (g : Nat → Int32) (t : Nat × Int32), p + c = min 3 D + 1 → c < n → t.1 < 1000 + 6 * p → pb_BG (pb_sA μ 15 g) a D (vTak a c0 &&& pb_bits (fun b => a (27 + b) == o) (vB a)) → g 4 = nI t.1 → g 5 = t.2 → ∃ g', pX1_settle_L82 h1 n (nI p) (pb_sA μ 15 g) = some ((), pb_sA μ 15 g') ∧ g' 4 = nI (pb_it (rsF a o c0 D) (6 * c) (6 * p) t).1 ∧ g' 5 = (pb_it (rsF a o c0 D) (6 * c) (6 * p) t).2
  | _, _, 0, _, _, _, hn, _, _, _, _ => by omega
  | 0, p, n + 1, g, t, hb, _, ht, hg, h4, h5 => by
    refine ⟨g, ?_, h4, h5⟩
    rw [pX1_settle_L82, hg.1.2.1, if_pos ((nI_ltI (by omega) (by omega)).mpr (by omega))]
  | c + 1, p, n + 1, g, t, hb, hn, ht, hg, h4, h5 => by
    obtain ⟨g1, j1, j2, j3, j4, j5⟩ := c_setI (μ := μ) (h1 := h1) (p := p) hB hs hD (by omega) 6 0 pb_F g t (by omega) (pb_Fgt (by omega)) (by omega) hg h4 h5
    rw [Nat.add_zero] at j3 j4 j5
    obtain ⟨g', k1, k2, k3⟩ := c_setO hB hs hD (h1 := h1) c (p + 1) n g1 _ (by omega) (by omega) (by omega) j2 j3 j4
    have e : pb_it (rsF a o c0 D) (6 * (c + 1)) (6 * p) t = pb_it (rsF a o c0 D) (6 * c) (6 * (p + 1)) (pb_it (rsF a o c0 D) 6 (6 * p) t) := by
      rw [show 6 * (c + 1) = 6 + 6 * c by omega, pb_it_add, show 6 * p + 6 = 6 * (p + 1) by omega]
    rw [e]
    refine ⟨g', ?_, k2, k3⟩
    rw [pX1_settle_L82, hg.1.2.1, if_neg (fun z => (show ¬ min 3 D < p by omega) ((nI_ltI (by omega) (by omega)).mp z))]
    refine (j1 _).trans ?_
    rw [show nI p + (1 : Int32) = nI (p + 1) from nI_add p 1]
    exact k1
end RESTS
