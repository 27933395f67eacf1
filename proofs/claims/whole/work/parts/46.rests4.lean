section RESTS4
variable {K : Nat} {S : pb_S} {μ : pb_M} {a : pb_Vg} {M : Nat}
theorem rsK_of {o c D k : Nat} (h : rsK a o c D k = true) : rsO a o c (k % 6) = true ∧ k / 6 ≤ D := by
  unfold rsK at h
  simpa using h
theorem m_rL12 (hm : pb_MM μ 0 a) (hs : vS a) (hB : vB a ≤ 5) (hob : ∀ b, b < vB a → a (27 + b) < 4) {o c k : Nat} (ho : o < 4) (hc : c < 4) (hD : vDebt a o c ≤ 99) (hk : k < 24) (hg : pb_GN μ a (vDebt a o c)) (Kc : Int32 → pb_M → Option (Int32 × pb_M)) : ∀ (cc e n : Nat) (q : Bool), e + cc = 4 → cc < n → (q = true → k / 6 ≤ vDebt a o c) → pX7_isRest_L12 (nI o) (nI c) (nI k) Kc n (nI (if q = true then 1 else 0)) (nI e) μ = Kc (nI (if (q && pb_all (fun e => !(rsK a o c (vDebt a o c) (6 * e + k % 6)) || decide (rsC a (vDebt a o c) (k / 6) (k % 6) ≤ rsC a (vDebt a o c) e (k % 6))) cc e) = true then 1 else 0)) μ
  | _, _, 0, _, _, hn, _ => by omega
  | 0, e, n + 1, q, hb, _, _ => by
    rw [pX7_isRest_L12, if_pos (show (4 : Int32) ≤ nI e from (nI_leI (a := 4) (by omega) (by omega)).mpr (by omega))]
    unfold pb_all
    rw [Bool.and_true]
  | cc + 1, e, n + 1, q, hb, hn, hq => by
    have n1 : nI e + (1 : Int32) = nI (e + 1) := nI_add e 1
    have hj : k % 6 < 6 := Nat.mod_lt _ (by omega)
    have e6 : (6 : Int32) * nI e + pb_rem (nI k) (6 : Int32) = nI (6 * e + k % 6) := by
      rw [show pb_rem (nI k) (6 : Int32) = nI (k % 6) from q_rem (y := 6) (by omega) (by omega) (by omega), show (6 : Int32) * nI e = nI (6 * e) from pk_mul 6 e, nI_add]
    have hdv : (6 * e + k % 6) / 6 = e := by omega
    have hmd : (6 * e + k % 6) % 6 = k % 6 := by omega
    rw [pX7_isRest_L12, if_neg (show ¬ (4 : Int32) ≤ nI e from fun z => (show ¬ 4 ≤ e by omega) ((nI_leI (a := 4) (by omega) (by omega)).mp z)), e6]
    unfold pb_all
    cases q with
    | false =>
      rw [if_neg (show ¬ false = true from by decide), if_pos (show nI 0 = (0 : Int32) from rfl), n1]
      have := m_rL12 hm hs hB hob ho hc hD hk hg Kc cc (e + 1) n false (by omega) (by omega) (fun h => by cases h)
      rw [if_neg (by decide)] at this
      refine this.trans ?_
      simp
    | true =>
      have hkD := hq rfl
      rw [if_pos rfl, if_neg (by decide), m_isCh hm hs hB hob ho hc hD (by omega), pb_b_some, n1]
      by_cases h1 : rsK a o c (vDebt a o c) (6 * e + k % 6) = true
      · have h2 := rsK_of h1
        rw [hdv, hmd] at h2
        obtain ⟨g1, -⟩ := hg k hk hkD
        obtain ⟨g2, -⟩ := hg (6 * e + k % 6) (by omega) (by omega)
        rw [hdv, hmd] at g2
        rw [if_pos h1, if_neg (by decide), if_pos (q_in (by omega) (by omega)), if_pos (q_in (by omega) (by omega)), q_cl (by omega), q_cl (by omega), g1, g2]
        have c1 := rsC_lt (a := a) (D := vDebt a o c) (p := k / 6) (k := k % 6) hs (by omega) hj
        have c2 := rsC_lt (a := a) (D := vDebt a o c) (p := e) (k := k % 6) hs (by omega) hj
        simp only [neg_lt (show rsC a (vDebt a o c) (k / 6) (k % 6) < 2000000 by omega) (show rsC a (vDebt a o c) e (k % 6) < 2000000 by omega)]
        by_cases h3 : rsC a (vDebt a o c) (k / 6) (k % 6) ≤ rsC a (vDebt a o c) e (k % 6)
        · have := m_rL12 hm hs hB hob ho hc hD hk hg Kc cc (e + 1) n true (by omega) (by omega) hq
          rw [if_pos rfl] at this
          rw [if_neg (show ¬ rsC a (vDebt a o c) e (k % 6) < rsC a (vDebt a o c) (k / 6) (k % 6) by omega)]
          refine this.trans ?_
          simp [h3]
        · have := m_rL12 hm hs hB hob ho hc hD hk hg Kc cc (e + 1) n false (by omega) (by omega) (fun h => by cases h)
          rw [if_neg (by decide)] at this
          rw [if_pos (show rsC a (vDebt a o c) e (k % 6) < rsC a (vDebt a o c) (k / 6) (k % 6) by omega)]
          refine this.trans ?_
          simp [h1, h3]
      · have := m_rL12 hm hs hB hob ho hc hD hk hg Kc cc (e + 1) n true (by omega) (by omega) hq
        rw [if_pos rfl] at this
        rw [if_neg h1, if_pos (show nI 0 = (0 : Int32) from rfl)]
        refine this.trans ?_
        simp [h1]
theorem m_rL78 (hm : pb_MM μ 0 a) (hs : vS a) (hB : vB a ≤ 5) (hob : ∀ b, b < vB a → a (27 + b) < 4) {o c k : Nat} (ho : o < 4) (hc : c < 4) (hD : vDebt a o c ≤ 99) (hk : k < 24) (hg : pb_GN μ a (vDebt a o c)) : ∀ (cc e n : Nat) (q : Bool), e + cc = 6 → cc < n → (q = true → k / 6 ≤ vDebt a o c) → pX7_isRest_L78 (nI o) (nI c) (nI k) n (nI (if q = true then 1 else 0)) (nI e) μ = some (nI (if (q && pb_all (fun e => !(rsO a o c e) || decide (rsG a (vDebt a o c) (k / 6) e ≤ rsG a (vDebt a o c) (k / 6) (k % 6))) cc e) = true then 1 else 0), μ)
  | _, _, 0, _, _, hn, _ => by omega
  | 0, e, n + 1, q, hb, _, _ => by
    rw [pX7_isRest_L78, if_pos (show (6 : Int32) ≤ nI e from (nI_leI (a := 6) (by omega) (by omega)).mpr (by omega))]
    unfold pb_all
    rw [Bool.and_true]
    cases q <;> rfl
  | cc + 1, e, n + 1, q, hb, hn, hq => by
    have n1 : nI e + (1 : Int32) = nI (e + 1) := nI_add e 1
    have hj : k % 6 < 6 := Nat.mod_lt _ (by omega)
    have e6 : (nI k - pb_rem (nI k) (6 : Int32)) + nI e = nI (6 * (k / 6) + e) := by
      rw [show pb_rem (nI k) (6 : Int32) = nI (k % 6) from q_rem (y := 6) (by omega) (by omega) (by omega), pk_sub (Nat.mod_le _ _), nI_add]
      exact congrArg nI (by omega)
    have hdv : (6 * (k / 6) + e) / 6 = k / 6 := by omega
    have hmd : (6 * (k / 6) + e) % 6 = e := by omega
    rw [pX7_isRest_L78, if_neg (show ¬ (6 : Int32) ≤ nI e from fun z => (show ¬ 6 ≤ e by omega) ((nI_leI (a := 6) (by omega) (by omega)).mp z)), e6]
    unfold pb_all
    cases q with
    | false =>
      rw [if_neg (show ¬ false = true from by decide), if_pos (show nI 0 = (0 : Int32) from rfl), n1]
      have := m_rL78 hm hs hB hob ho hc hD hk hg cc (e + 1) n false (by omega) (by omega) (fun h => by cases h)
      rw [if_neg (by decide)] at this
      refine this.trans ?_
      simp
    | true =>
      have hkD := hq rfl
      have hK : rsK a o c (vDebt a o c) (6 * (k / 6) + e) = rsO a o c e := by
        unfold rsK
        rw [hdv, hmd, decide_eq_true hkD, Bool.and_true]
      rw [if_pos rfl, if_neg (by decide), m_isCh hm hs hB hob ho hc hD (by omega), pb_b_some, n1, hK]
      by_cases h1 : rsO a o c e = true
      · obtain ⟨-, g1⟩ := hg k hk hkD
        obtain ⟨-, g2⟩ := hg (6 * (k / 6) + e) (by omega) (by omega)
        rw [hdv, hmd] at g2
        rw [if_pos h1, if_neg (by decide), if_pos (q_in (by omega) (by omega)), if_pos (q_in (by omega) (by omega)), q_cl (by omega), q_cl (by omega), g1, g2]
        have c1 := rsG_lt (a := a) (D := vDebt a o c) (p := k / 6) (k := k % 6) hs (by omega) hj
        have c2 := rsG_lt (a := a) (D := vDebt a o c) (p := k / 6) (k := e) hs (by omega) (by omega)
        simp only [dec_lt (show rsG a (vDebt a o c) (k / 6) (k % 6) < 2000000 by omega) (show rsG a (vDebt a o c) (k / 6) e < 2000000 by omega)]
        by_cases h3 : rsG a (vDebt a o c) (k / 6) e ≤ rsG a (vDebt a o c) (k / 6) (k % 6)
        · have := m_rL78 hm hs hB hob ho hc hD hk hg cc (e + 1) n true (by omega) (by omega) hq
          rw [if_pos rfl] at this
          rw [if_neg (show ¬ rsG a (vDebt a o c) (k / 6) (k % 6) < rsG a (vDebt a o c) (k / 6) e by omega)]
          refine this.trans ?_
          simp [h3]
        · have := m_rL78 hm hs hB hob ho hc hD hk hg cc (e + 1) n false (by omega) (by omega) (fun h => by cases h)
          rw [if_neg (by decide)] at this
          rw [if_pos (show rsG a (vDebt a o c) (k / 6) (k % 6) < rsG a (vDebt a o c) (k / 6) e by omega)]
          refine this.trans ?_
          simp [h1, h3]
      · have := m_rL78 hm hs hB hob ho hc hD hk hg cc (e + 1) n true (by omega) (by omega) hq
        rw [if_pos rfl] at this
        rw [if_neg h1, if_pos (show nI 0 = (0 : Int32) from rfl)]
        refine this.trans ?_
        simp [h1]
theorem m_isRest (hm : pb_MM μ 0 a) (hs : vS a) (hB : vB a ≤ 5) (hob : ∀ b, b < vB a → a (27 + b) < 4) {o c k : Nat} (ho : o < 4) (hc : c < 4) (hD : vDebt a o c ≤ 99) (hk : k < 24) (hg : pb_GN μ a (vDebt a o c)) : pX7_isRest (nI o) (nI c) (nI k) μ = some (nI (if rsR a o c (vDebt a o c) k = true then 1 else 0), μ) := by
  unfold pX7_isRest
  rw [m_isCh hm hs hB hob ho hc hD hk, pb_b_some]
  refine (m_rL12 hm hs hB hob ho hc hD hk hg _ 4 0 pb_F (rsK a o c (vDebt a o c) k) (by omega) (pb_Fgt (by omega)) (fun h => (rsK_of h).2)).trans ?_
  refine (m_rL78 hm hs hB hob ho hc hD hk hg 6 0 pb_F _ (by omega) (pb_Fgt (by omega)) (fun h => by
    rw [Bool.and_eq_true] at h
    exact (rsK_of h.1).2)).trans ?_
  have e : ((rsK a o c (vDebt a o c) k && pb_all (fun e => !(rsK a o c (vDebt a o c) (6 * e + k % 6)) || decide (rsC a (vDebt a o c) (k / 6) (k % 6) ≤ rsC a (vDebt a o c) e (k % 6))) 4 0) && pb_all (fun e => !(rsO a o c e) || decide (rsG a (vDebt a o c) (k / 6) e ≤ rsG a (vDebt a o c) (k / 6) (k % 6))) 6 0) = rsR a o c (vDebt a o c) k := by
    unfold rsR rsB
    by_cases h : rsK a o c (vDebt a o c) k = true
    · obtain ⟨h1, h2⟩ := rsK_of h
      have h3 : pb_all (fun e => !(rsK a o c (vDebt a o c) (6 * e + k % 6)) || decide (rsC a (vDebt a o c) (k / 6) (k % 6) ≤ rsC a (vDebt a o c) e (k % 6))) 4 0 = rsA a (vDebt a o c) (k / 6) (k % 6) := by
        unfold rsA
        apply Bool.eq_iff_iff.mpr
        rw [pb_all_iff, pb_all_iff]
        have hK : ∀ e, rsK a o c (vDebt a o c) (6 * e + k % 6) = decide (e ≤ vDebt a o c) := fun e => by
          unfold rsK
          rw [show (6 * e + k % 6) / 6 = e by omega, show (6 * e + k % 6) % 6 = k % 6 by omega, h1, Bool.true_and]
        constructor
        · intro q e q1 q2
          have := q e q1 (by omega)
          simp only [hK, decide_eq_true (show e ≤ vDebt a o c by omega), Bool.not_true, Bool.false_or] at this
          exact this
        · intro q e q1 q2
          by_cases q3 : e ≤ vDebt a o c
          · simp only [hK, decide_eq_true q3, Bool.not_true, Bool.false_or]
            exact q e q1 (by omega)
          · simp only [hK, decide_eq_false q3, Bool.not_false, Bool.true_or]
      rw [h, h3, h1, decide_eq_true (show k / 6 ≤ min 3 (vDebt a o c) by omega), Bool.true_and, Bool.true_and, Bool.true_and]
    · have h' : rsK a o c (vDebt a o c) k = false := by simpa using h
      rw [h', Bool.false_and, Bool.false_and]
      unfold rsK at h'
      by_cases q : k / 6 ≤ vDebt a o c
      · rw [decide_eq_true q, Bool.and_true] at h'
        rw [h']
        simp
      · rw [decide_eq_false (show ¬ k / 6 ≤ min 3 (vDebt a o c) by omega), Bool.false_and]
  rw [e]
theorem m_restL {o c : Nat} {v : Int32} (hm : pb_MM μ 0 a) (hs : vS a) (hB : vB a ≤ 5) (hob : ∀ b, b < vB a → a (27 + b) < 4) (ho : o < 4) (hc : c < 4) (hD : vDebt a o c ≤ 99) (hg : pb_GN μ a (vDebt a o c)) : ∀ (cc k n : Nat) (t : Nat × Int32), k + cc = 24 → cc < n → t.1 ≤ k → pX7_rests_L69 (nI o) (nI c) v n (nI t.1) t.2 (nI k) μ = some (if v = (0 : Int32) then nI (pb_it (rsF a o c (vDebt a o c)) cc k t).1 else (pb_it (rsF a o c (vDebt a o c)) cc k t).2, μ)
  | _, _, 0, _, _, hn, _ => by omega
  | 0, k, n + 1, t, hb, _, _ => by
    rw [pX7_rests_L69, if_pos (show (24 : Int32) ≤ nI k from (nI_leI (a := 24) (by omega) (by omega)).mpr (by omega))]
    show _ = some (if v = (0 : Int32) then nI t.1 else t.2, μ)
    by_cases h : v = (0 : Int32)
    · rw [if_pos h, if_pos h]
    · rw [if_neg h, if_neg h]
  | cc + 1, k, n + 1, t, hb, hn, ht => by
    have n1 : nI k + (1 : Int32) = nI (k + 1) := nI_add k 1
    have n2 : nI t.1 + (1 : Int32) = nI (t.1 + 1) := nI_add t.1 1
    have ih := fun t' => m_restL (v := v) hm hs hB hob ho hc hD hg cc (k + 1) n t' (by omega) (by omega)
    rw [pX7_rests_L69, if_neg (show ¬ (24 : Int32) ≤ nI k from fun z => (show ¬ 24 ≤ k by omega) ((nI_leI (a := 24) (by omega) (by omega)).mp z)), m_isRest hm hs hB hob ho hc hD (by omega) hg, pb_b_some, n1, n2]
    show _ = some (if v = (0 : Int32) then nI (pb_it (rsF a o c (vDebt a o c)) cc (k + 1) (rsF a o c (vDebt a o c) k t)).1 else (pb_it (rsF a o c (vDebt a o c)) cc (k + 1) (rsF a o c (vDebt a o c) k t)).2, μ)
    by_cases h : rsR a o c (vDebt a o c) k = true
    · rw [if_pos h, if_neg (by decide)]
      by_cases h2 : t.1 = 0
      · have e : rsF a o c (vDebt a o c) k t = (t.1 + 1, nI (10 * (k / 6) + k % 6)) := by
          unfold rsF
          rw [if_pos h, if_pos h2]
        rw [e, ← ih _ (by show t.1 + 1 ≤ k + 1; omega), if_pos (show nI t.1 = (0 : Int32) from by rw [h2]; rfl), show pb_rem (nI k) (6 : Int32) = nI (k % 6) from q_rem (y := 6) (by omega) (by omega) (by omega), show nI k / (6 : Int32) = nI (k / 6) from q_div (y := 6) (by omega) (by omega) (by omega), show (10 : Int32) * nI (k / 6) = nI (10 * (k / 6)) from pk_mul 10 _, nI_add]
      · have e : rsF a o c (vDebt a o c) k t = (t.1 + 1, t.2) := by
          unfold rsF
          rw [if_pos h, if_neg h2]
        rw [e, ← ih _ (by show t.1 + 1 ≤ k + 1; omega), if_neg (show ¬ nI t.1 = (0 : Int32) from fun q => h2 ((nI_eq (b := 0) (by omega) (by omega)).mp q))]
    · have e : rsF a o c (vDebt a o c) k t = t := by
        unfold rsF
        rw [if_neg h]
      rw [e, ← ih _ (by omega), if_neg h, if_pos (show nI 0 = (0 : Int32) from rfl)]
theorem op_rests (hA : InvA K S) (hK : K + 1 ≤ 64) (x y v : Int32) : pOp K S (pX6_rests x y v) (pX7_rests x y v) := by
  have hP := hA.1.1.1.1
  have hB := hA.1.1.1.2
  have hs := hA.s
  have hK2 := hA.1.2
  have hob : ∀ b, b < vB S.1 → S.1 (27 + b) < 4 := fun b hb => by have := (hA.1.1.2.1 b hb).1; omega
  by_cases h1 : inR x (vP S.1) = true
  · by_cases h2 : inR y (vP S.1) = true
    · obtain ⟨o, ho, rfl⟩ := inR_of h1 (by omega)
      obtain ⟨c, hc, rfl⟩ := inR_of h2 (by omega)
      have hD := (hA.1.1.2.2.1 o c (by omega) (by omega)).1
      by_cases e : o = c
      · refine pOp.read hA hK (-2) (pC.same fun μ hC => ?_) (pM.same fun μ hM => ?_)
        · have hc4 : pb_CR (μ.1 (4 + 1)) 0 S.1 := hC.1
          unfold pX6_rests
          rw [c_hasP hc4, if_pos h1, pb_b_some, if_neg (by decide), c_hasP hc4, if_pos h2, pb_b_some, if_neg (by decide), if_pos (by rw [e])]
        · unfold pX7_rests
          rw [m_isP hM.1.2.2.1 hP, if_pos h1, pb_b_some, if_neg (by decide), m_isP hM.1.2.2.1 hP, if_pos h2, pb_b_some, if_neg (by decide), if_pos (by rw [e])]
      · have hne : ¬ nI o = nI c := fun z => e ((nI_eq (by omega) (by omega)).mp z)
        by_cases h3 : inR v 2 = true
        · obtain ⟨hv0, hv1⟩ := inR_lo h3 (by omega) (m := 1) (by omega)
          by_cases h4 : vDebt S.1 o c = 0
          · refine pOp.read hA hK (-9) (pC.same fun μ hC => ?_) (pM.same fun μ hM => ?_)
            · have hc4 : pb_CR (μ.1 (4 + 1)) 0 S.1 := hC.1
              unfold pX6_rests
              rw [c_hasP hc4, if_pos h1, pb_b_some, if_neg (by decide), c_hasP hc4, if_pos h2, pb_b_some, if_neg (by decide), if_neg hne, if_neg hv0, if_pos (show v ≤ (1 : Int32) from hv1), c_debt hc4 (by omega) (by omega), pb_b_some, h4, if_pos (show nI 0 = (0 : Int32) from rfl)]
            · obtain ⟨d1, d2, d3⟩ := m_debt0 hM.1 (show o < 4 by omega) (show c < 4 by omega)
              unfold pX7_rests
              rw [m_isP hM.1.2.2.1 hP, if_pos h1, pb_b_some, if_neg (by decide), m_isP hM.1.2.2.1 hP, if_pos h2, pb_b_some, if_neg (by decide), if_neg hne, m_in]
              simp only [in01]
              rw [if_pos h3, pb_b_some, if_neg (by decide), d1, pb_b_some, if_pos d2, d3, h4, if_pos (show nI 0 = (0 : Int32) from rfl)]
          · have hd0 : ¬ nI (vDebt S.1 o c) = (0 : Int32) := fun q => h4 ((nI_eq (b := 0) (by omega) (by omega)).mp q)
            refine pOp.read hA hK (if v = (0 : Int32) then nI (rsT S.1 o c).1 else (rsT S.1 o c).2) (pC.read fun μ hC => ?_) (pM.read fun μ hM => ?_)
            · have hc4 : pb_CR (μ.1 (4 + 1)) 0 S.1 := hC.1
              obtain ⟨μ1, g1, g2, g3, g4, g5⟩ := c_settle hC.1 hA.1.1 (by omega) ho hc
              refine ⟨μ1, ?_, g4, g5⟩
              unfold pX6_rests pX1_howMany pX1_first
              rw [c_hasP hc4, if_pos h1, pb_b_some, if_neg (by decide), c_hasP hc4, if_pos h2, pb_b_some, if_neg (by decide), if_neg hne, if_neg hv0, if_pos (show v ≤ (1 : Int32) from hv1), c_debt hc4 (by omega) (by omega), pb_b_some, if_neg hd0, g1, pb_b_some]
              by_cases hv : v = (0 : Int32)
              · rw [if_pos hv, if_pos hv, pb_b_some, g2]
              · rw [if_neg hv, if_neg hv, pb_b_some, g3]
            · obtain ⟨d1, d2, d3⟩ := m_debt0 hM.1 (show o < 4 by omega) (show c < 4 by omega)
              obtain ⟨r1, r2, g1, g2⟩ := m_gains hM.1 hs (show o < 4 by omega) (show c < 4 by omega) hD 24 0 pb_F (μ.1 26) (μ.1 27) (by omega) (pb_Fgt (by omega)) (fun j hj => by omega)
              have e2 : pb_sA (pb_sA μ 26 (μ.1 26)) 27 (μ.1 27) = μ := by rw [pb_sA_self, pb_sA_self]
              rw [e2] at g1
              have hm1 : pb_MM (pb_sA (pb_sA μ 26 r1) 27 r2) 0 S.1 := (hM.ag ((agM.sA (by omega)).tr (agM.sA (by omega)))).1
              have hgn : pb_GN (pb_sA (pb_sA μ 26 r1) 27 r2) S.1 (vDebt S.1 o c) := fun k hk hkD => by
                rw [pb_sA_ne (show (26 : Nat) ≠ 27 by decide), pb_sA_eq, pb_sA_eq]
                exact g2 k hk hkD
              have k1 := m_restL (v := v) hm1 hs hB hob (show o < 4 by omega) (show c < 4 by omega) hD hgn 24 0 pb_F (0, -9) (by omega) (pb_Fgt (by omega)) (by show 0 ≤ 0; omega)
              refine ⟨pb_sA (pb_sA μ 26 r1) 27 r2, ?_, (agM.sA (by omega)).tr (agM.sA (by omega)), (frM.sA (by omega)).tr (frM.sA (by omega))⟩
              have g1' : pX7_layGains (nI o) (nI c) μ = some ((), pb_sA (pb_sA μ 26 r1) 27 r2) := g1
              unfold pX7_rests
              rw [m_isP hM.1.2.2.1 hP, if_pos h1, pb_b_some, if_neg (by decide), m_isP hM.1.2.2.1 hP, if_pos h2, pb_b_some, if_neg (by decide), if_neg hne, m_in]
              simp only [in01]
              rw [if_pos h3, pb_b_some, if_neg (by decide), d1, pb_b_some, if_pos d2, d3, if_neg hd0, g1', pb_b_some]
              exact k1
        · refine pOp.read hA hK (-2) (pC.same fun μ hC => ?_) (pM.same fun μ hM => ?_)
          · have hc4 : pb_CR (μ.1 (4 + 1)) 0 S.1 := hC.1
            unfold pX6_rests
            rw [c_hasP hc4, if_pos h1, pb_b_some, if_neg (by decide), c_hasP hc4, if_pos h2, pb_b_some, if_neg (by decide), if_neg hne]
            rcases inR_out (m := 1) h3 (by omega) with q | ⟨q, q'⟩
            · rw [if_pos q]
            · rw [if_neg q, if_neg (show ¬ v ≤ (1 : Int32) from q')]
          · unfold pX7_rests
            rw [m_isP hM.1.2.2.1 hP, if_pos h1, pb_b_some, if_neg (by decide), m_isP hM.1.2.2.1 hP, if_pos h2, pb_b_some, if_neg (by decide), if_neg hne, m_in]
            simp only [in01]
            rw [if_neg h3, pb_b_some, if_pos (show nI 0 = (0 : Int32) from rfl)]
    · refine pOp.read hA hK (-1) (pC.same fun μ hC => ?_) (pM.same fun μ hM => ?_)
      · have hc4 : pb_CR (μ.1 (4 + 1)) 0 S.1 := hC.1
        unfold pX6_rests
        rw [c_hasP hc4, if_pos h1, pb_b_some, if_neg (by decide), c_hasP hc4, if_neg h2, pb_b_some, if_pos (show nI 0 = (0 : Int32) from rfl)]
      · unfold pX7_rests
        rw [m_isP hM.1.2.2.1 hP, if_pos h1, pb_b_some, if_neg (by decide), m_isP hM.1.2.2.1 hP, if_neg h2, pb_b_some, if_pos (show nI 0 = (0 : Int32) from rfl)]
  · refine pOp.read hA hK (-1) (pC.same fun μ hC => ?_) (pM.same fun μ hM => ?_)
    · have hc4 : pb_CR (μ.1 (4 + 1)) 0 S.1 := hC.1
      unfold pX6_rests
      rw [c_hasP hc4, if_neg h1, pb_b_some, if_pos (show nI 0 = (0 : Int32) from rfl)]
    · unfold pX7_rests
      rw [m_isP hM.1.2.2.1 hP, if_neg h1, pb_b_some, if_pos (show nI 0 = (0 : Int32) from rfl)]
end RESTS4
