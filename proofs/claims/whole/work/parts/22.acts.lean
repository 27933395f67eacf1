/-! THE ROW OF ACTS -/
theorem q_cp {s d n n0 n1 : Nat} (h1 : s + n ≤ n0) (h2 : d + n ≤ n1) (h0 : n0 < 1000000) (h3 : n1 < 1000000) : pb_cp (nI s) (nI d) (nI n) n0 n1 = true := by
  unfold pb_cp
  rw [q_cl (by omega), q_cl (by omega), q_cl (by omega), decide_eq_true (nI_pos' (by omega)), decide_eq_true (nI_pos' (by omega)), decide_eq_true (nI_pos' (by omega)), decide_eq_true h1, decide_eq_true h2]
  rfl
theorem CR_cpy {f g : Nat → Int32} {a : pb_Vg} {o d : Nat} (h : pb_CR f o a) : pb_CR (va_cpy f g o d 52) d a := by
  intro j hj
  unfold va_cpy
  rw [if_pos (by omega), show o + (d + j - d) = o + j by omega]
  exact h j hj
theorem CR_cpy_ne {f g : Nat → Int32} {a : pb_Vg} {o d q : Nat} (h : pb_CR g q a) (hq : q + 52 ≤ d ∨ d + 52 ≤ q) : pb_CR (va_cpy f g o d 52) q a := by
  intro j hj
  unfold va_cpy
  rw [if_neg (by omega)]
  exact h j hj
theorem lp_copy {γ : Type} (F : Nat → Nat → (Nat → Int32) → γ) (Kf : (Nat → Int32) → γ) (g : Nat → Int32) (o e : Nat) (r0 : Nat → Int32) (h0 : ∀ n r, (∀ j, (j < o ∨ o + e ≤ j) → r j = r0 j) → F (n + 1) e r = Kf r) (hs : ∀ n b r, b < e → (∀ j, (j < o ∨ o + e ≤ j) → r j = r0 j) → F (n + 1) b r = F n (b + 1) (upd r (o + b) (g b))) (n : Nat) (hn : e < n) : ∃ r, F n 0 r0 = Kf r ∧ (∀ k, k < e → r (o + k) = g k) ∧ (∀ j, (j < o ∨ o + e ≤ j) → r j = r0 j) := by
  obtain ⟨h1, h2⟩ := lp_it F (fun b r => upd r (o + b) (g b)) (fun b r => (∀ k, k < b → r (o + k) = g k) ∧ ∀ j, (j < o ∨ o + e ≤ j) → r j = r0 j) e Kf (fun n r h => h0 n r h.2) (fun n b r hb h => ⟨hs n b r hb h.2, fun k hk => by
      by_cases q : k = b
      · subst q
        rw [upd_eq]
      · rw [upd_ne (by omega)]
        exact h.1 k (by omega), fun j hj => by rw [upd_ne (by omega)]; exact h.2 j hj⟩) e 0 n r0 (by omega) hn ⟨fun k hk => by omega, fun _ _ => rfl⟩
  exact ⟨_, h1, h2.1, h2.2⟩
def pb_push (S : pb_S) : pb_S := (S.1, S.2.1, S.2.2.1, min 14 (S.2.2.2.1 + 1), (fun j => if j = 0 then S.1 else S.2.2.2.2.1 (j - 1)), S.2.2.2.2.2)
section ACT
variable {K : Nat} {S : pb_S} {μ : pb_M}
theorem c_rem (hA : InvA K S) (hC : InvC μ S) : ∃ μ1, pX0_remember 4 μ = some ((), μ1) ∧ InvC μ1 (pb_push S) ∧ frC μ μ1 := by
  obtain ⟨h1, h2, ⟨c, hc, h3, h4, h5⟩, h6, h7⟩ := hC
  have hsz := hA.2.2.1.1
  have e0 : pb_ln 9 = 728 := rfl
  have hst : pX5_store 4 9 (nI c) μ = some ((), pb_sA μ 9 (va_cpy (μ.1 5) (μ.1 9) 0 (c * 52) 52)) := by
    unfold pX5_store
    rw [e0]
    simp (disch := omega) only [lz, q_mul, q_cp, q_cl, if_true]
  have e8 : (pb_sA μ 9 (va_cpy (μ.1 5) (μ.1 9) 0 (c * 52) 52)).1 8 = μ.1 8 := pb_sA_ne (by decide)
  have q1 : ((c + 1) % 14) < 14 := Nat.mod_lt _ (by omega)
  have em : (if nI (S.2.2.2.1 + 1) < nI 14 then nI (S.2.2.2.1 + 1) else nI 14) = nI (min 14 (S.2.2.2.1 + 1)) := by
    simp (disch := omega) only [q_lt]
    split
    · rw [Nat.min_eq_right (by omega)]
    · rw [Nat.min_eq_left (by omega)]
  refine ⟨pb_sA (pb_sA μ 9 (va_cpy (μ.1 5) (μ.1 9) 0 (c * 52) 52)) 8 (upd (upd (μ.1 8) 2 (nI ((c + 1) % 14))) 1 (nI (min 14 (S.2.2.2.1 + 1)))), ?_, ?_, (frC.sA (by omega)).tr (frC.sA (by omega))⟩
  · unfold pX0_remember
    rw [h4, hst, pb_b_some]
    simp (disch := omega) only [e8, h4, lz, q_add, q_rem, pb_sA_eq, upd_ne, h3, pb_sA_sA, em]
  · refine ⟨?_, ?_, ⟨(c + 1) % 14, q1, ?_, ?_, fun j hj => ?_⟩, ?_, ?_⟩
    · rw [pb_sA_ne (by decide), pb_sA_ne (by decide)]; exact h1
    · rw [pb_sA_ne (by decide), pb_sA_ne (by decide), pb_sA_ne (by decide), pb_sA_ne (by decide)]; exact h2
    · rw [pb_sA_eq, upd_eq]; rfl
    · rw [pb_sA_eq, upd_ne (by decide), upd_eq]
    · rw [pb_sA_ne (by decide), pb_sA_eq]
      have hj' : j < min 14 (S.2.2.2.1 + 1) := hj
      by_cases e : j = 0
      · subst e
        show pb_CR _ (52 * (((c + 1) % 14 + 13 - 0) % 14)) S.1
        rw [show 52 * (((c + 1) % 14 + 13 - 0) % 14) = c * 52 by omega]
        exact CR_cpy h1
      · show pb_CR _ (52 * (((c + 1) % 14 + 13 - j) % 14)) (if j = 0 then S.1 else S.2.2.2.2.1 (j - 1))
        rw [if_neg e, show (((c + 1) % 14 + 13 - j) % 14) = ((c + 13 - (j - 1)) % 14) by omega]
        exact CR_cpy_ne (h5 (j - 1) (by omega)) (by omega)
    · rw [pb_sA_ne (by decide), pb_sA_ne (by decide), pb_sA_ne (by decide), pb_sA_ne (by decide)]; exact h6
    · exact h7
theorem MR_of {r r' : Nat → Int32} {o o' : Nat} {a : pb_Vg} (h : pb_MR r o a) (hr : ∀ k, k < 45 → r' (o' + k) = r (o + k)) : pb_MR r' o' a := fun j hj => by rw [hr j hj]; exact h j hj
theorem m_rem (hA : InvA K S) (hM : InvM μ S) : ∃ μ1, pX7_keepAct μ = some ((), μ1) ∧ InvM μ1 (pb_push S) ∧ frM μ μ1 := by
  obtain ⟨h1, h2, ⟨c, hc, h3, h4, h5⟩, h6, h7⟩ := hM
  have hsz := hA.2.2.1.1
  have hF : ∀ (Kc : pb_M → Option (Unit × pb_M)), ∃ r, pX7_keepAct_L2 Kc pb_F (nI 0) μ = Kc (pb_sA μ 25 r) ∧ (∀ k, k < 45 → r (45 * c + k) = μ.1 21 k) ∧ (∀ j, (j < 45 * c ∨ 45 * c + 45 ≤ j) → r j = μ.1 25 j) := fun Kc => by
    have := lp_copy (fun n b r => pX7_keepAct_L2 Kc n (nI b) (pb_sA μ 25 r)) (fun r => Kc (pb_sA μ 25 r)) (fun k => μ.1 21 k) (45 * c) 45 (μ.1 25) (fun n r _ => by
      simp (disch := omega) only [pX7_keepAct_L2, lz, q_add, q_in, q_cl, q_eq, q_lt, q_le, q_9, q_b10, q_b01, Nat.one_ne_zero, eq_self, if_true, if_false, pb_b_some, Nat.le_refl]) (fun n b r hb _ => by
      have e19 : (pb_sA μ 25 r).1 19 = μ.1 19 := pb_sA_ne (by decide)
      have e21 : (pb_sA μ 25 r).1 21 = μ.1 21 := pb_sA_ne (by decide)
      simp (disch := omega) only [pX7_keepAct_L2, e19, e21, h4, q_mul, lz, q_add, q_in, q_cl, q_eq, q_lt, q_le, q_9, q_b10, q_b01, Nat.one_ne_zero, eq_self, if_true, if_false, pb_b_some, pb_sA_sA, pb_sA_eq]
      rw [if_neg (by omega)]) pb_F (pb_Fgt (by omega))
    rwa [pb_sA_self] at this
  have q1 : ((c + 1) % 14) < 14 := Nat.mod_lt _ (by omega)
  unfold pX7_keepAct
  rw [show (0 : Int32) = nI 0 from rfl]
  obtain ⟨r, g1, g2, g3⟩ := hF _
  rw [g1]
  have e19 : (pb_sA μ 25 r).1 19 = μ.1 19 := pb_sA_ne (by decide)
  refine ⟨pb_sA (pb_sA μ 25 r) 19 (upd (upd (μ.1 19) 13 (nI ((c + 1) % 14))) 12 (nI (min 14 (S.2.2.2.1 + 1)))), ?_, ?_, (frM.sA (by omega)).tr (frM.sA (by omega))⟩
  · simp (disch := omega) only [e19, h4, lz, q_add, q_rem, pb_sA_eq, upd_ne, h3, pb_sA_sA, q_le]
    by_cases e : 14 ≤ S.2.2.2.1
    · rw [if_pos e, Nat.min_eq_left (by omega)]
    · rw [if_neg e, Nat.min_eq_right (by omega)]
  · have f0 : ∀ k, k ≠ 12 → k ≠ 13 → (pb_sA (pb_sA μ 25 r) 19 (upd (upd (μ.1 19) 13 (nI ((c + 1) % 14))) 12 (nI (min 14 (S.2.2.2.1 + 1))))).1 19 k = μ.1 19 k := fun k k1 k2 => by rw [pb_sA_eq, upd_ne k1, upd_ne k2]
    refine ⟨⟨?_, ?_, ?_, ?_⟩, ⟨?_, ?_⟩, ⟨(c + 1) % 14, q1, ?_, ?_, fun j hj => ?_⟩, ?_, ?_⟩
    · rw [pb_sA_ne (by decide), pb_sA_ne (by decide)]; exact h1.1
    · rw [pb_sA_ne (by decide), pb_sA_ne (by decide)]; exact h1.2.1
    · rw [f0 0 (by decide) (by decide)]; exact h1.2.2.1
    · rw [f0 1 (by decide) (by decide)]; exact h1.2.2.2
    · rw [f0 9 (by decide) (by decide)]; exact h2.1
    · rw [pb_sA_ne (by decide), pb_sA_ne (by decide)]; exact h2.2
    · rw [pb_sA_eq, upd_eq]; rfl
    · rw [pb_sA_eq, upd_ne (by decide), upd_eq]
    · rw [pb_sA_ne (by decide), pb_sA_eq]
      have hj' : j < min 14 (S.2.2.2.1 + 1) := hj
      by_cases e : j = 0
      · subst e
        show pb_MR _ (45 * (((c + 1) % 14 + 13 - 0) % 14)) S.1
        rw [show 45 * (((c + 1) % 14 + 13 - 0) % 14) = 45 * c by omega]
        exact MR_of h1.1 (fun k hk => by rw [g2 k hk, Nat.mul_zero, Nat.zero_add])
      · show pb_MR _ (45 * (((c + 1) % 14 + 13 - j) % 14)) (if j = 0 then S.1 else S.2.2.2.2.1 (j - 1))
        rw [if_neg e, show (((c + 1) % 14 + 13 - j) % 14) = ((c + 13 - (j - 1)) % 14) by omega]
        exact MR_of (h5 (j - 1) (by omega)) (fun k hk => g3 _ (by omega))
    · rw [pb_sA_ne (by decide), pb_sA_ne (by decide), pb_sA_ne (by decide), pb_sA_ne (by decide)]; exact h6
    · exact h7
theorem vSame.rf {a : pb_Vg} : vSame a a := ⟨rfl, rfl, fun _ _ => rfl⟩
theorem vSame.to {v a a' : pb_Vg} (h : vSame v a) (h' : vSame a' a) : vSame v a' := ⟨h.1.trans h'.1.symm, h.2.1.trans h'.2.1.symm, fun b hb => by
  have hb' : b < vB a := by have e : vB a' = vB a := h'.2.1; rw [e] at hb; exact hb
  rw [h.2.2 b hb', h'.2.2 b hb']⟩
theorem InvA.act (hA : InvA K S) (hK : K + 1 ≤ 64) {a' : pb_Vg} (ha : vOk (100 + 10 * (K + 1)) a') (hs : vSame a' S.1) : InvA (K + 1) (a', (pb_push S).2) := by
  obtain ⟨⟨h1, -⟩, h2, ⟨h3, h4⟩, h5⟩ := hA
  refine ⟨⟨ha, hK⟩, h2, ⟨Nat.min_le_left _ _, fun j hj => ?_⟩, fun s hss v hv => ⟨(h5 s hss v hv).1.mono (by omega), (h5 s hss v hv).2.to hs⟩⟩
  have hj' : j < min 14 (S.2.2.2.1 + 1) := hj
  show vOk _ (if j = 0 then S.1 else S.2.2.2.2.1 (j - 1)) ∧ vSame (if j = 0 then S.1 else S.2.2.2.2.1 (j - 1)) a'
  by_cases e : j = 0
  · rw [if_pos e]
    exact ⟨h1.mono (by omega), vSame.rf.to hs⟩
  · rw [if_neg e]
    exact ⟨(h4 (j - 1) (by omega)).1.mono (by omega), (h4 (j - 1) (by omega)).2.to hs⟩
theorem InvC.vil (hC : InvC μ S) {f : Nat → Int32} {a' : pb_Vg} (hf : pb_CR f 0 a') : InvC (pb_sA μ 5 f) (a', S.2) := by
  obtain ⟨h1, h2, h3, h6, h7⟩ := hC
  refine ⟨by rw [pb_sA_eq]; exact hf, ?_, ?_, ?_, h7⟩
  · rw [pb_sA_ne (by decide), pb_sA_ne (by decide)]; exact h2
  · rw [pb_sA_ne (by decide), pb_sA_ne (by decide)]; exact h3
  · rw [pb_sA_ne (by decide), pb_sA_ne (by decide)]; exact h6
theorem InvM.vil (hM : InvM μ S) {r : Nat → Int32} {a' : pb_Vg} (hf : pb_MM (pb_sA μ 21 r) 0 a') : InvM (pb_sA μ 21 r) (a', S.2) := by
  obtain ⟨h1, h2, h3, h6, h7⟩ := hM
  refine ⟨hf, ?_, ?_, ?_, h7⟩
  · rw [pb_sA_ne (by decide), pb_sA_ne (by decide)]; exact h2
  · rw [pb_sA_ne (by decide), pb_sA_ne (by decide)]; exact h3
  · rw [pb_sA_ne (by decide), pb_sA_ne (by decide)]; exact h6
end ACT
