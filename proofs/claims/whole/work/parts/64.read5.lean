section READ5
variable {K : Nat} {S : pb_S} {μ μ1 μ2 : pb_M} {z : pb_Vg} {M : Nat} {t : Nat → Nat} {L p : Nat}
def RD (μ : pb_M) (t : Nat → Nat) (L : Nat) (z : pb_Vg) (p : Nat) : Prop := (pb_TM μ t L ∧ FS μ (.inr p)) ∧ (μ.1 19 6 = nI (vP z) ∧ μ.1 19 7 = nI (vB z)) ∧ pb_MR (μ.1 22) 0 z ∧ ∀ b, b < vB z → μ.1 23 b = nI (z (37 + b))
def fin2 (t : Nat → Nat) (L : Nat) (z : pb_Vg) (p : Nat) : Sum Nat Nat := match flt t L z p with
  | some q => .inl q
  | none => .inr (p + 1 + fw (t p))
theorem MR_k {r : Nat → Int32} {o k x : Nat} (h : pb_MR r o z) (hk : k < 2 ∨ (37 ≤ k ∧ k < 42)) : pb_MR r o (pb_u z k x) := fun j hj => by
  have : pb_pi j ≠ k := by
    unfold pb_pi
    split
    · omega
    · split
      · omega
      · split
        · omega
        · split
          · omega
          · omega
  rw [pb_u_ne this]
  exact h j hj
theorem sq1 {b : Bool} : ∀ q, fn2 b (.inr (p + 1 + 0)) = .inr q → q = p + 1 + 1 := fun q h => by
  cases b with
  | true => cases h
  | false => cases h; rfl
theorem sq2 {b c : Bool} : ∀ q, fn2 c (fn2 b (.inr (p + 1 + 0))) = .inr q → q = p + 1 + 2 := fun q h => by
  cases b with
  | true => cases h
  | false =>
    cases c with
    | true => cases h
    | false => cases h; rfl
theorem fin_2 (hb : bgn z (t p) = true) (hw : fw (t p) = 2) : fn2 (fbad t L z p 1) (fn2 (fbad t L z p 0) (.inr (p + 1 + 0))) = fin2 t L z p := by
  unfold fin2 flt
  rw [if_pos hb, hw]
  show _ = (match Option.map (p + 1 + ·) (if fbad t L z p 0 = true then some 0 else if fbad t L z p (0 + 1) = true then some (0 + 1) else none) with
    | some q => Sum.inl q
    | none => Sum.inr (p + 1 + 2) : Sum Nat Nat)
  cases fbad t L z p 0 <;> cases fbad t L z p 1 <;> rfl
theorem fin_3 (hb : bgn z (t p) = true) (hw : fw (t p) = 3) : fn2 (fbad t L z p 2) (fn2 (fbad t L z p 1) (fn2 (fbad t L z p 0) (.inr (p + 1 + 0)))) = fin2 t L z p := by
  unfold fin2 flt
  rw [if_pos hb, hw]
  show _ = (match Option.map (p + 1 + ·) (if fbad t L z p 0 = true then some 0 else if fbad t L z p (0 + 1) = true then some (0 + 1) else if fbad t L z p (0 + 1 + 1) = true then some (0 + 1 + 1) else none) with
    | some q => Sum.inl q
    | none => Sum.inr (p + 1 + 3) : Sum Nat Nat)
  cases fbad t L z p 0 <;> cases fbad t L z p 1 <;> cases fbad t L z p 2 <;> rfl
theorem fbad_no (h : flt t L z p = none) {k : Nat} (hk : k < fw (t p)) : fbad t L z p k = false := by
  unfold flt at h
  by_cases e : bgn z (t p) = true
  · rw [if_pos e] at h
    cases q : pb_fst (fbad t L z p) (fw (t p)) 0 with
    | some x => rw [q] at h; cases h
    | none => exact pb_fst_none q k (by omega) (by omega)
  · rw [if_neg e] at h
    cases h
theorem inc10 (h : RD μ t L z p) (hp : p ≤ 58) : pb_TM (pb_sA μ 19 (upd (μ.1 19) 10 (nI (p + 1)))) t L ∧ FS (pb_sA μ 19 (upd (μ.1 19) 10 (nI (p + 1)))) (.inr (p + 1 + 0)) ∧ (pb_sA μ 19 (upd (μ.1 19) 10 (nI (p + 1)))).1 19 6 = nI (vP z) ∧ (pb_sA μ 19 (upd (μ.1 19) 10 (nI (p + 1)))).1 19 7 = nI (vB z) := by
  obtain ⟨⟨h1, h2⟩, ⟨h3, h4⟩, -, -⟩ := h
  refine ⟨TM_gr h1 (GR.s19 (by omega)), ⟨by rw [pb_sA_eq, upd_eq], by rw [pb_sA_eq, upd_ne (by decide)]; exact h2.2.1, by omega⟩, by rw [pb_sA_eq, upd_ne (by decide)]; exact h3, by rw [pb_sA_eq, upd_ne (by decide)]; exact h4⟩
/-- the result of reading a part -/
def PT (μ : pb_M) (t : Nat → Nat) (L : Nat) (z : pb_Vg) (p : Nat) (μ1 : pb_M) : Prop := GR μ μ1 ∧ (∀ q, flt t L z p = some q → μ1.1 19 11 = nI q ∧ q ≤ 60) ∧ (flt t L z p = none → RD μ1 t L (telT t z p) (p + 1 + fw (t p)))
theorem PT_no (h : RD μ t L z p) (hb : bgn z (t p) = false) : PT μ t L z p (pb_sA μ 19 (upd (μ.1 19) 11 (μ.1 19 10))) := by
  have hf : flt t L z p = some p := by unfold flt; rw [hb, if_neg (by decide)]
  refine ⟨GR.s19 (by omega), fun q hq => ?_, fun hq => by rw [hf] at hq; cases hq⟩
  rw [hf] at hq
  cases hq
  exact ⟨by rw [pb_sA_eq, upd_eq]; exact h.1.2.1, h.1.2.2.2⟩
theorem m_partP (h : RD μ t L z p) (hz : PI z) (hL : L ≤ 56) (h255 : ∀ j, j < L → t j ≤ 255) (hp : p < L) (ec : t p = 80) (hP4 : vP z < 4) : ∃ μ1, pX7_readPart (nI (t p)) μ = some ((), μ1) ∧ PT μ t L z p μ1 := by
  have hbg : bgn z (t p) = true := by unfold bgn; rw [if_neg (by omega), if_neg (by omega), if_pos ec]; simpa using hP4
  have hw : fw (t p) = 2 := by unfold fw; rw [if_pos ec]
  have hfg : ∀ k, decide (48 + 0 ≤ t (p + 1 + k) ∧ t (p + 1 + k) ≤ 48 + 9) = fgd t z p k := fun k => by
    unfold fgd fok
    rw [if_neg (by omega), if_neg (by omega), Bool.and_true]
  obtain ⟨a1, a2, a3, a4⟩ := inc10 h (by omega)
  have s1 := h.1.2.1
  generalize ha : pb_sA μ 19 (upd (μ.1 19) 10 (nI (p + 1))) = μa at a1 a2 a3 a4
  have gra : GR μ μa := by rw [← ha]; exact GR.s19 (by omega)
  have r22 : μa.1 22 = μ.1 22 := by rw [← ha]; exact pb_sA_ne (by decide)
  obtain ⟨μb, b1, b2, b3⟩ := m_fig (z := z) (p := p) (k := 0) (lo := 0) (hi := 9) a1 hL h255 (by omega) (by omega) a2 (fun q hq => by cases hq; rfl) (fun _ _ => hfg 0)
  generalize hv0 : fv2 (fbad t L z p 0) 0 (t (p + 1 + 0) - 48) (.inr (p + 1 + 0)) = v0 at b1
  have b6 : μb.1 19 6 = nI (vP z) := by rw [b3.2.1 6 (by omega) (by omega)]; exact a3
  obtain ⟨μc, c1, c2, c3⟩ := m_fig (μ := pb_sA μb 22 (upd (μb.1 22) (vP z) (nI v0))) (z := z) (p := p) (k := 1) (lo := 0) (hi := 9) (TM_gr (TM_gr a1 b3.gr) GR.s22) hL h255 (by omega) (by omega) (FS_at b2 (by rw [pb_sA_ne (by decide)]) (by rw [pb_sA_ne (by decide)])) sq1 (fun _ _ => hfg 1)
  generalize hv1 : fv2 (fbad t L z p 1) 0 (t (p + 1 + 1) - 48) (fn2 (fbad t L z p 0) (.inr (p + 1 + 0))) = v1 at c1
  have c6 : μc.1 19 6 = nI (vP z) := by rw [c3.2.1 6 (by omega) (by omega), pb_sA_ne (by decide)]; exact b6
  have c7 : μc.1 19 7 = nI (vB z) := by rw [c3.2.1 7 (by omega) (by omega), pb_sA_ne (by decide), b3.2.1 7 (by omega) (by omega)]; exact a4
  have c22 : μc.1 22 = upd (μ.1 22) (vP z) (nI v0) := by rw [c3.1 22 (by omega), pb_sA_eq, b3.1 22 (by omega), r22]
  have grc : GR μ μc := gra.tr (b3.gr.tr (GR.s22.tr c3.gr))
  refine ⟨pb_sA (pb_sA μc 22 (upd (upd (μ.1 22) (vP z) (nI v0)) (4 + vP z) (nI v1))) 19 (upd (μc.1 19) 6 (nI (vP z + 1))), ?_, ?_⟩
  · unfold pX7_readPart
    rw [if_pos (show nI (t p) = (80 : Int32) by rw [ec]; rfl), h.2.1.1, if_neg (show ¬ (4 : Int32) ≤ nI (vP z) from fun y => (show ¬ 4 ≤ vP z by omega) ((nI_leI (a := 4) (by omega) (by omega)).mp y)), s1, show nI p + (1 : Int32) = nI (p + 1) from nI_add p 1, ha, a3, show pX7_figure (0 : Int32) (9 : Int32) μa = some (nI v0, μb) from b1, pb_b_some, if_pos (q_in (by omega) (by omega)), q_cl (by omega), pb_sA_ne (show (19 : Nat) ≠ 22 by decide), b6, show (4 : Int32) + nI (vP z) = nI (4 + vP z) from nI_add 4 _, show pX7_figure (0 : Int32) (9 : Int32) (pb_sA μb 22 (upd (μb.1 22) (vP z) (nI v0))) = some (nI v1, μc) from c1, pb_b_some, if_pos (q_in (by omega) (by omega)), q_cl (by omega), pb_sA_ne (show (19 : Nat) ≠ 22 by decide), c6, c22, show nI (vP z) + (1 : Int32) = nI (vP z + 1) from nI_add _ 1]
  · have hfs : FS (pb_sA (pb_sA μc 22 (upd (upd (μ.1 22) (vP z) (nI v0)) (4 + vP z) (nI v1))) 19 (upd (μc.1 19) 6 (nI (vP z + 1)))) (fin2 t L z p) := by
      rw [← fin_2 hbg hw]
      exact FS_at c2 (by rw [pb_sA_eq, upd_ne (by decide)]) (by rw [pb_sA_eq, upd_ne (by decide)])
    have grd : GR μ (pb_sA (pb_sA μc 22 (upd (upd (μ.1 22) (vP z) (nI v0)) (4 + vP z) (nI v1))) 19 (upd (μc.1 19) 6 (nI (vP z + 1)))) := by
      refine grc.tr ((GR.s22 (f := upd (upd (μ.1 22) (vP z) (nI v0)) (4 + vP z) (nI v1))).tr ?_)
      have := GR.s19 (μ := pb_sA μc 22 (upd (upd (μ.1 22) (vP z) (nI v0)) (4 + vP z) (nI v1))) (k := 6) (v := nI (vP z + 1)) (by omega)
      rwa [pb_sA_ne (show (19 : Nat) ≠ 22 by decide)] at this
    refine ⟨grd, fun q hq => ?_, fun hq => ?_⟩
    · unfold fin2 at hfs
      rw [hq] at hfs
      exact hfs
    · have hb0 := fbad_no hq (k := 0) (by omega)
      have hb1 := fbad_no hq (k := 1) (by omega)
      have x0 : v0 = t (p + 1) - 48 := by rw [← hv0, hb0]; rfl
      have x1 : v1 = t (p + 1 + 1) - 48 := by rw [← hv1, hb0, hb1]; rfl
      unfold fin2 at hfs
      rw [hq] at hfs
      have et : telT t z p = vAP z v0 v1 := by
        unfold telT tel
        rw [if_neg (by omega), if_pos ec, x0, x1]
      rw [et]
      have e0 : vP (vAP z v0 v1) = vP z + 1 := by unfold vAP vP; rw [pb_u_eq]
      have e1 : vB (vAP z v0 v1) = vB z := by unfold vAP vB; rw [pb_u_ne (by omega), pb_u_ne (by omega), pb_u_ne (by omega)]
      refine ⟨⟨TM_gr h.1.1 grd, hfs⟩, ⟨by rw [e0, pb_sA_eq, upd_eq], by rw [e1, pb_sA_eq, upd_ne (by decide)]; exact c7⟩, ?_, fun b hb => ?_⟩
      · rw [pb_sA_ne (by decide), pb_sA_eq]
        have m1 := mu_hay h.2.2.1 (p := vP z) (x := v0) hP4
        have m2 := mu_mon m1 (p := vP z) (x := v1) hP4
        rw [Nat.zero_add, Nat.zero_add] at m2
        exact MR_k m2 (by omega)
      · rw [e1] at hb
        have hB := hz.1.1.2
        rw [pb_sA_ne (by decide), pb_sA_ne (by decide), c3.1 23 (by omega), pb_sA_ne (by decide), b3.1 23 (by omega), ← ha, pb_sA_ne (by decide), h.2.2.2 b hb]
        unfold vAP
        rw [pb_u_ne (by omega), pb_u_ne (by omega), pb_u_ne (by omega)]
end READ5
