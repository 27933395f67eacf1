section READ6
variable {K : Nat} {S : pb_S} {μ μ1 μ2 : pb_M} {z : pb_Vg} {M : Nat} {t : Nat → Nat} {L p : Nat}
theorem m_partB (h : RD μ t L z p) (hz : PI z) (hL : L ≤ 56) (h255 : ∀ j, j < L → t j ≤ 255) (hp : p < L) (ec : t p = 66) (hP0 : 0 < vP z) (hB5 : vB z < 5) : ∃ μ1, pX7_readPart_J71 (nI (t p)) μ = some ((), μ1) ∧ PT μ t L z p μ1 := by
  have hP := hz.1.1.1
  have hbg : bgn z (t p) = true := by unfold bgn; rw [if_pos ec]; simp; omega
  have hw : fw (t p) = 3 := by unfold fw; rw [if_neg (by omega)]
  have hfg0 : decide (48 + 0 ≤ t (p + 1 + 0) ∧ t (p + 1 + 0) ≤ 48 + (vP z - 1)) = fgd t z p 0 := by
    unfold fgd fok
    rw [if_pos ec, if_pos rfl, ← Bool.decide_and]
    apply decide_eq_decide.mpr
    omega
  have hfg1 : decide (48 + 1 ≤ t (p + 1 + 1) ∧ t (p + 1 + 1) ≤ 48 + 9) = fgd t z p 1 := by
    unfold fgd fok
    rw [if_pos ec, if_neg (by omega), if_pos rfl, ← Bool.decide_and]
    apply decide_eq_decide.mpr
    omega
  have hfg2 : decide (48 + 0 ≤ t (p + 1 + 2) ∧ t (p + 1 + 2) ≤ 48 + 3) = fgd t z p 2 := by
    unfold fgd fok
    rw [if_pos ec, if_neg (by omega), if_neg (by omega), ← Bool.decide_and]
    apply decide_eq_decide.mpr
    omega
  obtain ⟨a1, a2, a3, a4⟩ := inc10 h (by omega)
  have s1 := h.1.2.1
  generalize ha : pb_sA μ 19 (upd (μ.1 19) 10 (nI (p + 1))) = μa at a1 a2 a3 a4
  have gra : GR μ μa := by rw [← ha]; exact GR.s19 (by omega)
  have r22 : μa.1 22 = μ.1 22 := by rw [← ha]; exact pb_sA_ne (by decide)
  have r23 : μa.1 23 = μ.1 23 := by rw [← ha]; exact pb_sA_ne (by decide)
  obtain ⟨μb, b1, b2, b3⟩ := m_fig (z := z) (p := p) (k := 0) (lo := 0) (hi := vP z - 1) a1 hL h255 (by omega) (by omega) a2 (fun q hq => by cases hq; rfl) (fun _ _ => hfg0)
  generalize hv0 : fv2 (fbad t L z p 0) 0 (t (p + 1 + 0) - 48) (.inr (p + 1 + 0)) = v0 at b1
  have b6 : μb.1 19 6 = nI (vP z) := by rw [b3.2.1 6 (by omega) (by omega)]; exact a3
  have b7 : μb.1 19 7 = nI (vB z) := by rw [b3.2.1 7 (by omega) (by omega)]; exact a4
  have b22 : μb.1 22 = μ.1 22 := by rw [b3.1 22 (by omega), r22]
  obtain ⟨μc, c1, c2, c3⟩ := m_fig (μ := pb_sA μb 22 (upd (μ.1 22) (8 + vB z) (nI v0))) (z := z) (p := p) (k := 1) (lo := 1) (hi := 9) (TM_gr (TM_gr a1 b3.gr) GR.s22) hL h255 (by omega) (by omega) (FS_at b2 (by rw [pb_sA_ne (by decide)]) (by rw [pb_sA_ne (by decide)])) sq1 (fun _ _ => hfg1)
  generalize hv1 : fv2 (fbad t L z p 1) 1 (t (p + 1 + 1) - 48) (fn2 (fbad t L z p 0) (.inr (p + 1 + 0))) = v1 at c1
  have c6 : μc.1 19 6 = nI (vP z) := by rw [c3.2.1 6 (by omega) (by omega), pb_sA_ne (by decide)]; exact b6
  have c7 : μc.1 19 7 = nI (vB z) := by rw [c3.2.1 7 (by omega) (by omega), pb_sA_ne (by decide)]; exact b7
  have c22 : μc.1 22 = upd (μ.1 22) (8 + vB z) (nI v0) := by rw [c3.1 22 (by omega), pb_sA_eq]
  obtain ⟨μd, d1, d2, d3⟩ := m_fig (μ := pb_sA μc 22 (upd (upd (μ.1 22) (8 + vB z) (nI v0)) (13 + vB z) (nI v1))) (z := z) (p := p) (k := 2) (lo := 0) (hi := 3) (TM_gr (TM_gr (TM_gr (TM_gr a1 b3.gr) GR.s22) c3.gr) GR.s22) hL h255 (by omega) (by omega) (FS_at c2 (by rw [pb_sA_ne (by decide)]) (by rw [pb_sA_ne (by decide)])) sq2 (fun _ _ => hfg2)
  generalize hv2 : fv2 (fbad t L z p 2) 0 (t (p + 1 + 2) - 48) (fn2 (fbad t L z p 1) (fn2 (fbad t L z p 0) (.inr (p + 1 + 0)))) = v2 at d1
  have d6 : μd.1 19 6 = nI (vP z) := by rw [d3.2.1 6 (by omega) (by omega), pb_sA_ne (by decide)]; exact c6
  have d7 : μd.1 19 7 = nI (vB z) := by rw [d3.2.1 7 (by omega) (by omega), pb_sA_ne (by decide)]; exact c7
  have d22 : μd.1 22 = upd (upd (μ.1 22) (8 + vB z) (nI v0)) (13 + vB z) (nI v1) := by rw [d3.1 22 (by omega), pb_sA_eq]
  have d23 : μd.1 23 = μ.1 23 := by rw [d3.1 23 (by omega), pb_sA_ne (by decide), c3.1 23 (by omega), pb_sA_ne (by decide), b3.1 23 (by omega), r23]
  have grd : GR μ μd := gra.tr (b3.gr.tr (GR.s22.tr (c3.gr.tr (GR.s22.tr d3.gr))))
  generalize hf22 : upd (upd (upd (μ.1 22) (8 + vB z) (nI v0)) (13 + vB z) (nI v1)) (18 + vB z) (-9 : Int32) = f22
  refine ⟨pb_sA (pb_sA (pb_sA μd 23 (upd (μ.1 23) (vB z) (nI v2))) 22 f22) 19 (upd (μd.1 19) 7 (nI (vB z + 1))), ?_, ?_⟩
  · unfold pX7_readPart_J71
    rw [if_pos (show nI (t p) = (66 : Int32) by rw [ec]; rfl), h.2.1.2, if_neg (show ¬ (5 : Int32) ≤ nI (vB z) from fun y => (show ¬ 5 ≤ vB z by omega) ((nI_leI (a := 5) (by omega) (by omega)).mp y)), h.2.1.1, if_neg (show ¬ nI (vP z) ≤ (0 : Int32) from fun y => (show ¬ vP z ≤ 0 by omega) ((nI_leI (b := 0) (by omega) (by omega)).mp y)), s1, show nI p + (1 : Int32) = nI (p + 1) from nI_add p 1, ha, a3, a4, show nI (vP z) - (1 : Int32) = nI (vP z - 1) from pk_sub hP0, show pX7_figure (0 : Int32) (nI (vP z - 1)) μa = some (nI v0, μb) from b1, pb_b_some, show (8 : Int32) + nI (vB z) = nI (8 + vB z) from nI_add 8 _, if_pos (q_in (by omega) (by omega)), q_cl (by omega), b22, pb_sA_ne (show (19 : Nat) ≠ 22 by decide), b7, show (13 : Int32) + nI (vB z) = nI (13 + vB z) from nI_add 13 _, show pX7_figure (1 : Int32) (9 : Int32) (pb_sA μb 22 (upd (μ.1 22) (8 + vB z) (nI v0))) = some (nI v1, μc) from c1, pb_b_some, if_pos (q_in (by omega) (by omega)), q_cl (by omega), c22, pb_sA_ne (show (19 : Nat) ≠ 22 by decide), c7, show pX7_figure (0 : Int32) (3 : Int32) (pb_sA μc 22 (upd (upd (μ.1 22) (8 + vB z) (nI v0)) (13 + vB z) (nI v1))) = some (nI v2, μd) from d1, pb_b_some, if_pos (q_in (by omega) (by omega)), q_cl (by omega), d23, pb_sA_ne (show (19 : Nat) ≠ 23 by decide), d7, show (18 : Int32) + nI (vB z) = nI (18 + vB z) from nI_add 18 _, if_pos (q_in (by omega) (by omega)), q_cl (by omega), pb_sA_ne (show (22 : Nat) ≠ 23 by decide), d22, hf22, pb_sA_ne (show (19 : Nat) ≠ 22 by decide), pb_sA_ne (show (19 : Nat) ≠ 23 by decide), d7, show nI (vB z) + (1 : Int32) = nI (vB z + 1) from nI_add _ 1]
  · have hfs : FS (pb_sA (pb_sA (pb_sA μd 23 (upd (μ.1 23) (vB z) (nI v2))) 22 f22) 19 (upd (μd.1 19) 7 (nI (vB z + 1)))) (fin2 t L z p) := by
      rw [← fin_3 hbg hw]
      exact FS_at d2 (by rw [pb_sA_eq, upd_ne (by decide)]) (by rw [pb_sA_eq, upd_ne (by decide)])
    have gre : GR μ (pb_sA (pb_sA (pb_sA μd 23 (upd (μ.1 23) (vB z) (nI v2))) 22 f22) 19 (upd (μd.1 19) 7 (nI (vB z + 1)))) := by
      refine grd.tr ((GR.s23 (f := upd (μ.1 23) (vB z) (nI v2))).tr ((GR.s22 (f := f22)).tr ?_))
      have := GR.s19 (μ := pb_sA (pb_sA μd 23 (upd (μ.1 23) (vB z) (nI v2))) 22 f22) (k := 7) (v := nI (vB z + 1)) (by omega)
      rwa [pb_sA_ne (show (19 : Nat) ≠ 22 by decide), pb_sA_ne (show (19 : Nat) ≠ 23 by decide)] at this
    refine ⟨gre, fun q hq => ?_, fun hq => ?_⟩
    · unfold fin2 at hfs
      rw [hq] at hfs
      exact hfs
    · have hb0 := fbad_no hq (k := 0) (by omega)
      have hb1 := fbad_no hq (k := 1) (by omega)
      have hb2 := fbad_no hq (k := 2) (by omega)
      have x0 : v0 = t (p + 1) - 48 := by rw [← hv0, hb0]; rfl
      have x1 : v1 = t (p + 1 + 1) - 48 := by rw [← hv1, hb0, hb1]; rfl
      have x2 : v2 = t (p + 1 + 2) - 48 := by rw [← hv2, hb0, hb1, hb2]; rfl
      unfold fin2 at hfs
      rw [hq] at hfs
      have et : telT t z p = vAB z v0 v1 v2 := by
        unfold telT tel
        rw [if_pos ec, x0, x1, x2]
      rw [et]
      have e1 : vB (vAB z v0 v1 v2) = vB z + 1 := by unfold vAB vB; rw [pb_u_eq]
      have e0 : vP (vAB z v0 v1 v2) = vP z := by unfold vAB vP; rw [pb_u_ne (by omega), pb_u_ne (by omega), pb_u_ne (by omega), pb_u_ne (by omega), pb_u_ne (by omega)]
      refine ⟨⟨TM_gr h.1.1 gre, hfs⟩, ⟨by rw [e0, pb_sA_eq, upd_ne (by decide)]; exact d6, by rw [e1, pb_sA_eq, upd_eq]⟩, ?_, fun b hb => ?_⟩
      · rw [pb_sA_ne (by decide), pb_sA_eq, ← hf22]
        have m1 := mu_own h.2.2.1 (b := vB z) (x := v0) hB5
        have m2 := mu_wor m1 (b := vB z) (x := v1) hB5
        have m3 := MR_k (k := 37 + vB z) (x := v2) m2 (by omega)
        have m4 := mu_hol m3 (b := vB z) (x := 0) (v := (-9 : Int32)) hB5 (by rw [pb_e_0 (by omega)])
        rw [Nat.zero_add, Nat.zero_add, Nat.zero_add] at m4
        exact MR_k m4 (by omega)
      · rw [e1] at hb
        rw [pb_sA_ne (by decide), pb_sA_ne (by decide), pb_sA_eq]
        unfold vAB
        by_cases q : b = vB z
        · subst q
          rw [upd_eq, pb_u_ne (by omega), pb_u_ne (by omega), pb_u_eq]
        · rw [upd_ne q, h.2.2.2 b (by omega), pb_u_ne (by omega), pb_u_ne (by omega), pb_u_ne (by omega), pb_u_ne (by omega), pb_u_ne (by omega)]
theorem m_partD (h : RD μ t L z p) (hz : PI z) (hL : L ≤ 56) (h255 : ∀ j, j < L → t j ≤ 255) (hp : p < L) (ec : t p = 68) : ∃ μ1, pX7_readPart_J186 (nI (t p)) μ = some ((), μ1) ∧ PT μ t L z p μ1 := by
  have hP := hz.1.1.1
  have s1 := h.1.2.1
  have hb0 := m_dbl h.2.2.1 h.2.1.1 hz.1
  by_cases hA : plA z = true
  · have hbg : bgn z (t p) = true := by unfold bgn; rw [if_neg (by omega), if_pos ec]; exact hA
    have hw : fw (t p) = 3 := by unfold fw; rw [if_neg (by omega)]
    have h32 := pb_bits_32 (plO z) (show vP z ≤ 5 by omega)
    have hfg0 : (decide (48 ≤ t (p + 1 + 0) ∧ t (p + 1 + 0) ≤ 57) && (pb_bits (plO z) (vP z)).testBit (t (p + 1 + 0) - 48)) = fgd t z p 0 := by
      unfold fgd fok
      rw [if_neg (by omega), if_pos ec, if_pos rfl, pb_bits_test]
    obtain ⟨a1, a2, a3, a4⟩ := inc10 h (by omega)
    generalize ha : pb_sA μ 19 (upd (μ.1 19) 10 (nI (p + 1))) = μa at a1 a2 a3 a4
    have gra : GR μ μa := by rw [← ha]; exact GR.s19 (by omega)
    have r22 : μa.1 22 = μ.1 22 := by rw [← ha]; exact pb_sA_ne (by decide)
    have r23 : μa.1 23 = μ.1 23 := by rw [← ha]; exact pb_sA_ne (by decide)
    have hba := m_dbl (μ := μa) (by rw [r22]; exact h.2.2.1) a3 hz.1
    obtain ⟨μb, b1, b2, b3⟩ := m_fof (z := z) (p := p) (k := 0) a1 hL h255 h32 a2 (fun q hq => by cases hq; rfl) (fun _ _ => hfg0)
    generalize hv0 : fv2 (fbad t L z p 0) 0 (t (p + 1 + 0) - 48) (.inr (p + 1 + 0)) = v0 at b1
    have b6 : μb.1 19 6 = nI (vP z) := by rw [b3.2.1 6 (by omega) (by omega)]; exact a3
    have b7 : μb.1 19 7 = nI (vB z) := by rw [b3.2.1 7 (by omega) (by omega)]; exact a4
    have b22 : μb.1 22 = μ.1 22 := by rw [b3.1 22 (by omega), r22]
    have hgood0 : fbad t L z p 0 = false → v0 = t (p + 1) - 48 ∧ v0 < vP z := fun q => by
      have f3 := (fgd_of q).2.2.2
      unfold fok at f3
      rw [if_neg (by omega), if_pos ec, if_pos rfl, Bool.and_eq_true, decide_eq_true_eq, Nat.add_zero] at f3
      have : v0 = t (p + 1) - 48 := by rw [← hv0, q]; rfl
      exact ⟨this, by rw [this]; exact f3.1⟩
    have hv4 : v0 < 4 := by
      cases q : fbad t L z p 0 with
      | false => have := (hgood0 q).2; omega
      | true => rw [← hv0, q]; show 0 < 4; omega
    have hdl := m_dl (μ := μb) (by rw [b22]; exact h.2.2.1) b6 hz.1 hv4
    have h32b := pb_bits_32 (pl z v0) (show vP z ≤ 5 by omega)
    obtain ⟨μc, c1, c2, c3⟩ := m_fof (z := z) (p := p) (k := 1) (TM_gr a1 b3.gr) hL h255 h32b b2 sq1 (fun hs _ => by
      have q : fbad t L z p 0 = false := by
        cases q : fbad t L z p 0 with
        | false => rfl
        | true => rw [q] at hs; cases hs
      unfold fgd fok
      rw [if_neg (by omega), if_pos ec, if_neg (by omega), if_pos rfl, pb_bits_test, (hgood0 q).1])
    generalize hv1 : fv2 (fbad t L z p 1) 0 (t (p + 1 + 1) - 48) (fn2 (fbad t L z p 0) (.inr (p + 1 + 0))) = v1 at c1
    have hfg2 : decide (48 + 1 ≤ t (p + 1 + 2) ∧ t (p + 1 + 2) ≤ 48 + 9) = fgd t z p 2 := by
      unfold fgd fok
      rw [if_neg (by omega), if_pos ec, if_neg (by omega), if_neg (by omega), ← Bool.decide_and]
      apply decide_eq_decide.mpr
      omega
    obtain ⟨μd, d1, d2, d3⟩ := m_fig (z := z) (p := p) (k := 2) (lo := 1) (hi := 9) (TM_gr (TM_gr a1 b3.gr) c3.gr) hL h255 (by omega) (by omega) c2 sq2 (fun _ _ => hfg2)
    generalize hv2 : fv2 (fbad t L z p 2) 1 (t (p + 1 + 2) - 48) (fn2 (fbad t L z p 1) (fn2 (fbad t L z p 0) (.inr (p + 1 + 0)))) = v2 at d1
    have d6 : μd.1 19 6 = nI (vP z) := by rw [d3.2.1 6 (by omega) (by omega), c3.2.1 6 (by omega) (by omega)]; exact b6
    have d7 : μd.1 19 7 = nI (vB z) := by rw [d3.2.1 7 (by omega) (by omega), c3.2.1 7 (by omega) (by omega)]; exact b7
    have d22 : μd.1 22 = μ.1 22 := by rw [d3.1 22 (by omega), c3.1 22 (by omega), b22]
    have d23 : μd.1 23 = μ.1 23 := by rw [d3.1 23 (by omega), c3.1 23 (by omega), b3.1 23 (by omega), r23]
    have grd : GR μ μd := gra.tr (b3.gr.tr (c3.gr.tr d3.gr))
    rw [fin_3 hbg hw] at d2
    have hne0 : ¬ nI (pb_bits (plO z) (vP z)) = (0 : Int32) := by
      rw [bits_0 (show vP z ≤ 5 by omega)]
      unfold plA at hA
      rw [hA]
      decide
    unfold pX7_readPart_J186
    rw [if_pos (show nI (t p) = (68 : Int32) by rw [ec]; rfl), hb0, pb_b_some, if_neg hne0, s1, show nI p + (1 : Int32) = nI (p + 1) from nI_add p 1, ha, hba, pb_b_some, b1, pb_b_some, hdl, pb_b_some, c1, pb_b_some, show pX7_figure (1 : Int32) (9 : Int32) μc = some (nI v2, μd) from d1, pb_b_some]
    cases hfl : flt t L z p with
    | some q =>
      unfold fin2 at d2
      rw [hfl] at d2
      rw [d2.1, if_neg (ne9 d2.2)]
      refine ⟨μd, rfl, grd, fun q' hq' => ?_, fun hq' => by rw [hfl] at hq'; cases hq'⟩
      rw [hfl] at hq'
      cases hq'
      exact d2
    | none =>
      have hb0' := fbad_no hfl (k := 0) (by omega)
      have hb1' := fbad_no hfl (k := 1) (by omega)
      have hb2' := fbad_no hfl (k := 2) (by omega)
      obtain ⟨x0, y0⟩ := hgood0 hb0'
      have x1 : v1 = t (p + 1 + 1) - 48 := by rw [← hv1, hb0', hb1']; rfl
      have x2 : v2 = t (p + 1 + 2) - 48 := by rw [← hv2, hb0', hb1', hb2']; rfl
      have f3 := (fgd_of hb1').2.2.2
      unfold fok at f3
      rw [if_neg (by omega), if_pos ec, if_neg (by omega), if_pos rfl, Bool.and_eq_true, decide_eq_true_eq, ← x1, ← x0] at f3
      obtain ⟨y1, y2⟩ := f3
      unfold pl at y2
      rw [Bool.and_eq_true] at y2
      have hd0 : vDebt z v0 v1 = 0 := by simpa using y2.2
      have g2 := fgd_of hb2'
      unfold fin2 at d2
      rw [hfl] at d2
      rw [d2.2.1, if_pos rfl, show (4 : Int32) * nI v0 = nI (4 * v0) from pk_mul 4 v0, show (28 : Int32) + nI (4 * v0) = nI (28 + 4 * v0) from nI_add 28 _, nI_add, if_pos (q_in (by omega) (by omega)), q_cl (by omega), d22]
      refine ⟨_, rfl, grd.tr GR.s22, (fun q' hq' => by rw [hfl] at hq'; cases hq'), fun _ => ?_⟩
      have et : telT t z p = vAdd z v0 v1 v2 := by
        unfold telT tel
        rw [if_neg (by omega), if_neg (by omega), x0, x1, x2]
      rw [et]
      have e1 : vB (vAdd z v0 v1 v2) = vB z := by unfold vAdd vB; rw [pb_u_ne (by omega)]
      have e0 : vP (vAdd z v0 v1 v2) = vP z := by unfold vAdd vP; rw [pb_u_ne (by omega)]
      refine ⟨⟨TM_gr h.1.1 (grd.tr GR.s22), FS_at d2 (by rw [pb_sA_ne (by decide)]) (by rw [pb_sA_ne (by decide)])⟩, ⟨by rw [e0, pb_sA_ne (by decide)]; exact d6, by rw [e1, pb_sA_ne (by decide)]; exact d7⟩, ?_, fun b hb => ?_⟩
      · rw [pb_sA_eq]
        unfold vAdd
        rw [hd0, Nat.zero_add, Nat.min_eq_right (by omega)]
        have m1 := mu_debt h.2.2.1 (i := v0) (j := v1) (x := v2) hv4 (by omega)
        rwa [Nat.zero_add] at m1
      · rw [e1] at hb
        have hB := hz.1.1.2
        rw [pb_sA_ne (by decide), d23, h.2.2.2 b hb]
        unfold vAdd
        rw [pb_u_ne (by omega)]
  · have hA' : plA z = false := by simpa using hA
    have hbg : bgn z (t p) = false := by unfold bgn; rw [if_neg (by omega), if_pos ec]; exact hA'
    have he0 : nI (pb_bits (plO z) (vP z)) = (0 : Int32) := by
      rw [bits_0 (show vP z ≤ 5 by omega)]
      exact hA'
    unfold pX7_readPart_J186
    rw [if_pos (show nI (t p) = (68 : Int32) by rw [ec]; rfl), hb0, pb_b_some, if_pos he0]
    exact ⟨_, rfl, PT_no h hbg⟩
theorem m_part (h : RD μ t L z p) (hz : PI z) (hL : L ≤ 56) (h255 : ∀ j, j < L → t j ≤ 255) (hp : p < L) : ∃ μ1, pX7_readPart (nI (t p)) μ = some ((), μ1) ∧ PT μ t L z p μ1 := by
  have hx := h255 p hp
  have hP := hz.1.1.1
  have hB := hz.1.1.2
  have hno : t p ≠ 68 → bgn z (t p) = false → ∃ μ1, pX7_readPart_J186 (nI (t p)) μ = some ((), μ1) ∧ PT μ t L z p μ1 := fun e hb => by
    unfold pX7_readPart_J186
    rw [if_neg (show ¬ nI (t p) = (68 : Int32) from fun q => e ((nI_eq (b := 68) (by omega) (by omega)).mp q))]
    exact ⟨_, rfl, PT_no h hb⟩
  by_cases e1 : t p = 80
  · by_cases q : vP z < 4
    · exact m_partP h hz hL h255 hp e1 q
    · have hb : bgn z (t p) = false := by unfold bgn; rw [if_neg (by omega), if_neg (by omega), if_pos e1]; simpa using q
      unfold pX7_readPart
      rw [if_pos (show nI (t p) = (80 : Int32) by rw [e1]; rfl), h.2.1.1, if_pos (show (4 : Int32) ≤ nI (vP z) from (nI_leI (a := 4) (by omega) (by omega)).mpr (by omega))]
      unfold pX7_readPart_J71
      rw [if_neg (show ¬ nI (t p) = (66 : Int32) from fun q => (show ¬ t p = 66 by omega) ((nI_eq (b := 66) (by omega) (by omega)).mp q))]
      exact hno (by omega) hb
  · unfold pX7_readPart
    rw [if_neg (show ¬ nI (t p) = (80 : Int32) from fun q => e1 ((nI_eq (b := 80) (by omega) (by omega)).mp q))]
    by_cases e2 : t p = 66
    · by_cases q : 0 < vP z ∧ vB z < 5
      · exact m_partB h hz hL h255 hp e2 q.1 q.2
      · have hb : bgn z (t p) = false := by unfold bgn; rw [if_pos e2]; simpa using q
        unfold pX7_readPart_J71
        rw [if_pos (show nI (t p) = (66 : Int32) by rw [e2]; rfl), h.2.1.2, h.2.1.1]
        by_cases q2 : vB z < 5
        · rw [if_neg (show ¬ (5 : Int32) ≤ nI (vB z) from fun y => (show ¬ 5 ≤ vB z by omega) ((nI_leI (a := 5) (by omega) (by omega)).mp y)), if_pos (show nI (vP z) ≤ (0 : Int32) from (nI_leI (b := 0) (by omega) (by omega)).mpr (by omega))]
          exact hno (by omega) hb
        · rw [if_pos (show (5 : Int32) ≤ nI (vB z) from (nI_leI (a := 5) (by omega) (by omega)).mpr (by omega))]
          exact hno (by omega) hb
    · unfold pX7_readPart_J71
      rw [if_neg (show ¬ nI (t p) = (66 : Int32) from fun q => e2 ((nI_eq (b := 66) (by omega) (by omega)).mp q))]
      by_cases e3 : t p = 68
      · exact m_partD h hz hL h255 hp e3
      · exact hno e3 (by unfold bgn; rw [if_neg e2, if_neg e3, if_neg e1])
end READ6
