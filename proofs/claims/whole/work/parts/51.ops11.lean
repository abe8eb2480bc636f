section OPS11
variable {V : Nat → MS → Prop} {nc : Nat} {x m x' m' s : MS}
theorem beyond_nat {a b n : Nat} (ha : a < 2 ^ 30) (hb : b < 2 ^ 30) (hn : n < 2 ^ 30) : fX12_isBeyond (nI a) (nI b) (nI n) = if n < a + b then some (1, ()) else some (0, ()) := by
  have es : ((nI a).toInt64 + (nI b).toInt64).toInt = (a : Int) + b := by
    rw [Int64.toInt_add, Int32.toInt_toInt64, Int32.toInt_toInt64, nI_tl (by omega), nI_tl (by omega)]
    refine Int.bmod_eq_of_le ?_ ?_ <;> omega
  have en : (nI n).toInt64.toInt = (n : Int) := by rw [Int32.toInt_toInt64, nI_tl (by omega)]
  have eb : fX12_isBeyond (nI a) (nI b) (nI n) = if 0 < lg_cmp ((nI a).toInt64 + (nI b).toInt64) (nI n).toInt64 then some (1, ()) else some (0, ()) := by
    unfold fX12_isBeyond; rw [if_neg (nI_pos (by omega)), if_neg (nI_pos (by omega))]
    by_cases h : 0 < lg_cmp ((nI a).toInt64 + (nI b).toInt64) (nI n).toInt64
    · rw [if_pos h, if_neg]; rw [Int32.lt_iff_toInt_lt] at h; rw [Int32.le_iff_toInt_le]; omega
    · rw [if_neg h, if_pos]; rw [Int32.lt_iff_toInt_lt] at h; rw [Int32.le_iff_toInt_le]; omega
  have c2 : 0 < lg_cmp ((nI a).toInt64 + (nI b).toInt64) (nI n).toInt64 ↔ (n : Int) < a + b := by rw [cmp_gt, Int64.lt_iff_toInt_lt, es, en]
  rw [eb]
  by_cases h : n < a + b
  · rw [if_pos h, if_pos (c2.mpr (by omega))]
  · rw [if_neg h, if_neg (fun z => by have := c2.mp z; omega)]
theorem op_widths (hV : KeepsW V) : ∀ (y1 y2 y3 y4 y5 : Int32), OpI (RelV V) (fun nc σ => fX11_widths nc y1 y2 y3 y4 y5 σ) (fun σ => fX12_widths y1 y2 y3 y4 y5 σ) := by
  intro y1 y2 y3 y4 y5 j nc x m hj hR
  obtain ⟨J, hJ, hC, hS, hK, hO, hW⟩ := id hR
  obtain ⟨h12, hx4, hm4, hcr⟩ := id hC
  have hx4' : gI (sI x 0 0) 4 = nI nc := hx4
  have ref : ∀ r v, fX11_widths nc y1 y2 y3 y4 y5 x = some (r, sI x 0 v) → fX12_widths y1 y2 y3 y4 y5 m = some (r, sI m 0 v) → ∃ (r : Int32) (σx' σm' : MS), fX11_widths nc y1 y2 y3 y4 y5 x = some (r, σx') ∧ fX12_widths y1 y2 y3 y4 y5 m = some (r, σm') ∧ RelV V (j + 1) nc σx' σm' := fun r v a b => ⟨r, _, _, a, b, hR.fault hV⟩
  show ∃ (r : Int32) (σx' σm' : MS), fX11_widths nc y1 y2 y3 y4 y5 x = some (r, σx') ∧ fX12_widths y1 y2 y3 y4 y5 m = some (r, σm') ∧ RelV V (j + 1) nc σx' σm'
  rcases ixc y1 (n := 4) (by decide) with ho | ⟨k, hk, rfl⟩
  · refine ref (-1) 0 ?_ ?_
    · unfold fX11_widths; rw [x_isCore_out ho]; rfl
    · unfold fX12_widths; rw [m_noCore_out ho]; rfl
  rcases ixc y5 (n := nc) (by omega) with ho | ⟨c, hc, rfl⟩
  · refine ref (-1) 0 ?_ ?_
    · unfold fX11_widths; rw [x_isCore_in hk]
      try rw [bnd_k]
      show bnd (fX5_hasCrack nc y5 (sI x 0 0)) _ = _
      rw [x_hasCrack_out hx4' ho]; rfl
    · unfold fX12_widths; rw [m_noCore_in hk, m_noCrack_out hm4 (by omega) ho]; rfl
  have hcl : (nI k).toNatClampNeg = k := nI_clamp (by omega)
  have hr' : ¬ (nI k < 0 ∨ 4 ≤ k) := inR' hk (by decide)
  rcases am01 y2 0 3 with ⟨h3, -⟩ | ⟨h3, h31, h32⟩
  · refine ref (-2) 0 ?_ ?_
    · unfold fX11_widths; rw [x_isCore_in hk]
      try rw [bnd_k]
      show bnd (fX5_hasCrack nc (nI c) (sI x 0 0)) _ = _
      rw [x_hasCrack_in hx4' (by omega) hc, x_isLane, h3]; rfl
    · unfold fX12_widths; rw [m_noCore_in hk, m_noCrack_in hm4 (by omega) hc, h3]; rfl
  have hX : fX11_widths nc (nI k) y2 y3 y4 (nI c) x = bnd (fX1_isOfAnotherLane nc k y2 (sI x 0 0)) (fun r17 s18 => if r17 = 0 then if ¬ gA s18 40 k = 0 then if 0 ≤ y4 then bnd (fX1_hasCells nc k y3 y4 s18) (fun r25 s26 => if r25 = 0 then fX11_widths_J110 nc s26 else if y4 ≤ gI s26 4 - nI c then bnd (fX1_areWithin nc k y3 y4 0 12 s26) (fun r34 s35 => if ¬ r34 = 0 then bnd (fX11_widths_L136 nc y3 y4 (nI c) k FU 0 s35) (fun v46 s47 => some (y4, s47)) else some ((-2), s35)) else fX11_widths_J110 nc s26) else bnd (fX11_faulted nc 4 s18) (fun r49 s50 => some (r49, s50)) else bnd (fX11_faulted nc 1 s18) (fun r52 s53 => some (r52, s53)) else bnd (fX11_faulted nc 2 s18) (fun r55 s56 => some (r55, s56))) := by
    unfold fX11_widths; rw [x_isCore_in hk]
    try rw [bnd_k]
    show bnd (fX5_hasCrack nc (nI c) (sI x 0 0)) _ = _
    rw [x_hasCrack_in hx4' (by omega) hc, x_isLane, h3, hcl]
    show (if _ then _ else _) = _
    simp only [if_pos hr', if_pos hk]
  have hM : fX12_widths (nI k) y2 y3 y4 (nI c) m = if gA m 34 k < 0 then fX12_widths_J63 (nI k) y3 y4 (nI c) m else if gA m 35 k = y2 then fX12_widths_J63 (nI k) y3 y4 (nI c) m else some (-12, sI m 0 2) := by
    unfold fX12_widths; rw [m_noCore_in hk, m_noCrack_in hm4 (by omega) hc, h3, hcl]
    show (if _ then _ else _) = _
    simp only [if_pos hr']; rfl
  have hJ63 : fX12_widths_J63 (nI k) y3 y4 (nI c) m = if 0 ≤ gA m 34 k then if 0 ≤ y4 then bnd (fX12_isBeyond y3 y4 (gA m 34 k)) (fun r22 u23 => if ¬ r22 = 0 then some (-13, sI m 0 3) else bnd (fX12_isBeyond (nI c) y4 (gI m 4)) (fun r29 u30 => if r29 = 0 then bnd (fX12_widths_L127 (nI k) y3 y4 (nI c) FU 0 m) (fun v40 s41 => Sum.elim (fun r => some (r, s41)) (fun w43 => bnd (fX12_widths_L182 (nI k) y3 y4 (nI c) FU 0 s41) (fun v52 s53 => some (y4, sI s53 0 0))) v40) else some (-13, sI m 0 3))) else some (-14, sI m 0 4) else some (-11, sI m 0 1) := by
    unfold fX12_widths_J63; rw [hcl]
    simp only [if_pos hr']; rfl
  rcases hO k hk with ⟨h1, h2⟩ | ⟨h1, n, l, hn, hl, q3, q4, q5, q6, q7⟩
  · refine ref (-11) 1 ?_ ?_
    · rw [hX, x_lane0 (x := sI x 0 0) hk h1]
      show (if ¬ gA x 40 k = 0 then _ else _) = _
      rw [if_neg (fun z => z h1)]
      show some (_, sI (sI x 0 0) 0 1) = _
      rw [sI2]; rfl
    · rw [hM, hJ63, h2]; rfl
  rw [x_lane (x := sI x 0 0) hk h1 q5] at hX
  rw [hJ63, q4, if_neg (nI_pos (by omega)), q6, if_pos (nI_pos' (by omega))] at hM
  by_cases hy : nI l = y2
  · rw [if_pos hy] at hX hM
    have hX2 : fX11_widths nc (nI k) y2 y3 y4 (nI c) x = if 0 ≤ y4 then bnd (fX1_hasCells nc k y3 y4 (sI x 0 0)) (fun r25 s26 => if r25 = 0 then fX11_widths_J110 nc s26 else if y4 ≤ gI s26 4 - nI c then bnd (fX1_areWithin nc k y3 y4 0 12 s26) (fun r34 s35 => if ¬ r34 = 0 then bnd (fX11_widths_L136 nc y3 y4 (nI c) k FU 0 s35) (fun v46 s47 => some (y4, s47)) else some ((-2), s35)) else fX11_widths_J110 nc s26) else some (-14, sI x 0 4) := by
      rw [hX]
      show (if ¬ gA x 40 k = 0 then _ else _) = _
      rw [if_pos (by rw [h1]; decide)]
      show (if _ then _ else some (_, sI (sI x 0 0) 0 4)) = _
      rw [sI2]; rfl
    by_cases hz : y4 < 0
    · have hz' : ¬ 0 ≤ y4 := by rw [Int32.lt_iff_toInt_lt] at hz; rw [Int32.le_iff_toInt_le]; omega
      exact ref (-14) 4 (by rw [hX2, if_neg hz']) (by rw [hM, if_neg hz'])
    have hz' : 0 ≤ y4 := by rw [Int32.lt_iff_toInt_lt] at hz; rw [Int32.le_iff_toInt_le]; omega
    rw [if_pos hz'] at hX2 hM
    rcases cells_both (nc := nc) (x := sI x 0 0) (y := y3) hk hn q3 hz with ⟨e1, e2⟩ | ⟨i, t, rfl, rfl, hit, e1, e2⟩
    · refine ref (-13) 3 ?_ (by rw [hM, e2]; rfl)
      rw [hX2, e1]
      show some (_, sI (sI x 0 0) 0 3) = _
      rw [sI2]; rfl
    rw [e1] at hX2
    rw [e2] at hM
    have hX3 : fX11_widths nc (nI k) y2 (nI i) (nI t) (nI c) x = if nI t ≤ gI x 4 - nI c then bnd (fX1_areWithin nc k (nI i) (nI t) 0 12 (sI x 0 0)) (fun r34 s35 => if ¬ r34 = 0 then bnd (fX11_widths_L136 nc (nI i) (nI t) (nI c) k FU 0 s35) (fun v46 s47 => some (nI t, s47)) else some ((-2), s35)) else some (-13, sI x 0 3) := by
      rw [hX2]
      show (if _ then _ else some (_, sI (sI x 0 0) 0 3)) = _
      rw [sI2]; rfl
    have hM3 : fX12_widths (nI k) y2 (nI i) (nI t) (nI c) m = bnd (fX12_isBeyond (nI c) (nI t) (gI m 4)) (fun r29 u30 => if r29 = 0 then bnd (fX12_widths_L127 (nI k) (nI i) (nI t) (nI c) FU 0 m) (fun v40 s41 => Sum.elim (fun r => some (r, s41)) (fun w43 => bnd (fX12_widths_L182 (nI k) (nI i) (nI t) (nI c) FU 0 s41) (fun v52 s53 => some (nI t, sI s53 0 0))) v40) else some (-13, sI m 0 3)) := hM
    rw [hx4, pk_sub (by omega)] at hX3
    rw [hm4, beyond_nat (by omega) (by omega) (by omega)] at hM3
    by_cases hct : nc < c + t
    · rw [if_neg (nI_ge (by omega) (by omega))] at hX3
      rw [if_pos hct] at hM3
      exact ref (-13) 3 hX3 hM3
    rw [if_pos (nI_le (by omega) (by omega))] at hX3
    rw [if_neg hct] at hM3
    unfold fX1_areWithin at hX3
    have hM4 : fX12_widths (nI k) y2 (nI i) (nI t) (nI c) m = bnd (fX12_widths_L127 (nI k) (nI i) (nI t) (nI c) FU 0 m) (fun v40 s41 => Sum.elim (fun r => some (r, s41)) (fun w43 => bnd (fX12_widths_L182 (nI k) (nI i) (nI t) (nI c) FU 0 s41) (fun v52 s53 => some (nI t, sI s53 0 0))) v40) := hM3
    have hcell : ∀ q, q < t → gB (sI x 0 0) (90 + k) (i + q) = gB m 36 (24 * k + i + q) := fun q hq => by
      rw [show 24 * k + i + q = 24 * k + (i + q) by omega]; exact q7 (i + q) (by omega)
    rw [show (0 : Int32) = nI 0 from rfl] at hX3 hM4
    rcases wi_x (nc := nc) (s := sI x 0 0) hk (show i + t ≤ 24 by omega) t 0 FU (by omega) (show t < 1000000 by omega) with ⟨w1, w2⟩ | ⟨w1, q, w2, w3, w4⟩
    · rcases wi_m (s := m) (x5 := nI c) hk (show i + t ≤ 24 by omega) t 0 FU (by omega) (show t < 1000000 by omega) with ⟨w5, w6⟩ | ⟨w5, q, w6, w7, w8⟩
      · obtain ⟨x1, ex, u1, u2, u3, u4, u5, u6, u7⟩ := ws_x (c := c) h12 hk (show i + t ≤ 24 by omega) (by omega) t 0 FU (sI x 0 0) (by omega) (show t < 1000000 by omega)
        obtain ⟨m1, em, ⟨v1, v2, v3⟩, v4, v5, v6⟩ := ws_m (c := c) hk (show i + t ≤ 24 by omega) (by omega) t 0 FU m (by omega) (show t < 1000000 by omega)
        have iX : ∀ k, k ≠ 0 → k ≠ 50 → gI x1 k = gI x k := fun k h1 h2 => by rw [u1 k h2, gI_ne h1]
        have iM : ∀ k, k ≠ 0 → gI (sI m1 0 0) k = gI m k := fun k h1 => by rw [gI_ne h1, v1 k]
        refine ⟨nI t, x1, sI m1 0 0, ?_, ?_, J, ?_, ?_, ?_, ?_, ?_, ?_⟩
        · rw [hX3]
          try rw [bnd_k]
          show bnd (bnd (fX1_areWithin_L3 nc k (nI i) (nI t) 0 12 FU (nI 0) (sI x 0 0)) _) _ = _
          rw [w1]
          try rw [bnd_k]
          show bnd (fX11_widths_L136 nc (nI i) (nI t) (nI c) k FU (nI 0) (sI x 0 0)) _ = _
          rw [ex]; rfl
        · rw [hM4, w5]
          try rw [bnd_k]
          show bnd (fX12_widths_L182 (nI k) (nI i) (nI t) (nI c) FU (nI 0) m) _ = _
          rw [em]; rfl
        · exact hJ.keep (iX 1 (by decide) (by decide)) (iM 1 (by decide)) (u5 2 (by decide) (by decide)) (u5 3 (by decide) (by decide)) (v4 2 (by decide) (by decide)) (v4 3 (by decide) (by decide))
        · refine ⟨h12, (iX 4 (by decide) (by decide)).trans hx4, (iM 4 (by decide)).trans hm4, fun c' hc' => ?_⟩
          show (gA x1 5 c' = gA m1 5 c' ∧ gA x1 6 c' = gA m1 6 c' ∧ gA x1 7 c' = gA m1 7 c' ∧ gA x1 8 c' = gA m1 8 c' ∧ gA x1 9 c' = gA m1 9 c' ∧ gA x1 10 c' = gA m1 10 c') ∧ CK J m1 c'
          unfold CK
          rw [u5 5 (by decide) (by decide), u5 6 (by decide) (by decide), u5 7 (by decide) (by decide), u5 9 (by decide) (by decide), v4 5 (by decide) (by decide), v4 6 (by decide) (by decide), v4 7 (by decide) (by decide), v4 9 (by decide) (by decide)]
          obtain ⟨⟨e5, e6, e7, e8, e9, e10⟩, a, b, k0, w0, u, s, p1, p2, p3, p4, p5, p6, p7, p8, z5, z6, z7, z8, z9, z10⟩ := hcr c' hc'
          by_cases hin : c ≤ c' ∧ c' < c + t
          · have ec : c' = c + (c' - c) := by omega
            obtain ⟨w, hw, ew⟩ := okW_nat (w6 (c' - c) (by omega) (by omega))
            have d8 : gA x1 8 c' = nI w := by rw [ec, (u6 (c' - c) (by omega) (by omega)).1, hcell _ (by omega)]; exact ew
            have d10 : gA x1 10 c' = nI 0 := by rw [ec]; exact (u6 (c' - c) (by omega) (by omega)).2
            have d8' : gA m1 8 c' = nI w := by rw [ec, (v5 (c' - c) (by omega) (by omega)).1]; exact ew
            have d10' : gA m1 10 c' = nI 0 := by rw [ec]; exact (v5 (c' - c) (by omega) (by omega)).2
            rw [d8, d10, d8', d10']
            exact ⟨⟨e5, e6, e7, rfl, e9, rfl⟩, a, b, k0, w, u, 0, p1, p2, p3, p4, hw, p6, p7, by omega, z5, z6, z7, rfl, z9, rfl⟩
          · have d8 : gA x1 8 c' = gA x 8 c' := (u7 c' (by omega)).1
            have d10 : gA x1 10 c' = gA x 10 c' := (u7 c' (by omega)).2
            have d8' : gA m1 8 c' = gA m 8 c' := (v6 c' (by omega)).1
            have d10' : gA m1 10 c' = gA m 10 c' := (v6 c' (by omega)).2
            rw [d8, d10, d8', d10']
            exact ⟨⟨e5, e6, e7, e8, e9, e10⟩, a, b, k0, w0, u, s, p1, p2, p3, p4, p5, p6, p7, p8, z5, z6, z7, z8, z9, z10⟩
        · obtain ⟨⟨r, r1, r2, r3, r4⟩, ⟨S, S1, S2, S3⟩, hf, ht⟩ := hS
          refine ⟨⟨r, r1, r2, (iX 11 (by decide) (by decide)).trans r3, (iM 11 (by decide)).trans r4⟩, ⟨S, by omega, (iX 12 (by decide) (by decide)).trans S2, (iM 12 (by decide)).trans S3⟩, u1 0 (by decide), ?_⟩
          rw [iX 38 (by decide) (by decide), iM 38 (by decide)]; exact ht
        · exact hK.keep (iX 29 (by decide) (by decide)) (iM 29 (by decide)) (iX 58 (by decide) (by decide)) (u5 73 (by decide) (by decide)) (u5 74 (by decide) (by decide)) (fun a ha => u5 a (by omega) (by omega)) (v4 30 (by decide) (by decide)) (v4 31 (by decide) (by decide)) (v4 32 (by decide) (by decide)) (v4 33 (by decide) (by decide))
        · exact hO.keep (u5 40 (by decide) (by decide)) (u5 41 (by decide) (by decide)) (u5 42 (by decide) (by decide)) (v4 34 (by decide) (by decide)) (v4 35 (by decide) (by decide)) (fun k _ _ => u4 k) (v3 36)
        · rcases Nat.eq_zero_or_pos t with ht0 | ht1
          · subst ht0
            have d8 : gA x1 8 = gA x 8 := funext fun c' => (u7 c' (by omega)).1
            refine hW.keep hV ⟨iX 1 (by decide) (by decide), iX 4 (by decide) (by decide), u5 2 (by decide) (by decide), u5 3 (by decide) (by decide), u5 5 (by decide) (by decide), u5 6 (by decide) (by decide), u5 7 (by decide) (by decide), d8, u3, iX 51 (by decide) (by decide), u4 69, u4 70⟩ ?_ (iX 53 (by decide) (by decide))
            rw [u2, gI_ne (by decide)]; exact Int32.add_zero _
          · exact hW.add hj ht1 (by omega) (by rw [u2, gI_ne (by decide)]) (iX 53 (by decide) (by decide))
      · exact absurd (by rw [← hcell q w7]; exact w2 q w6 w7) w8
    · rcases wi_m (s := m) (x5 := nI c) hk (show i + t ≤ 24 by omega) t 0 FU (by omega) (show t < 1000000 by omega) with ⟨w5, w6⟩ | ⟨w5, q', w6, w7, w8⟩
      · exact absurd (by rw [hcell q w3]; exact w6 q w2 w3) w4
      · refine ref (-2) 0 ?_ ?_
        · rw [hX3]
          try rw [bnd_k]
          show bnd (bnd (fX1_areWithin_L3 nc k (nI i) (nI t) 0 12 FU (nI 0) (sI x 0 0)) _) _ = _
          rw [w1]; rfl
        · rw [hM4, w5]; rfl
  · rw [if_neg hy] at hX hM
    refine ref (-12) 2 ?_ hM
    rw [hX]
    show some (_, sI (sI x 0 0) 0 2) = _
    rw [sI2]; rfl
end OPS11
