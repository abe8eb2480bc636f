/-! reading a written state -/
section SIMPS
variable {s : MS} {k i n : Nat} {v : Int32} {w : Int64} {f : Nat → Int64}
theorem gI_sA : gI (sA s k i v) n = gI s n := rfl
theorem gI_sB : gI (sB s k i w) n = gI s n := rfl
theorem gI_sBR : gI (sBR s k f) n = gI s n := rfl
theorem gA_sI : gA (sI s k v) n = gA s n := rfl
theorem gA_sB : gA (sB s k i w) n = gA s n := rfl
theorem gA_sBR : gA (sBR s k f) n = gA s n := rfl
theorem gB_sI : gB (sI s k v) n = gB s n := rfl
theorem gB_sA : gB (sA s k i v) n = gB s n := rfl
theorem gI_eq : gI (sI s k v) k = v := if_pos rfl
theorem gI_ne (h : n ≠ k) : gI (sI s k v) n = gI s n := if_neg h
end SIMPS
/-! a new crack -/
section OPS6
variable {V : Nat → MS → Prop} {nc : Nat} {x m s : MS}
theorem RK.grow {j nc : Nat} {x m : MS} (h : RK j nc x m) : RK j (nc + 1) x m := by
  obtain ⟨K, p, h1, h2, h3, h4, h5, h6⟩ := h
  exact ⟨K, p, h1, h2, h3, h4, h5, fun t ht => by obtain ⟨n, s, a, b, c⟩ := h6 t ht; exact ⟨n, s, by omega, b, c⟩⟩
def crkX (x : MS) (nc : Nat) (a b k w u : Int32) : MS := sI (sI (growS x nc a b k w u) 50 (gI x 50 + 1)) 4 (gI x 4 + 1)
def crkM (m : MS) (nc : Nat) (a b k w u : Int32) : MS := sI (growS m nc a b k w u) 4 (gI m 4 + 1)
theorem op_crack : ∀ (y1 y2 y3 y4 y5 : Int32), OpC (RelV V) (fun nc σ => fX11_crack nc y1 y2 y3 y4 y5 σ) (fun σ => fX12_crack y1 y2 y3 y4 y5 σ) := by
  intro y1 y2 y3 y4 y5 j nc x m hj hR
  obtain ⟨J, hJ, hC, hS, hK, hO, hW⟩ := id hR
  obtain ⟨hJ6, hx, hm, hh, hh0⟩ := hJ
  obtain ⟨h12, hx4, hm4, hcr⟩ := hC
  have ref : ∀ r, fX11_crack nc y1 y2 y3 y4 y5 x = some (r, (nc, x)) → fX12_crack y1 y2 y3 y4 y5 m = some (r, m) → ∃ (r : Int32) (nc' : Nat) (σx' σm' : MS), fX11_crack nc y1 y2 y3 y4 y5 x = some (r, (nc', σx')) ∧ fX12_crack y1 y2 y3 y4 y5 m = some (r, σm') ∧ RelV V (j + 1) nc' σx' σm' := fun r a b => ⟨r, nc, x, m, a, b, hR.next⟩
  show ∃ (r : Int32) (nc' : Nat) (σx' σm' : MS), fX11_crack nc y1 y2 y3 y4 y5 x = some (r, (nc', σx')) ∧ fX12_crack y1 y2 y3 y4 y5 m = some (r, σm') ∧ RelV V (j + 1) nc' σx' σm'
  rcases ixc y1 (n := J) (by omega) with ho | ⟨a, ha, rfl⟩
  · refine ref (-1) ?_ ?_
    · unfold fX11_crack; rw [x_hasJoint_out hx ho]; rfl
    · unfold fX12_crack; rw [m_noJoint_out hm (by omega) ho]; rfl
  rcases ixc y2 (n := J) (by omega) with ho | ⟨b, hb, rfl⟩
  · refine ref (-1) ?_ ?_
    · unfold fX11_crack; rw [x_hasJoint_in hx (by omega) ha]
      show bnd (fX5_hasJoint nc y2 x) _ = _
      rw [x_hasJoint_out hx ho]; rfl
    · unfold fX12_crack; rw [m_noJoint_in hm (by omega) ha]
      show bnd (fX12_noJoint y2 m) _ = _
      rw [m_noJoint_out hm (by omega) ho]; rfl
  have hX : fX11_crack nc (nI a) (nI b) y3 y4 y5 x = if nI a = nI b then some ((-2), (nc, x)) else bnd (fX12_among y3 0 4) (fun r10 u11 => if r10 = 0 then some ((-2), (nc, x)) else bnd (fX12_among y4 0 12) (fun r14 u15 => if r14 = 0 then some ((-2), (nc, x)) else bnd (fX12_among y5 1 12) (fun r18 u19 => if ¬ r18 = 0 then if (gI x 4) < 12 then if (gI x 4).toNatClampNeg = nc ∧ ¬ (gI x 4 < 0 ∨ 12 ≤ (gI x 4).toNatClampNeg) then some ((gI x 4 + 1) - 1, (nc + 1, crkX x nc (nI a) (nI b) y3 y4 y5)) else none else some ((-4), (nc, x)) else some ((-2), (nc, x))))) := by
    unfold fX11_crack; rw [x_hasJoint_in hx (by omega) ha]
    show bnd (fX5_hasJoint nc (nI b) x) _ = _
    rw [x_hasJoint_in hx (by omega) hb, x_isKind, within_eq, within_eq]; rfl
  have hM0 : ∀ (t : Option (Int32 × MS)), (∀ s, (¬ (gI s 4 < 0 ∨ 12 ≤ (gI s 4).toNatClampNeg)) → True) → True := fun _ _ => trivial
  have hM : fX12_crack (nI a) (nI b) y3 y4 y5 m = if nI a = nI b then some ((-2), m) else bnd (fX12_among y3 0 4) (fun r10 u11 => if r10 = 0 then some ((-2), m) else bnd (fX12_among y4 0 12) (fun r14 u15 => if r14 = 0 then some ((-2), m) else bnd (fX12_among y5 1 12) (fun r18 u19 => if ¬ r18 = 0 then if ¬ (gI m 4) = 12 then if ¬ (gI m 4 < 0 ∨ 12 ≤ (gI m 4).toNatClampNeg) then if ¬ (gI m 4 < 0 ∨ 12 ≤ (gI m 4).toNatClampNeg) then if ¬ (gI m 4 < 0 ∨ 12 ≤ (gI m 4).toNatClampNeg) then if ¬ (gI m 4 < 0 ∨ 12 ≤ (gI m 4).toNatClampNeg) then if ¬ (gI m 4 < 0 ∨ 12 ≤ (gI m 4).toNatClampNeg) then if ¬ (gI m 4 < 0 ∨ 12 ≤ (gI m 4).toNatClampNeg) then some ((gI m 4 + 1) - 1, crkM m (gI m 4).toNatClampNeg (nI a) (nI b) y3 y4 y5) else none else none else none else none else none else none else some ((-4), m) else some ((-2), m)))) := by
    unfold fX12_crack; rw [m_noJoint_in hm (by omega) ha]
    show bnd (fX12_noJoint (nI b) m) _ = _
    rw [m_noJoint_in hm (by omega) hb]; rfl
  by_cases he : a = b
  · subst he
    exact ref (-2) (by rw [hX, if_pos rfl]) (by rw [hM, if_pos rfl])
  have hne : ¬ nI a = nI b := fun h => he ((nI_eq (by omega) (by omega)).mp h)
  rw [if_neg hne] at hX hM
  rcases am01 y3 0 4 with ⟨h3, -⟩ | ⟨h3, h31, h32⟩
  · exact ref (-2) (by rw [hX, h3]; rfl) (by rw [hM, h3]; rfl)
  rcases am01 y4 0 12 with ⟨h4, -⟩ | ⟨h4, h41, h42⟩
  · exact ref (-2) (by rw [hX, h3, h4]; rfl) (by rw [hM, h3, h4]; rfl)
  rcases am01 y5 1 12 with ⟨h5, -⟩ | ⟨h5, h51, h52⟩
  · exact ref (-2) (by rw [hX, h3, h4, h5]; rfl) (by rw [hM, h3, h4, h5]; rfl)
  rw [h3, h4, h5] at hX hM
  rcases Nat.lt_or_ge nc 12 with hlt | hge
  · obtain ⟨k, hk, rfl⟩ := range_of (n := 4) (by decide) h31 h32
    obtain ⟨w, hw, rfl⟩ := range_of (n := 12) (by decide) h41 h42
    obtain ⟨u, hu1, hu, rfl⟩ := range_of1 (n := 12) (by decide) h51 h52
    have c1 : ¬ gI m 4 = 12 := by rw [hm4]; exact fun h => absurd ((nI_eq (b := 12) (by omega) (by decide)).mp h) (by omega)
    have c2 : ¬ (gI m 4 < 0 ∨ 12 ≤ (gI m 4).toNatClampNeg) := by rw [hm4]; exact inR hlt (by decide)
    have c3 : gI x 4 < 12 := by rw [hx4]; exact nI_lt (b := 12) hlt (by decide)
    have c4 : ¬ (gI x 4 < 0 ∨ 12 ≤ (gI x 4).toNatClampNeg) := by rw [hx4]; exact inR hlt (by decide)
    have ex : (gI x 4).toNatClampNeg = nc := by rw [hx4]; exact nI_clamp (by omega)
    have em : (gI m 4).toNatClampNeg = nc := by rw [hm4]; exact nI_clamp (by omega)
    have e0 : (nI nc + 1) - 1 = nI nc := by rw [nI_1]; exact nI_pred nc
    refine ⟨nI nc, nc + 1, crkX x nc (nI a) (nI b) (nI k) (nI w) (nI u), crkM m nc (nI a) (nI b) (nI k) (nI w) (nI u), ?_, ?_, J, ⟨hJ6, hx, hm, hh, hh0⟩, ⟨by omega, ?_, ?_, ?_⟩, hS.next, (RK.keep (x' := crkX x nc (nI a) (nI b) (nI k) (nI w) (nI u)) (m' := crkM m nc (nI a) (nI b) (nI k) (nI w) (nI u)) hK rfl rfl rfl rfl rfl ?_ rfl rfl rfl rfl).grow, hO, hW.step hj rfl rfl⟩
    · rw [hX]
      show (if _ then _ else _) = _
      rw [if_pos c3, if_pos ⟨ex, c4⟩, hx4, e0]
    · rw [hM]
      show (if _ then _ else _) = _
      rw [if_pos c1]
      simp only [if_pos c2]
      rw [em, hm4, e0]
    · show gI x 4 + 1 = _
      rw [hx4]; exact nI_1 nc
    · show gI m 4 + 1 = _
      rw [hm4]; exact nI_1 nc
    · intro c hc
      show (upd (gA x 5) nc (nI a) c = upd (gA m 5) nc (nI a) c ∧ upd (gA x 6) nc (nI b) c = upd (gA m 6) nc (nI b) c ∧ upd (gA x 7) nc (nI k) c = upd (gA m 7) nc (nI k) c ∧ upd (gA x 8) nc (nI w) c = upd (gA m 8) nc (nI w) c ∧ upd (gA x 9) nc (nI u) c = upd (gA m 9) nc (nI u) c ∧ upd (gA x 10) nc 0 c = upd (gA m 10) nc 0 c) ∧ ∃ a' b' k' w' u' s' : Nat, a' < J ∧ b' < J ∧ a' ≠ b' ∧ k' ≤ 4 ∧ w' ≤ 12 ∧ 1 ≤ u' ∧ u' ≤ 12 ∧ s' ≤ 999 ∧ upd (gA m 5) nc (nI a) c = nI a' ∧ upd (gA m 6) nc (nI b) c = nI b' ∧ upd (gA m 7) nc (nI k) c = nI k' ∧ upd (gA m 8) nc (nI w) c = nI w' ∧ upd (gA m 9) nc (nI u) c = nI u' ∧ upd (gA m 10) nc 0 c = nI s'
      by_cases h : c = nc
      · subst h
        simp only [upd_s]
        exact ⟨⟨trivial, trivial, trivial, trivial, trivial, trivial⟩, a, b, k, w, u, 0, ha, hb, he, hk, hw, hu1, hu, by omega, rfl, rfl, rfl, rfl, rfl, rfl⟩
      · simp only [upd_n h]
        exact hcr c (by omega)
    · intro a' ha'
      show gA (growS x nc (nI a) (nI b) (nI k) (nI w) (nI u)) a' = gA x a'
      unfold growS
      rw [gA_ne (by omega), gA_ne (by omega), gA_ne (by omega), gA_ne (by omega), gA_ne (by omega), gA_ne (by omega)]
  · obtain rfl : nc = 12 := by omega
    exact ref (-4) (by rw [hX, hx4]; rfl) (by rw [hM, hm4]; rfl)
/-! reading a cell -/
theorem x_lane {k l : Nat} {y : Int32} (hk : k < 4) (h0 : gA x 40 k = 1) (h1 : gA x 41 k = nI l) : fX1_isOfAnotherLane nc k y x = if nI l = y then some (0, x) else some (1, x) := by
  unfold fX1_isOfAnotherLane; rw [if_pos hk, h0, if_neg (by decide), if_pos hk, h1]
theorem x_lane0 {k : Nat} {y : Int32} (hk : k < 4) (h0 : gA x 40 k = 0) : fX1_isOfAnotherLane nc k y x = some (0, x) := by
  unfold fX1_isOfAnotherLane; rw [if_pos hk, if_pos h0]
theorem op_cell (hV : KeepsW V) : ∀ (y1 y2 y3 : Int32), OpL (RelV V) (fun nc σ => fX11_cell nc y1 y2 y3 σ) (fun σ => fX12_cell y1 y2 y3 σ) := by
  intro y1 y2 y3 j nc x m hj hR
  obtain ⟨J, hJ, hC, hS, hK, hO, hW⟩ := id hR
  have ref : ∀ (r : Int64) v, fX11_cell nc y1 y2 y3 x = some (r, sI x 0 v) → fX12_cell y1 y2 y3 m = some (r, sI m 0 v) → ∃ (r : Int64) (σx' σm' : MS), fX11_cell nc y1 y2 y3 x = some (r, σx') ∧ fX12_cell y1 y2 y3 m = some (r, σm') ∧ RelV V (j + 1) nc σx' σm' := fun r v a b => ⟨r, _, _, a, b, hR.fault hV⟩
  show ∃ (r : Int64) (σx' σm' : MS), fX11_cell nc y1 y2 y3 x = some (r, σx') ∧ fX12_cell y1 y2 y3 m = some (r, σm') ∧ RelV V (j + 1) nc σx' σm'
  rcases ixc y1 (n := 4) (by decide) with ho | ⟨k, hk, rfl⟩
  · refine ref (-9223372036854775808) 0 ?_ ?_
    · unfold fX11_cell; rw [x_isCore_out ho]; rfl
    · unfold fX12_cell; rw [m_noCore_out ho]; rfl
  have hr : ¬ (nI k < 0 ∨ 4 ≤ (nI k).toNatClampNeg) := inR hk (by decide)
  have hr' : ¬ (nI k < 0 ∨ 4 ≤ k) := inR' hk (by decide)
  have hcl : (nI k).toNatClampNeg = k := nI_clamp (by omega)
  rcases am01 y3 0 3 with ⟨h3, -⟩ | ⟨h3, h31, h32⟩
  · refine ref (-9223372036854775808) 0 ?_ ?_
    · unfold fX11_cell; rw [x_isCore_in hk, x_isLane, h3]; rfl
    · unfold fX12_cell; rw [m_noCore_in hk, h3]; rfl
  have hX : fX11_cell nc (nI k) y2 y3 x = bnd (fX1_isOfAnotherLane nc k y3 (sI x 0 0)) (fun r13 s14 => if r13 = 0 then if ¬ (gA s14 40 k) = 0 then bnd (fX1_hasCells nc k y2 1 s14) (fun r20 s21 => if ¬ r20 = 0 then if ¬ (y2 < 0 ∨ 24 ≤ y2.toNatClampNeg) then some (gB s21 (90 + k) y2.toNatClampNeg, s21) else none else bnd (fX11_lost nc 3 s21) (fun r28 s29 => some (r28, s29))) else bnd (fX11_lost nc 1 s14) (fun r31 s32 => some (r31, s32)) else bnd (fX11_lost nc 2 s14) (fun r34 s35 => some (r34, s35))) := by
    unfold fX11_cell; rw [x_isCore_in hk, x_isLane, h3, hcl]
    show (if _ then _ else _) = _
    simp only [if_pos hr', if_pos hk]
  have hM : fX12_cell (nI k) y2 y3 m = if (gA m 34 k) < 0 then fX12_cell_J50 (nI k) y2 (sI m 0 0) else if (gA m 35 k) = y3 then fX12_cell_J50 (nI k) y2 (sI m 0 0) else some (-9223372036854775808, sI (sI m 0 0) 0 2) := by
    unfold fX12_cell; rw [m_noCore_in hk, h3, hcl]
    show (if _ then _ else _) = _
    simp only [if_pos hr']; rfl
  rcases hO k hk with ⟨h1, h2⟩ | ⟨h1, n, l, hn, hl, q3, q4, q5, q6, q7⟩
  · refine ref (-9223372036854775808) 1 ?_ ?_
    · rw [hX, x_lane0 (x := sI x 0 0) hk h1]
      show (if ¬ gA x 40 k = 0 then _ else _) = _
      rw [if_neg (fun z => z h1)]
      show some (_, sI (sI x 0 0) 0 1) = _
      rw [sI2]
    · rw [hM, h2, if_pos (by decide)]
      unfold fX12_cell_J50
      rw [m_noCell_null (m := sI m 0 0) hk h2]
      show bnd (fX12_noCell (nI k) y2 (sI m 0 0)) _ = _
      rw [m_noCell_null (m := sI m 0 0) hk h2]
      show some (_, sI (sI m 0 0) 0 1) = _
      rw [sI2]
  rw [x_lane (x := sI x 0 0) hk h1 q5] at hX
  rw [q4, if_neg (nI_pos (by omega)), q6] at hM
  by_cases hy : nI l = y3
  · rw [if_pos hy] at hX hM
    have hX2 : fX11_cell nc (nI k) y2 y3 x = bnd (fX1_hasCells nc k y2 1 (sI x 0 0)) (fun r20 s21 => if ¬ r20 = 0 then if ¬ (y2 < 0 ∨ 24 ≤ y2.toNatClampNeg) then some (gB s21 (90 + k) y2.toNatClampNeg, s21) else none else bnd (fX11_lost nc 3 s21) (fun r28 s29 => some (r28, s29))) := by
      rw [hX]
      show (if ¬ gA x 40 k = 0 then _ else _) = _
      rw [if_pos (by rw [h1]; decide)]
    unfold fX12_cell_J50 at hM
    rcases x_hasCells1 (nc := nc) (x := sI x 0 0) (y := y2) hk hn q3 with ⟨hc, ho⟩ | ⟨i, hi, rfl, hc⟩
    · refine ref (-9223372036854775808) 3 ?_ ?_
      · rw [hX2, hc]
        show some (_, sI (sI x 0 0) 0 3) = _
        rw [sI2]
      · rw [hM, m_noCell_out (m := sI m 0 0) hk hn q4 ho]
        show bnd (fX12_noCell (nI k) y2 (sI m 0 0)) _ = _
        rw [m_noCell_out (m := sI m 0 0) hk hn q4 ho]
        show some (_, sI (sI m 0 0) 0 3) = _
        rw [sI2]
    · refine ref (gB m 36 (24 * k + i)) 0 ?_ ?_
      · rw [hX2, hc]
        show (if _ then _ else _) = _
        rw [if_pos (inR (by omega) (by decide)), nI_clamp (by omega)]
        show some (gB x (90 + k) i, _) = _
        rw [q7 i hi]
      · rw [hM, m_noCell_in (m := sI m 0 0) hk hn q4 hi]
        show (if _ then _ else _) = _
        rw [ix24, if_pos (inR (by omega) (by decide)), nI_clamp (by omega)]; rfl
  · rw [if_neg hy] at hX hM
    refine ref (-9223372036854775808) 2 ?_ ?_
    · rw [hX]
      show some (_, sI (sI x 0 0) 0 2) = _
      rw [sI2]
    · rw [hM, sI2]
end OPS6
