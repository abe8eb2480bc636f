/-! cores: putting, reading -/
section OPS5
variable {V : Nat → MS → Prop} {nc : Nat} {x m s : MS}
theorem sub_tl {a b : Int32} (h1 : 0 ≤ a.toInt) (h2 : 0 ≤ b.toInt) : (a - b).toInt = a.toInt - b.toInt := by
  have ha := a.toInt_lt
  have hb := b.toInt_lt
  rw [Int32.toInt_sub]
  refine Int.bmod_eq_of_le ?_ ?_ <;> omega
theorem x_hasCells1 {k n : Nat} {y : Int32} (hk : k < 4) (hn : n ≤ 24) (h : gA x 42 k = nI n) : (fX1_hasCells nc k y 1 x = some (0, x) ∧ (y < 0 ∨ nI n ≤ y)) ∨ (∃ i : Nat, i < n ∧ y = nI i ∧ fX1_hasCells nc k y 1 x = some (1, x)) := by
  have e1 : (1 : Int32).toInt = 1 := by decide
  have e0 : (0 : Int32).toInt = 0 := by decide
  rcases ixc y (n := n) (by omega) with ho | ⟨i, hi, rfl⟩
  · refine Or.inl ⟨?_, ho⟩
    unfold fX1_hasCells
    by_cases h1 : y < 0
    · rw [if_pos h1]
    · have h2 := ho.resolve_left h1
      rw [Int32.le_iff_toInt_le, nI_tl (by omega)] at h2
      rw [if_neg h1, if_pos hk, h, if_pos]
      rw [Int32.lt_iff_toInt_lt, sub_tl (by rw [nI_tl (by omega)]; omega) (by rw [Int32.lt_iff_toInt_lt] at h1; omega), nI_tl (by omega), e1]; omega
  · refine Or.inr ⟨i, hi, rfl, ?_⟩
    unfold fX1_hasCells
    rw [if_neg (nI_pos (by omega)), if_pos hk, h, if_neg]
    rw [Int32.lt_iff_toInt_lt, sub_tl (by rw [nI_tl (by omega)]; omega) (by rw [nI_tl (by omega)]; omega), nI_tl (by omega), nI_tl (by omega), e1]; omega
theorem m_noCell_null {k : Nat} {y : Int32} (hk : k < 4) (h : gA m 34 k = -1) : fX12_noCell (nI k) y m = some (1, m) := by
  unfold fX12_noCell
  rw [if_pos (inR hk (by decide)), nI_clamp (by omega), h, if_neg (by decide)]
theorem m_noCell_out {k n : Nat} {y : Int32} (hk : k < 4) (hn : n ≤ 24) (h : gA m 34 k = nI n) (ho : y < 0 ∨ nI n ≤ y) : fX12_noCell (nI k) y m = some (3, m) := by
  unfold fX12_noCell
  rw [if_pos (inR hk (by decide)), if_pos (inR hk (by decide)), nI_clamp (by omega), h, if_pos (nI_pos' (by omega)), am_idx_out (by omega) ho]; rfl
theorem m_noCell_in {k n i : Nat} (hk : k < 4) (hn : n ≤ 24) (h : gA m 34 k = nI n) (hi : i < n) : fX12_noCell (nI k) (nI i) m = some (0, m) := by
  unfold fX12_noCell
  rw [if_pos (inR hk (by decide)), if_pos (inR hk (by decide)), nI_clamp (by omega), h, if_pos (nI_pos' (by omega)), am_idx_in hi (by omega)]; rfl
/-- a long cut to a lane -/
def cutV (l : Int32) (v : Int64) : Int64 := if l = 0 then v.toInt32.toInt8.toInt32.toInt64 else if l = 1 then v.toInt32.toInt16.toInt32.toInt64 else if l = 2 then v.toInt32.toInt64 else v
theorem x_cut {k : Nat} {v : Int64} (hk : k < 4) : fX1_cut nc k v x = some (cutV (gA x 41 k) v, x) := by
  unfold fX1_cut cutV
  rw [if_pos hk]
  by_cases h0 : gA x 41 k = 0
  · rw [if_pos h0, if_pos h0]
  · rw [if_neg h0, if_neg h0]
    by_cases h1 : gA x 41 k = 1
    · rw [if_pos h1, if_pos h1]
    · rw [if_neg h1, if_neg h1]
      by_cases h2 : gA x 41 k = 2
      · rw [if_pos h2, if_pos h2]
      · rw [if_neg h2, if_neg h2]
theorem ix24 {k i : Nat} : 24 * nI k + nI i = nI (24 * k + i) := by rw [show (24 : Int32) = nI 24 from rfl, pk_mul, nI_add]
theorem op_put (hV : KeepsW V) : ∀ (y1 y2 : Int32) (y3 : Int64), OpI (RelV V) (fun nc σ => fX11_put nc y1 y2 y3 σ) (fun σ => fX12_put y1 y2 y3 σ) := by
  intro y1 y2 y3 j nc x m hj hR
  obtain ⟨J, hJ, hC, hS, hK, hO, hW⟩ := id hR
  rcases ixc y1 (n := 4) (by decide) with ho | ⟨k, hk, rfl⟩
  · refine ⟨-1, sI x 0 0, sI m 0 0, ?_, ?_, hR.fault hV⟩
    · show fX11_put nc y1 y2 y3 x = _
      unfold fX11_put; rw [x_isCore_out ho]; rfl
    · show fX12_put y1 y2 y3 m = _
      unfold fX12_put; rw [m_noCore_out ho]; rfl
  · have hr : ¬ (nI k < 0 ∨ 4 ≤ (nI k).toNatClampNeg) := inR hk (by decide)
    have hcl : (nI k).toNatClampNeg = k := nI_clamp (by omega)
    rcases hO k hk with ⟨h1, h2⟩ | ⟨h1, n, l, hn, hl, h3, h4, h5, h6, h7⟩
    · refine ⟨-11, sI x 0 1, sI m 0 1, ?_, ?_, hR.fault hV⟩
      · show fX11_put nc (nI k) y2 y3 x = _
        unfold fX11_put; rw [x_isCore_in hk]
        show (if _ then _ else _) = _
        rw [if_pos hr, hcl, if_pos hk, if_pos hk, if_neg (fun z => z h1)]
        show some (_, sI (sI x 0 0) 0 1) = _
        rw [sI2]; rfl
      · show fX12_put (nI k) y2 y3 m = _
        unfold fX12_put; rw [m_noCore_in hk, m_noCell_null hk h2]
        show bnd (fX12_noCell (nI k) y2 m) _ = _
        rw [m_noCell_null hk h2]; rfl
    · have hX : fX11_put nc (nI k) y2 y3 x = bnd (fX1_hasCells nc k y2 1 (sI x 0 0)) (fun r11 s12 => if ¬ r11 = 0 then if k < 4 then if k < 4 then bnd (fX1_cut nc k y3 s12) (fun r17 s18 => if k < 4 then if ¬ (y2 < 0 ∨ 24 ≤ y2.toNatClampNeg) then lets (sB s18 (90 + k) y2.toNatClampNeg r17) (fun s22 => some (1, s22)) else none else none) else none else none else bnd (fX11_faulted nc 3 s12) (fun r25 s26 => some (r25, s26))) := by
        unfold fX11_put; rw [x_isCore_in hk]
        show (if _ then _ else _) = _
        rw [if_pos hr, hcl, if_pos hk, if_pos hk, if_pos (by show ¬ gA x 40 k = 0; rw [h1]; decide), if_pos hk]
      rcases x_hasCells1 (nc := nc) (x := sI x 0 0) (y := y2) hk hn h3 with ⟨hc, ho⟩ | ⟨i, hi, rfl, hc⟩
      · refine ⟨-13, sI x 0 3, sI m 0 3, ?_, ?_, hR.fault hV⟩
        · show fX11_put nc (nI k) y2 y3 x = _
          rw [hX, hc]
          show some (_, sI (sI x 0 0) 0 3) = _
          rw [sI2]; rfl
        · show fX12_put (nI k) y2 y3 m = _
          unfold fX12_put; rw [m_noCore_in hk, m_noCell_out hk hn h4 ho]
          show bnd (fX12_noCell (nI k) y2 m) _ = _
          rw [m_noCell_out hk hn h4 ho]; rfl
      · have hci : (nI i).toNatClampNeg = i := nI_clamp (by omega)
        refine ⟨1, sB (sI x 0 0) (90 + k) i (cutV (nI l) y3), sI (sB m 36 (24 * k + i) (cutV (nI l) y3)) 0 0, ?_, ?_, J, hJ, hC, ⟨hS.1, hS.2.1.imp fun _ z => ⟨by omega, z.2⟩, rfl, hS.2.2.2⟩, hK.next, ?_, hW.keep hV ⟨rfl, rfl, rfl, rfl, rfl, rfl, rfl, rfl, rfl, rfl, gB_ne (by omega), gB_ne (by omega)⟩ rfl rfl⟩
        · show fX11_put nc (nI k) (nI i) y3 x = _
          rw [hX, hc]
          show (if _ then _ else _) = _
          rw [if_pos hk, if_pos hk, x_cut hk]
          show (if _ then _ else _) = _
          rw [if_pos hk, if_pos (inR (by omega) (by decide)), hci]
          show some (1, sB (sI x 0 0) (90 + k) i (cutV (gA x 41 k) y3)) = _
          rw [h5]
        · show fX12_put (nI k) (nI i) y3 m = _
          have hJ89 : ∀ t, fX12_put_J89 t (24 * nI k + nI i) m = some (1, sI (sB m 36 (24 * k + i) t) 0 0) := by
            intro t
            unfold fX12_put_J89
            rw [ix24, if_pos (inR (by omega) (by decide)), nI_clamp (by omega)]; rfl
          unfold fX12_put; rw [m_noCore_in hk, m_noCell_in hk hn h4 hi]
          show (if _ then _ else _) = _
          rw [if_pos hr, hcl, hJ89, hJ89, hJ89, hJ89, h6]
          rcases (show l = 0 ∨ l = 1 ∨ l = 2 ∨ l = 3 by omega) with rfl | rfl | rfl | rfl <;> rfl
        · intro k' hk'
          show (gA x 40 k' = 0 ∧ gA m 34 k' = -1) ∨ (gA x 40 k' = 1 ∧ ∃ n l' : Nat, n ≤ 24 ∧ l' ≤ 3 ∧ gA x 42 k' = nI n ∧ gA m 34 k' = nI n ∧ gA x 41 k' = nI l' ∧ gA m 35 k' = nI l' ∧ ∀ i', i' < n → gB (sB (sI x 0 0) (90 + k) i (cutV (nI l) y3)) (90 + k') i' = vp_updL (gB m 36) (24 * k + i) (cutV (nI l) y3) (24 * k' + i'))
          refine (hO k' hk').imp id fun ⟨a, n', l', q1, q2, q3, q4, q5, q6, q7⟩ => ⟨a, n', l', q1, q2, q3, q4, q5, q6, fun i' hi' => ?_⟩
          by_cases h : k' = k
          · subst h
            rw [gB_eq]
            by_cases hii : i' = i
            · subst hii; rw [pk_uLs, pk_uLs]
            · rw [pk_uLn hii, pk_uLn (by omega)]; exact q7 i' hi'
          · rw [gB_ne (by omega), pk_uLn (by omega)]; exact q7 i' hi'
end OPS5
