/-! copying cells -/
section OPS7
variable {V : Nat → MS → Prop} {nc : Nat} {x m s : MS}
/-- cells i .. i + n - 1 are there, or not: both tests -/
theorem cells_both {k n : Nat} {y z : Int32} (hk : k < 4) (hn : n ≤ 24) (hx : gA x 42 k = nI n) (hz : ¬ z < 0) : (fX1_hasCells nc k y z x = some (0, x) ∧ fX12_isBeyond y z (nI n) = some (1, ())) ∨ (∃ i l : Nat, y = nI i ∧ z = nI l ∧ i + l ≤ n ∧ fX1_hasCells nc k y z x = some (1, x) ∧ fX12_isBeyond y z (nI n) = some (0, ())) := by
  by_cases h1 : y < 0
  · refine Or.inl ⟨?_, ?_⟩
    · unfold fX1_hasCells; rw [if_pos h1]
    · unfold fX12_isBeyond; rw [if_pos h1]
  obtain ⟨i, hi, rfl⟩ := nI_of h1
  obtain ⟨l, hl, rfl⟩ := nI_of hz
  have et : (nI n - nI i).toInt = (n : Int) - i := by
    rw [sub_tl (by rw [nI_tl (by omega)]; omega) (by rw [nI_tl hi]; omega), nI_tl (by omega), nI_tl hi]
  have es : ((nI i).toInt64 + (nI l).toInt64).toInt = (i : Int) + l := by
    rw [Int64.toInt_add, Int32.toInt_toInt64, Int32.toInt_toInt64, nI_tl hi, nI_tl hl]
    refine Int.bmod_eq_of_le ?_ ?_ <;> omega
  have en : (nI n).toInt64.toInt = (n : Int) := by rw [Int32.toInt_toInt64, nI_tl (by omega)]
  have eb : fX12_isBeyond (nI i) (nI l) (nI n) = if 0 < lg_cmp ((nI i).toInt64 + (nI l).toInt64) (nI n).toInt64 then some (1, ()) else some (0, ()) := by
    unfold fX12_isBeyond; rw [if_neg h1, if_neg hz]
    by_cases h : 0 < lg_cmp ((nI i).toInt64 + (nI l).toInt64) (nI n).toInt64
    · rw [if_pos h, if_neg]; rw [Int32.lt_iff_toInt_lt] at h; rw [Int32.le_iff_toInt_le]; omega
    · rw [if_neg h, if_pos]; rw [Int32.lt_iff_toInt_lt] at h; rw [Int32.le_iff_toInt_le]; omega
  have eh : fX1_hasCells nc k (nI i) (nI l) x = if nI n - nI i < nI l then some (0, x) else some (1, x) := by
    unfold fX1_hasCells; rw [if_neg h1, if_pos hk, hx]
  have c1 : nI n - nI i < nI l ↔ (n : Int) < i + l := by rw [Int32.lt_iff_toInt_lt, et, nI_tl hl]; omega
  have c2 : 0 < lg_cmp ((nI i).toInt64 + (nI l).toInt64) (nI n).toInt64 ↔ (n : Int) < i + l := by rw [cmp_gt, Int64.lt_iff_toInt_lt, es, en]
  rw [eb, eh]
  by_cases h : (n : Int) < i + l
  · exact Or.inl ⟨if_pos (c1.mpr h), if_pos (c2.mpr h)⟩
  · exact Or.inr ⟨i, l, rfl, rfl, by omega, if_neg (fun z => h (c1.mp z)), if_neg (fun z => h (c2.mp z))⟩
theorem ix24' {k i t : Nat} : 24 * nI k + nI i + nI t = nI (24 * k + i + t) := by rw [ix24, nI_add]
theorem copy1 {k i n : Nat} {x3 x4 : Int32} (hk : k < 4) (hn : i + n ≤ 24) : ∀ (d t fu : Nat) (s : MS), t + d = n → d < fu → fX12_copy_L105 (nI k) (nI i) x3 x4 (nI n) fu (nI t) s = some ((), sBR s 37 (fun q => if t ≤ q ∧ q < n then gB s 36 (24 * k + i + q) else gB s 37 q)) := by
  intro d
  induction d with
  | zero =>
    intro t fu s ht hf
    obtain ⟨f, rfl⟩ : ∃ f, fu = f + 1 := ⟨fu - 1, by omega⟩
    obtain rfl : t = n := by omega
    rw [fX12_copy_L105_s, if_pos (nI_le (Nat.le_refl _) (by omega)), sBR_self (fun j => if_neg (by omega))]
  | succ d ih =>
    intro t fu s ht hf
    obtain ⟨f, rfl⟩ : ∃ f, fu = f + 1 := ⟨fu - 1, by omega⟩
    rw [fX12_copy_L105_s, if_neg (nI_ge (by omega) (by omega)), ix24', if_pos (inR (by omega) (by decide)), if_pos (inR (by omega) (by decide)), nI_clamp (by omega), nI_clamp (by omega)]
    show fX12_copy_L105 (nI k) (nI i) x3 x4 (nI n) f (nI t + 1) (sB s 37 t (gB s 36 (24 * k + i + t))) = _
    rw [nI_1, ih (t + 1) f _ (by omega) (by omega), sB_as, sBR_sBR]
    refine congrArg (fun g => some ((), sBR s 37 g)) (funext fun q => ?_)
    rw [gBR_eq, gBR_ne (by decide)]
    by_cases h1 : q = t
    · subst h1
      rw [if_neg (by omega), if_pos (by omega)]; exact if_pos rfl
    · by_cases h2 : t + 1 ≤ q ∧ q < n
      · rw [if_pos h2, if_pos (by omega)]
      · rw [if_neg h2, if_neg (by omega)]; exact if_neg h1
theorem copy2 {k i n : Nat} (hk : k < 4) (hn : i + n ≤ 24) : ∀ (d t fu : Nat) (s : MS), t + d = n → d < fu → fX12_copy_L142 (nI k) (nI i) (nI n) fu (nI t) s = some ((), sBR s 36 (fun q => if 24 * k + i + t ≤ q ∧ q < 24 * k + i + n then gB s 37 (q - (24 * k + i)) else gB s 36 q)) := by
  intro d
  induction d with
  | zero =>
    intro t fu s ht hf
    obtain ⟨f, rfl⟩ : ∃ f, fu = f + 1 := ⟨fu - 1, by omega⟩
    obtain rfl : t = n := by omega
    rw [fX12_copy_L142_s, if_pos (nI_le (Nat.le_refl _) (by omega)), sBR_self (fun j => if_neg (by omega))]
  | succ d ih =>
    intro t fu s ht hf
    obtain ⟨f, rfl⟩ : ∃ f, fu = f + 1 := ⟨fu - 1, by omega⟩
    rw [fX12_copy_L142_s, if_neg (nI_ge (by omega) (by omega)), ix24', if_pos (inR (by omega) (by decide)), if_pos (inR (by omega) (by decide)), nI_clamp (by omega), nI_clamp (by omega)]
    show fX12_copy_L142 (nI k) (nI i) (nI n) f (nI t + 1) (sB s 36 (24 * k + i + t) (gB s 37 t)) = _
    rw [nI_1, ih (t + 1) f _ (by omega) (by omega), sB_as, sBR_sBR]
    refine congrArg (fun g => some ((), sBR s 36 g)) (funext fun q => ?_)
    rw [gBR_eq, gBR_ne (by decide)]
    by_cases h1 : q = 24 * k + i + t
    · subst h1
      rw [if_neg (by omega), if_pos (by omega), show 24 * k + i + t - (24 * k + i) = t by omega]; exact if_pos rfl
    · by_cases h2 : 24 * k + i + (t + 1) ≤ q ∧ q < 24 * k + i + n
      · rw [if_pos h2, if_pos (by omega)]
      · rw [if_neg h2, if_neg (by omega)]; exact if_neg h1
theorem op_copy (hV : KeepsW V) : ∀ (y1 y2 y3 y4 y5 : Int32), OpI (RelV V) (fun nc σ => fX11_copy nc y1 y2 y3 y4 y5 σ) (fun σ => fX12_copy y1 y2 y3 y4 y5 σ) := by
  intro y1 y2 y3 y4 y5 j nc x m hj hR
  obtain ⟨J, hJ, hC, hS, hK, hO, hW⟩ := id hR
  have ref : ∀ r v, fX11_copy nc y1 y2 y3 y4 y5 x = some (r, sI x 0 v) → fX12_copy y1 y2 y3 y4 y5 m = some (r, sI m 0 v) → ∃ (r : Int32) (σx' σm' : MS), fX11_copy nc y1 y2 y3 y4 y5 x = some (r, σx') ∧ fX12_copy y1 y2 y3 y4 y5 m = some (r, σm') ∧ RelV V (j + 1) nc σx' σm' := fun r v a b => ⟨r, _, _, a, b, hR.fault hV⟩
  show ∃ (r : Int32) (σx' σm' : MS), fX11_copy nc y1 y2 y3 y4 y5 x = some (r, σx') ∧ fX12_copy y1 y2 y3 y4 y5 m = some (r, σm') ∧ RelV V (j + 1) nc σx' σm'
  rcases ixc y1 (n := 4) (by decide) with ho | ⟨k, hk, rfl⟩
  · refine ref (-1) 0 ?_ ?_
    · unfold fX11_copy; rw [x_isCore_out ho]; rfl
    · unfold fX12_copy; rw [m_noCore_out ho]; rfl
  rcases ixc y3 (n := 4) (by decide) with ho | ⟨o, hko, rfl⟩
  · refine ref (-1) 0 ?_ ?_
    · unfold fX11_copy; rw [x_isCore_in hk, x_isCore_out ho]; rfl
    · unfold fX12_copy; rw [m_noCore_in hk, m_noCore_out ho]; rfl
  have hcl : (nI k).toNatClampNeg = k := nI_clamp (by omega)
  have hclo : (nI o).toNatClampNeg = o := nI_clamp (by omega)
  have hr' : ¬ (nI k < 0 ∨ 4 ≤ k) := inR' hk (by decide)
  have hro : ¬ (nI o < 0 ∨ 4 ≤ o) := inR' hko (by decide)
  have hX : fX11_copy nc (nI k) y2 (nI o) y4 y5 x = if gA x 40 k = 0 then some (-11, sI (sI x 0 0) 0 1) else if ¬ gA x 40 o = 0 then if gA x 41 k = gA x 41 o then if y5 < 0 then some (-13, sI (sI x 0 0) 0 3) else bnd (fX1_hasCells nc k y2 y5 (sI x 0 0)) (fun r29 s30 => if r29 = 0 then fX11_copy_J106 nc s30 else bnd (fX1_hasCells nc o y4 y5 s30) (fun r34 s35 => if ¬ r34 = 0 then if (¬ y2 < 0 ∧ ¬ y4 < 0 ∧ ¬ y5 < 0) ∧ y2.toNatClampNeg + y5.toNatClampNeg ≤ 24 ∧ y4.toNatClampNeg + y5.toNatClampNeg ≤ 24 then some (y5, sBR s35 (90 + o) (va_cpy (gB s35 (90 + k)) (gB s35 (90 + o)) y2.toNatClampNeg y4.toNatClampNeg y5.toNatClampNeg)) else none else fX11_copy_J106 nc s35)) else some (-12, sI (sI x 0 0) 0 2) else some (-11, sI (sI x 0 0) 0 1) := by
    unfold fX11_copy; rw [x_isCore_in hk, x_isCore_in hko, hcl, hclo]
    show (if _ then _ else _) = _
    simp only [if_pos hr', if_pos hro, if_pos hk, if_pos hko]; rfl
  have hM : fX12_copy (nI k) y2 (nI o) y4 y5 m = if gA m 34 k < 0 then some (-11, sI m 0 1) else if 0 ≤ gA m 34 o then if gA m 35 k = gA m 35 o then bnd (fX12_isBeyond y2 y5 (gA m 34 k)) (fun r23 u24 => if ¬ r23 = 0 then some (-13, sI m 0 3) else bnd (fX12_isBeyond y4 y5 (gA m 34 o)) (fun r31 u32 => if r31 = 0 then bnd (fX12_copy_L105 (nI k) y2 (nI o) y4 y5 FU 0 m) (fun v40 s41 => bnd (fX12_copy_L142 (nI o) y4 y5 FU 0 s41) (fun v48 s49 => some (y5, sI s49 0 0))) else some (-13, sI m 0 3))) else some (-12, sI m 0 2) else some (-11, sI m 0 1) := by
    unfold fX12_copy; rw [m_noCore_in hk, m_noCore_in hko, hcl, hclo]
    show (if _ then _ else _) = _
    simp only [if_pos hr', if_pos hro]; rfl
  simp only [sI2] at hX
  rcases hO k hk with ⟨h1, h2⟩ | ⟨h1, n, l, hn, hl, q3, q4, q5, q6, q7⟩
  · exact ref (-11) 1 (by rw [hX, if_pos h1]) (by rw [hM, h2]; rfl)
  rw [if_neg (by rw [h1]; decide)] at hX
  rw [q4, if_neg (nI_pos (by omega))] at hM
  rcases hO o hko with ⟨g1, g2⟩ | ⟨g1, n', l', hn', hl', r3, r4, r5, r6, r7⟩
  · exact ref (-11) 1 (by rw [hX, g1]; rfl) (by rw [hM, g2]; rfl)
  rw [if_pos (show ¬ gA x 40 o = 0 by rw [g1]; decide), q5, r5] at hX
  rw [r4, if_pos (nI_pos' (by omega)), q6, r6] at hM
  by_cases hll : nI l = nI l'
  · rw [if_pos hll] at hX hM
    by_cases hz : y5 < 0
    · refine ref (-13) 3 (by rw [hX, if_pos hz]) ?_
      have hb : ∀ y n, fX12_isBeyond y y5 n = some (1, ()) := by
        intro y n; unfold fX12_isBeyond
        by_cases h : y < 0
        · rw [if_pos h]
        · rw [if_neg h, if_pos hz]
      rw [hM, hb]; rfl
    rw [if_neg hz] at hX
    rcases cells_both (nc := nc) (x := sI x 0 0) (y := y2) hk hn q3 hz with ⟨e1, e2⟩ | ⟨i, t, rfl, rfl, hit, e1, e2⟩
    · refine ref (-13) 3 ?_ (by rw [hM, e2]; rfl)
      rw [hX, e1]
      show some (_, sI (sI x 0 0) 0 3) = _
      rw [sI2]; rfl
    rw [e1] at hX
    rw [e2] at hM
    rcases cells_both (nc := nc) (x := sI x 0 0) (y := y4) hko hn' r3 hz with ⟨e3, e4⟩ | ⟨i', t', rfl, et', hit', e3, e4⟩
    · refine ref (-13) 3 ?_ ?_
      · rw [hX]
        show bnd (fX1_hasCells nc o y4 (nI t) (sI x 0 0)) _ = _
        rw [e3]
        show some (_, sI (sI x 0 0) 0 3) = _
        rw [sI2]; rfl
      · rw [hM]
        show bnd (fX12_isBeyond y4 (nI t) (nI n')) _ = _
        rw [e4]; rfl
    have htt : t < 2 ^ 31 := by omega
    have cf : (nI t' = nI t) := et'.symm
    obtain rfl : t' = t := (nI_eq (by omega) htt).mp cf
    refine ⟨nI t', sBR (sI x 0 0) (90 + o) (va_cpy (gB x (90 + k)) (gB x (90 + o)) i i' t'), sI (sBR (sBR m 37 (fun q => if 0 ≤ q ∧ q < t' then gB m 36 (24 * k + i + q) else gB m 37 q)) 36 (fun q => if 24 * o + i' + 0 ≤ q ∧ q < 24 * o + i' + t' then (if 0 ≤ q - (24 * o + i') ∧ q - (24 * o + i') < t' then gB m 36 (24 * k + i + (q - (24 * o + i'))) else gB m 37 (q - (24 * o + i'))) else gB m 36 q)) 0 0, ?_, ?_, J, hJ, hC, ⟨hS.1, hS.2.1.imp fun _ z => ⟨by omega, z.2⟩, rfl, hS.2.2.2⟩, hK.next, ?_, hW.keep hV ⟨rfl, rfl, rfl, rfl, rfl, rfl, rfl, rfl, rfl, rfl, gBR_ne (by omega), gBR_ne (by omega)⟩ rfl rfl⟩
    · rw [hX]
      show bnd (fX1_hasCells nc o (nI i') (nI t') (sI x 0 0)) _ = _
      rw [e3]
      show (if _ then _ else _) = _
      rw [if_pos ⟨⟨nI_pos (by omega), nI_pos (by omega), nI_pos (by omega)⟩, by rw [nI_clamp (by omega), nI_clamp (by omega)]; omega, by rw [nI_clamp (by omega), nI_clamp (by omega)]; omega⟩, nI_clamp (by omega), nI_clamp (by omega), nI_clamp (by omega)]; rfl
    · rw [hM]
      show bnd (fX12_isBeyond (nI i') (nI t') (nI n')) _ = _
      rw [e4]
      show bnd (fX12_copy_L105 (nI k) (nI i) (nI o) (nI i') (nI t') FU (nI 0) m) _ = _
      rw [copy1 hk (by omega) t' 0 FU m (by omega) (show t' < 1000000 by omega)]
      show bnd (fX12_copy_L142 (nI o) (nI i') (nI t') FU (nI 0) _) _ = _
      rw [copy2 hko (by omega) t' 0 FU _ (by omega) (show t' < 1000000 by omega), gBR_eq, gBR_ne (by decide)]; rfl
    · intro k' hk'
      show (gA x 40 k' = 0 ∧ gA m 34 k' = -1) ∨ (gA x 40 k' = 1 ∧ ∃ n l' : Nat, n ≤ 24 ∧ l' ≤ 3 ∧ gA x 42 k' = nI n ∧ gA m 34 k' = nI n ∧ gA x 41 k' = nI l' ∧ gA m 35 k' = nI l' ∧ ∀ z, z < n → gB (sBR (sI x 0 0) (90 + o) (va_cpy (gB x (90 + k)) (gB x (90 + o)) i i' t')) (90 + k') z = (if 24 * o + i' + 0 ≤ 24 * k' + z ∧ 24 * k' + z < 24 * o + i' + t' then (if 0 ≤ 24 * k' + z - (24 * o + i') ∧ 24 * k' + z - (24 * o + i') < t' then gB m 36 (24 * k + i + (24 * k' + z - (24 * o + i'))) else gB m 37 (24 * k' + z - (24 * o + i'))) else gB m 36 (24 * k' + z)))
      refine (hO k' hk').imp id fun ⟨a, n1, l1, p1, p2, p3, p4, p5, p6, p7⟩ => ⟨a, n1, l1, p1, p2, p3, p4, p5, p6, fun z hz' => ?_⟩
      by_cases h : k' = o
      · subst h
        rw [gBR_eq]
        unfold va_cpy
        by_cases hin : i' ≤ z ∧ z < i' + t'
        · rw [if_pos hin, if_pos (by omega), if_pos (by omega), q7 _ (by omega)]
          congr 1; omega
        · rw [if_neg hin, if_neg (by omega)]; exact p7 z hz'
      · rw [gBR_ne (by omega), if_neg (by omega)]; exact p7 z hz'
  · rw [if_neg hll] at hX hM
    exact ref (-12) 2 hX hM
end OPS7
