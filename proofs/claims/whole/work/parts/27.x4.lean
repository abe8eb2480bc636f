def fX9_findEnds (nc : Nat) (σ : MS) : Option (Unit × MS) :=
  bnd (fX5_heldMost nc 1 σ) (fun r1 s2 => lets (sI s2 54 r1) (fun s4 => bnd (fX5_heldMost nc (-1) s4) (fun r6 s7 => lets (sI s7 55 r6) (fun s9 => if ((gI s9 54) &&& (gI s9 55)) = 0 then some ((), s9) else lets (sI s9 54 0) (fun s12 => lets (sI s12 55 0) (fun s14 => some ((), s14)))))))
theorem inX9_X9_findEnds : ∀ w ∈ wsX90, w ∈ wsX9_findEnds := by decide +kernel
set_option maxHeartbeats 4000000 in
set_option maxRecDepth 100000 in
theorem kX9_findEnds (l : Launch) (D : va_G) (τ : CId) (q : Nat → Nat) (nc : Nat) (σ : MS) (sE : MS) (hf : fX9_findEnds nc σ = some ((), sE)) : Ct l D τ yX9_findEnds wsX9_findEnds { frames := 1, cells := 0, slots := 0, locals := 25 } [.ref (q 62)] (xW τ q nc σ) (FD (xW τ q nc sE) none) := by
  unfold fX9_findEnds at hf
  refine ct_of (cc := cX9_findEnds) (maxL := 1) (ret := none) (by decide) rfl (Nat.le_of_ble_eq_true rfl) (fun Γ C => ?_)
  refine wm_lv (lv' := [(0, .ref (q 62))]) rfl ?_
  refine wm_aload_n C dX9_findEnds_0 0 rfl (pc' := 1) rfl ?_
  refine wm_aload_n C dX9_findEnds_1 0 rfl (pc' := 2) rfl ?_
  refine x_get (v := .ref (q 60)) C dX9_findEnds_2 inX9_X9_findEnds 3 (by omega) rfl rfl 0 (by decide) (by decide +kernel) (Or.inl rfl) rfl (pc' := 5) rfl ?_
  refine wm_ikonst (v := 1) C dX9_findEnds_5 (by decide) (pc' := 6) rfl ?_
  obtain ⟨r1, s2, h3, hf⟩ := bnd_s hf
  refine wm_callVd (nn := 1) (As := [.int 1]) (rest := [.ref (q 62)]) (st' := [.int r1, .ref (q 62)]) C dX9_findEnds_6 (kX5_heldMost l D τ q nc σ 1 r1 s2 h3) gX9_findEnds_X5_heldMost rfl (by decide +kernel) ⟨Nat.le_of_ble_eq_true rfl, Nat.le_of_ble_eq_true rfl⟩ rfl rfl ⟨Nat.zero_le _, Nat.zero_le _⟩ 1 (x_at (by omega) rfl) rfl rfl rfl (Nat.le_of_ble_eq_true rfl) rfl (pc' := 9) rfl ?_
  obtain ⟨s4, e5, hf⟩ := lets_s hf
  refine x_put (σ' := s4) C dX9_findEnds_9 inX9_X9_findEnds tyX9 tyX9_ok nmX9 3 (by omega) rfl rfl 1 (by decide) (by decide +kernel) (Or.inl rfl) rfl rfl rfl rfl (Nat.le_of_ble_eq_true rfl) (e5 ▸ xC_I54) (e5 ▸ rfl) (pc' := 12) rfl ?_
  refine wm_aload_n C dX9_findEnds_12 0 rfl (pc' := 13) rfl ?_
  refine wm_aload_n C dX9_findEnds_13 0 rfl (pc' := 14) rfl ?_
  refine x_get (v := .ref (q 60)) C dX9_findEnds_14 inX9_X9_findEnds 3 (by omega) rfl rfl 0 (by decide) (by decide +kernel) (Or.inl rfl) rfl (pc' := 17) rfl ?_
  refine wm_ikonst (v := (-1)) C dX9_findEnds_17 (by decide) (pc' := 18) rfl ?_
  obtain ⟨r6, s7, h8, hf⟩ := bnd_s hf
  refine wm_callVd (nn := 1) (As := [.int (-1)]) (rest := [.ref (q 62)]) (st' := [.int r6, .ref (q 62)]) C dX9_findEnds_18 (kX5_heldMost l D τ q nc s4 (-1) r6 s7 h8) gX9_findEnds_X5_heldMost rfl (by decide +kernel) ⟨Nat.le_of_ble_eq_true rfl, Nat.le_of_ble_eq_true rfl⟩ rfl rfl ⟨Nat.zero_le _, Nat.zero_le _⟩ 1 (x_at (by omega) rfl) rfl rfl rfl (Nat.le_of_ble_eq_true rfl) rfl (pc' := 21) rfl ?_
  obtain ⟨s9, e10, hf⟩ := lets_s hf
  refine x_put (σ' := s9) C dX9_findEnds_21 inX9_X9_findEnds tyX9 tyX9_ok nmX9 3 (by omega) rfl rfl 2 (by decide) (by decide +kernel) (Or.inl rfl) rfl rfl rfl rfl (Nat.le_of_ble_eq_true rfl) (e10 ▸ xC_I55) (e10 ▸ rfl) (pc' := 24) rfl ?_
  refine wm_aload_n C dX9_findEnds_24 0 rfl (pc' := 25) rfl ?_
  refine x_get (v := .int (gI s9 54)) C dX9_findEnds_25 inX9_X9_findEnds 3 (by omega) rfl rfl 1 (by decide) (by decide +kernel) (Or.inl rfl) rfl (pc' := 28) rfl ?_
  refine wm_aload_n C dX9_findEnds_28 0 rfl (pc' := 29) rfl ?_
  refine x_get (v := .int (gI s9 55)) C dX9_findEnds_29 inX9_X9_findEnds 3 (by omega) rfl rfl 2 (by decide) (by decide +kernel) (Or.inl rfl) rfl (pc' := 32) rfl ?_
  refine wm_iand C dX9_findEnds_32 (pc' := 33) rfl ?_
  refine wm_if_eq C dX9_findEnds_33 46 (by decide) (pc' := 36) rfl (fun h11 => ?_) (fun h11 => ?_)
  · have hf := ite_t h11 hf
    obtain ⟨-, rfl⟩ := leaf_s hf
    exact wm_vret C dX9_findEnds_46 (Nat.zero_le _) (Nat.zero_le _) FD.rf
  · have hf := ite_f h11 hf
    refine wm_aload_n C dX9_findEnds_36 0 rfl (pc' := 37) rfl ?_
    refine wm_ikonst (v := 0) C dX9_findEnds_37 (by decide) (pc' := 38) rfl ?_
    obtain ⟨s12, e13, hf⟩ := lets_s hf
    refine x_put (σ' := s12) C dX9_findEnds_38 inX9_X9_findEnds tyX9 tyX9_ok nmX9 3 (by omega) rfl rfl 1 (by decide) (by decide +kernel) (Or.inl rfl) rfl rfl rfl rfl (Nat.le_of_ble_eq_true rfl) (e13 ▸ xC_I54) (e13 ▸ rfl) (pc' := 41) rfl ?_
    refine wm_aload_n C dX9_findEnds_41 0 rfl (pc' := 42) rfl ?_
    refine wm_ikonst (v := 0) C dX9_findEnds_42 (by decide) (pc' := 43) rfl ?_
    obtain ⟨s14, e15, hf⟩ := lets_s hf
    refine x_put (σ' := s14) C dX9_findEnds_43 inX9_X9_findEnds tyX9 tyX9_ok nmX9 3 (by omega) rfl rfl 2 (by decide) (by decide +kernel) (Or.inl rfl) rfl rfl rfl rfl (Nat.le_of_ble_eq_true rfl) (e15 ▸ xC_I55) (e15 ▸ rfl) (pc' := 46) rfl ?_
    obtain ⟨-, rfl⟩ := leaf_s hf
    exact wm_vret C dX9_findEnds_46 (Nat.zero_le _) (Nat.zero_le _) FD.rf
def fX9_isOne (nc : Nat) (x1 : Int32) (σ : MS) : Option (Int32 × MS) :=
  bnd (fX9_findEnds nc σ) (fun r1 s2 => bnd (fX5_reachedFrom nc (gI s2 54) x1 s2) (fun r4 s5 => if (r4 &&& (gI s5 55)) = 0 then some (0, s5) else some (1, s5)))
theorem inX9_X9_isOne : ∀ w ∈ wsX90, w ∈ wsX9_isOne := by decide +kernel
set_option maxHeartbeats 4000000 in
set_option maxRecDepth 100000 in
theorem kX9_isOne (l : Launch) (D : va_G) (τ : CId) (q : Nat → Nat) (nc : Nat) (σ : MS) (x1 : Int32) (rE : Int32) (sE : MS) (hf : fX9_isOne nc x1 σ = some (rE, sE)) : Ct l D τ yX9_isOne wsX9_isOne { frames := 2, cells := 0, slots := 0, locals := 45 } [.ref (q 62), .int x1] (xW τ q nc σ) (FD (xW τ q nc sE) (some (.int rE))) := by
  unfold fX9_isOne at hf
  refine ct_of (cc := cX9_isOne) (maxL := 2) (ret := (some .boolean)) (by decide) rfl (Nat.le_of_ble_eq_true rfl) (fun Γ C => ?_)
  refine wm_lv (lv' := [(0, .ref (q 62)), (1, .int x1)]) rfl ?_
  refine wm_aload_n C dX9_isOne_0 0 rfl (pc' := 1) rfl ?_
  obtain ⟨r1, s2, h3, hf⟩ := bnd_s hf
  refine wm_callVd (nn := 0) (As := []) (rest := []) (st' := []) C dX9_isOne_1 (kX9_findEnds l D τ q nc σ s2 h3) gX9_isOne_X9_findEnds rfl (by decide +kernel) ⟨Nat.le_of_ble_eq_true rfl, Nat.le_of_ble_eq_true rfl⟩ rfl rfl ⟨Nat.zero_le _, Nat.zero_le _⟩ 3 (x_at (by omega) rfl) rfl rfl rfl (Nat.le_of_ble_eq_true rfl) rfl (pc' := 4) rfl ?_
  refine wm_aload_n C dX9_isOne_4 0 rfl (pc' := 5) rfl ?_
  refine x_get (v := .ref (q 60)) C dX9_isOne_5 inX9_X9_isOne 3 (by omega) rfl rfl 0 (by decide) (by decide +kernel) (Or.inl rfl) rfl (pc' := 8) rfl ?_
  refine wm_aload_n C dX9_isOne_8 0 rfl (pc' := 9) rfl ?_
  refine x_get (v := .int (gI s2 54)) C dX9_isOne_9 inX9_X9_isOne 3 (by omega) rfl rfl 1 (by decide) (by decide +kernel) (Or.inl rfl) rfl (pc' := 12) rfl ?_
  refine wm_iload_n C dX9_isOne_12 1 rfl (pc' := 13) rfl ?_
  obtain ⟨r4, s5, h6, hf⟩ := bnd_s hf
  refine wm_callVd (nn := 2) (As := [.int (gI s2 54), .int x1]) (rest := []) (st' := [.int r4]) C dX9_isOne_13 (kX5_reachedFrom l D τ q nc s2 (gI s2 54) x1 r4 s5 h6) gX9_isOne_X5_reachedFrom rfl (by decide +kernel) ⟨Nat.le_of_ble_eq_true rfl, Nat.le_of_ble_eq_true rfl⟩ rfl rfl ⟨Nat.zero_le _, Nat.zero_le _⟩ 1 (x_at (by omega) rfl) rfl rfl rfl (Nat.le_of_ble_eq_true rfl) rfl (pc' := 16) rfl ?_
  refine wm_aload_n C dX9_isOne_16 0 rfl (pc' := 17) rfl ?_
  refine x_get (v := .int (gI s5 55)) C dX9_isOne_17 inX9_X9_isOne 3 (by omega) rfl rfl 2 (by decide) (by decide +kernel) (Or.inl rfl) rfl (pc' := 20) rfl ?_
  refine wm_iand C dX9_isOne_20 (pc' := 21) rfl ?_
  refine wm_if_eq C dX9_isOne_21 28 (by decide) (pc' := 24) rfl (fun h7 => ?_) (fun h7 => ?_)
  · have hf := ite_t h7 hf
    refine wm_ikonst (v := 0) C dX9_isOne_28 (by decide) (pc' := 29) rfl ?_
    obtain ⟨rfl, rfl⟩ := leaf_s hf
    exact wm_zret C dX9_isOne_29 (by decide) (Nat.zero_le _) (Nat.zero_le _) FD.rf
  · have hf := ite_f h7 hf
    refine wm_ikonst (v := 1) C dX9_isOne_24 (by decide) (pc' := 25) rfl ?_
    refine wm_goto C dX9_isOne_25 29 (by decide) ?_
    obtain ⟨rfl, rfl⟩ := leaf_s hf
    exact wm_zret C dX9_isOne_29 (by decide) (Nat.zero_le _) (Nat.zero_le _) FD.rf
def fX9_countFrom_B_J136 (nc : Nat) (cf : Int32 → Int32 → Int32 → Int32 → MS → Option (Int32 × MS)) (rec : Int32 → Int32 → MS → Option (Int32 × MS)) (x1 : Int32) (x2 : Int32) (x3 : Int32) (x4 : Int32) (x5 : Int32) (x6 : Int32) (s : MS) : Option (Int32 × MS) :=
  rec x5 (x6 + 1) s
def fX9_countFrom_B_J126 (nc : Nat) (cf : Int32 → Int32 → Int32 → Int32 → MS → Option (Int32 × MS)) (rec : Int32 → Int32 → MS → Option (Int32 × MS)) (x1 : Int32) (x2 : Int32) (x3 : Int32) (x4 : Int32) (x6 : Int32) (t0 : Int32) (t1 : Int32) (t2 : Int32) (t4 : Int32) (s : MS) : Option (Int32 × MS) :=
  bnd (cf t2 t1 t0 (x4 + 1) s) (fun r21 s22 => fX9_countFrom_B_J136 nc cf (rec) x1 x2 x3 x4 (t4 + r21) x6 s22)
def fX9_countFrom_B_J121 (nc : Nat) (cf : Int32 → Int32 → Int32 → Int32 → MS → Option (Int32 × MS)) (rec : Int32 → Int32 → MS → Option (Int32 × MS)) (x1 : Int32) (x2 : Int32) (x3 : Int32) (x4 : Int32) (x6 : Int32) (t0 : Int32) (t1 : Int32) (t3 : Int32) (s : MS) : Option (Int32 × MS) :=
  fX9_countFrom_B_J126 nc cf (rec) x1 x2 x3 x4 x6 1 t0 t1 t3 s
def fX9_countFrom_B_L35 (nc : Nat) (cf : Int32 → Int32 → Int32 → Int32 → MS → Option (Int32 × MS)) (x1 : Int32) (x2 : Int32) (x3 : Int32) (x4 : Int32) : Nat → Int32 → Int32 → MS → Option (Int32 × MS)
  | 0, _, _, _ => none
  | fu + 1, x5, x6, s => if (gI s 4) ≤ x6 then some (x5, s) else if ¬ (x6 < 0 ∨ 12 ≤ x6.toNatClampNeg) then if x6.toNatClampNeg < nc then if x6.toNatClampNeg < nc then bnd (fX2_otherEnd nc x6.toNatClampNeg x1 s) (fun r6 s7 => if x6.toNatClampNeg < nc then bnd (fX2_isAt nc x6.toNatClampNeg x1 s7) (fun r11 s12 => if r11 = 0 then fX9_countFrom_B_J136 nc cf (fX9_countFrom_B_L35 nc cf x1 x2 x3 x4 fu) x1 x2 x3 x4 x5 x6 s12 else if x6.toNatClampNeg < nc then if (gA s12 8 x6.toNatClampNeg) < (gI s12 56) then fX9_countFrom_B_J136 nc cf (fX9_countFrom_B_L35 nc cf x1 x2 x3 x4 fu) x1 x2 x3 x4 x5 x6 s12 else if ¬ ((x2 >>> (r6 &&& 31)) &&& 1) = 0 then fX9_countFrom_B_J136 nc cf (fX9_countFrom_B_L35 nc cf x1 x2 x3 x4 fu) x1 x2 x3 x4 x5 x6 s12 else if ¬ x3 = 0 then fX9_countFrom_B_J121 nc cf (fX9_countFrom_B_L35 nc cf x1 x2 x3 x4 fu) x1 x2 x3 x4 x6 (x2 ||| (1 <<< (r6 &&& 31))) r6 x5 s12 else if ¬ x6 = (gI s12 57) then fX9_countFrom_B_J126 nc cf (fX9_countFrom_B_L35 nc cf x1 x2 x3 x4 fu) x1 x2 x3 x4 x6 0 (x2 ||| (1 <<< (r6 &&& 31))) r6 x5 s12 else fX9_countFrom_B_J121 nc cf (fX9_countFrom_B_L35 nc cf x1 x2 x3 x4 fu) x1 x2 x3 x4 x6 (x2 ||| (1 <<< (r6 &&& 31))) r6 x5 s12 else none) else none) else none else none else none
theorem fX9_countFrom_B_L35_s (nc : Nat) (cf : Int32 → Int32 → Int32 → Int32 → MS → Option (Int32 × MS)) (x1 : Int32) (x2 : Int32) (x3 : Int32) (x4 : Int32) (fu : Nat) (x5 : Int32) (x6 : Int32) (s : MS) : fX9_countFrom_B_L35 nc cf x1 x2 x3 x4 (fu + 1) x5 x6 s = (if (gI s 4) ≤ x6 then some (x5, s) else if ¬ (x6 < 0 ∨ 12 ≤ x6.toNatClampNeg) then if x6.toNatClampNeg < nc then if x6.toNatClampNeg < nc then bnd (fX2_otherEnd nc x6.toNatClampNeg x1 s) (fun r6 s7 => if x6.toNatClampNeg < nc then bnd (fX2_isAt nc x6.toNatClampNeg x1 s7) (fun r11 s12 => if r11 = 0 then fX9_countFrom_B_J136 nc cf (fX9_countFrom_B_L35 nc cf x1 x2 x3 x4 fu) x1 x2 x3 x4 x5 x6 s12 else if x6.toNatClampNeg < nc then if (gA s12 8 x6.toNatClampNeg) < (gI s12 56) then fX9_countFrom_B_J136 nc cf (fX9_countFrom_B_L35 nc cf x1 x2 x3 x4 fu) x1 x2 x3 x4 x5 x6 s12 else if ¬ ((x2 >>> (r6 &&& 31)) &&& 1) = 0 then fX9_countFrom_B_J136 nc cf (fX9_countFrom_B_L35 nc cf x1 x2 x3 x4 fu) x1 x2 x3 x4 x5 x6 s12 else if ¬ x3 = 0 then fX9_countFrom_B_J121 nc cf (fX9_countFrom_B_L35 nc cf x1 x2 x3 x4 fu) x1 x2 x3 x4 x6 (x2 ||| (1 <<< (r6 &&& 31))) r6 x5 s12 else if ¬ x6 = (gI s12 57) then fX9_countFrom_B_J126 nc cf (fX9_countFrom_B_L35 nc cf x1 x2 x3 x4 fu) x1 x2 x3 x4 x6 0 (x2 ||| (1 <<< (r6 &&& 31))) r6 x5 s12 else fX9_countFrom_B_J121 nc cf (fX9_countFrom_B_L35 nc cf x1 x2 x3 x4 fu) x1 x2 x3 x4 x6 (x2 ||| (1 <<< (r6 &&& 31))) r6 x5 s12 else none) else none) else none else none else none) := rfl
def fX9_countFrom_B_J30 (nc : Nat) (cf : Int32 → Int32 → Int32 → Int32 → MS → Option (Int32 × MS)) (x1 : Int32) (x2 : Int32) (x3 : Int32) (x4 : Int32) (t0 : Int32) (s : MS) : Option (Int32 × MS) :=
  bnd (fX9_countFrom_B_L35 nc cf x1 x2 x3 x4 FU t0 0 s) (fun v25 s26 => some (v25, s26))
def fX9_countFrom_B_J29 (nc : Nat) (cf : Int32 → Int32 → Int32 → Int32 → MS → Option (Int32 × MS)) (x1 : Int32) (x2 : Int32) (x3 : Int32) (x4 : Int32) (s : MS) : Option (Int32 × MS) :=
  fX9_countFrom_B_J30 nc cf x1 x2 x3 x4 0 s
def fX9_countFrom_B (nc : Nat) (cf : Int32 → Int32 → Int32 → Int32 → MS → Option (Int32 × MS)) (x1 : Int32) (x2 : Int32) (x3 : Int32) (x4 : Int32) (σ : MS) : Option (Int32 × MS) :=
  if x4 ≤ 6 then if x3 = 0 then fX9_countFrom_B_J29 nc cf x1 x2 x3 x4 σ else if ¬ (((gI σ 55) >>> (x1 &&& 31)) &&& 1) = 1 then fX9_countFrom_B_J29 nc cf x1 x2 x3 x4 σ else fX9_countFrom_B_J30 nc cf x1 x2 x3 x4 1 σ else some (0, σ)
theorem in5_X9_countFrom : In5 wsX9_countFrom := ⟨by decide +kernel, by decide +kernel, by decide +kernel, by decide +kernel, by decide +kernel⟩
theorem inX5_X9_countFrom : ∀ w ∈ wsX50, w ∈ wsX9_countFrom := by decide +kernel
theorem inX9_X9_countFrom : ∀ w ∈ wsX90, w ∈ wsX9_countFrom := by decide +kernel
def fX9_countFromR (nc : Nat) : Nat → Int32 → Int32 → Int32 → Int32 → MS → Option (Int32 × MS)
  | 0, _, _, _, _, _ => none
  | fu + 1, x1, x2, x3, x4, s => fX9_countFrom_B nc (fX9_countFromR nc fu) x1 x2 x3 x4 s
set_option maxHeartbeats 4000000 in
set_option maxRecDepth 100000 in
theorem kX9_countFromR (l : Launch) (D : va_G) (τ : CId) (q : Nat → Nat) (nc : Nat) : ∀ (fu : Nat) (σ : MS) (x1 x2 x3 x4 : Int32) (rE : Int32) (sE : MS), fX9_countFromR nc fu x1 x2 x3 x4 σ = some (rE, sE) → Ct l D τ yX9_countFrom wsX9_countFrom { frames := fu + 1, cells := 0, slots := 0, locals := (fu) * 28 + 32 } [.ref (q 62), .int x1, .int x2, .int x3, .int x4] (xW τ q nc σ) (FD (xW τ q nc sE) (some (.int rE))) := by
  intro dd
  induction dd with
  | zero => intro σ x1 x2 x3 x4 rE sE hf; exact absurd hf (fun h => nomatch (show (none : Option _) = some _ from h))
  | succ dd ihc =>
    intro σ x1 x2 x3 x4 rE sE hf
    have hf : fX9_countFrom_B nc (fX9_countFromR nc dd) x1 x2 x3 x4 σ = some (rE, sE) := hf
    generalize hcfe : fX9_countFromR nc dd = cf at hf
    have hcf : ∀ (a b c d : Int32) (σ : MS) (r : Int32) (s2 : MS), cf a b c d σ = some (r, s2) → Ct l D τ yX9_countFrom wsX9_countFrom { frames := dd + 1, cells := 0, slots := 0, locals := (dd) * 28 + 32 } [.ref (q 62), .int a, .int b, .int c, .int d] (xW τ q nc σ) (FD (xW τ q nc s2) (some (.int r))) := by
      subst hcfe
      exact fun a b c d σ r s2 h => ihc σ a b c d r s2 h
    have hrm : dd + 1 + 1 ≤ dd + 1 + 1 ∧ 8 + (9 + 11) + (dd * 28 + 32) ≤ (dd + 1) * 28 + 32 := ⟨by omega, by omega⟩
    unfold fX9_countFrom_B at hf
    refine ct_of (cc := cX9_countFrom) (maxL := 9) (ret := (some .int)) (by decide) rfl (Nat.le_of_ble_eq_true rfl) (fun Γ C => ?_)
    refine wm_lv (lv' := [(0, .ref (q 62)), (1, .int x1), (2, .int x2), (3, .int x3), (4, .int x4)]) rfl ?_
    have wL_35 : ∀ (x1 : Int32) (x2 : Int32) (x3 : Int32) (x4 : Int32) (fu : Nat) (x5 : Int32) (x6 : Int32) (s : MS) (v : Int32) (s' : MS), fX9_countFrom_B_L35 nc cf x1 x2 x3 x4 fu x5 x6 s = some (v, s') → WM l D Γ 9 0 0 (xW τ q nc s') 142 [(5, .int v)] [] → WM l D Γ 9 0 0 (xW τ q nc s) 35 [(0, .ref (q 62)), (1, .int x1), (2, .int x2), (3, .int x3), (4, .int x4), (5, .int x5), (6, .int x6)] [] := by
      intro x1 x2 x3 x4
      intro fu
      induction fu with
      | zero => intro x5 x6 s v s' hf hE; exact absurd hf (fun h => nomatch (show (none : Option _) = some _ from h))
      | succ fu ih =>
        intro x5 x6 s v s' hf hE
        rw [fX9_countFrom_B_L35_s] at hf
        have wJ_136 : ∀ (x5 : Int32) (x6 : Int32) (s : MS) (v : Int32) (s' : MS), fX9_countFrom_B_J136 nc cf (fX9_countFrom_B_L35 nc cf x1 x2 x3 x4 fu) x1 x2 x3 x4 x5 x6 s = some (v, s') → WM l D Γ 9 0 0 (xW τ q nc s') 142 [(5, .int v)] [] → WM l D Γ 9 0 0 (xW τ q nc s) 136 [(0, .ref (q 62)), (1, .int x1), (2, .int x2), (3, .int x3), (4, .int x4), (5, .int x5), (6, .int x6)] [] := by
          intro x5 x6 s v s' hf hE
          unfold fX9_countFrom_B_J136 at hf
          refine wm_iinc (v := x6 + 1) (lv' := [(6, .int (x6 + 1)), (0, .ref (q 62)), (1, .int x1), (2, .int x2), (3, .int x3), (4, .int x4), (5, .int x5)]) C dX9_countFrom_136 6 rfl rfl (by decide) rfl (pc' := 139) rfl ?_
          refine wm_goto C dX9_countFrom_139 35 (by decide) ?_
          refine wm_sub (lv' := [(0, .ref (q 62)), (1, .int x1), (2, .int x2), (3, .int x3), (4, .int x4), (5, .int x5), (6, .int (x6 + 1))]) [1, 2, 3, 4, 5, 6, 0] rfl ?_
          exact ih x5 (x6 + 1) s _ _ hf hE
        have wJ_126 : ∀ (x6 : Int32) (t0 : Int32) (t1 : Int32) (t2 : Int32) (t4 : Int32) (s : MS) (v : Int32) (s' : MS), fX9_countFrom_B_J126 nc cf (fX9_countFrom_B_L35 nc cf x1 x2 x3 x4 fu) x1 x2 x3 x4 x6 t0 t1 t2 t4 s = some (v, s') → WM l D Γ 9 0 0 (xW τ q nc s') 142 [(5, .int v)] [] → WM l D Γ 9 0 0 (xW τ q nc s) 126 [(0, .ref (q 62)), (1, .int x1), (2, .int x2), (3, .int x3), (4, .int x4), (6, .int x6)] [.int t0, .int t1, .int t2, .ref (q 62), .int t4] := by
          intro x6 t0 t1 t2 t4 s v s' hf hE
          unfold fX9_countFrom_B_J126 at hf
          refine wm_iload C dX9_countFrom_126 4 rfl (pc' := 128) rfl ?_
          refine wm_ikonst (v := 1) C dX9_countFrom_128 (by decide) (pc' := 129) rfl ?_
          refine wm_iadd C dX9_countFrom_129 (pc' := 130) rfl ?_
          obtain ⟨r21, s22, h23, hf⟩ := bnd_s hf
          refine wm_callVd (nn := 4) (As := [.int t2, .int t1, .int t0, .int (x4 + 1)]) (rest := [.int t4]) (st' := [.int r21, .int t4]) C dX9_countFrom_130 (hcf t2 t1 t0 (x4 + 1) s r21 s22 h23) gX9_countFrom_X9_countFrom rfl (by decide +kernel) hrm rfl rfl ⟨Nat.zero_le _, Nat.zero_le _⟩ 3 (x_at (by omega) rfl) rfl rfl rfl (Nat.le_of_ble_eq_true rfl) rfl (pc' := 133) rfl ?_
          refine wm_iadd C dX9_countFrom_133 (pc' := 134) rfl ?_
          refine wm_istore (lv' := [(5, .int (t4 + r21)), (0, .ref (q 62)), (1, .int x1), (2, .int x2), (3, .int x3), (4, .int x4), (6, .int x6)]) C dX9_countFrom_134 (by decide) rfl (pc' := 136) rfl ?_
          refine wm_sub (lv' := [(0, .ref (q 62)), (1, .int x1), (2, .int x2), (3, .int x3), (4, .int x4), (5, .int (t4 + r21)), (6, .int x6)]) [1, 2, 3, 4, 5, 0, 6] rfl ?_
          exact wJ_136 (t4 + r21) x6 s22 _ _ hf hE
        have wJ_121 : ∀ (x6 : Int32) (t0 : Int32) (t1 : Int32) (t3 : Int32) (s : MS) (v : Int32) (s' : MS), fX9_countFrom_B_J121 nc cf (fX9_countFrom_B_L35 nc cf x1 x2 x3 x4 fu) x1 x2 x3 x4 x6 t0 t1 t3 s = some (v, s') → WM l D Γ 9 0 0 (xW τ q nc s') 142 [(5, .int v)] [] → WM l D Γ 9 0 0 (xW τ q nc s) 121 [(0, .ref (q 62)), (1, .int x1), (2, .int x2), (3, .int x3), (4, .int x4), (6, .int x6)] [.int t0, .int t1, .ref (q 62), .int t3] := by
          intro x6 t0 t1 t3 s v s' hf hE
          unfold fX9_countFrom_B_J121 at hf
          refine wm_ikonst (v := 1) C dX9_countFrom_121 (by decide) (pc' := 122) rfl ?_
          refine wm_goto C dX9_countFrom_122 126 (by decide) ?_
          exact wJ_126 x6 1 t0 t1 t3 s _ _ hf hE
        refine wm_iload C dX9_countFrom_35 6 rfl (pc' := 37) rfl ?_
        refine wm_aload_n C dX9_countFrom_37 0 rfl (pc' := 38) rfl ?_
        refine x_get (v := .ref (q 60)) C dX9_countFrom_38 inX9_X9_countFrom 3 (by omega) rfl rfl 0 (by decide) (by decide +kernel) (Or.inl rfl) rfl (pc' := 41) rfl ?_
        refine x_get (v := .int (gI s 4)) C dX9_countFrom_41 inX5_X9_countFrom 1 (by omega) rfl rfl 4 (by decide) (by decide +kernel) (Or.inl rfl) rfl (pc' := 44) rfl ?_
        refine wm_icmp_ge C dX9_countFrom_44 142 (by decide) (pc' := 47) rfl (fun h3 => ?_) (fun h3 => ?_)
        · have hf := ite_t h3 hf
          obtain ⟨rfl, rfl⟩ := leaf_s hf
          refine wm_sub (lv' := [(5, .int x5)]) [5] rfl ?_
          exact hE
        · have hf := ite_f h3 hf
          refine wm_aload_n C dX9_countFrom_47 0 rfl (pc' := 48) rfl ?_
          refine x_get (v := .ref (q 60)) C dX9_countFrom_48 inX9_X9_countFrom 3 (by omega) rfl rfl 0 (by decide) (by decide +kernel) (Or.inl rfl) rfl (pc' := 51) rfl ?_
          refine x_get (v := .ref (q 66)) C dX9_countFrom_51 inX5_X9_countFrom 1 (by omega) rfl rfl 2 (by decide) (by decide +kernel) (Or.inl rfl) rfl (pc' := 54) rfl ?_
          refine wm_iload C dX9_countFrom_54 6 rfl (pc' := 56) rfl ?_
          obtain ⟨h4, hf⟩ := chk_s hf
          obtain ⟨h5, hf⟩ := chk_s hf
          refine wm_aald (f := refs q 200 nc) (N := 12) (cA := τ.2.2.2.2.1) (ty := .object "WideningCracks$Crack") C dX9_countFrom_56 10 4 (x_at (by omega) rfl) rfl rfl h4 (refs_at h5) (pc' := 57) rfl ?_
          refine wm_astore (lv' := [(7, .ref (q (200 + x6.toNatClampNeg))), (0, .ref (q 62)), (1, .int x1), (2, .int x2), (3, .int x3), (4, .int x4), (5, .int x5), (6, .int x6)]) C dX9_countFrom_57 (by decide) rfl (pc' := 59) rfl ?_
          refine wm_aload C dX9_countFrom_59 0 rfl (pc' := 61) rfl ?_
          refine wm_iload_n C dX9_countFrom_61 2 rfl (pc' := 62) rfl ?_
          obtain ⟨h9, hf⟩ := chk_s hf
          obtain ⟨r6, s7, h8, hf⟩ := bnd_s hf
          have K10 : WM l D Γ 9 0 0 (xW τ q nc s7) 65 [(7, .ref (q (200 + x6.toNatClampNeg))), (0, .ref (q 62)), (1, .int x1), (2, .int x2), (3, .int x3), (4, .int x4), (5, .int x5), (6, .int x6)] [.int r6] := by
            refine wm_istore (lv' := [(8, .int r6), (7, .ref (q (200 + x6.toNatClampNeg))), (0, .ref (q 62)), (1, .int x1), (2, .int x2), (3, .int x3), (4, .int x4), (5, .int x5), (6, .int x6)]) C dX9_countFrom_65 (by decide) rfl (pc' := 67) rfl ?_
            refine wm_aload C dX9_countFrom_67 1 rfl (pc' := 69) rfl ?_
            refine wm_iload_n C dX9_countFrom_69 3 rfl (pc' := 70) rfl ?_
            obtain ⟨h14, hf⟩ := chk_s hf
            obtain ⟨r11, s12, h13, hf⟩ := bnd_s hf
            have K15 : WM l D Γ 9 0 0 (xW τ q nc s12) 73 [(8, .int r6), (7, .ref (q (200 + x6.toNatClampNeg))), (0, .ref (q 62)), (1, .int x1), (2, .int x2), (3, .int x3), (4, .int x4), (5, .int x5), (6, .int x6)] [.int r11] := by
              refine wm_if_eq C dX9_countFrom_73 136 (by decide) (pc' := 76) rfl (fun h16 => ?_) (fun h16 => ?_)
              · have hf := ite_t h16 hf
                refine wm_sub (lv' := [(0, .ref (q 62)), (1, .int x1), (2, .int x2), (3, .int x3), (4, .int x4), (5, .int x5), (6, .int x6)]) [2, 3, 4, 5, 6, 7, 8] rfl ?_
                exact wJ_136 x5 x6 s12 _ _ hf hE
              · have hf := ite_f h16 hf
                refine wm_aload C dX9_countFrom_76 1 rfl (pc' := 78) rfl ?_
                obtain ⟨h17, hf⟩ := chk_s hf
                refine x_getC (ref := "WideningCracks$Crack") (v := .int (gA s12 8 x6.toNatClampNeg)) C dX9_countFrom_78 in5_X9_countFrom h17 3 (by decide) (by decide +kernel) (Or.inl rfl) rfl (pc' := 81) rfl ?_
                refine wm_aload_n C dX9_countFrom_81 2 rfl (pc' := 82) rfl ?_
                refine x_get (v := .int (gI s12 56)) C dX9_countFrom_82 inX9_X9_countFrom 3 (by omega) rfl rfl 3 (by decide) (by decide +kernel) (Or.inl rfl) rfl (pc' := 85) rfl ?_
                refine wm_icmp_lt C dX9_countFrom_85 136 (by decide) (pc' := 88) rfl (fun h18 => ?_) (fun h18 => ?_)
                · have hf := ite_t h18 hf
                  refine wm_sub (lv' := [(0, .ref (q 62)), (1, .int x1), (2, .int x2), (3, .int x3), (4, .int x4), (5, .int x5), (6, .int x6)]) [2, 3, 4, 5, 6, 7, 8] rfl ?_
                  exact wJ_136 x5 x6 s12 _ _ hf hE
                · have hf := ite_f h18 hf
                  refine wm_iload_n C dX9_countFrom_88 4 rfl (pc' := 89) rfl ?_
                  refine wm_iload C dX9_countFrom_89 0 rfl (pc' := 91) rfl ?_
                  refine wm_ishr C dX9_countFrom_91 (pc' := 92) rfl ?_
                  refine wm_ikonst (v := 1) C dX9_countFrom_92 (by decide) (pc' := 93) rfl ?_
                  refine wm_iand C dX9_countFrom_93 (pc' := 94) rfl ?_
                  refine wm_if_ne C dX9_countFrom_94 136 (by decide) (pc' := 97) rfl (fun h19 => ?_) (fun h19 => ?_)
                  · have hf := ite_t h19 hf
                    refine wm_sub (lv' := [(0, .ref (q 62)), (1, .int x1), (2, .int x2), (3, .int x3), (4, .int x4), (5, .int x5), (6, .int x6)]) [2, 3, 4, 5, 6, 7, 8] rfl ?_
                    exact wJ_136 x5 x6 s12 _ _ hf hE
                  · have hf := ite_f (fun h => h h19) hf
                    refine wm_iload C dX9_countFrom_97 7 rfl (pc' := 99) rfl ?_
                    refine wm_aload_n C dX9_countFrom_99 2 rfl (pc' := 100) rfl ?_
                    refine wm_iload C dX9_countFrom_100 0 rfl (pc' := 102) rfl ?_
                    refine wm_iload_n C dX9_countFrom_102 4 rfl (pc' := 103) rfl ?_
                    refine wm_ikonst (v := 1) C dX9_countFrom_103 (by decide) (pc' := 104) rfl ?_
                    refine wm_iload C dX9_countFrom_104 0 rfl (pc' := 106) rfl ?_
                    refine wm_ishl C dX9_countFrom_106 (pc' := 107) rfl ?_
                    refine wm_ior C dX9_countFrom_107 (pc' := 108) rfl ?_
                    refine wm_iload_n C dX9_countFrom_108 5 rfl (pc' := 109) rfl ?_
                    refine wm_if_ne C dX9_countFrom_109 121 (by decide) (pc' := 112) rfl (fun h20 => ?_) (fun h20 => ?_)
                    · have hf := ite_t h20 hf
                      refine wm_sub (lv' := [(0, .ref (q 62)), (1, .int x1), (2, .int x2), (3, .int x3), (4, .int x4), (6, .int x6)]) [2, 3, 4, 5, 6, 8] rfl ?_
                      exact wJ_121 x6 (x2 ||| (1 <<< (r6 &&& 31))) r6 x5 s12 _ _ hf hE
                    · have hf := ite_f (fun h => h h20) hf
                      refine wm_iload C dX9_countFrom_112 8 rfl (pc' := 114) rfl ?_
                      refine wm_aload_n C dX9_countFrom_114 2 rfl (pc' := 115) rfl ?_
                      refine x_get (v := .int (gI s12 57)) C dX9_countFrom_115 inX9_X9_countFrom 3 (by omega) rfl rfl 4 (by decide) (by decide +kernel) (Or.inl rfl) rfl (pc' := 118) rfl ?_
                      refine wm_icmp_ne C dX9_countFrom_118 125 (by decide) (pc' := 121) rfl (fun h24 => ?_) (fun h24 => ?_)
                      · have hf := ite_t h24 hf
                        refine wm_ikonst (v := 0) C dX9_countFrom_125 (by decide) (pc' := 126) rfl ?_
                        refine wm_sub (lv' := [(0, .ref (q 62)), (1, .int x1), (2, .int x2), (3, .int x3), (4, .int x4), (6, .int x6)]) [2, 3, 4, 5, 6, 8] rfl ?_
                        exact wJ_126 x6 0 (x2 ||| (1 <<< (r6 &&& 31))) r6 x5 s12 _ _ hf hE
                      · have hf := ite_f (fun h => h h24) hf
                        refine wm_sub (lv' := [(0, .ref (q 62)), (1, .int x1), (2, .int x2), (3, .int x3), (4, .int x4), (6, .int x6)]) [2, 3, 4, 5, 6, 8] rfl ?_
                        exact wJ_121 x6 (x2 ||| (1 <<< (r6 &&& 31))) r6 x5 s12 _ _ hf hE
            rcases kci5 (gA s7 7 x6.toNatClampNeg) with ⟨k1, kk⟩ | ⟨n1, k2, kk⟩ | ⟨n1, n2, k3, kk⟩ | ⟨n1, n2, n3, k4, kk⟩ | ⟨n1, n2, n3, n4, kk⟩
            · exact wm_callC (nn := 1) (As := [.int x1]) (rest := []) (st' := [.int r11]) C dX9_countFrom_70 (kX2_isAt l D τ q nc x6.toNatClampNeg s7 x1 r11 s12 h13) (cw_U gX9_countFrom_X2_isAt_u63X10 rfl rfl (by decide +kernel) ⟨show 0 + 1 ≤ dd + 1 + 1 by omega, show 8 + (2 + 11) + 0 ≤ (dd + 1) * 28 + 32 by omega⟩) rfl rfl ⟨Nat.zero_le _, Nat.zero_le _⟩ (49 + x6.toNatClampNeg) (x_crackAt h14 kk) rfl rfl rfl (Nat.le_of_ble_eq_true rfl) rfl (pc' := 73) rfl K15
            · exact wm_callC (nn := 1) (As := [.int x1]) (rest := []) (st' := [.int r11]) C dX9_countFrom_70 (kX2_isAt l D τ q nc x6.toNatClampNeg s7 x1 r11 s12 h13) (cw_U gX9_countFrom_X2_isAt_u63X0 rfl rfl (by decide +kernel) ⟨show 0 + 1 ≤ dd + 1 + 1 by omega, show 8 + (2 + 11) + 0 ≤ (dd + 1) * 28 + 32 by omega⟩) rfl rfl ⟨Nat.zero_le _, Nat.zero_le _⟩ (49 + x6.toNatClampNeg) (x_crackAt h14 kk) rfl rfl rfl (Nat.le_of_ble_eq_true rfl) rfl (pc' := 73) rfl K15
            · exact wm_callC (nn := 1) (As := [.int x1]) (rest := []) (st' := [.int r11]) C dX9_countFrom_70 (kX2_isAt l D τ q nc x6.toNatClampNeg s7 x1 r11 s12 h13) (cw_U gX9_countFrom_X2_isAt_u63X3 rfl rfl (by decide +kernel) ⟨show 0 + 1 ≤ dd + 1 + 1 by omega, show 8 + (2 + 11) + 0 ≤ (dd + 1) * 28 + 32 by omega⟩) rfl rfl ⟨Nat.zero_le _, Nat.zero_le _⟩ (49 + x6.toNatClampNeg) (x_crackAt h14 kk) rfl rfl rfl (Nat.le_of_ble_eq_true rfl) rfl (pc' := 73) rfl K15
            · exact wm_callC (nn := 1) (As := [.int x1]) (rest := []) (st' := [.int r11]) C dX9_countFrom_70 (kX2_isAt l D τ q nc x6.toNatClampNeg s7 x1 r11 s12 h13) (cw_U gX9_countFrom_X2_isAt_u63X7 rfl rfl (by decide +kernel) ⟨show 0 + 1 ≤ dd + 1 + 1 by omega, show 8 + (2 + 11) + 0 ≤ (dd + 1) * 28 + 32 by omega⟩) rfl rfl ⟨Nat.zero_le _, Nat.zero_le _⟩ (49 + x6.toNatClampNeg) (x_crackAt h14 kk) rfl rfl rfl (Nat.le_of_ble_eq_true rfl) rfl (pc' := 73) rfl K15
            · exact wm_callVd (nn := 1) (As := [.int x1]) (rest := []) (st' := [.int r11]) C dX9_countFrom_70 (kX2_isAt l D τ q nc x6.toNatClampNeg s7 x1 r11 s12 h13) gX9_countFrom_X2_isAt rfl (by decide +kernel) ⟨show 0 + 1 ≤ dd + 1 + 1 by omega, show 8 + (2 + 11) + 0 ≤ (dd + 1) * 28 + 32 by omega⟩ rfl rfl ⟨Nat.zero_le _, Nat.zero_le _⟩ (49 + x6.toNatClampNeg) (x_crackAt h14 kk) rfl rfl rfl (Nat.le_of_ble_eq_true rfl) rfl (pc' := 73) rfl K15
          rcases kci5 (gA s 7 x6.toNatClampNeg) with ⟨k1, kk⟩ | ⟨n1, k2, kk⟩ | ⟨n1, n2, k3, kk⟩ | ⟨n1, n2, n3, k4, kk⟩ | ⟨n1, n2, n3, n4, kk⟩
          · exact wm_callC (nn := 1) (As := [.int x1]) (rest := []) (st' := [.int r6]) C dX9_countFrom_62 (kX2_otherEnd l D τ q nc x6.toNatClampNeg s x1 r6 s7 h8) (cw_U gX9_countFrom_X2_otherEnd_u58X10 rfl rfl (by decide +kernel) ⟨show 0 + 1 ≤ dd + 1 + 1 by omega, show 8 + (2 + 11) + 0 ≤ (dd + 1) * 28 + 32 by omega⟩) rfl rfl ⟨Nat.zero_le _, Nat.zero_le _⟩ (49 + x6.toNatClampNeg) (x_crackAt h9 kk) rfl rfl rfl (Nat.le_of_ble_eq_true rfl) rfl (pc' := 65) rfl K10
          · exact wm_callC (nn := 1) (As := [.int x1]) (rest := []) (st' := [.int r6]) C dX9_countFrom_62 (kX2_otherEnd l D τ q nc x6.toNatClampNeg s x1 r6 s7 h8) (cw_U gX9_countFrom_X2_otherEnd_u58X0 rfl rfl (by decide +kernel) ⟨show 0 + 1 ≤ dd + 1 + 1 by omega, show 8 + (2 + 11) + 0 ≤ (dd + 1) * 28 + 32 by omega⟩) rfl rfl ⟨Nat.zero_le _, Nat.zero_le _⟩ (49 + x6.toNatClampNeg) (x_crackAt h9 kk) rfl rfl rfl (Nat.le_of_ble_eq_true rfl) rfl (pc' := 65) rfl K10
          · exact wm_callC (nn := 1) (As := [.int x1]) (rest := []) (st' := [.int r6]) C dX9_countFrom_62 (kX2_otherEnd l D τ q nc x6.toNatClampNeg s x1 r6 s7 h8) (cw_U gX9_countFrom_X2_otherEnd_u58X3 rfl rfl (by decide +kernel) ⟨show 0 + 1 ≤ dd + 1 + 1 by omega, show 8 + (2 + 11) + 0 ≤ (dd + 1) * 28 + 32 by omega⟩) rfl rfl ⟨Nat.zero_le _, Nat.zero_le _⟩ (49 + x6.toNatClampNeg) (x_crackAt h9 kk) rfl rfl rfl (Nat.le_of_ble_eq_true rfl) rfl (pc' := 65) rfl K10
          · exact wm_callC (nn := 1) (As := [.int x1]) (rest := []) (st' := [.int r6]) C dX9_countFrom_62 (kX2_otherEnd l D τ q nc x6.toNatClampNeg s x1 r6 s7 h8) (cw_U gX9_countFrom_X2_otherEnd_u58X7 rfl rfl (by decide +kernel) ⟨show 0 + 1 ≤ dd + 1 + 1 by omega, show 8 + (2 + 11) + 0 ≤ (dd + 1) * 28 + 32 by omega⟩) rfl rfl ⟨Nat.zero_le _, Nat.zero_le _⟩ (49 + x6.toNatClampNeg) (x_crackAt h9 kk) rfl rfl rfl (Nat.le_of_ble_eq_true rfl) rfl (pc' := 65) rfl K10
          · exact wm_callVd (nn := 1) (As := [.int x1]) (rest := []) (st' := [.int r6]) C dX9_countFrom_62 (kX2_otherEnd l D τ q nc x6.toNatClampNeg s x1 r6 s7 h8) gX9_countFrom_X2_otherEnd rfl (by decide +kernel) ⟨show 0 + 1 ≤ dd + 1 + 1 by omega, show 8 + (2 + 11) + 0 ≤ (dd + 1) * 28 + 32 by omega⟩ rfl rfl ⟨Nat.zero_le _, Nat.zero_le _⟩ (49 + x6.toNatClampNeg) (x_crackAt h9 kk) rfl rfl rfl (Nat.le_of_ble_eq_true rfl) rfl (pc' := 65) rfl K10
    have wJ_30 : ∀ (x1 : Int32) (x2 : Int32) (x3 : Int32) (x4 : Int32) (t0 : Int32) (s : MS), fX9_countFrom_B_J30 nc cf x1 x2 x3 x4 t0 s = some (rE, sE) → WM l D Γ 9 0 0 (xW τ q nc s) 30 [(0, .ref (q 62)), (1, .int x1), (2, .int x2), (3, .int x3), (4, .int x4)] [.int t0] := by
      intro x1 x2 x3 x4 t0 s hf
      unfold fX9_countFrom_B_J30 at hf
      refine wm_istore (lv' := [(5, .int t0), (0, .ref (q 62)), (1, .int x1), (2, .int x2), (3, .int x3), (4, .int x4)]) C dX9_countFrom_30 (by decide) rfl (pc' := 32) rfl ?_
      refine wm_ikonst (v := 0) C dX9_countFrom_32 (by decide) (pc' := 33) rfl ?_
      refine wm_istore (lv' := [(6, .int 0), (5, .int t0), (0, .ref (q 62)), (1, .int x1), (2, .int x2), (3, .int x3), (4, .int x4)]) C dX9_countFrom_33 (by decide) rfl (pc' := 35) rfl ?_
      refine wm_sub (lv' := [(0, .ref (q 62)), (1, .int x1), (2, .int x2), (3, .int x3), (4, .int x4), (5, .int t0), (6, .int 0)]) [2, 3, 4, 5, 6, 1, 0] rfl ?_
      obtain ⟨v25, s26, h27, hf⟩ := bnd_s hf
      refine wL_35 x1 x2 x3 x4 FU t0 0 s v25 s26 h27 ?_
      refine wm_iload C dX9_countFrom_142 0 rfl (pc' := 144) rfl ?_
      obtain ⟨rfl, rfl⟩ := leaf_s hf
      exact wm_iret C dX9_countFrom_144 (Nat.zero_le _) (Nat.zero_le _) FD.rf
    have wJ_29 : ∀ (x1 : Int32) (x2 : Int32) (x3 : Int32) (x4 : Int32) (s : MS), fX9_countFrom_B_J29 nc cf x1 x2 x3 x4 s = some (rE, sE) → WM l D Γ 9 0 0 (xW τ q nc s) 29 [(0, .ref (q 62)), (1, .int x1), (2, .int x2), (3, .int x3), (4, .int x4)] [] := by
      intro x1 x2 x3 x4 s hf
      unfold fX9_countFrom_B_J29 at hf
      refine wm_ikonst (v := 0) C dX9_countFrom_29 (by decide) (pc' := 30) rfl ?_
      exact wJ_30 x1 x2 x3 x4 0 s hf
    refine wm_iload C dX9_countFrom_0 4 rfl (pc' := 2) rfl ?_
    refine wm_bipush (v := 6) C dX9_countFrom_2 (by decide) (pc' := 4) rfl ?_
    refine wm_icmp_le C dX9_countFrom_4 9 (by decide) (pc' := 7) rfl (fun h1 => ?_) (fun h1 => ?_)
    · have hf := ite_t h1 hf
      refine wm_iload_n C dX9_countFrom_9 3 rfl (pc' := 10) rfl ?_
      refine wm_if_eq C dX9_countFrom_10 29 (by decide) (pc' := 13) rfl (fun h2 => ?_) (fun h2 => ?_)
      · have hf := ite_t h2 hf
        exact wJ_29 x1 x2 x3 x4 σ hf
      · have hf := ite_f h2 hf
        refine wm_aload_n C dX9_countFrom_13 0 rfl (pc' := 14) rfl ?_
        refine x_get (v := .int (gI σ 55)) C dX9_countFrom_14 inX9_X9_countFrom 3 (by omega) rfl rfl 2 (by decide) (by decide +kernel) (Or.inl rfl) rfl (pc' := 17) rfl ?_
        refine wm_iload_n C dX9_countFrom_17 1 rfl (pc' := 18) rfl ?_
        refine wm_ishr C dX9_countFrom_18 (pc' := 19) rfl ?_
        refine wm_ikonst (v := 1) C dX9_countFrom_19 (by decide) (pc' := 20) rfl ?_
        refine wm_iand C dX9_countFrom_20 (pc' := 21) rfl ?_
        refine wm_ikonst (v := 1) C dX9_countFrom_21 (by decide) (pc' := 22) rfl ?_
        refine wm_icmp_ne C dX9_countFrom_22 29 (by decide) (pc' := 25) rfl (fun h28 => ?_) (fun h28 => ?_)
        · have hf := ite_t h28 hf
          exact wJ_29 x1 x2 x3 x4 σ hf
        · have hf := ite_f (fun h => h h28) hf
          refine wm_ikonst (v := 1) C dX9_countFrom_25 (by decide) (pc' := 26) rfl ?_
          refine wm_goto C dX9_countFrom_26 30 (by decide) ?_
          exact wJ_30 x1 x2 x3 x4 1 σ hf
    · have hf := ite_f h1 hf
      refine wm_ikonst (v := 0) C dX9_countFrom_7 (by decide) (pc' := 8) rfl ?_
      obtain ⟨rfl, rfl⟩ := leaf_s hf
      exact wm_iret C dX9_countFrom_8 (Nat.zero_le _) (Nat.zero_le _) FD.rf
def fX9_countFrom (nc : Nat) (x1 x2 x3 x4 : Int32) (σ : MS) : Option (Int32 × MS) := fX9_countFromR nc 8 x1 x2 x3 x4 σ
theorem kX9_countFrom (l : Launch) (D : va_G) (τ : CId) (q : Nat → Nat) (nc : Nat) (σ : MS) (x1 x2 x3 x4 : Int32) (rE : Int32) (sE : MS) (hf : fX9_countFrom nc x1 x2 x3 x4 σ = some (rE, sE)) : Ct l D τ yX9_countFrom wsX9_countFrom { frames := 9, cells := 0, slots := 0, locals := 256 } [.ref (q 62), .int x1, .int x2, .int x3, .int x4] (xW τ q nc σ) (FD (xW τ q nc sE) (some (.int rE))) := kX9_countFromR l D τ q nc 8 σ x1 x2 x3 x4 rE sE hf
def fX9_countOver_J69 (nc : Nat) (rec : Int32 → Int32 → MS → Option (Int32 × MS)) (x1 : Int32) (x3 : Int32) (x4 : Int32) (s : MS) : Option (Int32 × MS) :=
  rec x3 (x4 + 1) s
def fX9_countOver_J63 (nc : Nat) (rec : Int32 → Int32 → MS → Option (Int32 × MS)) (x1 : Int32) (x4 : Int32) (t0 : Int32) (t1 : Int32) (t2 : Int32) (t4 : Int32) (s : MS) : Option (Int32 × MS) :=
  bnd (fX9_countFrom nc t2 t1 t0 1 s) (fun r11 s12 => fX9_countOver_J69 nc (rec) x1 (t4 + r11) x4 s12)
def fX9_countOver_L19 (nc : Nat) (x1 : Int32) : Nat → Int32 → Int32 → MS → Option (Int32 × MS)
  | 0, _, _, _ => none
  | fu + 1, x3, x4, s => if (gI s 1) ≤ x4 then some (x3, s) else if ¬ (((gI s 54) >>> (x4 &&& 31)) &&& 1) = 1 then fX9_countOver_J69 nc (fX9_countOver_L19 nc x1 fu) x1 x3 x4 s else if ¬ x1 = (-9) then fX9_countOver_J63 nc (fX9_countOver_L19 nc x1 fu) x1 x4 0 (1 <<< (x4 &&& 31)) x4 x3 s else fX9_countOver_J63 nc (fX9_countOver_L19 nc x1 fu) x1 x4 1 (1 <<< (x4 &&& 31)) x4 x3 s
theorem fX9_countOver_L19_s (nc : Nat) (x1 : Int32) (fu : Nat) (x3 : Int32) (x4 : Int32) (s : MS) : fX9_countOver_L19 nc x1 (fu + 1) x3 x4 s = (if (gI s 1) ≤ x4 then some (x3, s) else if ¬ (((gI s 54) >>> (x4 &&& 31)) &&& 1) = 1 then fX9_countOver_J69 nc (fX9_countOver_L19 nc x1 fu) x1 x3 x4 s else if ¬ x1 = (-9) then fX9_countOver_J63 nc (fX9_countOver_L19 nc x1 fu) x1 x4 0 (1 <<< (x4 &&& 31)) x4 x3 s else fX9_countOver_J63 nc (fX9_countOver_L19 nc x1 fu) x1 x4 1 (1 <<< (x4 &&& 31)) x4 x3 s) := rfl
def fX9_countOver (nc : Nat) (x1 : Int32) (x2 : Int32) (σ : MS) : Option (Int32 × MS) :=
  bnd (fX9_findEnds nc σ) (fun r1 s2 => lets (sI s2 56 x2) (fun s4 => lets (sI s4 57 x1) (fun s6 => bnd (fX9_countOver_L19 nc x1 FU 0 0 s6) (fun v14 s15 => some (v14, s15)))))
theorem inX5_X9_countOver : ∀ w ∈ wsX50, w ∈ wsX9_countOver := by decide +kernel
theorem inX9_X9_countOver : ∀ w ∈ wsX90, w ∈ wsX9_countOver := by decide +kernel
set_option maxHeartbeats 4000000 in
set_option maxRecDepth 100000 in
theorem kX9_countOver (l : Launch) (D : va_G) (τ : CId) (q : Nat → Nat) (nc : Nat) (σ : MS) (x1 : Int32) (x2 : Int32) (rE : Int32) (sE : MS) (hf : fX9_countOver nc x1 x2 σ = some (rE, sE)) : Ct l D τ yX9_countOver wsX9_countOver { frames := 10, cells := 0, slots := 0, locals := 284 } [.ref (q 62), .int x1, .int x2] (xW τ q nc σ) (FD (xW τ q nc sE) (some (.int rE))) := by
  unfold fX9_countOver at hf
  refine ct_of (cc := cX9_countOver) (maxL := 5) (ret := (some .int)) (by decide) rfl (Nat.le_of_ble_eq_true rfl) (fun Γ C => ?_)
  refine wm_lv (lv' := [(0, .ref (q 62)), (1, .int x1), (2, .int x2)]) rfl ?_
  have wL_19 : ∀ (x1 : Int32) (fu : Nat) (x3 : Int32) (x4 : Int32) (s : MS) (v : Int32) (s' : MS), fX9_countOver_L19 nc x1 fu x3 x4 s = some (v, s') → WM l D Γ 5 0 0 (xW τ q nc s') 75 [(3, .int v)] [] → WM l D Γ 5 0 0 (xW τ q nc s) 19 [(0, .ref (q 62)), (1, .int x1), (3, .int x3), (4, .int x4)] [] := by
    intro x1
    intro fu
    induction fu with
    | zero => intro x3 x4 s v s' hf hE; exact absurd hf (fun h => nomatch (show (none : Option _) = some _ from h))
    | succ fu ih =>
      intro x3 x4 s v s' hf hE
      rw [fX9_countOver_L19_s] at hf
      have wJ_69 : ∀ (x3 : Int32) (x4 : Int32) (s : MS) (v : Int32) (s' : MS), fX9_countOver_J69 nc (fX9_countOver_L19 nc x1 fu) x1 x3 x4 s = some (v, s') → WM l D Γ 5 0 0 (xW τ q nc s') 75 [(3, .int v)] [] → WM l D Γ 5 0 0 (xW τ q nc s) 69 [(0, .ref (q 62)), (1, .int x1), (3, .int x3), (4, .int x4)] [] := by
        intro x3 x4 s v s' hf hE
        unfold fX9_countOver_J69 at hf
        refine wm_iinc (v := x4 + 1) (lv' := [(4, .int (x4 + 1)), (0, .ref (q 62)), (1, .int x1), (3, .int x3)]) C dX9_countOver_69 3 rfl rfl (by decide) rfl (pc' := 72) rfl ?_
        refine wm_goto C dX9_countOver_72 19 (by decide) ?_
        refine wm_sub (lv' := [(0, .ref (q 62)), (1, .int x1), (3, .int x3), (4, .int (x4 + 1))]) [1, 2, 3, 0] rfl ?_
        exact ih x3 (x4 + 1) s _ _ hf hE
      have wJ_63 : ∀ (x4 : Int32) (t0 : Int32) (t1 : Int32) (t2 : Int32) (t4 : Int32) (s : MS) (v : Int32) (s' : MS), fX9_countOver_J63 nc (fX9_countOver_L19 nc x1 fu) x1 x4 t0 t1 t2 t4 s = some (v, s') → WM l D Γ 5 0 0 (xW τ q nc s') 75 [(3, .int v)] [] → WM l D Γ 5 0 0 (xW τ q nc s) 63 [(0, .ref (q 62)), (1, .int x1), (4, .int x4)] [.int t0, .int t1, .int t2, .ref (q 62), .int t4] := by
        intro x4 t0 t1 t2 t4 s v s' hf hE
        unfold fX9_countOver_J63 at hf
        refine wm_ikonst (v := 1) C dX9_countOver_63 (by decide) (pc' := 64) rfl ?_
        obtain ⟨r11, s12, h13, hf⟩ := bnd_s hf
        refine wm_callVd (nn := 4) (As := [.int t2, .int t1, .int t0, .int 1]) (rest := [.int t4]) (st' := [.int r11, .int t4]) C dX9_countOver_64 (kX9_countFrom l D τ q nc s t2 t1 t0 1 r11 s12 h13) gX9_countOver_X9_countFrom rfl (by decide +kernel) ⟨Nat.le_of_ble_eq_true rfl, Nat.le_of_ble_eq_true rfl⟩ rfl rfl ⟨Nat.zero_le _, Nat.zero_le _⟩ 3 (x_at (by omega) rfl) rfl rfl rfl (Nat.le_of_ble_eq_true rfl) rfl (pc' := 67) rfl ?_
        refine wm_iadd C dX9_countOver_67 (pc' := 68) rfl ?_
        refine wm_istore_n (lv' := [(3, .int (t4 + r11)), (0, .ref (q 62)), (1, .int x1), (4, .int x4)]) C dX9_countOver_68 (by decide) rfl (pc' := 69) rfl ?_
        refine wm_sub (lv' := [(0, .ref (q 62)), (1, .int x1), (3, .int (t4 + r11)), (4, .int x4)]) [1, 2, 0, 3] rfl ?_
        exact wJ_69 (t4 + r11) x4 s12 _ _ hf hE
      refine wm_iload C dX9_countOver_19 3 rfl (pc' := 21) rfl ?_
      refine wm_aload_n C dX9_countOver_21 0 rfl (pc' := 22) rfl ?_
      refine x_get (v := .ref (q 60)) C dX9_countOver_22 inX9_X9_countOver 3 (by omega) rfl rfl 0 (by decide) (by decide +kernel) (Or.inl rfl) rfl (pc' := 25) rfl ?_
      refine x_get (v := .int (gI s 1)) C dX9_countOver_25 inX5_X9_countOver 1 (by omega) rfl rfl 3 (by decide) (by decide +kernel) (Or.inl rfl) rfl (pc' := 28) rfl ?_
      refine wm_icmp_ge C dX9_countOver_28 75 (by decide) (pc' := 31) rfl (fun h8 => ?_) (fun h8 => ?_)
      · have hf := ite_t h8 hf
        obtain ⟨rfl, rfl⟩ := leaf_s hf
        refine wm_sub (lv' := [(3, .int x3)]) [2] rfl ?_
        exact hE
      · have hf := ite_f h8 hf
        refine wm_aload_n C dX9_countOver_31 0 rfl (pc' := 32) rfl ?_
        refine x_get (v := .int (gI s 54)) C dX9_countOver_32 inX9_X9_countOver 3 (by omega) rfl rfl 1 (by decide) (by decide +kernel) (Or.inl rfl) rfl (pc' := 35) rfl ?_
        refine wm_iload C dX9_countOver_35 3 rfl (pc' := 37) rfl ?_
        refine wm_ishr C dX9_countOver_37 (pc' := 38) rfl ?_
        refine wm_ikonst (v := 1) C dX9_countOver_38 (by decide) (pc' := 39) rfl ?_
        refine wm_iand C dX9_countOver_39 (pc' := 40) rfl ?_
        refine wm_ikonst (v := 1) C dX9_countOver_40 (by decide) (pc' := 41) rfl ?_
        refine wm_icmp_ne C dX9_countOver_41 69 (by decide) (pc' := 44) rfl (fun h9 => ?_) (fun h9 => ?_)
        · have hf := ite_t h9 hf
          exact wJ_69 x3 x4 s _ _ hf hE
        · have hf := ite_f (fun h => h h9) hf
          refine wm_iload_n C dX9_countOver_44 2 rfl (pc' := 45) rfl ?_
          refine wm_aload_n C dX9_countOver_45 0 rfl (pc' := 46) rfl ?_
          refine wm_iload C dX9_countOver_46 3 rfl (pc' := 48) rfl ?_
          refine wm_ikonst (v := 1) C dX9_countOver_48 (by decide) (pc' := 49) rfl ?_
          refine wm_iload C dX9_countOver_49 3 rfl (pc' := 51) rfl ?_
          refine wm_ishl C dX9_countOver_51 (pc' := 52) rfl ?_
          refine wm_iload_n C dX9_countOver_52 1 rfl (pc' := 53) rfl ?_
          refine wm_bipush (v := (-9)) C dX9_countOver_53 (by decide) (pc' := 55) rfl ?_
          refine wm_icmp_ne C dX9_countOver_55 62 (by decide) (pc' := 58) rfl (fun h10 => ?_) (fun h10 => ?_)
          · have hf := ite_t h10 hf
            refine wm_ikonst (v := 0) C dX9_countOver_62 (by decide) (pc' := 63) rfl ?_
            refine wm_sub (lv' := [(0, .ref (q 62)), (1, .int x1), (4, .int x4)]) [0, 1, 3] rfl ?_
            exact wJ_63 x4 0 (1 <<< (x4 &&& 31)) x4 x3 s _ _ hf hE
          · have hf := ite_f (fun h => h h10) hf
            refine wm_ikonst (v := 1) C dX9_countOver_58 (by decide) (pc' := 59) rfl ?_
            refine wm_goto C dX9_countOver_59 63 (by decide) ?_
            refine wm_sub (lv' := [(0, .ref (q 62)), (1, .int x1), (4, .int x4)]) [0, 1, 3] rfl ?_
            exact wJ_63 x4 1 (1 <<< (x4 &&& 31)) x4 x3 s _ _ hf hE
  refine wm_aload_n C dX9_countOver_0 0 rfl (pc' := 1) rfl ?_
  obtain ⟨r1, s2, h3, hf⟩ := bnd_s hf
  refine wm_callVd (nn := 0) (As := []) (rest := []) (st' := []) C dX9_countOver_1 (kX9_findEnds l D τ q nc σ s2 h3) gX9_countOver_X9_findEnds rfl (by decide +kernel) ⟨Nat.le_of_ble_eq_true rfl, Nat.le_of_ble_eq_true rfl⟩ rfl rfl ⟨Nat.zero_le _, Nat.zero_le _⟩ 3 (x_at (by omega) rfl) rfl rfl rfl (Nat.le_of_ble_eq_true rfl) rfl (pc' := 4) rfl ?_
  refine wm_aload_n C dX9_countOver_4 0 rfl (pc' := 5) rfl ?_
  refine wm_iload_n C dX9_countOver_5 2 rfl (pc' := 6) rfl ?_
  obtain ⟨s4, e5, hf⟩ := lets_s hf
  refine x_put (σ' := s4) C dX9_countOver_6 inX9_X9_countOver tyX9 tyX9_ok nmX9 3 (by omega) rfl rfl 3 (by decide) (by decide +kernel) (Or.inl rfl) rfl rfl rfl rfl (Nat.le_of_ble_eq_true rfl) (e5 ▸ xC_I56) (e5 ▸ rfl) (pc' := 9) rfl ?_
  refine wm_aload_n C dX9_countOver_9 0 rfl (pc' := 10) rfl ?_
  refine wm_iload_n C dX9_countOver_10 1 rfl (pc' := 11) rfl ?_
  obtain ⟨s6, e7, hf⟩ := lets_s hf
  refine x_put (σ' := s6) C dX9_countOver_11 inX9_X9_countOver tyX9 tyX9_ok nmX9 3 (by omega) rfl rfl 4 (by decide) (by decide +kernel) (Or.inl rfl) rfl rfl rfl rfl (Nat.le_of_ble_eq_true rfl) (e7 ▸ xC_I57) (e7 ▸ rfl) (pc' := 14) rfl ?_
  refine wm_ikonst (v := 0) C dX9_countOver_14 (by decide) (pc' := 15) rfl ?_
  refine wm_istore_n (lv' := [(3, .int 0), (0, .ref (q 62)), (1, .int x1), (2, .int x2)]) C dX9_countOver_15 (by decide) rfl (pc' := 16) rfl ?_
  refine wm_ikonst (v := 0) C dX9_countOver_16 (by decide) (pc' := 17) rfl ?_
  refine wm_istore (lv' := [(4, .int 0), (3, .int 0), (0, .ref (q 62)), (1, .int x1), (2, .int x2)]) C dX9_countOver_17 (by decide) rfl (pc' := 19) rfl ?_
  refine wm_sub (lv' := [(0, .ref (q 62)), (1, .int x1), (3, .int 0), (4, .int 0)]) [2, 3, 1, 0] rfl ?_
  obtain ⟨v14, s15, h16, hf⟩ := bnd_s hf
  refine wL_19 x1 FU 0 0 s6 v14 s15 h16 ?_
  refine wm_iload_n C dX9_countOver_75 0 rfl (pc' := 76) rfl ?_
  obtain ⟨rfl, rfl⟩ := leaf_s hf
  exact wm_iret C dX9_countOver_76 (Nat.zero_le _) (Nat.zero_le _) FD.rf
def fX9_count (nc : Nat) (x1 : Int32) (σ : MS) : Option (Int32 × MS) :=
  bnd (fX9_countOver nc (-9) x1 σ) (fun r1 s2 => some (r1, s2))
set_option maxHeartbeats 4000000 in
set_option maxRecDepth 100000 in
theorem kX9_count (l : Launch) (D : va_G) (τ : CId) (q : Nat → Nat) (nc : Nat) (σ : MS) (x1 : Int32) (rE : Int32) (sE : MS) (hf : fX9_count nc x1 σ = some (rE, sE)) : Ct l D τ yX9_count wsX9_count { frames := 11, cells := 0, slots := 0, locals := 308 } [.ref (q 62), .int x1] (xW τ q nc σ) (FD (xW τ q nc sE) (some (.int rE))) := by
  unfold fX9_count at hf
  refine ct_of (cc := cX9_count) (maxL := 2) (ret := (some .int)) (by decide) rfl (Nat.le_of_ble_eq_true rfl) (fun Γ C => ?_)
  refine wm_lv (lv' := [(0, .ref (q 62)), (1, .int x1)]) rfl ?_
  refine wm_aload_n C dX9_count_0 0 rfl (pc' := 1) rfl ?_
  refine wm_bipush (v := (-9)) C dX9_count_1 (by decide) (pc' := 3) rfl ?_
  refine wm_iload_n C dX9_count_3 1 rfl (pc' := 4) rfl ?_
  obtain ⟨r1, s2, h3, hf⟩ := bnd_s hf
  refine wm_callVd (nn := 2) (As := [.int (-9), .int x1]) (rest := []) (st' := [.int r1]) C dX9_count_4 (kX9_countOver l D τ q nc σ (-9) x1 r1 s2 h3) gX9_count_X9_countOver rfl (by decide +kernel) ⟨Nat.le_of_ble_eq_true rfl, Nat.le_of_ble_eq_true rfl⟩ rfl rfl ⟨Nat.zero_le _, Nat.zero_le _⟩ 3 (x_at (by omega) rfl) rfl rfl rfl (Nat.le_of_ble_eq_true rfl) rfl (pc' := 7) rfl ?_
  obtain ⟨rfl, rfl⟩ := leaf_s hf
  exact wm_iret C dX9_count_7 (Nat.zero_le _) (Nat.zero_le _) FD.rf
def fX11_isOfKind (nc : Nat) (x0 : Nat) (x1 : Int32) (σ : MS) : Option (Int32 × MS) :=
  if x1 = 1 then if x0 < nc then if gA σ 7 x0 = 1 ∨ gA σ 7 x0 = 3 ∨ gA σ 7 x0 = 4 then some (1, σ) else some (0, σ) else none else if x1 = 2 then if x0 < nc then if gA σ 7 x0 = 2 then some (1, σ) else some (0, σ) else none else if x1 = 3 then if x0 < nc then if gA σ 7 x0 = 3 ∨ gA σ 7 x0 = 4 then some (1, σ) else some (0, σ) else none else if x1 = 4 then if x0 < nc then if gA σ 7 x0 = 4 then some (1, σ) else some (0, σ) else none else if ¬ x1 = 0 then some (0, σ) else some (1, σ)
set_option maxHeartbeats 4000000 in
set_option maxRecDepth 100000 in
theorem kX11_isOfKind (l : Launch) (D : va_G) (τ : CId) (q : Nat → Nat) (nc : Nat) (σ : MS) (x0 : Nat) (x1 : Int32) (rE : Int32) (sE : MS) (hf : fX11_isOfKind nc x0 x1 σ = some (rE, sE)) : Ct l D τ yX11_isOfKind wsX11_isOfKind { frames := 0, cells := 0, slots := 0, locals := 0 } [.ref (q (200 + x0)), .int x1] (xW τ q nc σ) (FD (xW τ q nc sE) (some (.int rE))) := by
  unfold fX11_isOfKind at hf
  refine ct_of (cc := cX11_isOfKind) (maxL := 2) (ret := (some .boolean)) (by decide) rfl (Nat.le_of_ble_eq_true rfl) (fun Γ C => ?_)
  refine wm_lv (lv' := [(0, .ref (q (200 + x0))), (1, .int x1)]) rfl ?_
  refine wm_iload_n C dX11_isOfKind_0 1 rfl (pc' := 1) rfl ?_
  by_cases h1 : x1 = 1
  · have hf := ite_t h1 hf
    refine wm_tableIn (off := 31) C dX11_isOfKind_1 (by rw [h1]; decide) (by rw [h1]; decide) (by rw [h1]; rfl) 32 (by decide) ?_
    refine wm_aload_n C dX11_isOfKind_32 0 rfl (pc' := 33) rfl ?_
    obtain ⟨h2, hf⟩ := chk_s hf
    by_cases h3 : gA σ 7 x0 = 1 ∨ gA σ 7 x0 = 3 ∨ gA σ 7 x0 = 4
    · have hf := ite_t h3 hf
      refine x_instWide_t C dX11_isOfKind_33 (by decide +kernel) h2 h3 (pc' := 36) rfl ?_
      obtain ⟨rfl, rfl⟩ := leaf_s hf
      exact wm_zret C dX11_isOfKind_36 (by decide) (Nat.zero_le _) (Nat.zero_le _) FD.rf
    · have hf := ite_f h3 hf
      refine x_instWide_f C dX11_isOfKind_33 (by decide +kernel) h2 h3 (pc' := 36) rfl ?_
      obtain ⟨rfl, rfl⟩ := leaf_s hf
      exact wm_zret C dX11_isOfKind_36 (by decide) (Nat.zero_le _) (Nat.zero_le _) FD.rf
  · have hf := ite_f h1 hf
    by_cases h4 : x1 = 2
    · have hf := ite_t h4 hf
      refine wm_tableIn (off := 36) C dX11_isOfKind_1 (by rw [h4]; decide) (by rw [h4]; decide) (by rw [h4]; rfl) 37 (by decide) ?_
      refine wm_aload_n C dX11_isOfKind_37 0 rfl (pc' := 38) rfl ?_
      obtain ⟨h5, hf⟩ := chk_s hf
      by_cases h6 : gA σ 7 x0 = 2
      · have hf := ite_t h6 hf
        refine x_instClogging_t C dX11_isOfKind_38 (by decide +kernel) h5 h6 (pc' := 41) rfl ?_
        obtain ⟨rfl, rfl⟩ := leaf_s hf
        exact wm_zret C dX11_isOfKind_41 (by decide) (Nat.zero_le _) (Nat.zero_le _) FD.rf
      · have hf := ite_f h6 hf
        refine x_instClogging_f C dX11_isOfKind_38 (by decide +kernel) h5 h6 (pc' := 41) rfl ?_
        obtain ⟨rfl, rfl⟩ := leaf_s hf
        exact wm_zret C dX11_isOfKind_41 (by decide) (Nat.zero_le _) (Nat.zero_le _) FD.rf
    · have hf := ite_f h4 hf
      by_cases h7 : x1 = 3
      · have hf := ite_t h7 hf
        refine wm_tableIn (off := 41) C dX11_isOfKind_1 (by rw [h7]; decide) (by rw [h7]; decide) (by rw [h7]; rfl) 42 (by decide) ?_
        refine wm_aload_n C dX11_isOfKind_42 0 rfl (pc' := 43) rfl ?_
        obtain ⟨h8, hf⟩ := chk_s hf
        by_cases h9 : gA σ 7 x0 = 3 ∨ gA σ 7 x0 = 4
        · have hf := ite_t h9 hf
          refine x_instHard_t C dX11_isOfKind_43 (by decide +kernel) h8 h9 (pc' := 46) rfl ?_
          obtain ⟨rfl, rfl⟩ := leaf_s hf
          exact wm_zret C dX11_isOfKind_46 (by decide) (Nat.zero_le _) (Nat.zero_le _) FD.rf
        · have hf := ite_f h9 hf
          refine x_instHard_f C dX11_isOfKind_43 (by decide +kernel) h8 h9 (pc' := 46) rfl ?_
          obtain ⟨rfl, rfl⟩ := leaf_s hf
          exact wm_zret C dX11_isOfKind_46 (by decide) (Nat.zero_le _) (Nat.zero_le _) FD.rf
      · have hf := ite_f h7 hf
        by_cases h10 : x1 = 4
        · have hf := ite_t h10 hf
          refine wm_tableIn (off := 46) C dX11_isOfKind_1 (by rw [h10]; decide) (by rw [h10]; decide) (by rw [h10]; rfl) 47 (by decide) ?_
          refine wm_aload_n C dX11_isOfKind_47 0 rfl (pc' := 48) rfl ?_
          obtain ⟨h11, hf⟩ := chk_s hf
          by_cases h12 : gA σ 7 x0 = 4
          · have hf := ite_t h12 hf
            refine x_instTube_t C dX11_isOfKind_48 (by decide +kernel) h11 h12 (pc' := 51) rfl ?_
            obtain ⟨rfl, rfl⟩ := leaf_s hf
            exact wm_zret C dX11_isOfKind_51 (by decide) (Nat.zero_le _) (Nat.zero_le _) FD.rf
          · have hf := ite_f h12 hf
            refine x_instTube_f C dX11_isOfKind_48 (by decide +kernel) h11 h12 (pc' := 51) rfl ?_
            obtain ⟨rfl, rfl⟩ := leaf_s hf
            exact wm_zret C dX11_isOfKind_51 (by decide) (Nat.zero_le _) (Nat.zero_le _) FD.rf
        · have hf := ite_f h10 hf
          refine wm_tableOut C dX11_isOfKind_1 (by have a0 := i32_ne (h1); have a1 := i32_ne (h4); have a2 := i32_ne (h7); have a3 := i32_ne (h10); rw [show (1 : Int32).toInt = 1 from by decide] at a0; rw [show (2 : Int32).toInt = 2 from by decide] at a1; rw [show (3 : Int32).toInt = 3 from by decide] at a2; rw [show (4 : Int32).toInt = 4 from by decide] at a3; omega) 52 (by decide) ?_
          refine wm_iload_n C dX11_isOfKind_52 1 rfl (pc' := 53) rfl ?_
          refine wm_if_ne C dX11_isOfKind_53 60 (by decide) (pc' := 56) rfl (fun h13 => ?_) (fun h13 => ?_)
          · have hf := ite_t h13 hf
            refine wm_ikonst (v := 0) C dX11_isOfKind_60 (by decide) (pc' := 61) rfl ?_
            obtain ⟨rfl, rfl⟩ := leaf_s hf
            exact wm_zret C dX11_isOfKind_61 (by decide) (Nat.zero_le _) (Nat.zero_le _) FD.rf
          · have hf := ite_f (fun h => h h13) hf
            refine wm_ikonst (v := 1) C dX11_isOfKind_56 (by decide) (pc' := 57) rfl ?_
            refine wm_goto C dX11_isOfKind_57 61 (by decide) ?_
            obtain ⟨rfl, rfl⟩ := leaf_s hf
            exact wm_zret C dX11_isOfKind_61 (by decide) (Nat.zero_le _) (Nat.zero_le _) FD.rf
