def fX5_hasJoint (nc : Nat) (x1 : Int32) (σ : MS) : Option (Int32 × MS) :=
  if x1 < 0 then some (0, σ) else if (gI σ 1) ≤ x1 then some (0, σ) else some (1, σ)
theorem inX5_X5_hasJoint : ∀ w ∈ wsX50, w ∈ wsX5_hasJoint := by decide +kernel
set_option maxHeartbeats 4000000 in
set_option maxRecDepth 100000 in
theorem kX5_hasJoint (l : Launch) (D : va_G) (τ : CId) (q : Nat → Nat) (nc : Nat) (σ : MS) (x1 : Int32) (rE : Int32) (sE : MS) (hf : fX5_hasJoint nc x1 σ = some (rE, sE)) : Ct l D τ yX5_hasJoint wsX5_hasJoint { frames := 0, cells := 0, slots := 0, locals := 0 } [.ref (q 60), .int x1] (xW τ q nc σ) (FD (xW τ q nc sE) (some (.int rE))) := by
  unfold fX5_hasJoint at hf
  refine ct_of (cc := cX5_hasJoint) (maxL := 2) (ret := (some .boolean)) (by decide) rfl (Nat.le_of_ble_eq_true rfl) (fun Γ C => ?_)
  refine wm_lv (lv' := [(0, .ref (q 60)), (1, .int x1)]) rfl ?_
  refine wm_iload_n C dX5_hasJoint_0 1 rfl (pc' := 1) rfl ?_
  refine wm_if_lt C dX5_hasJoint_1 16 (by decide) (pc' := 4) rfl (fun h1 => ?_) (fun h1 => ?_)
  · have hf := ite_t h1 hf
    refine wm_ikonst (v := 0) C dX5_hasJoint_16 (by decide) (pc' := 17) rfl ?_
    obtain ⟨rfl, rfl⟩ := leaf_s hf
    exact wm_zret C dX5_hasJoint_17 (by decide) (Nat.zero_le _) (Nat.zero_le _) FD.rf
  · have hf := ite_f h1 hf
    refine wm_iload_n C dX5_hasJoint_4 1 rfl (pc' := 5) rfl ?_
    refine wm_aload_n C dX5_hasJoint_5 0 rfl (pc' := 6) rfl ?_
    refine x_get (v := .int (gI σ 1)) C dX5_hasJoint_6 inX5_X5_hasJoint 1 (by omega) rfl rfl 3 (by decide) (by decide +kernel) (Or.inl rfl) rfl (pc' := 9) rfl ?_
    refine wm_icmp_ge C dX5_hasJoint_9 16 (by decide) (pc' := 12) rfl (fun h2 => ?_) (fun h2 => ?_)
    · have hf := ite_t h2 hf
      refine wm_ikonst (v := 0) C dX5_hasJoint_16 (by decide) (pc' := 17) rfl ?_
      obtain ⟨rfl, rfl⟩ := leaf_s hf
      exact wm_zret C dX5_hasJoint_17 (by decide) (Nat.zero_le _) (Nat.zero_le _) FD.rf
    · have hf := ite_f h2 hf
      refine wm_ikonst (v := 1) C dX5_hasJoint_12 (by decide) (pc' := 13) rfl ?_
      refine wm_goto C dX5_hasJoint_13 17 (by decide) ?_
      obtain ⟨rfl, rfl⟩ := leaf_s hf
      exact wm_zret C dX5_hasJoint_17 (by decide) (Nat.zero_le _) (Nat.zero_le _) FD.rf
def fX5_hasCrack (nc : Nat) (x1 : Int32) (σ : MS) : Option (Int32 × MS) :=
  if x1 < 0 then some (0, σ) else if (gI σ 4) ≤ x1 then some (0, σ) else some (1, σ)
theorem inX5_X5_hasCrack : ∀ w ∈ wsX50, w ∈ wsX5_hasCrack := by decide +kernel
set_option maxHeartbeats 4000000 in
set_option maxRecDepth 100000 in
theorem kX5_hasCrack (l : Launch) (D : va_G) (τ : CId) (q : Nat → Nat) (nc : Nat) (σ : MS) (x1 : Int32) (rE : Int32) (sE : MS) (hf : fX5_hasCrack nc x1 σ = some (rE, sE)) : Ct l D τ yX5_hasCrack wsX5_hasCrack { frames := 0, cells := 0, slots := 0, locals := 0 } [.ref (q 60), .int x1] (xW τ q nc σ) (FD (xW τ q nc sE) (some (.int rE))) := by
  unfold fX5_hasCrack at hf
  refine ct_of (cc := cX5_hasCrack) (maxL := 2) (ret := (some .boolean)) (by decide) rfl (Nat.le_of_ble_eq_true rfl) (fun Γ C => ?_)
  refine wm_lv (lv' := [(0, .ref (q 60)), (1, .int x1)]) rfl ?_
  refine wm_iload_n C dX5_hasCrack_0 1 rfl (pc' := 1) rfl ?_
  refine wm_if_lt C dX5_hasCrack_1 16 (by decide) (pc' := 4) rfl (fun h1 => ?_) (fun h1 => ?_)
  · have hf := ite_t h1 hf
    refine wm_ikonst (v := 0) C dX5_hasCrack_16 (by decide) (pc' := 17) rfl ?_
    obtain ⟨rfl, rfl⟩ := leaf_s hf
    exact wm_zret C dX5_hasCrack_17 (by decide) (Nat.zero_le _) (Nat.zero_le _) FD.rf
  · have hf := ite_f h1 hf
    refine wm_iload_n C dX5_hasCrack_4 1 rfl (pc' := 5) rfl ?_
    refine wm_aload_n C dX5_hasCrack_5 0 rfl (pc' := 6) rfl ?_
    refine x_get (v := .int (gI σ 4)) C dX5_hasCrack_6 inX5_X5_hasCrack 1 (by omega) rfl rfl 4 (by decide) (by decide +kernel) (Or.inl rfl) rfl (pc' := 9) rfl ?_
    refine wm_icmp_ge C dX5_hasCrack_9 16 (by decide) (pc' := 12) rfl (fun h2 => ?_) (fun h2 => ?_)
    · have hf := ite_t h2 hf
      refine wm_ikonst (v := 0) C dX5_hasCrack_16 (by decide) (pc' := 17) rfl ?_
      obtain ⟨rfl, rfl⟩ := leaf_s hf
      exact wm_zret C dX5_hasCrack_17 (by decide) (Nat.zero_le _) (Nat.zero_le _) FD.rf
    · have hf := ite_f h2 hf
      refine wm_ikonst (v := 1) C dX5_hasCrack_12 (by decide) (pc' := 13) rfl ?_
      refine wm_goto C dX5_hasCrack_13 17 (by decide) ?_
      obtain ⟨rfl, rfl⟩ := leaf_s hf
      exact wm_zret C dX5_hasCrack_17 (by decide) (Nat.zero_le _) (Nat.zero_le _) FD.rf
def fX5_addJoint (nc : Nat) (σ : MS) : Option (Int32 × MS) :=
  lets (sI σ 50 ((gI σ 50) + 1)) (fun s1 => lets (sI s1 1 ((gI s1 1) + 1)) (fun s3 => some ((gI s3 1) - 1, s3)))
theorem inX5_X5_addJoint : ∀ w ∈ wsX50, w ∈ wsX5_addJoint := by decide +kernel
set_option maxHeartbeats 4000000 in
set_option maxRecDepth 100000 in
theorem kX5_addJoint (l : Launch) (D : va_G) (τ : CId) (q : Nat → Nat) (nc : Nat) (σ : MS) (rE : Int32) (sE : MS) (hf : fX5_addJoint nc σ = some (rE, sE)) : Ct l D τ yX5_addJoint wsX5_addJoint { frames := 0, cells := 0, slots := 0, locals := 0 } [.ref (q 60)] (xW τ q nc σ) (FD (xW τ q nc sE) (some (.int rE))) := by
  unfold fX5_addJoint at hf
  refine ct_of (cc := cX5_addJoint) (maxL := 1) (ret := (some .int)) (by decide) rfl (Nat.le_of_ble_eq_true rfl) (fun Γ C => ?_)
  refine wm_lv (lv' := [(0, .ref (q 60))]) rfl ?_
  refine wm_aload_n C dX5_addJoint_0 0 rfl (pc' := 1) rfl ?_
  refine wm_dup C dX5_addJoint_1 rfl (pc' := 2) rfl ?_
  refine x_get (v := .int (gI σ 50)) C dX5_addJoint_2 inX5_X5_addJoint 1 (by omega) rfl rfl 6 (by decide) (by decide +kernel) (Or.inl rfl) rfl (pc' := 5) rfl ?_
  refine wm_ikonst (v := 1) C dX5_addJoint_5 (by decide) (pc' := 6) rfl ?_
  refine wm_iadd C dX5_addJoint_6 (pc' := 7) rfl ?_
  obtain ⟨s1, e2, hf⟩ := lets_s hf
  refine x_put (σ' := s1) C dX5_addJoint_7 inX5_X5_addJoint tyX5 tyX5_ok nmX5 1 (by omega) rfl rfl 6 (by decide) (by decide +kernel) (Or.inl rfl) rfl rfl rfl rfl (Nat.le_of_ble_eq_true rfl) (e2 ▸ xC_I50) (e2 ▸ rfl) (pc' := 10) rfl ?_
  refine wm_aload_n C dX5_addJoint_10 0 rfl (pc' := 11) rfl ?_
  refine wm_dup C dX5_addJoint_11 rfl (pc' := 12) rfl ?_
  refine x_get (v := .int (gI s1 1)) C dX5_addJoint_12 inX5_X5_addJoint 1 (by omega) rfl rfl 3 (by decide) (by decide +kernel) (Or.inl rfl) rfl (pc' := 15) rfl ?_
  refine wm_ikonst (v := 1) C dX5_addJoint_15 (by decide) (pc' := 16) rfl ?_
  refine wm_iadd C dX5_addJoint_16 (pc' := 17) rfl ?_
  obtain ⟨s3, e4, hf⟩ := lets_s hf
  refine x_put (σ' := s3) C dX5_addJoint_17 inX5_X5_addJoint tyX5 tyX5_ok nmX5 1 (by omega) rfl rfl 3 (by decide) (by decide +kernel) (Or.inl rfl) rfl rfl rfl rfl (Nat.le_of_ble_eq_true rfl) (e4 ▸ xC_I1) (e4 ▸ rfl) (pc' := 20) rfl ?_
  refine wm_aload_n C dX5_addJoint_20 0 rfl (pc' := 21) rfl ?_
  refine x_get (v := .int (gI s3 1)) C dX5_addJoint_21 inX5_X5_addJoint 1 (by omega) rfl rfl 3 (by decide) (by decide +kernel) (Or.inl rfl) rfl (pc' := 24) rfl ?_
  refine wm_ikonst (v := 1) C dX5_addJoint_24 (by decide) (pc' := 25) rfl ?_
  refine wm_isub C dX5_addJoint_25 (pc' := 26) rfl ?_
  obtain ⟨rfl, rfl⟩ := leaf_s hf
  exact wm_iret C dX5_addJoint_26 (Nat.zero_le _) (Nat.zero_le _) FD.rf
def fX5_setHeld (nc : Nat) (x1 : Int32) (x2 : Int32) (x3 : Int32) (σ : MS) : Option (Unit × MS) :=
  if ¬ (x1 < 0 ∨ 6 ≤ x1.toNatClampNeg) then lets (sA σ 2 x1.toNatClampNeg (vp_nar .boolean x2)) (fun s2 => if ¬ (x1 < 0 ∨ 6 ≤ x1.toNatClampNeg) then lets (sA s2 3 x1.toNatClampNeg x3) (fun s5 => lets (sI s5 50 ((gI s5 50) + 1)) (fun s7 => some ((), s7))) else none) else none
theorem inX5_X5_setHeld : ∀ w ∈ wsX50, w ∈ wsX5_setHeld := by decide +kernel
set_option maxHeartbeats 4000000 in
set_option maxRecDepth 100000 in
theorem kX5_setHeld (l : Launch) (D : va_G) (τ : CId) (q : Nat → Nat) (nc : Nat) (σ : MS) (x1 : Int32) (x2 : Int32) (x3 : Int32) (sE : MS) (hf : fX5_setHeld nc x1 x2 x3 σ = some ((), sE)) : Ct l D τ yX5_setHeld wsX5_setHeld { frames := 0, cells := 0, slots := 0, locals := 0 } [.ref (q 60), .int x1, .int x2, .int x3] (xW τ q nc σ) (FD (xW τ q nc sE) none) := by
  unfold fX5_setHeld at hf
  refine ct_of (cc := cX5_setHeld) (maxL := 4) (ret := none) (by decide) rfl (Nat.le_of_ble_eq_true rfl) (fun Γ C => ?_)
  refine wm_lv (lv' := [(0, .ref (q 60)), (1, .int x1), (2, .int x2), (3, .int x3)]) rfl ?_
  refine wm_aload_n C dX5_setHeld_0 0 rfl (pc' := 1) rfl ?_
  refine x_get (v := .ref (q 2)) C dX5_setHeld_1 inX5_X5_setHeld 1 (by omega) rfl rfl 0 (by decide) (by decide +kernel) (Or.inl rfl) rfl (pc' := 4) rfl ?_
  refine wm_iload_n C dX5_setHeld_4 1 rfl (pc' := 5) rfl ?_
  refine wm_iload_n C dX5_setHeld_5 2 rfl (pc' := 6) rfl ?_
  obtain ⟨h1, hf⟩ := chk_s hf
  obtain ⟨s2, e3, hf⟩ := lets_s hf
  refine wm_zast (f := gA σ 2) (N := 6) (cA := τ.2.2.1) C dX5_setHeld_6 8 (x_at (by omega) rfl) rfl h1 (Wd' := xW τ q nc s2) (xW_set (e3 ▸ xC_A2) (by rw [e3]; rfl)) (pc' := 7) rfl ?_
  refine wm_aload_n C dX5_setHeld_7 0 rfl (pc' := 8) rfl ?_
  refine x_get (v := .ref (q 3)) C dX5_setHeld_8 inX5_X5_setHeld 1 (by omega) rfl rfl 1 (by decide) (by decide +kernel) (Or.inl rfl) rfl (pc' := 11) rfl ?_
  refine wm_iload_n C dX5_setHeld_11 1 rfl (pc' := 12) rfl ?_
  refine wm_iload_n C dX5_setHeld_12 3 rfl (pc' := 13) rfl ?_
  obtain ⟨h4, hf⟩ := chk_s hf
  obtain ⟨s5, e6, hf⟩ := lets_s hf
  refine wm_iast (f := gA s2 3) (N := 6) (cA := τ.1) C dX5_setHeld_13 9 (x_at (by omega) rfl) rfl h4 (Wd' := xW τ q nc s5) (xW_set (e6 ▸ xC_A3) (by rw [e6]; rfl)) (pc' := 14) rfl ?_
  refine wm_aload_n C dX5_setHeld_14 0 rfl (pc' := 15) rfl ?_
  refine wm_dup C dX5_setHeld_15 rfl (pc' := 16) rfl ?_
  refine x_get (v := .int (gI s5 50)) C dX5_setHeld_16 inX5_X5_setHeld 1 (by omega) rfl rfl 6 (by decide) (by decide +kernel) (Or.inl rfl) rfl (pc' := 19) rfl ?_
  refine wm_ikonst (v := 1) C dX5_setHeld_19 (by decide) (pc' := 20) rfl ?_
  refine wm_iadd C dX5_setHeld_20 (pc' := 21) rfl ?_
  obtain ⟨s7, e8, hf⟩ := lets_s hf
  refine x_put (σ' := s7) C dX5_setHeld_21 inX5_X5_setHeld tyX5 tyX5_ok nmX5 1 (by omega) rfl rfl 6 (by decide) (by decide +kernel) (Or.inl rfl) rfl rfl rfl rfl (Nat.le_of_ble_eq_true rfl) (e8 ▸ xC_I50) (e8 ▸ rfl) (pc' := 24) rfl ?_
  obtain ⟨-, rfl⟩ := leaf_s hf
  exact wm_vret C dX5_setHeld_24 (Nat.zero_le _) (Nat.zero_le _) FD.rf
def fX5_setWidth (nc : Nat) (x1 : Int32) (x2 : Int32) (σ : MS) : Option (Unit × MS) :=
  if ¬ (x1 < 0 ∨ 12 ≤ x1.toNatClampNeg) then if x1.toNatClampNeg < nc then if x1.toNatClampNeg < nc then lets (sA σ 8 x1.toNatClampNeg x2) (fun s3 => if ¬ (x1 < 0 ∨ 12 ≤ x1.toNatClampNeg) then if x1.toNatClampNeg < nc then if x1.toNatClampNeg < nc then lets (sA s3 10 x1.toNatClampNeg 0) (fun s8 => lets (sI s8 50 ((gI s8 50) + 1)) (fun s11 => some ((), s11))) else none else none else none) else none else none else none
theorem in5_X5_setWidth : In5 wsX5_setWidth := ⟨by decide +kernel, by decide +kernel, by decide +kernel, by decide +kernel, by decide +kernel⟩
theorem inX5_X5_setWidth : ∀ w ∈ wsX50, w ∈ wsX5_setWidth := by decide +kernel
set_option maxHeartbeats 4000000 in
set_option maxRecDepth 100000 in
theorem kX5_setWidth (l : Launch) (D : va_G) (τ : CId) (q : Nat → Nat) (nc : Nat) (σ : MS) (x1 : Int32) (x2 : Int32) (sE : MS) (hf : fX5_setWidth nc x1 x2 σ = some ((), sE)) : Ct l D τ yX5_setWidth wsX5_setWidth { frames := 0, cells := 0, slots := 0, locals := 0 } [.ref (q 60), .int x1, .int x2] (xW τ q nc σ) (FD (xW τ q nc sE) none) := by
  unfold fX5_setWidth at hf
  refine ct_of (cc := cX5_setWidth) (maxL := 3) (ret := none) (by decide) rfl (Nat.le_of_ble_eq_true rfl) (fun Γ C => ?_)
  refine wm_lv (lv' := [(0, .ref (q 60)), (1, .int x1), (2, .int x2)]) rfl ?_
  refine wm_aload_n C dX5_setWidth_0 0 rfl (pc' := 1) rfl ?_
  refine x_get (v := .ref (q 66)) C dX5_setWidth_1 inX5_X5_setWidth 1 (by omega) rfl rfl 2 (by decide) (by decide +kernel) (Or.inl rfl) rfl (pc' := 4) rfl ?_
  refine wm_iload_n C dX5_setWidth_4 1 rfl (pc' := 5) rfl ?_
  obtain ⟨h1, hf⟩ := chk_s hf
  obtain ⟨h2, hf⟩ := chk_s hf
  refine wm_aald (f := refs q 200 nc) (N := 12) (cA := τ.2.2.2.2.1) (ty := .object "WideningCracks$Crack") C dX5_setWidth_5 10 4 (x_at (by omega) rfl) rfl rfl h1 (refs_at h2) (pc' := 6) rfl ?_
  refine wm_iload_n C dX5_setWidth_6 2 rfl (pc' := 7) rfl ?_
  obtain ⟨h5, hf⟩ := chk_s hf
  obtain ⟨s3, e4, hf⟩ := lets_s hf
  refine x_putCw C dX5_setWidth_7 in5_X5_setWidth h5 (by decide +kernel) (pc' := 10) rfl ?_
  rw [← e4]
  refine wm_aload_n C dX5_setWidth_10 0 rfl (pc' := 11) rfl ?_
  refine x_get (v := .ref (q 66)) C dX5_setWidth_11 inX5_X5_setWidth 1 (by omega) rfl rfl 2 (by decide) (by decide +kernel) (Or.inl rfl) rfl (pc' := 14) rfl ?_
  refine wm_iload_n C dX5_setWidth_14 1 rfl (pc' := 15) rfl ?_
  obtain ⟨h6, hf⟩ := chk_s hf
  obtain ⟨h7, hf⟩ := chk_s hf
  refine wm_aald (f := refs q 200 nc) (N := 12) (cA := τ.2.2.2.2.1) (ty := .object "WideningCracks$Crack") C dX5_setWidth_15 10 4 (x_at (by omega) rfl) rfl rfl h6 (refs_at h7) (pc' := 16) rfl ?_
  refine wm_ikonst (v := 0) C dX5_setWidth_16 (by decide) (pc' := 17) rfl ?_
  obtain ⟨h10, hf⟩ := chk_s hf
  obtain ⟨s8, e9, hf⟩ := lets_s hf
  refine x_putCs C dX5_setWidth_17 in5_X5_setWidth h10 (by decide +kernel) (pc' := 20) rfl ?_
  rw [← e9]
  refine wm_aload_n C dX5_setWidth_20 0 rfl (pc' := 21) rfl ?_
  refine wm_dup C dX5_setWidth_21 rfl (pc' := 22) rfl ?_
  refine x_get (v := .int (gI s8 50)) C dX5_setWidth_22 inX5_X5_setWidth 1 (by omega) rfl rfl 6 (by decide) (by decide +kernel) (Or.inl rfl) rfl (pc' := 25) rfl ?_
  refine wm_ikonst (v := 1) C dX5_setWidth_25 (by decide) (pc' := 26) rfl ?_
  refine wm_iadd C dX5_setWidth_26 (pc' := 27) rfl ?_
  obtain ⟨s11, e12, hf⟩ := lets_s hf
  refine x_put (σ' := s11) C dX5_setWidth_27 inX5_X5_setWidth tyX5 tyX5_ok nmX5 1 (by omega) rfl rfl 6 (by decide) (by decide +kernel) (Or.inl rfl) rfl rfl rfl rfl (Nat.le_of_ble_eq_true rfl) (e12 ▸ xC_I50) (e12 ▸ rfl) (pc' := 30) rfl ?_
  obtain ⟨-, rfl⟩ := leaf_s hf
  exact wm_vret C dX5_setWidth_30 (Nat.zero_le _) (Nat.zero_le _) FD.rf
def fX5_openAt_J40 (nc : Nat) (rec : Int32 → Int32 → MS → Option (Int32 × MS)) (x1 : Int32) (x2 : Int32) (x3 : Int32) (s : MS) : Option (Int32 × MS) :=
  rec x2 (x3 + 1) s
def fX5_openAt_L4 (nc : Nat) (x1 : Int32) : Nat → Int32 → Int32 → MS → Option (Int32 × MS)
  | 0, _, _, _ => none
  | fu + 1, x2, x3, s => if (gI s 4) ≤ x3 then some (x2, s) else if ¬ (x3 < 0 ∨ 12 ≤ x3.toNatClampNeg) then if x3.toNatClampNeg < nc then if x3.toNatClampNeg < nc then if (gA s 8 x3.toNatClampNeg) ≤ 0 then fX5_openAt_J40 nc (fX5_openAt_L4 nc x1 fu) x1 x2 x3 s else if ¬ (x3 < 0 ∨ 12 ≤ x3.toNatClampNeg) then if x3.toNatClampNeg < nc then if x3.toNatClampNeg < nc then bnd (fX2_isAt nc x3.toNatClampNeg x1 s) (fun r8 s9 => if r8 = 0 then fX5_openAt_J40 nc (fX5_openAt_L4 nc x1 fu) x1 x2 x3 s9 else fX5_openAt_J40 nc (fX5_openAt_L4 nc x1 fu) x1 (x2 + 1) x3 s9) else none else none else none else none else none else none
theorem fX5_openAt_L4_s (nc : Nat) (x1 : Int32) (fu : Nat) (x2 : Int32) (x3 : Int32) (s : MS) : fX5_openAt_L4 nc x1 (fu + 1) x2 x3 s = (if (gI s 4) ≤ x3 then some (x2, s) else if ¬ (x3 < 0 ∨ 12 ≤ x3.toNatClampNeg) then if x3.toNatClampNeg < nc then if x3.toNatClampNeg < nc then if (gA s 8 x3.toNatClampNeg) ≤ 0 then fX5_openAt_J40 nc (fX5_openAt_L4 nc x1 fu) x1 x2 x3 s else if ¬ (x3 < 0 ∨ 12 ≤ x3.toNatClampNeg) then if x3.toNatClampNeg < nc then if x3.toNatClampNeg < nc then bnd (fX2_isAt nc x3.toNatClampNeg x1 s) (fun r8 s9 => if r8 = 0 then fX5_openAt_J40 nc (fX5_openAt_L4 nc x1 fu) x1 x2 x3 s9 else fX5_openAt_J40 nc (fX5_openAt_L4 nc x1 fu) x1 (x2 + 1) x3 s9) else none else none else none else none else none else none) := rfl
def fX5_openAt (nc : Nat) (x1 : Int32) (σ : MS) : Option (Int32 × MS) :=
  bnd (fX5_openAt_L4 nc x1 FU 0 0 σ) (fun v14 s15 => some (v14, s15))
theorem in5_X5_openAt : In5 wsX5_openAt := ⟨by decide +kernel, by decide +kernel, by decide +kernel, by decide +kernel, by decide +kernel⟩
theorem inX5_X5_openAt : ∀ w ∈ wsX50, w ∈ wsX5_openAt := by decide +kernel
set_option maxHeartbeats 4000000 in
set_option maxRecDepth 100000 in
theorem kX5_openAt (l : Launch) (D : va_G) (τ : CId) (q : Nat → Nat) (nc : Nat) (σ : MS) (x1 : Int32) (rE : Int32) (sE : MS) (hf : fX5_openAt nc x1 σ = some (rE, sE)) : Ct l D τ yX5_openAt wsX5_openAt { frames := 1, cells := 0, slots := 0, locals := 21 } [.ref (q 60), .int x1] (xW τ q nc σ) (FD (xW τ q nc sE) (some (.int rE))) := by
  unfold fX5_openAt at hf
  refine ct_of (cc := cX5_openAt) (maxL := 4) (ret := (some .int)) (by decide) rfl (Nat.le_of_ble_eq_true rfl) (fun Γ C => ?_)
  refine wm_lv (lv' := [(0, .ref (q 60)), (1, .int x1)]) rfl ?_
  have wL_4 : ∀ (x1 : Int32) (fu : Nat) (x2 : Int32) (x3 : Int32) (s : MS) (v : Int32) (s' : MS), fX5_openAt_L4 nc x1 fu x2 x3 s = some (v, s') → WM l D Γ 4 0 0 (xW τ q nc s') 46 [(2, .int v)] [] → WM l D Γ 4 0 0 (xW τ q nc s) 4 [(0, .ref (q 60)), (1, .int x1), (2, .int x2), (3, .int x3)] [] := by
    intro x1
    intro fu
    induction fu with
    | zero => intro x2 x3 s v s' hf hE; exact absurd hf (fun h => nomatch (show (none : Option _) = some _ from h))
    | succ fu ih =>
      intro x2 x3 s v s' hf hE
      rw [fX5_openAt_L4_s] at hf
      have wJ_40 : ∀ (x2 : Int32) (x3 : Int32) (s : MS) (v : Int32) (s' : MS), fX5_openAt_J40 nc (fX5_openAt_L4 nc x1 fu) x1 x2 x3 s = some (v, s') → WM l D Γ 4 0 0 (xW τ q nc s') 46 [(2, .int v)] [] → WM l D Γ 4 0 0 (xW τ q nc s) 40 [(0, .ref (q 60)), (1, .int x1), (2, .int x2), (3, .int x3)] [] := by
        intro x2 x3 s v s' hf hE
        unfold fX5_openAt_J40 at hf
        refine wm_iinc (v := x3 + 1) (lv' := [(3, .int (x3 + 1)), (0, .ref (q 60)), (1, .int x1), (2, .int x2)]) C dX5_openAt_40 3 rfl rfl (by decide) rfl (pc' := 43) rfl ?_
        refine wm_goto C dX5_openAt_43 4 (by decide) ?_
        refine wm_sub (lv' := [(0, .ref (q 60)), (1, .int x1), (2, .int x2), (3, .int (x3 + 1))]) [1, 2, 3, 0] rfl ?_
        exact ih x2 (x3 + 1) s _ _ hf hE
      refine wm_iload_n C dX5_openAt_4 3 rfl (pc' := 5) rfl ?_
      refine wm_aload_n C dX5_openAt_5 0 rfl (pc' := 6) rfl ?_
      refine x_get (v := .int (gI s 4)) C dX5_openAt_6 inX5_X5_openAt 1 (by omega) rfl rfl 4 (by decide) (by decide +kernel) (Or.inl rfl) rfl (pc' := 9) rfl ?_
      refine wm_icmp_ge C dX5_openAt_9 46 (by decide) (pc' := 12) rfl (fun h1 => ?_) (fun h1 => ?_)
      · have hf := ite_t h1 hf
        obtain ⟨rfl, rfl⟩ := leaf_s hf
        refine wm_sub (lv' := [(2, .int x2)]) [2] rfl ?_
        exact hE
      · have hf := ite_f h1 hf
        refine wm_aload_n C dX5_openAt_12 0 rfl (pc' := 13) rfl ?_
        refine x_get (v := .ref (q 66)) C dX5_openAt_13 inX5_X5_openAt 1 (by omega) rfl rfl 2 (by decide) (by decide +kernel) (Or.inl rfl) rfl (pc' := 16) rfl ?_
        refine wm_iload_n C dX5_openAt_16 3 rfl (pc' := 17) rfl ?_
        obtain ⟨h2, hf⟩ := chk_s hf
        obtain ⟨h3, hf⟩ := chk_s hf
        refine wm_aald (f := refs q 200 nc) (N := 12) (cA := τ.2.2.2.2.1) (ty := .object "WideningCracks$Crack") C dX5_openAt_17 10 4 (x_at (by omega) rfl) rfl rfl h2 (refs_at h3) (pc' := 18) rfl ?_
        obtain ⟨h4, hf⟩ := chk_s hf
        refine x_getC (ref := "WideningCracks$Crack") (v := .int (gA s 8 x3.toNatClampNeg)) C dX5_openAt_18 in5_X5_openAt h4 3 (by decide) (by decide +kernel) (Or.inl rfl) rfl (pc' := 21) rfl ?_
        refine wm_if_le C dX5_openAt_21 40 (by decide) (pc' := 24) rfl (fun h5 => ?_) (fun h5 => ?_)
        · have hf := ite_t h5 hf
          exact wJ_40 x2 x3 s _ _ hf hE
        · have hf := ite_f h5 hf
          refine wm_aload_n C dX5_openAt_24 0 rfl (pc' := 25) rfl ?_
          refine x_get (v := .ref (q 66)) C dX5_openAt_25 inX5_X5_openAt 1 (by omega) rfl rfl 2 (by decide) (by decide +kernel) (Or.inl rfl) rfl (pc' := 28) rfl ?_
          refine wm_iload_n C dX5_openAt_28 3 rfl (pc' := 29) rfl ?_
          obtain ⟨h6, hf⟩ := chk_s hf
          obtain ⟨h7, hf⟩ := chk_s hf
          refine wm_aald (f := refs q 200 nc) (N := 12) (cA := τ.2.2.2.2.1) (ty := .object "WideningCracks$Crack") C dX5_openAt_29 10 4 (x_at (by omega) rfl) rfl rfl h6 (refs_at h7) (pc' := 30) rfl ?_
          refine wm_iload_n C dX5_openAt_30 1 rfl (pc' := 31) rfl ?_
          obtain ⟨h11, hf⟩ := chk_s hf
          obtain ⟨r8, s9, h10, hf⟩ := bnd_s hf
          have K12 : WM l D Γ 4 0 0 (xW τ q nc s9) 34 [(0, .ref (q 60)), (1, .int x1), (2, .int x2), (3, .int x3)] [.int r8] := by
            refine wm_if_eq C dX5_openAt_34 40 (by decide) (pc' := 37) rfl (fun h13 => ?_) (fun h13 => ?_)
            · have hf := ite_t h13 hf
              exact wJ_40 x2 x3 s9 _ _ hf hE
            · have hf := ite_f h13 hf
              refine wm_iinc (v := x2 + 1) (lv' := [(2, .int (x2 + 1)), (0, .ref (q 60)), (1, .int x1), (3, .int x3)]) C dX5_openAt_37 2 rfl rfl (by decide) rfl (pc' := 40) rfl ?_
              refine wm_sub (lv' := [(0, .ref (q 60)), (1, .int x1), (2, .int (x2 + 1)), (3, .int x3)]) [1, 2, 0, 3] rfl ?_
              exact wJ_40 (x2 + 1) x3 s9 _ _ hf hE
          rcases kci5 (gA s 7 x3.toNatClampNeg) with ⟨k1, kk⟩ | ⟨n1, k2, kk⟩ | ⟨n1, n2, k3, kk⟩ | ⟨n1, n2, n3, k4, kk⟩ | ⟨n1, n2, n3, n4, kk⟩
          · exact wm_callC (nn := 1) (As := [.int x1]) (rest := []) (st' := [.int r8]) C dX5_openAt_31 (kX2_isAt l D τ q nc x3.toNatClampNeg s x1 r8 s9 h10) (cw_U gX5_openAt_X2_isAt_u41X10 rfl rfl (by decide +kernel) ⟨Nat.le_of_ble_eq_true rfl, Nat.le_of_ble_eq_true rfl⟩) rfl rfl ⟨Nat.zero_le _, Nat.zero_le _⟩ (49 + x3.toNatClampNeg) (x_crackAt h11 kk) rfl rfl rfl (Nat.le_of_ble_eq_true rfl) rfl (pc' := 34) rfl K12
          · exact wm_callC (nn := 1) (As := [.int x1]) (rest := []) (st' := [.int r8]) C dX5_openAt_31 (kX2_isAt l D τ q nc x3.toNatClampNeg s x1 r8 s9 h10) (cw_U gX5_openAt_X2_isAt_u41X0 rfl rfl (by decide +kernel) ⟨Nat.le_of_ble_eq_true rfl, Nat.le_of_ble_eq_true rfl⟩) rfl rfl ⟨Nat.zero_le _, Nat.zero_le _⟩ (49 + x3.toNatClampNeg) (x_crackAt h11 kk) rfl rfl rfl (Nat.le_of_ble_eq_true rfl) rfl (pc' := 34) rfl K12
          · exact wm_callC (nn := 1) (As := [.int x1]) (rest := []) (st' := [.int r8]) C dX5_openAt_31 (kX2_isAt l D τ q nc x3.toNatClampNeg s x1 r8 s9 h10) (cw_U gX5_openAt_X2_isAt_u41X3 rfl rfl (by decide +kernel) ⟨Nat.le_of_ble_eq_true rfl, Nat.le_of_ble_eq_true rfl⟩) rfl rfl ⟨Nat.zero_le _, Nat.zero_le _⟩ (49 + x3.toNatClampNeg) (x_crackAt h11 kk) rfl rfl rfl (Nat.le_of_ble_eq_true rfl) rfl (pc' := 34) rfl K12
          · exact wm_callC (nn := 1) (As := [.int x1]) (rest := []) (st' := [.int r8]) C dX5_openAt_31 (kX2_isAt l D τ q nc x3.toNatClampNeg s x1 r8 s9 h10) (cw_U gX5_openAt_X2_isAt_u41X7 rfl rfl (by decide +kernel) ⟨Nat.le_of_ble_eq_true rfl, Nat.le_of_ble_eq_true rfl⟩) rfl rfl ⟨Nat.zero_le _, Nat.zero_le _⟩ (49 + x3.toNatClampNeg) (x_crackAt h11 kk) rfl rfl rfl (Nat.le_of_ble_eq_true rfl) rfl (pc' := 34) rfl K12
          · exact wm_callVd (nn := 1) (As := [.int x1]) (rest := []) (st' := [.int r8]) C dX5_openAt_31 (kX2_isAt l D τ q nc x3.toNatClampNeg s x1 r8 s9 h10) gX5_openAt_X2_isAt rfl (by decide +kernel) ⟨Nat.le_of_ble_eq_true rfl, Nat.le_of_ble_eq_true rfl⟩ rfl rfl ⟨Nat.zero_le _, Nat.zero_le _⟩ (49 + x3.toNatClampNeg) (x_crackAt h11 kk) rfl rfl rfl (Nat.le_of_ble_eq_true rfl) rfl (pc' := 34) rfl K12
  refine wm_ikonst (v := 0) C dX5_openAt_0 (by decide) (pc' := 1) rfl ?_
  refine wm_istore_n (lv' := [(2, .int 0), (0, .ref (q 60)), (1, .int x1)]) C dX5_openAt_1 (by decide) rfl (pc' := 2) rfl ?_
  refine wm_ikonst (v := 0) C dX5_openAt_2 (by decide) (pc' := 3) rfl ?_
  refine wm_istore_n (lv' := [(3, .int 0), (2, .int 0), (0, .ref (q 60)), (1, .int x1)]) C dX5_openAt_3 (by decide) rfl (pc' := 4) rfl ?_
  refine wm_sub (lv' := [(0, .ref (q 60)), (1, .int x1), (2, .int 0), (3, .int 0)]) [2, 3, 1, 0] rfl ?_
  obtain ⟨v14, s15, h16, hf⟩ := bnd_s hf
  refine wL_4 x1 FU 0 0 σ v14 s15 h16 ?_
  refine wm_iload_n C dX5_openAt_46 0 rfl (pc' := 47) rfl ?_
  obtain ⟨rfl, rfl⟩ := leaf_s hf
  exact wm_iret C dX5_openAt_47 (Nat.zero_le _) (Nat.zero_le _) FD.rf
def fX5_openCount_J27 (nc : Nat) (rec : Int32 → Int32 → MS → Option (Int32 × MS)) (x1 : Int32) (x2 : Int32) (s : MS) : Option (Int32 × MS) :=
  rec x1 (x2 + 1) s
def fX5_openCount_L4 (nc : Nat) : Nat → Int32 → Int32 → MS → Option (Int32 × MS)
  | 0, _, _, _ => none
  | fu + 1, x1, x2, s => if (gI s 4) ≤ x2 then some (x1, s) else if ¬ (x2 < 0 ∨ 12 ≤ x2.toNatClampNeg) then if x2.toNatClampNeg < nc then if x2.toNatClampNeg < nc then if (gA s 8 x2.toNatClampNeg) ≤ 0 then fX5_openCount_J27 nc (fX5_openCount_L4 nc fu) x1 x2 s else fX5_openCount_J27 nc (fX5_openCount_L4 nc fu) (x1 + 1) x2 s else none else none else none
theorem fX5_openCount_L4_s (nc : Nat) (fu : Nat) (x1 : Int32) (x2 : Int32) (s : MS) : fX5_openCount_L4 nc (fu + 1) x1 x2 s = (if (gI s 4) ≤ x2 then some (x1, s) else if ¬ (x2 < 0 ∨ 12 ≤ x2.toNatClampNeg) then if x2.toNatClampNeg < nc then if x2.toNatClampNeg < nc then if (gA s 8 x2.toNatClampNeg) ≤ 0 then fX5_openCount_J27 nc (fX5_openCount_L4 nc fu) x1 x2 s else fX5_openCount_J27 nc (fX5_openCount_L4 nc fu) (x1 + 1) x2 s else none else none else none) := rfl
def fX5_openCount (nc : Nat) (σ : MS) : Option (Int32 × MS) :=
  bnd (fX5_openCount_L4 nc FU 0 0 σ) (fun v6 s7 => some (v6, s7))
theorem in5_X5_openCount : In5 wsX5_openCount := ⟨by decide +kernel, by decide +kernel, by decide +kernel, by decide +kernel, by decide +kernel⟩
theorem inX5_X5_openCount : ∀ w ∈ wsX50, w ∈ wsX5_openCount := by decide +kernel
set_option maxHeartbeats 4000000 in
set_option maxRecDepth 100000 in
theorem kX5_openCount (l : Launch) (D : va_G) (τ : CId) (q : Nat → Nat) (nc : Nat) (σ : MS) (rE : Int32) (sE : MS) (hf : fX5_openCount nc σ = some (rE, sE)) : Ct l D τ yX5_openCount wsX5_openCount { frames := 0, cells := 0, slots := 0, locals := 0 } [.ref (q 60)] (xW τ q nc σ) (FD (xW τ q nc sE) (some (.int rE))) := by
  unfold fX5_openCount at hf
  refine ct_of (cc := cX5_openCount) (maxL := 3) (ret := (some .int)) (by decide) rfl (Nat.le_of_ble_eq_true rfl) (fun Γ C => ?_)
  refine wm_lv (lv' := [(0, .ref (q 60))]) rfl ?_
  have wL_4 : ∀ (fu : Nat) (x1 : Int32) (x2 : Int32) (s : MS) (v : Int32) (s' : MS), fX5_openCount_L4 nc fu x1 x2 s = some (v, s') → WM l D Γ 3 0 0 (xW τ q nc s') 33 [(1, .int v)] [] → WM l D Γ 3 0 0 (xW τ q nc s) 4 [(0, .ref (q 60)), (1, .int x1), (2, .int x2)] [] := by
    intro fu
    induction fu with
    | zero => intro x1 x2 s v s' hf hE; exact absurd hf (fun h => nomatch (show (none : Option _) = some _ from h))
    | succ fu ih =>
      intro x1 x2 s v s' hf hE
      rw [fX5_openCount_L4_s] at hf
      have wJ_27 : ∀ (x1 : Int32) (x2 : Int32) (s : MS) (v : Int32) (s' : MS), fX5_openCount_J27 nc (fX5_openCount_L4 nc fu) x1 x2 s = some (v, s') → WM l D Γ 3 0 0 (xW τ q nc s') 33 [(1, .int v)] [] → WM l D Γ 3 0 0 (xW τ q nc s) 27 [(0, .ref (q 60)), (1, .int x1), (2, .int x2)] [] := by
        intro x1 x2 s v s' hf hE
        unfold fX5_openCount_J27 at hf
        refine wm_iinc (v := x2 + 1) (lv' := [(2, .int (x2 + 1)), (0, .ref (q 60)), (1, .int x1)]) C dX5_openCount_27 2 rfl rfl (by decide) rfl (pc' := 30) rfl ?_
        refine wm_goto C dX5_openCount_30 4 (by decide) ?_
        refine wm_sub (lv' := [(0, .ref (q 60)), (1, .int x1), (2, .int (x2 + 1))]) [1, 2, 0] rfl ?_
        exact ih x1 (x2 + 1) s _ _ hf hE
      refine wm_iload_n C dX5_openCount_4 2 rfl (pc' := 5) rfl ?_
      refine wm_aload_n C dX5_openCount_5 0 rfl (pc' := 6) rfl ?_
      refine x_get (v := .int (gI s 4)) C dX5_openCount_6 inX5_X5_openCount 1 (by omega) rfl rfl 4 (by decide) (by decide +kernel) (Or.inl rfl) rfl (pc' := 9) rfl ?_
      refine wm_icmp_ge C dX5_openCount_9 33 (by decide) (pc' := 12) rfl (fun h1 => ?_) (fun h1 => ?_)
      · have hf := ite_t h1 hf
        obtain ⟨rfl, rfl⟩ := leaf_s hf
        refine wm_sub (lv' := [(1, .int x1)]) [1] rfl ?_
        exact hE
      · have hf := ite_f h1 hf
        refine wm_aload_n C dX5_openCount_12 0 rfl (pc' := 13) rfl ?_
        refine x_get (v := .ref (q 66)) C dX5_openCount_13 inX5_X5_openCount 1 (by omega) rfl rfl 2 (by decide) (by decide +kernel) (Or.inl rfl) rfl (pc' := 16) rfl ?_
        refine wm_iload_n C dX5_openCount_16 2 rfl (pc' := 17) rfl ?_
        obtain ⟨h2, hf⟩ := chk_s hf
        obtain ⟨h3, hf⟩ := chk_s hf
        refine wm_aald (f := refs q 200 nc) (N := 12) (cA := τ.2.2.2.2.1) (ty := .object "WideningCracks$Crack") C dX5_openCount_17 10 4 (x_at (by omega) rfl) rfl rfl h2 (refs_at h3) (pc' := 18) rfl ?_
        obtain ⟨h4, hf⟩ := chk_s hf
        refine x_getC (ref := "WideningCracks$Crack") (v := .int (gA s 8 x2.toNatClampNeg)) C dX5_openCount_18 in5_X5_openCount h4 3 (by decide) (by decide +kernel) (Or.inl rfl) rfl (pc' := 21) rfl ?_
        refine wm_if_le C dX5_openCount_21 27 (by decide) (pc' := 24) rfl (fun h5 => ?_) (fun h5 => ?_)
        · have hf := ite_t h5 hf
          exact wJ_27 x1 x2 s _ _ hf hE
        · have hf := ite_f h5 hf
          refine wm_iinc (v := x1 + 1) (lv' := [(1, .int (x1 + 1)), (0, .ref (q 60)), (2, .int x2)]) C dX5_openCount_24 1 rfl rfl (by decide) rfl (pc' := 27) rfl ?_
          refine wm_sub (lv' := [(0, .ref (q 60)), (1, .int (x1 + 1)), (2, .int x2)]) [1, 0, 2] rfl ?_
          exact wJ_27 (x1 + 1) x2 s _ _ hf hE
  refine wm_ikonst (v := 0) C dX5_openCount_0 (by decide) (pc' := 1) rfl ?_
  refine wm_istore_n (lv' := [(1, .int 0), (0, .ref (q 60))]) C dX5_openCount_1 (by decide) rfl (pc' := 2) rfl ?_
  refine wm_ikonst (v := 0) C dX5_openCount_2 (by decide) (pc' := 3) rfl ?_
  refine wm_istore_n (lv' := [(2, .int 0), (1, .int 0), (0, .ref (q 60))]) C dX5_openCount_3 (by decide) rfl (pc' := 4) rfl ?_
  refine wm_sub (lv' := [(0, .ref (q 60)), (1, .int 0), (2, .int 0)]) [2, 1, 0] rfl ?_
  obtain ⟨v6, s7, h8, hf⟩ := bnd_s hf
  refine wL_4 FU 0 0 σ v6 s7 h8 ?_
  refine wm_iload_n C dX5_openCount_33 0 rfl (pc' := 34) rfl ?_
  obtain ⟨rfl, rfl⟩ := leaf_s hf
  exact wm_iret C dX5_openCount_34 (Nat.zero_le _) (Nat.zero_le _) FD.rf
def fX5_widthSum_L4 (nc : Nat) : Nat → Int32 → Int32 → MS → Option (Int32 × MS)
  | 0, _, _, _ => none
  | fu + 1, x1, x2, s => if (gI s 4) ≤ x2 then some (x1, s) else if ¬ (x2 < 0 ∨ 12 ≤ x2.toNatClampNeg) then if x2.toNatClampNeg < nc then if x2.toNatClampNeg < nc then fX5_widthSum_L4 nc fu (x1 + (gA s 8 x2.toNatClampNeg)) (x2 + 1) s else none else none else none
theorem fX5_widthSum_L4_s (nc : Nat) (fu : Nat) (x1 : Int32) (x2 : Int32) (s : MS) : fX5_widthSum_L4 nc (fu + 1) x1 x2 s = (if (gI s 4) ≤ x2 then some (x1, s) else if ¬ (x2 < 0 ∨ 12 ≤ x2.toNatClampNeg) then if x2.toNatClampNeg < nc then if x2.toNatClampNeg < nc then fX5_widthSum_L4 nc fu (x1 + (gA s 8 x2.toNatClampNeg)) (x2 + 1) s else none else none else none) := rfl
def fX5_widthSum (nc : Nat) (σ : MS) : Option (Int32 × MS) :=
  bnd (fX5_widthSum_L4 nc FU 0 0 σ) (fun v5 s6 => some (v5, s6))
theorem in5_X5_widthSum : In5 wsX5_widthSum := ⟨by decide +kernel, by decide +kernel, by decide +kernel, by decide +kernel, by decide +kernel⟩
theorem inX5_X5_widthSum : ∀ w ∈ wsX50, w ∈ wsX5_widthSum := by decide +kernel
set_option maxHeartbeats 4000000 in
set_option maxRecDepth 100000 in
theorem kX5_widthSum (l : Launch) (D : va_G) (τ : CId) (q : Nat → Nat) (nc : Nat) (σ : MS) (rE : Int32) (sE : MS) (hf : fX5_widthSum nc σ = some (rE, sE)) : Ct l D τ yX5_widthSum wsX5_widthSum { frames := 0, cells := 0, slots := 0, locals := 0 } [.ref (q 60)] (xW τ q nc σ) (FD (xW τ q nc sE) (some (.int rE))) := by
  unfold fX5_widthSum at hf
  refine ct_of (cc := cX5_widthSum) (maxL := 3) (ret := (some .int)) (by decide) rfl (Nat.le_of_ble_eq_true rfl) (fun Γ C => ?_)
  refine wm_lv (lv' := [(0, .ref (q 60))]) rfl ?_
  have wL_4 : ∀ (fu : Nat) (x1 : Int32) (x2 : Int32) (s : MS) (v : Int32) (s' : MS), fX5_widthSum_L4 nc fu x1 x2 s = some (v, s') → WM l D Γ 3 0 0 (xW τ q nc s') 30 [(1, .int v)] [] → WM l D Γ 3 0 0 (xW τ q nc s) 4 [(0, .ref (q 60)), (1, .int x1), (2, .int x2)] [] := by
    intro fu
    induction fu with
    | zero => intro x1 x2 s v s' hf hE; exact absurd hf (fun h => nomatch (show (none : Option _) = some _ from h))
    | succ fu ih =>
      intro x1 x2 s v s' hf hE
      rw [fX5_widthSum_L4_s] at hf
      refine wm_iload_n C dX5_widthSum_4 2 rfl (pc' := 5) rfl ?_
      refine wm_aload_n C dX5_widthSum_5 0 rfl (pc' := 6) rfl ?_
      refine x_get (v := .int (gI s 4)) C dX5_widthSum_6 inX5_X5_widthSum 1 (by omega) rfl rfl 4 (by decide) (by decide +kernel) (Or.inl rfl) rfl (pc' := 9) rfl ?_
      refine wm_icmp_ge C dX5_widthSum_9 30 (by decide) (pc' := 12) rfl (fun h1 => ?_) (fun h1 => ?_)
      · have hf := ite_t h1 hf
        obtain ⟨rfl, rfl⟩ := leaf_s hf
        refine wm_sub (lv' := [(1, .int x1)]) [1] rfl ?_
        exact hE
      · have hf := ite_f h1 hf
        refine wm_iload_n C dX5_widthSum_12 1 rfl (pc' := 13) rfl ?_
        refine wm_aload_n C dX5_widthSum_13 0 rfl (pc' := 14) rfl ?_
        refine x_get (v := .ref (q 66)) C dX5_widthSum_14 inX5_X5_widthSum 1 (by omega) rfl rfl 2 (by decide) (by decide +kernel) (Or.inl rfl) rfl (pc' := 17) rfl ?_
        refine wm_iload_n C dX5_widthSum_17 2 rfl (pc' := 18) rfl ?_
        obtain ⟨h2, hf⟩ := chk_s hf
        obtain ⟨h3, hf⟩ := chk_s hf
        refine wm_aald (f := refs q 200 nc) (N := 12) (cA := τ.2.2.2.2.1) (ty := .object "WideningCracks$Crack") C dX5_widthSum_18 10 4 (x_at (by omega) rfl) rfl rfl h2 (refs_at h3) (pc' := 19) rfl ?_
        obtain ⟨h4, hf⟩ := chk_s hf
        refine x_getC (ref := "WideningCracks$Crack") (v := .int (gA s 8 x2.toNatClampNeg)) C dX5_widthSum_19 in5_X5_widthSum h4 3 (by decide) (by decide +kernel) (Or.inl rfl) rfl (pc' := 22) rfl ?_
        refine wm_iadd C dX5_widthSum_22 (pc' := 23) rfl ?_
        refine wm_istore_n (lv' := [(1, .int (x1 + (gA s 8 x2.toNatClampNeg))), (0, .ref (q 60)), (2, .int x2)]) C dX5_widthSum_23 (by decide) rfl (pc' := 24) rfl ?_
        refine wm_iinc (v := x2 + 1) (lv' := [(2, .int (x2 + 1)), (1, .int (x1 + (gA s 8 x2.toNatClampNeg))), (0, .ref (q 60))]) C dX5_widthSum_24 2 rfl rfl (by decide) rfl (pc' := 27) rfl ?_
        refine wm_goto C dX5_widthSum_27 4 (by decide) ?_
        refine wm_sub (lv' := [(0, .ref (q 60)), (1, .int (x1 + (gA s 8 x2.toNatClampNeg))), (2, .int (x2 + 1))]) [2, 1, 0] rfl ?_
        exact ih (x1 + (gA s 8 x2.toNatClampNeg)) (x2 + 1) s _ _ hf hE
  refine wm_ikonst (v := 0) C dX5_widthSum_0 (by decide) (pc' := 1) rfl ?_
  refine wm_istore_n (lv' := [(1, .int 0), (0, .ref (q 60))]) C dX5_widthSum_1 (by decide) rfl (pc' := 2) rfl ?_
  refine wm_ikonst (v := 0) C dX5_widthSum_2 (by decide) (pc' := 3) rfl ?_
  refine wm_istore_n (lv' := [(2, .int 0), (1, .int 0), (0, .ref (q 60))]) C dX5_widthSum_3 (by decide) rfl (pc' := 4) rfl ?_
  refine wm_sub (lv' := [(0, .ref (q 60)), (1, .int 0), (2, .int 0)]) [2, 1, 0] rfl ?_
  obtain ⟨v5, s6, h7, hf⟩ := bnd_s hf
  refine wL_4 FU 0 0 σ v5 s6 h7 ?_
  refine wm_iload_n C dX5_widthSum_30 0 rfl (pc' := 31) rfl ?_
  obtain ⟨rfl, rfl⟩ := leaf_s hf
  exact wm_iret C dX5_widthSum_31 (Nat.zero_le _) (Nat.zero_le _) FD.rf
def fX5_heldOnes_J27 (nc : Nat) (rec : Int32 → Int32 → MS → Option (Int32 × MS)) (x1 : Int32) (x2 : Int32) (s : MS) : Option (Int32 × MS) :=
  rec x1 (x2 + 1) s
def fX5_heldOnes_L4 (nc : Nat) : Nat → Int32 → Int32 → MS → Option (Int32 × MS)
  | 0, _, _, _ => none
  | fu + 1, x1, x2, s => if (gI s 1) ≤ x2 then some (x1, s) else if ¬ (x2 < 0 ∨ 6 ≤ x2.toNatClampNeg) then if (gA s 2 x2.toNatClampNeg) = 0 then fX5_heldOnes_J27 nc (fX5_heldOnes_L4 nc fu) x1 x2 s else fX5_heldOnes_J27 nc (fX5_heldOnes_L4 nc fu) (x1 ||| (1 <<< (x2 &&& 31))) x2 s else none
theorem fX5_heldOnes_L4_s (nc : Nat) (fu : Nat) (x1 : Int32) (x2 : Int32) (s : MS) : fX5_heldOnes_L4 nc (fu + 1) x1 x2 s = (if (gI s 1) ≤ x2 then some (x1, s) else if ¬ (x2 < 0 ∨ 6 ≤ x2.toNatClampNeg) then if (gA s 2 x2.toNatClampNeg) = 0 then fX5_heldOnes_J27 nc (fX5_heldOnes_L4 nc fu) x1 x2 s else fX5_heldOnes_J27 nc (fX5_heldOnes_L4 nc fu) (x1 ||| (1 <<< (x2 &&& 31))) x2 s else none) := rfl
def fX5_heldOnes (nc : Nat) (σ : MS) : Option (Int32 × MS) :=
  bnd (fX5_heldOnes_L4 nc FU 0 0 σ) (fun v4 s5 => some (v4, s5))
theorem inX5_X5_heldOnes : ∀ w ∈ wsX50, w ∈ wsX5_heldOnes := by decide +kernel
set_option maxHeartbeats 4000000 in
set_option maxRecDepth 100000 in
theorem kX5_heldOnes (l : Launch) (D : va_G) (τ : CId) (q : Nat → Nat) (nc : Nat) (σ : MS) (rE : Int32) (sE : MS) (hf : fX5_heldOnes nc σ = some (rE, sE)) : Ct l D τ yX5_heldOnes wsX5_heldOnes { frames := 0, cells := 0, slots := 0, locals := 0 } [.ref (q 60)] (xW τ q nc σ) (FD (xW τ q nc sE) (some (.int rE))) := by
  unfold fX5_heldOnes at hf
  refine ct_of (cc := cX5_heldOnes) (maxL := 3) (ret := (some .int)) (by decide) rfl (Nat.le_of_ble_eq_true rfl) (fun Γ C => ?_)
  refine wm_lv (lv' := [(0, .ref (q 60))]) rfl ?_
  have wL_4 : ∀ (fu : Nat) (x1 : Int32) (x2 : Int32) (s : MS) (v : Int32) (s' : MS), fX5_heldOnes_L4 nc fu x1 x2 s = some (v, s') → WM l D Γ 3 0 0 (xW τ q nc s') 33 [(1, .int v)] [] → WM l D Γ 3 0 0 (xW τ q nc s) 4 [(0, .ref (q 60)), (1, .int x1), (2, .int x2)] [] := by
    intro fu
    induction fu with
    | zero => intro x1 x2 s v s' hf hE; exact absurd hf (fun h => nomatch (show (none : Option _) = some _ from h))
    | succ fu ih =>
      intro x1 x2 s v s' hf hE
      rw [fX5_heldOnes_L4_s] at hf
      have wJ_27 : ∀ (x1 : Int32) (x2 : Int32) (s : MS) (v : Int32) (s' : MS), fX5_heldOnes_J27 nc (fX5_heldOnes_L4 nc fu) x1 x2 s = some (v, s') → WM l D Γ 3 0 0 (xW τ q nc s') 33 [(1, .int v)] [] → WM l D Γ 3 0 0 (xW τ q nc s) 27 [(0, .ref (q 60)), (1, .int x1), (2, .int x2)] [] := by
        intro x1 x2 s v s' hf hE
        unfold fX5_heldOnes_J27 at hf
        refine wm_iinc (v := x2 + 1) (lv' := [(2, .int (x2 + 1)), (0, .ref (q 60)), (1, .int x1)]) C dX5_heldOnes_27 2 rfl rfl (by decide) rfl (pc' := 30) rfl ?_
        refine wm_goto C dX5_heldOnes_30 4 (by decide) ?_
        refine wm_sub (lv' := [(0, .ref (q 60)), (1, .int x1), (2, .int (x2 + 1))]) [1, 2, 0] rfl ?_
        exact ih x1 (x2 + 1) s _ _ hf hE
      refine wm_iload_n C dX5_heldOnes_4 2 rfl (pc' := 5) rfl ?_
      refine wm_aload_n C dX5_heldOnes_5 0 rfl (pc' := 6) rfl ?_
      refine x_get (v := .int (gI s 1)) C dX5_heldOnes_6 inX5_X5_heldOnes 1 (by omega) rfl rfl 3 (by decide) (by decide +kernel) (Or.inl rfl) rfl (pc' := 9) rfl ?_
      refine wm_icmp_ge C dX5_heldOnes_9 33 (by decide) (pc' := 12) rfl (fun h1 => ?_) (fun h1 => ?_)
      · have hf := ite_t h1 hf
        obtain ⟨rfl, rfl⟩ := leaf_s hf
        refine wm_sub (lv' := [(1, .int x1)]) [1] rfl ?_
        exact hE
      · have hf := ite_f h1 hf
        refine wm_aload_n C dX5_heldOnes_12 0 rfl (pc' := 13) rfl ?_
        refine x_get (v := .ref (q 2)) C dX5_heldOnes_13 inX5_X5_heldOnes 1 (by omega) rfl rfl 0 (by decide) (by decide +kernel) (Or.inl rfl) rfl (pc' := 16) rfl ?_
        refine wm_iload_n C dX5_heldOnes_16 2 rfl (pc' := 17) rfl ?_
        obtain ⟨h2, hf⟩ := chk_s hf
        refine wm_zald (f := gA s 2) (N := 6) (cA := τ.2.2.1) C dX5_heldOnes_17 8 (x_at (by omega) rfl) rfl h2 (pc' := 18) rfl ?_
        refine wm_if_eq C dX5_heldOnes_18 27 (by decide) (pc' := 21) rfl (fun h3 => ?_) (fun h3 => ?_)
        · have hf := ite_t h3 hf
          exact wJ_27 x1 x2 s _ _ hf hE
        · have hf := ite_f h3 hf
          refine wm_iload_n C dX5_heldOnes_21 1 rfl (pc' := 22) rfl ?_
          refine wm_ikonst (v := 1) C dX5_heldOnes_22 (by decide) (pc' := 23) rfl ?_
          refine wm_iload_n C dX5_heldOnes_23 2 rfl (pc' := 24) rfl ?_
          refine wm_ishl C dX5_heldOnes_24 (pc' := 25) rfl ?_
          refine wm_ior C dX5_heldOnes_25 (pc' := 26) rfl ?_
          refine wm_istore_n (lv' := [(1, .int (x1 ||| (1 <<< (x2 &&& 31)))), (0, .ref (q 60)), (2, .int x2)]) C dX5_heldOnes_26 (by decide) rfl (pc' := 27) rfl ?_
          refine wm_sub (lv' := [(0, .ref (q 60)), (1, .int (x1 ||| (1 <<< (x2 &&& 31)))), (2, .int x2)]) [1, 0, 2] rfl ?_
          exact wJ_27 (x1 ||| (1 <<< (x2 &&& 31))) x2 s _ _ hf hE
  refine wm_ikonst (v := 0) C dX5_heldOnes_0 (by decide) (pc' := 1) rfl ?_
  refine wm_istore_n (lv' := [(1, .int 0), (0, .ref (q 60))]) C dX5_heldOnes_1 (by decide) rfl (pc' := 2) rfl ?_
  refine wm_ikonst (v := 0) C dX5_heldOnes_2 (by decide) (pc' := 3) rfl ?_
  refine wm_istore_n (lv' := [(2, .int 0), (1, .int 0), (0, .ref (q 60))]) C dX5_heldOnes_3 (by decide) rfl (pc' := 4) rfl ?_
  refine wm_sub (lv' := [(0, .ref (q 60)), (1, .int 0), (2, .int 0)]) [2, 1, 0] rfl ?_
  obtain ⟨v4, s5, h6, hf⟩ := bnd_s hf
  refine wL_4 FU 0 0 σ v4 s5 h6 ?_
  refine wm_iload_n C dX5_heldOnes_33 0 rfl (pc' := 34) rfl ?_
  obtain ⟨rfl, rfl⟩ := leaf_s hf
  exact wm_iret C dX5_heldOnes_34 (Nat.zero_le _) (Nat.zero_le _) FD.rf
def fX5_heldMost_J72 (nc : Nat) (rec : Int32 → Int32 → Int32 → MS → Option (Int32 × MS)) (x1 : Int32) (x2 : Int32) (x3 : Int32) (x4 : Int32) (s : MS) : Option (Int32 × MS) :=
  rec x2 x3 (x4 + 1) s
def fX5_heldMost_J49 (nc : Nat) (rec : Int32 → Int32 → Int32 → MS → Option (Int32 × MS)) (x1 : Int32) (x2 : Int32) (x3 : Int32) (x4 : Int32) (x5 : Int32) (s : MS) : Option (Int32 × MS) :=
  if ¬ (x4 < 0 ∨ 6 ≤ x4.toNatClampNeg) then if (gA s 2 x4.toNatClampNeg) = 0 then fX5_heldMost_J72 nc (rec) x1 x2 x3 x4 s else if ¬ x5 = x2 then fX5_heldMost_J72 nc (rec) x1 x2 x3 x4 s else fX5_heldMost_J72 nc (rec) x1 x2 (x3 ||| (1 <<< (x4 &&& 31))) x4 s else none
def fX5_heldMost_L8 (nc : Nat) (x1 : Int32) : Nat → Int32 → Int32 → Int32 → MS → Option (Int32 × MS)
  | 0, _, _, _, _ => none
  | fu + 1, x2, x3, x4, s => if (gI s 1) ≤ x4 then some (x3, s) else if ¬ (x4 < 0 ∨ 6 ≤ x4.toNatClampNeg) then if ¬ (x4 < 0 ∨ 6 ≤ x4.toNatClampNeg) then if (gA s 2 x4.toNatClampNeg) = 0 then fX5_heldMost_J49 nc (fX5_heldMost_L8 nc x1 fu) x1 x2 x3 x4 (x1 * (gA s 3 x4.toNatClampNeg)) s else if (x1 * (gA s 3 x4.toNatClampNeg)) ≤ x2 then fX5_heldMost_J49 nc (fX5_heldMost_L8 nc x1 fu) x1 x2 x3 x4 (x1 * (gA s 3 x4.toNatClampNeg)) s else fX5_heldMost_J49 nc (fX5_heldMost_L8 nc x1 fu) x1 (x1 * (gA s 3 x4.toNatClampNeg)) 0 x4 (x1 * (gA s 3 x4.toNatClampNeg)) s else none else none
theorem fX5_heldMost_L8_s (nc : Nat) (x1 : Int32) (fu : Nat) (x2 : Int32) (x3 : Int32) (x4 : Int32) (s : MS) : fX5_heldMost_L8 nc x1 (fu + 1) x2 x3 x4 s = (if (gI s 1) ≤ x4 then some (x3, s) else if ¬ (x4 < 0 ∨ 6 ≤ x4.toNatClampNeg) then if ¬ (x4 < 0 ∨ 6 ≤ x4.toNatClampNeg) then if (gA s 2 x4.toNatClampNeg) = 0 then fX5_heldMost_J49 nc (fX5_heldMost_L8 nc x1 fu) x1 x2 x3 x4 (x1 * (gA s 3 x4.toNatClampNeg)) s else if (x1 * (gA s 3 x4.toNatClampNeg)) ≤ x2 then fX5_heldMost_J49 nc (fX5_heldMost_L8 nc x1 fu) x1 x2 x3 x4 (x1 * (gA s 3 x4.toNatClampNeg)) s else fX5_heldMost_J49 nc (fX5_heldMost_L8 nc x1 fu) x1 (x1 * (gA s 3 x4.toNatClampNeg)) 0 x4 (x1 * (gA s 3 x4.toNatClampNeg)) s else none else none) := rfl
def fX5_heldMost (nc : Nat) (x1 : Int32) (σ : MS) : Option (Int32 × MS) :=
  bnd (fX5_heldMost_L8 nc x1 FU (-101) 0 0 σ) (fun v9 s10 => some (v9, s10))
theorem inX5_X5_heldMost : ∀ w ∈ wsX50, w ∈ wsX5_heldMost := by decide +kernel
set_option maxHeartbeats 4000000 in
set_option maxRecDepth 100000 in
theorem kX5_heldMost (l : Launch) (D : va_G) (τ : CId) (q : Nat → Nat) (nc : Nat) (σ : MS) (x1 : Int32) (rE : Int32) (sE : MS) (hf : fX5_heldMost nc x1 σ = some (rE, sE)) : Ct l D τ yX5_heldMost wsX5_heldMost { frames := 0, cells := 0, slots := 0, locals := 0 } [.ref (q 60), .int x1] (xW τ q nc σ) (FD (xW τ q nc sE) (some (.int rE))) := by
  unfold fX5_heldMost at hf
  refine ct_of (cc := cX5_heldMost) (maxL := 6) (ret := (some .int)) (by decide) rfl (Nat.le_of_ble_eq_true rfl) (fun Γ C => ?_)
  refine wm_lv (lv' := [(0, .ref (q 60)), (1, .int x1)]) rfl ?_
  have wL_8 : ∀ (x1 : Int32) (fu : Nat) (x2 : Int32) (x3 : Int32) (x4 : Int32) (s : MS) (v : Int32) (s' : MS), fX5_heldMost_L8 nc x1 fu x2 x3 x4 s = some (v, s') → WM l D Γ 6 0 0 (xW τ q nc s') 78 [(3, .int v)] [] → WM l D Γ 6 0 0 (xW τ q nc s) 8 [(0, .ref (q 60)), (1, .int x1), (2, .int x2), (3, .int x3), (4, .int x4)] [] := by
    intro x1
    intro fu
    induction fu with
    | zero => intro x2 x3 x4 s v s' hf hE; exact absurd hf (fun h => nomatch (show (none : Option _) = some _ from h))
    | succ fu ih =>
      intro x2 x3 x4 s v s' hf hE
      rw [fX5_heldMost_L8_s] at hf
      have wJ_72 : ∀ (x2 : Int32) (x3 : Int32) (x4 : Int32) (s : MS) (v : Int32) (s' : MS), fX5_heldMost_J72 nc (fX5_heldMost_L8 nc x1 fu) x1 x2 x3 x4 s = some (v, s') → WM l D Γ 6 0 0 (xW τ q nc s') 78 [(3, .int v)] [] → WM l D Γ 6 0 0 (xW τ q nc s) 72 [(0, .ref (q 60)), (1, .int x1), (2, .int x2), (3, .int x3), (4, .int x4)] [] := by
        intro x2 x3 x4 s v s' hf hE
        unfold fX5_heldMost_J72 at hf
        refine wm_iinc (v := x4 + 1) (lv' := [(4, .int (x4 + 1)), (0, .ref (q 60)), (1, .int x1), (2, .int x2), (3, .int x3)]) C dX5_heldMost_72 4 rfl rfl (by decide) rfl (pc' := 75) rfl ?_
        refine wm_goto C dX5_heldMost_75 8 (by decide) ?_
        refine wm_sub (lv' := [(0, .ref (q 60)), (1, .int x1), (2, .int x2), (3, .int x3), (4, .int (x4 + 1))]) [1, 2, 3, 4, 0] rfl ?_
        exact ih x2 x3 (x4 + 1) s _ _ hf hE
      have wJ_49 : ∀ (x2 : Int32) (x3 : Int32) (x4 : Int32) (x5 : Int32) (s : MS) (v : Int32) (s' : MS), fX5_heldMost_J49 nc (fX5_heldMost_L8 nc x1 fu) x1 x2 x3 x4 x5 s = some (v, s') → WM l D Γ 6 0 0 (xW τ q nc s') 78 [(3, .int v)] [] → WM l D Γ 6 0 0 (xW τ q nc s) 49 [(0, .ref (q 60)), (1, .int x1), (2, .int x2), (3, .int x3), (4, .int x4), (5, .int x5)] [] := by
        intro x2 x3 x4 x5 s v s' hf hE
        unfold fX5_heldMost_J49 at hf
        refine wm_aload_n C dX5_heldMost_49 0 rfl (pc' := 50) rfl ?_
        refine x_get (v := .ref (q 2)) C dX5_heldMost_50 inX5_X5_heldMost 1 (by omega) rfl rfl 0 (by decide) (by decide +kernel) (Or.inl rfl) rfl (pc' := 53) rfl ?_
        refine wm_iload C dX5_heldMost_53 4 rfl (pc' := 55) rfl ?_
        obtain ⟨h5, hf⟩ := chk_s hf
        refine wm_zald (f := gA s 2) (N := 6) (cA := τ.2.2.1) C dX5_heldMost_55 8 (x_at (by omega) rfl) rfl h5 (pc' := 56) rfl ?_
        refine wm_if_eq C dX5_heldMost_56 72 (by decide) (pc' := 59) rfl (fun h6 => ?_) (fun h6 => ?_)
        · have hf := ite_t h6 hf
          refine wm_sub (lv' := [(0, .ref (q 60)), (1, .int x1), (2, .int x2), (3, .int x3), (4, .int x4)]) [0, 1, 2, 3, 4] rfl ?_
          exact wJ_72 x2 x3 x4 s _ _ hf hE
        · have hf := ite_f h6 hf
          refine wm_iload C dX5_heldMost_59 5 rfl (pc' := 61) rfl ?_
          refine wm_iload_n C dX5_heldMost_61 2 rfl (pc' := 62) rfl ?_
          refine wm_icmp_ne C dX5_heldMost_62 72 (by decide) (pc' := 65) rfl (fun h7 => ?_) (fun h7 => ?_)
          · have hf := ite_t h7 hf
            refine wm_sub (lv' := [(0, .ref (q 60)), (1, .int x1), (2, .int x2), (3, .int x3), (4, .int x4)]) [0, 1, 2, 3, 4] rfl ?_
            exact wJ_72 x2 x3 x4 s _ _ hf hE
          · have hf := ite_f (fun h => h h7) hf
            refine wm_iload_n C dX5_heldMost_65 3 rfl (pc' := 66) rfl ?_
            refine wm_ikonst (v := 1) C dX5_heldMost_66 (by decide) (pc' := 67) rfl ?_
            refine wm_iload C dX5_heldMost_67 4 rfl (pc' := 69) rfl ?_
            refine wm_ishl C dX5_heldMost_69 (pc' := 70) rfl ?_
            refine wm_ior C dX5_heldMost_70 (pc' := 71) rfl ?_
            refine wm_istore_n (lv' := [(3, .int (x3 ||| (1 <<< (x4 &&& 31)))), (0, .ref (q 60)), (1, .int x1), (2, .int x2), (4, .int x4), (5, .int x5)]) C dX5_heldMost_71 (by decide) rfl (pc' := 72) rfl ?_
            refine wm_sub (lv' := [(0, .ref (q 60)), (1, .int x1), (2, .int x2), (3, .int (x3 ||| (1 <<< (x4 &&& 31)))), (4, .int x4)]) [1, 2, 3, 0, 4] rfl ?_
            exact wJ_72 x2 (x3 ||| (1 <<< (x4 &&& 31))) x4 s _ _ hf hE
      refine wm_iload C dX5_heldMost_8 4 rfl (pc' := 10) rfl ?_
      refine wm_aload_n C dX5_heldMost_10 0 rfl (pc' := 11) rfl ?_
      refine x_get (v := .int (gI s 1)) C dX5_heldMost_11 inX5_X5_heldMost 1 (by omega) rfl rfl 3 (by decide) (by decide +kernel) (Or.inl rfl) rfl (pc' := 14) rfl ?_
      refine wm_icmp_ge C dX5_heldMost_14 78 (by decide) (pc' := 17) rfl (fun h1 => ?_) (fun h1 => ?_)
      · have hf := ite_t h1 hf
        obtain ⟨rfl, rfl⟩ := leaf_s hf
        refine wm_sub (lv' := [(3, .int x3)]) [3] rfl ?_
        exact hE
      · have hf := ite_f h1 hf
        refine wm_iload_n C dX5_heldMost_17 1 rfl (pc' := 18) rfl ?_
        refine wm_aload_n C dX5_heldMost_18 0 rfl (pc' := 19) rfl ?_
        refine x_get (v := .ref (q 3)) C dX5_heldMost_19 inX5_X5_heldMost 1 (by omega) rfl rfl 1 (by decide) (by decide +kernel) (Or.inl rfl) rfl (pc' := 22) rfl ?_
        refine wm_iload C dX5_heldMost_22 4 rfl (pc' := 24) rfl ?_
        obtain ⟨h2, hf⟩ := chk_s hf
        refine wm_iald (f := gA s 3) (N := 6) (cA := τ.1) C dX5_heldMost_24 9 (x_at (by omega) rfl) rfl h2 (pc' := 25) rfl ?_
        refine wm_imul C dX5_heldMost_25 (pc' := 26) rfl ?_
        refine wm_istore (lv' := [(5, .int (x1 * (gA s 3 x4.toNatClampNeg))), (0, .ref (q 60)), (1, .int x1), (2, .int x2), (3, .int x3), (4, .int x4)]) C dX5_heldMost_26 (by decide) rfl (pc' := 28) rfl ?_
        refine wm_aload_n C dX5_heldMost_28 1 rfl (pc' := 29) rfl ?_
        refine x_get (v := .ref (q 2)) C dX5_heldMost_29 inX5_X5_heldMost 1 (by omega) rfl rfl 0 (by decide) (by decide +kernel) (Or.inl rfl) rfl (pc' := 32) rfl ?_
        refine wm_iload C dX5_heldMost_32 5 rfl (pc' := 34) rfl ?_
        obtain ⟨h3, hf⟩ := chk_s hf
        refine wm_zald (f := gA s 2) (N := 6) (cA := τ.2.2.1) C dX5_heldMost_34 8 (x_at (by omega) rfl) rfl h3 (pc' := 35) rfl ?_
        refine wm_if_eq C dX5_heldMost_35 49 (by decide) (pc' := 38) rfl (fun h4 => ?_) (fun h4 => ?_)
        · have hf := ite_t h4 hf
          refine wm_sub (lv' := [(0, .ref (q 60)), (1, .int x1), (2, .int x2), (3, .int x3), (4, .int x4), (5, .int (x1 * (gA s 3 x4.toNatClampNeg)))]) [1, 2, 3, 4, 5, 0] rfl ?_
          exact wJ_49 x2 x3 x4 (x1 * (gA s 3 x4.toNatClampNeg)) s _ _ hf hE
        · have hf := ite_f h4 hf
          refine wm_iload C dX5_heldMost_38 0 rfl (pc' := 40) rfl ?_
          refine wm_iload_n C dX5_heldMost_40 3 rfl (pc' := 41) rfl ?_
          refine wm_icmp_le C dX5_heldMost_41 49 (by decide) (pc' := 44) rfl (fun h8 => ?_) (fun h8 => ?_)
          · have hf := ite_t h8 hf
            refine wm_sub (lv' := [(0, .ref (q 60)), (1, .int x1), (2, .int x2), (3, .int x3), (4, .int x4), (5, .int (x1 * (gA s 3 x4.toNatClampNeg)))]) [1, 2, 3, 4, 5, 0] rfl ?_
            exact wJ_49 x2 x3 x4 (x1 * (gA s 3 x4.toNatClampNeg)) s _ _ hf hE
          · have hf := ite_f h8 hf
            refine wm_iload C dX5_heldMost_44 0 rfl (pc' := 46) rfl ?_
            refine wm_istore_n (lv' := [(2, .int (x1 * (gA s 3 x4.toNatClampNeg))), (5, .int (x1 * (gA s 3 x4.toNatClampNeg))), (0, .ref (q 60)), (1, .int x1), (3, .int x3), (4, .int x4)]) C dX5_heldMost_46 (by decide) rfl (pc' := 47) rfl ?_
            refine wm_ikonst (v := 0) C dX5_heldMost_47 (by decide) (pc' := 48) rfl ?_
            refine wm_istore_n (lv' := [(3, .int 0), (2, .int (x1 * (gA s 3 x4.toNatClampNeg))), (5, .int (x1 * (gA s 3 x4.toNatClampNeg))), (0, .ref (q 60)), (1, .int x1), (4, .int x4)]) C dX5_heldMost_48 (by decide) rfl (pc' := 49) rfl ?_
            refine wm_sub (lv' := [(0, .ref (q 60)), (1, .int x1), (2, .int (x1 * (gA s 3 x4.toNatClampNeg))), (3, .int 0), (4, .int x4), (5, .int (x1 * (gA s 3 x4.toNatClampNeg)))]) [3, 4, 1, 0, 5, 2] rfl ?_
            exact wJ_49 (x1 * (gA s 3 x4.toNatClampNeg)) 0 x4 (x1 * (gA s 3 x4.toNatClampNeg)) s _ _ hf hE
  refine wm_bipush (v := (-101)) C dX5_heldMost_0 (by decide) (pc' := 2) rfl ?_
  refine wm_istore_n (lv' := [(2, .int (-101)), (0, .ref (q 60)), (1, .int x1)]) C dX5_heldMost_2 (by decide) rfl (pc' := 3) rfl ?_
  refine wm_ikonst (v := 0) C dX5_heldMost_3 (by decide) (pc' := 4) rfl ?_
  refine wm_istore_n (lv' := [(3, .int 0), (2, .int (-101)), (0, .ref (q 60)), (1, .int x1)]) C dX5_heldMost_4 (by decide) rfl (pc' := 5) rfl ?_
  refine wm_ikonst (v := 0) C dX5_heldMost_5 (by decide) (pc' := 6) rfl ?_
  refine wm_istore (lv' := [(4, .int 0), (3, .int 0), (2, .int (-101)), (0, .ref (q 60)), (1, .int x1)]) C dX5_heldMost_6 (by decide) rfl (pc' := 8) rfl ?_
  refine wm_sub (lv' := [(0, .ref (q 60)), (1, .int x1), (2, .int (-101)), (3, .int 0), (4, .int 0)]) [3, 4, 2, 1, 0] rfl ?_
  obtain ⟨v9, s10, h11, hf⟩ := bnd_s hf
  refine wL_8 x1 FU (-101) 0 0 σ v9 s10 h11 ?_
  refine wm_iload_n C dX5_heldMost_78 0 rfl (pc' := 79) rfl ?_
  obtain ⟨rfl, rfl⟩ := leaf_s hf
  exact wm_iret C dX5_heldMost_79 (Nat.zero_le _) (Nat.zero_le _) FD.rf
def fX5_reachedFrom_J84 (nc : Nat) (rec : Int32 → Int32 → MS → Option (Int32 × MS)) (x1 : Int32) (x2 : Int32) (x4 : Int32) (x5 : Int32) (x6 : Int32) (s : MS) : Option (Int32 × MS) :=
  rec x1 (x6 + 1) s
def fX5_reachedFrom_L22 (nc : Nat) (x2 : Int32) (x4 : Int32) (x5 : Int32) : Nat → Int32 → Int32 → MS → Option (Int32 × MS)
  | 0, _, _, _ => none
  | fu + 1, x1, x6, s => if (gI s 4) ≤ x6 then some (x1, s) else if ¬ (x6 < 0 ∨ 12 ≤ x6.toNatClampNeg) then if x6.toNatClampNeg < nc then if x6.toNatClampNeg < nc then if ¬ (x6 < 0 ∨ 12 ≤ x6.toNatClampNeg) then if x6.toNatClampNeg < nc then if x6.toNatClampNeg < nc then if ¬ (x6 < 0 ∨ 12 ≤ x6.toNatClampNeg) then if x6.toNatClampNeg < nc then if x6.toNatClampNeg < nc then if (gA s 8 x6.toNatClampNeg) < x2 then fX5_reachedFrom_J84 nc (fX5_reachedFrom_L22 nc x2 x4 x5 fu) x1 x2 x4 x5 x6 s else if (x1 &&& ((1 <<< ((gA s 5 x6.toNatClampNeg) &&& 31)) ||| (1 <<< ((gA s 6 x6.toNatClampNeg) &&& 31)))) = 0 then fX5_reachedFrom_J84 nc (fX5_reachedFrom_L22 nc x2 x4 x5 fu) x1 x2 x4 x5 x6 s else fX5_reachedFrom_J84 nc (fX5_reachedFrom_L22 nc x2 x4 x5 fu) (x1 ||| ((1 <<< ((gA s 5 x6.toNatClampNeg) &&& 31)) ||| (1 <<< ((gA s 6 x6.toNatClampNeg) &&& 31)))) x2 x4 x5 x6 s else none else none else none else none else none else none else none else none else none
theorem fX5_reachedFrom_L22_s (nc : Nat) (x2 : Int32) (x4 : Int32) (x5 : Int32) (fu : Nat) (x1 : Int32) (x6 : Int32) (s : MS) : fX5_reachedFrom_L22 nc x2 x4 x5 (fu + 1) x1 x6 s = (if (gI s 4) ≤ x6 then some (x1, s) else if ¬ (x6 < 0 ∨ 12 ≤ x6.toNatClampNeg) then if x6.toNatClampNeg < nc then if x6.toNatClampNeg < nc then if ¬ (x6 < 0 ∨ 12 ≤ x6.toNatClampNeg) then if x6.toNatClampNeg < nc then if x6.toNatClampNeg < nc then if ¬ (x6 < 0 ∨ 12 ≤ x6.toNatClampNeg) then if x6.toNatClampNeg < nc then if x6.toNatClampNeg < nc then if (gA s 8 x6.toNatClampNeg) < x2 then fX5_reachedFrom_J84 nc (fX5_reachedFrom_L22 nc x2 x4 x5 fu) x1 x2 x4 x5 x6 s else if (x1 &&& ((1 <<< ((gA s 5 x6.toNatClampNeg) &&& 31)) ||| (1 <<< ((gA s 6 x6.toNatClampNeg) &&& 31)))) = 0 then fX5_reachedFrom_J84 nc (fX5_reachedFrom_L22 nc x2 x4 x5 fu) x1 x2 x4 x5 x6 s else fX5_reachedFrom_J84 nc (fX5_reachedFrom_L22 nc x2 x4 x5 fu) (x1 ||| ((1 <<< ((gA s 5 x6.toNatClampNeg) &&& 31)) ||| (1 <<< ((gA s 6 x6.toNatClampNeg) &&& 31)))) x2 x4 x5 x6 s else none else none else none else none else none else none else none else none else none) := rfl
def fX5_reachedFrom_J101 (nc : Nat) (rec : Int32 → Int32 → Int32 → MS → Option (Int32 × MS)) (x1 : Int32) (x2 : Int32) (x4 : Int32) (t0 : Int32) (s : MS) : Option (Int32 × MS) :=
  rec x1 t0 (x4 + 1) s
def fX5_reachedFrom_L5 (nc : Nat) (x2 : Int32) : Nat → Int32 → Int32 → Int32 → MS → Option (Int32 × MS)
  | 0, _, _, _, _ => none
  | fu + 1, x1, x3, x4, s => if x3 = 0 then some (x1, s) else if 6 ≤ x4 then some (x1, s) else bnd (fX5_reachedFrom_L22 nc x2 x4 x1 FU x1 0 s) (fun v15 s16 => if v15 = x1 then fX5_reachedFrom_J101 nc (fX5_reachedFrom_L5 nc x2 fu) v15 x2 x4 0 s16 else fX5_reachedFrom_J101 nc (fX5_reachedFrom_L5 nc x2 fu) v15 x2 x4 1 s16)
theorem fX5_reachedFrom_L5_s (nc : Nat) (x2 : Int32) (fu : Nat) (x1 : Int32) (x3 : Int32) (x4 : Int32) (s : MS) : fX5_reachedFrom_L5 nc x2 (fu + 1) x1 x3 x4 s = (if x3 = 0 then some (x1, s) else if 6 ≤ x4 then some (x1, s) else bnd (fX5_reachedFrom_L22 nc x2 x4 x1 FU x1 0 s) (fun v15 s16 => if v15 = x1 then fX5_reachedFrom_J101 nc (fX5_reachedFrom_L5 nc x2 fu) v15 x2 x4 0 s16 else fX5_reachedFrom_J101 nc (fX5_reachedFrom_L5 nc x2 fu) v15 x2 x4 1 s16)) := rfl
def fX5_reachedFrom (nc : Nat) (x1 : Int32) (x2 : Int32) (σ : MS) : Option (Int32 × MS) :=
  bnd (fX5_reachedFrom_L5 nc x2 FU x1 1 0 σ) (fun v19 s20 => some (v19, s20))
theorem in5_X5_reachedFrom : In5 wsX5_reachedFrom := ⟨by decide +kernel, by decide +kernel, by decide +kernel, by decide +kernel, by decide +kernel⟩
theorem inX5_X5_reachedFrom : ∀ w ∈ wsX50, w ∈ wsX5_reachedFrom := by decide +kernel
set_option maxHeartbeats 4000000 in
set_option maxRecDepth 100000 in
theorem kX5_reachedFrom (l : Launch) (D : va_G) (τ : CId) (q : Nat → Nat) (nc : Nat) (σ : MS) (x1 : Int32) (x2 : Int32) (rE : Int32) (sE : MS) (hf : fX5_reachedFrom nc x1 x2 σ = some (rE, sE)) : Ct l D τ yX5_reachedFrom wsX5_reachedFrom { frames := 0, cells := 0, slots := 0, locals := 0 } [.ref (q 60), .int x1, .int x2] (xW τ q nc σ) (FD (xW τ q nc sE) (some (.int rE))) := by
  unfold fX5_reachedFrom at hf
  refine ct_of (cc := cX5_reachedFrom) (maxL := 8) (ret := (some .int)) (by decide) rfl (Nat.le_of_ble_eq_true rfl) (fun Γ C => ?_)
  refine wm_lv (lv' := [(0, .ref (q 60)), (1, .int x1), (2, .int x2)]) rfl ?_
  have wL_22 : ∀ (x2 : Int32) (x4 : Int32) (x5 : Int32) (fu : Nat) (x1 : Int32) (x6 : Int32) (s : MS) (v : Int32) (s' : MS), fX5_reachedFrom_L22 nc x2 x4 x5 fu x1 x6 s = some (v, s') → WM l D Γ 8 0 0 (xW τ q nc s') 90 [(0, .ref (q 60)), (1, .int v), (2, .int x2), (4, .int x4), (5, .int x5)] [] → WM l D Γ 8 0 0 (xW τ q nc s) 22 [(0, .ref (q 60)), (1, .int x1), (2, .int x2), (4, .int x4), (5, .int x5), (6, .int x6)] [] := by
    intro x2 x4 x5
    intro fu
    induction fu with
    | zero => intro x1 x6 s v s' hf hE; exact absurd hf (fun h => nomatch (show (none : Option _) = some _ from h))
    | succ fu ih =>
      intro x1 x6 s v s' hf hE
      rw [fX5_reachedFrom_L22_s] at hf
      have wJ_84 : ∀ (x1 : Int32) (x6 : Int32) (s : MS) (v : Int32) (s' : MS), fX5_reachedFrom_J84 nc (fX5_reachedFrom_L22 nc x2 x4 x5 fu) x1 x2 x4 x5 x6 s = some (v, s') → WM l D Γ 8 0 0 (xW τ q nc s') 90 [(0, .ref (q 60)), (1, .int v), (2, .int x2), (4, .int x4), (5, .int x5)] [] → WM l D Γ 8 0 0 (xW τ q nc s) 84 [(0, .ref (q 60)), (1, .int x1), (2, .int x2), (4, .int x4), (5, .int x5), (6, .int x6)] [] := by
        intro x1 x6 s v s' hf hE
        unfold fX5_reachedFrom_J84 at hf
        refine wm_iinc (v := x6 + 1) (lv' := [(6, .int (x6 + 1)), (0, .ref (q 60)), (1, .int x1), (2, .int x2), (4, .int x4), (5, .int x5)]) C dX5_reachedFrom_84 5 rfl rfl (by decide) rfl (pc' := 87) rfl ?_
        refine wm_goto C dX5_reachedFrom_87 22 (by decide) ?_
        refine wm_sub (lv' := [(0, .ref (q 60)), (1, .int x1), (2, .int x2), (4, .int x4), (5, .int x5), (6, .int (x6 + 1))]) [1, 2, 3, 4, 5, 0] rfl ?_
        exact ih x1 (x6 + 1) s _ _ hf hE
      refine wm_iload C dX5_reachedFrom_22 5 rfl (pc' := 24) rfl ?_
      refine wm_aload_n C dX5_reachedFrom_24 0 rfl (pc' := 25) rfl ?_
      refine x_get (v := .int (gI s 4)) C dX5_reachedFrom_25 inX5_X5_reachedFrom 1 (by omega) rfl rfl 4 (by decide) (by decide +kernel) (Or.inl rfl) rfl (pc' := 28) rfl ?_
      refine wm_icmp_ge C dX5_reachedFrom_28 90 (by decide) (pc' := 31) rfl (fun h3 => ?_) (fun h3 => ?_)
      · have hf := ite_t h3 hf
        obtain ⟨rfl, rfl⟩ := leaf_s hf
        refine wm_sub (lv' := [(0, .ref (q 60)), (1, .int x1), (2, .int x2), (4, .int x4), (5, .int x5)]) [0, 1, 2, 3, 4] rfl ?_
        exact hE
      · have hf := ite_f h3 hf
        refine wm_ikonst (v := 1) C dX5_reachedFrom_31 (by decide) (pc' := 32) rfl ?_
        refine wm_aload_n C dX5_reachedFrom_32 0 rfl (pc' := 33) rfl ?_
        refine x_get (v := .ref (q 66)) C dX5_reachedFrom_33 inX5_X5_reachedFrom 1 (by omega) rfl rfl 2 (by decide) (by decide +kernel) (Or.inl rfl) rfl (pc' := 36) rfl ?_
        refine wm_iload C dX5_reachedFrom_36 5 rfl (pc' := 38) rfl ?_
        obtain ⟨h4, hf⟩ := chk_s hf
        obtain ⟨h5, hf⟩ := chk_s hf
        refine wm_aald (f := refs q 200 nc) (N := 12) (cA := τ.2.2.2.2.1) (ty := .object "WideningCracks$Crack") C dX5_reachedFrom_38 10 4 (x_at (by omega) rfl) rfl rfl h4 (refs_at h5) (pc' := 39) rfl ?_
        obtain ⟨h6, hf⟩ := chk_s hf
        refine x_getC (ref := "WideningCracks$Crack") (v := .int (gA s 5 x6.toNatClampNeg)) C dX5_reachedFrom_39 in5_X5_reachedFrom h6 0 (by decide) (by decide +kernel) (Or.inl rfl) rfl (pc' := 42) rfl ?_
        refine wm_ishl C dX5_reachedFrom_42 (pc' := 43) rfl ?_
        refine wm_ikonst (v := 1) C dX5_reachedFrom_43 (by decide) (pc' := 44) rfl ?_
        refine wm_aload_n C dX5_reachedFrom_44 0 rfl (pc' := 45) rfl ?_
        refine x_get (v := .ref (q 66)) C dX5_reachedFrom_45 inX5_X5_reachedFrom 1 (by omega) rfl rfl 2 (by decide) (by decide +kernel) (Or.inl rfl) rfl (pc' := 48) rfl ?_
        refine wm_iload C dX5_reachedFrom_48 5 rfl (pc' := 50) rfl ?_
        obtain ⟨h7, hf⟩ := chk_s hf
        obtain ⟨h8, hf⟩ := chk_s hf
        refine wm_aald (f := refs q 200 nc) (N := 12) (cA := τ.2.2.2.2.1) (ty := .object "WideningCracks$Crack") C dX5_reachedFrom_50 10 4 (x_at (by omega) rfl) rfl rfl h7 (refs_at h8) (pc' := 51) rfl ?_
        obtain ⟨h9, hf⟩ := chk_s hf
        refine x_getC (ref := "WideningCracks$Crack") (v := .int (gA s 6 x6.toNatClampNeg)) C dX5_reachedFrom_51 in5_X5_reachedFrom h9 1 (by decide) (by decide +kernel) (Or.inl rfl) rfl (pc' := 54) rfl ?_
        refine wm_ishl C dX5_reachedFrom_54 (pc' := 55) rfl ?_
        refine wm_ior C dX5_reachedFrom_55 (pc' := 56) rfl ?_
        refine wm_istore (lv' := [(7, .int ((1 <<< ((gA s 5 x6.toNatClampNeg) &&& 31)) ||| (1 <<< ((gA s 6 x6.toNatClampNeg) &&& 31)))), (0, .ref (q 60)), (1, .int x1), (2, .int x2), (4, .int x4), (5, .int x5), (6, .int x6)]) C dX5_reachedFrom_56 (by decide) rfl (pc' := 58) rfl ?_
        refine wm_aload_n C dX5_reachedFrom_58 1 rfl (pc' := 59) rfl ?_
        refine x_get (v := .ref (q 66)) C dX5_reachedFrom_59 inX5_X5_reachedFrom 1 (by omega) rfl rfl 2 (by decide) (by decide +kernel) (Or.inl rfl) rfl (pc' := 62) rfl ?_
        refine wm_iload C dX5_reachedFrom_62 6 rfl (pc' := 64) rfl ?_
        obtain ⟨h10, hf⟩ := chk_s hf
        obtain ⟨h11, hf⟩ := chk_s hf
        refine wm_aald (f := refs q 200 nc) (N := 12) (cA := τ.2.2.2.2.1) (ty := .object "WideningCracks$Crack") C dX5_reachedFrom_64 10 4 (x_at (by omega) rfl) rfl rfl h10 (refs_at h11) (pc' := 65) rfl ?_
        obtain ⟨h12, hf⟩ := chk_s hf
        refine x_getC (ref := "WideningCracks$Crack") (v := .int (gA s 8 x6.toNatClampNeg)) C dX5_reachedFrom_65 in5_X5_reachedFrom h12 3 (by decide) (by decide +kernel) (Or.inl rfl) rfl (pc' := 68) rfl ?_
        refine wm_iload_n C dX5_reachedFrom_68 3 rfl (pc' := 69) rfl ?_
        refine wm_icmp_lt C dX5_reachedFrom_69 84 (by decide) (pc' := 72) rfl (fun h13 => ?_) (fun h13 => ?_)
        · have hf := ite_t h13 hf
          refine wm_sub (lv' := [(0, .ref (q 60)), (1, .int x1), (2, .int x2), (4, .int x4), (5, .int x5), (6, .int x6)]) [1, 2, 3, 4, 5, 6] rfl ?_
          exact wJ_84 x1 x6 s _ _ hf hE
        · have hf := ite_f h13 hf
          refine wm_iload_n C dX5_reachedFrom_72 2 rfl (pc' := 73) rfl ?_
          refine wm_iload C dX5_reachedFrom_73 0 rfl (pc' := 75) rfl ?_
          refine wm_iand C dX5_reachedFrom_75 (pc' := 76) rfl ?_
          refine wm_if_eq C dX5_reachedFrom_76 84 (by decide) (pc' := 79) rfl (fun h14 => ?_) (fun h14 => ?_)
          · have hf := ite_t h14 hf
            refine wm_sub (lv' := [(0, .ref (q 60)), (1, .int x1), (2, .int x2), (4, .int x4), (5, .int x5), (6, .int x6)]) [1, 2, 3, 4, 5, 6] rfl ?_
            exact wJ_84 x1 x6 s _ _ hf hE
          · have hf := ite_f h14 hf
            refine wm_iload_n C dX5_reachedFrom_79 2 rfl (pc' := 80) rfl ?_
            refine wm_iload C dX5_reachedFrom_80 0 rfl (pc' := 82) rfl ?_
            refine wm_ior C dX5_reachedFrom_82 (pc' := 83) rfl ?_
            refine wm_istore_n (lv' := [(1, .int (x1 ||| ((1 <<< ((gA s 5 x6.toNatClampNeg) &&& 31)) ||| (1 <<< ((gA s 6 x6.toNatClampNeg) &&& 31))))), (7, .int ((1 <<< ((gA s 5 x6.toNatClampNeg) &&& 31)) ||| (1 <<< ((gA s 6 x6.toNatClampNeg) &&& 31)))), (0, .ref (q 60)), (2, .int x2), (4, .int x4), (5, .int x5), (6, .int x6)]) C dX5_reachedFrom_83 (by decide) rfl (pc' := 84) rfl ?_
            refine wm_sub (lv' := [(0, .ref (q 60)), (1, .int (x1 ||| ((1 <<< ((gA s 5 x6.toNatClampNeg) &&& 31)) ||| (1 <<< ((gA s 6 x6.toNatClampNeg) &&& 31))))), (2, .int x2), (4, .int x4), (5, .int x5), (6, .int x6)]) [2, 0, 3, 4, 5, 6] rfl ?_
            exact wJ_84 (x1 ||| ((1 <<< ((gA s 5 x6.toNatClampNeg) &&& 31)) ||| (1 <<< ((gA s 6 x6.toNatClampNeg) &&& 31)))) x6 s _ _ hf hE
  have wL_5 : ∀ (x2 : Int32) (fu : Nat) (x1 : Int32) (x3 : Int32) (x4 : Int32) (s : MS) (v : Int32) (s' : MS), fX5_reachedFrom_L5 nc x2 fu x1 x3 x4 s = some (v, s') → WM l D Γ 8 0 0 (xW τ q nc s') 108 [(1, .int v)] [] → WM l D Γ 8 0 0 (xW τ q nc s) 5 [(0, .ref (q 60)), (1, .int x1), (2, .int x2), (3, .int x3), (4, .int x4)] [] := by
    intro x2
    intro fu
    induction fu with
    | zero => intro x1 x3 x4 s v s' hf hE; exact absurd hf (fun h => nomatch (show (none : Option _) = some _ from h))
    | succ fu ih =>
      intro x1 x3 x4 s v s' hf hE
      rw [fX5_reachedFrom_L5_s] at hf
      have wJ_101 : ∀ (x1 : Int32) (x4 : Int32) (t0 : Int32) (s : MS) (v : Int32) (s' : MS), fX5_reachedFrom_J101 nc (fX5_reachedFrom_L5 nc x2 fu) x1 x2 x4 t0 s = some (v, s') → WM l D Γ 8 0 0 (xW τ q nc s') 108 [(1, .int v)] [] → WM l D Γ 8 0 0 (xW τ q nc s) 101 [(0, .ref (q 60)), (1, .int x1), (2, .int x2), (4, .int x4)] [.int t0] := by
        intro x1 x4 t0 s v s' hf hE
        unfold fX5_reachedFrom_J101 at hf
        refine wm_istore_n (lv' := [(3, .int t0), (0, .ref (q 60)), (1, .int x1), (2, .int x2), (4, .int x4)]) C dX5_reachedFrom_101 (by decide) rfl (pc' := 102) rfl ?_
        refine wm_iinc (v := x4 + 1) (lv' := [(4, .int (x4 + 1)), (3, .int t0), (0, .ref (q 60)), (1, .int x1), (2, .int x2)]) C dX5_reachedFrom_102 4 rfl rfl (by decide) rfl (pc' := 105) rfl ?_
        refine wm_goto C dX5_reachedFrom_105 5 (by decide) ?_
        refine wm_sub (lv' := [(0, .ref (q 60)), (1, .int x1), (2, .int x2), (3, .int t0), (4, .int (x4 + 1))]) [2, 3, 4, 1, 0] rfl ?_
        exact ih x1 t0 (x4 + 1) s _ _ hf hE
      refine wm_iload_n C dX5_reachedFrom_5 3 rfl (pc' := 6) rfl ?_
      refine wm_if_eq C dX5_reachedFrom_6 108 (by decide) (pc' := 9) rfl (fun h1 => ?_) (fun h1 => ?_)
      · have hf := ite_t h1 hf
        obtain ⟨rfl, rfl⟩ := leaf_s hf
        refine wm_sub (lv' := [(1, .int x1)]) [1] rfl ?_
        exact hE
      · have hf := ite_f h1 hf
        refine wm_iload C dX5_reachedFrom_9 4 rfl (pc' := 11) rfl ?_
        refine wm_bipush (v := 6) C dX5_reachedFrom_11 (by decide) (pc' := 13) rfl ?_
        refine wm_icmp_ge C dX5_reachedFrom_13 108 (by decide) (pc' := 16) rfl (fun h2 => ?_) (fun h2 => ?_)
        · have hf := ite_t h2 hf
          obtain ⟨rfl, rfl⟩ := leaf_s hf
          refine wm_sub (lv' := [(1, .int x1)]) [1] rfl ?_
          exact hE
        · have hf := ite_f h2 hf
          refine wm_iload_n C dX5_reachedFrom_16 1 rfl (pc' := 17) rfl ?_
          refine wm_istore (lv' := [(5, .int x1), (0, .ref (q 60)), (1, .int x1), (2, .int x2), (3, .int x3), (4, .int x4)]) C dX5_reachedFrom_17 (by decide) rfl (pc' := 19) rfl ?_
          refine wm_ikonst (v := 0) C dX5_reachedFrom_19 (by decide) (pc' := 20) rfl ?_
          refine wm_istore (lv' := [(6, .int 0), (5, .int x1), (0, .ref (q 60)), (1, .int x1), (2, .int x2), (3, .int x3), (4, .int x4)]) C dX5_reachedFrom_20 (by decide) rfl (pc' := 22) rfl ?_
          refine wm_sub (lv' := [(0, .ref (q 60)), (1, .int x1), (2, .int x2), (4, .int x4), (5, .int x1), (6, .int 0)]) [2, 3, 4, 6, 1, 0] rfl ?_
          obtain ⟨v15, s16, h17, hf⟩ := bnd_s hf
          refine wL_22 x2 x4 x1 FU x1 0 s v15 s16 h17 ?_
          refine wm_iload_n C dX5_reachedFrom_90 1 rfl (pc' := 91) rfl ?_
          refine wm_iload C dX5_reachedFrom_91 4 rfl (pc' := 93) rfl ?_
          refine wm_icmp_eq C dX5_reachedFrom_93 100 (by decide) (pc' := 96) rfl (fun h18 => ?_) (fun h18 => ?_)
          · have hf := ite_t h18 hf
            refine wm_ikonst (v := 0) C dX5_reachedFrom_100 (by decide) (pc' := 101) rfl ?_
            refine wm_sub (lv' := [(0, .ref (q 60)), (1, .int v15), (2, .int x2), (4, .int x4)]) [0, 1, 2, 3] rfl ?_
            exact wJ_101 v15 x4 0 s16 _ _ hf hE
          · have hf := ite_f h18 hf
            refine wm_ikonst (v := 1) C dX5_reachedFrom_96 (by decide) (pc' := 97) rfl ?_
            refine wm_goto C dX5_reachedFrom_97 101 (by decide) ?_
            refine wm_sub (lv' := [(0, .ref (q 60)), (1, .int v15), (2, .int x2), (4, .int x4)]) [0, 1, 2, 3] rfl ?_
            exact wJ_101 v15 x4 1 s16 _ _ hf hE
  refine wm_ikonst (v := 1) C dX5_reachedFrom_0 (by decide) (pc' := 1) rfl ?_
  refine wm_istore_n (lv' := [(3, .int 1), (0, .ref (q 60)), (1, .int x1), (2, .int x2)]) C dX5_reachedFrom_1 (by decide) rfl (pc' := 2) rfl ?_
  refine wm_ikonst (v := 0) C dX5_reachedFrom_2 (by decide) (pc' := 3) rfl ?_
  refine wm_istore (lv' := [(4, .int 0), (3, .int 1), (0, .ref (q 60)), (1, .int x1), (2, .int x2)]) C dX5_reachedFrom_3 (by decide) rfl (pc' := 5) rfl ?_
  refine wm_sub (lv' := [(0, .ref (q 60)), (1, .int x1), (2, .int x2), (3, .int 1), (4, .int 0)]) [2, 3, 4, 1, 0] rfl ?_
  obtain ⟨v19, s20, h21, hf⟩ := bnd_s hf
  refine wL_5 x2 FU x1 1 0 σ v19 s20 h21 ?_
  refine wm_iload_n C dX5_reachedFrom_108 0 rfl (pc' := 109) rfl ?_
  obtain ⟨rfl, rfl⟩ := leaf_s hf
  exact wm_iret C dX5_reachedFrom_109 (Nat.zero_le _) (Nat.zero_le _) FD.rf
def fX1_renew (nc : Nat) (x0 : Nat) (x1 : Int32) (x2 : Int32) (σ : MS) : Option (Unit × MS) :=
  if x0 < 4 then lets (sA σ 40 x0 1) (fun s1 => if x0 < 4 then lets (sA s1 41 x0 x1) (fun s4 => if x0 < 4 then lets (sA s4 42 x0 x2) (fun s7 => if x0 < 4 then bnd (fJ7_fill_d0a16_c nc x0 0 s7) (fun r11 s14 => some ((), s14)) else none) else none) else none) else none
theorem inX1_X1_renew : ∀ w ∈ wsX10, w ∈ wsX1_renew := by decide +kernel
set_option maxHeartbeats 4000000 in
set_option maxRecDepth 100000 in
theorem kX1_renew (l : Launch) (D : va_G) (τ : CId) (q : Nat → Nat) (nc : Nat) (x0 : Nat) (σ : MS) (x1 : Int32) (x2 : Int32) (sE : MS) (hf : fX1_renew nc x0 x1 x2 σ = some ((), sE)) : Ct l D τ yX1_renew wsX1_renew { frames := 1, cells := 0, slots := 0, locals := 24 } [.ref (q (80 + x0)), .int x1, .int x2] (xW τ q nc σ) (FD (xW τ q nc sE) none) := by
  unfold fX1_renew at hf
  refine ct_of (cc := cX1_renew) (maxL := 3) (ret := none) (by decide) rfl (Nat.le_of_ble_eq_true rfl) (fun Γ C => ?_)
  refine wm_lv (lv' := [(0, .ref (q (80 + x0))), (1, .int x1), (2, .int x2)]) rfl ?_
  refine wm_aload_n C dX1_renew_0 0 rfl (pc' := 1) rfl ?_
  refine wm_ikonst (v := 1) C dX1_renew_1 (by decide) (pc' := 2) rfl ?_
  obtain ⟨h3, hf⟩ := chk_s hf
  obtain ⟨s1, e2, hf⟩ := lets_s hf
  refine x_putKt C dX1_renew_2 inX1_X1_renew h3 (by decide) (by decide) (by decide +kernel) (pc' := 5) rfl ?_
  rw [← e2]
  refine wm_aload_n C dX1_renew_5 0 rfl (pc' := 6) rfl ?_
  refine wm_iload_n C dX1_renew_6 1 rfl (pc' := 7) rfl ?_
  obtain ⟨h6, hf⟩ := chk_s hf
  obtain ⟨s4, e5, hf⟩ := lets_s hf
  refine x_putKl C dX1_renew_7 inX1_X1_renew h6 (by decide +kernel) (pc' := 10) rfl ?_
  rw [← e5]
  refine wm_aload_n C dX1_renew_10 0 rfl (pc' := 11) rfl ?_
  refine wm_iload_n C dX1_renew_11 2 rfl (pc' := 12) rfl ?_
  obtain ⟨h9, hf⟩ := chk_s hf
  obtain ⟨s7, e8, hf⟩ := lets_s hf
  refine x_putKn C dX1_renew_12 inX1_X1_renew h9 (by decide +kernel) (pc' := 15) rfl ?_
  rw [← e8]
  refine wm_aload_n C dX1_renew_15 0 rfl (pc' := 16) rfl ?_
  obtain ⟨h10, hf⟩ := chk_s hf
  refine x_getK (v := .ref (q (90 + x0))) C dX1_renew_16 inX1_X1_renew h10 0 (by decide) (by decide +kernel) rfl rfl (pc' := 19) rfl ?_
  refine wm_lkonst (v := 0) C dX1_renew_19 (by decide) (pc' := 20) rfl ?_
  obtain ⟨r11, s14, h13, hf⟩ := bnd_s hf
  refine wm_callSW (nn := 2) (As := [.ref (q (90 + x0)), .long 0]) (rest := []) (st' := []) C dX1_renew_20 (kJ7_fill_d0a16_c l D τ q nc s7 x0 0 s14 h13) gX1_renew_J7_fill_d0a16 rfl (by decide +kernel) ⟨Nat.le_of_ble_eq_true rfl, Nat.le_of_ble_eq_true rfl⟩ rfl rfl ⟨Nat.zero_le _, Nat.zero_le _⟩ rfl rfl (Nat.le_of_ble_eq_true rfl) rfl (pc' := 23) rfl ?_
  obtain ⟨-, rfl⟩ := leaf_s hf
  exact wm_vret C dX1_renew_23 (Nat.zero_le _) (Nat.zero_le _) FD.rf
def fX1_isOfAnotherLane (nc : Nat) (x0 : Nat) (x1 : Int32) (σ : MS) : Option (Int32 × MS) :=
  if x0 < 4 then if (gA σ 40 x0) = 0 then some (0, σ) else if x0 < 4 then if (gA σ 41 x0) = x1 then some (0, σ) else some (1, σ) else none else none
theorem inX1_X1_isOfAnotherLane : ∀ w ∈ wsX10, w ∈ wsX1_isOfAnotherLane := by decide +kernel
set_option maxHeartbeats 4000000 in
set_option maxRecDepth 100000 in
theorem kX1_isOfAnotherLane (l : Launch) (D : va_G) (τ : CId) (q : Nat → Nat) (nc : Nat) (x0 : Nat) (σ : MS) (x1 : Int32) (rE : Int32) (sE : MS) (hf : fX1_isOfAnotherLane nc x0 x1 σ = some (rE, sE)) : Ct l D τ yX1_isOfAnotherLane wsX1_isOfAnotherLane { frames := 0, cells := 0, slots := 0, locals := 0 } [.ref (q (80 + x0)), .int x1] (xW τ q nc σ) (FD (xW τ q nc sE) (some (.int rE))) := by
  unfold fX1_isOfAnotherLane at hf
  refine ct_of (cc := cX1_isOfAnotherLane) (maxL := 2) (ret := (some .boolean)) (by decide) rfl (Nat.le_of_ble_eq_true rfl) (fun Γ C => ?_)
  refine wm_lv (lv' := [(0, .ref (q (80 + x0))), (1, .int x1)]) rfl ?_
  refine wm_aload_n C dX1_isOfAnotherLane_0 0 rfl (pc' := 1) rfl ?_
  obtain ⟨h1, hf⟩ := chk_s hf
  refine x_getK (v := .int (gA σ 40 x0)) C dX1_isOfAnotherLane_1 inX1_X1_isOfAnotherLane h1 1 (by decide) (by decide +kernel) rfl rfl (pc' := 4) rfl ?_
  refine wm_if_eq C dX1_isOfAnotherLane_4 19 (by decide) (pc' := 7) rfl (fun h2 => ?_) (fun h2 => ?_)
  · have hf := ite_t h2 hf
    refine wm_ikonst (v := 0) C dX1_isOfAnotherLane_19 (by decide) (pc' := 20) rfl ?_
    obtain ⟨rfl, rfl⟩ := leaf_s hf
    exact wm_zret C dX1_isOfAnotherLane_20 (by decide) (Nat.zero_le _) (Nat.zero_le _) FD.rf
  · have hf := ite_f h2 hf
    refine wm_aload_n C dX1_isOfAnotherLane_7 0 rfl (pc' := 8) rfl ?_
    obtain ⟨h3, hf⟩ := chk_s hf
    refine x_getK (v := .int (gA σ 41 x0)) C dX1_isOfAnotherLane_8 inX1_X1_isOfAnotherLane h3 2 (by decide) (by decide +kernel) rfl rfl (pc' := 11) rfl ?_
    refine wm_iload_n C dX1_isOfAnotherLane_11 1 rfl (pc' := 12) rfl ?_
    refine wm_icmp_eq C dX1_isOfAnotherLane_12 19 (by decide) (pc' := 15) rfl (fun h4 => ?_) (fun h4 => ?_)
    · have hf := ite_t h4 hf
      refine wm_ikonst (v := 0) C dX1_isOfAnotherLane_19 (by decide) (pc' := 20) rfl ?_
      obtain ⟨rfl, rfl⟩ := leaf_s hf
      exact wm_zret C dX1_isOfAnotherLane_20 (by decide) (Nat.zero_le _) (Nat.zero_le _) FD.rf
    · have hf := ite_f h4 hf
      refine wm_ikonst (v := 1) C dX1_isOfAnotherLane_15 (by decide) (pc' := 16) rfl ?_
      refine wm_goto C dX1_isOfAnotherLane_16 20 (by decide) ?_
      obtain ⟨rfl, rfl⟩ := leaf_s hf
      exact wm_zret C dX1_isOfAnotherLane_20 (by decide) (Nat.zero_le _) (Nat.zero_le _) FD.rf
def fX1_hasCells (nc : Nat) (x0 : Nat) (x1 : Int32) (x2 : Int32) (σ : MS) : Option (Int32 × MS) :=
  if x1 < 0 then some (0, σ) else if x0 < 4 then if ((gA σ 42 x0) - x1) < x2 then some (0, σ) else some (1, σ) else none
theorem inX1_X1_hasCells : ∀ w ∈ wsX10, w ∈ wsX1_hasCells := by decide +kernel
set_option maxHeartbeats 4000000 in
set_option maxRecDepth 100000 in
theorem kX1_hasCells (l : Launch) (D : va_G) (τ : CId) (q : Nat → Nat) (nc : Nat) (x0 : Nat) (σ : MS) (x1 : Int32) (x2 : Int32) (rE : Int32) (sE : MS) (hf : fX1_hasCells nc x0 x1 x2 σ = some (rE, sE)) : Ct l D τ yX1_hasCells wsX1_hasCells { frames := 0, cells := 0, slots := 0, locals := 0 } [.ref (q (80 + x0)), .int x1, .int x2] (xW τ q nc σ) (FD (xW τ q nc sE) (some (.int rE))) := by
  unfold fX1_hasCells at hf
  refine ct_of (cc := cX1_hasCells) (maxL := 3) (ret := (some .boolean)) (by decide) rfl (Nat.le_of_ble_eq_true rfl) (fun Γ C => ?_)
  refine wm_lv (lv' := [(0, .ref (q (80 + x0))), (1, .int x1), (2, .int x2)]) rfl ?_
  refine wm_iload_n C dX1_hasCells_0 1 rfl (pc' := 1) rfl ?_
  refine wm_if_lt C dX1_hasCells_1 18 (by decide) (pc' := 4) rfl (fun h1 => ?_) (fun h1 => ?_)
  · have hf := ite_t h1 hf
    refine wm_ikonst (v := 0) C dX1_hasCells_18 (by decide) (pc' := 19) rfl ?_
    obtain ⟨rfl, rfl⟩ := leaf_s hf
    exact wm_zret C dX1_hasCells_19 (by decide) (Nat.zero_le _) (Nat.zero_le _) FD.rf
  · have hf := ite_f h1 hf
    refine wm_iload_n C dX1_hasCells_4 2 rfl (pc' := 5) rfl ?_
    refine wm_aload_n C dX1_hasCells_5 0 rfl (pc' := 6) rfl ?_
    obtain ⟨h2, hf⟩ := chk_s hf
    refine x_getK (v := .int (gA σ 42 x0)) C dX1_hasCells_6 inX1_X1_hasCells h2 3 (by decide) (by decide +kernel) rfl rfl (pc' := 9) rfl ?_
    refine wm_iload_n C dX1_hasCells_9 1 rfl (pc' := 10) rfl ?_
    refine wm_isub C dX1_hasCells_10 (pc' := 11) rfl ?_
    refine wm_icmp_gt C dX1_hasCells_11 18 (by decide) (pc' := 14) rfl (fun h3 => ?_) (fun h3 => ?_)
    · have hf := ite_t h3 hf
      refine wm_ikonst (v := 0) C dX1_hasCells_18 (by decide) (pc' := 19) rfl ?_
      obtain ⟨rfl, rfl⟩ := leaf_s hf
      exact wm_zret C dX1_hasCells_19 (by decide) (Nat.zero_le _) (Nat.zero_le _) FD.rf
    · have hf := ite_f h3 hf
      refine wm_ikonst (v := 1) C dX1_hasCells_14 (by decide) (pc' := 15) rfl ?_
      refine wm_goto C dX1_hasCells_15 19 (by decide) ?_
      obtain ⟨rfl, rfl⟩ := leaf_s hf
      exact wm_zret C dX1_hasCells_19 (by decide) (Nat.zero_le _) (Nat.zero_le _) FD.rf
def fX1_areWithin_L3 (nc : Nat) (x0 : Nat) (x1 : Int32) (x2 : Int32) (x3 : Int32) (x4 : Int32) : Nat → Int32 → MS → Option ((Int32 ⊕ Unit) × MS)
  | 0, _, _ => none
  | fu + 1, x5, s => if x2 ≤ x5 then some (Sum.inr (), s) else if x0 < 4 then if x0 < 4 then if ¬ ((x1 + x5) < 0 ∨ 24 ≤ (x1 + x5).toNatClampNeg) then bnd (fX11_isWithin (gB s (90 + x0) (x1 + x5).toNatClampNeg) x3 x4) (fun r4 u5 => if ¬ r4 = 0 then fX1_areWithin_L3 nc x0 x1 x2 x3 x4 fu (x5 + 1) s else some (Sum.inl 0, s)) else none else none else none
theorem fX1_areWithin_L3_s (nc : Nat) (x0 : Nat) (x1 : Int32) (x2 : Int32) (x3 : Int32) (x4 : Int32) (fu : Nat) (x5 : Int32) (s : MS) : fX1_areWithin_L3 nc x0 x1 x2 x3 x4 (fu + 1) x5 s = (if x2 ≤ x5 then some (Sum.inr (), s) else if x0 < 4 then if x0 < 4 then if ¬ ((x1 + x5) < 0 ∨ 24 ≤ (x1 + x5).toNatClampNeg) then bnd (fX11_isWithin (gB s (90 + x0) (x1 + x5).toNatClampNeg) x3 x4) (fun r4 u5 => if ¬ r4 = 0 then fX1_areWithin_L3 nc x0 x1 x2 x3 x4 fu (x5 + 1) s else some (Sum.inl 0, s)) else none else none else none) := rfl
def fX1_areWithin (nc : Nat) (x0 : Nat) (x1 : Int32) (x2 : Int32) (x3 : Int32) (x4 : Int32) (σ : MS) : Option (Int32 × MS) :=
  bnd (fX1_areWithin_L3 nc x0 x1 x2 x3 x4 FU 0 σ) (fun v9 s10 => Sum.elim (fun r => some (r, s10)) (fun w12 => some (1, s10)) v9)
theorem inX1_X1_areWithin : ∀ w ∈ wsX10, w ∈ wsX1_areWithin := by decide +kernel
set_option maxHeartbeats 4000000 in
set_option maxRecDepth 100000 in
theorem kX1_areWithin (l : Launch) (D : va_G) (τ : CId) (q : Nat → Nat) (nc : Nat) (x0 : Nat) (σ : MS) (x1 : Int32) (x2 : Int32) (x3 : Int32) (x4 : Int32) (rE : Int32) (sE : MS) (hf : fX1_areWithin nc x0 x1 x2 x3 x4 σ = some (rE, sE)) : Ct l D τ yX1_areWithin wsX1_areWithin { frames := 1, cells := 0, slots := 0, locals := 23 } [.ref (q (80 + x0)), .int x1, .int x2, .int x3, .int x4] (xW τ q nc σ) (FD (xW τ q nc sE) (some (.int rE))) := by
  unfold fX1_areWithin at hf
  refine ct_of (cc := cX1_areWithin) (maxL := 6) (ret := (some .boolean)) (by decide) rfl (Nat.le_of_ble_eq_true rfl) (fun Γ C => ?_)
  refine wm_lv (lv' := [(0, .ref (q (80 + x0))), (1, .int x1), (2, .int x2), (3, .int x3), (4, .int x4)]) rfl ?_
  have wL_3 : ∀ (x1 : Int32) (x2 : Int32) (x3 : Int32) (x4 : Int32) (fu : Nat) (x5 : Int32) (s : MS) (v : (Int32 ⊕ Unit)) (s' : MS), fX1_areWithin_L3 nc x0 x1 x2 x3 x4 fu x5 s = some (v, s') → Sum.elim (fun r => FD (xW τ q nc sE) (some (.int rE)) (xW τ q nc s') (some (.int r))) (fun w => WM l D Γ 6 0 0 (xW τ q nc s') 35 [] []) v → WM l D Γ 6 0 0 (xW τ q nc s) 3 [(0, .ref (q (80 + x0))), (1, .int x1), (2, .int x2), (3, .int x3), (4, .int x4), (5, .int x5)] [] := by
    intro x1 x2 x3 x4
    intro fu
    induction fu with
    | zero => intro x5 s v s' hf hE; exact absurd hf (fun h => nomatch (show (none : Option _) = some _ from h))
    | succ fu ih =>
      intro x5 s v s' hf hE
      rw [fX1_areWithin_L3_s] at hf
      refine wm_iload C dX1_areWithin_3 5 rfl (pc' := 5) rfl ?_
      refine wm_iload_n C dX1_areWithin_5 2 rfl (pc' := 6) rfl ?_
      refine wm_icmp_ge C dX1_areWithin_6 35 (by decide) (pc' := 9) rfl (fun h1 => ?_) (fun h1 => ?_)
      · have hf := ite_t h1 hf
        obtain ⟨rfl, rfl⟩ := leaf_s hf
        refine wm_sub (lv' := []) [] rfl ?_
        exact hE
      · have hf := ite_f h1 hf
        refine wm_aload_n C dX1_areWithin_9 0 rfl (pc' := 10) rfl ?_
        obtain ⟨h2, hf⟩ := chk_s hf
        refine x_getK (v := .ref (q (90 + x0))) C dX1_areWithin_10 inX1_X1_areWithin h2 0 (by decide) (by decide +kernel) rfl rfl (pc' := 13) rfl ?_
        refine wm_iload_n C dX1_areWithin_13 1 rfl (pc' := 14) rfl ?_
        refine wm_iload C dX1_areWithin_14 5 rfl (pc' := 16) rfl ?_
        refine wm_iadd C dX1_areWithin_16 (pc' := 17) rfl ?_
        obtain ⟨h8, hf⟩ := chk_s hf
        obtain ⟨h3, hf⟩ := chk_s hf
        refine wm_lald (f := gB s (90 + x0)) (N := 24) (cA := τ.2.1) C dX1_areWithin_17 (23 + x0) (x_at (by omega) (xC_cells h8)) rfl h3 (pc' := 18) rfl ?_
        refine wm_iload_n C dX1_areWithin_18 3 rfl (pc' := 19) rfl ?_
        refine wm_iload C dX1_areWithin_19 4 rfl (pc' := 21) rfl ?_
        obtain ⟨r4, u5, h6, hf⟩ := bnd_s hf
        refine wm_callSN (nn := 3) (As := [.long (gB s (90 + x0) (x1 + x5).toNatClampNeg), .int x3, .int x4]) (rest := []) (st' := [.int r4]) C dX1_areWithin_21 (kX11_isWithin l D τ (gB s (90 + x0) (x1 + x5).toNatClampNeg) x3 x4 r4 h6) gX1_areWithin_X11_isWithin_n32 rfl (by decide +kernel) (by decide +kernel) (by decide +kernel) (by decide +kernel) ⟨Nat.le_of_ble_eq_true rfl, Nat.le_of_ble_eq_true rfl⟩ rfl rfl ⟨Nat.zero_le _, Nat.zero_le _⟩ rfl rfl (Nat.le_of_ble_eq_true rfl) rfl (pc' := 24) rfl ?_
        refine wm_if_ne C dX1_areWithin_24 29 (by decide) (pc' := 27) rfl (fun h7 => ?_) (fun h7 => ?_)
        · have hf := ite_t h7 hf
          refine wm_iinc (v := x5 + 1) (lv' := [(5, .int (x5 + 1)), (0, .ref (q (80 + x0))), (1, .int x1), (2, .int x2), (3, .int x3), (4, .int x4)]) C dX1_areWithin_29 5 rfl rfl (by decide) rfl (pc' := 32) rfl ?_
          refine wm_goto C dX1_areWithin_32 3 (by decide) ?_
          refine wm_sub (lv' := [(0, .ref (q (80 + x0))), (1, .int x1), (2, .int x2), (3, .int x3), (4, .int x4), (5, .int (x5 + 1))]) [1, 2, 3, 4, 5, 0] rfl ?_
          exact ih (x5 + 1) s _ _ hf hE
        · have hf := ite_f (fun h => h h7) hf
          refine wm_ikonst (v := 0) C dX1_areWithin_27 (by decide) (pc' := 28) rfl ?_
          obtain ⟨rfl, rfl⟩ := leaf_s hf
          exact wm_zret C dX1_areWithin_28 (by decide) (Nat.zero_le _) (Nat.zero_le _) hE
  refine wm_ikonst (v := 0) C dX1_areWithin_0 (by decide) (pc' := 1) rfl ?_
  refine wm_istore (lv' := [(5, .int 0), (0, .ref (q (80 + x0))), (1, .int x1), (2, .int x2), (3, .int x3), (4, .int x4)]) C dX1_areWithin_1 (by decide) rfl (pc' := 3) rfl ?_
  refine wm_sub (lv' := [(0, .ref (q (80 + x0))), (1, .int x1), (2, .int x2), (3, .int x3), (4, .int x4), (5, .int 0)]) [1, 2, 3, 4, 5, 0] rfl ?_
  obtain ⟨v9, s10, h11, hf⟩ := bnd_s hf
  refine wL_3 x1 x2 x3 x4 FU 0 σ v9 s10 h11 ?_
  cases v9 with
  | inl v9 => (have hf : some (v9, s10) = some (rE, sE) := hf); obtain ⟨rfl, rfl⟩ := leaf_s hf; exact FD.rf
  | inr w12 =>
    have hf : (some (1, s10)) = some (rE, sE) := hf
    show WM l D Γ 6 0 0 (xW τ q nc s10) 35 [] []
    refine wm_ikonst (v := 1) C dX1_areWithin_35 (by decide) (pc' := 36) rfl ?_
    obtain ⟨rfl, rfl⟩ := leaf_s hf
    exact wm_zret C dX1_areWithin_36 (by decide) (Nat.zero_le _) (Nat.zero_le _) FD.rf
def fX1_cut (nc : Nat) (x0 : Nat) (x1 : Int64) (σ : MS) : Option (Int64 × MS) :=
  if x0 < 4 then if (gA σ 41 x0) = 0 then some (x1.toInt32.toInt8.toInt32.toInt64, σ) else if (gA σ 41 x0) = 1 then some (x1.toInt32.toInt16.toInt32.toInt64, σ) else if (gA σ 41 x0) = 2 then some (x1.toInt32.toInt64, σ) else some (x1, σ) else none
theorem inX1_X1_cut : ∀ w ∈ wsX10, w ∈ wsX1_cut := by decide +kernel
set_option maxHeartbeats 4000000 in
set_option maxRecDepth 100000 in
theorem kX1_cut (l : Launch) (D : va_G) (τ : CId) (q : Nat → Nat) (nc : Nat) (x0 : Nat) (σ : MS) (x1 : Int64) (rE : Int64) (sE : MS) (hf : fX1_cut nc x0 x1 σ = some (rE, sE)) : Ct l D τ yX1_cut wsX1_cut { frames := 0, cells := 0, slots := 0, locals := 0 } [.ref (q (80 + x0)), .long x1] (xW τ q nc σ) (FD (xW τ q nc sE) (some (.long rE))) := by
  unfold fX1_cut at hf
  refine ct_of (cc := cX1_cut) (maxL := 3) (ret := (some .long)) (by decide) rfl (Nat.le_of_ble_eq_true rfl) (fun Γ C => ?_)
  refine wm_lv (lv' := [(0, .ref (q (80 + x0))), (1, .long x1)]) rfl ?_
  refine wm_aload_n C dX1_cut_0 0 rfl (pc' := 1) rfl ?_
  obtain ⟨h1, hf⟩ := chk_s hf
  refine x_getK (v := .int (gA σ 41 x0)) C dX1_cut_1 inX1_X1_cut h1 2 (by decide) (by decide +kernel) rfl rfl (pc' := 4) rfl ?_
  by_cases h2 : (gA σ 41 x0) = 0
  · have hf := ite_t h2 hf
    refine wm_tableIn (off := 28) C dX1_cut_4 (by rw [h2]; decide) (by rw [h2]; decide) (by rw [h2]; rfl) 32 (by decide) ?_
    refine wm_lload_n C dX1_cut_32 1 rfl (pc' := 33) rfl ?_
    refine wm_l2i C dX1_cut_33 (pc' := 34) rfl ?_
    refine wm_i2b C dX1_cut_34 (pc' := 35) rfl ?_
    refine wm_i2l C dX1_cut_35 (pc' := 36) rfl ?_
    obtain ⟨rfl, rfl⟩ := leaf_s hf
    exact wm_lret C dX1_cut_36 (Nat.zero_le _) (Nat.zero_le _) FD.rf
  · have hf := ite_f h2 hf
    by_cases h3 : (gA σ 41 x0) = 1
    · have hf := ite_t h3 hf
      refine wm_tableIn (off := 33) C dX1_cut_4 (by rw [h3]; decide) (by rw [h3]; decide) (by rw [h3]; rfl) 37 (by decide) ?_
      refine wm_lload_n C dX1_cut_37 1 rfl (pc' := 38) rfl ?_
      refine wm_l2i C dX1_cut_38 (pc' := 39) rfl ?_
      refine wm_i2s C dX1_cut_39 (pc' := 40) rfl ?_
      refine wm_i2l C dX1_cut_40 (pc' := 41) rfl ?_
      obtain ⟨rfl, rfl⟩ := leaf_s hf
      exact wm_lret C dX1_cut_41 (Nat.zero_le _) (Nat.zero_le _) FD.rf
    · have hf := ite_f h3 hf
      by_cases h4 : (gA σ 41 x0) = 2
      · have hf := ite_t h4 hf
        refine wm_tableIn (off := 38) C dX1_cut_4 (by rw [h4]; decide) (by rw [h4]; decide) (by rw [h4]; rfl) 42 (by decide) ?_
        refine wm_lload_n C dX1_cut_42 1 rfl (pc' := 43) rfl ?_
        refine wm_l2i C dX1_cut_43 (pc' := 44) rfl ?_
        refine wm_i2l C dX1_cut_44 (pc' := 45) rfl ?_
        obtain ⟨rfl, rfl⟩ := leaf_s hf
        exact wm_lret C dX1_cut_45 (Nat.zero_le _) (Nat.zero_le _) FD.rf
      · have hf := ite_f h4 hf
        refine wm_tableOut C dX1_cut_4 (by have a0 := i32_ne (h2); have a1 := i32_ne (h3); have a2 := i32_ne (h4); rw [show (0 : Int32).toInt = 0 from by decide] at a0; rw [show (1 : Int32).toInt = 1 from by decide] at a1; rw [show (2 : Int32).toInt = 2 from by decide] at a2; omega) 46 (by decide) ?_
        refine wm_lload_n C dX1_cut_46 1 rfl (pc' := 47) rfl ?_
        obtain ⟨rfl, rfl⟩ := leaf_s hf
        exact wm_lret C dX1_cut_47 (Nat.zero_le _) (Nat.zero_le _) FD.rf
def fX4_push_L2 (nc : Nat) : Nat → Int32 → MS → Option (Unit × MS)
  | 0, _, _ => none
  | fu + 1, x2, s => if (gI s 4) ≤ x2 then some ((), s) else if ¬ ((gI s 58) < 0 ∨ 8 ≤ (gI s 58).toNatClampNeg) then if (gI s 58).toNatClampNeg < 8 then if ¬ (x2 < 0 ∨ 12 ≤ x2.toNatClampNeg) then if x2.toNatClampNeg < nc then if x2.toNatClampNeg < nc then if (gI s 58).toNatClampNeg < 8 then if ¬ (x2 < 0 ∨ 12 ≤ x2.toNatClampNeg) then lets (sA s (110 + (gI s 58).toNatClampNeg) x2.toNatClampNeg (gA s 8 x2.toNatClampNeg)) (fun s8 => if ¬ ((gI s8 58) < 0 ∨ 8 ≤ (gI s8 58).toNatClampNeg) then if (gI s8 58).toNatClampNeg < 8 then if ¬ (x2 < 0 ∨ 12 ≤ x2.toNatClampNeg) then if x2.toNatClampNeg < nc then if x2.toNatClampNeg < nc then if (gI s8 58).toNatClampNeg < 8 then if ¬ (x2 < 0 ∨ 12 ≤ x2.toNatClampNeg) then lets (sA s8 (120 + (gI s8 58).toNatClampNeg) x2.toNatClampNeg (gA s8 10 x2.toNatClampNeg)) (fun s16 => fX4_push_L2 nc fu (x2 + 1) s16) else none else none else none else none else none else none else none) else none else none else none else none else none else none else none
theorem fX4_push_L2_s (nc : Nat) (fu : Nat) (x2 : Int32) (s : MS) : fX4_push_L2 nc (fu + 1) x2 s = (if (gI s 4) ≤ x2 then some ((), s) else if ¬ ((gI s 58) < 0 ∨ 8 ≤ (gI s 58).toNatClampNeg) then if (gI s 58).toNatClampNeg < 8 then if ¬ (x2 < 0 ∨ 12 ≤ x2.toNatClampNeg) then if x2.toNatClampNeg < nc then if x2.toNatClampNeg < nc then if (gI s 58).toNatClampNeg < 8 then if ¬ (x2 < 0 ∨ 12 ≤ x2.toNatClampNeg) then lets (sA s (110 + (gI s 58).toNatClampNeg) x2.toNatClampNeg (gA s 8 x2.toNatClampNeg)) (fun s8 => if ¬ ((gI s8 58) < 0 ∨ 8 ≤ (gI s8 58).toNatClampNeg) then if (gI s8 58).toNatClampNeg < 8 then if ¬ (x2 < 0 ∨ 12 ≤ x2.toNatClampNeg) then if x2.toNatClampNeg < nc then if x2.toNatClampNeg < nc then if (gI s8 58).toNatClampNeg < 8 then if ¬ (x2 < 0 ∨ 12 ≤ x2.toNatClampNeg) then lets (sA s8 (120 + (gI s8 58).toNatClampNeg) x2.toNatClampNeg (gA s8 10 x2.toNatClampNeg)) (fun s16 => fX4_push_L2 nc fu (x2 + 1) s16) else none else none else none else none else none else none else none) else none else none else none else none else none else none else none) := rfl
def fX4_push (nc : Nat) (σ : MS) : Option (Unit × MS) :=
  bnd (fX4_push_L2 nc FU 0 σ) (fun v20 s21 => if ¬ ((gI s21 58) < 0 ∨ 8 ≤ (gI s21 58).toNatClampNeg) then lets (sA s21 73 (gI s21 58).toNatClampNeg (gI s21 4)) (fun s24 => if ¬ ((gI s24 58) < 0 ∨ 8 ≤ (gI s24 58).toNatClampNeg) then lets (sA s24 74 (gI s24 58).toNatClampNeg (gI s24 12)) (fun s27 => lets (sI s27 58 (((gI s27 58) + 1) - ((gI s27 58) + 1) / 8 * 8)) (fun s30 => lets (sI s30 29 (if 8 < ((gI s30 29) + 1) then 8 else ((gI s30 29) + 1))) (fun s32 => some ((), s32)))) else none) else none)
theorem in5_X4_push : In5 wsX4_push := ⟨by decide +kernel, by decide +kernel, by decide +kernel, by decide +kernel, by decide +kernel⟩
theorem inX4_X4_push : ∀ w ∈ wsX40, w ∈ wsX4_push := by decide +kernel
theorem inX5_X4_push : ∀ w ∈ wsX50, w ∈ wsX4_push := by decide +kernel
set_option maxHeartbeats 4000000 in
set_option maxRecDepth 100000 in
theorem kX4_push (l : Launch) (D : va_G) (τ : CId) (q : Nat → Nat) (nc : Nat) (σ : MS) (sE : MS) (hf : fX4_push nc σ = some ((), sE)) : Ct l D τ yX4_push wsX4_push { frames := 1, cells := 0, slots := 0, locals := 23 } [.ref (q 63), .ref (q 60)] (xW τ q nc σ) (FD (xW τ q nc sE) none) := by
  unfold fX4_push at hf
  refine ct_of (cc := cX4_push) (maxL := 3) (ret := none) (by decide) rfl (Nat.le_of_ble_eq_true rfl) (fun Γ C => ?_)
  refine wm_lv (lv' := [(0, .ref (q 63)), (1, .ref (q 60))]) rfl ?_
  have wL_2 : ∀ (fu : Nat) (x2 : Int32) (s : MS) (v : Unit) (s' : MS), fX4_push_L2 nc fu x2 s = some (v, s') → WM l D Γ 3 0 0 (xW τ q nc s') 56 [(0, .ref (q 63)), (1, .ref (q 60))] [] → WM l D Γ 3 0 0 (xW τ q nc s) 2 [(0, .ref (q 63)), (1, .ref (q 60)), (2, .int x2)] [] := by
    intro fu
    induction fu with
    | zero => intro x2 s v s' hf hE; exact absurd hf (fun h => nomatch (show (none : Option _) = some _ from h))
    | succ fu ih =>
      intro x2 s v s' hf hE
      rw [fX4_push_L2_s] at hf
      refine wm_iload_n C dX4_push_2 2 rfl (pc' := 3) rfl ?_
      refine wm_aload_n C dX4_push_3 1 rfl (pc' := 4) rfl ?_
      refine x_get (v := .int (gI s 4)) C dX4_push_4 inX5_X4_push 1 (by omega) rfl rfl 4 (by decide) (by decide +kernel) (Or.inl rfl) rfl (pc' := 7) rfl ?_
      refine wm_icmp_ge C dX4_push_7 56 (by decide) (pc' := 10) rfl (fun h1 => ?_) (fun h1 => ?_)
      · have hf := ite_t h1 hf
        obtain ⟨rfl, rfl⟩ := leaf_s hf
        refine wm_sub (lv' := [(0, .ref (q 63)), (1, .ref (q 60))]) [0, 1] rfl ?_
        exact hE
      · have hf := ite_f h1 hf
        refine wm_aload_n C dX4_push_10 0 rfl (pc' := 11) rfl ?_
        refine x_get (v := .ref (q 71)) C dX4_push_11 inX4_X4_push 4 (by omega) rfl rfl 0 (by decide) (by decide +kernel) (Or.inl rfl) rfl (pc' := 14) rfl ?_
        refine wm_aload_n C dX4_push_14 0 rfl (pc' := 15) rfl ?_
        refine x_get (v := .int (gI s 58)) C dX4_push_15 inX4_X4_push 4 (by omega) rfl rfl 4 (by decide) (by decide +kernel) (Or.inl rfl) rfl (pc' := 18) rfl ?_
        obtain ⟨h2, hf⟩ := chk_s hf
        obtain ⟨h3, hf⟩ := chk_s hf
        refine wm_aald (f := refs q 110 8) (N := 8) (cA := τ.2.2.2.2.2.1) (ty := .array .int) C dX4_push_18 15 5 (x_at (by omega) rfl) rfl rfl h2 (refs_at h3) (pc' := 19) rfl ?_
        refine wm_iload_n C dX4_push_19 2 rfl (pc' := 20) rfl ?_
        refine wm_aload_n C dX4_push_20 1 rfl (pc' := 21) rfl ?_
        refine x_get (v := .ref (q 66)) C dX4_push_21 inX5_X4_push 1 (by omega) rfl rfl 2 (by decide) (by decide +kernel) (Or.inl rfl) rfl (pc' := 24) rfl ?_
        refine wm_iload_n C dX4_push_24 2 rfl (pc' := 25) rfl ?_
        obtain ⟨h4, hf⟩ := chk_s hf
        obtain ⟨h5, hf⟩ := chk_s hf
        refine wm_aald (f := refs q 200 nc) (N := 12) (cA := τ.2.2.2.2.1) (ty := .object "WideningCracks$Crack") C dX4_push_25 10 4 (x_at (by omega) rfl) rfl rfl h4 (refs_at h5) (pc' := 26) rfl ?_
        obtain ⟨h6, hf⟩ := chk_s hf
        refine x_getC (ref := "WideningCracks$Crack") (v := .int (gA s 8 x2.toNatClampNeg)) C dX4_push_26 in5_X4_push h6 3 (by decide) (by decide +kernel) (Or.inl rfl) rfl (pc' := 29) rfl ?_
        obtain ⟨h19, hf⟩ := chk_s hf
        obtain ⟨h7, hf⟩ := chk_s hf
        obtain ⟨s8, e9, hf⟩ := lets_s hf
        refine wm_iast (f := gA s (110 + (gI s 58).toNatClampNeg)) (N := 12) (cA := τ.1) C dX4_push_29 (33 + (gI s 58).toNatClampNeg) (x_at (by omega) (xC_kw h19)) rfl h7 (Wd' := xW τ q nc s8) (xW_set (e9 ▸ (xC_Akw h19)) (by rw [e9, xC_kw h19, gA_eq])) (pc' := 30) rfl ?_
        refine wm_aload_n C dX4_push_30 0 rfl (pc' := 31) rfl ?_
        refine x_get (v := .ref (q 72)) C dX4_push_31 inX4_X4_push 4 (by omega) rfl rfl 1 (by decide) (by decide +kernel) (Or.inl rfl) rfl (pc' := 34) rfl ?_
        refine wm_aload_n C dX4_push_34 0 rfl (pc' := 35) rfl ?_
        refine x_get (v := .int (gI s8 58)) C dX4_push_35 inX4_X4_push 4 (by omega) rfl rfl 4 (by decide) (by decide +kernel) (Or.inl rfl) rfl (pc' := 38) rfl ?_
        obtain ⟨h10, hf⟩ := chk_s hf
        obtain ⟨h11, hf⟩ := chk_s hf
        refine wm_aald (f := refs q 120 8) (N := 8) (cA := τ.2.2.2.2.2.1) (ty := .array .int) C dX4_push_38 16 5 (x_at (by omega) rfl) rfl rfl h10 (refs_at h11) (pc' := 39) rfl ?_
        refine wm_iload_n C dX4_push_39 2 rfl (pc' := 40) rfl ?_
        refine wm_aload_n C dX4_push_40 1 rfl (pc' := 41) rfl ?_
        refine x_get (v := .ref (q 66)) C dX4_push_41 inX5_X4_push 1 (by omega) rfl rfl 2 (by decide) (by decide +kernel) (Or.inl rfl) rfl (pc' := 44) rfl ?_
        refine wm_iload_n C dX4_push_44 2 rfl (pc' := 45) rfl ?_
        obtain ⟨h12, hf⟩ := chk_s hf
        obtain ⟨h13, hf⟩ := chk_s hf
        refine wm_aald (f := refs q 200 nc) (N := 12) (cA := τ.2.2.2.2.1) (ty := .object "WideningCracks$Crack") C dX4_push_45 10 4 (x_at (by omega) rfl) rfl rfl h12 (refs_at h13) (pc' := 46) rfl ?_
        obtain ⟨h14, hf⟩ := chk_s hf
        refine x_getC (ref := "WideningCracks$Crack") (v := .int (gA s8 10 x2.toNatClampNeg)) C dX4_push_46 in5_X4_push h14 4 (by decide) (by decide +kernel) (Or.inl rfl) rfl (pc' := 49) rfl ?_
        obtain ⟨h18, hf⟩ := chk_s hf
        obtain ⟨h15, hf⟩ := chk_s hf
        obtain ⟨s16, e17, hf⟩ := lets_s hf
        refine wm_iast (f := gA s8 (120 + (gI s8 58).toNatClampNeg)) (N := 12) (cA := τ.1) C dX4_push_49 (41 + (gI s8 58).toNatClampNeg) (x_at (by omega) (xC_ks h18)) rfl h15 (Wd' := xW τ q nc s16) (xW_set (e17 ▸ (xC_Aks h18)) (by rw [e17, xC_ks h18, gA_eq])) (pc' := 50) rfl ?_
        refine wm_iinc (v := x2 + 1) (lv' := [(2, .int (x2 + 1)), (0, .ref (q 63)), (1, .ref (q 60))]) C dX4_push_50 2 rfl rfl (by decide) rfl (pc' := 53) rfl ?_
        refine wm_goto C dX4_push_53 2 (by decide) ?_
        refine wm_sub (lv' := [(0, .ref (q 63)), (1, .ref (q 60)), (2, .int (x2 + 1))]) [1, 2, 0] rfl ?_
        exact ih (x2 + 1) s16 _ _ hf hE
  refine wm_ikonst (v := 0) C dX4_push_0 (by decide) (pc' := 1) rfl ?_
  refine wm_istore_n (lv' := [(2, .int 0), (0, .ref (q 63)), (1, .ref (q 60))]) C dX4_push_1 (by decide) rfl (pc' := 2) rfl ?_
  refine wm_sub (lv' := [(0, .ref (q 63)), (1, .ref (q 60)), (2, .int 0)]) [1, 2, 0] rfl ?_
  obtain ⟨v20, s21, h22, hf⟩ := bnd_s hf
  refine wL_2 FU 0 σ v20 s21 h22 ?_
  refine wm_aload_n C dX4_push_56 0 rfl (pc' := 57) rfl ?_
  refine x_get (v := .ref (q 73)) C dX4_push_57 inX4_X4_push 4 (by omega) rfl rfl 2 (by decide) (by decide +kernel) (Or.inl rfl) rfl (pc' := 60) rfl ?_
  refine wm_aload_n C dX4_push_60 0 rfl (pc' := 61) rfl ?_
  refine x_get (v := .int (gI s21 58)) C dX4_push_61 inX4_X4_push 4 (by omega) rfl rfl 4 (by decide) (by decide +kernel) (Or.inl rfl) rfl (pc' := 64) rfl ?_
  refine wm_aload_n C dX4_push_64 1 rfl (pc' := 65) rfl ?_
  refine x_get (v := .int (gI s21 4)) C dX4_push_65 inX5_X4_push 1 (by omega) rfl rfl 4 (by decide) (by decide +kernel) (Or.inl rfl) rfl (pc' := 68) rfl ?_
  obtain ⟨h23, hf⟩ := chk_s hf
  obtain ⟨s24, e25, hf⟩ := lets_s hf
  refine wm_iast (f := gA s21 73) (N := 8) (cA := τ.1) C dX4_push_68 17 (x_at (by omega) rfl) rfl h23 (Wd' := xW τ q nc s24) (xW_set (e25 ▸ xC_A73) (by rw [e25]; rfl)) (pc' := 69) rfl ?_
  refine wm_aload_n C dX4_push_69 0 rfl (pc' := 70) rfl ?_
  refine x_get (v := .ref (q 74)) C dX4_push_70 inX4_X4_push 4 (by omega) rfl rfl 3 (by decide) (by decide +kernel) (Or.inl rfl) rfl (pc' := 73) rfl ?_
  refine wm_aload_n C dX4_push_73 0 rfl (pc' := 74) rfl ?_
  refine x_get (v := .int (gI s24 58)) C dX4_push_74 inX4_X4_push 4 (by omega) rfl rfl 4 (by decide) (by decide +kernel) (Or.inl rfl) rfl (pc' := 77) rfl ?_
  refine wm_aload_n C dX4_push_77 1 rfl (pc' := 78) rfl ?_
  refine x_get (v := .int (gI s24 12)) C dX4_push_78 inX5_X4_push 1 (by omega) rfl rfl 5 (by decide) (by decide +kernel) (Or.inl rfl) rfl (pc' := 81) rfl ?_
  obtain ⟨h26, hf⟩ := chk_s hf
  obtain ⟨s27, e28, hf⟩ := lets_s hf
  refine wm_iast (f := gA s24 74) (N := 8) (cA := τ.1) C dX4_push_81 18 (x_at (by omega) rfl) rfl h26 (Wd' := xW τ q nc s27) (xW_set (e28 ▸ xC_A74) (by rw [e28]; rfl)) (pc' := 82) rfl ?_
  refine wm_aload_n C dX4_push_82 0 rfl (pc' := 83) rfl ?_
  refine wm_aload_n C dX4_push_83 0 rfl (pc' := 84) rfl ?_
  refine x_get (v := .int (gI s27 58)) C dX4_push_84 inX4_X4_push 4 (by omega) rfl rfl 4 (by decide) (by decide +kernel) (Or.inl rfl) rfl (pc' := 87) rfl ?_
  refine wm_ikonst (v := 1) C dX4_push_87 (by decide) (pc' := 88) rfl ?_
  refine wm_iadd C dX4_push_88 (pc' := 89) rfl ?_
  refine wm_bipush (v := 8) C dX4_push_89 (by decide) (pc' := 91) rfl ?_
  refine wm_irem C dX4_push_91 (by decide) (pc' := 92) rfl ?_
  obtain ⟨s30, e31, hf⟩ := lets_s hf
  refine x_put (σ' := s30) C dX4_push_92 inX4_X4_push tyX4 tyX4_ok nmX4 4 (by omega) rfl rfl 4 (by decide) (by decide +kernel) (Or.inl rfl) rfl rfl rfl rfl (Nat.le_of_ble_eq_true rfl) (e31 ▸ xC_I58) (e31 ▸ rfl) (pc' := 95) rfl ?_
  refine wm_aload_n C dX4_push_95 0 rfl (pc' := 96) rfl ?_
  refine wm_aload_n C dX4_push_96 0 rfl (pc' := 97) rfl ?_
  refine x_get (v := .int (gI s30 29)) C dX4_push_97 inX4_X4_push 4 (by omega) rfl rfl 5 (by decide) (by decide +kernel) (Or.inl rfl) rfl (pc' := 100) rfl ?_
  refine wm_ikonst (v := 1) C dX4_push_100 (by decide) (pc' := 101) rfl ?_
  refine wm_iadd C dX4_push_101 (pc' := 102) rfl ?_
  refine wm_bipush (v := 8) C dX4_push_102 (by decide) (pc' := 104) rfl ?_
  refine wm_minI C dX4_push_104 (by decide +kernel) (by decide +kernel) (by decide +kernel) (by decide +kernel) ⟨Nat.le_of_ble_eq_true rfl, Nat.le_of_ble_eq_true rfl⟩ ⟨Nat.zero_le _, Nat.zero_le _⟩ (pc' := 107) rfl ?_
  obtain ⟨s32, e33, hf⟩ := lets_s hf
  refine x_put (σ' := s32) C dX4_push_107 inX4_X4_push tyX4 tyX4_ok nmX4 4 (by omega) rfl rfl 5 (by decide) (by decide +kernel) (Or.inl rfl) rfl rfl rfl rfl (Nat.le_of_ble_eq_true rfl) (e33 ▸ xC_I29) (e33 ▸ rfl) (pc' := 110) rfl ?_
  obtain ⟨-, rfl⟩ := leaf_s hf
  exact wm_vret C dX4_push_110 (Nat.zero_le _) (Nat.zero_le _) FD.rf
def fX4_pop_L28 (nc : Nat) : Nat → Int32 → MS → Option (Unit × MS)
  | 0, _, _ => none
  | fu + 1, x2, s => if ¬ ((gI s 58) < 0 ∨ 8 ≤ (gI s 58).toNatClampNeg) then if (gA s 73 (gI s 58).toNatClampNeg) ≤ x2 then some ((), s) else if ¬ ((gI s 58) < 0 ∨ 8 ≤ (gI s 58).toNatClampNeg) then if (gI s 58).toNatClampNeg < 8 then if (gI s 58).toNatClampNeg < 8 then if ¬ (x2 < 0 ∨ 12 ≤ x2.toNatClampNeg) then bnd (fX5_setWidth nc x2 (gA s (110 + (gI s 58).toNatClampNeg) x2.toNatClampNeg) s) (fun r11 s12 => if ¬ (x2 < 0 ∨ 12 ≤ x2.toNatClampNeg) then if x2.toNatClampNeg < nc then if ¬ ((gI s12 58) < 0 ∨ 8 ≤ (gI s12 58).toNatClampNeg) then if (gI s12 58).toNatClampNeg < 8 then if (gI s12 58).toNatClampNeg < 8 then if ¬ (x2 < 0 ∨ 12 ≤ x2.toNatClampNeg) then if x2.toNatClampNeg < nc then lets (sA s12 10 x2.toNatClampNeg (gA s12 (120 + (gI s12 58).toNatClampNeg) x2.toNatClampNeg)) (fun s19 => fX4_pop_L28 nc fu (x2 + 1) s19) else none else none else none else none else none else none else none) else none else none else none else none else none
theorem fX4_pop_L28_s (nc : Nat) (fu : Nat) (x2 : Int32) (s : MS) : fX4_pop_L28 nc (fu + 1) x2 s = (if ¬ ((gI s 58) < 0 ∨ 8 ≤ (gI s 58).toNatClampNeg) then if (gA s 73 (gI s 58).toNatClampNeg) ≤ x2 then some ((), s) else if ¬ ((gI s 58) < 0 ∨ 8 ≤ (gI s 58).toNatClampNeg) then if (gI s 58).toNatClampNeg < 8 then if (gI s 58).toNatClampNeg < 8 then if ¬ (x2 < 0 ∨ 12 ≤ x2.toNatClampNeg) then bnd (fX5_setWidth nc x2 (gA s (110 + (gI s 58).toNatClampNeg) x2.toNatClampNeg) s) (fun r11 s12 => if ¬ (x2 < 0 ∨ 12 ≤ x2.toNatClampNeg) then if x2.toNatClampNeg < nc then if ¬ ((gI s12 58) < 0 ∨ 8 ≤ (gI s12 58).toNatClampNeg) then if (gI s12 58).toNatClampNeg < 8 then if (gI s12 58).toNatClampNeg < 8 then if ¬ (x2 < 0 ∨ 12 ≤ x2.toNatClampNeg) then if x2.toNatClampNeg < nc then lets (sA s12 10 x2.toNatClampNeg (gA s12 (120 + (gI s12 58).toNatClampNeg) x2.toNatClampNeg)) (fun s19 => fX4_pop_L28 nc fu (x2 + 1) s19) else none else none else none else none else none else none else none) else none else none else none else none else none) := rfl
def fX4_pop (nc : Nat) (σ : MS) : Option (Unit × MS) :=
  lets (sI σ 58 ((((gI σ 58) + 8) - 1) - (((gI σ 58) + 8) - 1) / 8 * 8)) (fun s2 => lets (sI s2 29 ((gI s2 29) - 1)) (fun s4 => bnd (fX4_pop_L28 nc FU 0 s4) (fun v24 s25 => if ¬ ((gI s25 58) < 0 ∨ 8 ≤ (gI s25 58).toNatClampNeg) then lets (sI s25 12 (gA s25 74 (gI s25 58).toNatClampNeg)) (fun s28 => some ((), s28)) else none)))
theorem in5_X4_pop : In5 wsX4_pop := ⟨by decide +kernel, by decide +kernel, by decide +kernel, by decide +kernel, by decide +kernel⟩
theorem inX4_X4_pop : ∀ w ∈ wsX40, w ∈ wsX4_pop := by decide +kernel
theorem inX5_X4_pop : ∀ w ∈ wsX50, w ∈ wsX4_pop := by decide +kernel
set_option maxHeartbeats 4000000 in
set_option maxRecDepth 100000 in
theorem kX4_pop (l : Launch) (D : va_G) (τ : CId) (q : Nat → Nat) (nc : Nat) (σ : MS) (sE : MS) (hf : fX4_pop nc σ = some ((), sE)) : Ct l D τ yX4_pop wsX4_pop { frames := 1, cells := 0, slots := 0, locals := 22 } [.ref (q 63), .ref (q 60)] (xW τ q nc σ) (FD (xW τ q nc sE) none) := by
  unfold fX4_pop at hf
  refine ct_of (cc := cX4_pop) (maxL := 3) (ret := none) (by decide) rfl (Nat.le_of_ble_eq_true rfl) (fun Γ C => ?_)
  refine wm_lv (lv' := [(0, .ref (q 63)), (1, .ref (q 60))]) rfl ?_
  have wL_28 : ∀ (fu : Nat) (x2 : Int32) (s : MS) (v : Unit) (s' : MS), fX4_pop_L28 nc fu x2 s = some (v, s') → WM l D Γ 3 0 0 (xW τ q nc s') 83 [(0, .ref (q 63)), (1, .ref (q 60))] [] → WM l D Γ 3 0 0 (xW τ q nc s) 28 [(0, .ref (q 63)), (1, .ref (q 60)), (2, .int x2)] [] := by
    intro fu
    induction fu with
    | zero => intro x2 s v s' hf hE; exact absurd hf (fun h => nomatch (show (none : Option _) = some _ from h))
    | succ fu ih =>
      intro x2 s v s' hf hE
      rw [fX4_pop_L28_s] at hf
      refine wm_iload_n C dX4_pop_28 2 rfl (pc' := 29) rfl ?_
      refine wm_aload_n C dX4_pop_29 0 rfl (pc' := 30) rfl ?_
      refine x_get (v := .ref (q 73)) C dX4_pop_30 inX4_X4_pop 4 (by omega) rfl rfl 2 (by decide) (by decide +kernel) (Or.inl rfl) rfl (pc' := 33) rfl ?_
      refine wm_aload_n C dX4_pop_33 0 rfl (pc' := 34) rfl ?_
      refine x_get (v := .int (gI s 58)) C dX4_pop_34 inX4_X4_pop 4 (by omega) rfl rfl 4 (by decide) (by decide +kernel) (Or.inl rfl) rfl (pc' := 37) rfl ?_
      obtain ⟨h6, hf⟩ := chk_s hf
      refine wm_iald (f := gA s 73) (N := 8) (cA := τ.1) C dX4_pop_37 17 (x_at (by omega) rfl) rfl h6 (pc' := 38) rfl ?_
      refine wm_icmp_ge C dX4_pop_38 83 (by decide) (pc' := 41) rfl (fun h7 => ?_) (fun h7 => ?_)
      · have hf := ite_t h7 hf
        obtain ⟨rfl, rfl⟩ := leaf_s hf
        refine wm_sub (lv' := [(0, .ref (q 63)), (1, .ref (q 60))]) [0, 1] rfl ?_
        exact hE
      · have hf := ite_f h7 hf
        refine wm_aload_n C dX4_pop_41 1 rfl (pc' := 42) rfl ?_
        refine wm_iload_n C dX4_pop_42 2 rfl (pc' := 43) rfl ?_
        refine wm_aload_n C dX4_pop_43 0 rfl (pc' := 44) rfl ?_
        refine x_get (v := .ref (q 71)) C dX4_pop_44 inX4_X4_pop 4 (by omega) rfl rfl 0 (by decide) (by decide +kernel) (Or.inl rfl) rfl (pc' := 47) rfl ?_
        refine wm_aload_n C dX4_pop_47 0 rfl (pc' := 48) rfl ?_
        refine x_get (v := .int (gI s 58)) C dX4_pop_48 inX4_X4_pop 4 (by omega) rfl rfl 4 (by decide) (by decide +kernel) (Or.inl rfl) rfl (pc' := 51) rfl ?_
        obtain ⟨h8, hf⟩ := chk_s hf
        obtain ⟨h9, hf⟩ := chk_s hf
        refine wm_aald (f := refs q 110 8) (N := 8) (cA := τ.2.2.2.2.2.1) (ty := .array .int) C dX4_pop_51 15 5 (x_at (by omega) rfl) rfl rfl h8 (refs_at h9) (pc' := 52) rfl ?_
        refine wm_iload_n C dX4_pop_52 2 rfl (pc' := 53) rfl ?_
        obtain ⟨h23, hf⟩ := chk_s hf
        obtain ⟨h10, hf⟩ := chk_s hf
        refine wm_iald (f := gA s (110 + (gI s 58).toNatClampNeg)) (N := 12) (cA := τ.1) C dX4_pop_53 (33 + (gI s 58).toNatClampNeg) (x_at (by omega) (xC_kw h23)) rfl h10 (pc' := 54) rfl ?_
        obtain ⟨r11, s12, h13, hf⟩ := bnd_s hf
        refine wm_callVd (nn := 2) (As := [.int x2, .int (gA s (110 + (gI s 58).toNatClampNeg) x2.toNatClampNeg)]) (rest := []) (st' := []) C dX4_pop_54 (kX5_setWidth l D τ q nc s x2 (gA s (110 + (gI s 58).toNatClampNeg) x2.toNatClampNeg) s12 h13) gX4_pop_X5_setWidth rfl (by decide +kernel) ⟨Nat.le_of_ble_eq_true rfl, Nat.le_of_ble_eq_true rfl⟩ rfl rfl ⟨Nat.zero_le _, Nat.zero_le _⟩ 1 (x_at (by omega) rfl) rfl rfl rfl (Nat.le_of_ble_eq_true rfl) rfl (pc' := 57) rfl ?_
        refine wm_aload_n C dX4_pop_57 1 rfl (pc' := 58) rfl ?_
        refine x_get (v := .ref (q 66)) C dX4_pop_58 inX5_X4_pop 1 (by omega) rfl rfl 2 (by decide) (by decide +kernel) (Or.inl rfl) rfl (pc' := 61) rfl ?_
        refine wm_iload_n C dX4_pop_61 2 rfl (pc' := 62) rfl ?_
        obtain ⟨h14, hf⟩ := chk_s hf
        obtain ⟨h15, hf⟩ := chk_s hf
        refine wm_aald (f := refs q 200 nc) (N := 12) (cA := τ.2.2.2.2.1) (ty := .object "WideningCracks$Crack") C dX4_pop_62 10 4 (x_at (by omega) rfl) rfl rfl h14 (refs_at h15) (pc' := 63) rfl ?_
        refine wm_aload_n C dX4_pop_63 0 rfl (pc' := 64) rfl ?_
        refine x_get (v := .ref (q 72)) C dX4_pop_64 inX4_X4_pop 4 (by omega) rfl rfl 1 (by decide) (by decide +kernel) (Or.inl rfl) rfl (pc' := 67) rfl ?_
        refine wm_aload_n C dX4_pop_67 0 rfl (pc' := 68) rfl ?_
        refine x_get (v := .int (gI s12 58)) C dX4_pop_68 inX4_X4_pop 4 (by omega) rfl rfl 4 (by decide) (by decide +kernel) (Or.inl rfl) rfl (pc' := 71) rfl ?_
        obtain ⟨h16, hf⟩ := chk_s hf
        obtain ⟨h17, hf⟩ := chk_s hf
        refine wm_aald (f := refs q 120 8) (N := 8) (cA := τ.2.2.2.2.2.1) (ty := .array .int) C dX4_pop_71 16 5 (x_at (by omega) rfl) rfl rfl h16 (refs_at h17) (pc' := 72) rfl ?_
        refine wm_iload_n C dX4_pop_72 2 rfl (pc' := 73) rfl ?_
        obtain ⟨h22, hf⟩ := chk_s hf
        obtain ⟨h18, hf⟩ := chk_s hf
        refine wm_iald (f := gA s12 (120 + (gI s12 58).toNatClampNeg)) (N := 12) (cA := τ.1) C dX4_pop_73 (41 + (gI s12 58).toNatClampNeg) (x_at (by omega) (xC_ks h22)) rfl h18 (pc' := 74) rfl ?_
        obtain ⟨h21, hf⟩ := chk_s hf
        obtain ⟨s19, e20, hf⟩ := lets_s hf
        refine x_putCs C dX4_pop_74 in5_X4_pop h21 (by decide +kernel) (pc' := 77) rfl ?_
        rw [← e20]
        refine wm_iinc (v := x2 + 1) (lv' := [(2, .int (x2 + 1)), (0, .ref (q 63)), (1, .ref (q 60))]) C dX4_pop_77 2 rfl rfl (by decide) rfl (pc' := 80) rfl ?_
        refine wm_goto C dX4_pop_80 28 (by decide) ?_
        refine wm_sub (lv' := [(0, .ref (q 63)), (1, .ref (q 60)), (2, .int (x2 + 1))]) [1, 2, 0] rfl ?_
        exact ih (x2 + 1) s19 _ _ hf hE
  refine wm_aload_n C dX4_pop_0 0 rfl (pc' := 1) rfl ?_
  refine wm_aload_n C dX4_pop_1 0 rfl (pc' := 2) rfl ?_
  refine x_get (v := .int (gI σ 58)) C dX4_pop_2 inX4_X4_pop 4 (by omega) rfl rfl 4 (by decide) (by decide +kernel) (Or.inl rfl) rfl (pc' := 5) rfl ?_
  refine wm_bipush (v := 8) C dX4_pop_5 (by decide) (pc' := 7) rfl ?_
  refine wm_iadd C dX4_pop_7 (pc' := 8) rfl ?_
  refine wm_ikonst (v := 1) C dX4_pop_8 (by decide) (pc' := 9) rfl ?_
  refine wm_isub C dX4_pop_9 (pc' := 10) rfl ?_
  refine wm_bipush (v := 8) C dX4_pop_10 (by decide) (pc' := 12) rfl ?_
  refine wm_irem C dX4_pop_12 (by decide) (pc' := 13) rfl ?_
  obtain ⟨s2, e3, hf⟩ := lets_s hf
  refine x_put (σ' := s2) C dX4_pop_13 inX4_X4_pop tyX4 tyX4_ok nmX4 4 (by omega) rfl rfl 4 (by decide) (by decide +kernel) (Or.inl rfl) rfl rfl rfl rfl (Nat.le_of_ble_eq_true rfl) (e3 ▸ xC_I58) (e3 ▸ rfl) (pc' := 16) rfl ?_
  refine wm_aload_n C dX4_pop_16 0 rfl (pc' := 17) rfl ?_
  refine wm_dup C dX4_pop_17 rfl (pc' := 18) rfl ?_
  refine x_get (v := .int (gI s2 29)) C dX4_pop_18 inX4_X4_pop 4 (by omega) rfl rfl 5 (by decide) (by decide +kernel) (Or.inl rfl) rfl (pc' := 21) rfl ?_
  refine wm_ikonst (v := 1) C dX4_pop_21 (by decide) (pc' := 22) rfl ?_
  refine wm_isub C dX4_pop_22 (pc' := 23) rfl ?_
  obtain ⟨s4, e5, hf⟩ := lets_s hf
  refine x_put (σ' := s4) C dX4_pop_23 inX4_X4_pop tyX4 tyX4_ok nmX4 4 (by omega) rfl rfl 5 (by decide) (by decide +kernel) (Or.inl rfl) rfl rfl rfl rfl (Nat.le_of_ble_eq_true rfl) (e5 ▸ xC_I29) (e5 ▸ rfl) (pc' := 26) rfl ?_
  refine wm_ikonst (v := 0) C dX4_pop_26 (by decide) (pc' := 27) rfl ?_
  refine wm_istore_n (lv' := [(2, .int 0), (0, .ref (q 63)), (1, .ref (q 60))]) C dX4_pop_27 (by decide) rfl (pc' := 28) rfl ?_
  refine wm_sub (lv' := [(0, .ref (q 63)), (1, .ref (q 60)), (2, .int 0)]) [1, 2, 0] rfl ?_
  obtain ⟨v24, s25, h26, hf⟩ := bnd_s hf
  refine wL_28 FU 0 s4 v24 s25 h26 ?_
  refine wm_aload_n C dX4_pop_83 1 rfl (pc' := 84) rfl ?_
  refine wm_aload_n C dX4_pop_84 0 rfl (pc' := 85) rfl ?_
  refine x_get (v := .ref (q 74)) C dX4_pop_85 inX4_X4_pop 4 (by omega) rfl rfl 3 (by decide) (by decide +kernel) (Or.inl rfl) rfl (pc' := 88) rfl ?_
  refine wm_aload_n C dX4_pop_88 0 rfl (pc' := 89) rfl ?_
  refine x_get (v := .int (gI s25 58)) C dX4_pop_89 inX4_X4_pop 4 (by omega) rfl rfl 4 (by decide) (by decide +kernel) (Or.inl rfl) rfl (pc' := 92) rfl ?_
  obtain ⟨h27, hf⟩ := chk_s hf
  refine wm_iald (f := gA s25 74) (N := 8) (cA := τ.1) C dX4_pop_92 18 (x_at (by omega) rfl) rfl h27 (pc' := 93) rfl ?_
  obtain ⟨s28, e29, hf⟩ := lets_s hf
  refine x_put (σ' := s28) C dX4_pop_93 inX5_X4_pop tyX5 tyX5_ok nmX5 1 (by omega) rfl rfl 5 (by decide) (by decide +kernel) (Or.inl rfl) rfl rfl rfl rfl (Nat.le_of_ble_eq_true rfl) (e29 ▸ xC_I12) (e29 ▸ rfl) (pc' := 96) rfl ?_
  obtain ⟨-, rfl⟩ := leaf_s hf
  exact wm_vret C dX4_pop_96 (Nat.zero_le _) (Nat.zero_le _) FD.rf
