def fX12_among (x0 : Int32) (x1 : Int32) (x2 : Int32) : Option (Int32 × Unit) :=
  if x0 < x1 then some (0, ()) else if x2 < x0 then some (0, ()) else some (1, ())
set_option maxHeartbeats 4000000 in
set_option maxRecDepth 100000 in
theorem kX12_among (l : Launch) (D : va_G) (τ : CId) (x0 : Int32) (x1 : Int32) (x2 : Int32) (rE : Int32) (hf : fX12_among x0 x1 x2 = some (rE, ())) : Ct l D τ yX12_among wsX12_among { frames := 0, cells := 0, slots := 0, locals := 0 } [.int x0, .int x1, .int x2] [] (FD [] (some (.int rE))) := by
  unfold fX12_among at hf
  refine ct_of (cc := cX12_among) (maxL := 3) (ret := (some .boolean)) (by decide) rfl (Nat.le_of_ble_eq_true rfl) (fun Γ C => ?_)
  refine wm_lv (lv' := [(0, .int x0), (1, .int x1), (2, .int x2)]) rfl ?_
  have s : Unit := ()
  refine wm_iload_n C dX12_among_0 0 rfl (pc' := 1) rfl ?_
  refine wm_iload_n C dX12_among_1 1 rfl (pc' := 2) rfl ?_
  refine wm_icmp_lt C dX12_among_2 14 (by decide) (pc' := 5) rfl (fun h1 => ?_) (fun h1 => ?_)
  · have hf := ite_t h1 hf
    refine wm_ikonst (v := 0) C dX12_among_14 (by decide) (pc' := 15) rfl ?_
    obtain ⟨rfl, -⟩ := leaf_s hf
    exact wm_zret C dX12_among_15 (by decide) (Nat.zero_le _) (Nat.zero_le _) FD.rf
  · have hf := ite_f h1 hf
    refine wm_iload_n C dX12_among_5 0 rfl (pc' := 6) rfl ?_
    refine wm_iload_n C dX12_among_6 2 rfl (pc' := 7) rfl ?_
    refine wm_icmp_gt C dX12_among_7 14 (by decide) (pc' := 10) rfl (fun h2 => ?_) (fun h2 => ?_)
    · have hf := ite_t h2 hf
      refine wm_ikonst (v := 0) C dX12_among_14 (by decide) (pc' := 15) rfl ?_
      obtain ⟨rfl, -⟩ := leaf_s hf
      exact wm_zret C dX12_among_15 (by decide) (Nat.zero_le _) (Nat.zero_le _) FD.rf
    · have hf := ite_f h2 hf
      refine wm_ikonst (v := 1) C dX12_among_10 (by decide) (pc' := 11) rfl ?_
      refine wm_goto C dX12_among_11 15 (by decide) ?_
      obtain ⟨rfl, -⟩ := leaf_s hf
      exact wm_zret C dX12_among_15 (by decide) (Nat.zero_le _) (Nat.zero_le _) FD.rf
def fX12_lost : Option (Int64 × Unit) :=
  some ((-9223372036854775808), ())
set_option maxHeartbeats 4000000 in
set_option maxRecDepth 100000 in
theorem kX12_lost (l : Launch) (D : va_G) (τ : CId) (rE : Int64) (hf : fX12_lost = some (rE, ())) : Ct l D τ yX12_lost wsX12_lost { frames := 0, cells := 0, slots := 0, locals := 0 } [] [] (FD [] (some (.long rE))) := by
  unfold fX12_lost at hf
  refine ct_of (cc := cX12_lost) (maxL := 0) (ret := (some .long)) (by decide) rfl (Nat.le_of_ble_eq_true rfl) (fun Γ C => ?_)
  refine wm_lv (lv' := []) rfl ?_
  have s : Unit := ()
  refine wm_ldc2 (v := (-9223372036854775808)) C dX12_lost_0 (by decide +kernel) (pc' := 3) rfl ?_
  obtain ⟨rfl, -⟩ := leaf_s hf
  exact wm_lret C dX12_lost_3 (Nat.zero_le _) (Nat.zero_le _) FD.rf
def fX12_noJoint (x1 : Int32) (σ : MS) : Option (Int32 × MS) :=
  bnd (fX12_among x1 0 ((gI σ 1) - 1)) (fun r1 u2 => if ¬ r1 = 0 then some (0, σ) else some (1, σ))
theorem in_X12_noJoint : ∀ w ∈ u_ws RX12 TX12 39, w ∈ wsX12_noJoint := by decide +kernel
set_option maxHeartbeats 4000000 in
set_option maxRecDepth 100000 in
theorem kX12_noJoint (l : Launch) (D : va_G) (τ : CId) (q : Nat → Nat) (σ : MS) (x1 : Int32) (rE : Int32) (sE : MS) (hf : fX12_noJoint x1 σ = some (rE, sE)) : Ct l D τ yX12_noJoint wsX12_noJoint { frames := 1, cells := 0, slots := 0, locals := 22 } [.ref (q 0), .int x1] (mW τ q σ) (FD (mW τ q sE) (some (.int rE))) := by
  unfold fX12_noJoint at hf
  refine ct_of (cc := cX12_noJoint) (maxL := 2) (ret := (some .boolean)) (by decide) rfl (Nat.le_of_ble_eq_true rfl) (fun Γ C => ?_)
  refine wm_lv (lv' := [(0, .ref (q 0)), (1, .int x1)]) rfl ?_
  refine wm_iload_n C dX12_noJoint_0 1 rfl (pc' := 1) rfl ?_
  refine wm_ikonst (v := 0) C dX12_noJoint_1 (by decide) (pc' := 2) rfl ?_
  refine wm_aload_n C dX12_noJoint_2 0 rfl (pc' := 3) rfl ?_
  refine m_get (v := .int (gI σ 1)) C dX12_noJoint_3 in_X12_noJoint 1 (by decide) (by decide +kernel) rfl rfl (pc' := 6) rfl ?_
  refine wm_ikonst (v := 1) C dX12_noJoint_6 (by decide) (pc' := 7) rfl ?_
  refine wm_isub C dX12_noJoint_7 (pc' := 8) rfl ?_
  obtain ⟨r1, u2, h3, hf⟩ := bnd_s hf
  refine wm_callSd (nn := 3) (As := [.int x1, .int 0, .int ((gI σ 1) - 1)]) (rest := []) (st' := [.int r1]) C dX12_noJoint_8 (kX12_among l D τ x1 0 ((gI σ 1) - 1) r1 h3) gX12_noJoint_X12_among rfl (by decide +kernel) ⟨Nat.le_of_ble_eq_true rfl, Nat.le_of_ble_eq_true rfl⟩ rfl rfl ⟨Nat.zero_le _, Nat.zero_le _⟩ rfl rfl (Nat.le_of_ble_eq_true rfl) rfl (pc' := 11) rfl ?_
  refine wm_if_ne C dX12_noJoint_11 18 (by decide) (pc' := 14) rfl (fun h4 => ?_) (fun h4 => ?_)
  · have hf := ite_t h4 hf
    refine wm_ikonst (v := 0) C dX12_noJoint_18 (by decide) (pc' := 19) rfl ?_
    obtain ⟨rfl, rfl⟩ := leaf_s hf
    exact wm_zret C dX12_noJoint_19 (by decide) (Nat.zero_le _) (Nat.zero_le _) FD.rf
  · have hf := ite_f (fun h => h h4) hf
    refine wm_ikonst (v := 1) C dX12_noJoint_14 (by decide) (pc' := 15) rfl ?_
    refine wm_goto C dX12_noJoint_15 19 (by decide) ?_
    obtain ⟨rfl, rfl⟩ := leaf_s hf
    exact wm_zret C dX12_noJoint_19 (by decide) (Nat.zero_le _) (Nat.zero_le _) FD.rf
def fX12_noCrack (x1 : Int32) (σ : MS) : Option (Int32 × MS) :=
  bnd (fX12_among x1 0 ((gI σ 4) - 1)) (fun r1 u2 => if ¬ r1 = 0 then some (0, σ) else some (1, σ))
theorem in_X12_noCrack : ∀ w ∈ u_ws RX12 TX12 39, w ∈ wsX12_noCrack := by decide +kernel
set_option maxHeartbeats 4000000 in
set_option maxRecDepth 100000 in
theorem kX12_noCrack (l : Launch) (D : va_G) (τ : CId) (q : Nat → Nat) (σ : MS) (x1 : Int32) (rE : Int32) (sE : MS) (hf : fX12_noCrack x1 σ = some (rE, sE)) : Ct l D τ yX12_noCrack wsX12_noCrack { frames := 1, cells := 0, slots := 0, locals := 22 } [.ref (q 0), .int x1] (mW τ q σ) (FD (mW τ q sE) (some (.int rE))) := by
  unfold fX12_noCrack at hf
  refine ct_of (cc := cX12_noCrack) (maxL := 2) (ret := (some .boolean)) (by decide) rfl (Nat.le_of_ble_eq_true rfl) (fun Γ C => ?_)
  refine wm_lv (lv' := [(0, .ref (q 0)), (1, .int x1)]) rfl ?_
  refine wm_iload_n C dX12_noCrack_0 1 rfl (pc' := 1) rfl ?_
  refine wm_ikonst (v := 0) C dX12_noCrack_1 (by decide) (pc' := 2) rfl ?_
  refine wm_aload_n C dX12_noCrack_2 0 rfl (pc' := 3) rfl ?_
  refine m_get (v := .int (gI σ 4)) C dX12_noCrack_3 in_X12_noCrack 4 (by decide) (by decide +kernel) rfl rfl (pc' := 6) rfl ?_
  refine wm_ikonst (v := 1) C dX12_noCrack_6 (by decide) (pc' := 7) rfl ?_
  refine wm_isub C dX12_noCrack_7 (pc' := 8) rfl ?_
  obtain ⟨r1, u2, h3, hf⟩ := bnd_s hf
  refine wm_callSd (nn := 3) (As := [.int x1, .int 0, .int ((gI σ 4) - 1)]) (rest := []) (st' := [.int r1]) C dX12_noCrack_8 (kX12_among l D τ x1 0 ((gI σ 4) - 1) r1 h3) gX12_noCrack_X12_among rfl (by decide +kernel) ⟨Nat.le_of_ble_eq_true rfl, Nat.le_of_ble_eq_true rfl⟩ rfl rfl ⟨Nat.zero_le _, Nat.zero_le _⟩ rfl rfl (Nat.le_of_ble_eq_true rfl) rfl (pc' := 11) rfl ?_
  refine wm_if_ne C dX12_noCrack_11 18 (by decide) (pc' := 14) rfl (fun h4 => ?_) (fun h4 => ?_)
  · have hf := ite_t h4 hf
    refine wm_ikonst (v := 0) C dX12_noCrack_18 (by decide) (pc' := 19) rfl ?_
    obtain ⟨rfl, rfl⟩ := leaf_s hf
    exact wm_zret C dX12_noCrack_19 (by decide) (Nat.zero_le _) (Nat.zero_le _) FD.rf
  · have hf := ite_f (fun h => h h4) hf
    refine wm_ikonst (v := 1) C dX12_noCrack_14 (by decide) (pc' := 15) rfl ?_
    refine wm_goto C dX12_noCrack_15 19 (by decide) ?_
    obtain ⟨rfl, rfl⟩ := leaf_s hf
    exact wm_zret C dX12_noCrack_19 (by decide) (Nat.zero_le _) (Nat.zero_le _) FD.rf
def fX12_noCore (x0 : Int32) : Option (Int32 × Unit) :=
  bnd (fX12_among x0 0 3) (fun r1 u2 => if ¬ r1 = 0 then some (0, ()) else some (1, ()))
set_option maxHeartbeats 4000000 in
set_option maxRecDepth 100000 in
theorem kX12_noCore (l : Launch) (D : va_G) (τ : CId) (x0 : Int32) (rE : Int32) (hf : fX12_noCore x0 = some (rE, ())) : Ct l D τ yX12_noCore wsX12_noCore { frames := 1, cells := 0, slots := 0, locals := 22 } [.int x0] [] (FD [] (some (.int rE))) := by
  unfold fX12_noCore at hf
  refine ct_of (cc := cX12_noCore) (maxL := 1) (ret := (some .boolean)) (by decide) rfl (Nat.le_of_ble_eq_true rfl) (fun Γ C => ?_)
  refine wm_lv (lv' := [(0, .int x0)]) rfl ?_
  have s : Unit := ()
  refine wm_iload_n C dX12_noCore_0 0 rfl (pc' := 1) rfl ?_
  refine wm_ikonst (v := 0) C dX12_noCore_1 (by decide) (pc' := 2) rfl ?_
  refine wm_ikonst (v := 3) C dX12_noCore_2 (by decide) (pc' := 3) rfl ?_
  obtain ⟨r1, u2, h3, hf⟩ := bnd_s hf
  refine wm_callSd (nn := 3) (As := [.int x0, .int 0, .int 3]) (rest := []) (st' := [.int r1]) C dX12_noCore_3 (kX12_among l D τ x0 0 3 r1 h3) gX12_noCore_X12_among rfl (by decide +kernel) ⟨Nat.le_of_ble_eq_true rfl, Nat.le_of_ble_eq_true rfl⟩ rfl rfl ⟨Nat.zero_le _, Nat.zero_le _⟩ rfl rfl (Nat.le_of_ble_eq_true rfl) rfl (pc' := 6) rfl ?_
  refine wm_if_ne C dX12_noCore_6 13 (by decide) (pc' := 9) rfl (fun h4 => ?_) (fun h4 => ?_)
  · have hf := ite_t h4 hf
    refine wm_ikonst (v := 0) C dX12_noCore_13 (by decide) (pc' := 14) rfl ?_
    obtain ⟨rfl, -⟩ := leaf_s hf
    exact wm_zret C dX12_noCore_14 (by decide) (Nat.zero_le _) (Nat.zero_le _) FD.rf
  · have hf := ite_f (fun h => h h4) hf
    refine wm_ikonst (v := 1) C dX12_noCore_9 (by decide) (pc' := 10) rfl ?_
    refine wm_goto C dX12_noCore_10 14 (by decide) ?_
    obtain ⟨rfl, -⟩ := leaf_s hf
    exact wm_zret C dX12_noCore_14 (by decide) (Nat.zero_le _) (Nat.zero_le _) FD.rf
def fX12_isBeyond (x0 : Int32) (x1 : Int32) (x2 : Int32) : Option (Int32 × Unit) :=
  if x0 < 0 then some (1, ()) else if x1 < 0 then some (1, ()) else if (lg_cmp (x0.toInt64 + x1.toInt64) x2.toInt64) ≤ 0 then some (0, ()) else some (1, ())
set_option maxHeartbeats 4000000 in
set_option maxRecDepth 100000 in
theorem kX12_isBeyond (l : Launch) (D : va_G) (τ : CId) (x0 : Int32) (x1 : Int32) (x2 : Int32) (rE : Int32) (hf : fX12_isBeyond x0 x1 x2 = some (rE, ())) : Ct l D τ yX12_isBeyond wsX12_isBeyond { frames := 0, cells := 0, slots := 0, locals := 0 } [.int x0, .int x1, .int x2] [] (FD [] (some (.int rE))) := by
  unfold fX12_isBeyond at hf
  refine ct_of (cc := cX12_isBeyond) (maxL := 3) (ret := (some .boolean)) (by decide) rfl (Nat.le_of_ble_eq_true rfl) (fun Γ C => ?_)
  refine wm_lv (lv' := [(0, .int x0), (1, .int x1), (2, .int x2)]) rfl ?_
  have s : Unit := ()
  refine wm_iload_n C dX12_isBeyond_0 0 rfl (pc' := 1) rfl ?_
  refine wm_if_lt C dX12_isBeyond_1 19 (by decide) (pc' := 4) rfl (fun h1 => ?_) (fun h1 => ?_)
  · have hf := ite_t h1 hf
    refine wm_ikonst (v := 1) C dX12_isBeyond_19 (by decide) (pc' := 20) rfl ?_
    refine wm_goto C dX12_isBeyond_20 24 (by decide) ?_
    obtain ⟨rfl, -⟩ := leaf_s hf
    exact wm_zret C dX12_isBeyond_24 (by decide) (Nat.zero_le _) (Nat.zero_le _) FD.rf
  · have hf := ite_f h1 hf
    refine wm_iload_n C dX12_isBeyond_4 1 rfl (pc' := 5) rfl ?_
    refine wm_if_lt C dX12_isBeyond_5 19 (by decide) (pc' := 8) rfl (fun h2 => ?_) (fun h2 => ?_)
    · have hf := ite_t h2 hf
      refine wm_ikonst (v := 1) C dX12_isBeyond_19 (by decide) (pc' := 20) rfl ?_
      refine wm_goto C dX12_isBeyond_20 24 (by decide) ?_
      obtain ⟨rfl, -⟩ := leaf_s hf
      exact wm_zret C dX12_isBeyond_24 (by decide) (Nat.zero_le _) (Nat.zero_le _) FD.rf
    · have hf := ite_f h2 hf
      refine wm_iload_n C dX12_isBeyond_8 0 rfl (pc' := 9) rfl ?_
      refine wm_i2l C dX12_isBeyond_9 (pc' := 10) rfl ?_
      refine wm_iload_n C dX12_isBeyond_10 1 rfl (pc' := 11) rfl ?_
      refine wm_i2l C dX12_isBeyond_11 (pc' := 12) rfl ?_
      refine wm_ladd C dX12_isBeyond_12 (pc' := 13) rfl ?_
      refine wm_iload_n C dX12_isBeyond_13 2 rfl (pc' := 14) rfl ?_
      refine wm_i2l C dX12_isBeyond_14 (pc' := 15) rfl ?_
      refine wm_lcmp C dX12_isBeyond_15 (pc' := 16) rfl ?_
      refine wm_if_le C dX12_isBeyond_16 23 (by decide) (pc' := 19) rfl (fun h3 => ?_) (fun h3 => ?_)
      · have hf := ite_t h3 hf
        refine wm_ikonst (v := 0) C dX12_isBeyond_23 (by decide) (pc' := 24) rfl ?_
        obtain ⟨rfl, -⟩ := leaf_s hf
        exact wm_zret C dX12_isBeyond_24 (by decide) (Nat.zero_le _) (Nat.zero_le _) FD.rf
      · have hf := ite_f h3 hf
        refine wm_ikonst (v := 1) C dX12_isBeyond_19 (by decide) (pc' := 20) rfl ?_
        refine wm_goto C dX12_isBeyond_20 24 (by decide) ?_
        obtain ⟨rfl, -⟩ := leaf_s hf
        exact wm_zret C dX12_isBeyond_24 (by decide) (Nat.zero_le _) (Nat.zero_le _) FD.rf
def fX12_joint (σ : MS) : Option (Int32 × MS) :=
  if ¬ (gI σ 1) = 6 then if ¬ ((gI σ 1) < 0 ∨ 6 ≤ (gI σ 1).toNatClampNeg) then lets (sA σ 2 (gI σ 1).toNatClampNeg (vp_nar .boolean 0)) (fun s3 => lets (sI s3 1 ((gI s3 1) + 1)) (fun s5 => some ((gI s5 1) - 1, s5))) else none else some ((-4), σ)
theorem in_X12_joint : ∀ w ∈ u_ws RX12 TX12 39, w ∈ wsX12_joint := by decide +kernel
set_option maxHeartbeats 4000000 in
set_option maxRecDepth 100000 in
theorem kX12_joint (l : Launch) (D : va_G) (τ : CId) (q : Nat → Nat) (σ : MS) (rE : Int32) (sE : MS) (hf : fX12_joint σ = some (rE, sE)) : Ct l D τ yX12_joint wsX12_joint { frames := 0, cells := 0, slots := 0, locals := 0 } [.ref (q 0)] (mW τ q σ) (FD (mW τ q sE) (some (.int rE))) := by
  unfold fX12_joint at hf
  refine ct_of (cc := cX12_joint) (maxL := 1) (ret := (some .int)) (by decide) rfl (Nat.le_of_ble_eq_true rfl) (fun Γ C => ?_)
  refine wm_lv (lv' := [(0, .ref (q 0))]) rfl ?_
  refine wm_aload_n C dX12_joint_0 0 rfl (pc' := 1) rfl ?_
  refine m_get (v := .int (gI σ 1)) C dX12_joint_1 in_X12_joint 1 (by decide) (by decide +kernel) rfl rfl (pc' := 4) rfl ?_
  refine wm_bipush (v := 6) C dX12_joint_4 (by decide) (pc' := 6) rfl ?_
  refine wm_icmp_ne C dX12_joint_6 12 (by decide) (pc' := 9) rfl (fun h1 => ?_) (fun h1 => ?_)
  · have hf := ite_t h1 hf
    refine wm_aload_n C dX12_joint_12 0 rfl (pc' := 13) rfl ?_
    refine m_get (v := .ref (q 2)) C dX12_joint_13 in_X12_joint 2 (by decide) (by decide +kernel) rfl rfl (pc' := 16) rfl ?_
    refine wm_aload_n C dX12_joint_16 0 rfl (pc' := 17) rfl ?_
    refine m_get (v := .int (gI σ 1)) C dX12_joint_17 in_X12_joint 1 (by decide) (by decide +kernel) rfl rfl (pc' := 20) rfl ?_
    refine wm_ikonst (v := 0) C dX12_joint_20 (by decide) (pc' := 21) rfl ?_
    obtain ⟨h2, hf⟩ := chk_s hf
    obtain ⟨s3, e4, hf⟩ := lets_s hf
    refine wm_zast (f := gA σ 2) (N := 6) (cA := τ.2.2.1) C dX12_joint_21 1 mA_2 rfl h2 (Wd' := mW τ q s3) ((mS_2 _ _).trans (congrArg (mW τ q) e4.symm)) (pc' := 22) rfl ?_
    refine wm_aload_n C dX12_joint_22 0 rfl (pc' := 23) rfl ?_
    refine wm_dup C dX12_joint_23 rfl (pc' := 24) rfl ?_
    refine m_get (v := .int (gI s3 1)) C dX12_joint_24 in_X12_joint 1 (by decide) (by decide +kernel) rfl rfl (pc' := 27) rfl ?_
    refine wm_ikonst (v := 1) C dX12_joint_27 (by decide) (pc' := 28) rfl ?_
    refine wm_iadd C dX12_joint_28 (pc' := 29) rfl ?_
    obtain ⟨s5, e6, hf⟩ := lets_s hf
    refine m_putI C dX12_joint_29 in_X12_joint 1 (by decide) (by decide +kernel) rfl rfl rfl mL_1 mI_1 e6 (pc' := 32) rfl ?_
    refine wm_aload_n C dX12_joint_32 0 rfl (pc' := 33) rfl ?_
    refine m_get (v := .int (gI s5 1)) C dX12_joint_33 in_X12_joint 1 (by decide) (by decide +kernel) rfl rfl (pc' := 36) rfl ?_
    refine wm_ikonst (v := 1) C dX12_joint_36 (by decide) (pc' := 37) rfl ?_
    refine wm_isub C dX12_joint_37 (pc' := 38) rfl ?_
    obtain ⟨rfl, rfl⟩ := leaf_s hf
    exact wm_iret C dX12_joint_38 (Nat.zero_le _) (Nat.zero_le _) FD.rf
  · have hf := ite_f (fun h => h h1) hf
    refine wm_bipush (v := (-4)) C dX12_joint_9 (by decide) (pc' := 11) rfl ?_
    obtain ⟨rfl, rfl⟩ := leaf_s hf
    exact wm_iret C dX12_joint_11 (Nat.zero_le _) (Nat.zero_le _) FD.rf
def fX12_hold (x1 : Int32) (x2 : Int32) (σ : MS) : Option (Int32 × MS) :=
  bnd (fX12_noJoint x1 σ) (fun r1 s2 => if r1 = 0 then bnd (fX12_among x2 0 100) (fun r5 u6 => if ¬ r5 = 0 then if ¬ (x1 < 0 ∨ 6 ≤ x1.toNatClampNeg) then lets (sA s2 2 x1.toNatClampNeg (vp_nar .boolean 1)) (fun s10 => if ¬ (x1 < 0 ∨ 6 ≤ x1.toNatClampNeg) then lets (sA s10 3 x1.toNatClampNeg x2) (fun s13 => some (1, s13)) else none) else none else some ((-2), s2)) else some ((-1), s2))
theorem in_X12_hold : ∀ w ∈ u_ws RX12 TX12 39, w ∈ wsX12_hold := by decide +kernel
set_option maxHeartbeats 4000000 in
set_option maxRecDepth 100000 in
theorem kX12_hold (l : Launch) (D : va_G) (τ : CId) (q : Nat → Nat) (σ : MS) (x1 : Int32) (x2 : Int32) (rE : Int32) (sE : MS) (hf : fX12_hold x1 x2 σ = some (rE, sE)) : Ct l D τ yX12_hold wsX12_hold { frames := 2, cells := 0, slots := 0, locals := 43 } [.ref (q 0), .int x1, .int x2] (mW τ q σ) (FD (mW τ q sE) (some (.int rE))) := by
  unfold fX12_hold at hf
  refine ct_of (cc := cX12_hold) (maxL := 3) (ret := (some .int)) (by decide) rfl (Nat.le_of_ble_eq_true rfl) (fun Γ C => ?_)
  refine wm_lv (lv' := [(0, .ref (q 0)), (1, .int x1), (2, .int x2)]) rfl ?_
  refine wm_aload_n C dX12_hold_0 0 rfl (pc' := 1) rfl ?_
  refine wm_iload_n C dX12_hold_1 1 rfl (pc' := 2) rfl ?_
  obtain ⟨r1, s2, h3, hf⟩ := bnd_s hf
  refine wm_callVd (nn := 1) (As := [.int x1]) (rest := []) (st' := [.int r1]) C dX12_hold_2 (kX12_noJoint l D τ q σ x1 r1 s2 h3) gX12_hold_X12_noJoint rfl (by decide +kernel) ⟨Nat.le_of_ble_eq_true rfl, Nat.le_of_ble_eq_true rfl⟩ rfl rfl ⟨Nat.zero_le _, Nat.zero_le _⟩ 0 rfl rfl rfl rfl (Nat.le_of_ble_eq_true rfl) rfl (pc' := 5) rfl ?_
  refine wm_if_eq C dX12_hold_5 10 (by decide) (pc' := 8) rfl (fun h4 => ?_) (fun h4 => ?_)
  · have hf := ite_t h4 hf
    refine wm_iload_n C dX12_hold_10 2 rfl (pc' := 11) rfl ?_
    refine wm_ikonst (v := 0) C dX12_hold_11 (by decide) (pc' := 12) rfl ?_
    refine wm_bipush (v := 100) C dX12_hold_12 (by decide) (pc' := 14) rfl ?_
    obtain ⟨r5, u6, h7, hf⟩ := bnd_s hf
    refine wm_callSd (nn := 3) (As := [.int x2, .int 0, .int 100]) (rest := []) (st' := [.int r5]) C dX12_hold_14 (kX12_among l D τ x2 0 100 r5 h7) gX12_hold_X12_among rfl (by decide +kernel) ⟨Nat.le_of_ble_eq_true rfl, Nat.le_of_ble_eq_true rfl⟩ rfl rfl ⟨Nat.zero_le _, Nat.zero_le _⟩ rfl rfl (Nat.le_of_ble_eq_true rfl) rfl (pc' := 17) rfl ?_
    refine wm_if_ne C dX12_hold_17 23 (by decide) (pc' := 20) rfl (fun h8 => ?_) (fun h8 => ?_)
    · have hf := ite_t h8 hf
      refine wm_aload_n C dX12_hold_23 0 rfl (pc' := 24) rfl ?_
      refine m_get (v := .ref (q 2)) C dX12_hold_24 in_X12_hold 2 (by decide) (by decide +kernel) rfl rfl (pc' := 27) rfl ?_
      refine wm_iload_n C dX12_hold_27 1 rfl (pc' := 28) rfl ?_
      refine wm_ikonst (v := 1) C dX12_hold_28 (by decide) (pc' := 29) rfl ?_
      obtain ⟨h9, hf⟩ := chk_s hf
      obtain ⟨s10, e11, hf⟩ := lets_s hf
      refine wm_zast (f := gA s2 2) (N := 6) (cA := τ.2.2.1) C dX12_hold_29 1 mA_2 rfl h9 (Wd' := mW τ q s10) ((mS_2 _ _).trans (congrArg (mW τ q) e11.symm)) (pc' := 30) rfl ?_
      refine wm_aload_n C dX12_hold_30 0 rfl (pc' := 31) rfl ?_
      refine m_get (v := .ref (q 3)) C dX12_hold_31 in_X12_hold 3 (by decide) (by decide +kernel) rfl rfl (pc' := 34) rfl ?_
      refine wm_iload_n C dX12_hold_34 1 rfl (pc' := 35) rfl ?_
      refine wm_iload_n C dX12_hold_35 2 rfl (pc' := 36) rfl ?_
      obtain ⟨h12, hf⟩ := chk_s hf
      obtain ⟨s13, e14, hf⟩ := lets_s hf
      refine wm_iast (f := gA s10 3) (N := 6) (cA := τ.1) C dX12_hold_36 2 mA_3 rfl h12 (Wd' := mW τ q s13) ((mS_3 _ _).trans (congrArg (mW τ q) e14.symm)) (pc' := 37) rfl ?_
      refine wm_ikonst (v := 1) C dX12_hold_37 (by decide) (pc' := 38) rfl ?_
      obtain ⟨rfl, rfl⟩ := leaf_s hf
      exact wm_iret C dX12_hold_38 (Nat.zero_le _) (Nat.zero_le _) FD.rf
    · have hf := ite_f (fun h => h h8) hf
      refine wm_bipush (v := (-2)) C dX12_hold_20 (by decide) (pc' := 22) rfl ?_
      obtain ⟨rfl, rfl⟩ := leaf_s hf
      exact wm_iret C dX12_hold_22 (Nat.zero_le _) (Nat.zero_le _) FD.rf
  · have hf := ite_f h4 hf
    refine wm_ikonst (v := (-1)) C dX12_hold_8 (by decide) (pc' := 9) rfl ?_
    obtain ⟨rfl, rfl⟩ := leaf_s hf
    exact wm_iret C dX12_hold_9 (Nat.zero_le _) (Nat.zero_le _) FD.rf
def fX12_free_J24 (x1 : Int32) (t0 : Int32) (s : MS) : Option (Int32 × MS) :=
  if ¬ (x1 < 0 ∨ 6 ≤ x1.toNatClampNeg) then lets (sA s 2 x1.toNatClampNeg (vp_nar .boolean 0)) (fun s8 => some (t0, s8)) else none
def fX12_free (x1 : Int32) (σ : MS) : Option (Int32 × MS) :=
  bnd (fX12_noJoint x1 σ) (fun r1 s2 => if r1 = 0 then if ¬ (x1 < 0 ∨ 6 ≤ x1.toNatClampNeg) then if (gA s2 2 x1.toNatClampNeg) = 0 then fX12_free_J24 x1 0 s2 else fX12_free_J24 x1 1 s2 else none else some ((-1), s2))
theorem in_X12_free : ∀ w ∈ u_ws RX12 TX12 39, w ∈ wsX12_free := by decide +kernel
set_option maxHeartbeats 4000000 in
set_option maxRecDepth 100000 in
theorem kX12_free (l : Launch) (D : va_G) (τ : CId) (q : Nat → Nat) (σ : MS) (x1 : Int32) (rE : Int32) (sE : MS) (hf : fX12_free x1 σ = some (rE, sE)) : Ct l D τ yX12_free wsX12_free { frames := 2, cells := 0, slots := 0, locals := 43 } [.ref (q 0), .int x1] (mW τ q σ) (FD (mW τ q sE) (some (.int rE))) := by
  unfold fX12_free at hf
  refine ct_of (cc := cX12_free) (maxL := 3) (ret := (some .int)) (by decide) rfl (Nat.le_of_ble_eq_true rfl) (fun Γ C => ?_)
  refine wm_lv (lv' := [(0, .ref (q 0)), (1, .int x1)]) rfl ?_
  have wJ_24 : ∀ (x1 : Int32) (t0 : Int32) (s : MS), fX12_free_J24 x1 t0 s = some (rE, sE) → WM l D Γ 3 0 0 (mW τ q s) 24 [(0, .ref (q 0)), (1, .int x1)] [.int t0] := by
    intro x1 t0 s hf
    unfold fX12_free_J24 at hf
    refine wm_istore_n (lv' := [(2, .int t0), (0, .ref (q 0)), (1, .int x1)]) C dX12_free_24 (by decide) rfl (pc' := 25) rfl ?_
    refine wm_aload_n C dX12_free_25 1 rfl (pc' := 26) rfl ?_
    refine m_get (v := .ref (q 2)) C dX12_free_26 in_X12_free 2 (by decide) (by decide +kernel) rfl rfl (pc' := 29) rfl ?_
    refine wm_iload_n C dX12_free_29 2 rfl (pc' := 30) rfl ?_
    refine wm_ikonst (v := 0) C dX12_free_30 (by decide) (pc' := 31) rfl ?_
    obtain ⟨h7, hf⟩ := chk_s hf
    obtain ⟨s8, e9, hf⟩ := lets_s hf
    refine wm_zast (f := gA s 2) (N := 6) (cA := τ.2.2.1) C dX12_free_31 1 mA_2 rfl h7 (Wd' := mW τ q s8) ((mS_2 _ _).trans (congrArg (mW τ q) e9.symm)) (pc' := 32) rfl ?_
    refine wm_iload_n C dX12_free_32 0 rfl (pc' := 33) rfl ?_
    obtain ⟨rfl, rfl⟩ := leaf_s hf
    exact wm_iret C dX12_free_33 (Nat.zero_le _) (Nat.zero_le _) FD.rf
  refine wm_aload_n C dX12_free_0 0 rfl (pc' := 1) rfl ?_
  refine wm_iload_n C dX12_free_1 1 rfl (pc' := 2) rfl ?_
  obtain ⟨r1, s2, h3, hf⟩ := bnd_s hf
  refine wm_callVd (nn := 1) (As := [.int x1]) (rest := []) (st' := [.int r1]) C dX12_free_2 (kX12_noJoint l D τ q σ x1 r1 s2 h3) gX12_free_X12_noJoint rfl (by decide +kernel) ⟨Nat.le_of_ble_eq_true rfl, Nat.le_of_ble_eq_true rfl⟩ rfl rfl ⟨Nat.zero_le _, Nat.zero_le _⟩ 0 rfl rfl rfl rfl (Nat.le_of_ble_eq_true rfl) rfl (pc' := 5) rfl ?_
  refine wm_if_eq C dX12_free_5 10 (by decide) (pc' := 8) rfl (fun h4 => ?_) (fun h4 => ?_)
  · have hf := ite_t h4 hf
    refine wm_aload_n C dX12_free_10 0 rfl (pc' := 11) rfl ?_
    refine m_get (v := .ref (q 2)) C dX12_free_11 in_X12_free 2 (by decide) (by decide +kernel) rfl rfl (pc' := 14) rfl ?_
    refine wm_iload_n C dX12_free_14 1 rfl (pc' := 15) rfl ?_
    obtain ⟨h5, hf⟩ := chk_s hf
    refine wm_zald (f := gA s2 2) (N := 6) (cA := τ.2.2.1) C dX12_free_15 1 mA_2 rfl h5 (pc' := 16) rfl ?_
    refine wm_if_eq C dX12_free_16 23 (by decide) (pc' := 19) rfl (fun h6 => ?_) (fun h6 => ?_)
    · have hf := ite_t h6 hf
      refine wm_ikonst (v := 0) C dX12_free_23 (by decide) (pc' := 24) rfl ?_
      exact wJ_24 x1 0 s2 hf
    · have hf := ite_f h6 hf
      refine wm_ikonst (v := 1) C dX12_free_19 (by decide) (pc' := 20) rfl ?_
      refine wm_goto C dX12_free_20 24 (by decide) ?_
      exact wJ_24 x1 1 s2 hf
  · have hf := ite_f h4 hf
    refine wm_ikonst (v := (-1)) C dX12_free_8 (by decide) (pc' := 9) rfl ?_
    obtain ⟨rfl, rfl⟩ := leaf_s hf
    exact wm_iret C dX12_free_9 (Nat.zero_le _) (Nat.zero_le _) FD.rf
def fX12_crack (x1 : Int32) (x2 : Int32) (x3 : Int32) (x4 : Int32) (x5 : Int32) (σ : MS) : Option (Int32 × MS) :=
  bnd (fX12_noJoint x1 σ) (fun r1 s2 => if ¬ r1 = 0 then some ((-1), s2) else bnd (fX12_noJoint x2 s2) (fun r5 s6 => if r5 = 0 then if x1 = x2 then some ((-2), s6) else bnd (fX12_among x3 0 4) (fun r10 u11 => if r10 = 0 then some ((-2), s6) else bnd (fX12_among x4 0 12) (fun r14 u15 => if r14 = 0 then some ((-2), s6) else bnd (fX12_among x5 1 12) (fun r18 u19 => if ¬ r18 = 0 then if ¬ (gI s6 4) = 12 then if ¬ ((gI s6 4) < 0 ∨ 12 ≤ (gI s6 4).toNatClampNeg) then lets (sA s6 5 (gI s6 4).toNatClampNeg x1) (fun s24 => if ¬ ((gI s24 4) < 0 ∨ 12 ≤ (gI s24 4).toNatClampNeg) then lets (sA s24 6 (gI s24 4).toNatClampNeg x2) (fun s27 => if ¬ ((gI s27 4) < 0 ∨ 12 ≤ (gI s27 4).toNatClampNeg) then lets (sA s27 7 (gI s27 4).toNatClampNeg x3) (fun s30 => if ¬ ((gI s30 4) < 0 ∨ 12 ≤ (gI s30 4).toNatClampNeg) then lets (sA s30 8 (gI s30 4).toNatClampNeg x4) (fun s33 => if ¬ ((gI s33 4) < 0 ∨ 12 ≤ (gI s33 4).toNatClampNeg) then lets (sA s33 9 (gI s33 4).toNatClampNeg x5) (fun s36 => if ¬ ((gI s36 4) < 0 ∨ 12 ≤ (gI s36 4).toNatClampNeg) then lets (sA s36 10 (gI s36 4).toNatClampNeg 0) (fun s39 => lets (sI s39 4 ((gI s39 4) + 1)) (fun s41 => some ((gI s41 4) - 1, s41))) else none) else none) else none) else none) else none) else none else some ((-4), s6) else some ((-2), s6)))) else some ((-1), s6)))
theorem in_X12_crack : ∀ w ∈ u_ws RX12 TX12 39, w ∈ wsX12_crack := by decide +kernel
set_option maxHeartbeats 4000000 in
set_option maxRecDepth 100000 in
theorem kX12_crack (l : Launch) (D : va_G) (τ : CId) (q : Nat → Nat) (σ : MS) (x1 : Int32) (x2 : Int32) (x3 : Int32) (x4 : Int32) (x5 : Int32) (rE : Int32) (sE : MS) (hf : fX12_crack x1 x2 x3 x4 x5 σ = some (rE, sE)) : Ct l D τ yX12_crack wsX12_crack { frames := 2, cells := 0, slots := 0, locals := 43 } [.ref (q 0), .int x1, .int x2, .int x3, .int x4, .int x5] (mW τ q σ) (FD (mW τ q sE) (some (.int rE))) := by
  unfold fX12_crack at hf
  refine ct_of (cc := cX12_crack) (maxL := 6) (ret := (some .int)) (by decide) rfl (Nat.le_of_ble_eq_true rfl) (fun Γ C => ?_)
  refine wm_lv (lv' := [(0, .ref (q 0)), (1, .int x1), (2, .int x2), (3, .int x3), (4, .int x4), (5, .int x5)]) rfl ?_
  refine wm_aload_n C dX12_crack_0 0 rfl (pc' := 1) rfl ?_
  refine wm_iload_n C dX12_crack_1 1 rfl (pc' := 2) rfl ?_
  obtain ⟨r1, s2, h3, hf⟩ := bnd_s hf
  refine wm_callVd (nn := 1) (As := [.int x1]) (rest := []) (st' := [.int r1]) C dX12_crack_2 (kX12_noJoint l D τ q σ x1 r1 s2 h3) gX12_crack_X12_noJoint rfl (by decide +kernel) ⟨Nat.le_of_ble_eq_true rfl, Nat.le_of_ble_eq_true rfl⟩ rfl rfl ⟨Nat.zero_le _, Nat.zero_le _⟩ 0 rfl rfl rfl rfl (Nat.le_of_ble_eq_true rfl) rfl (pc' := 5) rfl ?_
  refine wm_if_ne C dX12_crack_5 16 (by decide) (pc' := 8) rfl (fun h4 => ?_) (fun h4 => ?_)
  · have hf := ite_t h4 hf
    refine wm_ikonst (v := (-1)) C dX12_crack_16 (by decide) (pc' := 17) rfl ?_
    obtain ⟨rfl, rfl⟩ := leaf_s hf
    exact wm_iret C dX12_crack_17 (Nat.zero_le _) (Nat.zero_le _) FD.rf
  · have hf := ite_f (fun h => h h4) hf
    refine wm_aload_n C dX12_crack_8 0 rfl (pc' := 9) rfl ?_
    refine wm_iload_n C dX12_crack_9 2 rfl (pc' := 10) rfl ?_
    obtain ⟨r5, s6, h7, hf⟩ := bnd_s hf
    refine wm_callVd (nn := 1) (As := [.int x2]) (rest := []) (st' := [.int r5]) C dX12_crack_10 (kX12_noJoint l D τ q s2 x2 r5 s6 h7) gX12_crack_X12_noJoint rfl (by decide +kernel) ⟨Nat.le_of_ble_eq_true rfl, Nat.le_of_ble_eq_true rfl⟩ rfl rfl ⟨Nat.zero_le _, Nat.zero_le _⟩ 0 rfl rfl rfl rfl (Nat.le_of_ble_eq_true rfl) rfl (pc' := 13) rfl ?_
    refine wm_if_eq C dX12_crack_13 18 (by decide) (pc' := 16) rfl (fun h8 => ?_) (fun h8 => ?_)
    · have hf := ite_t h8 hf
      refine wm_iload_n C dX12_crack_18 1 rfl (pc' := 19) rfl ?_
      refine wm_iload_n C dX12_crack_19 2 rfl (pc' := 20) rfl ?_
      refine wm_icmp_eq C dX12_crack_20 54 (by decide) (pc' := 23) rfl (fun h9 => ?_) (fun h9 => ?_)
      · have hf := ite_t h9 hf
        refine wm_bipush (v := (-2)) C dX12_crack_54 (by decide) (pc' := 56) rfl ?_
        obtain ⟨rfl, rfl⟩ := leaf_s hf
        exact wm_iret C dX12_crack_56 (Nat.zero_le _) (Nat.zero_le _) FD.rf
      · have hf := ite_f h9 hf
        refine wm_iload_n C dX12_crack_23 3 rfl (pc' := 24) rfl ?_
        refine wm_ikonst (v := 0) C dX12_crack_24 (by decide) (pc' := 25) rfl ?_
        refine wm_ikonst (v := 4) C dX12_crack_25 (by decide) (pc' := 26) rfl ?_
        obtain ⟨r10, u11, h12, hf⟩ := bnd_s hf
        refine wm_callSd (nn := 3) (As := [.int x3, .int 0, .int 4]) (rest := []) (st' := [.int r10]) C dX12_crack_26 (kX12_among l D τ x3 0 4 r10 h12) gX12_crack_X12_among rfl (by decide +kernel) ⟨Nat.le_of_ble_eq_true rfl, Nat.le_of_ble_eq_true rfl⟩ rfl rfl ⟨Nat.zero_le _, Nat.zero_le _⟩ rfl rfl (Nat.le_of_ble_eq_true rfl) rfl (pc' := 29) rfl ?_
        refine wm_if_eq C dX12_crack_29 54 (by decide) (pc' := 32) rfl (fun h13 => ?_) (fun h13 => ?_)
        · have hf := ite_t h13 hf
          refine wm_bipush (v := (-2)) C dX12_crack_54 (by decide) (pc' := 56) rfl ?_
          obtain ⟨rfl, rfl⟩ := leaf_s hf
          exact wm_iret C dX12_crack_56 (Nat.zero_le _) (Nat.zero_le _) FD.rf
        · have hf := ite_f h13 hf
          refine wm_iload C dX12_crack_32 4 rfl (pc' := 34) rfl ?_
          refine wm_ikonst (v := 0) C dX12_crack_34 (by decide) (pc' := 35) rfl ?_
          refine wm_bipush (v := 12) C dX12_crack_35 (by decide) (pc' := 37) rfl ?_
          obtain ⟨r14, u15, h16, hf⟩ := bnd_s hf
          refine wm_callSd (nn := 3) (As := [.int x4, .int 0, .int 12]) (rest := []) (st' := [.int r14]) C dX12_crack_37 (kX12_among l D τ x4 0 12 r14 h16) gX12_crack_X12_among rfl (by decide +kernel) ⟨Nat.le_of_ble_eq_true rfl, Nat.le_of_ble_eq_true rfl⟩ rfl rfl ⟨Nat.zero_le _, Nat.zero_le _⟩ rfl rfl (Nat.le_of_ble_eq_true rfl) rfl (pc' := 40) rfl ?_
          refine wm_if_eq C dX12_crack_40 54 (by decide) (pc' := 43) rfl (fun h17 => ?_) (fun h17 => ?_)
          · have hf := ite_t h17 hf
            refine wm_bipush (v := (-2)) C dX12_crack_54 (by decide) (pc' := 56) rfl ?_
            obtain ⟨rfl, rfl⟩ := leaf_s hf
            exact wm_iret C dX12_crack_56 (Nat.zero_le _) (Nat.zero_le _) FD.rf
          · have hf := ite_f h17 hf
            refine wm_iload C dX12_crack_43 5 rfl (pc' := 45) rfl ?_
            refine wm_ikonst (v := 1) C dX12_crack_45 (by decide) (pc' := 46) rfl ?_
            refine wm_bipush (v := 12) C dX12_crack_46 (by decide) (pc' := 48) rfl ?_
            obtain ⟨r18, u19, h20, hf⟩ := bnd_s hf
            refine wm_callSd (nn := 3) (As := [.int x5, .int 1, .int 12]) (rest := []) (st' := [.int r18]) C dX12_crack_48 (kX12_among l D τ x5 1 12 r18 h20) gX12_crack_X12_among rfl (by decide +kernel) ⟨Nat.le_of_ble_eq_true rfl, Nat.le_of_ble_eq_true rfl⟩ rfl rfl ⟨Nat.zero_le _, Nat.zero_le _⟩ rfl rfl (Nat.le_of_ble_eq_true rfl) rfl (pc' := 51) rfl ?_
            refine wm_if_ne C dX12_crack_51 57 (by decide) (pc' := 54) rfl (fun h21 => ?_) (fun h21 => ?_)
            · have hf := ite_t h21 hf
              refine wm_aload_n C dX12_crack_57 0 rfl (pc' := 58) rfl ?_
              refine m_get (v := .int (gI s6 4)) C dX12_crack_58 in_X12_crack 4 (by decide) (by decide +kernel) rfl rfl (pc' := 61) rfl ?_
              refine wm_bipush (v := 12) C dX12_crack_61 (by decide) (pc' := 63) rfl ?_
              refine wm_icmp_ne C dX12_crack_63 69 (by decide) (pc' := 66) rfl (fun h22 => ?_) (fun h22 => ?_)
              · have hf := ite_t h22 hf
                refine wm_aload_n C dX12_crack_69 0 rfl (pc' := 70) rfl ?_
                refine m_get (v := .ref (q 5)) C dX12_crack_70 in_X12_crack 5 (by decide) (by decide +kernel) rfl rfl (pc' := 73) rfl ?_
                refine wm_aload_n C dX12_crack_73 0 rfl (pc' := 74) rfl ?_
                refine m_get (v := .int (gI s6 4)) C dX12_crack_74 in_X12_crack 4 (by decide) (by decide +kernel) rfl rfl (pc' := 77) rfl ?_
                refine wm_iload_n C dX12_crack_77 1 rfl (pc' := 78) rfl ?_
                obtain ⟨h23, hf⟩ := chk_s hf
                obtain ⟨s24, e25, hf⟩ := lets_s hf
                refine wm_iast (f := gA s6 5) (N := 12) (cA := τ.1) C dX12_crack_78 3 mA_5 rfl h23 (Wd' := mW τ q s24) ((mS_5 _ _).trans (congrArg (mW τ q) e25.symm)) (pc' := 79) rfl ?_
                refine wm_aload_n C dX12_crack_79 0 rfl (pc' := 80) rfl ?_
                refine m_get (v := .ref (q 6)) C dX12_crack_80 in_X12_crack 6 (by decide) (by decide +kernel) rfl rfl (pc' := 83) rfl ?_
                refine wm_aload_n C dX12_crack_83 0 rfl (pc' := 84) rfl ?_
                refine m_get (v := .int (gI s24 4)) C dX12_crack_84 in_X12_crack 4 (by decide) (by decide +kernel) rfl rfl (pc' := 87) rfl ?_
                refine wm_iload_n C dX12_crack_87 2 rfl (pc' := 88) rfl ?_
                obtain ⟨h26, hf⟩ := chk_s hf
                obtain ⟨s27, e28, hf⟩ := lets_s hf
                refine wm_iast (f := gA s24 6) (N := 12) (cA := τ.1) C dX12_crack_88 4 mA_6 rfl h26 (Wd' := mW τ q s27) ((mS_6 _ _).trans (congrArg (mW τ q) e28.symm)) (pc' := 89) rfl ?_
                refine wm_aload_n C dX12_crack_89 0 rfl (pc' := 90) rfl ?_
                refine m_get (v := .ref (q 7)) C dX12_crack_90 in_X12_crack 7 (by decide) (by decide +kernel) rfl rfl (pc' := 93) rfl ?_
                refine wm_aload_n C dX12_crack_93 0 rfl (pc' := 94) rfl ?_
                refine m_get (v := .int (gI s27 4)) C dX12_crack_94 in_X12_crack 4 (by decide) (by decide +kernel) rfl rfl (pc' := 97) rfl ?_
                refine wm_iload_n C dX12_crack_97 3 rfl (pc' := 98) rfl ?_
                obtain ⟨h29, hf⟩ := chk_s hf
                obtain ⟨s30, e31, hf⟩ := lets_s hf
                refine wm_iast (f := gA s27 7) (N := 12) (cA := τ.1) C dX12_crack_98 5 mA_7 rfl h29 (Wd' := mW τ q s30) ((mS_7 _ _).trans (congrArg (mW τ q) e31.symm)) (pc' := 99) rfl ?_
                refine wm_aload_n C dX12_crack_99 0 rfl (pc' := 100) rfl ?_
                refine m_get (v := .ref (q 8)) C dX12_crack_100 in_X12_crack 8 (by decide) (by decide +kernel) rfl rfl (pc' := 103) rfl ?_
                refine wm_aload_n C dX12_crack_103 0 rfl (pc' := 104) rfl ?_
                refine m_get (v := .int (gI s30 4)) C dX12_crack_104 in_X12_crack 4 (by decide) (by decide +kernel) rfl rfl (pc' := 107) rfl ?_
                refine wm_iload C dX12_crack_107 4 rfl (pc' := 109) rfl ?_
                obtain ⟨h32, hf⟩ := chk_s hf
                obtain ⟨s33, e34, hf⟩ := lets_s hf
                refine wm_iast (f := gA s30 8) (N := 12) (cA := τ.1) C dX12_crack_109 6 mA_8 rfl h32 (Wd' := mW τ q s33) ((mS_8 _ _).trans (congrArg (mW τ q) e34.symm)) (pc' := 110) rfl ?_
                refine wm_aload_n C dX12_crack_110 0 rfl (pc' := 111) rfl ?_
                refine m_get (v := .ref (q 9)) C dX12_crack_111 in_X12_crack 9 (by decide) (by decide +kernel) rfl rfl (pc' := 114) rfl ?_
                refine wm_aload_n C dX12_crack_114 0 rfl (pc' := 115) rfl ?_
                refine m_get (v := .int (gI s33 4)) C dX12_crack_115 in_X12_crack 4 (by decide) (by decide +kernel) rfl rfl (pc' := 118) rfl ?_
                refine wm_iload C dX12_crack_118 5 rfl (pc' := 120) rfl ?_
                obtain ⟨h35, hf⟩ := chk_s hf
                obtain ⟨s36, e37, hf⟩ := lets_s hf
                refine wm_iast (f := gA s33 9) (N := 12) (cA := τ.1) C dX12_crack_120 7 mA_9 rfl h35 (Wd' := mW τ q s36) ((mS_9 _ _).trans (congrArg (mW τ q) e37.symm)) (pc' := 121) rfl ?_
                refine wm_aload_n C dX12_crack_121 0 rfl (pc' := 122) rfl ?_
                refine m_get (v := .ref (q 10)) C dX12_crack_122 in_X12_crack 10 (by decide) (by decide +kernel) rfl rfl (pc' := 125) rfl ?_
                refine wm_aload_n C dX12_crack_125 0 rfl (pc' := 126) rfl ?_
                refine m_get (v := .int (gI s36 4)) C dX12_crack_126 in_X12_crack 4 (by decide) (by decide +kernel) rfl rfl (pc' := 129) rfl ?_
                refine wm_ikonst (v := 0) C dX12_crack_129 (by decide) (pc' := 130) rfl ?_
                obtain ⟨h38, hf⟩ := chk_s hf
                obtain ⟨s39, e40, hf⟩ := lets_s hf
                refine wm_iast (f := gA s36 10) (N := 12) (cA := τ.1) C dX12_crack_130 8 mA_10 rfl h38 (Wd' := mW τ q s39) ((mS_10 _ _).trans (congrArg (mW τ q) e40.symm)) (pc' := 131) rfl ?_
                refine wm_aload_n C dX12_crack_131 0 rfl (pc' := 132) rfl ?_
                refine wm_dup C dX12_crack_132 rfl (pc' := 133) rfl ?_
                refine m_get (v := .int (gI s39 4)) C dX12_crack_133 in_X12_crack 4 (by decide) (by decide +kernel) rfl rfl (pc' := 136) rfl ?_
                refine wm_ikonst (v := 1) C dX12_crack_136 (by decide) (pc' := 137) rfl ?_
                refine wm_iadd C dX12_crack_137 (pc' := 138) rfl ?_
                obtain ⟨s41, e42, hf⟩ := lets_s hf
                refine m_putI C dX12_crack_138 in_X12_crack 4 (by decide) (by decide +kernel) rfl rfl rfl mL_4 mI_4 e42 (pc' := 141) rfl ?_
                refine wm_aload_n C dX12_crack_141 0 rfl (pc' := 142) rfl ?_
                refine m_get (v := .int (gI s41 4)) C dX12_crack_142 in_X12_crack 4 (by decide) (by decide +kernel) rfl rfl (pc' := 145) rfl ?_
                refine wm_ikonst (v := 1) C dX12_crack_145 (by decide) (pc' := 146) rfl ?_
                refine wm_isub C dX12_crack_146 (pc' := 147) rfl ?_
                obtain ⟨rfl, rfl⟩ := leaf_s hf
                exact wm_iret C dX12_crack_147 (Nat.zero_le _) (Nat.zero_le _) FD.rf
              · have hf := ite_f (fun h => h h22) hf
                refine wm_bipush (v := (-4)) C dX12_crack_66 (by decide) (pc' := 68) rfl ?_
                obtain ⟨rfl, rfl⟩ := leaf_s hf
                exact wm_iret C dX12_crack_68 (Nat.zero_le _) (Nat.zero_le _) FD.rf
            · have hf := ite_f (fun h => h h21) hf
              refine wm_bipush (v := (-2)) C dX12_crack_54 (by decide) (pc' := 56) rfl ?_
              obtain ⟨rfl, rfl⟩ := leaf_s hf
              exact wm_iret C dX12_crack_56 (Nat.zero_le _) (Nat.zero_le _) FD.rf
    · have hf := ite_f h8 hf
      refine wm_ikonst (v := (-1)) C dX12_crack_16 (by decide) (pc' := 17) rfl ?_
      obtain ⟨rfl, rfl⟩ := leaf_s hf
      exact wm_iret C dX12_crack_17 (Nat.zero_le _) (Nat.zero_le _) FD.rf
def fX12_width (x1 : Int32) (x2 : Int32) (σ : MS) : Option (Int32 × MS) :=
  bnd (fX12_noCrack x1 σ) (fun r1 s2 => if r1 = 0 then bnd (fX12_among x2 0 12) (fun r5 u6 => if ¬ r5 = 0 then if ¬ (x1 < 0 ∨ 12 ≤ x1.toNatClampNeg) then if ¬ (x1 < 0 ∨ 12 ≤ x1.toNatClampNeg) then lets (sA s2 8 x1.toNatClampNeg x2) (fun s11 => if ¬ (x1 < 0 ∨ 12 ≤ x1.toNatClampNeg) then lets (sA s11 10 x1.toNatClampNeg 0) (fun s14 => some (gA s2 8 x1.toNatClampNeg, s14)) else none) else none else none else some ((-2), s2)) else some ((-1), s2))
theorem in_X12_width : ∀ w ∈ u_ws RX12 TX12 39, w ∈ wsX12_width := by decide +kernel
set_option maxHeartbeats 4000000 in
set_option maxRecDepth 100000 in
theorem kX12_width (l : Launch) (D : va_G) (τ : CId) (q : Nat → Nat) (σ : MS) (x1 : Int32) (x2 : Int32) (rE : Int32) (sE : MS) (hf : fX12_width x1 x2 σ = some (rE, sE)) : Ct l D τ yX12_width wsX12_width { frames := 2, cells := 0, slots := 0, locals := 43 } [.ref (q 0), .int x1, .int x2] (mW τ q σ) (FD (mW τ q sE) (some (.int rE))) := by
  unfold fX12_width at hf
  refine ct_of (cc := cX12_width) (maxL := 4) (ret := (some .int)) (by decide) rfl (Nat.le_of_ble_eq_true rfl) (fun Γ C => ?_)
  refine wm_lv (lv' := [(0, .ref (q 0)), (1, .int x1), (2, .int x2)]) rfl ?_
  refine wm_aload_n C dX12_width_0 0 rfl (pc' := 1) rfl ?_
  refine wm_iload_n C dX12_width_1 1 rfl (pc' := 2) rfl ?_
  obtain ⟨r1, s2, h3, hf⟩ := bnd_s hf
  refine wm_callVd (nn := 1) (As := [.int x1]) (rest := []) (st' := [.int r1]) C dX12_width_2 (kX12_noCrack l D τ q σ x1 r1 s2 h3) gX12_width_X12_noCrack rfl (by decide +kernel) ⟨Nat.le_of_ble_eq_true rfl, Nat.le_of_ble_eq_true rfl⟩ rfl rfl ⟨Nat.zero_le _, Nat.zero_le _⟩ 0 rfl rfl rfl rfl (Nat.le_of_ble_eq_true rfl) rfl (pc' := 5) rfl ?_
  refine wm_if_eq C dX12_width_5 10 (by decide) (pc' := 8) rfl (fun h4 => ?_) (fun h4 => ?_)
  · have hf := ite_t h4 hf
    refine wm_iload_n C dX12_width_10 2 rfl (pc' := 11) rfl ?_
    refine wm_ikonst (v := 0) C dX12_width_11 (by decide) (pc' := 12) rfl ?_
    refine wm_bipush (v := 12) C dX12_width_12 (by decide) (pc' := 14) rfl ?_
    obtain ⟨r5, u6, h7, hf⟩ := bnd_s hf
    refine wm_callSd (nn := 3) (As := [.int x2, .int 0, .int 12]) (rest := []) (st' := [.int r5]) C dX12_width_14 (kX12_among l D τ x2 0 12 r5 h7) gX12_width_X12_among rfl (by decide +kernel) ⟨Nat.le_of_ble_eq_true rfl, Nat.le_of_ble_eq_true rfl⟩ rfl rfl ⟨Nat.zero_le _, Nat.zero_le _⟩ rfl rfl (Nat.le_of_ble_eq_true rfl) rfl (pc' := 17) rfl ?_
    refine wm_if_ne C dX12_width_17 23 (by decide) (pc' := 20) rfl (fun h8 => ?_) (fun h8 => ?_)
    · have hf := ite_t h8 hf
      refine wm_aload_n C dX12_width_23 0 rfl (pc' := 24) rfl ?_
      refine m_get (v := .ref (q 8)) C dX12_width_24 in_X12_width 8 (by decide) (by decide +kernel) rfl rfl (pc' := 27) rfl ?_
      refine wm_iload_n C dX12_width_27 1 rfl (pc' := 28) rfl ?_
      obtain ⟨h9, hf⟩ := chk_s hf
      refine wm_iald (f := gA s2 8) (N := 12) (cA := τ.1) C dX12_width_28 6 mA_8 rfl h9 (pc' := 29) rfl ?_
      refine wm_istore_n (lv' := [(3, .int (gA s2 8 x1.toNatClampNeg)), (0, .ref (q 0)), (1, .int x1), (2, .int x2)]) C dX12_width_29 (by decide) rfl (pc' := 30) rfl ?_
      refine wm_aload_n C dX12_width_30 1 rfl (pc' := 31) rfl ?_
      refine m_get (v := .ref (q 8)) C dX12_width_31 in_X12_width 8 (by decide) (by decide +kernel) rfl rfl (pc' := 34) rfl ?_
      refine wm_iload_n C dX12_width_34 2 rfl (pc' := 35) rfl ?_
      refine wm_iload_n C dX12_width_35 3 rfl (pc' := 36) rfl ?_
      obtain ⟨h10, hf⟩ := chk_s hf
      obtain ⟨s11, e12, hf⟩ := lets_s hf
      refine wm_iast (f := gA s2 8) (N := 12) (cA := τ.1) C dX12_width_36 6 mA_8 rfl h10 (Wd' := mW τ q s11) ((mS_8 _ _).trans (congrArg (mW τ q) e12.symm)) (pc' := 37) rfl ?_
      refine wm_aload_n C dX12_width_37 1 rfl (pc' := 38) rfl ?_
      refine m_get (v := .ref (q 10)) C dX12_width_38 in_X12_width 10 (by decide) (by decide +kernel) rfl rfl (pc' := 41) rfl ?_
      refine wm_iload_n C dX12_width_41 2 rfl (pc' := 42) rfl ?_
      refine wm_ikonst (v := 0) C dX12_width_42 (by decide) (pc' := 43) rfl ?_
      obtain ⟨h13, hf⟩ := chk_s hf
      obtain ⟨s14, e15, hf⟩ := lets_s hf
      refine wm_iast (f := gA s11 10) (N := 12) (cA := τ.1) C dX12_width_43 8 mA_10 rfl h13 (Wd' := mW τ q s14) ((mS_10 _ _).trans (congrArg (mW τ q) e15.symm)) (pc' := 44) rfl ?_
      refine wm_iload_n C dX12_width_44 0 rfl (pc' := 45) rfl ?_
      obtain ⟨rfl, rfl⟩ := leaf_s hf
      exact wm_iret C dX12_width_45 (Nat.zero_le _) (Nat.zero_le _) FD.rf
    · have hf := ite_f (fun h => h h8) hf
      refine wm_bipush (v := (-2)) C dX12_width_20 (by decide) (pc' := 22) rfl ?_
      obtain ⟨rfl, rfl⟩ := leaf_s hf
      exact wm_iret C dX12_width_22 (Nat.zero_le _) (Nat.zero_le _) FD.rf
  · have hf := ite_f h4 hf
    refine wm_ikonst (v := (-1)) C dX12_width_8 (by decide) (pc' := 9) rfl ?_
    obtain ⟨rfl, rfl⟩ := leaf_s hf
    exact wm_iret C dX12_width_9 (Nat.zero_le _) (Nat.zero_le _) FD.rf
def fX12_lets (x1 : Int32) (σ : MS) : Option (Int32 × MS) :=
  if ¬ (x1 < 0 ∨ 12 ≤ x1.toNatClampNeg) then if (gA σ 7 x1.toNatClampNeg) = 0 then if ¬ (x1 < 0 ∨ 12 ≤ x1.toNatClampNeg) then some (gA σ 8 x1.toNatClampNeg, σ) else none else if ¬ (x1 < 0 ∨ 12 ≤ x1.toNatClampNeg) then if ¬ (gA σ 7 x1.toNatClampNeg) = 2 then if ¬ (x1 < 0 ∨ 12 ≤ x1.toNatClampNeg) then if ¬ (x1 < 0 ∨ 12 ≤ x1.toNatClampNeg) then some ((gA σ 8 x1.toNatClampNeg) * (gA σ 8 x1.toNatClampNeg), σ) else none else none else if ¬ (x1 < 0 ∨ 12 ≤ x1.toNatClampNeg) then some (gA σ 8 x1.toNatClampNeg, σ) else none else none else none
theorem in_X12_lets : ∀ w ∈ u_ws RX12 TX12 39, w ∈ wsX12_lets := by decide +kernel
set_option maxHeartbeats 4000000 in
set_option maxRecDepth 100000 in
theorem kX12_lets (l : Launch) (D : va_G) (τ : CId) (q : Nat → Nat) (σ : MS) (x1 : Int32) (rE : Int32) (sE : MS) (hf : fX12_lets x1 σ = some (rE, sE)) : Ct l D τ yX12_lets wsX12_lets { frames := 0, cells := 0, slots := 0, locals := 0 } [.ref (q 0), .int x1] (mW τ q σ) (FD (mW τ q sE) (some (.int rE))) := by
  unfold fX12_lets at hf
  refine ct_of (cc := cX12_lets) (maxL := 2) (ret := (some .int)) (by decide) rfl (Nat.le_of_ble_eq_true rfl) (fun Γ C => ?_)
  refine wm_lv (lv' := [(0, .ref (q 0)), (1, .int x1)]) rfl ?_
  refine wm_aload_n C dX12_lets_0 0 rfl (pc' := 1) rfl ?_
  refine m_get (v := .ref (q 7)) C dX12_lets_1 in_X12_lets 7 (by decide) (by decide +kernel) rfl rfl (pc' := 4) rfl ?_
  refine wm_iload_n C dX12_lets_4 1 rfl (pc' := 5) rfl ?_
  obtain ⟨h1, hf⟩ := chk_s hf
  refine wm_iald (f := gA σ 7) (N := 12) (cA := τ.1) C dX12_lets_5 5 mA_7 rfl h1 (pc' := 6) rfl ?_
  refine wm_if_eq C dX12_lets_6 19 (by decide) (pc' := 9) rfl (fun h2 => ?_) (fun h2 => ?_)
  · have hf := ite_t h2 hf
    refine wm_aload_n C dX12_lets_19 0 rfl (pc' := 20) rfl ?_
    refine m_get (v := .ref (q 8)) C dX12_lets_20 in_X12_lets 8 (by decide) (by decide +kernel) rfl rfl (pc' := 23) rfl ?_
    refine wm_iload_n C dX12_lets_23 1 rfl (pc' := 24) rfl ?_
    obtain ⟨h3, hf⟩ := chk_s hf
    refine wm_iald (f := gA σ 8) (N := 12) (cA := τ.1) C dX12_lets_24 6 mA_8 rfl h3 (pc' := 25) rfl ?_
    refine wm_goto C dX12_lets_25 41 (by decide) ?_
    obtain ⟨rfl, rfl⟩ := leaf_s hf
    exact wm_iret C dX12_lets_41 (Nat.zero_le _) (Nat.zero_le _) FD.rf
  · have hf := ite_f h2 hf
    refine wm_aload_n C dX12_lets_9 0 rfl (pc' := 10) rfl ?_
    refine m_get (v := .ref (q 7)) C dX12_lets_10 in_X12_lets 7 (by decide) (by decide +kernel) rfl rfl (pc' := 13) rfl ?_
    refine wm_iload_n C dX12_lets_13 1 rfl (pc' := 14) rfl ?_
    obtain ⟨h4, hf⟩ := chk_s hf
    refine wm_iald (f := gA σ 7) (N := 12) (cA := τ.1) C dX12_lets_14 5 mA_7 rfl h4 (pc' := 15) rfl ?_
    refine wm_ikonst (v := 2) C dX12_lets_15 (by decide) (pc' := 16) rfl ?_
    refine wm_icmp_ne C dX12_lets_16 28 (by decide) (pc' := 19) rfl (fun h5 => ?_) (fun h5 => ?_)
    · have hf := ite_t h5 hf
      refine wm_aload_n C dX12_lets_28 0 rfl (pc' := 29) rfl ?_
      refine m_get (v := .ref (q 8)) C dX12_lets_29 in_X12_lets 8 (by decide) (by decide +kernel) rfl rfl (pc' := 32) rfl ?_
      refine wm_iload_n C dX12_lets_32 1 rfl (pc' := 33) rfl ?_
      obtain ⟨h6, hf⟩ := chk_s hf
      refine wm_iald (f := gA σ 8) (N := 12) (cA := τ.1) C dX12_lets_33 6 mA_8 rfl h6 (pc' := 34) rfl ?_
      refine wm_aload_n C dX12_lets_34 0 rfl (pc' := 35) rfl ?_
      refine m_get (v := .ref (q 8)) C dX12_lets_35 in_X12_lets 8 (by decide) (by decide +kernel) rfl rfl (pc' := 38) rfl ?_
      refine wm_iload_n C dX12_lets_38 1 rfl (pc' := 39) rfl ?_
      obtain ⟨h7, hf⟩ := chk_s hf
      refine wm_iald (f := gA σ 8) (N := 12) (cA := τ.1) C dX12_lets_39 6 mA_8 rfl h7 (pc' := 40) rfl ?_
      refine wm_imul C dX12_lets_40 (pc' := 41) rfl ?_
      obtain ⟨rfl, rfl⟩ := leaf_s hf
      exact wm_iret C dX12_lets_41 (Nat.zero_le _) (Nat.zero_le _) FD.rf
    · have hf := ite_f (fun h => h h5) hf
      refine wm_aload_n C dX12_lets_19 0 rfl (pc' := 20) rfl ?_
      refine m_get (v := .ref (q 8)) C dX12_lets_20 in_X12_lets 8 (by decide) (by decide +kernel) rfl rfl (pc' := 23) rfl ?_
      refine wm_iload_n C dX12_lets_23 1 rfl (pc' := 24) rfl ?_
      obtain ⟨h8, hf⟩ := chk_s hf
      refine wm_iald (f := gA σ 8) (N := 12) (cA := τ.1) C dX12_lets_24 6 mA_8 rfl h8 (pc' := 25) rfl ?_
      refine wm_goto C dX12_lets_25 41 (by decide) ?_
      obtain ⟨rfl, rfl⟩ := leaf_s hf
      exact wm_iret C dX12_lets_41 (Nat.zero_le _) (Nat.zero_le _) FD.rf
def fX12_about (x1 : Int32) (x2 : Int32) (σ : MS) : Option (Int32 × MS) :=
  bnd (fX12_noCrack x1 σ) (fun r1 s2 => if r1 = 0 then if x2 = 0 then if ¬ (x1 < 0 ∨ 12 ≤ x1.toNatClampNeg) then some (gA s2 5 x1.toNatClampNeg, s2) else none else if x2 = 1 then if ¬ (x1 < 0 ∨ 12 ≤ x1.toNatClampNeg) then some (gA s2 6 x1.toNatClampNeg, s2) else none else if x2 = 2 then if ¬ (x1 < 0 ∨ 12 ≤ x1.toNatClampNeg) then some (gA s2 7 x1.toNatClampNeg, s2) else none else if x2 = 3 then if ¬ (x1 < 0 ∨ 12 ≤ x1.toNatClampNeg) then some (gA s2 8 x1.toNatClampNeg, s2) else none else if x2 = 4 then if ¬ (x1 < 0 ∨ 12 ≤ x1.toNatClampNeg) then some (gA s2 9 x1.toNatClampNeg, s2) else none else if x2 = 5 then if ¬ (x1 < 0 ∨ 12 ≤ x1.toNatClampNeg) then some (gA s2 10 x1.toNatClampNeg, s2) else none else if x2 = 6 then bnd (fX12_lets x1 s2) (fun r18 s19 => some (r18, s19)) else some ((-2), s2) else some ((-1), s2))
theorem in_X12_about : ∀ w ∈ u_ws RX12 TX12 39, w ∈ wsX12_about := by decide +kernel
set_option maxHeartbeats 4000000 in
set_option maxRecDepth 100000 in
theorem kX12_about (l : Launch) (D : va_G) (τ : CId) (q : Nat → Nat) (σ : MS) (x1 : Int32) (x2 : Int32) (rE : Int32) (sE : MS) (hf : fX12_about x1 x2 σ = some (rE, sE)) : Ct l D τ yX12_about wsX12_about { frames := 2, cells := 0, slots := 0, locals := 43 } [.ref (q 0), .int x1, .int x2] (mW τ q σ) (FD (mW τ q sE) (some (.int rE))) := by
  unfold fX12_about at hf
  refine ct_of (cc := cX12_about) (maxL := 3) (ret := (some .int)) (by decide) rfl (Nat.le_of_ble_eq_true rfl) (fun Γ C => ?_)
  refine wm_lv (lv' := [(0, .ref (q 0)), (1, .int x1), (2, .int x2)]) rfl ?_
  refine wm_aload_n C dX12_about_0 0 rfl (pc' := 1) rfl ?_
  refine wm_iload_n C dX12_about_1 1 rfl (pc' := 2) rfl ?_
  obtain ⟨r1, s2, h3, hf⟩ := bnd_s hf
  refine wm_callVd (nn := 1) (As := [.int x1]) (rest := []) (st' := [.int r1]) C dX12_about_2 (kX12_noCrack l D τ q σ x1 r1 s2 h3) gX12_about_X12_noCrack rfl (by decide +kernel) ⟨Nat.le_of_ble_eq_true rfl, Nat.le_of_ble_eq_true rfl⟩ rfl rfl ⟨Nat.zero_le _, Nat.zero_le _⟩ 0 rfl rfl rfl rfl (Nat.le_of_ble_eq_true rfl) rfl (pc' := 5) rfl ?_
  refine wm_if_eq C dX12_about_5 10 (by decide) (pc' := 8) rfl (fun h4 => ?_) (fun h4 => ?_)
  · have hf := ite_t h4 hf
    refine wm_iload_n C dX12_about_10 2 rfl (pc' := 11) rfl ?_
    by_cases h5 : x2 = 0
    · have hf := ite_t h5 hf
      refine wm_tableIn (off := 41) C dX12_about_11 (by rw [h5]; decide) (by rw [h5]; decide) (by rw [h5]; rfl) 52 (by decide) ?_
      refine wm_aload_n C dX12_about_52 0 rfl (pc' := 53) rfl ?_
      refine m_get (v := .ref (q 5)) C dX12_about_53 in_X12_about 5 (by decide) (by decide +kernel) rfl rfl (pc' := 56) rfl ?_
      refine wm_iload_n C dX12_about_56 1 rfl (pc' := 57) rfl ?_
      obtain ⟨h6, hf⟩ := chk_s hf
      refine wm_iald (f := gA s2 5) (N := 12) (cA := τ.1) C dX12_about_57 3 mA_5 rfl h6 (pc' := 58) rfl ?_
      obtain ⟨rfl, rfl⟩ := leaf_s hf
      exact wm_iret C dX12_about_58 (Nat.zero_le _) (Nat.zero_le _) FD.rf
    · have hf := ite_f h5 hf
      by_cases h7 : x2 = 1
      · have hf := ite_t h7 hf
        refine wm_tableIn (off := 48) C dX12_about_11 (by rw [h7]; decide) (by rw [h7]; decide) (by rw [h7]; rfl) 59 (by decide) ?_
        refine wm_aload_n C dX12_about_59 0 rfl (pc' := 60) rfl ?_
        refine m_get (v := .ref (q 6)) C dX12_about_60 in_X12_about 6 (by decide) (by decide +kernel) rfl rfl (pc' := 63) rfl ?_
        refine wm_iload_n C dX12_about_63 1 rfl (pc' := 64) rfl ?_
        obtain ⟨h8, hf⟩ := chk_s hf
        refine wm_iald (f := gA s2 6) (N := 12) (cA := τ.1) C dX12_about_64 4 mA_6 rfl h8 (pc' := 65) rfl ?_
        obtain ⟨rfl, rfl⟩ := leaf_s hf
        exact wm_iret C dX12_about_65 (Nat.zero_le _) (Nat.zero_le _) FD.rf
      · have hf := ite_f h7 hf
        by_cases h9 : x2 = 2
        · have hf := ite_t h9 hf
          refine wm_tableIn (off := 55) C dX12_about_11 (by rw [h9]; decide) (by rw [h9]; decide) (by rw [h9]; rfl) 66 (by decide) ?_
          refine wm_aload_n C dX12_about_66 0 rfl (pc' := 67) rfl ?_
          refine m_get (v := .ref (q 7)) C dX12_about_67 in_X12_about 7 (by decide) (by decide +kernel) rfl rfl (pc' := 70) rfl ?_
          refine wm_iload_n C dX12_about_70 1 rfl (pc' := 71) rfl ?_
          obtain ⟨h10, hf⟩ := chk_s hf
          refine wm_iald (f := gA s2 7) (N := 12) (cA := τ.1) C dX12_about_71 5 mA_7 rfl h10 (pc' := 72) rfl ?_
          obtain ⟨rfl, rfl⟩ := leaf_s hf
          exact wm_iret C dX12_about_72 (Nat.zero_le _) (Nat.zero_le _) FD.rf
        · have hf := ite_f h9 hf
          by_cases h11 : x2 = 3
          · have hf := ite_t h11 hf
            refine wm_tableIn (off := 62) C dX12_about_11 (by rw [h11]; decide) (by rw [h11]; decide) (by rw [h11]; rfl) 73 (by decide) ?_
            refine wm_aload_n C dX12_about_73 0 rfl (pc' := 74) rfl ?_
            refine m_get (v := .ref (q 8)) C dX12_about_74 in_X12_about 8 (by decide) (by decide +kernel) rfl rfl (pc' := 77) rfl ?_
            refine wm_iload_n C dX12_about_77 1 rfl (pc' := 78) rfl ?_
            obtain ⟨h12, hf⟩ := chk_s hf
            refine wm_iald (f := gA s2 8) (N := 12) (cA := τ.1) C dX12_about_78 6 mA_8 rfl h12 (pc' := 79) rfl ?_
            obtain ⟨rfl, rfl⟩ := leaf_s hf
            exact wm_iret C dX12_about_79 (Nat.zero_le _) (Nat.zero_le _) FD.rf
          · have hf := ite_f h11 hf
            by_cases h13 : x2 = 4
            · have hf := ite_t h13 hf
              refine wm_tableIn (off := 69) C dX12_about_11 (by rw [h13]; decide) (by rw [h13]; decide) (by rw [h13]; rfl) 80 (by decide) ?_
              refine wm_aload_n C dX12_about_80 0 rfl (pc' := 81) rfl ?_
              refine m_get (v := .ref (q 9)) C dX12_about_81 in_X12_about 9 (by decide) (by decide +kernel) rfl rfl (pc' := 84) rfl ?_
              refine wm_iload_n C dX12_about_84 1 rfl (pc' := 85) rfl ?_
              obtain ⟨h14, hf⟩ := chk_s hf
              refine wm_iald (f := gA s2 9) (N := 12) (cA := τ.1) C dX12_about_85 7 mA_9 rfl h14 (pc' := 86) rfl ?_
              obtain ⟨rfl, rfl⟩ := leaf_s hf
              exact wm_iret C dX12_about_86 (Nat.zero_le _) (Nat.zero_le _) FD.rf
            · have hf := ite_f h13 hf
              by_cases h15 : x2 = 5
              · have hf := ite_t h15 hf
                refine wm_tableIn (off := 76) C dX12_about_11 (by rw [h15]; decide) (by rw [h15]; decide) (by rw [h15]; rfl) 87 (by decide) ?_
                refine wm_aload_n C dX12_about_87 0 rfl (pc' := 88) rfl ?_
                refine m_get (v := .ref (q 10)) C dX12_about_88 in_X12_about 10 (by decide) (by decide +kernel) rfl rfl (pc' := 91) rfl ?_
                refine wm_iload_n C dX12_about_91 1 rfl (pc' := 92) rfl ?_
                obtain ⟨h16, hf⟩ := chk_s hf
                refine wm_iald (f := gA s2 10) (N := 12) (cA := τ.1) C dX12_about_92 8 mA_10 rfl h16 (pc' := 93) rfl ?_
                obtain ⟨rfl, rfl⟩ := leaf_s hf
                exact wm_iret C dX12_about_93 (Nat.zero_le _) (Nat.zero_le _) FD.rf
              · have hf := ite_f h15 hf
                by_cases h17 : x2 = 6
                · have hf := ite_t h17 hf
                  refine wm_tableIn (off := 83) C dX12_about_11 (by rw [h17]; decide) (by rw [h17]; decide) (by rw [h17]; rfl) 94 (by decide) ?_
                  refine wm_aload_n C dX12_about_94 0 rfl (pc' := 95) rfl ?_
                  refine wm_iload_n C dX12_about_95 1 rfl (pc' := 96) rfl ?_
                  obtain ⟨r18, s19, h20, hf⟩ := bnd_s hf
                  refine wm_callVd (nn := 1) (As := [.int x1]) (rest := []) (st' := [.int r18]) C dX12_about_96 (kX12_lets l D τ q s2 x1 r18 s19 h20) gX12_about_X12_lets rfl (by decide +kernel) ⟨Nat.le_of_ble_eq_true rfl, Nat.le_of_ble_eq_true rfl⟩ rfl rfl ⟨Nat.zero_le _, Nat.zero_le _⟩ 0 rfl rfl rfl rfl (Nat.le_of_ble_eq_true rfl) rfl (pc' := 99) rfl ?_
                  obtain ⟨rfl, rfl⟩ := leaf_s hf
                  exact wm_iret C dX12_about_99 (Nat.zero_le _) (Nat.zero_le _) FD.rf
                · have hf := ite_f h17 hf
                  refine wm_tableOut C dX12_about_11 (by have a0 := i32_ne (h5); have a1 := i32_ne (h7); have a2 := i32_ne (h9); have a3 := i32_ne (h11); have a4 := i32_ne (h13); have a5 := i32_ne (h15); have a6 := i32_ne (h17); rw [show (0 : Int32).toInt = 0 from by decide] at a0; rw [show (1 : Int32).toInt = 1 from by decide] at a1; rw [show (2 : Int32).toInt = 2 from by decide] at a2; rw [show (3 : Int32).toInt = 3 from by decide] at a3; rw [show (4 : Int32).toInt = 4 from by decide] at a4; rw [show (5 : Int32).toInt = 5 from by decide] at a5; rw [show (6 : Int32).toInt = 6 from by decide] at a6; omega) 100 (by decide) ?_
                  refine wm_bipush (v := (-2)) C dX12_about_100 (by decide) (pc' := 102) rfl ?_
                  obtain ⟨rfl, rfl⟩ := leaf_s hf
                  exact wm_iret C dX12_about_102 (Nat.zero_le _) (Nat.zero_le _) FD.rf
  · have hf := ite_f h4 hf
    refine wm_ikonst (v := (-1)) C dX12_about_8 (by decide) (pc' := 9) rfl ?_
    obtain ⟨rfl, rfl⟩ := leaf_s hf
    exact wm_iret C dX12_about_9 (Nat.zero_le _) (Nat.zero_le _) FD.rf
def fX12_refused (x1 : Int32) (σ : MS) : Option (Int32 × MS) :=
  lets (sI σ 0 0) (fun s1 => some (x1, s1))
theorem in_X12_refused : ∀ w ∈ u_ws RX12 TX12 39, w ∈ wsX12_refused := by decide +kernel
set_option maxHeartbeats 4000000 in
set_option maxRecDepth 100000 in
theorem kX12_refused (l : Launch) (D : va_G) (τ : CId) (q : Nat → Nat) (σ : MS) (x1 : Int32) (rE : Int32) (sE : MS) (hf : fX12_refused x1 σ = some (rE, sE)) : Ct l D τ yX12_refused wsX12_refused { frames := 0, cells := 0, slots := 0, locals := 0 } [.ref (q 0), .int x1] (mW τ q σ) (FD (mW τ q sE) (some (.int rE))) := by
  unfold fX12_refused at hf
  refine ct_of (cc := cX12_refused) (maxL := 2) (ret := (some .int)) (by decide) rfl (Nat.le_of_ble_eq_true rfl) (fun Γ C => ?_)
  refine wm_lv (lv' := [(0, .ref (q 0)), (1, .int x1)]) rfl ?_
  refine wm_aload_n C dX12_refused_0 0 rfl (pc' := 1) rfl ?_
  refine wm_ikonst (v := 0) C dX12_refused_1 (by decide) (pc' := 2) rfl ?_
  obtain ⟨s1, e2, hf⟩ := lets_s hf
  refine m_putI C dX12_refused_2 in_X12_refused 0 (by decide) (by decide +kernel) rfl rfl rfl mL_0 mI_0 e2 (pc' := 5) rfl ?_
  refine wm_iload_n C dX12_refused_5 1 rfl (pc' := 6) rfl ?_
  obtain ⟨rfl, rfl⟩ := leaf_s hf
  exact wm_iret C dX12_refused_6 (Nat.zero_le _) (Nat.zero_le _) FD.rf
def fX12_failed (x1 : Int32) (σ : MS) : Option (Int32 × MS) :=
  lets (sI σ 0 x1) (fun s1 => some ((-10) - x1, s1))
theorem in_X12_failed : ∀ w ∈ u_ws RX12 TX12 39, w ∈ wsX12_failed := by decide +kernel
set_option maxHeartbeats 4000000 in
set_option maxRecDepth 100000 in
theorem kX12_failed (l : Launch) (D : va_G) (τ : CId) (q : Nat → Nat) (σ : MS) (x1 : Int32) (rE : Int32) (sE : MS) (hf : fX12_failed x1 σ = some (rE, sE)) : Ct l D τ yX12_failed wsX12_failed { frames := 0, cells := 0, slots := 0, locals := 0 } [.ref (q 0), .int x1] (mW τ q σ) (FD (mW τ q sE) (some (.int rE))) := by
  unfold fX12_failed at hf
  refine ct_of (cc := cX12_failed) (maxL := 2) (ret := (some .int)) (by decide) rfl (Nat.le_of_ble_eq_true rfl) (fun Γ C => ?_)
  refine wm_lv (lv' := [(0, .ref (q 0)), (1, .int x1)]) rfl ?_
  refine wm_aload_n C dX12_failed_0 0 rfl (pc' := 1) rfl ?_
  refine wm_iload_n C dX12_failed_1 1 rfl (pc' := 2) rfl ?_
  obtain ⟨s1, e2, hf⟩ := lets_s hf
  refine m_putI C dX12_failed_2 in_X12_failed 0 (by decide) (by decide +kernel) rfl rfl rfl mL_0 mI_0 e2 (pc' := 5) rfl ?_
  refine wm_bipush (v := (-10)) C dX12_failed_5 (by decide) (pc' := 7) rfl ?_
  refine wm_iload_n C dX12_failed_7 1 rfl (pc' := 8) rfl ?_
  refine wm_isub C dX12_failed_8 (pc' := 9) rfl ?_
  obtain ⟨rfl, rfl⟩ := leaf_s hf
  exact wm_iret C dX12_failed_9 (Nat.zero_le _) (Nat.zero_le _) FD.rf
def fX12_failedLong (x1 : Int32) (σ : MS) : Option (Int64 × MS) :=
  lets (sI σ 0 x1) (fun s1 => bnd (fX12_lost) (fun r3 u4 => some (r3, s1)))
theorem in_X12_failedLong : ∀ w ∈ u_ws RX12 TX12 39, w ∈ wsX12_failedLong := by decide +kernel
set_option maxHeartbeats 4000000 in
set_option maxRecDepth 100000 in
theorem kX12_failedLong (l : Launch) (D : va_G) (τ : CId) (q : Nat → Nat) (σ : MS) (x1 : Int32) (rE : Int64) (sE : MS) (hf : fX12_failedLong x1 σ = some (rE, sE)) : Ct l D τ yX12_failedLong wsX12_failedLong { frames := 1, cells := 0, slots := 0, locals := 19 } [.ref (q 0), .int x1] (mW τ q σ) (FD (mW τ q sE) (some (.long rE))) := by
  unfold fX12_failedLong at hf
  refine ct_of (cc := cX12_failedLong) (maxL := 2) (ret := (some .long)) (by decide) rfl (Nat.le_of_ble_eq_true rfl) (fun Γ C => ?_)
  refine wm_lv (lv' := [(0, .ref (q 0)), (1, .int x1)]) rfl ?_
  refine wm_aload_n C dX12_failedLong_0 0 rfl (pc' := 1) rfl ?_
  refine wm_iload_n C dX12_failedLong_1 1 rfl (pc' := 2) rfl ?_
  obtain ⟨s1, e2, hf⟩ := lets_s hf
  refine m_putI C dX12_failedLong_2 in_X12_failedLong 0 (by decide) (by decide +kernel) rfl rfl rfl mL_0 mI_0 e2 (pc' := 5) rfl ?_
  obtain ⟨r3, u4, h5, hf⟩ := bnd_s hf
  refine wm_callSd (nn := 0) (As := []) (rest := []) (st' := [.long r3]) C dX12_failedLong_5 (kX12_lost l D τ r3 h5) gX12_failedLong_X12_lost rfl (by decide +kernel) ⟨Nat.le_of_ble_eq_true rfl, Nat.le_of_ble_eq_true rfl⟩ rfl rfl ⟨Nat.zero_le _, Nat.zero_le _⟩ rfl rfl (Nat.le_of_ble_eq_true rfl) rfl (pc' := 8) rfl ?_
  obtain ⟨rfl, rfl⟩ := leaf_s hf
  exact wm_lret C dX12_failedLong_8 (Nat.zero_le _) (Nat.zero_le _) FD.rf
