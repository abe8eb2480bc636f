def fX12_rate (x1 : Int32) (σ : MS) : Option (Int32 × MS) :=
  bnd (fX12_among x1 1 100) (fun r1 u2 => if ¬ r1 = 0 then lets (sI σ 11 x1) (fun s5 => some (gI σ 11, s5)) else some ((-2), σ))
theorem in_X12_rate : ∀ w ∈ u_ws RX12 TX12 39, w ∈ wsX12_rate := by decide +kernel
set_option maxHeartbeats 4000000 in
set_option maxRecDepth 100000 in
theorem kX12_rate (l : Launch) (D : va_G) (τ : CId) (q : Nat → Nat) (σ : MS) (x1 : Int32) (rE : Int32) (sE : MS) (hf : fX12_rate x1 σ = some (rE, sE)) : Ct l D τ yX12_rate wsX12_rate { frames := 1, cells := 0, slots := 0, locals := 22 } [.ref (q 0), .int x1] (mW τ q σ) (FD (mW τ q sE) (some (.int rE))) := by
  unfold fX12_rate at hf
  refine ct_of (cc := cX12_rate) (maxL := 3) (ret := (some .int)) (by decide) rfl (Nat.le_of_ble_eq_true rfl) (fun Γ C => ?_)
  refine wm_lv (lv' := [(0, .ref (q 0)), (1, .int x1)]) rfl ?_
  refine wm_iload_n C dX12_rate_0 1 rfl (pc' := 1) rfl ?_
  refine wm_ikonst (v := 1) C dX12_rate_1 (by decide) (pc' := 2) rfl ?_
  refine wm_bipush (v := 100) C dX12_rate_2 (by decide) (pc' := 4) rfl ?_
  obtain ⟨r1, u2, h3, hf⟩ := bnd_s hf
  refine wm_callSd (nn := 3) (As := [.int x1, .int 1, .int 100]) (rest := []) (st' := [.int r1]) C dX12_rate_4 (kX12_among l D τ x1 1 100 r1 h3) gX12_rate_X12_among rfl (by decide +kernel) ⟨Nat.le_of_ble_eq_true rfl, Nat.le_of_ble_eq_true rfl⟩ rfl rfl ⟨Nat.zero_le _, Nat.zero_le _⟩ rfl rfl (Nat.le_of_ble_eq_true rfl) rfl (pc' := 7) rfl ?_
  refine wm_if_ne C dX12_rate_7 13 (by decide) (pc' := 10) rfl (fun h4 => ?_) (fun h4 => ?_)
  · have hf := ite_t h4 hf
    refine wm_aload_n C dX12_rate_13 0 rfl (pc' := 14) rfl ?_
    refine m_get (v := .int (gI σ 11)) C dX12_rate_14 in_X12_rate 11 (by decide) (by decide +kernel) rfl rfl (pc' := 17) rfl ?_
    refine wm_istore_n (lv' := [(2, .int (gI σ 11)), (0, .ref (q 0)), (1, .int x1)]) C dX12_rate_17 (by decide) rfl (pc' := 18) rfl ?_
    refine wm_aload_n C dX12_rate_18 1 rfl (pc' := 19) rfl ?_
    refine wm_iload_n C dX12_rate_19 2 rfl (pc' := 20) rfl ?_
    obtain ⟨s5, e6, hf⟩ := lets_s hf
    refine m_putI C dX12_rate_20 in_X12_rate 11 (by decide) (by decide +kernel) rfl rfl rfl mL_11 mI_11 e6 (pc' := 23) rfl ?_
    refine wm_iload_n C dX12_rate_23 0 rfl (pc' := 24) rfl ?_
    obtain ⟨rfl, rfl⟩ := leaf_s hf
    exact wm_iret C dX12_rate_24 (Nat.zero_le _) (Nat.zero_le _) FD.rf
  · have hf := ite_f (fun h => h h4) hf
    refine wm_bipush (v := (-2)) C dX12_rate_10 (by decide) (pc' := 12) rfl ?_
    obtain ⟨rfl, rfl⟩ := leaf_s hf
    exact wm_iret C dX12_rate_12 (Nat.zero_le _) (Nat.zero_le _) FD.rf
def fX12_eatsIn (x1 : Int32) (x2 : Int32) (σ : MS) : Option (Int32 × MS) :=
  if ¬ (x1 < 0 ∨ 12 ≤ x1.toNatClampNeg) then if (gA σ 7 x1.toNatClampNeg) < 3 then some (1, σ) else if ¬ (x1 < 0 ∨ 12 ≤ x1.toNatClampNeg) then if ¬ (gA σ 9 x1.toNatClampNeg) = 0 then if ¬ (x2 - x2 / (gA σ 9 x1.toNatClampNeg) * (gA σ 9 x1.toNatClampNeg)) = 0 then some (0, σ) else some (1, σ) else none else none else none
theorem in_X12_eatsIn : ∀ w ∈ u_ws RX12 TX12 39, w ∈ wsX12_eatsIn := by decide +kernel
set_option maxHeartbeats 4000000 in
set_option maxRecDepth 100000 in
theorem kX12_eatsIn (l : Launch) (D : va_G) (τ : CId) (q : Nat → Nat) (σ : MS) (x1 : Int32) (x2 : Int32) (rE : Int32) (sE : MS) (hf : fX12_eatsIn x1 x2 σ = some (rE, sE)) : Ct l D τ yX12_eatsIn wsX12_eatsIn { frames := 0, cells := 0, slots := 0, locals := 0 } [.ref (q 0), .int x1, .int x2] (mW τ q σ) (FD (mW τ q sE) (some (.int rE))) := by
  unfold fX12_eatsIn at hf
  refine ct_of (cc := cX12_eatsIn) (maxL := 3) (ret := (some .boolean)) (by decide) rfl (Nat.le_of_ble_eq_true rfl) (fun Γ C => ?_)
  refine wm_lv (lv' := [(0, .ref (q 0)), (1, .int x1), (2, .int x2)]) rfl ?_
  refine wm_aload_n C dX12_eatsIn_0 0 rfl (pc' := 1) rfl ?_
  refine m_get (v := .ref (q 7)) C dX12_eatsIn_1 in_X12_eatsIn 7 (by decide) (by decide +kernel) rfl rfl (pc' := 4) rfl ?_
  refine wm_iload_n C dX12_eatsIn_4 1 rfl (pc' := 5) rfl ?_
  obtain ⟨h1, hf⟩ := chk_s hf
  refine wm_iald (f := gA σ 7) (N := 12) (cA := τ.1) C dX12_eatsIn_5 5 mA_7 rfl h1 (pc' := 6) rfl ?_
  refine wm_ikonst (v := 3) C dX12_eatsIn_6 (by decide) (pc' := 7) rfl ?_
  refine wm_icmp_lt C dX12_eatsIn_7 21 (by decide) (pc' := 10) rfl (fun h2 => ?_) (fun h2 => ?_)
  · have hf := ite_t h2 hf
    refine wm_ikonst (v := 1) C dX12_eatsIn_21 (by decide) (pc' := 22) rfl ?_
    refine wm_goto C dX12_eatsIn_22 26 (by decide) ?_
    obtain ⟨rfl, rfl⟩ := leaf_s hf
    exact wm_zret C dX12_eatsIn_26 (by decide) (Nat.zero_le _) (Nat.zero_le _) FD.rf
  · have hf := ite_f h2 hf
    refine wm_iload_n C dX12_eatsIn_10 2 rfl (pc' := 11) rfl ?_
    refine wm_aload_n C dX12_eatsIn_11 0 rfl (pc' := 12) rfl ?_
    refine m_get (v := .ref (q 9)) C dX12_eatsIn_12 in_X12_eatsIn 9 (by decide) (by decide +kernel) rfl rfl (pc' := 15) rfl ?_
    refine wm_iload_n C dX12_eatsIn_15 1 rfl (pc' := 16) rfl ?_
    obtain ⟨h3, hf⟩ := chk_s hf
    refine wm_iald (f := gA σ 9) (N := 12) (cA := τ.1) C dX12_eatsIn_16 7 mA_9 rfl h3 (pc' := 17) rfl ?_
    obtain ⟨h4, hf⟩ := chk_s hf
    refine wm_irem C dX12_eatsIn_17 h4 (pc' := 18) rfl ?_
    refine wm_if_ne C dX12_eatsIn_18 25 (by decide) (pc' := 21) rfl (fun h5 => ?_) (fun h5 => ?_)
    · have hf := ite_t h5 hf
      refine wm_ikonst (v := 0) C dX12_eatsIn_25 (by decide) (pc' := 26) rfl ?_
      obtain ⟨rfl, rfl⟩ := leaf_s hf
      exact wm_zret C dX12_eatsIn_26 (by decide) (Nat.zero_le _) (Nat.zero_le _) FD.rf
    · have hf := ite_f (fun h => h h5) hf
      refine wm_ikonst (v := 1) C dX12_eatsIn_21 (by decide) (pc' := 22) rfl ?_
      refine wm_goto C dX12_eatsIn_22 26 (by decide) ?_
      obtain ⟨rfl, rfl⟩ := leaf_s hf
      exact wm_zret C dX12_eatsIn_26 (by decide) (Nat.zero_le _) (Nat.zero_le _) FD.rf
def fX12_eaten_J18 (t0 : Int64) (s : MS) : Option (Int64 × MS) :=
  if ¬ (gL s) = 0 then some ((t0 * ((gI s 11).toInt64)) / (gL s), s) else none
def fX12_eaten (x1 : Int32) (σ : MS) : Option (Int64 × MS) :=
  bnd (fX12_flowOf x1 σ) (fun r1 s2 => if 0 ≤ (lg_cmp r1 0) then fX12_eaten_J18 r1 s2 else fX12_eaten_J18 (-r1) s2)
theorem in_X12_eaten : ∀ w ∈ u_ws RX12 TX12 39, w ∈ wsX12_eaten := by decide +kernel
set_option maxHeartbeats 4000000 in
set_option maxRecDepth 100000 in
theorem kX12_eaten (l : Launch) (D : va_G) (τ : CId) (q : Nat → Nat) (σ : MS) (x1 : Int32) (rE : Int64) (sE : MS) (hf : fX12_eaten x1 σ = some (rE, sE)) : Ct l D τ yX12_eaten wsX12_eaten { frames := 2, cells := 0, slots := 0, locals := 42 } [.ref (q 0), .int x1] (mW τ q σ) (FD (mW τ q sE) (some (.long rE))) := by
  unfold fX12_eaten at hf
  refine ct_of (cc := cX12_eaten) (maxL := 4) (ret := (some .long)) (by decide) rfl (Nat.le_of_ble_eq_true rfl) (fun Γ C => ?_)
  refine wm_lv (lv' := [(0, .ref (q 0)), (1, .int x1)]) rfl ?_
  have wJ_18 : ∀ (t0 : Int64) (s : MS), fX12_eaten_J18 t0 s = some (rE, sE) → WM l D Γ 4 0 0 (mW τ q s) 18 [(0, .ref (q 0))] [.long t0] := by
    intro t0 s hf
    unfold fX12_eaten_J18 at hf
    refine wm_aload_n C dX12_eaten_18 0 rfl (pc' := 19) rfl ?_
    refine m_get (v := .int (gI s 11)) C dX12_eaten_19 in_X12_eaten 11 (by decide) (by decide +kernel) rfl rfl (pc' := 22) rfl ?_
    refine wm_i2l C dX12_eaten_22 (pc' := 23) rfl ?_
    refine wm_lmul C dX12_eaten_23 (pc' := 24) rfl ?_
    refine wm_aload_n C dX12_eaten_24 0 rfl (pc' := 25) rfl ?_
    refine m_get (v := .long (gL s)) C dX12_eaten_25 in_X12_eaten 15 (by decide) (by decide +kernel) rfl rfl (pc' := 28) rfl ?_
    obtain ⟨h5, hf⟩ := chk_s hf
    refine wm_ldiv C dX12_eaten_28 h5 (pc' := 29) rfl ?_
    obtain ⟨rfl, rfl⟩ := leaf_s hf
    exact wm_lret C dX12_eaten_29 (Nat.zero_le _) (Nat.zero_le _) FD.rf
  refine wm_aload_n C dX12_eaten_0 0 rfl (pc' := 1) rfl ?_
  refine wm_iload_n C dX12_eaten_1 1 rfl (pc' := 2) rfl ?_
  obtain ⟨r1, s2, h3, hf⟩ := bnd_s hf
  refine wm_callVd (nn := 1) (As := [.int x1]) (rest := []) (st' := [.long r1]) C dX12_eaten_2 (kX12_flowOf l D τ q σ x1 r1 s2 h3) gX12_eaten_X12_flowOf rfl (by decide +kernel) ⟨Nat.le_of_ble_eq_true rfl, Nat.le_of_ble_eq_true rfl⟩ rfl rfl ⟨Nat.zero_le _, Nat.zero_le _⟩ 0 rfl rfl rfl rfl (Nat.le_of_ble_eq_true rfl) rfl (pc' := 5) rfl ?_
  refine wm_lstore_n (lv' := [(2, .long r1), (0, .ref (q 0)), (1, .int x1)]) C dX12_eaten_5 (by decide) rfl (pc' := 6) rfl ?_
  refine wm_lload_n C dX12_eaten_6 0 rfl (pc' := 7) rfl ?_
  refine wm_lkonst (v := 0) C dX12_eaten_7 (by decide) (pc' := 8) rfl ?_
  refine wm_lcmp C dX12_eaten_8 (pc' := 9) rfl ?_
  refine wm_if_ge C dX12_eaten_9 17 (by decide) (pc' := 12) rfl (fun h4 => ?_) (fun h4 => ?_)
  · have hf := ite_t h4 hf
    refine wm_lload_n C dX12_eaten_17 0 rfl (pc' := 18) rfl ?_
    refine wm_sub (lv' := [(0, .ref (q 0))]) [1] rfl ?_
    exact wJ_18 r1 s2 hf
  · have hf := ite_f h4 hf
    refine wm_lload_n C dX12_eaten_12 0 rfl (pc' := 13) rfl ?_
    refine wm_lneg C dX12_eaten_13 (pc' := 14) rfl ?_
    refine wm_goto C dX12_eaten_14 18 (by decide) ?_
    refine wm_sub (lv' := [(0, .ref (q 0))]) [1] rfl ?_
    exact wJ_18 (-r1) s2 hf
def fX12_eats (x1 : Int32) (σ : MS) : Option (Int64 × MS) :=
  bnd (fX12_noCrack x1 σ) (fun r1 s2 => if r1 = 0 then bnd (fX12_findHeads s2) (fun r5 s6 => bnd (fX12_eatsIn x1 ((gI s6 12) + 1) s6) (fun r8 s9 => if r8 = 0 then some (0, s9) else bnd (fX12_eaten x1 s9) (fun r12 s13 => some (r12, s13)))) else bnd (fX12_lost) (fun r15 u16 => some (r15, s2)))
theorem in_X12_eats : ∀ w ∈ u_ws RX12 TX12 39, w ∈ wsX12_eats := by decide +kernel
set_option maxHeartbeats 4000000 in
set_option maxRecDepth 100000 in
theorem kX12_eats (l : Launch) (D : va_G) (τ : CId) (q : Nat → Nat) (σ : MS) (x1 : Int32) (rE : Int64) (sE : MS) (hf : fX12_eats x1 σ = some (rE, sE)) : Ct l D τ yX12_eats wsX12_eats { frames := 3, cells := 0, slots := 0, locals := 71 } [.ref (q 0), .int x1] (mW τ q σ) (FD (mW τ q sE) (some (.long rE))) := by
  unfold fX12_eats at hf
  refine ct_of (cc := cX12_eats) (maxL := 2) (ret := (some .long)) (by decide) rfl (Nat.le_of_ble_eq_true rfl) (fun Γ C => ?_)
  refine wm_lv (lv' := [(0, .ref (q 0)), (1, .int x1)]) rfl ?_
  refine wm_aload_n C dX12_eats_0 0 rfl (pc' := 1) rfl ?_
  refine wm_iload_n C dX12_eats_1 1 rfl (pc' := 2) rfl ?_
  obtain ⟨r1, s2, h3, hf⟩ := bnd_s hf
  refine wm_callVd (nn := 1) (As := [.int x1]) (rest := []) (st' := [.int r1]) C dX12_eats_2 (kX12_noCrack l D τ q σ x1 r1 s2 h3) gX12_eats_X12_noCrack rfl (by decide +kernel) ⟨Nat.le_of_ble_eq_true rfl, Nat.le_of_ble_eq_true rfl⟩ rfl rfl ⟨Nat.zero_le _, Nat.zero_le _⟩ 0 rfl rfl rfl rfl (Nat.le_of_ble_eq_true rfl) rfl (pc' := 5) rfl ?_
  refine wm_if_eq C dX12_eats_5 12 (by decide) (pc' := 8) rfl (fun h4 => ?_) (fun h4 => ?_)
  · have hf := ite_t h4 hf
    refine wm_aload_n C dX12_eats_12 0 rfl (pc' := 13) rfl ?_
    obtain ⟨r5, s6, h7, hf⟩ := bnd_s hf
    refine wm_callVd (nn := 0) (As := []) (rest := []) (st' := []) C dX12_eats_13 (kX12_findHeads l D τ q s2 s6 h7) gX12_eats_X12_findHeads rfl (by decide +kernel) ⟨Nat.le_of_ble_eq_true rfl, Nat.le_of_ble_eq_true rfl⟩ rfl rfl ⟨Nat.zero_le _, Nat.zero_le _⟩ 0 rfl rfl rfl rfl (Nat.le_of_ble_eq_true rfl) rfl (pc' := 16) rfl ?_
    refine wm_aload_n C dX12_eats_16 0 rfl (pc' := 17) rfl ?_
    refine wm_iload_n C dX12_eats_17 1 rfl (pc' := 18) rfl ?_
    refine wm_aload_n C dX12_eats_18 0 rfl (pc' := 19) rfl ?_
    refine m_get (v := .int (gI s6 12)) C dX12_eats_19 in_X12_eats 12 (by decide) (by decide +kernel) rfl rfl (pc' := 22) rfl ?_
    refine wm_ikonst (v := 1) C dX12_eats_22 (by decide) (pc' := 23) rfl ?_
    refine wm_iadd C dX12_eats_23 (pc' := 24) rfl ?_
    obtain ⟨r8, s9, h10, hf⟩ := bnd_s hf
    refine wm_callVd (nn := 2) (As := [.int x1, .int ((gI s6 12) + 1)]) (rest := []) (st' := [.int r8]) C dX12_eats_24 (kX12_eatsIn l D τ q s6 x1 ((gI s6 12) + 1) r8 s9 h10) gX12_eats_X12_eatsIn rfl (by decide +kernel) ⟨Nat.le_of_ble_eq_true rfl, Nat.le_of_ble_eq_true rfl⟩ rfl rfl ⟨Nat.zero_le _, Nat.zero_le _⟩ 0 rfl rfl rfl rfl (Nat.le_of_ble_eq_true rfl) rfl (pc' := 27) rfl ?_
    refine wm_if_eq C dX12_eats_27 38 (by decide) (pc' := 30) rfl (fun h11 => ?_) (fun h11 => ?_)
    · have hf := ite_t h11 hf
      refine wm_lkonst (v := 0) C dX12_eats_38 (by decide) (pc' := 39) rfl ?_
      obtain ⟨rfl, rfl⟩ := leaf_s hf
      exact wm_lret C dX12_eats_39 (Nat.zero_le _) (Nat.zero_le _) FD.rf
    · have hf := ite_f h11 hf
      refine wm_aload_n C dX12_eats_30 0 rfl (pc' := 31) rfl ?_
      refine wm_iload_n C dX12_eats_31 1 rfl (pc' := 32) rfl ?_
      obtain ⟨r12, s13, h14, hf⟩ := bnd_s hf
      refine wm_callVd (nn := 1) (As := [.int x1]) (rest := []) (st' := [.long r12]) C dX12_eats_32 (kX12_eaten l D τ q s9 x1 r12 s13 h14) gX12_eats_X12_eaten rfl (by decide +kernel) ⟨Nat.le_of_ble_eq_true rfl, Nat.le_of_ble_eq_true rfl⟩ rfl rfl ⟨Nat.zero_le _, Nat.zero_le _⟩ 0 rfl rfl rfl rfl (Nat.le_of_ble_eq_true rfl) rfl (pc' := 35) rfl ?_
      refine wm_goto C dX12_eats_35 39 (by decide) ?_
      obtain ⟨rfl, rfl⟩ := leaf_s hf
      exact wm_lret C dX12_eats_39 (Nat.zero_le _) (Nat.zero_le _) FD.rf
  · have hf := ite_f h4 hf
    obtain ⟨r15, u16, h17, hf⟩ := bnd_s hf
    refine wm_callSd (nn := 0) (As := []) (rest := []) (st' := [.long r15]) C dX12_eats_8 (kX12_lost l D τ r15 h17) gX12_eats_X12_lost rfl (by decide +kernel) ⟨Nat.le_of_ble_eq_true rfl, Nat.le_of_ble_eq_true rfl⟩ rfl rfl ⟨Nat.zero_le _, Nat.zero_le _⟩ rfl rfl (Nat.le_of_ble_eq_true rfl) rfl (pc' := 11) rfl ?_
    obtain ⟨rfl, rfl⟩ := leaf_s hf
    exact wm_lret C dX12_eats_11 (Nat.zero_le _) (Nat.zero_le _) FD.rf
def fX12_changes_J199 (x1 : Int32) (x4 : Int32) (t0 : Int32) (t1 : Int32) (s : MS) : Option (Int32 × MS) :=
  if ¬ (t1 < 0 ∨ 12 ≤ t1.toNatClampNeg) then lets (sA s 10 t1.toNatClampNeg t0) (fun s19 => if ¬ (x1 < 0 ∨ 12 ≤ x1.toNatClampNeg) then if (gA s19 8 x1.toNatClampNeg) = x4 then some (0, s19) else some (1, s19) else none) else none
def fX12_changes_J176 (x1 : Int32) (x4 : Int32) (x6 : Int64) (t0 : Int32) (s : MS) : Option (Int32 × MS) :=
  if t0 = 0 then fX12_changes_J199 x1 x4 ((x6 - x6 / (1000) * (1000)).toInt32) x1 s else fX12_changes_J199 x1 x4 0 x1 s
def fX12_changes_J133 (x1 : Int32) (x4 : Int32) (x5 : Int32) (x6 : Int64) (s : MS) : Option (Int32 × MS) :=
  if ¬ (x1 < 0 ∨ 12 ≤ x1.toNatClampNeg) then if ¬ (gA s 7 x1.toNatClampNeg) = 2 then if ¬ (x1 < 0 ∨ 12 ≤ x1.toNatClampNeg) then if ¬ (gA s 8 x1.toNatClampNeg) = x5 then fX12_changes_J176 x1 x4 x6 0 s else fX12_changes_J176 x1 x4 x6 1 s else none else if ¬ (x1 < 0 ∨ 12 ≤ x1.toNatClampNeg) then if ¬ (gA s 8 x1.toNatClampNeg) = 0 then fX12_changes_J176 x1 x4 x6 0 s else fX12_changes_J176 x1 x4 x6 1 s else none else none
def fX12_changes_J132 (x1 : Int32) (x4 : Int32) (x5 : Int32) (x6 : Int64) (t0 : Int32) (t1 : Int32) (s : MS) : Option (Int32 × MS) :=
  if ¬ (t1 < 0 ∨ 12 ≤ t1.toNatClampNeg) then lets (sA s 8 t1.toNatClampNeg t0) (fun s10 => fX12_changes_J133 x1 x4 x5 x6 s10) else none
def fX12_changes_J100 (x1 : Int32) (x4 : Int32) (x5 : Int32) (x6 : Int64) (t0 : Int32) (t1 : Int32) (s : MS) : Option (Int32 × MS) :=
  if ¬ (t1 < 0 ∨ 12 ≤ t1.toNatClampNeg) then lets (sA s 8 t1.toNatClampNeg t0) (fun s27 => fX12_changes_J133 x1 x4 x5 x6 s27) else none
def fX12_changes_J45 (x1 : Int32) (x2 : Int64) (x4 : Int32) (t0 : Int32) (s : MS) : Option (Int32 × MS) :=
  if ¬ (x1 < 0 ∨ 12 ≤ x1.toNatClampNeg) then if ¬ (x1 < 0 ∨ 12 ≤ x1.toNatClampNeg) then if ¬ (gA s 7 x1.toNatClampNeg) = 2 then if (lg_cmp ((((gA s 10 x1.toNatClampNeg).toInt64) + x2) / (1000)) ((t0 - x4).toInt64)) < 0 then fX12_changes_J132 x1 x4 t0 (((gA s 10 x1.toNatClampNeg).toInt64) + x2) (x4 + (((((gA s 10 x1.toNatClampNeg).toInt64) + x2) / (1000)).toInt32)) x1 s else fX12_changes_J132 x1 x4 t0 (((gA s 10 x1.toNatClampNeg).toInt64) + x2) t0 x1 s else if (lg_cmp ((((gA s 10 x1.toNatClampNeg).toInt64) + x2) / (1000)) x4.toInt64) < 0 then fX12_changes_J100 x1 x4 t0 (((gA s 10 x1.toNatClampNeg).toInt64) + x2) (x4 - (((((gA s 10 x1.toNatClampNeg).toInt64) + x2) / (1000)).toInt32)) x1 s else fX12_changes_J100 x1 x4 t0 (((gA s 10 x1.toNatClampNeg).toInt64) + x2) 0 x1 s else none else none
def fX12_changes (x1 : Int32) (x2 : Int64) (σ : MS) : Option (Int32 × MS) :=
  if ¬ (x1 < 0 ∨ 12 ≤ x1.toNatClampNeg) then if ¬ (x1 < 0 ∨ 12 ≤ x1.toNatClampNeg) then if ¬ (gA σ 7 x1.toNatClampNeg) = 4 then fX12_changes_J45 x1 x2 (gA σ 8 x1.toNatClampNeg) 12 σ else if ¬ (x1 < 0 ∨ 12 ≤ x1.toNatClampNeg) then if (gA σ 9 x1.toNatClampNeg) ≤ (gA σ 8 x1.toNatClampNeg) then fX12_changes_J45 x1 x2 (gA σ 8 x1.toNatClampNeg) (gA σ 8 x1.toNatClampNeg) σ else if ¬ (x1 < 0 ∨ 12 ≤ x1.toNatClampNeg) then fX12_changes_J45 x1 x2 (gA σ 8 x1.toNatClampNeg) (gA σ 9 x1.toNatClampNeg) σ else none else none else none else none
theorem in_X12_changes : ∀ w ∈ u_ws RX12 TX12 39, w ∈ wsX12_changes := by decide +kernel
set_option maxHeartbeats 4000000 in
set_option maxRecDepth 100000 in
theorem kX12_changes (l : Launch) (D : va_G) (τ : CId) (q : Nat → Nat) (σ : MS) (x1 : Int32) (x2 : Int64) (rE : Int32) (sE : MS) (hf : fX12_changes x1 x2 σ = some (rE, sE)) : Ct l D τ yX12_changes wsX12_changes { frames := 0, cells := 0, slots := 0, locals := 0 } [.ref (q 0), .int x1, .long x2] (mW τ q σ) (FD (mW τ q sE) (some (.int rE))) := by
  unfold fX12_changes at hf
  refine ct_of (cc := cX12_changes) (maxL := 11) (ret := (some .boolean)) (by decide) rfl (Nat.le_of_ble_eq_true rfl) (fun Γ C => ?_)
  refine wm_lv (lv' := [(0, .ref (q 0)), (1, .int x1), (2, .long x2)]) rfl ?_
  have wJ_199 : ∀ (x1 : Int32) (x4 : Int32) (t0 : Int32) (t1 : Int32) (s : MS), fX12_changes_J199 x1 x4 t0 t1 s = some (rE, sE) → WM l D Γ 11 0 0 (mW τ q s) 199 [(0, .ref (q 0)), (1, .int x1), (4, .int x4)] [.int t0, .int t1, .ref (q 10)] := by
    intro x1 x4 t0 t1 s hf
    unfold fX12_changes_J199 at hf
    obtain ⟨h18, hf⟩ := chk_s hf
    obtain ⟨s19, e20, hf⟩ := lets_s hf
    refine wm_iast (f := gA s 10) (N := 12) (cA := τ.1) C dX12_changes_199 8 mA_10 rfl h18 (Wd' := mW τ q s19) ((mS_10 _ _).trans (congrArg (mW τ q) e20.symm)) (pc' := 200) rfl ?_
    refine wm_aload_n C dX12_changes_200 0 rfl (pc' := 201) rfl ?_
    refine m_get (v := .ref (q 8)) C dX12_changes_201 in_X12_changes 8 (by decide) (by decide +kernel) rfl rfl (pc' := 204) rfl ?_
    refine wm_iload_n C dX12_changes_204 1 rfl (pc' := 205) rfl ?_
    obtain ⟨h21, hf⟩ := chk_s hf
    refine wm_iald (f := gA s19 8) (N := 12) (cA := τ.1) C dX12_changes_205 6 mA_8 rfl h21 (pc' := 206) rfl ?_
    refine wm_iload C dX12_changes_206 2 rfl (pc' := 208) rfl ?_
    refine wm_icmp_eq C dX12_changes_208 215 (by decide) (pc' := 211) rfl (fun h22 => ?_) (fun h22 => ?_)
    · have hf := ite_t h22 hf
      refine wm_ikonst (v := 0) C dX12_changes_215 (by decide) (pc' := 216) rfl ?_
      obtain ⟨rfl, rfl⟩ := leaf_s hf
      exact wm_zret C dX12_changes_216 (by decide) (Nat.zero_le _) (Nat.zero_le _) FD.rf
    · have hf := ite_f h22 hf
      refine wm_ikonst (v := 1) C dX12_changes_211 (by decide) (pc' := 212) rfl ?_
      refine wm_goto C dX12_changes_212 216 (by decide) ?_
      obtain ⟨rfl, rfl⟩ := leaf_s hf
      exact wm_zret C dX12_changes_216 (by decide) (Nat.zero_le _) (Nat.zero_le _) FD.rf
  have wJ_176 : ∀ (x1 : Int32) (x4 : Int32) (x6 : Int64) (t0 : Int32) (s : MS), fX12_changes_J176 x1 x4 x6 t0 s = some (rE, sE) → WM l D Γ 11 0 0 (mW τ q s) 176 [(0, .ref (q 0)), (1, .int x1), (4, .int x4), (6, .long x6)] [.int t0] := by
    intro x1 x4 x6 t0 s hf
    unfold fX12_changes_J176 at hf
    refine wm_istore (lv' := [(10, .int t0), (0, .ref (q 0)), (1, .int x1), (4, .int x4), (6, .long x6)]) C dX12_changes_176 (by decide) rfl (pc' := 178) rfl ?_
    refine wm_aload_n C dX12_changes_178 1 rfl (pc' := 179) rfl ?_
    refine m_get (v := .ref (q 10)) C dX12_changes_179 in_X12_changes 10 (by decide) (by decide +kernel) rfl rfl (pc' := 182) rfl ?_
    refine wm_iload_n C dX12_changes_182 2 rfl (pc' := 183) rfl ?_
    refine wm_iload C dX12_changes_183 0 rfl (pc' := 185) rfl ?_
    refine wm_if_eq C dX12_changes_185 192 (by decide) (pc' := 188) rfl (fun h16 => ?_) (fun h16 => ?_)
    · have hf := ite_t h16 hf
      refine wm_lload C dX12_changes_192 4 rfl (pc' := 194) rfl ?_
      refine wm_ldc2 (v := (1000)) C dX12_changes_194 (by decide +kernel) (pc' := 197) rfl ?_
      refine wm_lrem C dX12_changes_197 (by decide) (pc' := 198) rfl ?_
      refine wm_l2i C dX12_changes_198 (pc' := 199) rfl ?_
      refine wm_sub (lv' := [(0, .ref (q 0)), (1, .int x1), (4, .int x4)]) [1, 2, 3] rfl ?_
      exact wJ_199 x1 x4 ((x6 - x6 / (1000) * (1000)).toInt32) x1 s hf
    · have hf := ite_f h16 hf
      refine wm_ikonst (v := 0) C dX12_changes_188 (by decide) (pc' := 189) rfl ?_
      refine wm_goto C dX12_changes_189 199 (by decide) ?_
      refine wm_sub (lv' := [(0, .ref (q 0)), (1, .int x1), (4, .int x4)]) [1, 2, 3] rfl ?_
      exact wJ_199 x1 x4 0 x1 s hf
  have wJ_133 : ∀ (x1 : Int32) (x4 : Int32) (x5 : Int32) (x6 : Int64) (s : MS), fX12_changes_J133 x1 x4 x5 x6 s = some (rE, sE) → WM l D Γ 11 0 0 (mW τ q s) 133 [(0, .ref (q 0)), (1, .int x1), (4, .int x4), (5, .int x5), (6, .long x6)] [] := by
    intro x1 x4 x5 x6 s hf
    unfold fX12_changes_J133 at hf
    refine wm_aload_n C dX12_changes_133 0 rfl (pc' := 134) rfl ?_
    refine m_get (v := .ref (q 7)) C dX12_changes_134 in_X12_changes 7 (by decide) (by decide +kernel) rfl rfl (pc' := 137) rfl ?_
    refine wm_iload_n C dX12_changes_137 1 rfl (pc' := 138) rfl ?_
    obtain ⟨h12, hf⟩ := chk_s hf
    refine wm_iald (f := gA s 7) (N := 12) (cA := τ.1) C dX12_changes_138 5 mA_7 rfl h12 (pc' := 139) rfl ?_
    refine wm_ikonst (v := 2) C dX12_changes_139 (by decide) (pc' := 140) rfl ?_
    refine wm_icmp_ne C dX12_changes_140 160 (by decide) (pc' := 143) rfl (fun h13 => ?_) (fun h13 => ?_)
    · have hf := ite_t h13 hf
      refine wm_aload_n C dX12_changes_160 0 rfl (pc' := 161) rfl ?_
      refine m_get (v := .ref (q 8)) C dX12_changes_161 in_X12_changes 8 (by decide) (by decide +kernel) rfl rfl (pc' := 164) rfl ?_
      refine wm_iload_n C dX12_changes_164 1 rfl (pc' := 165) rfl ?_
      obtain ⟨h14, hf⟩ := chk_s hf
      refine wm_iald (f := gA s 8) (N := 12) (cA := τ.1) C dX12_changes_165 6 mA_8 rfl h14 (pc' := 166) rfl ?_
      refine wm_iload C dX12_changes_166 3 rfl (pc' := 168) rfl ?_
      refine wm_icmp_ne C dX12_changes_168 175 (by decide) (pc' := 171) rfl (fun h15 => ?_) (fun h15 => ?_)
      · have hf := ite_t h15 hf
        refine wm_ikonst (v := 0) C dX12_changes_175 (by decide) (pc' := 176) rfl ?_
        refine wm_sub (lv' := [(0, .ref (q 0)), (1, .int x1), (4, .int x4), (6, .long x6)]) [0, 1, 2, 4] rfl ?_
        exact wJ_176 x1 x4 x6 0 s hf
      · have hf := ite_f (fun h => h h15) hf
        refine wm_ikonst (v := 1) C dX12_changes_171 (by decide) (pc' := 172) rfl ?_
        refine wm_goto C dX12_changes_172 176 (by decide) ?_
        refine wm_sub (lv' := [(0, .ref (q 0)), (1, .int x1), (4, .int x4), (6, .long x6)]) [0, 1, 2, 4] rfl ?_
        exact wJ_176 x1 x4 x6 1 s hf
    · have hf := ite_f (fun h => h h13) hf
      refine wm_aload_n C dX12_changes_143 0 rfl (pc' := 144) rfl ?_
      refine m_get (v := .ref (q 8)) C dX12_changes_144 in_X12_changes 8 (by decide) (by decide +kernel) rfl rfl (pc' := 147) rfl ?_
      refine wm_iload_n C dX12_changes_147 1 rfl (pc' := 148) rfl ?_
      obtain ⟨h23, hf⟩ := chk_s hf
      refine wm_iald (f := gA s 8) (N := 12) (cA := τ.1) C dX12_changes_148 6 mA_8 rfl h23 (pc' := 149) rfl ?_
      refine wm_if_ne C dX12_changes_149 156 (by decide) (pc' := 152) rfl (fun h24 => ?_) (fun h24 => ?_)
      · have hf := ite_t h24 hf
        refine wm_ikonst (v := 0) C dX12_changes_156 (by decide) (pc' := 157) rfl ?_
        refine wm_goto C dX12_changes_157 176 (by decide) ?_
        refine wm_sub (lv' := [(0, .ref (q 0)), (1, .int x1), (4, .int x4), (6, .long x6)]) [0, 1, 2, 4] rfl ?_
        exact wJ_176 x1 x4 x6 0 s hf
      · have hf := ite_f (fun h => h h24) hf
        refine wm_ikonst (v := 1) C dX12_changes_152 (by decide) (pc' := 153) rfl ?_
        refine wm_goto C dX12_changes_153 176 (by decide) ?_
        refine wm_sub (lv' := [(0, .ref (q 0)), (1, .int x1), (4, .int x4), (6, .long x6)]) [0, 1, 2, 4] rfl ?_
        exact wJ_176 x1 x4 x6 1 s hf
  have wJ_132 : ∀ (x1 : Int32) (x4 : Int32) (x5 : Int32) (x6 : Int64) (t0 : Int32) (t1 : Int32) (s : MS), fX12_changes_J132 x1 x4 x5 x6 t0 t1 s = some (rE, sE) → WM l D Γ 11 0 0 (mW τ q s) 132 [(0, .ref (q 0)), (1, .int x1), (4, .int x4), (5, .int x5), (6, .long x6)] [.int t0, .int t1, .ref (q 8)] := by
    intro x1 x4 x5 x6 t0 t1 s hf
    unfold fX12_changes_J132 at hf
    obtain ⟨h9, hf⟩ := chk_s hf
    obtain ⟨s10, e11, hf⟩ := lets_s hf
    refine wm_iast (f := gA s 8) (N := 12) (cA := τ.1) C dX12_changes_132 6 mA_8 rfl h9 (Wd' := mW τ q s10) ((mS_8 _ _).trans (congrArg (mW τ q) e11.symm)) (pc' := 133) rfl ?_
    exact wJ_133 x1 x4 x5 x6 s10 hf
  have wJ_100 : ∀ (x1 : Int32) (x4 : Int32) (x5 : Int32) (x6 : Int64) (t0 : Int32) (t1 : Int32) (s : MS), fX12_changes_J100 x1 x4 x5 x6 t0 t1 s = some (rE, sE) → WM l D Γ 11 0 0 (mW τ q s) 100 [(0, .ref (q 0)), (1, .int x1), (4, .int x4), (5, .int x5), (6, .long x6)] [.int t0, .int t1, .ref (q 8)] := by
    intro x1 x4 x5 x6 t0 t1 s hf
    unfold fX12_changes_J100 at hf
    obtain ⟨h26, hf⟩ := chk_s hf
    obtain ⟨s27, e28, hf⟩ := lets_s hf
    refine wm_iast (f := gA s 8) (N := 12) (cA := τ.1) C dX12_changes_100 6 mA_8 rfl h26 (Wd' := mW τ q s27) ((mS_8 _ _).trans (congrArg (mW τ q) e28.symm)) (pc' := 101) rfl ?_
    refine wm_goto C dX12_changes_101 133 (by decide) ?_
    exact wJ_133 x1 x4 x5 x6 s27 hf
  have wJ_45 : ∀ (x1 : Int32) (x2 : Int64) (x4 : Int32) (t0 : Int32) (s : MS), fX12_changes_J45 x1 x2 x4 t0 s = some (rE, sE) → WM l D Γ 11 0 0 (mW τ q s) 45 [(0, .ref (q 0)), (1, .int x1), (2, .long x2), (4, .int x4)] [.int t0] := by
    intro x1 x2 x4 t0 s hf
    unfold fX12_changes_J45 at hf
    refine wm_istore (lv' := [(5, .int t0), (0, .ref (q 0)), (1, .int x1), (2, .long x2), (4, .int x4)]) C dX12_changes_45 (by decide) rfl (pc' := 47) rfl ?_
    refine wm_aload_n C dX12_changes_47 1 rfl (pc' := 48) rfl ?_
    refine m_get (v := .ref (q 10)) C dX12_changes_48 in_X12_changes 10 (by decide) (by decide +kernel) rfl rfl (pc' := 51) rfl ?_
    refine wm_iload_n C dX12_changes_51 2 rfl (pc' := 52) rfl ?_
    obtain ⟨h4, hf⟩ := chk_s hf
    refine wm_iald (f := gA s 10) (N := 12) (cA := τ.1) C dX12_changes_52 8 mA_10 rfl h4 (pc' := 53) rfl ?_
    refine wm_i2l C dX12_changes_53 (pc' := 54) rfl ?_
    refine wm_lload_n C dX12_changes_54 3 rfl (pc' := 55) rfl ?_
    refine wm_ladd C dX12_changes_55 (pc' := 56) rfl ?_
    refine wm_lstore (lv' := [(6, .long (((gA s 10 x1.toNatClampNeg).toInt64) + x2)), (5, .int t0), (0, .ref (q 0)), (1, .int x1), (2, .long x2), (4, .int x4)]) C dX12_changes_56 (by decide) rfl (pc' := 58) rfl ?_
    refine wm_lload C dX12_changes_58 0 rfl (pc' := 60) rfl ?_
    refine wm_ldc2 (v := (1000)) C dX12_changes_60 (by decide +kernel) (pc' := 63) rfl ?_
    refine wm_ldiv C dX12_changes_63 (by decide) (pc' := 64) rfl ?_
    refine wm_lstore (lv' := [(8, .long ((((gA s 10 x1.toNatClampNeg).toInt64) + x2) / (1000))), (6, .long (((gA s 10 x1.toNatClampNeg).toInt64) + x2)), (5, .int t0), (0, .ref (q 0)), (1, .int x1), (2, .long x2), (4, .int x4)]) C dX12_changes_64 (by decide) rfl (pc' := 66) rfl ?_
    refine wm_aload_n C dX12_changes_66 3 rfl (pc' := 67) rfl ?_
    refine m_get (v := .ref (q 7)) C dX12_changes_67 in_X12_changes 7 (by decide) (by decide +kernel) rfl rfl (pc' := 70) rfl ?_
    refine wm_iload_n C dX12_changes_70 4 rfl (pc' := 71) rfl ?_
    obtain ⟨h6, hf⟩ := chk_s hf
    refine wm_iald (f := gA s 7) (N := 12) (cA := τ.1) C dX12_changes_71 5 mA_7 rfl h6 (pc' := 72) rfl ?_
    refine wm_ikonst (v := 2) C dX12_changes_72 (by decide) (pc' := 73) rfl ?_
    refine wm_icmp_ne C dX12_changes_73 104 (by decide) (pc' := 76) rfl (fun h7 => ?_) (fun h7 => ?_)
    · have hf := ite_t h7 hf
      refine wm_aload_n C dX12_changes_104 3 rfl (pc' := 105) rfl ?_
      refine m_get (v := .ref (q 8)) C dX12_changes_105 in_X12_changes 8 (by decide) (by decide +kernel) rfl rfl (pc' := 108) rfl ?_
      refine wm_iload_n C dX12_changes_108 4 rfl (pc' := 109) rfl ?_
      refine wm_lload C dX12_changes_109 0 rfl (pc' := 111) rfl ?_
      refine wm_iload C dX12_changes_111 2 rfl (pc' := 113) rfl ?_
      refine wm_iload C dX12_changes_113 6 rfl (pc' := 115) rfl ?_
      refine wm_isub C dX12_changes_115 (pc' := 116) rfl ?_
      refine wm_i2l C dX12_changes_116 (pc' := 117) rfl ?_
      refine wm_lcmp C dX12_changes_117 (pc' := 118) rfl ?_
      refine wm_if_lt C dX12_changes_118 126 (by decide) (pc' := 121) rfl (fun h8 => ?_) (fun h8 => ?_)
      · have hf := ite_t h8 hf
        refine wm_iload C dX12_changes_126 6 rfl (pc' := 128) rfl ?_
        refine wm_lload C dX12_changes_128 0 rfl (pc' := 130) rfl ?_
        refine wm_l2i C dX12_changes_130 (pc' := 131) rfl ?_
        refine wm_iadd C dX12_changes_131 (pc' := 132) rfl ?_
        refine wm_sub (lv' := [(0, .ref (q 0)), (1, .int x1), (4, .int x4), (5, .int t0), (6, .long (((gA s 10 x1.toNatClampNeg).toInt64) + x2))]) [3, 4, 6, 2, 1] rfl ?_
        exact wJ_132 x1 x4 t0 (((gA s 10 x1.toNatClampNeg).toInt64) + x2) (x4 + (((((gA s 10 x1.toNatClampNeg).toInt64) + x2) / (1000)).toInt32)) x1 s hf
      · have hf := ite_f h8 hf
        refine wm_iload C dX12_changes_121 2 rfl (pc' := 123) rfl ?_
        refine wm_goto C dX12_changes_123 132 (by decide) ?_
        refine wm_sub (lv' := [(0, .ref (q 0)), (1, .int x1), (4, .int x4), (5, .int t0), (6, .long (((gA s 10 x1.toNatClampNeg).toInt64) + x2))]) [3, 4, 6, 2, 1] rfl ?_
        exact wJ_132 x1 x4 t0 (((gA s 10 x1.toNatClampNeg).toInt64) + x2) t0 x1 s hf
    · have hf := ite_f (fun h => h h7) hf
      refine wm_aload_n C dX12_changes_76 3 rfl (pc' := 77) rfl ?_
      refine m_get (v := .ref (q 8)) C dX12_changes_77 in_X12_changes 8 (by decide) (by decide +kernel) rfl rfl (pc' := 80) rfl ?_
      refine wm_iload_n C dX12_changes_80 4 rfl (pc' := 81) rfl ?_
      refine wm_lload C dX12_changes_81 0 rfl (pc' := 83) rfl ?_
      refine wm_iload C dX12_changes_83 6 rfl (pc' := 85) rfl ?_
      refine wm_i2l C dX12_changes_85 (pc' := 86) rfl ?_
      refine wm_lcmp C dX12_changes_86 (pc' := 87) rfl ?_
      refine wm_if_lt C dX12_changes_87 94 (by decide) (pc' := 90) rfl (fun h25 => ?_) (fun h25 => ?_)
      · have hf := ite_t h25 hf
        refine wm_iload C dX12_changes_94 6 rfl (pc' := 96) rfl ?_
        refine wm_lload C dX12_changes_96 0 rfl (pc' := 98) rfl ?_
        refine wm_l2i C dX12_changes_98 (pc' := 99) rfl ?_
        refine wm_isub C dX12_changes_99 (pc' := 100) rfl ?_
        refine wm_sub (lv' := [(0, .ref (q 0)), (1, .int x1), (4, .int x4), (5, .int t0), (6, .long (((gA s 10 x1.toNatClampNeg).toInt64) + x2))]) [3, 4, 6, 2, 1] rfl ?_
        exact wJ_100 x1 x4 t0 (((gA s 10 x1.toNatClampNeg).toInt64) + x2) (x4 - (((((gA s 10 x1.toNatClampNeg).toInt64) + x2) / (1000)).toInt32)) x1 s hf
      · have hf := ite_f h25 hf
        refine wm_ikonst (v := 0) C dX12_changes_90 (by decide) (pc' := 91) rfl ?_
        refine wm_goto C dX12_changes_91 100 (by decide) ?_
        refine wm_sub (lv' := [(0, .ref (q 0)), (1, .int x1), (4, .int x4), (5, .int t0), (6, .long (((gA s 10 x1.toNatClampNeg).toInt64) + x2))]) [3, 4, 6, 2, 1] rfl ?_
        exact wJ_100 x1 x4 t0 (((gA s 10 x1.toNatClampNeg).toInt64) + x2) 0 x1 s hf
  refine wm_aload_n C dX12_changes_0 0 rfl (pc' := 1) rfl ?_
  refine m_get (v := .ref (q 8)) C dX12_changes_1 in_X12_changes 8 (by decide) (by decide +kernel) rfl rfl (pc' := 4) rfl ?_
  refine wm_iload_n C dX12_changes_4 1 rfl (pc' := 5) rfl ?_
  obtain ⟨h1, hf⟩ := chk_s hf
  refine wm_iald (f := gA σ 8) (N := 12) (cA := τ.1) C dX12_changes_5 6 mA_8 rfl h1 (pc' := 6) rfl ?_
  refine wm_istore (lv' := [(4, .int (gA σ 8 x1.toNatClampNeg)), (0, .ref (q 0)), (1, .int x1), (2, .long x2)]) C dX12_changes_6 (by decide) rfl (pc' := 8) rfl ?_
  refine wm_aload_n C dX12_changes_8 1 rfl (pc' := 9) rfl ?_
  refine m_get (v := .ref (q 7)) C dX12_changes_9 in_X12_changes 7 (by decide) (by decide +kernel) rfl rfl (pc' := 12) rfl ?_
  refine wm_iload_n C dX12_changes_12 2 rfl (pc' := 13) rfl ?_
  obtain ⟨h2, hf⟩ := chk_s hf
  refine wm_iald (f := gA σ 7) (N := 12) (cA := τ.1) C dX12_changes_13 5 mA_7 rfl h2 (pc' := 14) rfl ?_
  refine wm_ikonst (v := 4) C dX12_changes_14 (by decide) (pc' := 15) rfl ?_
  refine wm_icmp_ne C dX12_changes_15 43 (by decide) (pc' := 18) rfl (fun h3 => ?_) (fun h3 => ?_)
  · have hf := ite_t h3 hf
    refine wm_bipush (v := 12) C dX12_changes_43 (by decide) (pc' := 45) rfl ?_
    refine wm_sub (lv' := [(0, .ref (q 0)), (1, .int x1), (2, .long x2), (4, .int (gA σ 8 x1.toNatClampNeg))]) [1, 2, 3, 0] rfl ?_
    exact wJ_45 x1 x2 (gA σ 8 x1.toNatClampNeg) 12 σ hf
  · have hf := ite_f (fun h => h h3) hf
    refine wm_aload_n C dX12_changes_18 1 rfl (pc' := 19) rfl ?_
    refine m_get (v := .ref (q 9)) C dX12_changes_19 in_X12_changes 9 (by decide) (by decide +kernel) rfl rfl (pc' := 22) rfl ?_
    refine wm_iload_n C dX12_changes_22 2 rfl (pc' := 23) rfl ?_
    obtain ⟨h29, hf⟩ := chk_s hf
    refine wm_iald (f := gA σ 9) (N := 12) (cA := τ.1) C dX12_changes_23 7 mA_9 rfl h29 (pc' := 24) rfl ?_
    refine wm_iload C dX12_changes_24 0 rfl (pc' := 26) rfl ?_
    refine wm_icmp_le C dX12_changes_26 38 (by decide) (pc' := 29) rfl (fun h30 => ?_) (fun h30 => ?_)
    · have hf := ite_t h30 hf
      refine wm_iload C dX12_changes_38 0 rfl (pc' := 40) rfl ?_
      refine wm_goto C dX12_changes_40 45 (by decide) ?_
      refine wm_sub (lv' := [(0, .ref (q 0)), (1, .int x1), (2, .long x2), (4, .int (gA σ 8 x1.toNatClampNeg))]) [1, 2, 3, 0] rfl ?_
      exact wJ_45 x1 x2 (gA σ 8 x1.toNatClampNeg) (gA σ 8 x1.toNatClampNeg) σ hf
    · have hf := ite_f h30 hf
      refine wm_aload_n C dX12_changes_29 1 rfl (pc' := 30) rfl ?_
      refine m_get (v := .ref (q 9)) C dX12_changes_30 in_X12_changes 9 (by decide) (by decide +kernel) rfl rfl (pc' := 33) rfl ?_
      refine wm_iload_n C dX12_changes_33 2 rfl (pc' := 34) rfl ?_
      obtain ⟨h31, hf⟩ := chk_s hf
      refine wm_iald (f := gA σ 9) (N := 12) (cA := τ.1) C dX12_changes_34 7 mA_9 rfl h31 (pc' := 35) rfl ?_
      refine wm_goto C dX12_changes_35 45 (by decide) ?_
      refine wm_sub (lv' := [(0, .ref (q 0)), (1, .int x1), (2, .long x2), (4, .int (gA σ 8 x1.toNatClampNeg))]) [1, 2, 3, 0] rfl ?_
      exact wJ_45 x1 x2 (gA σ 8 x1.toNatClampNeg) (gA σ 9 x1.toNatClampNeg) σ hf
def fX12_stepOnce_L16 : Nat → Int32 → MS → Option (Unit × MS)
  | 0, _, _ => none
  | fu + 1, x1, s => if (gI s 4) ≤ x1 then some ((), s) else bnd (fX12_eaten x1 s) (fun r7 s8 => if ¬ (x1 < 0 ∨ 12 ≤ x1.toNatClampNeg) then lets (sB s8 22 x1.toNatClampNeg r7) (fun s11 => fX12_stepOnce_L16 fu (x1 + 1) s11) else none)
theorem fX12_stepOnce_L16_s (fu : Nat) (x1 : Int32) (s : MS) : fX12_stepOnce_L16 (fu + 1) x1 s = (if (gI s 4) ≤ x1 then some ((), s) else bnd (fX12_eaten x1 s) (fun r7 s8 => if ¬ (x1 < 0 ∨ 12 ≤ x1.toNatClampNeg) then lets (sB s8 22 x1.toNatClampNeg r7) (fun s11 => fX12_stepOnce_L16 fu (x1 + 1) s11) else none)) := rfl
def fX12_stepOnce_J85 (rec : Int32 → Int32 → MS → Option (Int32 × MS)) (x2 : Int32) (t0 : Int32) (t1 : Int32) (s : MS) : Option (Int32 × MS) :=
  rec (t1 + t0) (x2 + 1) s
def fX12_stepOnce_J84 (rec : Int32 → Int32 → MS → Option (Int32 × MS)) (x2 : Int32) (t0 : Int32) (s : MS) : Option (Int32 × MS) :=
  fX12_stepOnce_J85 (rec) x2 0 t0 s
def fX12_stepOnce_L45 : Nat → Int32 → Int32 → MS → Option (Int32 × MS)
  | 0, _, _, _ => none
  | fu + 1, x1, x2, s => if (gI s 4) ≤ x2 then some (x1, s) else bnd (fX12_eatsIn x2 (gI s 12) s) (fun r17 s18 => if r17 = 0 then fX12_stepOnce_J84 (fX12_stepOnce_L45 fu) x2 x1 s18 else if ¬ (x2 < 0 ∨ 12 ≤ x2.toNatClampNeg) then bnd (fX12_changes x2 (gB s18 22 x2.toNatClampNeg) s18) (fun r22 s23 => if r22 = 0 then fX12_stepOnce_J84 (fX12_stepOnce_L45 fu) x2 x1 s23 else fX12_stepOnce_J85 (fX12_stepOnce_L45 fu) x2 1 x1 s23) else none)
theorem fX12_stepOnce_L45_s (fu : Nat) (x1 : Int32) (x2 : Int32) (s : MS) : fX12_stepOnce_L45 (fu + 1) x1 x2 s = (if (gI s 4) ≤ x2 then some (x1, s) else bnd (fX12_eatsIn x2 (gI s 12) s) (fun r17 s18 => if r17 = 0 then fX12_stepOnce_J84 (fX12_stepOnce_L45 fu) x2 x1 s18 else if ¬ (x2 < 0 ∨ 12 ≤ x2.toNatClampNeg) then bnd (fX12_changes x2 (gB s18 22 x2.toNatClampNeg) s18) (fun r22 s23 => if r22 = 0 then fX12_stepOnce_J84 (fX12_stepOnce_L45 fu) x2 x1 s23 else fX12_stepOnce_J85 (fX12_stepOnce_L45 fu) x2 1 x1 s23) else none)) := rfl
def fX12_stepOnce (σ : MS) : Option (Int32 × MS) :=
  bnd (fX12_findHeads σ) (fun r1 s2 => lets (sI s2 12 ((gI s2 12) + 1)) (fun s4 => bnd (fX12_stepOnce_L16 FU 0 s4) (fun v13 s14 => bnd (fX12_stepOnce_L45 FU 0 0 s14) (fun v26 s27 => some (v26, s27)))))
theorem in_X12_stepOnce : ∀ w ∈ u_ws RX12 TX12 39, w ∈ wsX12_stepOnce := by decide +kernel
set_option maxHeartbeats 4000000 in
set_option maxRecDepth 100000 in
theorem kX12_stepOnce (l : Launch) (D : va_G) (τ : CId) (q : Nat → Nat) (σ : MS) (rE : Int32) (sE : MS) (hf : fX12_stepOnce σ = some (rE, sE)) : Ct l D τ yX12_stepOnce wsX12_stepOnce { frames := 3, cells := 0, slots := 0, locals := 71 } [.ref (q 0)] (mW τ q σ) (FD (mW τ q sE) (some (.int rE))) := by
  unfold fX12_stepOnce at hf
  refine ct_of (cc := cX12_stepOnce) (maxL := 3) (ret := (some .int)) (by decide) rfl (Nat.le_of_ble_eq_true rfl) (fun Γ C => ?_)
  refine wm_lv (lv' := [(0, .ref (q 0))]) rfl ?_
  have wL_16 : ∀ (fu : Nat) (x1 : Int32) (s : MS) (v : Unit) (s' : MS), fX12_stepOnce_L16 fu x1 s = some (v, s') → WM l D Γ 3 0 0 (mW τ q s') 41 [(0, .ref (q 0))] [] → WM l D Γ 3 0 0 (mW τ q s) 16 [(0, .ref (q 0)), (1, .int x1)] [] := by
    intro fu
    induction fu with
    | zero => intro x1 s v s' hf hE; exact absurd hf (fun h => nomatch (show (none : Option _) = some _ from h))
    | succ fu ih =>
      intro x1 s v s' hf hE
      rw [fX12_stepOnce_L16_s] at hf
      refine wm_iload_n C dX12_stepOnce_16 1 rfl (pc' := 17) rfl ?_
      refine wm_aload_n C dX12_stepOnce_17 0 rfl (pc' := 18) rfl ?_
      refine m_get (v := .int (gI s 4)) C dX12_stepOnce_18 in_X12_stepOnce 4 (by decide) (by decide +kernel) rfl rfl (pc' := 21) rfl ?_
      refine wm_icmp_ge C dX12_stepOnce_21 41 (by decide) (pc' := 24) rfl (fun h6 => ?_) (fun h6 => ?_)
      · have hf := ite_t h6 hf
        obtain ⟨rfl, rfl⟩ := leaf_s hf
        refine wm_sub (lv' := [(0, .ref (q 0))]) [0] rfl ?_
        exact hE
      · have hf := ite_f h6 hf
        refine wm_aload_n C dX12_stepOnce_24 0 rfl (pc' := 25) rfl ?_
        refine m_get (v := .ref (q 22)) C dX12_stepOnce_25 in_X12_stepOnce 22 (by decide) (by decide +kernel) rfl rfl (pc' := 28) rfl ?_
        refine wm_iload_n C dX12_stepOnce_28 1 rfl (pc' := 29) rfl ?_
        refine wm_aload_n C dX12_stepOnce_29 0 rfl (pc' := 30) rfl ?_
        refine wm_iload_n C dX12_stepOnce_30 1 rfl (pc' := 31) rfl ?_
        obtain ⟨r7, s8, h9, hf⟩ := bnd_s hf
        refine wm_callVd (nn := 1) (As := [.int x1]) (rest := [.int x1, .ref (q 22)]) (st' := [.long r7, .int x1, .ref (q 22)]) C dX12_stepOnce_31 (kX12_eaten l D τ q s x1 r7 s8 h9) gX12_stepOnce_X12_eaten rfl (by decide +kernel) ⟨Nat.le_of_ble_eq_true rfl, Nat.le_of_ble_eq_true rfl⟩ rfl rfl ⟨Nat.zero_le _, Nat.zero_le _⟩ 0 rfl rfl rfl rfl (Nat.le_of_ble_eq_true rfl) rfl (pc' := 34) rfl ?_
        obtain ⟨h10, hf⟩ := chk_s hf
        obtain ⟨s11, e12, hf⟩ := lets_s hf
        refine wm_last (f := gB s8 22) (N := 12) (cA := τ.2.1) C dX12_stepOnce_34 16 mA_22 rfl h10 (Wd' := mW τ q s11) ((mS_22 _ _).trans (congrArg (mW τ q) e12.symm)) (pc' := 35) rfl ?_
        refine wm_iinc (v := x1 + 1) (lv' := [(1, .int (x1 + 1)), (0, .ref (q 0))]) C dX12_stepOnce_35 1 rfl rfl (by decide) rfl (pc' := 38) rfl ?_
        refine wm_goto C dX12_stepOnce_38 16 (by decide) ?_
        refine wm_sub (lv' := [(0, .ref (q 0)), (1, .int (x1 + 1))]) [1, 0] rfl ?_
        exact ih (x1 + 1) s11 _ _ hf hE
  have wL_45 : ∀ (fu : Nat) (x1 : Int32) (x2 : Int32) (s : MS) (v : Int32) (s' : MS), fX12_stepOnce_L45 fu x1 x2 s = some (v, s') → WM l D Γ 3 0 0 (mW τ q s') 93 [(1, .int v)] [] → WM l D Γ 3 0 0 (mW τ q s) 45 [(0, .ref (q 0)), (1, .int x1), (2, .int x2)] [] := by
    intro fu
    induction fu with
    | zero => intro x1 x2 s v s' hf hE; exact absurd hf (fun h => nomatch (show (none : Option _) = some _ from h))
    | succ fu ih =>
      intro x1 x2 s v s' hf hE
      rw [fX12_stepOnce_L45_s] at hf
      have wJ_85 : ∀ (x2 : Int32) (t0 : Int32) (t1 : Int32) (s : MS) (v : Int32) (s' : MS), fX12_stepOnce_J85 (fX12_stepOnce_L45 fu) x2 t0 t1 s = some (v, s') → WM l D Γ 3 0 0 (mW τ q s') 93 [(1, .int v)] [] → WM l D Γ 3 0 0 (mW τ q s) 85 [(0, .ref (q 0)), (2, .int x2)] [.int t0, .int t1] := by
        intro x2 t0 t1 s v s' hf hE
        unfold fX12_stepOnce_J85 at hf
        refine wm_iadd C dX12_stepOnce_85 (pc' := 86) rfl ?_
        refine wm_istore_n (lv' := [(1, .int (t1 + t0)), (0, .ref (q 0)), (2, .int x2)]) C dX12_stepOnce_86 (by decide) rfl (pc' := 87) rfl ?_
        refine wm_iinc (v := x2 + 1) (lv' := [(2, .int (x2 + 1)), (1, .int (t1 + t0)), (0, .ref (q 0))]) C dX12_stepOnce_87 2 rfl rfl (by decide) rfl (pc' := 90) rfl ?_
        refine wm_goto C dX12_stepOnce_90 45 (by decide) ?_
        refine wm_sub (lv' := [(0, .ref (q 0)), (1, .int (t1 + t0)), (2, .int (x2 + 1))]) [2, 1, 0] rfl ?_
        exact ih (t1 + t0) (x2 + 1) s _ _ hf hE
      have wJ_84 : ∀ (x2 : Int32) (t0 : Int32) (s : MS) (v : Int32) (s' : MS), fX12_stepOnce_J84 (fX12_stepOnce_L45 fu) x2 t0 s = some (v, s') → WM l D Γ 3 0 0 (mW τ q s') 93 [(1, .int v)] [] → WM l D Γ 3 0 0 (mW τ q s) 84 [(0, .ref (q 0)), (2, .int x2)] [.int t0] := by
        intro x2 t0 s v s' hf hE
        unfold fX12_stepOnce_J84 at hf
        refine wm_ikonst (v := 0) C dX12_stepOnce_84 (by decide) (pc' := 85) rfl ?_
        exact wJ_85 x2 0 t0 s _ _ hf hE
      refine wm_iload_n C dX12_stepOnce_45 2 rfl (pc' := 46) rfl ?_
      refine wm_aload_n C dX12_stepOnce_46 0 rfl (pc' := 47) rfl ?_
      refine m_get (v := .int (gI s 4)) C dX12_stepOnce_47 in_X12_stepOnce 4 (by decide) (by decide +kernel) rfl rfl (pc' := 50) rfl ?_
      refine wm_icmp_ge C dX12_stepOnce_50 93 (by decide) (pc' := 53) rfl (fun h16 => ?_) (fun h16 => ?_)
      · have hf := ite_t h16 hf
        obtain ⟨rfl, rfl⟩ := leaf_s hf
        refine wm_sub (lv' := [(1, .int x1)]) [1] rfl ?_
        exact hE
      · have hf := ite_f h16 hf
        refine wm_iload_n C dX12_stepOnce_53 1 rfl (pc' := 54) rfl ?_
        refine wm_aload_n C dX12_stepOnce_54 0 rfl (pc' := 55) rfl ?_
        refine wm_iload_n C dX12_stepOnce_55 2 rfl (pc' := 56) rfl ?_
        refine wm_aload_n C dX12_stepOnce_56 0 rfl (pc' := 57) rfl ?_
        refine m_get (v := .int (gI s 12)) C dX12_stepOnce_57 in_X12_stepOnce 12 (by decide) (by decide +kernel) rfl rfl (pc' := 60) rfl ?_
        obtain ⟨r17, s18, h19, hf⟩ := bnd_s hf
        refine wm_callVd (nn := 2) (As := [.int x2, .int (gI s 12)]) (rest := [.int x1]) (st' := [.int r17, .int x1]) C dX12_stepOnce_60 (kX12_eatsIn l D τ q s x2 (gI s 12) r17 s18 h19) gX12_stepOnce_X12_eatsIn rfl (by decide +kernel) ⟨Nat.le_of_ble_eq_true rfl, Nat.le_of_ble_eq_true rfl⟩ rfl rfl ⟨Nat.zero_le _, Nat.zero_le _⟩ 0 rfl rfl rfl rfl (Nat.le_of_ble_eq_true rfl) rfl (pc' := 63) rfl ?_
        refine wm_if_eq C dX12_stepOnce_63 84 (by decide) (pc' := 66) rfl (fun h20 => ?_) (fun h20 => ?_)
        · have hf := ite_t h20 hf
          refine wm_sub (lv' := [(0, .ref (q 0)), (2, .int x2)]) [0, 2] rfl ?_
          exact wJ_84 x2 x1 s18 _ _ hf hE
        · have hf := ite_f h20 hf
          refine wm_aload_n C dX12_stepOnce_66 0 rfl (pc' := 67) rfl ?_
          refine wm_iload_n C dX12_stepOnce_67 2 rfl (pc' := 68) rfl ?_
          refine wm_aload_n C dX12_stepOnce_68 0 rfl (pc' := 69) rfl ?_
          refine m_get (v := .ref (q 22)) C dX12_stepOnce_69 in_X12_stepOnce 22 (by decide) (by decide +kernel) rfl rfl (pc' := 72) rfl ?_
          refine wm_iload_n C dX12_stepOnce_72 2 rfl (pc' := 73) rfl ?_
          obtain ⟨h21, hf⟩ := chk_s hf
          refine wm_lald (f := gB s18 22) (N := 12) (cA := τ.2.1) C dX12_stepOnce_73 16 mA_22 rfl h21 (pc' := 74) rfl ?_
          obtain ⟨r22, s23, h24, hf⟩ := bnd_s hf
          refine wm_callVd (nn := 2) (As := [.int x2, .long (gB s18 22 x2.toNatClampNeg)]) (rest := [.int x1]) (st' := [.int r22, .int x1]) C dX12_stepOnce_74 (kX12_changes l D τ q s18 x2 (gB s18 22 x2.toNatClampNeg) r22 s23 h24) gX12_stepOnce_X12_changes rfl (by decide +kernel) ⟨Nat.le_of_ble_eq_true rfl, Nat.le_of_ble_eq_true rfl⟩ rfl rfl ⟨Nat.zero_le _, Nat.zero_le _⟩ 0 rfl rfl rfl rfl (Nat.le_of_ble_eq_true rfl) rfl (pc' := 77) rfl ?_
          refine wm_if_eq C dX12_stepOnce_77 84 (by decide) (pc' := 80) rfl (fun h25 => ?_) (fun h25 => ?_)
          · have hf := ite_t h25 hf
            refine wm_sub (lv' := [(0, .ref (q 0)), (2, .int x2)]) [0, 2] rfl ?_
            exact wJ_84 x2 x1 s23 _ _ hf hE
          · have hf := ite_f h25 hf
            refine wm_ikonst (v := 1) C dX12_stepOnce_80 (by decide) (pc' := 81) rfl ?_
            refine wm_goto C dX12_stepOnce_81 85 (by decide) ?_
            refine wm_sub (lv' := [(0, .ref (q 0)), (2, .int x2)]) [0, 2] rfl ?_
            exact wJ_85 x2 1 x1 s23 _ _ hf hE
  refine wm_aload_n C dX12_stepOnce_0 0 rfl (pc' := 1) rfl ?_
  obtain ⟨r1, s2, h3, hf⟩ := bnd_s hf
  refine wm_callVd (nn := 0) (As := []) (rest := []) (st' := []) C dX12_stepOnce_1 (kX12_findHeads l D τ q σ s2 h3) gX12_stepOnce_X12_findHeads rfl (by decide +kernel) ⟨Nat.le_of_ble_eq_true rfl, Nat.le_of_ble_eq_true rfl⟩ rfl rfl ⟨Nat.zero_le _, Nat.zero_le _⟩ 0 rfl rfl rfl rfl (Nat.le_of_ble_eq_true rfl) rfl (pc' := 4) rfl ?_
  refine wm_aload_n C dX12_stepOnce_4 0 rfl (pc' := 5) rfl ?_
  refine wm_dup C dX12_stepOnce_5 rfl (pc' := 6) rfl ?_
  refine m_get (v := .int (gI s2 12)) C dX12_stepOnce_6 in_X12_stepOnce 12 (by decide) (by decide +kernel) rfl rfl (pc' := 9) rfl ?_
  refine wm_ikonst (v := 1) C dX12_stepOnce_9 (by decide) (pc' := 10) rfl ?_
  refine wm_iadd C dX12_stepOnce_10 (pc' := 11) rfl ?_
  obtain ⟨s4, e5, hf⟩ := lets_s hf
  refine m_putI C dX12_stepOnce_11 in_X12_stepOnce 12 (by decide) (by decide +kernel) rfl rfl rfl mL_12 mI_12 e5 (pc' := 14) rfl ?_
  refine wm_ikonst (v := 0) C dX12_stepOnce_14 (by decide) (pc' := 15) rfl ?_
  refine wm_istore_n (lv' := [(1, .int 0), (0, .ref (q 0))]) C dX12_stepOnce_15 (by decide) rfl (pc' := 16) rfl ?_
  refine wm_sub (lv' := [(0, .ref (q 0)), (1, .int 0)]) [1, 0] rfl ?_
  obtain ⟨v13, s14, h15, hf⟩ := bnd_s hf
  refine wL_16 FU 0 s4 v13 s14 h15 ?_
  refine wm_ikonst (v := 0) C dX12_stepOnce_41 (by decide) (pc' := 42) rfl ?_
  refine wm_istore_n (lv' := [(1, .int 0), (0, .ref (q 0))]) C dX12_stepOnce_42 (by decide) rfl (pc' := 43) rfl ?_
  refine wm_ikonst (v := 0) C dX12_stepOnce_43 (by decide) (pc' := 44) rfl ?_
  refine wm_istore_n (lv' := [(2, .int 0), (1, .int 0), (0, .ref (q 0))]) C dX12_stepOnce_44 (by decide) rfl (pc' := 45) rfl ?_
  refine wm_sub (lv' := [(0, .ref (q 0)), (1, .int 0), (2, .int 0)]) [2, 1, 0] rfl ?_
  obtain ⟨v26, s27, h28, hf⟩ := bnd_s hf
  refine wL_45 FU 0 0 s14 v26 s27 h28 ?_
  refine wm_iload_n C dX12_stepOnce_93 0 rfl (pc' := 94) rfl ?_
  obtain ⟨rfl, rfl⟩ := leaf_s hf
  exact wm_iret C dX12_stepOnce_94 (Nat.zero_le _) (Nat.zero_le _) FD.rf
def fX12_step_L17 (x1 : Int32) : Nat → Int32 → Int32 → MS → Option (Int32 × MS)
  | 0, _, _, _ => none
  | fu + 1, x2, x3, s => if x1 ≤ x3 then some (x2, s) else bnd (fX12_stepOnce s) (fun r6 s7 => fX12_step_L17 x1 fu (x2 + r6) (x3 + 1) s7)
theorem fX12_step_L17_s (x1 : Int32) (fu : Nat) (x2 : Int32) (x3 : Int32) (s : MS) : fX12_step_L17 x1 (fu + 1) x2 x3 s = (if x1 ≤ x3 then some (x2, s) else bnd (fX12_stepOnce s) (fun r6 s7 => fX12_step_L17 x1 fu (x2 + r6) (x3 + 1) s7)) := rfl
def fX12_step (x1 : Int32) (σ : MS) : Option (Int32 × MS) :=
  bnd (fX12_among x1 0 50) (fun r1 u2 => if ¬ r1 = 0 then bnd (fX12_step_L17 x1 FU 0 0 σ) (fun v9 s10 => some (v9, s10)) else some ((-2), σ))
set_option maxHeartbeats 4000000 in
set_option maxRecDepth 100000 in
theorem kX12_step (l : Launch) (D : va_G) (τ : CId) (q : Nat → Nat) (σ : MS) (x1 : Int32) (rE : Int32) (sE : MS) (hf : fX12_step x1 σ = some (rE, sE)) : Ct l D τ yX12_step wsX12_step { frames := 4, cells := 0, slots := 0, locals := 93 } [.ref (q 0), .int x1] (mW τ q σ) (FD (mW τ q sE) (some (.int rE))) := by
  unfold fX12_step at hf
  refine ct_of (cc := cX12_step) (maxL := 4) (ret := (some .int)) (by decide) rfl (Nat.le_of_ble_eq_true rfl) (fun Γ C => ?_)
  refine wm_lv (lv' := [(0, .ref (q 0)), (1, .int x1)]) rfl ?_
  have wL_17 : ∀ (x1 : Int32) (fu : Nat) (x2 : Int32) (x3 : Int32) (s : MS) (v : Int32) (s' : MS), fX12_step_L17 x1 fu x2 x3 s = some (v, s') → WM l D Γ 4 0 0 (mW τ q s') 35 [(2, .int v)] [] → WM l D Γ 4 0 0 (mW τ q s) 17 [(0, .ref (q 0)), (1, .int x1), (2, .int x2), (3, .int x3)] [] := by
    intro x1
    intro fu
    induction fu with
    | zero => intro x2 x3 s v s' hf hE; exact absurd hf (fun h => nomatch (show (none : Option _) = some _ from h))
    | succ fu ih =>
      intro x2 x3 s v s' hf hE
      rw [fX12_step_L17_s] at hf
      refine wm_iload_n C dX12_step_17 3 rfl (pc' := 18) rfl ?_
      refine wm_iload_n C dX12_step_18 1 rfl (pc' := 19) rfl ?_
      refine wm_icmp_ge C dX12_step_19 35 (by decide) (pc' := 22) rfl (fun h5 => ?_) (fun h5 => ?_)
      · have hf := ite_t h5 hf
        obtain ⟨rfl, rfl⟩ := leaf_s hf
        refine wm_sub (lv' := [(2, .int x2)]) [2] rfl ?_
        exact hE
      · have hf := ite_f h5 hf
        refine wm_iload_n C dX12_step_22 2 rfl (pc' := 23) rfl ?_
        refine wm_aload_n C dX12_step_23 0 rfl (pc' := 24) rfl ?_
        obtain ⟨r6, s7, h8, hf⟩ := bnd_s hf
        refine wm_callVd (nn := 0) (As := []) (rest := [.int x2]) (st' := [.int r6, .int x2]) C dX12_step_24 (kX12_stepOnce l D τ q s r6 s7 h8) gX12_step_X12_stepOnce rfl (by decide +kernel) ⟨Nat.le_of_ble_eq_true rfl, Nat.le_of_ble_eq_true rfl⟩ rfl rfl ⟨Nat.zero_le _, Nat.zero_le _⟩ 0 rfl rfl rfl rfl (Nat.le_of_ble_eq_true rfl) rfl (pc' := 27) rfl ?_
        refine wm_iadd C dX12_step_27 (pc' := 28) rfl ?_
        refine wm_istore_n (lv' := [(2, .int (x2 + r6)), (0, .ref (q 0)), (1, .int x1), (3, .int x3)]) C dX12_step_28 (by decide) rfl (pc' := 29) rfl ?_
        refine wm_iinc (v := x3 + 1) (lv' := [(3, .int (x3 + 1)), (2, .int (x2 + r6)), (0, .ref (q 0)), (1, .int x1)]) C dX12_step_29 3 rfl rfl (by decide) rfl (pc' := 32) rfl ?_
        refine wm_goto C dX12_step_32 17 (by decide) ?_
        refine wm_sub (lv' := [(0, .ref (q 0)), (1, .int x1), (2, .int (x2 + r6)), (3, .int (x3 + 1))]) [2, 3, 1, 0] rfl ?_
        exact ih (x2 + r6) (x3 + 1) s7 _ _ hf hE
  refine wm_iload_n C dX12_step_0 1 rfl (pc' := 1) rfl ?_
  refine wm_ikonst (v := 0) C dX12_step_1 (by decide) (pc' := 2) rfl ?_
  refine wm_bipush (v := 50) C dX12_step_2 (by decide) (pc' := 4) rfl ?_
  obtain ⟨r1, u2, h3, hf⟩ := bnd_s hf
  refine wm_callSd (nn := 3) (As := [.int x1, .int 0, .int 50]) (rest := []) (st' := [.int r1]) C dX12_step_4 (kX12_among l D τ x1 0 50 r1 h3) gX12_step_X12_among rfl (by decide +kernel) ⟨Nat.le_of_ble_eq_true rfl, Nat.le_of_ble_eq_true rfl⟩ rfl rfl ⟨Nat.zero_le _, Nat.zero_le _⟩ rfl rfl (Nat.le_of_ble_eq_true rfl) rfl (pc' := 7) rfl ?_
  refine wm_if_ne C dX12_step_7 13 (by decide) (pc' := 10) rfl (fun h4 => ?_) (fun h4 => ?_)
  · have hf := ite_t h4 hf
    refine wm_ikonst (v := 0) C dX12_step_13 (by decide) (pc' := 14) rfl ?_
    refine wm_istore_n (lv' := [(2, .int 0), (0, .ref (q 0)), (1, .int x1)]) C dX12_step_14 (by decide) rfl (pc' := 15) rfl ?_
    refine wm_ikonst (v := 0) C dX12_step_15 (by decide) (pc' := 16) rfl ?_
    refine wm_istore_n (lv' := [(3, .int 0), (2, .int 0), (0, .ref (q 0)), (1, .int x1)]) C dX12_step_16 (by decide) rfl (pc' := 17) rfl ?_
    refine wm_sub (lv' := [(0, .ref (q 0)), (1, .int x1), (2, .int 0), (3, .int 0)]) [2, 3, 1, 0] rfl ?_
    obtain ⟨v9, s10, h11, hf⟩ := bnd_s hf
    refine wL_17 x1 FU 0 0 σ v9 s10 h11 ?_
    refine wm_iload_n C dX12_step_35 0 rfl (pc' := 36) rfl ?_
    obtain ⟨rfl, rfl⟩ := leaf_s hf
    exact wm_iret C dX12_step_36 (Nat.zero_le _) (Nat.zero_le _) FD.rf
  · have hf := ite_f (fun h => h h4) hf
    refine wm_bipush (v := (-2)) C dX12_step_10 (by decide) (pc' := 12) rfl ?_
    obtain ⟨rfl, rfl⟩ := leaf_s hf
    exact wm_iret C dX12_step_12 (Nat.zero_le _) (Nat.zero_le _) FD.rf
