def fX11_faulted (nc : Nat) (x1 : Int32) (σ : MS) : Option (Int32 × MS) :=
  lets (sI σ 0 x1) (fun s1 => some ((-10) - x1, s1))
theorem inX11_X11_faulted : ∀ w ∈ wsX110, w ∈ wsX11_faulted := by decide +kernel
set_option maxHeartbeats 4000000 in
set_option maxRecDepth 100000 in
theorem kX11_faulted (l : Launch) (D : va_G) (τ : CId) (q : Nat → Nat) (nc : Nat) (σ : MS) (x1 : Int32) (rE : Int32) (sE : MS) (hf : fX11_faulted nc x1 σ = some (rE, sE)) : Ct l D τ yX11_faulted wsX11_faulted { frames := 0, cells := 0, slots := 0, locals := 0 } [.ref (q 0), .int x1] (xW τ q nc σ) (FD (xW τ q nc sE) (some (.int rE))) := by
  unfold fX11_faulted at hf
  refine ct_of (cc := cX11_faulted) (maxL := 2) (ret := (some .int)) (by decide) rfl (Nat.le_of_ble_eq_true rfl) (fun Γ C => ?_)
  refine wm_lv (lv' := [(0, .ref (q 0)), (1, .int x1)]) rfl ?_
  refine wm_aload_n C dX11_faulted_0 0 rfl (pc' := 1) rfl ?_
  refine wm_iload_n C dX11_faulted_1 1 rfl (pc' := 2) rfl ?_
  obtain ⟨s1, e2, hf⟩ := lets_s hf
  refine x_put (σ' := s1) C dX11_faulted_2 inX11_X11_faulted tyX11 tyX11_ok nmX11 0 (by omega) rfl rfl 8 (by decide) (by decide +kernel) (Or.inl rfl) rfl rfl rfl rfl (Nat.le_of_ble_eq_true rfl) (e2 ▸ xC_I0) (e2 ▸ rfl) (pc' := 5) rfl ?_
  refine wm_bipush (v := (-10)) C dX11_faulted_5 (by decide) (pc' := 7) rfl ?_
  refine wm_iload_n C dX11_faulted_7 1 rfl (pc' := 8) rfl ?_
  refine wm_isub C dX11_faulted_8 (pc' := 9) rfl ?_
  obtain ⟨rfl, rfl⟩ := leaf_s hf
  exact wm_iret C dX11_faulted_9 (Nat.zero_le _) (Nat.zero_le _) FD.rf
def fX11_lost (nc : Nat) (x1 : Int32) (σ : MS) : Option (Int64 × MS) :=
  lets (sI σ 0 x1) (fun s1 => some ((-9223372036854775808), s1))
theorem inX11_X11_lost : ∀ w ∈ wsX110, w ∈ wsX11_lost := by decide +kernel
set_option maxHeartbeats 4000000 in
set_option maxRecDepth 100000 in
theorem kX11_lost (l : Launch) (D : va_G) (τ : CId) (q : Nat → Nat) (nc : Nat) (σ : MS) (x1 : Int32) (rE : Int64) (sE : MS) (hf : fX11_lost nc x1 σ = some (rE, sE)) : Ct l D τ yX11_lost wsX11_lost { frames := 0, cells := 0, slots := 0, locals := 0 } [.ref (q 0), .int x1] (xW τ q nc σ) (FD (xW τ q nc sE) (some (.long rE))) := by
  unfold fX11_lost at hf
  refine ct_of (cc := cX11_lost) (maxL := 2) (ret := (some .long)) (by decide) rfl (Nat.le_of_ble_eq_true rfl) (fun Γ C => ?_)
  refine wm_lv (lv' := [(0, .ref (q 0)), (1, .int x1)]) rfl ?_
  refine wm_aload_n C dX11_lost_0 0 rfl (pc' := 1) rfl ?_
  refine wm_iload_n C dX11_lost_1 1 rfl (pc' := 2) rfl ?_
  obtain ⟨s1, e2, hf⟩ := lets_s hf
  refine x_put (σ' := s1) C dX11_lost_2 inX11_X11_lost tyX11 tyX11_ok nmX11 0 (by omega) rfl rfl 8 (by decide) (by decide +kernel) (Or.inl rfl) rfl rfl rfl rfl (Nat.le_of_ble_eq_true rfl) (e2 ▸ xC_I0) (e2 ▸ rfl) (pc' := 5) rfl ?_
  refine wm_ldc2 (v := (-9223372036854775808)) C dX11_lost_5 (by decide +kernel) (pc' := 8) rfl ?_
  obtain ⟨rfl, rfl⟩ := leaf_s hf
  exact wm_lret C dX11_lost_8 (Nat.zero_le _) (Nat.zero_le _) FD.rf
def fX11_mealIn (nc : Nat) (x1 : Int32) (x2 : Int32) (σ : MS) : Option (Int64 × MS) :=
  if ¬ (x1 < 0 ∨ 12 ≤ x1.toNatClampNeg) then if x1.toNatClampNeg < nc then if x1.toNatClampNeg < nc then bnd (vX_eatsIn nc x1.toNatClampNeg x2 σ) (fun r3 s4 => if r3 = 0 then some (0, s4) else bnd (fX8_amount nc x1 (gI s4 11) s4) (fun r9 s10 => some (r9, s10))) else none else none else none
theorem inX11_X11_mealIn : ∀ w ∈ wsX110, w ∈ wsX11_mealIn := by decide +kernel
theorem inX5_X11_mealIn : ∀ w ∈ wsX50, w ∈ wsX11_mealIn := by decide +kernel
set_option maxHeartbeats 4000000 in
set_option maxRecDepth 100000 in
theorem kX11_mealIn (l : Launch) (D : va_G) (τ : CId) (q : Nat → Nat) (nc : Nat) (σ : MS) (x1 : Int32) (x2 : Int32) (rE : Int64) (sE : MS) (hf : fX11_mealIn nc x1 x2 σ = some (rE, sE)) : Ct l D τ yX11_mealIn wsX11_mealIn { frames := 4, cells := 0, slots := 0, locals := 94 } [.ref (q 0), .int x1, .int x2] (xW τ q nc σ) (FD (xW τ q nc sE) (some (.long rE))) := by
  unfold fX11_mealIn at hf
  refine ct_of (cc := cX11_mealIn) (maxL := 3) (ret := (some .long)) (by decide) rfl (Nat.le_of_ble_eq_true rfl) (fun Γ C => ?_)
  refine wm_lv (lv' := [(0, .ref (q 0)), (1, .int x1), (2, .int x2)]) rfl ?_
  refine wm_aload_n C dX11_mealIn_0 0 rfl (pc' := 1) rfl ?_
  refine x_get (v := .ref (q 60)) C dX11_mealIn_1 inX11_X11_mealIn 0 (by omega) rfl rfl 0 (by decide) (by decide +kernel) (Or.inl rfl) rfl (pc' := 4) rfl ?_
  refine x_get (v := .ref (q 66)) C dX11_mealIn_4 inX5_X11_mealIn 1 (by omega) rfl rfl 2 (by decide) (by decide +kernel) (Or.inl rfl) rfl (pc' := 7) rfl ?_
  refine wm_iload_n C dX11_mealIn_7 1 rfl (pc' := 8) rfl ?_
  obtain ⟨h1, hf⟩ := chk_s hf
  obtain ⟨h2, hf⟩ := chk_s hf
  refine wm_aald (f := refs q 200 nc) (N := 12) (cA := τ.2.2.2.2.1) (ty := .object "WideningCracks$Crack") C dX11_mealIn_8 10 4 (x_at (by omega) rfl) rfl rfl h1 (refs_at h2) (pc' := 9) rfl ?_
  refine wm_iload_n C dX11_mealIn_9 2 rfl (pc' := 10) rfl ?_
  obtain ⟨h6, hf⟩ := chk_s hf
  obtain ⟨r3, s4, h5, hf⟩ := bnd_s hf
  have K7 : WM l D Γ 3 0 0 (xW τ q nc s4) 13 [(0, .ref (q 0)), (1, .int x1), (2, .int x2)] [.int r3] := by
    refine wm_if_eq C dX11_mealIn_13 31 (by decide) (pc' := 16) rfl (fun h8 => ?_) (fun h8 => ?_)
    · have hf := ite_t h8 hf
      refine wm_lkonst (v := 0) C dX11_mealIn_31 (by decide) (pc' := 32) rfl ?_
      obtain ⟨rfl, rfl⟩ := leaf_s hf
      exact wm_lret C dX11_mealIn_32 (Nat.zero_le _) (Nat.zero_le _) FD.rf
    · have hf := ite_f h8 hf
      refine wm_aload_n C dX11_mealIn_16 0 rfl (pc' := 17) rfl ?_
      refine x_get (v := .ref (q 61)) C dX11_mealIn_17 inX11_X11_mealIn 0 (by omega) rfl rfl 1 (by decide) (by decide +kernel) (Or.inl rfl) rfl (pc' := 20) rfl ?_
      refine wm_iload_n C dX11_mealIn_20 1 rfl (pc' := 21) rfl ?_
      refine wm_aload_n C dX11_mealIn_21 0 rfl (pc' := 22) rfl ?_
      refine x_get (v := .int (gI s4 11)) C dX11_mealIn_22 inX11_X11_mealIn 0 (by omega) rfl rfl 7 (by decide) (by decide +kernel) (Or.inl rfl) rfl (pc' := 25) rfl ?_
      obtain ⟨r9, s10, h11, hf⟩ := bnd_s hf
      refine wm_callVd (nn := 2) (As := [.int x1, .int (gI s4 11)]) (rest := []) (st' := [.long r9]) C dX11_mealIn_25 (kX8_amount l D τ q nc s4 x1 (gI s4 11) r9 s10 h11) gX11_mealIn_X8_amount rfl (by decide +kernel) ⟨Nat.le_of_ble_eq_true rfl, Nat.le_of_ble_eq_true rfl⟩ rfl rfl ⟨Nat.zero_le _, Nat.zero_le _⟩ 2 (x_at (by omega) rfl) rfl rfl rfl (Nat.le_of_ble_eq_true rfl) rfl (pc' := 28) rfl ?_
      refine wm_goto C dX11_mealIn_28 32 (by decide) ?_
      obtain ⟨rfl, rfl⟩ := leaf_s hf
      exact wm_lret C dX11_mealIn_32 (Nat.zero_le _) (Nat.zero_le _) FD.rf
  unfold vX_eatsIn at h5
  rcases kci5 (gA σ 7 x1.toNatClampNeg) with ⟨k1, kk⟩ | ⟨n1, k2, kk⟩ | ⟨n1, n2, k3, kk⟩ | ⟨n1, n2, n3, k4, kk⟩ | ⟨n1, n2, n3, n4, kk⟩
  · exact wm_callC (nn := 1) (As := [.int x2]) (rest := []) (st' := [.int r3]) C dX11_mealIn_10 (kX2_eatsIn l D τ q nc x1.toNatClampNeg σ x2 r3 s4 (ite_t k1 h5)) (cw_U gX11_mealIn_X2_eatsIn_u289X10 rfl rfl (by decide +kernel) ⟨Nat.le_of_ble_eq_true rfl, Nat.le_of_ble_eq_true rfl⟩) rfl rfl ⟨Nat.zero_le _, Nat.zero_le _⟩ (49 + x1.toNatClampNeg) (x_crackAt h6 kk) rfl rfl rfl (Nat.le_of_ble_eq_true rfl) rfl (pc' := 13) rfl K7
  · exact wm_callC (nn := 1) (As := [.int x2]) (rest := []) (st' := [.int r3]) C dX11_mealIn_10 (kX2_eatsIn l D τ q nc x1.toNatClampNeg σ x2 r3 s4 (ite_t k2 (ite_f n1 h5))) (cw_U gX11_mealIn_X2_eatsIn_u289X0 rfl rfl (by decide +kernel) ⟨Nat.le_of_ble_eq_true rfl, Nat.le_of_ble_eq_true rfl⟩) rfl rfl ⟨Nat.zero_le _, Nat.zero_le _⟩ (49 + x1.toNatClampNeg) (x_crackAt h6 kk) rfl rfl rfl (Nat.le_of_ble_eq_true rfl) rfl (pc' := 13) rfl K7
  · exact wm_callC (nn := 1) (As := [.int x2]) (rest := []) (st' := [.int r3]) C dX11_mealIn_10 (kX3_eatsIn l D τ q nc x1.toNatClampNeg σ x2 r3 s4 (ite_t k3 (ite_f n2 (ite_f n1 h5)))) (cw_O gX11_mealIn_X3_eatsIn_u289X3 rfl (b0 := cX2_eatsIn) (m0 := 2) (r0 := (some .boolean)) (by decide +kernel) (by decide +kernel) ⟨Nat.le_of_ble_eq_true rfl, Nat.le_of_ble_eq_true rfl⟩) rfl rfl ⟨Nat.zero_le _, Nat.zero_le _⟩ (49 + x1.toNatClampNeg) (x_crackAt h6 kk) rfl rfl rfl (Nat.le_of_ble_eq_true rfl) rfl (pc' := 13) rfl K7
  · exact wm_callC (nn := 1) (As := [.int x2]) (rest := []) (st' := [.int r3]) C dX11_mealIn_10 (kX3_eatsIn l D τ q nc x1.toNatClampNeg σ x2 r3 s4 (ite_t k4 (ite_f n3 (ite_f n2 (ite_f n1 h5))))) (cw_O gX11_mealIn_X3_eatsIn_u289X7 rfl (b0 := cX2_eatsIn) (m0 := 2) (r0 := (some .boolean)) (by decide +kernel) (by decide +kernel) ⟨Nat.le_of_ble_eq_true rfl, Nat.le_of_ble_eq_true rfl⟩) rfl rfl ⟨Nat.zero_le _, Nat.zero_le _⟩ (49 + x1.toNatClampNeg) (x_crackAt h6 kk) rfl rfl rfl (Nat.le_of_ble_eq_true rfl) rfl (pc' := 13) rfl K7
  · exact wm_callVd (nn := 1) (As := [.int x2]) (rest := []) (st' := [.int r3]) C dX11_mealIn_10 (kX2_eatsIn l D τ q nc x1.toNatClampNeg σ x2 r3 s4 (ite_f n4 (ite_f n3 (ite_f n2 (ite_f n1 h5))))) gX11_mealIn_X2_eatsIn rfl (by decide +kernel) ⟨Nat.le_of_ble_eq_true rfl, Nat.le_of_ble_eq_true rfl⟩ rfl rfl ⟨Nat.zero_le _, Nat.zero_le _⟩ (49 + x1.toNatClampNeg) (x_crackAt h6 kk) rfl rfl rfl (Nat.le_of_ble_eq_true rfl) rfl (pc' := 13) rfl K7
def fX11_oneStep_L12 (nc : Nat) (x1 : Int32) : Nat → Int32 → MS → Option (Unit × MS)
  | 0, _, _ => none
  | fu + 1, x2, s => if (gI s 4) ≤ x2 then some ((), s) else bnd (fX11_mealIn nc x2 x1 s) (fun r2 s3 => if ¬ (x2 < 0 ∨ 12 ≤ x2.toNatClampNeg) then lets (sB s3 22 x2.toNatClampNeg r2) (fun s6 => fX11_oneStep_L12 nc x1 fu (x2 + 1) s6) else none)
theorem fX11_oneStep_L12_s (nc : Nat) (x1 : Int32) (fu : Nat) (x2 : Int32) (s : MS) : fX11_oneStep_L12 nc x1 (fu + 1) x2 s = (if (gI s 4) ≤ x2 then some ((), s) else bnd (fX11_mealIn nc x2 x1 s) (fun r2 s3 => if ¬ (x2 < 0 ∨ 12 ≤ x2.toNatClampNeg) then lets (sB s3 22 x2.toNatClampNeg r2) (fun s6 => fX11_oneStep_L12 nc x1 fu (x2 + 1) s6) else none)) := rfl
def fX11_oneStep_J96 (nc : Nat) (rec : Int32 → Int32 → MS → Option (Int32 × MS)) (x1 : Int32) (x2 : Int32) (x3 : Int32) (s : MS) : Option (Int32 × MS) :=
  rec x2 (x3 + 1) s
def fX11_oneStep_L45 (nc : Nat) (x1 : Int32) : Nat → Int32 → Int32 → MS → Option (Int32 × MS)
  | 0, _, _, _ => none
  | fu + 1, x2, x3, s => if (gI s 4) ≤ x3 then some (x2, s) else if ¬ (x3 < 0 ∨ 12 ≤ x3.toNatClampNeg) then if x3.toNatClampNeg < nc then if x3.toNatClampNeg < nc then bnd (vX_eatsIn nc x3.toNatClampNeg x1 s) (fun r14 s15 => if r14 = 0 then fX11_oneStep_J96 nc (fX11_oneStep_L45 nc x1 fu) x1 x2 x3 s15 else if ¬ (x3 < 0 ∨ 12 ≤ x3.toNatClampNeg) then if x3.toNatClampNeg < nc then if ¬ (x3 < 0 ∨ 12 ≤ x3.toNatClampNeg) then if x3.toNatClampNeg < nc then bnd (fX2_takeIn nc x3.toNatClampNeg (gB s15 22 x3.toNatClampNeg) s15) (fun r23 s24 => if r23 = 0 then fX11_oneStep_J96 nc (fX11_oneStep_L45 nc x1 fu) x1 x2 x3 s24 else fX11_oneStep_J96 nc (fX11_oneStep_L45 nc x1 fu) x1 (x2 + 1) x3 s24) else none else none else none else none) else none else none else none
theorem fX11_oneStep_L45_s (nc : Nat) (x1 : Int32) (fu : Nat) (x2 : Int32) (x3 : Int32) (s : MS) : fX11_oneStep_L45 nc x1 (fu + 1) x2 x3 s = (if (gI s 4) ≤ x3 then some (x2, s) else if ¬ (x3 < 0 ∨ 12 ≤ x3.toNatClampNeg) then if x3.toNatClampNeg < nc then if x3.toNatClampNeg < nc then bnd (vX_eatsIn nc x3.toNatClampNeg x1 s) (fun r14 s15 => if r14 = 0 then fX11_oneStep_J96 nc (fX11_oneStep_L45 nc x1 fu) x1 x2 x3 s15 else if ¬ (x3 < 0 ∨ 12 ≤ x3.toNatClampNeg) then if x3.toNatClampNeg < nc then if ¬ (x3 < 0 ∨ 12 ≤ x3.toNatClampNeg) then if x3.toNatClampNeg < nc then bnd (fX2_takeIn nc x3.toNatClampNeg (gB s15 22 x3.toNatClampNeg) s15) (fun r23 s24 => if r23 = 0 then fX11_oneStep_J96 nc (fX11_oneStep_L45 nc x1 fu) x1 x2 x3 s24 else fX11_oneStep_J96 nc (fX11_oneStep_L45 nc x1 fu) x1 (x2 + 1) x3 s24) else none else none else none else none) else none else none else none) := rfl
def fX11_oneStep (nc : Nat) (σ : MS) : Option (Int32 × MS) :=
  bnd (fX11_oneStep_L12 nc ((gI σ 12) + 1) FU 0 σ) (fun v8 s9 => bnd (fX11_oneStep_L45 nc ((gI σ 12) + 1) FU 0 0 s9) (fun v29 s30 => if v29 ≤ 0 then lets (sI s30 12 ((gI σ 12) + 1)) (fun s33 => some (v29, s33)) else lets (sI s30 50 ((gI s30 50) + 1)) (fun s35 => lets (sI s35 12 ((gI σ 12) + 1)) (fun s37 => some (v29, s37)))))
theorem inX11_X11_oneStep : ∀ w ∈ wsX110, w ∈ wsX11_oneStep := by decide +kernel
theorem inX5_X11_oneStep : ∀ w ∈ wsX50, w ∈ wsX11_oneStep := by decide +kernel
set_option maxHeartbeats 4000000 in
set_option maxRecDepth 100000 in
theorem kX11_oneStep (l : Launch) (D : va_G) (τ : CId) (q : Nat → Nat) (nc : Nat) (σ : MS) (rE : Int32) (sE : MS) (hf : fX11_oneStep nc σ = some (rE, sE)) : Ct l D τ yX11_oneStep wsX11_oneStep { frames := 5, cells := 0, slots := 0, locals := 116 } [.ref (q 0)] (xW τ q nc σ) (FD (xW τ q nc sE) (some (.int rE))) := by
  unfold fX11_oneStep at hf
  refine ct_of (cc := cX11_oneStep) (maxL := 4) (ret := (some .int)) (by decide) rfl (Nat.le_of_ble_eq_true rfl) (fun Γ C => ?_)
  refine wm_lv (lv' := [(0, .ref (q 0))]) rfl ?_
  have wL_12 : ∀ (x1 : Int32) (fu : Nat) (x2 : Int32) (s : MS) (v : Unit) (s' : MS), fX11_oneStep_L12 nc x1 fu x2 s = some (v, s') → WM l D Γ 4 0 0 (xW τ q nc s') 41 [(0, .ref (q 0)), (1, .int x1)] [] → WM l D Γ 4 0 0 (xW τ q nc s) 12 [(0, .ref (q 0)), (1, .int x1), (2, .int x2)] [] := by
    intro x1
    intro fu
    induction fu with
    | zero => intro x2 s v s' hf hE; exact absurd hf (fun h => nomatch (show (none : Option _) = some _ from h))
    | succ fu ih =>
      intro x2 s v s' hf hE
      rw [fX11_oneStep_L12_s] at hf
      refine wm_iload_n C dX11_oneStep_12 2 rfl (pc' := 13) rfl ?_
      refine wm_aload_n C dX11_oneStep_13 0 rfl (pc' := 14) rfl ?_
      refine x_get (v := .ref (q 60)) C dX11_oneStep_14 inX11_X11_oneStep 0 (by omega) rfl rfl 0 (by decide) (by decide +kernel) (Or.inl rfl) rfl (pc' := 17) rfl ?_
      refine x_get (v := .int (gI s 4)) C dX11_oneStep_17 inX5_X11_oneStep 1 (by omega) rfl rfl 4 (by decide) (by decide +kernel) (Or.inl rfl) rfl (pc' := 20) rfl ?_
      refine wm_icmp_ge C dX11_oneStep_20 41 (by decide) (pc' := 23) rfl (fun h1 => ?_) (fun h1 => ?_)
      · have hf := ite_t h1 hf
        obtain ⟨rfl, rfl⟩ := leaf_s hf
        refine wm_sub (lv' := [(0, .ref (q 0)), (1, .int x1)]) [0, 1] rfl ?_
        exact hE
      · have hf := ite_f h1 hf
        refine wm_aload_n C dX11_oneStep_23 0 rfl (pc' := 24) rfl ?_
        refine x_get (v := .ref (q 22)) C dX11_oneStep_24 inX11_X11_oneStep 0 (by omega) rfl rfl 6 (by decide) (by decide +kernel) (Or.inl rfl) rfl (pc' := 27) rfl ?_
        refine wm_iload_n C dX11_oneStep_27 2 rfl (pc' := 28) rfl ?_
        refine wm_aload_n C dX11_oneStep_28 0 rfl (pc' := 29) rfl ?_
        refine wm_iload_n C dX11_oneStep_29 2 rfl (pc' := 30) rfl ?_
        refine wm_iload_n C dX11_oneStep_30 1 rfl (pc' := 31) rfl ?_
        obtain ⟨r2, s3, h4, hf⟩ := bnd_s hf
        refine wm_callVd (nn := 2) (As := [.int x2, .int x1]) (rest := [.int x2, .ref (q 22)]) (st' := [.long r2, .int x2, .ref (q 22)]) C dX11_oneStep_31 (kX11_mealIn l D τ q nc s x2 x1 r2 s3 h4) gX11_oneStep_X11_mealIn rfl (by decide +kernel) ⟨Nat.le_of_ble_eq_true rfl, Nat.le_of_ble_eq_true rfl⟩ rfl rfl ⟨Nat.zero_le _, Nat.zero_le _⟩ 0 (x_at (by omega) rfl) rfl rfl rfl (Nat.le_of_ble_eq_true rfl) rfl (pc' := 34) rfl ?_
        obtain ⟨h5, hf⟩ := chk_s hf
        obtain ⟨s6, e7, hf⟩ := lets_s hf
        refine wm_last (f := gB s3 22) (N := 12) (cA := τ.2.1) C dX11_oneStep_34 7 (x_at (by omega) rfl) rfl h5 (Wd' := xW τ q nc s6) (xW_set (e7 ▸ xC_B22) (by rw [e7]; rfl)) (pc' := 35) rfl ?_
        refine wm_iinc (v := x2 + 1) (lv' := [(2, .int (x2 + 1)), (0, .ref (q 0)), (1, .int x1)]) C dX11_oneStep_35 2 rfl rfl (by decide) rfl (pc' := 38) rfl ?_
        refine wm_goto C dX11_oneStep_38 12 (by decide) ?_
        refine wm_sub (lv' := [(0, .ref (q 0)), (1, .int x1), (2, .int (x2 + 1))]) [1, 2, 0] rfl ?_
        exact ih (x2 + 1) s6 _ _ hf hE
  have wL_45 : ∀ (x1 : Int32) (fu : Nat) (x2 : Int32) (x3 : Int32) (s : MS) (v : Int32) (s' : MS), fX11_oneStep_L45 nc x1 fu x2 x3 s = some (v, s') → WM l D Γ 4 0 0 (xW τ q nc s') 102 [(0, .ref (q 0)), (1, .int x1), (2, .int v)] [] → WM l D Γ 4 0 0 (xW τ q nc s) 45 [(0, .ref (q 0)), (1, .int x1), (2, .int x2), (3, .int x3)] [] := by
    intro x1
    intro fu
    induction fu with
    | zero => intro x2 x3 s v s' hf hE; exact absurd hf (fun h => nomatch (show (none : Option _) = some _ from h))
    | succ fu ih =>
      intro x2 x3 s v s' hf hE
      rw [fX11_oneStep_L45_s] at hf
      have wJ_96 : ∀ (x2 : Int32) (x3 : Int32) (s : MS) (v : Int32) (s' : MS), fX11_oneStep_J96 nc (fX11_oneStep_L45 nc x1 fu) x1 x2 x3 s = some (v, s') → WM l D Γ 4 0 0 (xW τ q nc s') 102 [(0, .ref (q 0)), (1, .int x1), (2, .int v)] [] → WM l D Γ 4 0 0 (xW τ q nc s) 96 [(0, .ref (q 0)), (1, .int x1), (2, .int x2), (3, .int x3)] [] := by
        intro x2 x3 s v s' hf hE
        unfold fX11_oneStep_J96 at hf
        refine wm_iinc (v := x3 + 1) (lv' := [(3, .int (x3 + 1)), (0, .ref (q 0)), (1, .int x1), (2, .int x2)]) C dX11_oneStep_96 3 rfl rfl (by decide) rfl (pc' := 99) rfl ?_
        refine wm_goto C dX11_oneStep_99 45 (by decide) ?_
        refine wm_sub (lv' := [(0, .ref (q 0)), (1, .int x1), (2, .int x2), (3, .int (x3 + 1))]) [1, 2, 3, 0] rfl ?_
        exact ih x2 (x3 + 1) s _ _ hf hE
      refine wm_iload_n C dX11_oneStep_45 3 rfl (pc' := 46) rfl ?_
      refine wm_aload_n C dX11_oneStep_46 0 rfl (pc' := 47) rfl ?_
      refine x_get (v := .ref (q 60)) C dX11_oneStep_47 inX11_X11_oneStep 0 (by omega) rfl rfl 0 (by decide) (by decide +kernel) (Or.inl rfl) rfl (pc' := 50) rfl ?_
      refine x_get (v := .int (gI s 4)) C dX11_oneStep_50 inX5_X11_oneStep 1 (by omega) rfl rfl 4 (by decide) (by decide +kernel) (Or.inl rfl) rfl (pc' := 53) rfl ?_
      refine wm_icmp_ge C dX11_oneStep_53 102 (by decide) (pc' := 56) rfl (fun h11 => ?_) (fun h11 => ?_)
      · have hf := ite_t h11 hf
        obtain ⟨rfl, rfl⟩ := leaf_s hf
        refine wm_sub (lv' := [(0, .ref (q 0)), (1, .int x1), (2, .int x2)]) [0, 1, 2] rfl ?_
        exact hE
      · have hf := ite_f h11 hf
        refine wm_aload_n C dX11_oneStep_56 0 rfl (pc' := 57) rfl ?_
        refine x_get (v := .ref (q 60)) C dX11_oneStep_57 inX11_X11_oneStep 0 (by omega) rfl rfl 0 (by decide) (by decide +kernel) (Or.inl rfl) rfl (pc' := 60) rfl ?_
        refine x_get (v := .ref (q 66)) C dX11_oneStep_60 inX5_X11_oneStep 1 (by omega) rfl rfl 2 (by decide) (by decide +kernel) (Or.inl rfl) rfl (pc' := 63) rfl ?_
        refine wm_iload_n C dX11_oneStep_63 3 rfl (pc' := 64) rfl ?_
        obtain ⟨h12, hf⟩ := chk_s hf
        obtain ⟨h13, hf⟩ := chk_s hf
        refine wm_aald (f := refs q 200 nc) (N := 12) (cA := τ.2.2.2.2.1) (ty := .object "WideningCracks$Crack") C dX11_oneStep_64 10 4 (x_at (by omega) rfl) rfl rfl h12 (refs_at h13) (pc' := 65) rfl ?_
        refine wm_iload_n C dX11_oneStep_65 1 rfl (pc' := 66) rfl ?_
        obtain ⟨h17, hf⟩ := chk_s hf
        obtain ⟨r14, s15, h16, hf⟩ := bnd_s hf
        have K18 : WM l D Γ 4 0 0 (xW τ q nc s15) 69 [(0, .ref (q 0)), (1, .int x1), (2, .int x2), (3, .int x3)] [.int r14] := by
          refine wm_if_eq C dX11_oneStep_69 96 (by decide) (pc' := 72) rfl (fun h19 => ?_) (fun h19 => ?_)
          · have hf := ite_t h19 hf
            exact wJ_96 x2 x3 s15 _ _ hf hE
          · have hf := ite_f h19 hf
            refine wm_aload_n C dX11_oneStep_72 0 rfl (pc' := 73) rfl ?_
            refine x_get (v := .ref (q 60)) C dX11_oneStep_73 inX11_X11_oneStep 0 (by omega) rfl rfl 0 (by decide) (by decide +kernel) (Or.inl rfl) rfl (pc' := 76) rfl ?_
            refine x_get (v := .ref (q 66)) C dX11_oneStep_76 inX5_X11_oneStep 1 (by omega) rfl rfl 2 (by decide) (by decide +kernel) (Or.inl rfl) rfl (pc' := 79) rfl ?_
            refine wm_iload_n C dX11_oneStep_79 3 rfl (pc' := 80) rfl ?_
            obtain ⟨h20, hf⟩ := chk_s hf
            obtain ⟨h21, hf⟩ := chk_s hf
            refine wm_aald (f := refs q 200 nc) (N := 12) (cA := τ.2.2.2.2.1) (ty := .object "WideningCracks$Crack") C dX11_oneStep_80 10 4 (x_at (by omega) rfl) rfl rfl h20 (refs_at h21) (pc' := 81) rfl ?_
            refine wm_aload_n C dX11_oneStep_81 0 rfl (pc' := 82) rfl ?_
            refine x_get (v := .ref (q 22)) C dX11_oneStep_82 inX11_X11_oneStep 0 (by omega) rfl rfl 6 (by decide) (by decide +kernel) (Or.inl rfl) rfl (pc' := 85) rfl ?_
            refine wm_iload_n C dX11_oneStep_85 3 rfl (pc' := 86) rfl ?_
            obtain ⟨h22, hf⟩ := chk_s hf
            refine wm_lald (f := gB s15 22) (N := 12) (cA := τ.2.1) C dX11_oneStep_86 7 (x_at (by omega) rfl) rfl h22 (pc' := 87) rfl ?_
            obtain ⟨h26, hf⟩ := chk_s hf
            obtain ⟨r23, s24, h25, hf⟩ := bnd_s hf
            have K27 : WM l D Γ 4 0 0 (xW τ q nc s24) 90 [(0, .ref (q 0)), (1, .int x1), (2, .int x2), (3, .int x3)] [.int r23] := by
              refine wm_if_eq C dX11_oneStep_90 96 (by decide) (pc' := 93) rfl (fun h28 => ?_) (fun h28 => ?_)
              · have hf := ite_t h28 hf
                exact wJ_96 x2 x3 s24 _ _ hf hE
              · have hf := ite_f h28 hf
                refine wm_iinc (v := x2 + 1) (lv' := [(2, .int (x2 + 1)), (0, .ref (q 0)), (1, .int x1), (3, .int x3)]) C dX11_oneStep_93 2 rfl rfl (by decide) rfl (pc' := 96) rfl ?_
                refine wm_sub (lv' := [(0, .ref (q 0)), (1, .int x1), (2, .int (x2 + 1)), (3, .int x3)]) [1, 2, 0, 3] rfl ?_
                exact wJ_96 (x2 + 1) x3 s24 _ _ hf hE
            rcases kci5 (gA s15 7 x3.toNatClampNeg) with ⟨k1, kk⟩ | ⟨n1, k2, kk⟩ | ⟨n1, n2, k3, kk⟩ | ⟨n1, n2, n3, k4, kk⟩ | ⟨n1, n2, n3, n4, kk⟩
            · exact wm_callC (nn := 1) (As := [.long (gB s15 22 x3.toNatClampNeg)]) (rest := []) (st' := [.int r23]) C dX11_oneStep_87 (kX2_takeIn l D τ q nc x3.toNatClampNeg s15 (gB s15 22 x3.toNatClampNeg) r23 s24 h25) (cw_U gX11_oneStep_X2_takeIn_u295X10 rfl rfl (by decide +kernel) ⟨Nat.le_of_ble_eq_true rfl, Nat.le_of_ble_eq_true rfl⟩) rfl rfl ⟨Nat.zero_le _, Nat.zero_le _⟩ (49 + x3.toNatClampNeg) (x_crackAt h26 kk) rfl rfl rfl (Nat.le_of_ble_eq_true rfl) rfl (pc' := 90) rfl K27
            · exact wm_callC (nn := 1) (As := [.long (gB s15 22 x3.toNatClampNeg)]) (rest := []) (st' := [.int r23]) C dX11_oneStep_87 (kX2_takeIn l D τ q nc x3.toNatClampNeg s15 (gB s15 22 x3.toNatClampNeg) r23 s24 h25) (cw_U gX11_oneStep_X2_takeIn_u295X0 rfl rfl (by decide +kernel) ⟨Nat.le_of_ble_eq_true rfl, Nat.le_of_ble_eq_true rfl⟩) rfl rfl ⟨Nat.zero_le _, Nat.zero_le _⟩ (49 + x3.toNatClampNeg) (x_crackAt h26 kk) rfl rfl rfl (Nat.le_of_ble_eq_true rfl) rfl (pc' := 90) rfl K27
            · exact wm_callC (nn := 1) (As := [.long (gB s15 22 x3.toNatClampNeg)]) (rest := []) (st' := [.int r23]) C dX11_oneStep_87 (kX2_takeIn l D τ q nc x3.toNatClampNeg s15 (gB s15 22 x3.toNatClampNeg) r23 s24 h25) (cw_U gX11_oneStep_X2_takeIn_u295X3 rfl rfl (by decide +kernel) ⟨Nat.le_of_ble_eq_true rfl, Nat.le_of_ble_eq_true rfl⟩) rfl rfl ⟨Nat.zero_le _, Nat.zero_le _⟩ (49 + x3.toNatClampNeg) (x_crackAt h26 kk) rfl rfl rfl (Nat.le_of_ble_eq_true rfl) rfl (pc' := 90) rfl K27
            · exact wm_callC (nn := 1) (As := [.long (gB s15 22 x3.toNatClampNeg)]) (rest := []) (st' := [.int r23]) C dX11_oneStep_87 (kX2_takeIn l D τ q nc x3.toNatClampNeg s15 (gB s15 22 x3.toNatClampNeg) r23 s24 h25) (cw_U gX11_oneStep_X2_takeIn_u295X7 rfl rfl (by decide +kernel) ⟨Nat.le_of_ble_eq_true rfl, Nat.le_of_ble_eq_true rfl⟩) rfl rfl ⟨Nat.zero_le _, Nat.zero_le _⟩ (49 + x3.toNatClampNeg) (x_crackAt h26 kk) rfl rfl rfl (Nat.le_of_ble_eq_true rfl) rfl (pc' := 90) rfl K27
            · exact wm_callVd (nn := 1) (As := [.long (gB s15 22 x3.toNatClampNeg)]) (rest := []) (st' := [.int r23]) C dX11_oneStep_87 (kX2_takeIn l D τ q nc x3.toNatClampNeg s15 (gB s15 22 x3.toNatClampNeg) r23 s24 h25) gX11_oneStep_X2_takeIn rfl (by decide +kernel) ⟨Nat.le_of_ble_eq_true rfl, Nat.le_of_ble_eq_true rfl⟩ rfl rfl ⟨Nat.zero_le _, Nat.zero_le _⟩ (49 + x3.toNatClampNeg) (x_crackAt h26 kk) rfl rfl rfl (Nat.le_of_ble_eq_true rfl) rfl (pc' := 90) rfl K27
        unfold vX_eatsIn at h16
        rcases kci5 (gA s 7 x3.toNatClampNeg) with ⟨k1, kk⟩ | ⟨n1, k2, kk⟩ | ⟨n1, n2, k3, kk⟩ | ⟨n1, n2, n3, k4, kk⟩ | ⟨n1, n2, n3, n4, kk⟩
        · exact wm_callC (nn := 1) (As := [.int x1]) (rest := []) (st' := [.int r14]) C dX11_oneStep_66 (kX2_eatsIn l D τ q nc x3.toNatClampNeg s x1 r14 s15 (ite_t k1 h16)) (cw_U gX11_oneStep_X2_eatsIn_u289X10 rfl rfl (by decide +kernel) ⟨Nat.le_of_ble_eq_true rfl, Nat.le_of_ble_eq_true rfl⟩) rfl rfl ⟨Nat.zero_le _, Nat.zero_le _⟩ (49 + x3.toNatClampNeg) (x_crackAt h17 kk) rfl rfl rfl (Nat.le_of_ble_eq_true rfl) rfl (pc' := 69) rfl K18
        · exact wm_callC (nn := 1) (As := [.int x1]) (rest := []) (st' := [.int r14]) C dX11_oneStep_66 (kX2_eatsIn l D τ q nc x3.toNatClampNeg s x1 r14 s15 (ite_t k2 (ite_f n1 h16))) (cw_U gX11_oneStep_X2_eatsIn_u289X0 rfl rfl (by decide +kernel) ⟨Nat.le_of_ble_eq_true rfl, Nat.le_of_ble_eq_true rfl⟩) rfl rfl ⟨Nat.zero_le _, Nat.zero_le _⟩ (49 + x3.toNatClampNeg) (x_crackAt h17 kk) rfl rfl rfl (Nat.le_of_ble_eq_true rfl) rfl (pc' := 69) rfl K18
        · exact wm_callC (nn := 1) (As := [.int x1]) (rest := []) (st' := [.int r14]) C dX11_oneStep_66 (kX3_eatsIn l D τ q nc x3.toNatClampNeg s x1 r14 s15 (ite_t k3 (ite_f n2 (ite_f n1 h16)))) (cw_O gX11_oneStep_X3_eatsIn_u289X3 rfl (b0 := cX2_eatsIn) (m0 := 2) (r0 := (some .boolean)) (by decide +kernel) (by decide +kernel) ⟨Nat.le_of_ble_eq_true rfl, Nat.le_of_ble_eq_true rfl⟩) rfl rfl ⟨Nat.zero_le _, Nat.zero_le _⟩ (49 + x3.toNatClampNeg) (x_crackAt h17 kk) rfl rfl rfl (Nat.le_of_ble_eq_true rfl) rfl (pc' := 69) rfl K18
        · exact wm_callC (nn := 1) (As := [.int x1]) (rest := []) (st' := [.int r14]) C dX11_oneStep_66 (kX3_eatsIn l D τ q nc x3.toNatClampNeg s x1 r14 s15 (ite_t k4 (ite_f n3 (ite_f n2 (ite_f n1 h16))))) (cw_O gX11_oneStep_X3_eatsIn_u289X7 rfl (b0 := cX2_eatsIn) (m0 := 2) (r0 := (some .boolean)) (by decide +kernel) (by decide +kernel) ⟨Nat.le_of_ble_eq_true rfl, Nat.le_of_ble_eq_true rfl⟩) rfl rfl ⟨Nat.zero_le _, Nat.zero_le _⟩ (49 + x3.toNatClampNeg) (x_crackAt h17 kk) rfl rfl rfl (Nat.le_of_ble_eq_true rfl) rfl (pc' := 69) rfl K18
        · exact wm_callVd (nn := 1) (As := [.int x1]) (rest := []) (st' := [.int r14]) C dX11_oneStep_66 (kX2_eatsIn l D τ q nc x3.toNatClampNeg s x1 r14 s15 (ite_f n4 (ite_f n3 (ite_f n2 (ite_f n1 h16))))) gX11_oneStep_X2_eatsIn rfl (by decide +kernel) ⟨Nat.le_of_ble_eq_true rfl, Nat.le_of_ble_eq_true rfl⟩ rfl rfl ⟨Nat.zero_le _, Nat.zero_le _⟩ (49 + x3.toNatClampNeg) (x_crackAt h17 kk) rfl rfl rfl (Nat.le_of_ble_eq_true rfl) rfl (pc' := 69) rfl K18
  refine wm_aload_n C dX11_oneStep_0 0 rfl (pc' := 1) rfl ?_
  refine x_get (v := .ref (q 60)) C dX11_oneStep_1 inX11_X11_oneStep 0 (by omega) rfl rfl 0 (by decide) (by decide +kernel) (Or.inl rfl) rfl (pc' := 4) rfl ?_
  refine x_get (v := .int (gI σ 12)) C dX11_oneStep_4 inX5_X11_oneStep 1 (by omega) rfl rfl 5 (by decide) (by decide +kernel) (Or.inl rfl) rfl (pc' := 7) rfl ?_
  refine wm_ikonst (v := 1) C dX11_oneStep_7 (by decide) (pc' := 8) rfl ?_
  refine wm_iadd C dX11_oneStep_8 (pc' := 9) rfl ?_
  refine wm_istore_n (lv' := [(1, .int ((gI σ 12) + 1)), (0, .ref (q 0))]) C dX11_oneStep_9 (by decide) rfl (pc' := 10) rfl ?_
  refine wm_ikonst (v := 0) C dX11_oneStep_10 (by decide) (pc' := 11) rfl ?_
  refine wm_istore_n (lv' := [(2, .int 0), (1, .int ((gI σ 12) + 1)), (0, .ref (q 0))]) C dX11_oneStep_11 (by decide) rfl (pc' := 12) rfl ?_
  refine wm_sub (lv' := [(0, .ref (q 0)), (1, .int ((gI σ 12) + 1)), (2, .int 0)]) [2, 1, 0] rfl ?_
  obtain ⟨v8, s9, h10, hf⟩ := bnd_s hf
  refine wL_12 ((gI σ 12) + 1) FU 0 σ v8 s9 h10 ?_
  refine wm_ikonst (v := 0) C dX11_oneStep_41 (by decide) (pc' := 42) rfl ?_
  refine wm_istore_n (lv' := [(2, .int 0), (0, .ref (q 0)), (1, .int ((gI σ 12) + 1))]) C dX11_oneStep_42 (by decide) rfl (pc' := 43) rfl ?_
  refine wm_ikonst (v := 0) C dX11_oneStep_43 (by decide) (pc' := 44) rfl ?_
  refine wm_istore_n (lv' := [(3, .int 0), (2, .int 0), (0, .ref (q 0)), (1, .int ((gI σ 12) + 1))]) C dX11_oneStep_44 (by decide) rfl (pc' := 45) rfl ?_
  refine wm_sub (lv' := [(0, .ref (q 0)), (1, .int ((gI σ 12) + 1)), (2, .int 0), (3, .int 0)]) [2, 3, 1, 0] rfl ?_
  obtain ⟨v29, s30, h31, hf⟩ := bnd_s hf
  refine wL_45 ((gI σ 12) + 1) FU 0 0 s9 v29 s30 h31 ?_
  refine wm_iload_n C dX11_oneStep_102 2 rfl (pc' := 103) rfl ?_
  refine wm_if_le C dX11_oneStep_103 119 (by decide) (pc' := 106) rfl (fun h32 => ?_) (fun h32 => ?_)
  · have hf := ite_t h32 hf
    refine wm_aload_n C dX11_oneStep_119 0 rfl (pc' := 120) rfl ?_
    refine x_get (v := .ref (q 60)) C dX11_oneStep_120 inX11_X11_oneStep 0 (by omega) rfl rfl 0 (by decide) (by decide +kernel) (Or.inl rfl) rfl (pc' := 123) rfl ?_
    refine wm_iload_n C dX11_oneStep_123 1 rfl (pc' := 124) rfl ?_
    obtain ⟨s33, e34, hf⟩ := lets_s hf
    refine x_put (σ' := s33) C dX11_oneStep_124 inX5_X11_oneStep tyX5 tyX5_ok nmX5 1 (by omega) rfl rfl 5 (by decide) (by decide +kernel) (Or.inl rfl) rfl rfl rfl rfl (Nat.le_of_ble_eq_true rfl) (e34 ▸ xC_I12) (e34 ▸ rfl) (pc' := 127) rfl ?_
    refine wm_iload_n C dX11_oneStep_127 2 rfl (pc' := 128) rfl ?_
    obtain ⟨rfl, rfl⟩ := leaf_s hf
    exact wm_iret C dX11_oneStep_128 (Nat.zero_le _) (Nat.zero_le _) FD.rf
  · have hf := ite_f h32 hf
    refine wm_aload_n C dX11_oneStep_106 0 rfl (pc' := 107) rfl ?_
    refine x_get (v := .ref (q 60)) C dX11_oneStep_107 inX11_X11_oneStep 0 (by omega) rfl rfl 0 (by decide) (by decide +kernel) (Or.inl rfl) rfl (pc' := 110) rfl ?_
    refine wm_dup C dX11_oneStep_110 rfl (pc' := 111) rfl ?_
    refine x_get (v := .int (gI s30 50)) C dX11_oneStep_111 inX5_X11_oneStep 1 (by omega) rfl rfl 6 (by decide) (by decide +kernel) (Or.inl rfl) rfl (pc' := 114) rfl ?_
    refine wm_ikonst (v := 1) C dX11_oneStep_114 (by decide) (pc' := 115) rfl ?_
    refine wm_iadd C dX11_oneStep_115 (pc' := 116) rfl ?_
    obtain ⟨s35, e36, hf⟩ := lets_s hf
    refine x_put (σ' := s35) C dX11_oneStep_116 inX5_X11_oneStep tyX5 tyX5_ok nmX5 1 (by omega) rfl rfl 6 (by decide) (by decide +kernel) (Or.inl rfl) rfl rfl rfl rfl (Nat.le_of_ble_eq_true rfl) (e36 ▸ xC_I50) (e36 ▸ rfl) (pc' := 119) rfl ?_
    refine wm_aload_n C dX11_oneStep_119 0 rfl (pc' := 120) rfl ?_
    refine x_get (v := .ref (q 60)) C dX11_oneStep_120 inX11_X11_oneStep 0 (by omega) rfl rfl 0 (by decide) (by decide +kernel) (Or.inl rfl) rfl (pc' := 123) rfl ?_
    refine wm_iload_n C dX11_oneStep_123 1 rfl (pc' := 124) rfl ?_
    obtain ⟨s37, e38, hf⟩ := lets_s hf
    refine x_put (σ' := s37) C dX11_oneStep_124 inX5_X11_oneStep tyX5 tyX5_ok nmX5 1 (by omega) rfl rfl 5 (by decide) (by decide +kernel) (Or.inl rfl) rfl rfl rfl rfl (Nat.le_of_ble_eq_true rfl) (e38 ▸ xC_I12) (e38 ▸ rfl) (pc' := 127) rfl ?_
    refine wm_iload_n C dX11_oneStep_127 2 rfl (pc' := 128) rfl ?_
    obtain ⟨rfl, rfl⟩ := leaf_s hf
    exact wm_iret C dX11_oneStep_128 (Nat.zero_le _) (Nat.zero_le _) FD.rf
def fX11_joint (nc : Nat) (σ : MS) : Option (Int32 × MS) :=
  if (gI σ 1) < 6 then bnd (fX5_addJoint nc σ) (fun r2 s3 => some (r2, s3)) else some ((-4), σ)
theorem inX11_X11_joint : ∀ w ∈ wsX110, w ∈ wsX11_joint := by decide +kernel
theorem inX5_X11_joint : ∀ w ∈ wsX50, w ∈ wsX11_joint := by decide +kernel
set_option maxHeartbeats 4000000 in
set_option maxRecDepth 100000 in
theorem kX11_joint (l : Launch) (D : va_G) (τ : CId) (q : Nat → Nat) (nc : Nat) (σ : MS) (rE : Int32) (sE : MS) (hf : fX11_joint nc σ = some (rE, sE)) : Ct l D τ yX11_joint wsX11_joint { frames := 1, cells := 0, slots := 0, locals := 20 } [.ref (q 0)] (xW τ q nc σ) (FD (xW τ q nc sE) (some (.int rE))) := by
  unfold fX11_joint at hf
  refine ct_of (cc := cX11_joint) (maxL := 1) (ret := (some .int)) (by decide) rfl (Nat.le_of_ble_eq_true rfl) (fun Γ C => ?_)
  refine wm_lv (lv' := [(0, .ref (q 0))]) rfl ?_
  refine wm_aload_n C dX11_joint_0 0 rfl (pc' := 1) rfl ?_
  refine x_get (v := .ref (q 60)) C dX11_joint_1 inX11_X11_joint 0 (by omega) rfl rfl 0 (by decide) (by decide +kernel) (Or.inl rfl) rfl (pc' := 4) rfl ?_
  refine x_get (v := .int (gI σ 1)) C dX11_joint_4 inX5_X11_joint 1 (by omega) rfl rfl 3 (by decide) (by decide +kernel) (Or.inl rfl) rfl (pc' := 7) rfl ?_
  refine wm_bipush (v := 6) C dX11_joint_7 (by decide) (pc' := 9) rfl ?_
  refine wm_icmp_lt C dX11_joint_9 15 (by decide) (pc' := 12) rfl (fun h1 => ?_) (fun h1 => ?_)
  · have hf := ite_t h1 hf
    refine wm_aload_n C dX11_joint_15 0 rfl (pc' := 16) rfl ?_
    refine x_get (v := .ref (q 60)) C dX11_joint_16 inX11_X11_joint 0 (by omega) rfl rfl 0 (by decide) (by decide +kernel) (Or.inl rfl) rfl (pc' := 19) rfl ?_
    obtain ⟨r2, s3, h4, hf⟩ := bnd_s hf
    refine wm_callVd (nn := 0) (As := []) (rest := []) (st' := [.int r2]) C dX11_joint_19 (kX5_addJoint l D τ q nc σ r2 s3 h4) gX11_joint_X5_addJoint rfl (by decide +kernel) ⟨Nat.le_of_ble_eq_true rfl, Nat.le_of_ble_eq_true rfl⟩ rfl rfl ⟨Nat.zero_le _, Nat.zero_le _⟩ 1 (x_at (by omega) rfl) rfl rfl rfl (Nat.le_of_ble_eq_true rfl) rfl (pc' := 22) rfl ?_
    obtain ⟨rfl, rfl⟩ := leaf_s hf
    exact wm_iret C dX11_joint_22 (Nat.zero_le _) (Nat.zero_le _) FD.rf
  · have hf := ite_f h1 hf
    refine wm_bipush (v := (-4)) C dX11_joint_12 (by decide) (pc' := 14) rfl ?_
    obtain ⟨rfl, rfl⟩ := leaf_s hf
    exact wm_iret C dX11_joint_14 (Nat.zero_le _) (Nat.zero_le _) FD.rf
def fX11_hold (nc : Nat) (x1 : Int32) (x2 : Int32) (σ : MS) : Option (Int32 × MS) :=
  bnd (fX5_hasJoint nc x1 σ) (fun r1 s2 => if ¬ r1 = 0 then bnd (fX11_isWithin x2.toInt64 0 100) (fun r5 u6 => if ¬ r5 = 0 then bnd (fX5_setHeld nc x1 1 x2 s2) (fun r9 s10 => some (1, s10)) else some ((-2), s2)) else some ((-1), s2))
theorem inX11_X11_hold : ∀ w ∈ wsX110, w ∈ wsX11_hold := by decide +kernel
set_option maxHeartbeats 4000000 in
set_option maxRecDepth 100000 in
theorem kX11_hold (l : Launch) (D : va_G) (τ : CId) (q : Nat → Nat) (nc : Nat) (σ : MS) (x1 : Int32) (x2 : Int32) (rE : Int32) (sE : MS) (hf : fX11_hold nc x1 x2 σ = some (rE, sE)) : Ct l D τ yX11_hold wsX11_hold { frames := 1, cells := 0, slots := 0, locals := 23 } [.ref (q 0), .int x1, .int x2] (xW τ q nc σ) (FD (xW τ q nc sE) (some (.int rE))) := by
  unfold fX11_hold at hf
  refine ct_of (cc := cX11_hold) (maxL := 3) (ret := (some .int)) (by decide) rfl (Nat.le_of_ble_eq_true rfl) (fun Γ C => ?_)
  refine wm_lv (lv' := [(0, .ref (q 0)), (1, .int x1), (2, .int x2)]) rfl ?_
  refine wm_aload_n C dX11_hold_0 0 rfl (pc' := 1) rfl ?_
  refine x_get (v := .ref (q 60)) C dX11_hold_1 inX11_X11_hold 0 (by omega) rfl rfl 0 (by decide) (by decide +kernel) (Or.inl rfl) rfl (pc' := 4) rfl ?_
  refine wm_iload_n C dX11_hold_4 1 rfl (pc' := 5) rfl ?_
  obtain ⟨r1, s2, h3, hf⟩ := bnd_s hf
  refine wm_callVd (nn := 1) (As := [.int x1]) (rest := []) (st' := [.int r1]) C dX11_hold_5 (kX5_hasJoint l D τ q nc σ x1 r1 s2 h3) gX11_hold_X5_hasJoint rfl (by decide +kernel) ⟨Nat.le_of_ble_eq_true rfl, Nat.le_of_ble_eq_true rfl⟩ rfl rfl ⟨Nat.zero_le _, Nat.zero_le _⟩ 1 (x_at (by omega) rfl) rfl rfl rfl (Nat.le_of_ble_eq_true rfl) rfl (pc' := 8) rfl ?_
  refine wm_if_ne C dX11_hold_8 13 (by decide) (pc' := 11) rfl (fun h4 => ?_) (fun h4 => ?_)
  · have hf := ite_t h4 hf
    refine wm_iload_n C dX11_hold_13 2 rfl (pc' := 14) rfl ?_
    refine wm_i2l C dX11_hold_14 (pc' := 15) rfl ?_
    refine wm_ikonst (v := 0) C dX11_hold_15 (by decide) (pc' := 16) rfl ?_
    refine wm_bipush (v := 100) C dX11_hold_16 (by decide) (pc' := 18) rfl ?_
    obtain ⟨r5, u6, h7, hf⟩ := bnd_s hf
    refine wm_callSd (nn := 3) (As := [.long x2.toInt64, .int 0, .int 100]) (rest := []) (st' := [.int r5]) C dX11_hold_18 (kX11_isWithin l D τ x2.toInt64 0 100 r5 h7) gX11_hold_X11_isWithin rfl (by decide +kernel) ⟨Nat.le_of_ble_eq_true rfl, Nat.le_of_ble_eq_true rfl⟩ rfl rfl ⟨Nat.zero_le _, Nat.zero_le _⟩ rfl rfl (Nat.le_of_ble_eq_true rfl) rfl (pc' := 21) rfl ?_
    refine wm_if_ne C dX11_hold_21 27 (by decide) (pc' := 24) rfl (fun h8 => ?_) (fun h8 => ?_)
    · have hf := ite_t h8 hf
      refine wm_aload_n C dX11_hold_27 0 rfl (pc' := 28) rfl ?_
      refine x_get (v := .ref (q 60)) C dX11_hold_28 inX11_X11_hold 0 (by omega) rfl rfl 0 (by decide) (by decide +kernel) (Or.inl rfl) rfl (pc' := 31) rfl ?_
      refine wm_iload_n C dX11_hold_31 1 rfl (pc' := 32) rfl ?_
      refine wm_ikonst (v := 1) C dX11_hold_32 (by decide) (pc' := 33) rfl ?_
      refine wm_iload_n C dX11_hold_33 2 rfl (pc' := 34) rfl ?_
      obtain ⟨r9, s10, h11, hf⟩ := bnd_s hf
      refine wm_callVd (nn := 3) (As := [.int x1, .int 1, .int x2]) (rest := []) (st' := []) C dX11_hold_34 (kX5_setHeld l D τ q nc s2 x1 1 x2 s10 h11) gX11_hold_X5_setHeld rfl (by decide +kernel) ⟨Nat.le_of_ble_eq_true rfl, Nat.le_of_ble_eq_true rfl⟩ rfl rfl ⟨Nat.zero_le _, Nat.zero_le _⟩ 1 (x_at (by omega) rfl) rfl rfl rfl (Nat.le_of_ble_eq_true rfl) rfl (pc' := 37) rfl ?_
      refine wm_ikonst (v := 1) C dX11_hold_37 (by decide) (pc' := 38) rfl ?_
      obtain ⟨rfl, rfl⟩ := leaf_s hf
      exact wm_iret C dX11_hold_38 (Nat.zero_le _) (Nat.zero_le _) FD.rf
    · have hf := ite_f (fun h => h h8) hf
      refine wm_bipush (v := (-2)) C dX11_hold_24 (by decide) (pc' := 26) rfl ?_
      obtain ⟨rfl, rfl⟩ := leaf_s hf
      exact wm_iret C dX11_hold_26 (Nat.zero_le _) (Nat.zero_le _) FD.rf
  · have hf := ite_f (fun h => h h4) hf
    refine wm_ikonst (v := (-1)) C dX11_hold_11 (by decide) (pc' := 12) rfl ?_
    obtain ⟨rfl, rfl⟩ := leaf_s hf
    exact wm_iret C dX11_hold_12 (Nat.zero_le _) (Nat.zero_le _) FD.rf
def fX11_free (nc : Nat) (x1 : Int32) (σ : MS) : Option (Int32 × MS) :=
  bnd (fX5_hasJoint nc x1 σ) (fun r1 s2 => if ¬ r1 = 0 then if ¬ (x1 < 0 ∨ 6 ≤ x1.toNatClampNeg) then if ¬ (gA s2 2 x1.toNatClampNeg) = 0 then bnd (fX5_setHeld nc x1 0 0 s2) (fun r7 s8 => some (1, s8)) else some (0, s2) else none else some ((-1), s2))
theorem inX11_X11_free : ∀ w ∈ wsX110, w ∈ wsX11_free := by decide +kernel
theorem inX5_X11_free : ∀ w ∈ wsX50, w ∈ wsX11_free := by decide +kernel
set_option maxHeartbeats 4000000 in
set_option maxRecDepth 100000 in
theorem kX11_free (l : Launch) (D : va_G) (τ : CId) (q : Nat → Nat) (nc : Nat) (σ : MS) (x1 : Int32) (rE : Int32) (sE : MS) (hf : fX11_free nc x1 σ = some (rE, sE)) : Ct l D τ yX11_free wsX11_free { frames := 1, cells := 0, slots := 0, locals := 23 } [.ref (q 0), .int x1] (xW τ q nc σ) (FD (xW τ q nc sE) (some (.int rE))) := by
  unfold fX11_free at hf
  refine ct_of (cc := cX11_free) (maxL := 2) (ret := (some .int)) (by decide) rfl (Nat.le_of_ble_eq_true rfl) (fun Γ C => ?_)
  refine wm_lv (lv' := [(0, .ref (q 0)), (1, .int x1)]) rfl ?_
  refine wm_aload_n C dX11_free_0 0 rfl (pc' := 1) rfl ?_
  refine x_get (v := .ref (q 60)) C dX11_free_1 inX11_X11_free 0 (by omega) rfl rfl 0 (by decide) (by decide +kernel) (Or.inl rfl) rfl (pc' := 4) rfl ?_
  refine wm_iload_n C dX11_free_4 1 rfl (pc' := 5) rfl ?_
  obtain ⟨r1, s2, h3, hf⟩ := bnd_s hf
  refine wm_callVd (nn := 1) (As := [.int x1]) (rest := []) (st' := [.int r1]) C dX11_free_5 (kX5_hasJoint l D τ q nc σ x1 r1 s2 h3) gX11_free_X5_hasJoint rfl (by decide +kernel) ⟨Nat.le_of_ble_eq_true rfl, Nat.le_of_ble_eq_true rfl⟩ rfl rfl ⟨Nat.zero_le _, Nat.zero_le _⟩ 1 (x_at (by omega) rfl) rfl rfl rfl (Nat.le_of_ble_eq_true rfl) rfl (pc' := 8) rfl ?_
  refine wm_if_ne C dX11_free_8 13 (by decide) (pc' := 11) rfl (fun h4 => ?_) (fun h4 => ?_)
  · have hf := ite_t h4 hf
    refine wm_aload_n C dX11_free_13 0 rfl (pc' := 14) rfl ?_
    refine x_get (v := .ref (q 60)) C dX11_free_14 inX11_X11_free 0 (by omega) rfl rfl 0 (by decide) (by decide +kernel) (Or.inl rfl) rfl (pc' := 17) rfl ?_
    refine x_get (v := .ref (q 2)) C dX11_free_17 inX5_X11_free 1 (by omega) rfl rfl 0 (by decide) (by decide +kernel) (Or.inl rfl) rfl (pc' := 20) rfl ?_
    refine wm_iload_n C dX11_free_20 1 rfl (pc' := 21) rfl ?_
    obtain ⟨h5, hf⟩ := chk_s hf
    refine wm_zald (f := gA s2 2) (N := 6) (cA := τ.2.2.1) C dX11_free_21 8 (x_at (by omega) rfl) rfl h5 (pc' := 22) rfl ?_
    refine wm_if_ne C dX11_free_22 27 (by decide) (pc' := 25) rfl (fun h6 => ?_) (fun h6 => ?_)
    · have hf := ite_t h6 hf
      refine wm_aload_n C dX11_free_27 0 rfl (pc' := 28) rfl ?_
      refine x_get (v := .ref (q 60)) C dX11_free_28 inX11_X11_free 0 (by omega) rfl rfl 0 (by decide) (by decide +kernel) (Or.inl rfl) rfl (pc' := 31) rfl ?_
      refine wm_iload_n C dX11_free_31 1 rfl (pc' := 32) rfl ?_
      refine wm_ikonst (v := 0) C dX11_free_32 (by decide) (pc' := 33) rfl ?_
      refine wm_ikonst (v := 0) C dX11_free_33 (by decide) (pc' := 34) rfl ?_
      obtain ⟨r7, s8, h9, hf⟩ := bnd_s hf
      refine wm_callVd (nn := 3) (As := [.int x1, .int 0, .int 0]) (rest := []) (st' := []) C dX11_free_34 (kX5_setHeld l D τ q nc s2 x1 0 0 s8 h9) gX11_free_X5_setHeld rfl (by decide +kernel) ⟨Nat.le_of_ble_eq_true rfl, Nat.le_of_ble_eq_true rfl⟩ rfl rfl ⟨Nat.zero_le _, Nat.zero_le _⟩ 1 (x_at (by omega) rfl) rfl rfl rfl (Nat.le_of_ble_eq_true rfl) rfl (pc' := 37) rfl ?_
      refine wm_ikonst (v := 1) C dX11_free_37 (by decide) (pc' := 38) rfl ?_
      obtain ⟨rfl, rfl⟩ := leaf_s hf
      exact wm_iret C dX11_free_38 (Nat.zero_le _) (Nat.zero_le _) FD.rf
    · have hf := ite_f (fun h => h h6) hf
      refine wm_ikonst (v := 0) C dX11_free_25 (by decide) (pc' := 26) rfl ?_
      obtain ⟨rfl, rfl⟩ := leaf_s hf
      exact wm_iret C dX11_free_26 (Nat.zero_le _) (Nat.zero_le _) FD.rf
  · have hf := ite_f (fun h => h h4) hf
    refine wm_ikonst (v := (-1)) C dX11_free_11 (by decide) (pc' := 12) rfl ?_
    obtain ⟨rfl, rfl⟩ := leaf_s hf
    exact wm_iret C dX11_free_12 (Nat.zero_le _) (Nat.zero_le _) FD.rf
def fX11_widths_J110 (nc : Nat) (s : MS) : Option (Int32 × MS) :=
  bnd (fX11_faulted nc 3 s) (fun r30 s31 => some (r30, s31))
def fX11_widths_L136 (nc : Nat) (x3 : Int32) (x4 : Int32) (x5 : Int32) (x6 : Nat) : Nat → Int32 → MS → Option (Unit × MS)
  | 0, _, _ => none
  | fu + 1, x7, s => if x4 ≤ x7 then some ((), s) else if x6 < 4 then if x6 < 4 then if ¬ ((x3 + x7) < 0 ∨ 24 ≤ (x3 + x7).toNatClampNeg) then bnd (fX5_setWidth nc (x5 + x7) ((gB s (90 + x6) (x3 + x7).toNatClampNeg).toInt32) s) (fun r42 s43 => fX11_widths_L136 nc x3 x4 x5 x6 fu (x7 + 1) s43) else none else none else none
theorem fX11_widths_L136_s (nc : Nat) (x3 : Int32) (x4 : Int32) (x5 : Int32) (x6 : Nat) (fu : Nat) (x7 : Int32) (s : MS) : fX11_widths_L136 nc x3 x4 x5 x6 (fu + 1) x7 s = (if x4 ≤ x7 then some ((), s) else if x6 < 4 then if x6 < 4 then if ¬ ((x3 + x7) < 0 ∨ 24 ≤ (x3 + x7).toNatClampNeg) then bnd (fX5_setWidth nc (x5 + x7) ((gB s (90 + x6) (x3 + x7).toNatClampNeg).toInt32) s) (fun r42 s43 => fX11_widths_L136 nc x3 x4 x5 x6 fu (x7 + 1) s43) else none else none else none) := rfl
def fX11_widths (nc : Nat) (x1 : Int32) (x2 : Int32) (x3 : Int32) (x4 : Int32) (x5 : Int32) (σ : MS) : Option (Int32 × MS) :=
  lets (sI σ 0 0) (fun s1 => bnd (fX11_isCore x1) (fun r3 u4 => if r3 = 0 then some ((-1), s1) else bnd (fX5_hasCrack nc x5 s1) (fun r7 s8 => if ¬ r7 = 0 then bnd (fX11_isLane x2) (fun r11 u12 => if ¬ r11 = 0 then if ¬ (x1 < 0 ∨ 4 ≤ x1.toNatClampNeg) then if x1.toNatClampNeg < 4 then if x1.toNatClampNeg < 4 then bnd (fX1_isOfAnotherLane nc x1.toNatClampNeg x2 s8) (fun r17 s18 => if r17 = 0 then if x1.toNatClampNeg < 4 then if ¬ (gA s18 40 x1.toNatClampNeg) = 0 then if 0 ≤ x4 then if x1.toNatClampNeg < 4 then bnd (fX1_hasCells nc x1.toNatClampNeg x3 x4 s18) (fun r25 s26 => if r25 = 0 then fX11_widths_J110 nc s26 else if x4 ≤ ((gI s26 4) - x5) then if x1.toNatClampNeg < 4 then bnd (fX1_areWithin nc x1.toNatClampNeg x3 x4 0 12 s26) (fun r34 s35 => if ¬ r34 = 0 then bnd (fX11_widths_L136 nc x3 x4 x5 x1.toNatClampNeg FU 0 s35) (fun v46 s47 => some (x4, s47)) else some ((-2), s35)) else none else fX11_widths_J110 nc s26) else none else bnd (fX11_faulted nc 4 s18) (fun r49 s50 => some (r49, s50)) else bnd (fX11_faulted nc 1 s18) (fun r52 s53 => some (r52, s53)) else none else bnd (fX11_faulted nc 2 s18) (fun r55 s56 => some (r55, s56))) else none else none else none else some ((-2), s8)) else some ((-1), s8))))
theorem inX1_X11_widths : ∀ w ∈ wsX10, w ∈ wsX11_widths := by decide +kernel
theorem inX11_X11_widths : ∀ w ∈ wsX110, w ∈ wsX11_widths := by decide +kernel
theorem inX5_X11_widths : ∀ w ∈ wsX50, w ∈ wsX11_widths := by decide +kernel
set_option maxHeartbeats 4000000 in
set_option maxRecDepth 100000 in
theorem kX11_widths (l : Launch) (D : va_G) (τ : CId) (q : Nat → Nat) (nc : Nat) (σ : MS) (x1 : Int32) (x2 : Int32) (x3 : Int32) (x4 : Int32) (x5 : Int32) (rE : Int32) (sE : MS) (hf : fX11_widths nc x1 x2 x3 x4 x5 σ = some (rE, sE)) : Ct l D τ yX11_widths wsX11_widths { frames := 2, cells := 0, slots := 0, locals := 48 } [.ref (q 0), .int x1, .int x2, .int x3, .int x4, .int x5] (xW τ q nc σ) (FD (xW τ q nc sE) (some (.int rE))) := by
  unfold fX11_widths at hf
  refine ct_of (cc := cX11_widths) (maxL := 8) (ret := (some .int)) (by decide) rfl (Nat.le_of_ble_eq_true rfl) (fun Γ C => ?_)
  refine wm_lv (lv' := [(0, .ref (q 0)), (1, .int x1), (2, .int x2), (3, .int x3), (4, .int x4), (5, .int x5)]) rfl ?_
  have wL_136 : ∀ (x3 : Int32) (x4 : Int32) (x5 : Int32) (x6 : Nat) (fu : Nat) (x7 : Int32) (s : MS) (v : Unit) (s' : MS), fX11_widths_L136 nc x3 x4 x5 x6 fu x7 s = some (v, s') → WM l D Γ 8 0 0 (xW τ q nc s') 172 [(4, .int x4)] [] → WM l D Γ 8 0 0 (xW τ q nc s) 136 [(0, .ref (q 0)), (3, .int x3), (4, .int x4), (5, .int x5), (6, .ref (q (80 + x6))), (7, .int x7)] [] := by
    intro x3 x4 x5 x6
    intro fu
    induction fu with
    | zero => intro x7 s v s' hf hE; exact absurd hf (fun h => nomatch (show (none : Option _) = some _ from h))
    | succ fu ih =>
      intro x7 s v s' hf hE
      rw [fX11_widths_L136_s] at hf
      refine wm_iload C dX11_widths_136 5 rfl (pc' := 138) rfl ?_
      refine wm_iload C dX11_widths_138 2 rfl (pc' := 140) rfl ?_
      refine wm_icmp_ge C dX11_widths_140 172 (by decide) (pc' := 143) rfl (fun h39 => ?_) (fun h39 => ?_)
      · have hf := ite_t h39 hf
        obtain ⟨rfl, rfl⟩ := leaf_s hf
        refine wm_sub (lv' := [(4, .int x4)]) [2] rfl ?_
        exact hE
      · have hf := ite_f h39 hf
        refine wm_aload_n C dX11_widths_143 0 rfl (pc' := 144) rfl ?_
        refine x_get (v := .ref (q 60)) C dX11_widths_144 inX11_X11_widths 0 (by omega) rfl rfl 0 (by decide) (by decide +kernel) (Or.inl rfl) rfl (pc' := 147) rfl ?_
        refine wm_iload C dX11_widths_147 3 rfl (pc' := 149) rfl ?_
        refine wm_iload C dX11_widths_149 5 rfl (pc' := 151) rfl ?_
        refine wm_iadd C dX11_widths_151 (pc' := 152) rfl ?_
        refine wm_aload C dX11_widths_152 4 rfl (pc' := 154) rfl ?_
        obtain ⟨h40, hf⟩ := chk_s hf
        refine x_getK (v := .ref (q (90 + x6))) C dX11_widths_154 inX1_X11_widths h40 0 (by decide) (by decide +kernel) rfl rfl (pc' := 157) rfl ?_
        refine wm_iload_n C dX11_widths_157 1 rfl (pc' := 158) rfl ?_
        refine wm_iload C dX11_widths_158 5 rfl (pc' := 160) rfl ?_
        refine wm_iadd C dX11_widths_160 (pc' := 161) rfl ?_
        obtain ⟨h45, hf⟩ := chk_s hf
        obtain ⟨h41, hf⟩ := chk_s hf
        refine wm_lald (f := gB s (90 + x6)) (N := 24) (cA := τ.2.1) C dX11_widths_161 (23 + x6) (x_at (by omega) (xC_cells h45)) rfl h41 (pc' := 162) rfl ?_
        refine wm_l2i C dX11_widths_162 (pc' := 163) rfl ?_
        obtain ⟨r42, s43, h44, hf⟩ := bnd_s hf
        refine wm_callVd (nn := 2) (As := [.int (x5 + x7), .int ((gB s (90 + x6) (x3 + x7).toNatClampNeg).toInt32)]) (rest := []) (st' := []) C dX11_widths_163 (kX5_setWidth l D τ q nc s (x5 + x7) ((gB s (90 + x6) (x3 + x7).toNatClampNeg).toInt32) s43 h44) gX11_widths_X5_setWidth rfl (by decide +kernel) ⟨Nat.le_of_ble_eq_true rfl, Nat.le_of_ble_eq_true rfl⟩ rfl rfl ⟨Nat.zero_le _, Nat.zero_le _⟩ 1 (x_at (by omega) rfl) rfl rfl rfl (Nat.le_of_ble_eq_true rfl) rfl (pc' := 166) rfl ?_
        refine wm_iinc (v := x7 + 1) (lv' := [(7, .int (x7 + 1)), (0, .ref (q 0)), (3, .int x3), (4, .int x4), (5, .int x5), (6, .ref (q (80 + x6)))]) C dX11_widths_166 5 rfl rfl (by decide) rfl (pc' := 169) rfl ?_
        refine wm_goto C dX11_widths_169 136 (by decide) ?_
        refine wm_sub (lv' := [(0, .ref (q 0)), (3, .int x3), (4, .int x4), (5, .int x5), (6, .ref (q (80 + x6))), (7, .int (x7 + 1))]) [1, 2, 3, 4, 5, 0] rfl ?_
        exact ih (x7 + 1) s43 _ _ hf hE
  have wJ_110 : ∀ (s : MS), fX11_widths_J110 nc s = some (rE, sE) → WM l D Γ 8 0 0 (xW τ q nc s) 110 [(0, .ref (q 0))] [] := by
    intro  s hf
    unfold fX11_widths_J110 at hf
    refine wm_aload_n C dX11_widths_110 0 rfl (pc' := 111) rfl ?_
    refine wm_ikonst (v := 3) C dX11_widths_111 (by decide) (pc' := 112) rfl ?_
    obtain ⟨r30, s31, h32, hf⟩ := bnd_s hf
    refine wm_callVd (nn := 1) (As := [.int 3]) (rest := []) (st' := [.int r30]) C dX11_widths_112 (kX11_faulted l D τ q nc s 3 r30 s31 h32) gX11_widths_X11_faulted rfl (by decide +kernel) ⟨Nat.le_of_ble_eq_true rfl, Nat.le_of_ble_eq_true rfl⟩ rfl rfl ⟨Nat.zero_le _, Nat.zero_le _⟩ 0 (x_at (by omega) rfl) rfl rfl rfl (Nat.le_of_ble_eq_true rfl) rfl (pc' := 115) rfl ?_
    obtain ⟨rfl, rfl⟩ := leaf_s hf
    exact wm_iret C dX11_widths_115 (Nat.zero_le _) (Nat.zero_le _) FD.rf
  refine wm_aload_n C dX11_widths_0 0 rfl (pc' := 1) rfl ?_
  refine wm_ikonst (v := 0) C dX11_widths_1 (by decide) (pc' := 2) rfl ?_
  obtain ⟨s1, e2, hf⟩ := lets_s hf
  refine x_put (σ' := s1) C dX11_widths_2 inX11_X11_widths tyX11 tyX11_ok nmX11 0 (by omega) rfl rfl 8 (by decide) (by decide +kernel) (Or.inl rfl) rfl rfl rfl rfl (Nat.le_of_ble_eq_true rfl) (e2 ▸ xC_I0) (e2 ▸ rfl) (pc' := 5) rfl ?_
  refine wm_iload_n C dX11_widths_5 1 rfl (pc' := 6) rfl ?_
  obtain ⟨r3, u4, h5, hf⟩ := bnd_s hf
  refine wm_callSd (nn := 1) (As := [.int x1]) (rest := []) (st' := [.int r3]) C dX11_widths_6 (kX11_isCore l D τ x1 r3 h5) gX11_widths_X11_isCore rfl (by decide +kernel) ⟨Nat.le_of_ble_eq_true rfl, Nat.le_of_ble_eq_true rfl⟩ rfl rfl ⟨Nat.zero_le _, Nat.zero_le _⟩ rfl rfl (Nat.le_of_ble_eq_true rfl) rfl (pc' := 9) rfl ?_
  refine wm_if_eq C dX11_widths_9 24 (by decide) (pc' := 12) rfl (fun h6 => ?_) (fun h6 => ?_)
  · have hf := ite_t h6 hf
    refine wm_ikonst (v := (-1)) C dX11_widths_24 (by decide) (pc' := 25) rfl ?_
    obtain ⟨rfl, rfl⟩ := leaf_s hf
    exact wm_iret C dX11_widths_25 (Nat.zero_le _) (Nat.zero_le _) FD.rf
  · have hf := ite_f h6 hf
    refine wm_aload_n C dX11_widths_12 0 rfl (pc' := 13) rfl ?_
    refine x_get (v := .ref (q 60)) C dX11_widths_13 inX11_X11_widths 0 (by omega) rfl rfl 0 (by decide) (by decide +kernel) (Or.inl rfl) rfl (pc' := 16) rfl ?_
    refine wm_iload C dX11_widths_16 5 rfl (pc' := 18) rfl ?_
    obtain ⟨r7, s8, h9, hf⟩ := bnd_s hf
    refine wm_callVd (nn := 1) (As := [.int x5]) (rest := []) (st' := [.int r7]) C dX11_widths_18 (kX5_hasCrack l D τ q nc s1 x5 r7 s8 h9) gX11_widths_X5_hasCrack rfl (by decide +kernel) ⟨Nat.le_of_ble_eq_true rfl, Nat.le_of_ble_eq_true rfl⟩ rfl rfl ⟨Nat.zero_le _, Nat.zero_le _⟩ 1 (x_at (by omega) rfl) rfl rfl rfl (Nat.le_of_ble_eq_true rfl) rfl (pc' := 21) rfl ?_
    refine wm_if_ne C dX11_widths_21 26 (by decide) (pc' := 24) rfl (fun h10 => ?_) (fun h10 => ?_)
    · have hf := ite_t h10 hf
      refine wm_iload_n C dX11_widths_26 2 rfl (pc' := 27) rfl ?_
      obtain ⟨r11, u12, h13, hf⟩ := bnd_s hf
      refine wm_callSd (nn := 1) (As := [.int x2]) (rest := []) (st' := [.int r11]) C dX11_widths_27 (kX11_isLane l D τ x2 r11 h13) gX11_widths_X11_isLane rfl (by decide +kernel) ⟨Nat.le_of_ble_eq_true rfl, Nat.le_of_ble_eq_true rfl⟩ rfl rfl ⟨Nat.zero_le _, Nat.zero_le _⟩ rfl rfl (Nat.le_of_ble_eq_true rfl) rfl (pc' := 30) rfl ?_
      refine wm_if_ne C dX11_widths_30 36 (by decide) (pc' := 33) rfl (fun h14 => ?_) (fun h14 => ?_)
      · have hf := ite_t h14 hf
        refine wm_aload_n C dX11_widths_36 0 rfl (pc' := 37) rfl ?_
        refine x_get (v := .ref (q 64)) C dX11_widths_37 inX11_X11_widths 0 (by omega) rfl rfl 4 (by decide) (by decide +kernel) (Or.inl rfl) rfl (pc' := 40) rfl ?_
        refine wm_iload_n C dX11_widths_40 1 rfl (pc' := 41) rfl ?_
        obtain ⟨h15, hf⟩ := chk_s hf
        obtain ⟨h16, hf⟩ := chk_s hf
        refine wm_aald (f := refs q 80 4) (N := 4) (cA := τ.2.2.2.1) (ty := .object "WideningCracks$Core") C dX11_widths_41 6 3 (x_at (by omega) rfl) rfl rfl h15 (refs_at h16) (pc' := 42) rfl ?_
        refine wm_astore (lv' := [(6, .ref (q (80 + x1.toNatClampNeg))), (0, .ref (q 0)), (1, .int x1), (2, .int x2), (3, .int x3), (4, .int x4), (5, .int x5)]) C dX11_widths_42 (by decide) rfl (pc' := 44) rfl ?_
        refine wm_aload C dX11_widths_44 0 rfl (pc' := 46) rfl ?_
        refine wm_iload_n C dX11_widths_46 3 rfl (pc' := 47) rfl ?_
        obtain ⟨h20, hf⟩ := chk_s hf
        obtain ⟨r17, s18, h19, hf⟩ := bnd_s hf
        refine wm_callVd (nn := 1) (As := [.int x2]) (rest := []) (st' := [.int r17]) C dX11_widths_47 (kX1_isOfAnotherLane l D τ q nc x1.toNatClampNeg s8 x2 r17 s18 h19) gX11_widths_X1_isOfAnotherLane rfl (by decide +kernel) ⟨Nat.le_of_ble_eq_true rfl, Nat.le_of_ble_eq_true rfl⟩ rfl rfl ⟨Nat.zero_le _, Nat.zero_le _⟩ (19 + x1.toNatClampNeg) (x_coreAt h20) rfl rfl rfl (Nat.le_of_ble_eq_true rfl) rfl (pc' := 50) rfl ?_
        refine wm_if_eq C dX11_widths_50 59 (by decide) (pc' := 53) rfl (fun h21 => ?_) (fun h21 => ?_)
        · have hf := ite_t h21 hf
          refine wm_aload C dX11_widths_59 0 rfl (pc' := 61) rfl ?_
          obtain ⟨h22, hf⟩ := chk_s hf
          refine x_getK (v := .int (gA s18 40 x1.toNatClampNeg)) C dX11_widths_61 inX1_X11_widths h22 1 (by decide) (by decide +kernel) rfl rfl (pc' := 64) rfl ?_
          refine wm_if_ne C dX11_widths_64 73 (by decide) (pc' := 67) rfl (fun h23 => ?_) (fun h23 => ?_)
          · have hf := ite_t h23 hf
            refine wm_iload C dX11_widths_73 5 rfl (pc' := 75) rfl ?_
            refine wm_if_ge C dX11_widths_75 84 (by decide) (pc' := 78) rfl (fun h24 => ?_) (fun h24 => ?_)
            · have hf := ite_t h24 hf
              refine wm_aload C dX11_widths_84 0 rfl (pc' := 86) rfl ?_
              refine wm_iload_n C dX11_widths_86 4 rfl (pc' := 87) rfl ?_
              refine wm_iload C dX11_widths_87 5 rfl (pc' := 89) rfl ?_
              obtain ⟨h28, hf⟩ := chk_s hf
              obtain ⟨r25, s26, h27, hf⟩ := bnd_s hf
              refine wm_callVd (nn := 2) (As := [.int x3, .int x4]) (rest := []) (st' := [.int r25]) C dX11_widths_89 (kX1_hasCells l D τ q nc x1.toNatClampNeg s18 x3 x4 r25 s26 h27) gX11_widths_X1_hasCells rfl (by decide +kernel) ⟨Nat.le_of_ble_eq_true rfl, Nat.le_of_ble_eq_true rfl⟩ rfl rfl ⟨Nat.zero_le _, Nat.zero_le _⟩ (19 + x1.toNatClampNeg) (x_coreAt h28) rfl rfl rfl (Nat.le_of_ble_eq_true rfl) rfl (pc' := 92) rfl ?_
              refine wm_if_eq C dX11_widths_92 110 (by decide) (pc' := 95) rfl (fun h29 => ?_) (fun h29 => ?_)
              · have hf := ite_t h29 hf
                refine wm_sub (lv' := [(0, .ref (q 0))]) [1] rfl ?_
                exact wJ_110 s26 hf
              · have hf := ite_f h29 hf
                refine wm_iload C dX11_widths_95 5 rfl (pc' := 97) rfl ?_
                refine wm_aload_n C dX11_widths_97 1 rfl (pc' := 98) rfl ?_
                refine x_get (v := .ref (q 60)) C dX11_widths_98 inX11_X11_widths 0 (by omega) rfl rfl 0 (by decide) (by decide +kernel) (Or.inl rfl) rfl (pc' := 101) rfl ?_
                refine x_get (v := .int (gI s26 4)) C dX11_widths_101 inX5_X11_widths 1 (by omega) rfl rfl 4 (by decide) (by decide +kernel) (Or.inl rfl) rfl (pc' := 104) rfl ?_
                refine wm_iload C dX11_widths_104 6 rfl (pc' := 106) rfl ?_
                refine wm_isub C dX11_widths_106 (pc' := 107) rfl ?_
                refine wm_icmp_le C dX11_widths_107 116 (by decide) (pc' := 110) rfl (fun h33 => ?_) (fun h33 => ?_)
                · have hf := ite_t h33 hf
                  refine wm_aload C dX11_widths_116 0 rfl (pc' := 118) rfl ?_
                  refine wm_iload_n C dX11_widths_118 4 rfl (pc' := 119) rfl ?_
                  refine wm_iload C dX11_widths_119 5 rfl (pc' := 121) rfl ?_
                  refine wm_ikonst (v := 0) C dX11_widths_121 (by decide) (pc' := 122) rfl ?_
                  refine wm_bipush (v := 12) C dX11_widths_122 (by decide) (pc' := 124) rfl ?_
                  obtain ⟨h37, hf⟩ := chk_s hf
                  obtain ⟨r34, s35, h36, hf⟩ := bnd_s hf
                  refine wm_callVd (nn := 4) (As := [.int x3, .int x4, .int 0, .int 12]) (rest := []) (st' := [.int r34]) C dX11_widths_124 (kX1_areWithin l D τ q nc x1.toNatClampNeg s26 x3 x4 0 12 r34 s35 h36) gX11_widths_X1_areWithin rfl (by decide +kernel) ⟨Nat.le_of_ble_eq_true rfl, Nat.le_of_ble_eq_true rfl⟩ rfl rfl ⟨Nat.zero_le _, Nat.zero_le _⟩ (19 + x1.toNatClampNeg) (x_coreAt h37) rfl rfl rfl (Nat.le_of_ble_eq_true rfl) rfl (pc' := 127) rfl ?_
                  refine wm_if_ne C dX11_widths_127 133 (by decide) (pc' := 130) rfl (fun h38 => ?_) (fun h38 => ?_)
                  · have hf := ite_t h38 hf
                    refine wm_ikonst (v := 0) C dX11_widths_133 (by decide) (pc' := 134) rfl ?_
                    refine wm_istore (lv' := [(7, .int 0), (6, .ref (q (80 + x1.toNatClampNeg))), (0, .ref (q 0)), (1, .int x1), (2, .int x2), (3, .int x3), (4, .int x4), (5, .int x5)]) C dX11_widths_134 (by decide) rfl (pc' := 136) rfl ?_
                    refine wm_sub (lv' := [(0, .ref (q 0)), (3, .int x3), (4, .int x4), (5, .int x5), (6, .ref (q (80 + x1.toNatClampNeg))), (7, .int 0)]) [2, 5, 6, 7, 1, 0] rfl ?_
                    obtain ⟨v46, s47, h48, hf⟩ := bnd_s hf
                    refine wL_136 x3 x4 x5 x1.toNatClampNeg FU 0 s35 v46 s47 h48 ?_
                    refine wm_iload C dX11_widths_172 0 rfl (pc' := 174) rfl ?_
                    obtain ⟨rfl, rfl⟩ := leaf_s hf
                    exact wm_iret C dX11_widths_174 (Nat.zero_le _) (Nat.zero_le _) FD.rf
                  · have hf := ite_f (fun h => h h38) hf
                    refine wm_bipush (v := (-2)) C dX11_widths_130 (by decide) (pc' := 132) rfl ?_
                    obtain ⟨rfl, rfl⟩ := leaf_s hf
                    exact wm_iret C dX11_widths_132 (Nat.zero_le _) (Nat.zero_le _) FD.rf
                · have hf := ite_f h33 hf
                  refine wm_sub (lv' := [(0, .ref (q 0))]) [1] rfl ?_
                  exact wJ_110 s26 hf
            · have hf := ite_f h24 hf
              refine wm_aload_n C dX11_widths_78 1 rfl (pc' := 79) rfl ?_
              refine wm_ikonst (v := 4) C dX11_widths_79 (by decide) (pc' := 80) rfl ?_
              obtain ⟨r49, s50, h51, hf⟩ := bnd_s hf
              refine wm_callVd (nn := 1) (As := [.int 4]) (rest := []) (st' := [.int r49]) C dX11_widths_80 (kX11_faulted l D τ q nc s18 4 r49 s50 h51) gX11_widths_X11_faulted rfl (by decide +kernel) ⟨Nat.le_of_ble_eq_true rfl, Nat.le_of_ble_eq_true rfl⟩ rfl rfl ⟨Nat.zero_le _, Nat.zero_le _⟩ 0 (x_at (by omega) rfl) rfl rfl rfl (Nat.le_of_ble_eq_true rfl) rfl (pc' := 83) rfl ?_
              obtain ⟨rfl, rfl⟩ := leaf_s hf
              exact wm_iret C dX11_widths_83 (Nat.zero_le _) (Nat.zero_le _) FD.rf
          · have hf := ite_f (fun h => h h23) hf
            refine wm_aload_n C dX11_widths_67 1 rfl (pc' := 68) rfl ?_
            refine wm_ikonst (v := 1) C dX11_widths_68 (by decide) (pc' := 69) rfl ?_
            obtain ⟨r52, s53, h54, hf⟩ := bnd_s hf
            refine wm_callVd (nn := 1) (As := [.int 1]) (rest := []) (st' := [.int r52]) C dX11_widths_69 (kX11_faulted l D τ q nc s18 1 r52 s53 h54) gX11_widths_X11_faulted rfl (by decide +kernel) ⟨Nat.le_of_ble_eq_true rfl, Nat.le_of_ble_eq_true rfl⟩ rfl rfl ⟨Nat.zero_le _, Nat.zero_le _⟩ 0 (x_at (by omega) rfl) rfl rfl rfl (Nat.le_of_ble_eq_true rfl) rfl (pc' := 72) rfl ?_
            obtain ⟨rfl, rfl⟩ := leaf_s hf
            exact wm_iret C dX11_widths_72 (Nat.zero_le _) (Nat.zero_le _) FD.rf
        · have hf := ite_f h21 hf
          refine wm_aload_n C dX11_widths_53 1 rfl (pc' := 54) rfl ?_
          refine wm_ikonst (v := 2) C dX11_widths_54 (by decide) (pc' := 55) rfl ?_
          obtain ⟨r55, s56, h57, hf⟩ := bnd_s hf
          refine wm_callVd (nn := 1) (As := [.int 2]) (rest := []) (st' := [.int r55]) C dX11_widths_55 (kX11_faulted l D τ q nc s18 2 r55 s56 h57) gX11_widths_X11_faulted rfl (by decide +kernel) ⟨Nat.le_of_ble_eq_true rfl, Nat.le_of_ble_eq_true rfl⟩ rfl rfl ⟨Nat.zero_le _, Nat.zero_le _⟩ 0 (x_at (by omega) rfl) rfl rfl rfl (Nat.le_of_ble_eq_true rfl) rfl (pc' := 58) rfl ?_
          obtain ⟨rfl, rfl⟩ := leaf_s hf
          exact wm_iret C dX11_widths_58 (Nat.zero_le _) (Nat.zero_le _) FD.rf
      · have hf := ite_f (fun h => h h14) hf
        refine wm_bipush (v := (-2)) C dX11_widths_33 (by decide) (pc' := 35) rfl ?_
        obtain ⟨rfl, rfl⟩ := leaf_s hf
        exact wm_iret C dX11_widths_35 (Nat.zero_le _) (Nat.zero_le _) FD.rf
    · have hf := ite_f (fun h => h h10) hf
      refine wm_ikonst (v := (-1)) C dX11_widths_24 (by decide) (pc' := 25) rfl ?_
      obtain ⟨rfl, rfl⟩ := leaf_s hf
      exact wm_iret C dX11_widths_25 (Nat.zero_le _) (Nat.zero_le _) FD.rf
def fX11_width (nc : Nat) (x1 : Int32) (x2 : Int32) (σ : MS) : Option (Int32 × MS) :=
  bnd (fX5_hasCrack nc x1 σ) (fun r1 s2 => if ¬ r1 = 0 then bnd (fX11_isWithin x2.toInt64 0 12) (fun r5 u6 => if ¬ r5 = 0 then if ¬ (x1 < 0 ∨ 12 ≤ x1.toNatClampNeg) then if x1.toNatClampNeg < nc then if x1.toNatClampNeg < nc then bnd (fX5_setWidth nc x1 x2 s2) (fun r12 s13 => some (gA s2 8 x1.toNatClampNeg, s13)) else none else none else none else some ((-2), s2)) else some ((-1), s2))
theorem in5_X11_width : In5 wsX11_width := ⟨by decide +kernel, by decide +kernel, by decide +kernel, by decide +kernel, by decide +kernel⟩
theorem inX11_X11_width : ∀ w ∈ wsX110, w ∈ wsX11_width := by decide +kernel
theorem inX5_X11_width : ∀ w ∈ wsX50, w ∈ wsX11_width := by decide +kernel
set_option maxHeartbeats 4000000 in
set_option maxRecDepth 100000 in
theorem kX11_width (l : Launch) (D : va_G) (τ : CId) (q : Nat → Nat) (nc : Nat) (σ : MS) (x1 : Int32) (x2 : Int32) (rE : Int32) (sE : MS) (hf : fX11_width nc x1 x2 σ = some (rE, sE)) : Ct l D τ yX11_width wsX11_width { frames := 1, cells := 0, slots := 0, locals := 23 } [.ref (q 0), .int x1, .int x2] (xW τ q nc σ) (FD (xW τ q nc sE) (some (.int rE))) := by
  unfold fX11_width at hf
  refine ct_of (cc := cX11_width) (maxL := 4) (ret := (some .int)) (by decide) rfl (Nat.le_of_ble_eq_true rfl) (fun Γ C => ?_)
  refine wm_lv (lv' := [(0, .ref (q 0)), (1, .int x1), (2, .int x2)]) rfl ?_
  refine wm_aload_n C dX11_width_0 0 rfl (pc' := 1) rfl ?_
  refine x_get (v := .ref (q 60)) C dX11_width_1 inX11_X11_width 0 (by omega) rfl rfl 0 (by decide) (by decide +kernel) (Or.inl rfl) rfl (pc' := 4) rfl ?_
  refine wm_iload_n C dX11_width_4 1 rfl (pc' := 5) rfl ?_
  obtain ⟨r1, s2, h3, hf⟩ := bnd_s hf
  refine wm_callVd (nn := 1) (As := [.int x1]) (rest := []) (st' := [.int r1]) C dX11_width_5 (kX5_hasCrack l D τ q nc σ x1 r1 s2 h3) gX11_width_X5_hasCrack rfl (by decide +kernel) ⟨Nat.le_of_ble_eq_true rfl, Nat.le_of_ble_eq_true rfl⟩ rfl rfl ⟨Nat.zero_le _, Nat.zero_le _⟩ 1 (x_at (by omega) rfl) rfl rfl rfl (Nat.le_of_ble_eq_true rfl) rfl (pc' := 8) rfl ?_
  refine wm_if_ne C dX11_width_8 13 (by decide) (pc' := 11) rfl (fun h4 => ?_) (fun h4 => ?_)
  · have hf := ite_t h4 hf
    refine wm_iload_n C dX11_width_13 2 rfl (pc' := 14) rfl ?_
    refine wm_i2l C dX11_width_14 (pc' := 15) rfl ?_
    refine wm_ikonst (v := 0) C dX11_width_15 (by decide) (pc' := 16) rfl ?_
    refine wm_bipush (v := 12) C dX11_width_16 (by decide) (pc' := 18) rfl ?_
    obtain ⟨r5, u6, h7, hf⟩ := bnd_s hf
    refine wm_callSd (nn := 3) (As := [.long x2.toInt64, .int 0, .int 12]) (rest := []) (st' := [.int r5]) C dX11_width_18 (kX11_isWithin l D τ x2.toInt64 0 12 r5 h7) gX11_width_X11_isWithin rfl (by decide +kernel) ⟨Nat.le_of_ble_eq_true rfl, Nat.le_of_ble_eq_true rfl⟩ rfl rfl ⟨Nat.zero_le _, Nat.zero_le _⟩ rfl rfl (Nat.le_of_ble_eq_true rfl) rfl (pc' := 21) rfl ?_
    refine wm_if_ne C dX11_width_21 27 (by decide) (pc' := 24) rfl (fun h8 => ?_) (fun h8 => ?_)
    · have hf := ite_t h8 hf
      refine wm_aload_n C dX11_width_27 0 rfl (pc' := 28) rfl ?_
      refine x_get (v := .ref (q 60)) C dX11_width_28 inX11_X11_width 0 (by omega) rfl rfl 0 (by decide) (by decide +kernel) (Or.inl rfl) rfl (pc' := 31) rfl ?_
      refine x_get (v := .ref (q 66)) C dX11_width_31 inX5_X11_width 1 (by omega) rfl rfl 2 (by decide) (by decide +kernel) (Or.inl rfl) rfl (pc' := 34) rfl ?_
      refine wm_iload_n C dX11_width_34 1 rfl (pc' := 35) rfl ?_
      obtain ⟨h9, hf⟩ := chk_s hf
      obtain ⟨h10, hf⟩ := chk_s hf
      refine wm_aald (f := refs q 200 nc) (N := 12) (cA := τ.2.2.2.2.1) (ty := .object "WideningCracks$Crack") C dX11_width_35 10 4 (x_at (by omega) rfl) rfl rfl h9 (refs_at h10) (pc' := 36) rfl ?_
      obtain ⟨h11, hf⟩ := chk_s hf
      refine x_getC (ref := "WideningCracks$Crack") (v := .int (gA s2 8 x1.toNatClampNeg)) C dX11_width_36 in5_X11_width h11 3 (by decide) (by decide +kernel) (Or.inl rfl) rfl (pc' := 39) rfl ?_
      refine wm_istore_n (lv' := [(3, .int (gA s2 8 x1.toNatClampNeg)), (0, .ref (q 0)), (1, .int x1), (2, .int x2)]) C dX11_width_39 (by decide) rfl (pc' := 40) rfl ?_
      refine wm_aload_n C dX11_width_40 1 rfl (pc' := 41) rfl ?_
      refine x_get (v := .ref (q 60)) C dX11_width_41 inX11_X11_width 0 (by omega) rfl rfl 0 (by decide) (by decide +kernel) (Or.inl rfl) rfl (pc' := 44) rfl ?_
      refine wm_iload_n C dX11_width_44 2 rfl (pc' := 45) rfl ?_
      refine wm_iload_n C dX11_width_45 3 rfl (pc' := 46) rfl ?_
      obtain ⟨r12, s13, h14, hf⟩ := bnd_s hf
      refine wm_callVd (nn := 2) (As := [.int x1, .int x2]) (rest := []) (st' := []) C dX11_width_46 (kX5_setWidth l D τ q nc s2 x1 x2 s13 h14) gX11_width_X5_setWidth rfl (by decide +kernel) ⟨Nat.le_of_ble_eq_true rfl, Nat.le_of_ble_eq_true rfl⟩ rfl rfl ⟨Nat.zero_le _, Nat.zero_le _⟩ 1 (x_at (by omega) rfl) rfl rfl rfl (Nat.le_of_ble_eq_true rfl) rfl (pc' := 49) rfl ?_
      refine wm_iload_n C dX11_width_49 0 rfl (pc' := 50) rfl ?_
      obtain ⟨rfl, rfl⟩ := leaf_s hf
      exact wm_iret C dX11_width_50 (Nat.zero_le _) (Nat.zero_le _) FD.rf
    · have hf := ite_f (fun h => h h8) hf
      refine wm_bipush (v := (-2)) C dX11_width_24 (by decide) (pc' := 26) rfl ?_
      obtain ⟨rfl, rfl⟩ := leaf_s hf
      exact wm_iret C dX11_width_26 (Nat.zero_le _) (Nat.zero_le _) FD.rf
  · have hf := ite_f (fun h => h h4) hf
    refine wm_ikonst (v := (-1)) C dX11_width_11 (by decide) (pc' := 12) rfl ?_
    obtain ⟨rfl, rfl⟩ := leaf_s hf
    exact wm_iret C dX11_width_12 (Nat.zero_le _) (Nat.zero_le _) FD.rf
def fX11_about (nc : Nat) (x1 : Int32) (x2 : Int32) (σ : MS) : Option (Int32 × MS) :=
  bnd (fX5_hasCrack nc x1 σ) (fun r1 s2 => if ¬ r1 = 0 then if ¬ (x1 < 0 ∨ 12 ≤ x1.toNatClampNeg) then if x1.toNatClampNeg < nc then if x2 = 0 then if x1.toNatClampNeg < nc then some (gA s2 5 x1.toNatClampNeg, s2) else none else if x2 = 1 then if x1.toNatClampNeg < nc then some (gA s2 6 x1.toNatClampNeg, s2) else none else if x2 = 2 then if x1.toNatClampNeg < nc then bnd (vX_kind nc x1.toNatClampNeg s2) (fun r12 s13 => some (r12, s13)) else none else if x2 = 3 then if x1.toNatClampNeg < nc then some (gA s2 8 x1.toNatClampNeg, s2) else none else if x2 = 4 then if x1.toNatClampNeg < nc then some (gA s2 9 x1.toNatClampNeg, s2) else none else if x2 = 5 then if x1.toNatClampNeg < nc then some (gA s2 10 x1.toNatClampNeg, s2) else none else if x2 = 6 then if x1.toNatClampNeg < nc then bnd (vX_lets nc x1.toNatClampNeg s2) (fun r24 s25 => some (r24, s25)) else none else some ((-2), s2) else none else none else some ((-1), s2))
theorem in5_X11_about : In5 wsX11_about := ⟨by decide +kernel, by decide +kernel, by decide +kernel, by decide +kernel, by decide +kernel⟩
theorem inX11_X11_about : ∀ w ∈ wsX110, w ∈ wsX11_about := by decide +kernel
theorem inX5_X11_about : ∀ w ∈ wsX50, w ∈ wsX11_about := by decide +kernel
set_option maxHeartbeats 4000000 in
set_option maxRecDepth 100000 in
theorem kX11_about (l : Launch) (D : va_G) (τ : CId) (q : Nat → Nat) (nc : Nat) (σ : MS) (x1 : Int32) (x2 : Int32) (rE : Int32) (sE : MS) (hf : fX11_about nc x1 x2 σ = some (rE, sE)) : Ct l D τ yX11_about wsX11_about { frames := 1, cells := 0, slots := 0, locals := 21 } [.ref (q 0), .int x1, .int x2] (xW τ q nc σ) (FD (xW τ q nc sE) (some (.int rE))) := by
  unfold fX11_about at hf
  refine ct_of (cc := cX11_about) (maxL := 4) (ret := (some .int)) (by decide) rfl (Nat.le_of_ble_eq_true rfl) (fun Γ C => ?_)
  refine wm_lv (lv' := [(0, .ref (q 0)), (1, .int x1), (2, .int x2)]) rfl ?_
  refine wm_aload_n C dX11_about_0 0 rfl (pc' := 1) rfl ?_
  refine x_get (v := .ref (q 60)) C dX11_about_1 inX11_X11_about 0 (by omega) rfl rfl 0 (by decide) (by decide +kernel) (Or.inl rfl) rfl (pc' := 4) rfl ?_
  refine wm_iload_n C dX11_about_4 1 rfl (pc' := 5) rfl ?_
  obtain ⟨r1, s2, h3, hf⟩ := bnd_s hf
  refine wm_callVd (nn := 1) (As := [.int x1]) (rest := []) (st' := [.int r1]) C dX11_about_5 (kX5_hasCrack l D τ q nc σ x1 r1 s2 h3) gX11_about_X5_hasCrack rfl (by decide +kernel) ⟨Nat.le_of_ble_eq_true rfl, Nat.le_of_ble_eq_true rfl⟩ rfl rfl ⟨Nat.zero_le _, Nat.zero_le _⟩ 1 (x_at (by omega) rfl) rfl rfl rfl (Nat.le_of_ble_eq_true rfl) rfl (pc' := 8) rfl ?_
  refine wm_if_ne C dX11_about_8 13 (by decide) (pc' := 11) rfl (fun h4 => ?_) (fun h4 => ?_)
  · have hf := ite_t h4 hf
    refine wm_aload_n C dX11_about_13 0 rfl (pc' := 14) rfl ?_
    refine x_get (v := .ref (q 60)) C dX11_about_14 inX11_X11_about 0 (by omega) rfl rfl 0 (by decide) (by decide +kernel) (Or.inl rfl) rfl (pc' := 17) rfl ?_
    refine x_get (v := .ref (q 66)) C dX11_about_17 inX5_X11_about 1 (by omega) rfl rfl 2 (by decide) (by decide +kernel) (Or.inl rfl) rfl (pc' := 20) rfl ?_
    refine wm_iload_n C dX11_about_20 1 rfl (pc' := 21) rfl ?_
    obtain ⟨h5, hf⟩ := chk_s hf
    obtain ⟨h6, hf⟩ := chk_s hf
    refine wm_aald (f := refs q 200 nc) (N := 12) (cA := τ.2.2.2.2.1) (ty := .object "WideningCracks$Crack") C dX11_about_21 10 4 (x_at (by omega) rfl) rfl rfl h5 (refs_at h6) (pc' := 22) rfl ?_
    refine wm_astore_n (lv' := [(3, .ref (q (200 + x1.toNatClampNeg))), (0, .ref (q 0)), (1, .int x1), (2, .int x2)]) C dX11_about_22 (by decide) rfl (pc' := 23) rfl ?_
    refine wm_iload_n C dX11_about_23 3 rfl (pc' := 24) rfl ?_
    by_cases h7 : x2 = 0
    · have hf := ite_t h7 hf
      refine wm_tableIn (off := 44) C dX11_about_24 (by rw [h7]; decide) (by rw [h7]; decide) (by rw [h7]; rfl) 68 (by decide) ?_
      refine wm_aload_n C dX11_about_68 0 rfl (pc' := 69) rfl ?_
      obtain ⟨h8, hf⟩ := chk_s hf
      refine x_getC (ref := "WideningCracks$Crack") (v := .int (gA s2 5 x1.toNatClampNeg)) C dX11_about_69 in5_X11_about h8 0 (by decide) (by decide +kernel) (Or.inl rfl) rfl (pc' := 72) rfl ?_
      obtain ⟨rfl, rfl⟩ := leaf_s hf
      exact wm_iret C dX11_about_72 (Nat.zero_le _) (Nat.zero_le _) FD.rf
    · have hf := ite_f h7 hf
      by_cases h9 : x2 = 1
      · have hf := ite_t h9 hf
        refine wm_tableIn (off := 49) C dX11_about_24 (by rw [h9]; decide) (by rw [h9]; decide) (by rw [h9]; rfl) 73 (by decide) ?_
        refine wm_aload_n C dX11_about_73 0 rfl (pc' := 74) rfl ?_
        obtain ⟨h10, hf⟩ := chk_s hf
        refine x_getC (ref := "WideningCracks$Crack") (v := .int (gA s2 6 x1.toNatClampNeg)) C dX11_about_74 in5_X11_about h10 1 (by decide) (by decide +kernel) (Or.inl rfl) rfl (pc' := 77) rfl ?_
        obtain ⟨rfl, rfl⟩ := leaf_s hf
        exact wm_iret C dX11_about_77 (Nat.zero_le _) (Nat.zero_le _) FD.rf
      · have hf := ite_f h9 hf
        by_cases h11 : x2 = 2
        · have hf := ite_t h11 hf
          refine wm_tableIn (off := 54) C dX11_about_24 (by rw [h11]; decide) (by rw [h11]; decide) (by rw [h11]; rfl) 78 (by decide) ?_
          refine wm_aload_n C dX11_about_78 0 rfl (pc' := 79) rfl ?_
          obtain ⟨h15, hf⟩ := chk_s hf
          obtain ⟨r12, s13, h14, hf⟩ := bnd_s hf
          have K16 : WM l D Γ 4 0 0 (xW τ q nc s13) 82 [(3, .ref (q (200 + x1.toNatClampNeg))), (0, .ref (q 0)), (1, .int x1), (2, .int x2)] [.int r12] := by
            obtain ⟨rfl, rfl⟩ := leaf_s hf
            exact wm_iret C dX11_about_82 (Nat.zero_le _) (Nat.zero_le _) FD.rf
          unfold vX_kind at h14
          rcases kci5 (gA s2 7 x1.toNatClampNeg) with ⟨k1, kk⟩ | ⟨n1, k2, kk⟩ | ⟨n1, n2, k3, kk⟩ | ⟨n1, n2, n3, k4, kk⟩ | ⟨n1, n2, n3, n4, kk⟩
          · exact wm_callC (nn := 0) (As := []) (rest := []) (st' := [.int r12]) C dX11_about_79 (kX10_kind l D τ q nc x1.toNatClampNeg s2 r12 s13 (ite_t k1 h14)) (cw_O gX11_about_X10_kind_u153X10 rfl (b0 := cX2_kind) (m0 := 1) (r0 := (some .int)) (by decide +kernel) (by decide +kernel) ⟨Nat.le_of_ble_eq_true rfl, Nat.le_of_ble_eq_true rfl⟩) rfl rfl ⟨Nat.zero_le _, Nat.zero_le _⟩ (49 + x1.toNatClampNeg) (x_crackAt h15 kk) rfl rfl rfl (Nat.le_of_ble_eq_true rfl) rfl (pc' := 82) rfl K16
          · exact wm_callC (nn := 0) (As := []) (rest := []) (st' := [.int r12]) C dX11_about_79 (kX0_kind l D τ q nc x1.toNatClampNeg s2 r12 s13 (ite_t k2 (ite_f n1 h14))) (cw_O gX11_about_X0_kind_u153X0 rfl (b0 := cX2_kind) (m0 := 1) (r0 := (some .int)) (by decide +kernel) (by decide +kernel) ⟨Nat.le_of_ble_eq_true rfl, Nat.le_of_ble_eq_true rfl⟩) rfl rfl ⟨Nat.zero_le _, Nat.zero_le _⟩ (49 + x1.toNatClampNeg) (x_crackAt h15 kk) rfl rfl rfl (Nat.le_of_ble_eq_true rfl) rfl (pc' := 82) rfl K16
          · exact wm_callC (nn := 0) (As := []) (rest := []) (st' := [.int r12]) C dX11_about_79 (kX3_kind l D τ q nc x1.toNatClampNeg s2 r12 s13 (ite_t k3 (ite_f n2 (ite_f n1 h14)))) (cw_O gX11_about_X3_kind_u153X3 rfl (b0 := cX2_kind) (m0 := 1) (r0 := (some .int)) (by decide +kernel) (by decide +kernel) ⟨Nat.le_of_ble_eq_true rfl, Nat.le_of_ble_eq_true rfl⟩) rfl rfl ⟨Nat.zero_le _, Nat.zero_le _⟩ (49 + x1.toNatClampNeg) (x_crackAt h15 kk) rfl rfl rfl (Nat.le_of_ble_eq_true rfl) rfl (pc' := 82) rfl K16
          · exact wm_callC (nn := 0) (As := []) (rest := []) (st' := [.int r12]) C dX11_about_79 (kX7_kind l D τ q nc x1.toNatClampNeg s2 r12 s13 (ite_t k4 (ite_f n3 (ite_f n2 (ite_f n1 h14))))) (cw_O gX11_about_X7_kind_u153X7 rfl (b0 := cX2_kind) (m0 := 1) (r0 := (some .int)) (by decide +kernel) (by decide +kernel) ⟨Nat.le_of_ble_eq_true rfl, Nat.le_of_ble_eq_true rfl⟩) rfl rfl ⟨Nat.zero_le _, Nat.zero_le _⟩ (49 + x1.toNatClampNeg) (x_crackAt h15 kk) rfl rfl rfl (Nat.le_of_ble_eq_true rfl) rfl (pc' := 82) rfl K16
          · exact wm_callVd (nn := 0) (As := []) (rest := []) (st' := [.int r12]) C dX11_about_79 (kX2_kind l D τ q nc x1.toNatClampNeg s2 r12 s13 (ite_f n4 (ite_f n3 (ite_f n2 (ite_f n1 h14))))) gX11_about_X2_kind rfl (by decide +kernel) ⟨Nat.le_of_ble_eq_true rfl, Nat.le_of_ble_eq_true rfl⟩ rfl rfl ⟨Nat.zero_le _, Nat.zero_le _⟩ (49 + x1.toNatClampNeg) (x_crackAt h15 kk) rfl rfl rfl (Nat.le_of_ble_eq_true rfl) rfl (pc' := 82) rfl K16
        · have hf := ite_f h11 hf
          by_cases h17 : x2 = 3
          · have hf := ite_t h17 hf
            refine wm_tableIn (off := 59) C dX11_about_24 (by rw [h17]; decide) (by rw [h17]; decide) (by rw [h17]; rfl) 83 (by decide) ?_
            refine wm_aload_n C dX11_about_83 0 rfl (pc' := 84) rfl ?_
            obtain ⟨h18, hf⟩ := chk_s hf
            refine x_getC (ref := "WideningCracks$Crack") (v := .int (gA s2 8 x1.toNatClampNeg)) C dX11_about_84 in5_X11_about h18 3 (by decide) (by decide +kernel) (Or.inl rfl) rfl (pc' := 87) rfl ?_
            obtain ⟨rfl, rfl⟩ := leaf_s hf
            exact wm_iret C dX11_about_87 (Nat.zero_le _) (Nat.zero_le _) FD.rf
          · have hf := ite_f h17 hf
            by_cases h19 : x2 = 4
            · have hf := ite_t h19 hf
              refine wm_tableIn (off := 64) C dX11_about_24 (by rw [h19]; decide) (by rw [h19]; decide) (by rw [h19]; rfl) 88 (by decide) ?_
              refine wm_aload_n C dX11_about_88 0 rfl (pc' := 89) rfl ?_
              obtain ⟨h20, hf⟩ := chk_s hf
              refine x_getC (ref := "WideningCracks$Crack") (v := .int (gA s2 9 x1.toNatClampNeg)) C dX11_about_89 in5_X11_about h20 2 (by decide) (by decide +kernel) (Or.inl rfl) rfl (pc' := 92) rfl ?_
              obtain ⟨rfl, rfl⟩ := leaf_s hf
              exact wm_iret C dX11_about_92 (Nat.zero_le _) (Nat.zero_le _) FD.rf
            · have hf := ite_f h19 hf
              by_cases h21 : x2 = 5
              · have hf := ite_t h21 hf
                refine wm_tableIn (off := 69) C dX11_about_24 (by rw [h21]; decide) (by rw [h21]; decide) (by rw [h21]; rfl) 93 (by decide) ?_
                refine wm_aload_n C dX11_about_93 0 rfl (pc' := 94) rfl ?_
                obtain ⟨h22, hf⟩ := chk_s hf
                refine x_getC (ref := "WideningCracks$Crack") (v := .int (gA s2 10 x1.toNatClampNeg)) C dX11_about_94 in5_X11_about h22 4 (by decide) (by decide +kernel) (Or.inl rfl) rfl (pc' := 97) rfl ?_
                obtain ⟨rfl, rfl⟩ := leaf_s hf
                exact wm_iret C dX11_about_97 (Nat.zero_le _) (Nat.zero_le _) FD.rf
              · have hf := ite_f h21 hf
                by_cases h23 : x2 = 6
                · have hf := ite_t h23 hf
                  refine wm_tableIn (off := 74) C dX11_about_24 (by rw [h23]; decide) (by rw [h23]; decide) (by rw [h23]; rfl) 98 (by decide) ?_
                  refine wm_aload_n C dX11_about_98 0 rfl (pc' := 99) rfl ?_
                  obtain ⟨h27, hf⟩ := chk_s hf
                  obtain ⟨r24, s25, h26, hf⟩ := bnd_s hf
                  have K28 : WM l D Γ 4 0 0 (xW τ q nc s25) 102 [(3, .ref (q (200 + x1.toNatClampNeg))), (0, .ref (q 0)), (1, .int x1), (2, .int x2)] [.int r24] := by
                    obtain ⟨rfl, rfl⟩ := leaf_s hf
                    exact wm_iret C dX11_about_102 (Nat.zero_le _) (Nat.zero_le _) FD.rf
                  unfold vX_lets at h26
                  rcases kci5 (gA s2 7 x1.toNatClampNeg) with ⟨k1, kk⟩ | ⟨n1, k2, kk⟩ | ⟨n1, n2, k3, kk⟩ | ⟨n1, n2, n3, k4, kk⟩ | ⟨n1, n2, n3, n4, kk⟩
                  · exact wm_callC (nn := 0) (As := []) (rest := []) (st' := [.int r24]) C dX11_about_99 (kX10_lets l D τ q nc x1.toNatClampNeg s2 r24 s25 (ite_t k1 h26)) (cw_O gX11_about_X10_lets_u162X10 rfl (b0 := cX2_lets) (m0 := 1) (r0 := (some .int)) (by decide +kernel) (by decide +kernel) ⟨Nat.le_of_ble_eq_true rfl, Nat.le_of_ble_eq_true rfl⟩) rfl rfl ⟨Nat.zero_le _, Nat.zero_le _⟩ (49 + x1.toNatClampNeg) (x_crackAt h27 kk) rfl rfl rfl (Nat.le_of_ble_eq_true rfl) rfl (pc' := 102) rfl K28
                  · exact wm_callC (nn := 0) (As := []) (rest := []) (st' := [.int r24]) C dX11_about_99 (kX2_lets l D τ q nc x1.toNatClampNeg s2 r24 s25 (ite_t k2 (ite_f n1 h26))) (cw_U gX11_about_X2_lets_u162X0 rfl rfl (by decide +kernel) ⟨Nat.le_of_ble_eq_true rfl, Nat.le_of_ble_eq_true rfl⟩) rfl rfl ⟨Nat.zero_le _, Nat.zero_le _⟩ (49 + x1.toNatClampNeg) (x_crackAt h27 kk) rfl rfl rfl (Nat.le_of_ble_eq_true rfl) rfl (pc' := 102) rfl K28
                  · exact wm_callC (nn := 0) (As := []) (rest := []) (st' := [.int r24]) C dX11_about_99 (kX10_lets l D τ q nc x1.toNatClampNeg s2 r24 s25 (ite_t k3 (ite_f n2 (ite_f n1 h26)))) (cw_O gX11_about_X10_lets_u162X3 rfl (b0 := cX2_lets) (m0 := 1) (r0 := (some .int)) (by decide +kernel) (by decide +kernel) ⟨Nat.le_of_ble_eq_true rfl, Nat.le_of_ble_eq_true rfl⟩) rfl rfl ⟨Nat.zero_le _, Nat.zero_le _⟩ (49 + x1.toNatClampNeg) (x_crackAt h27 kk) rfl rfl rfl (Nat.le_of_ble_eq_true rfl) rfl (pc' := 102) rfl K28
                  · exact wm_callC (nn := 0) (As := []) (rest := []) (st' := [.int r24]) C dX11_about_99 (kX10_lets l D τ q nc x1.toNatClampNeg s2 r24 s25 (ite_t k4 (ite_f n3 (ite_f n2 (ite_f n1 h26))))) (cw_O gX11_about_X10_lets_u162X7 rfl (b0 := cX2_lets) (m0 := 1) (r0 := (some .int)) (by decide +kernel) (by decide +kernel) ⟨Nat.le_of_ble_eq_true rfl, Nat.le_of_ble_eq_true rfl⟩) rfl rfl ⟨Nat.zero_le _, Nat.zero_le _⟩ (49 + x1.toNatClampNeg) (x_crackAt h27 kk) rfl rfl rfl (Nat.le_of_ble_eq_true rfl) rfl (pc' := 102) rfl K28
                  · exact wm_callVd (nn := 0) (As := []) (rest := []) (st' := [.int r24]) C dX11_about_99 (kX2_lets l D τ q nc x1.toNatClampNeg s2 r24 s25 (ite_f n4 (ite_f n3 (ite_f n2 (ite_f n1 h26))))) gX11_about_X2_lets rfl (by decide +kernel) ⟨Nat.le_of_ble_eq_true rfl, Nat.le_of_ble_eq_true rfl⟩ rfl rfl ⟨Nat.zero_le _, Nat.zero_le _⟩ (49 + x1.toNatClampNeg) (x_crackAt h27 kk) rfl rfl rfl (Nat.le_of_ble_eq_true rfl) rfl (pc' := 102) rfl K28
                · have hf := ite_f h23 hf
                  refine wm_tableOut C dX11_about_24 (by have a0 := i32_ne (h7); have a1 := i32_ne (h9); have a2 := i32_ne (h11); have a3 := i32_ne (h17); have a4 := i32_ne (h19); have a5 := i32_ne (h21); have a6 := i32_ne (h23); rw [show (0 : Int32).toInt = 0 from by decide] at a0; rw [show (1 : Int32).toInt = 1 from by decide] at a1; rw [show (2 : Int32).toInt = 2 from by decide] at a2; rw [show (3 : Int32).toInt = 3 from by decide] at a3; rw [show (4 : Int32).toInt = 4 from by decide] at a4; rw [show (5 : Int32).toInt = 5 from by decide] at a5; rw [show (6 : Int32).toInt = 6 from by decide] at a6; omega) 103 (by decide) ?_
                  refine wm_bipush (v := (-2)) C dX11_about_103 (by decide) (pc' := 105) rfl ?_
                  obtain ⟨rfl, rfl⟩ := leaf_s hf
                  exact wm_iret C dX11_about_105 (Nat.zero_le _) (Nat.zero_le _) FD.rf
  · have hf := ite_f (fun h => h h4) hf
    refine wm_ikonst (v := (-1)) C dX11_about_11 (by decide) (pc' := 12) rfl ?_
    obtain ⟨rfl, rfl⟩ := leaf_s hf
    exact wm_iret C dX11_about_12 (Nat.zero_le _) (Nat.zero_le _) FD.rf
def fX11_at (nc : Nat) (x1 : Int32) (x2 : Int32) (σ : MS) : Option (Int32 × MS) :=
  bnd (fX5_hasJoint nc x1 σ) (fun r1 s2 => if ¬ r1 = 0 then if x2 = 0 then if ¬ (x1 < 0 ∨ 6 ≤ x1.toNatClampNeg) then if (gA s2 2 x1.toNatClampNeg) = 0 then some (0, s2) else some (1, s2) else none else if x2 = 1 then if ¬ (x1 < 0 ∨ 6 ≤ x1.toNatClampNeg) then if (gA s2 2 x1.toNatClampNeg) = 0 then some ((-9), s2) else if ¬ (x1 < 0 ∨ 6 ≤ x1.toNatClampNeg) then some (gA s2 3 x1.toNatClampNeg, s2) else none else none else if x2 = 2 then bnd (fX8_isDry nc x1 s2) (fun r13 s14 => if r13 = 0 then some (0, s14) else some (1, s14)) else if x2 = 3 then bnd (fX5_openAt nc x1 s2) (fun r18 s19 => some (r18, s19)) else some ((-2), s2) else some ((-1), s2))
theorem inX11_X11_at : ∀ w ∈ wsX110, w ∈ wsX11_at := by decide +kernel
theorem inX5_X11_at : ∀ w ∈ wsX50, w ∈ wsX11_at := by decide +kernel
set_option maxHeartbeats 4000000 in
set_option maxRecDepth 100000 in
theorem kX11_at (l : Launch) (D : va_G) (τ : CId) (q : Nat → Nat) (nc : Nat) (σ : MS) (x1 : Int32) (x2 : Int32) (rE : Int32) (sE : MS) (hf : fX11_at nc x1 x2 σ = some (rE, sE)) : Ct l D τ yX11_at wsX11_at { frames := 4, cells := 0, slots := 0, locals := 93 } [.ref (q 0), .int x1, .int x2] (xW τ q nc σ) (FD (xW τ q nc sE) (some (.int rE))) := by
  unfold fX11_at at hf
  refine ct_of (cc := cX11_at) (maxL := 3) (ret := (some .int)) (by decide) rfl (Nat.le_of_ble_eq_true rfl) (fun Γ C => ?_)
  refine wm_lv (lv' := [(0, .ref (q 0)), (1, .int x1), (2, .int x2)]) rfl ?_
  refine wm_aload_n C dX11_at_0 0 rfl (pc' := 1) rfl ?_
  refine x_get (v := .ref (q 60)) C dX11_at_1 inX11_X11_at 0 (by omega) rfl rfl 0 (by decide) (by decide +kernel) (Or.inl rfl) rfl (pc' := 4) rfl ?_
  refine wm_iload_n C dX11_at_4 1 rfl (pc' := 5) rfl ?_
  obtain ⟨r1, s2, h3, hf⟩ := bnd_s hf
  refine wm_callVd (nn := 1) (As := [.int x1]) (rest := []) (st' := [.int r1]) C dX11_at_5 (kX5_hasJoint l D τ q nc σ x1 r1 s2 h3) gX11_at_X5_hasJoint rfl (by decide +kernel) ⟨Nat.le_of_ble_eq_true rfl, Nat.le_of_ble_eq_true rfl⟩ rfl rfl ⟨Nat.zero_le _, Nat.zero_le _⟩ 1 (x_at (by omega) rfl) rfl rfl rfl (Nat.le_of_ble_eq_true rfl) rfl (pc' := 8) rfl ?_
  refine wm_if_ne C dX11_at_8 13 (by decide) (pc' := 11) rfl (fun h4 => ?_) (fun h4 => ?_)
  · have hf := ite_t h4 hf
    refine wm_iload_n C dX11_at_13 2 rfl (pc' := 14) rfl ?_
    by_cases h5 : x2 = 0
    · have hf := ite_t h5 hf
      refine wm_tableIn (off := 30) C dX11_at_14 (by rw [h5]; decide) (by rw [h5]; decide) (by rw [h5]; rfl) 44 (by decide) ?_
      refine wm_aload_n C dX11_at_44 0 rfl (pc' := 45) rfl ?_
      refine x_get (v := .ref (q 60)) C dX11_at_45 inX11_X11_at 0 (by omega) rfl rfl 0 (by decide) (by decide +kernel) (Or.inl rfl) rfl (pc' := 48) rfl ?_
      refine x_get (v := .ref (q 2)) C dX11_at_48 inX5_X11_at 1 (by omega) rfl rfl 0 (by decide) (by decide +kernel) (Or.inl rfl) rfl (pc' := 51) rfl ?_
      refine wm_iload_n C dX11_at_51 1 rfl (pc' := 52) rfl ?_
      obtain ⟨h6, hf⟩ := chk_s hf
      refine wm_zald (f := gA s2 2) (N := 6) (cA := τ.2.2.1) C dX11_at_52 8 (x_at (by omega) rfl) rfl h6 (pc' := 53) rfl ?_
      refine wm_if_eq C dX11_at_53 60 (by decide) (pc' := 56) rfl (fun h7 => ?_) (fun h7 => ?_)
      · have hf := ite_t h7 hf
        refine wm_ikonst (v := 0) C dX11_at_60 (by decide) (pc' := 61) rfl ?_
        obtain ⟨rfl, rfl⟩ := leaf_s hf
        exact wm_iret C dX11_at_61 (Nat.zero_le _) (Nat.zero_le _) FD.rf
      · have hf := ite_f h7 hf
        refine wm_ikonst (v := 1) C dX11_at_56 (by decide) (pc' := 57) rfl ?_
        refine wm_goto C dX11_at_57 61 (by decide) ?_
        obtain ⟨rfl, rfl⟩ := leaf_s hf
        exact wm_iret C dX11_at_61 (Nat.zero_le _) (Nat.zero_le _) FD.rf
    · have hf := ite_f h5 hf
      by_cases h8 : x2 = 1
      · have hf := ite_t h8 hf
        refine wm_tableIn (off := 48) C dX11_at_14 (by rw [h8]; decide) (by rw [h8]; decide) (by rw [h8]; rfl) 62 (by decide) ?_
        refine wm_aload_n C dX11_at_62 0 rfl (pc' := 63) rfl ?_
        refine x_get (v := .ref (q 60)) C dX11_at_63 inX11_X11_at 0 (by omega) rfl rfl 0 (by decide) (by decide +kernel) (Or.inl rfl) rfl (pc' := 66) rfl ?_
        refine x_get (v := .ref (q 2)) C dX11_at_66 inX5_X11_at 1 (by omega) rfl rfl 0 (by decide) (by decide +kernel) (Or.inl rfl) rfl (pc' := 69) rfl ?_
        refine wm_iload_n C dX11_at_69 1 rfl (pc' := 70) rfl ?_
        obtain ⟨h9, hf⟩ := chk_s hf
        refine wm_zald (f := gA s2 2) (N := 6) (cA := τ.2.2.1) C dX11_at_70 8 (x_at (by omega) rfl) rfl h9 (pc' := 71) rfl ?_
        refine wm_if_eq C dX11_at_71 86 (by decide) (pc' := 74) rfl (fun h10 => ?_) (fun h10 => ?_)
        · have hf := ite_t h10 hf
          refine wm_bipush (v := (-9)) C dX11_at_86 (by decide) (pc' := 88) rfl ?_
          obtain ⟨rfl, rfl⟩ := leaf_s hf
          exact wm_iret C dX11_at_88 (Nat.zero_le _) (Nat.zero_le _) FD.rf
        · have hf := ite_f h10 hf
          refine wm_aload_n C dX11_at_74 0 rfl (pc' := 75) rfl ?_
          refine x_get (v := .ref (q 60)) C dX11_at_75 inX11_X11_at 0 (by omega) rfl rfl 0 (by decide) (by decide +kernel) (Or.inl rfl) rfl (pc' := 78) rfl ?_
          refine x_get (v := .ref (q 3)) C dX11_at_78 inX5_X11_at 1 (by omega) rfl rfl 1 (by decide) (by decide +kernel) (Or.inl rfl) rfl (pc' := 81) rfl ?_
          refine wm_iload_n C dX11_at_81 1 rfl (pc' := 82) rfl ?_
          obtain ⟨h11, hf⟩ := chk_s hf
          refine wm_iald (f := gA s2 3) (N := 6) (cA := τ.1) C dX11_at_82 9 (x_at (by omega) rfl) rfl h11 (pc' := 83) rfl ?_
          refine wm_goto C dX11_at_83 88 (by decide) ?_
          obtain ⟨rfl, rfl⟩ := leaf_s hf
          exact wm_iret C dX11_at_88 (Nat.zero_le _) (Nat.zero_le _) FD.rf
      · have hf := ite_f h8 hf
        by_cases h12 : x2 = 2
        · have hf := ite_t h12 hf
          refine wm_tableIn (off := 75) C dX11_at_14 (by rw [h12]; decide) (by rw [h12]; decide) (by rw [h12]; rfl) 89 (by decide) ?_
          refine wm_aload_n C dX11_at_89 0 rfl (pc' := 90) rfl ?_
          refine x_get (v := .ref (q 61)) C dX11_at_90 inX11_X11_at 0 (by omega) rfl rfl 1 (by decide) (by decide +kernel) (Or.inl rfl) rfl (pc' := 93) rfl ?_
          refine wm_iload_n C dX11_at_93 1 rfl (pc' := 94) rfl ?_
          obtain ⟨r13, s14, h15, hf⟩ := bnd_s hf
          refine wm_callVd (nn := 1) (As := [.int x1]) (rest := []) (st' := [.int r13]) C dX11_at_94 (kX8_isDry l D τ q nc s2 x1 r13 s14 h15) gX11_at_X8_isDry rfl (by decide +kernel) ⟨Nat.le_of_ble_eq_true rfl, Nat.le_of_ble_eq_true rfl⟩ rfl rfl ⟨Nat.zero_le _, Nat.zero_le _⟩ 2 (x_at (by omega) rfl) rfl rfl rfl (Nat.le_of_ble_eq_true rfl) rfl (pc' := 97) rfl ?_
          refine wm_if_eq C dX11_at_97 104 (by decide) (pc' := 100) rfl (fun h16 => ?_) (fun h16 => ?_)
          · have hf := ite_t h16 hf
            refine wm_ikonst (v := 0) C dX11_at_104 (by decide) (pc' := 105) rfl ?_
            obtain ⟨rfl, rfl⟩ := leaf_s hf
            exact wm_iret C dX11_at_105 (Nat.zero_le _) (Nat.zero_le _) FD.rf
          · have hf := ite_f h16 hf
            refine wm_ikonst (v := 1) C dX11_at_100 (by decide) (pc' := 101) rfl ?_
            refine wm_goto C dX11_at_101 105 (by decide) ?_
            obtain ⟨rfl, rfl⟩ := leaf_s hf
            exact wm_iret C dX11_at_105 (Nat.zero_le _) (Nat.zero_le _) FD.rf
        · have hf := ite_f h12 hf
          by_cases h17 : x2 = 3
          · have hf := ite_t h17 hf
            refine wm_tableIn (off := 92) C dX11_at_14 (by rw [h17]; decide) (by rw [h17]; decide) (by rw [h17]; rfl) 106 (by decide) ?_
            refine wm_aload_n C dX11_at_106 0 rfl (pc' := 107) rfl ?_
            refine x_get (v := .ref (q 60)) C dX11_at_107 inX11_X11_at 0 (by omega) rfl rfl 0 (by decide) (by decide +kernel) (Or.inl rfl) rfl (pc' := 110) rfl ?_
            refine wm_iload_n C dX11_at_110 1 rfl (pc' := 111) rfl ?_
            obtain ⟨r18, s19, h20, hf⟩ := bnd_s hf
            refine wm_callVd (nn := 1) (As := [.int x1]) (rest := []) (st' := [.int r18]) C dX11_at_111 (kX5_openAt l D τ q nc s2 x1 r18 s19 h20) gX11_at_X5_openAt rfl (by decide +kernel) ⟨Nat.le_of_ble_eq_true rfl, Nat.le_of_ble_eq_true rfl⟩ rfl rfl ⟨Nat.zero_le _, Nat.zero_le _⟩ 1 (x_at (by omega) rfl) rfl rfl rfl (Nat.le_of_ble_eq_true rfl) rfl (pc' := 114) rfl ?_
            obtain ⟨rfl, rfl⟩ := leaf_s hf
            exact wm_iret C dX11_at_114 (Nat.zero_le _) (Nat.zero_le _) FD.rf
          · have hf := ite_f h17 hf
            refine wm_tableOut C dX11_at_14 (by have a0 := i32_ne (h5); have a1 := i32_ne (h8); have a2 := i32_ne (h12); have a3 := i32_ne (h17); rw [show (0 : Int32).toInt = 0 from by decide] at a0; rw [show (1 : Int32).toInt = 1 from by decide] at a1; rw [show (2 : Int32).toInt = 2 from by decide] at a2; rw [show (3 : Int32).toInt = 3 from by decide] at a3; omega) 115 (by decide) ?_
            refine wm_bipush (v := (-2)) C dX11_at_115 (by decide) (pc' := 117) rfl ?_
            obtain ⟨rfl, rfl⟩ := leaf_s hf
            exact wm_iret C dX11_at_117 (Nat.zero_le _) (Nat.zero_le _) FD.rf
  · have hf := ite_f (fun h => h h4) hf
    refine wm_ikonst (v := (-1)) C dX11_at_11 (by decide) (pc' := 12) rfl ?_
    obtain ⟨rfl, rfl⟩ := leaf_s hf
    exact wm_iret C dX11_at_12 (Nat.zero_le _) (Nat.zero_le _) FD.rf
def fX11_head (nc : Nat) (x1 : Int32) (x2 : Int32) (σ : MS) : Option (Int64 × MS) :=
  bnd (fX5_hasJoint nc x1 σ) (fun r1 s2 => if r1 = 0 then some ((-9223372036854775808), s2) else bnd (fX11_isPart x2) (fun r5 u6 => if r5 = 0 then some ((-9223372036854775808), s2) else bnd (fX8_isDry nc x1 s2) (fun r9 s10 => if r9 = 0 then bnd (fX8_headPart nc x1 x2 s10) (fun r13 s14 => some (r13, s14)) else some ((-9223372036854775808), s10))))
theorem inX11_X11_head : ∀ w ∈ wsX110, w ∈ wsX11_head := by decide +kernel
set_option maxHeartbeats 4000000 in
set_option maxRecDepth 100000 in
theorem kX11_head (l : Launch) (D : va_G) (τ : CId) (q : Nat → Nat) (nc : Nat) (σ : MS) (x1 : Int32) (x2 : Int32) (rE : Int64) (sE : MS) (hf : fX11_head nc x1 x2 σ = some (rE, sE)) : Ct l D τ yX11_head wsX11_head { frames := 4, cells := 0, slots := 0, locals := 94 } [.ref (q 0), .int x1, .int x2] (xW τ q nc σ) (FD (xW τ q nc sE) (some (.long rE))) := by
  unfold fX11_head at hf
  refine ct_of (cc := cX11_head) (maxL := 3) (ret := (some .long)) (by decide) rfl (Nat.le_of_ble_eq_true rfl) (fun Γ C => ?_)
  refine wm_lv (lv' := [(0, .ref (q 0)), (1, .int x1), (2, .int x2)]) rfl ?_
  refine wm_aload_n C dX11_head_0 0 rfl (pc' := 1) rfl ?_
  refine x_get (v := .ref (q 60)) C dX11_head_1 inX11_X11_head 0 (by omega) rfl rfl 0 (by decide) (by decide +kernel) (Or.inl rfl) rfl (pc' := 4) rfl ?_
  refine wm_iload_n C dX11_head_4 1 rfl (pc' := 5) rfl ?_
  obtain ⟨r1, s2, h3, hf⟩ := bnd_s hf
  refine wm_callVd (nn := 1) (As := [.int x1]) (rest := []) (st' := [.int r1]) C dX11_head_5 (kX5_hasJoint l D τ q nc σ x1 r1 s2 h3) gX11_head_X5_hasJoint rfl (by decide +kernel) ⟨Nat.le_of_ble_eq_true rfl, Nat.le_of_ble_eq_true rfl⟩ rfl rfl ⟨Nat.zero_le _, Nat.zero_le _⟩ 1 (x_at (by omega) rfl) rfl rfl rfl (Nat.le_of_ble_eq_true rfl) rfl (pc' := 8) rfl ?_
  refine wm_if_eq C dX11_head_8 29 (by decide) (pc' := 11) rfl (fun h4 => ?_) (fun h4 => ?_)
  · have hf := ite_t h4 hf
    refine wm_ldc2 (v := (-9223372036854775808)) C dX11_head_29 (by decide +kernel) (pc' := 32) rfl ?_
    obtain ⟨rfl, rfl⟩ := leaf_s hf
    exact wm_lret C dX11_head_32 (Nat.zero_le _) (Nat.zero_le _) FD.rf
  · have hf := ite_f h4 hf
    refine wm_iload_n C dX11_head_11 2 rfl (pc' := 12) rfl ?_
    obtain ⟨r5, u6, h7, hf⟩ := bnd_s hf
    refine wm_callSd (nn := 1) (As := [.int x2]) (rest := []) (st' := [.int r5]) C dX11_head_12 (kX11_isPart l D τ x2 r5 h7) gX11_head_X11_isPart rfl (by decide +kernel) ⟨Nat.le_of_ble_eq_true rfl, Nat.le_of_ble_eq_true rfl⟩ rfl rfl ⟨Nat.zero_le _, Nat.zero_le _⟩ rfl rfl (Nat.le_of_ble_eq_true rfl) rfl (pc' := 15) rfl ?_
    refine wm_if_eq C dX11_head_15 29 (by decide) (pc' := 18) rfl (fun h8 => ?_) (fun h8 => ?_)
    · have hf := ite_t h8 hf
      refine wm_ldc2 (v := (-9223372036854775808)) C dX11_head_29 (by decide +kernel) (pc' := 32) rfl ?_
      obtain ⟨rfl, rfl⟩ := leaf_s hf
      exact wm_lret C dX11_head_32 (Nat.zero_le _) (Nat.zero_le _) FD.rf
    · have hf := ite_f h8 hf
      refine wm_aload_n C dX11_head_18 0 rfl (pc' := 19) rfl ?_
      refine x_get (v := .ref (q 61)) C dX11_head_19 inX11_X11_head 0 (by omega) rfl rfl 1 (by decide) (by decide +kernel) (Or.inl rfl) rfl (pc' := 22) rfl ?_
      refine wm_iload_n C dX11_head_22 1 rfl (pc' := 23) rfl ?_
      obtain ⟨r9, s10, h11, hf⟩ := bnd_s hf
      refine wm_callVd (nn := 1) (As := [.int x1]) (rest := []) (st' := [.int r9]) C dX11_head_23 (kX8_isDry l D τ q nc s2 x1 r9 s10 h11) gX11_head_X8_isDry rfl (by decide +kernel) ⟨Nat.le_of_ble_eq_true rfl, Nat.le_of_ble_eq_true rfl⟩ rfl rfl ⟨Nat.zero_le _, Nat.zero_le _⟩ 2 (x_at (by omega) rfl) rfl rfl rfl (Nat.le_of_ble_eq_true rfl) rfl (pc' := 26) rfl ?_
      refine wm_if_eq C dX11_head_26 33 (by decide) (pc' := 29) rfl (fun h12 => ?_) (fun h12 => ?_)
      · have hf := ite_t h12 hf
        refine wm_aload_n C dX11_head_33 0 rfl (pc' := 34) rfl ?_
        refine x_get (v := .ref (q 61)) C dX11_head_34 inX11_X11_head 0 (by omega) rfl rfl 1 (by decide) (by decide +kernel) (Or.inl rfl) rfl (pc' := 37) rfl ?_
        refine wm_iload_n C dX11_head_37 1 rfl (pc' := 38) rfl ?_
        refine wm_iload_n C dX11_head_38 2 rfl (pc' := 39) rfl ?_
        obtain ⟨r13, s14, h15, hf⟩ := bnd_s hf
        refine wm_callVd (nn := 2) (As := [.int x1, .int x2]) (rest := []) (st' := [.long r13]) C dX11_head_39 (kX8_headPart l D τ q nc s10 x1 x2 r13 s14 h15) gX11_head_X8_headPart rfl (by decide +kernel) ⟨Nat.le_of_ble_eq_true rfl, Nat.le_of_ble_eq_true rfl⟩ rfl rfl ⟨Nat.zero_le _, Nat.zero_le _⟩ 2 (x_at (by omega) rfl) rfl rfl rfl (Nat.le_of_ble_eq_true rfl) rfl (pc' := 42) rfl ?_
        obtain ⟨rfl, rfl⟩ := leaf_s hf
        exact wm_lret C dX11_head_42 (Nat.zero_le _) (Nat.zero_le _) FD.rf
      · have hf := ite_f h12 hf
        refine wm_ldc2 (v := (-9223372036854775808)) C dX11_head_29 (by decide +kernel) (pc' := 32) rfl ?_
        obtain ⟨rfl, rfl⟩ := leaf_s hf
        exact wm_lret C dX11_head_32 (Nat.zero_le _) (Nat.zero_le _) FD.rf
def fX11_flow (nc : Nat) (x1 : Int32) (x2 : Int32) (σ : MS) : Option (Int64 × MS) :=
  bnd (fX5_hasCrack nc x1 σ) (fun r1 s2 => if r1 = 0 then some ((-9223372036854775808), s2) else bnd (fX11_isPart x2) (fun r5 u6 => if ¬ r5 = 0 then bnd (fX8_flowPart nc x1 x2 s2) (fun r9 s10 => some (r9, s10)) else some ((-9223372036854775808), s2)))
theorem inX11_X11_flow : ∀ w ∈ wsX110, w ∈ wsX11_flow := by decide +kernel
set_option maxHeartbeats 4000000 in
set_option maxRecDepth 100000 in
theorem kX11_flow (l : Launch) (D : va_G) (τ : CId) (q : Nat → Nat) (nc : Nat) (σ : MS) (x1 : Int32) (x2 : Int32) (rE : Int64) (sE : MS) (hf : fX11_flow nc x1 x2 σ = some (rE, sE)) : Ct l D τ yX11_flow wsX11_flow { frames := 4, cells := 0, slots := 0, locals := 94 } [.ref (q 0), .int x1, .int x2] (xW τ q nc σ) (FD (xW τ q nc sE) (some (.long rE))) := by
  unfold fX11_flow at hf
  refine ct_of (cc := cX11_flow) (maxL := 3) (ret := (some .long)) (by decide) rfl (Nat.le_of_ble_eq_true rfl) (fun Γ C => ?_)
  refine wm_lv (lv' := [(0, .ref (q 0)), (1, .int x1), (2, .int x2)]) rfl ?_
  refine wm_aload_n C dX11_flow_0 0 rfl (pc' := 1) rfl ?_
  refine x_get (v := .ref (q 60)) C dX11_flow_1 inX11_X11_flow 0 (by omega) rfl rfl 0 (by decide) (by decide +kernel) (Or.inl rfl) rfl (pc' := 4) rfl ?_
  refine wm_iload_n C dX11_flow_4 1 rfl (pc' := 5) rfl ?_
  obtain ⟨r1, s2, h3, hf⟩ := bnd_s hf
  refine wm_callVd (nn := 1) (As := [.int x1]) (rest := []) (st' := [.int r1]) C dX11_flow_5 (kX5_hasCrack l D τ q nc σ x1 r1 s2 h3) gX11_flow_X5_hasCrack rfl (by decide +kernel) ⟨Nat.le_of_ble_eq_true rfl, Nat.le_of_ble_eq_true rfl⟩ rfl rfl ⟨Nat.zero_le _, Nat.zero_le _⟩ 1 (x_at (by omega) rfl) rfl rfl rfl (Nat.le_of_ble_eq_true rfl) rfl (pc' := 8) rfl ?_
  refine wm_if_eq C dX11_flow_8 18 (by decide) (pc' := 11) rfl (fun h4 => ?_) (fun h4 => ?_)
  · have hf := ite_t h4 hf
    refine wm_ldc2 (v := (-9223372036854775808)) C dX11_flow_18 (by decide +kernel) (pc' := 21) rfl ?_
    obtain ⟨rfl, rfl⟩ := leaf_s hf
    exact wm_lret C dX11_flow_21 (Nat.zero_le _) (Nat.zero_le _) FD.rf
  · have hf := ite_f h4 hf
    refine wm_iload_n C dX11_flow_11 2 rfl (pc' := 12) rfl ?_
    obtain ⟨r5, u6, h7, hf⟩ := bnd_s hf
    refine wm_callSd (nn := 1) (As := [.int x2]) (rest := []) (st' := [.int r5]) C dX11_flow_12 (kX11_isPart l D τ x2 r5 h7) gX11_flow_X11_isPart rfl (by decide +kernel) ⟨Nat.le_of_ble_eq_true rfl, Nat.le_of_ble_eq_true rfl⟩ rfl rfl ⟨Nat.zero_le _, Nat.zero_le _⟩ rfl rfl (Nat.le_of_ble_eq_true rfl) rfl (pc' := 15) rfl ?_
    refine wm_if_ne C dX11_flow_15 22 (by decide) (pc' := 18) rfl (fun h8 => ?_) (fun h8 => ?_)
    · have hf := ite_t h8 hf
      refine wm_aload_n C dX11_flow_22 0 rfl (pc' := 23) rfl ?_
      refine x_get (v := .ref (q 61)) C dX11_flow_23 inX11_X11_flow 0 (by omega) rfl rfl 1 (by decide) (by decide +kernel) (Or.inl rfl) rfl (pc' := 26) rfl ?_
      refine wm_iload_n C dX11_flow_26 1 rfl (pc' := 27) rfl ?_
      refine wm_iload_n C dX11_flow_27 2 rfl (pc' := 28) rfl ?_
      obtain ⟨r9, s10, h11, hf⟩ := bnd_s hf
      refine wm_callVd (nn := 2) (As := [.int x1, .int x2]) (rest := []) (st' := [.long r9]) C dX11_flow_28 (kX8_flowPart l D τ q nc s2 x1 x2 r9 s10 h11) gX11_flow_X8_flowPart rfl (by decide +kernel) ⟨Nat.le_of_ble_eq_true rfl, Nat.le_of_ble_eq_true rfl⟩ rfl rfl ⟨Nat.zero_le _, Nat.zero_le _⟩ 2 (x_at (by omega) rfl) rfl rfl rfl (Nat.le_of_ble_eq_true rfl) rfl (pc' := 31) rfl ?_
      obtain ⟨rfl, rfl⟩ := leaf_s hf
      exact wm_lret C dX11_flow_31 (Nat.zero_le _) (Nat.zero_le _) FD.rf
    · have hf := ite_f (fun h => h h8) hf
      refine wm_ldc2 (v := (-9223372036854775808)) C dX11_flow_18 (by decide +kernel) (pc' := 21) rfl ?_
      obtain ⟨rfl, rfl⟩ := leaf_s hf
      exact wm_lret C dX11_flow_21 (Nat.zero_le _) (Nat.zero_le _) FD.rf
def fX11_in (nc : Nat) (x1 : Int32) (x2 : Int32) (σ : MS) : Option (Int64 × MS) :=
  bnd (fX5_hasJoint nc x1 σ) (fun r1 s2 => if r1 = 0 then some ((-9223372036854775808), s2) else bnd (fX11_isPart x2) (fun r5 u6 => if r5 = 0 then some ((-9223372036854775808), s2) else if ¬ (x1 < 0 ∨ 6 ≤ x1.toNatClampNeg) then if ¬ (gA s2 2 x1.toNatClampNeg) = 0 then bnd (fX8_inflowPart nc x1 x2 s2) (fun r11 s12 => some (r11, s12)) else some ((-9223372036854775808), s2) else none))
theorem inX11_X11_in : ∀ w ∈ wsX110, w ∈ wsX11_in := by decide +kernel
theorem inX5_X11_in : ∀ w ∈ wsX50, w ∈ wsX11_in := by decide +kernel
set_option maxHeartbeats 4000000 in
set_option maxRecDepth 100000 in
theorem kX11_in (l : Launch) (D : va_G) (τ : CId) (q : Nat → Nat) (nc : Nat) (σ : MS) (x1 : Int32) (x2 : Int32) (rE : Int64) (sE : MS) (hf : fX11_in nc x1 x2 σ = some (rE, sE)) : Ct l D τ yX11_in wsX11_in { frames := 4, cells := 0, slots := 0, locals := 94 } [.ref (q 0), .int x1, .int x2] (xW τ q nc σ) (FD (xW τ q nc sE) (some (.long rE))) := by
  unfold fX11_in at hf
  refine ct_of (cc := cX11_in) (maxL := 3) (ret := (some .long)) (by decide) rfl (Nat.le_of_ble_eq_true rfl) (fun Γ C => ?_)
  refine wm_lv (lv' := [(0, .ref (q 0)), (1, .int x1), (2, .int x2)]) rfl ?_
  refine wm_aload_n C dX11_in_0 0 rfl (pc' := 1) rfl ?_
  refine x_get (v := .ref (q 60)) C dX11_in_1 inX11_X11_in 0 (by omega) rfl rfl 0 (by decide) (by decide +kernel) (Or.inl rfl) rfl (pc' := 4) rfl ?_
  refine wm_iload_n C dX11_in_4 1 rfl (pc' := 5) rfl ?_
  obtain ⟨r1, s2, h3, hf⟩ := bnd_s hf
  refine wm_callVd (nn := 1) (As := [.int x1]) (rest := []) (st' := [.int r1]) C dX11_in_5 (kX5_hasJoint l D τ q nc σ x1 r1 s2 h3) gX11_in_X5_hasJoint rfl (by decide +kernel) ⟨Nat.le_of_ble_eq_true rfl, Nat.le_of_ble_eq_true rfl⟩ rfl rfl ⟨Nat.zero_le _, Nat.zero_le _⟩ 1 (x_at (by omega) rfl) rfl rfl rfl (Nat.le_of_ble_eq_true rfl) rfl (pc' := 8) rfl ?_
  refine wm_if_eq C dX11_in_8 30 (by decide) (pc' := 11) rfl (fun h4 => ?_) (fun h4 => ?_)
  · have hf := ite_t h4 hf
    refine wm_ldc2 (v := (-9223372036854775808)) C dX11_in_30 (by decide +kernel) (pc' := 33) rfl ?_
    obtain ⟨rfl, rfl⟩ := leaf_s hf
    exact wm_lret C dX11_in_33 (Nat.zero_le _) (Nat.zero_le _) FD.rf
  · have hf := ite_f h4 hf
    refine wm_iload_n C dX11_in_11 2 rfl (pc' := 12) rfl ?_
    obtain ⟨r5, u6, h7, hf⟩ := bnd_s hf
    refine wm_callSd (nn := 1) (As := [.int x2]) (rest := []) (st' := [.int r5]) C dX11_in_12 (kX11_isPart l D τ x2 r5 h7) gX11_in_X11_isPart rfl (by decide +kernel) ⟨Nat.le_of_ble_eq_true rfl, Nat.le_of_ble_eq_true rfl⟩ rfl rfl ⟨Nat.zero_le _, Nat.zero_le _⟩ rfl rfl (Nat.le_of_ble_eq_true rfl) rfl (pc' := 15) rfl ?_
    refine wm_if_eq C dX11_in_15 30 (by decide) (pc' := 18) rfl (fun h8 => ?_) (fun h8 => ?_)
    · have hf := ite_t h8 hf
      refine wm_ldc2 (v := (-9223372036854775808)) C dX11_in_30 (by decide +kernel) (pc' := 33) rfl ?_
      obtain ⟨rfl, rfl⟩ := leaf_s hf
      exact wm_lret C dX11_in_33 (Nat.zero_le _) (Nat.zero_le _) FD.rf
    · have hf := ite_f h8 hf
      refine wm_aload_n C dX11_in_18 0 rfl (pc' := 19) rfl ?_
      refine x_get (v := .ref (q 60)) C dX11_in_19 inX11_X11_in 0 (by omega) rfl rfl 0 (by decide) (by decide +kernel) (Or.inl rfl) rfl (pc' := 22) rfl ?_
      refine x_get (v := .ref (q 2)) C dX11_in_22 inX5_X11_in 1 (by omega) rfl rfl 0 (by decide) (by decide +kernel) (Or.inl rfl) rfl (pc' := 25) rfl ?_
      refine wm_iload_n C dX11_in_25 1 rfl (pc' := 26) rfl ?_
      obtain ⟨h9, hf⟩ := chk_s hf
      refine wm_zald (f := gA s2 2) (N := 6) (cA := τ.2.2.1) C dX11_in_26 8 (x_at (by omega) rfl) rfl h9 (pc' := 27) rfl ?_
      refine wm_if_ne C dX11_in_27 34 (by decide) (pc' := 30) rfl (fun h10 => ?_) (fun h10 => ?_)
      · have hf := ite_t h10 hf
        refine wm_aload_n C dX11_in_34 0 rfl (pc' := 35) rfl ?_
        refine x_get (v := .ref (q 61)) C dX11_in_35 inX11_X11_in 0 (by omega) rfl rfl 1 (by decide) (by decide +kernel) (Or.inl rfl) rfl (pc' := 38) rfl ?_
        refine wm_iload_n C dX11_in_38 1 rfl (pc' := 39) rfl ?_
        refine wm_iload_n C dX11_in_39 2 rfl (pc' := 40) rfl ?_
        obtain ⟨r11, s12, h13, hf⟩ := bnd_s hf
        refine wm_callVd (nn := 2) (As := [.int x1, .int x2]) (rest := []) (st' := [.long r11]) C dX11_in_40 (kX8_inflowPart l D τ q nc s2 x1 x2 r11 s12 h13) gX11_in_X8_inflowPart rfl (by decide +kernel) ⟨Nat.le_of_ble_eq_true rfl, Nat.le_of_ble_eq_true rfl⟩ rfl rfl ⟨Nat.zero_le _, Nat.zero_le _⟩ 2 (x_at (by omega) rfl) rfl rfl rfl (Nat.le_of_ble_eq_true rfl) rfl (pc' := 43) rfl ?_
        obtain ⟨rfl, rfl⟩ := leaf_s hf
        exact wm_lret C dX11_in_43 (Nat.zero_le _) (Nat.zero_le _) FD.rf
      · have hf := ite_f (fun h => h h10) hf
        refine wm_ldc2 (v := (-9223372036854775808)) C dX11_in_30 (by decide +kernel) (pc' := 33) rfl ?_
        obtain ⟨rfl, rfl⟩ := leaf_s hf
        exact wm_lret C dX11_in_33 (Nat.zero_le _) (Nat.zero_le _) FD.rf
def fX11_work (nc : Nat) (x1 : Int32) (σ : MS) : Option (Int64 × MS) :=
  bnd (fX11_isPart x1) (fun r1 u2 => if ¬ r1 = 0 then bnd (fX8_workPart nc x1 σ) (fun r5 s6 => some (r5, s6)) else some ((-9223372036854775808), σ))
theorem inX11_X11_work : ∀ w ∈ wsX110, w ∈ wsX11_work := by decide +kernel
set_option maxHeartbeats 4000000 in
set_option maxRecDepth 100000 in
theorem kX11_work (l : Launch) (D : va_G) (τ : CId) (q : Nat → Nat) (nc : Nat) (σ : MS) (x1 : Int32) (rE : Int64) (sE : MS) (hf : fX11_work nc x1 σ = some (rE, sE)) : Ct l D τ yX11_work wsX11_work { frames := 4, cells := 0, slots := 0, locals := 96 } [.ref (q 0), .int x1] (xW τ q nc σ) (FD (xW τ q nc sE) (some (.long rE))) := by
  unfold fX11_work at hf
  refine ct_of (cc := cX11_work) (maxL := 2) (ret := (some .long)) (by decide) rfl (Nat.le_of_ble_eq_true rfl) (fun Γ C => ?_)
  refine wm_lv (lv' := [(0, .ref (q 0)), (1, .int x1)]) rfl ?_
  refine wm_iload_n C dX11_work_0 1 rfl (pc' := 1) rfl ?_
  obtain ⟨r1, u2, h3, hf⟩ := bnd_s hf
  refine wm_callSd (nn := 1) (As := [.int x1]) (rest := []) (st' := [.int r1]) C dX11_work_1 (kX11_isPart l D τ x1 r1 h3) gX11_work_X11_isPart rfl (by decide +kernel) ⟨Nat.le_of_ble_eq_true rfl, Nat.le_of_ble_eq_true rfl⟩ rfl rfl ⟨Nat.zero_le _, Nat.zero_le _⟩ rfl rfl (Nat.le_of_ble_eq_true rfl) rfl (pc' := 4) rfl ?_
  refine wm_if_ne C dX11_work_4 11 (by decide) (pc' := 7) rfl (fun h4 => ?_) (fun h4 => ?_)
  · have hf := ite_t h4 hf
    refine wm_aload_n C dX11_work_11 0 rfl (pc' := 12) rfl ?_
    refine x_get (v := .ref (q 61)) C dX11_work_12 inX11_X11_work 0 (by omega) rfl rfl 1 (by decide) (by decide +kernel) (Or.inl rfl) rfl (pc' := 15) rfl ?_
    refine wm_iload_n C dX11_work_15 1 rfl (pc' := 16) rfl ?_
    obtain ⟨r5, s6, h7, hf⟩ := bnd_s hf
    refine wm_callVd (nn := 1) (As := [.int x1]) (rest := []) (st' := [.long r5]) C dX11_work_16 (kX8_workPart l D τ q nc σ x1 r5 s6 h7) gX11_work_X8_workPart rfl (by decide +kernel) ⟨Nat.le_of_ble_eq_true rfl, Nat.le_of_ble_eq_true rfl⟩ rfl rfl ⟨Nat.zero_le _, Nat.zero_le _⟩ 2 (x_at (by omega) rfl) rfl rfl rfl (Nat.le_of_ble_eq_true rfl) rfl (pc' := 19) rfl ?_
    obtain ⟨rfl, rfl⟩ := leaf_s hf
    exact wm_lret C dX11_work_19 (Nat.zero_le _) (Nat.zero_le _) FD.rf
  · have hf := ite_f (fun h => h h4) hf
    refine wm_ldc2 (v := (-9223372036854775808)) C dX11_work_7 (by decide +kernel) (pc' := 10) rfl ?_
    obtain ⟨rfl, rfl⟩ := leaf_s hf
    exact wm_lret C dX11_work_10 (Nat.zero_le _) (Nat.zero_le _) FD.rf
def fX11_rate (nc : Nat) (x1 : Int32) (σ : MS) : Option (Int32 × MS) :=
  bnd (fX11_isWithin x1.toInt64 1 100) (fun r1 u2 => if ¬ r1 = 0 then lets (sI σ 11 x1) (fun s5 => some (gI σ 11, s5)) else some ((-2), σ))
theorem inX11_X11_rate : ∀ w ∈ wsX110, w ∈ wsX11_rate := by decide +kernel
set_option maxHeartbeats 4000000 in
set_option maxRecDepth 100000 in
theorem kX11_rate (l : Launch) (D : va_G) (τ : CId) (q : Nat → Nat) (nc : Nat) (σ : MS) (x1 : Int32) (rE : Int32) (sE : MS) (hf : fX11_rate nc x1 σ = some (rE, sE)) : Ct l D τ yX11_rate wsX11_rate { frames := 1, cells := 0, slots := 0, locals := 23 } [.ref (q 0), .int x1] (xW τ q nc σ) (FD (xW τ q nc sE) (some (.int rE))) := by
  unfold fX11_rate at hf
  refine ct_of (cc := cX11_rate) (maxL := 3) (ret := (some .int)) (by decide) rfl (Nat.le_of_ble_eq_true rfl) (fun Γ C => ?_)
  refine wm_lv (lv' := [(0, .ref (q 0)), (1, .int x1)]) rfl ?_
  refine wm_iload_n C dX11_rate_0 1 rfl (pc' := 1) rfl ?_
  refine wm_i2l C dX11_rate_1 (pc' := 2) rfl ?_
  refine wm_ikonst (v := 1) C dX11_rate_2 (by decide) (pc' := 3) rfl ?_
  refine wm_bipush (v := 100) C dX11_rate_3 (by decide) (pc' := 5) rfl ?_
  obtain ⟨r1, u2, h3, hf⟩ := bnd_s hf
  refine wm_callSd (nn := 3) (As := [.long x1.toInt64, .int 1, .int 100]) (rest := []) (st' := [.int r1]) C dX11_rate_5 (kX11_isWithin l D τ x1.toInt64 1 100 r1 h3) gX11_rate_X11_isWithin rfl (by decide +kernel) ⟨Nat.le_of_ble_eq_true rfl, Nat.le_of_ble_eq_true rfl⟩ rfl rfl ⟨Nat.zero_le _, Nat.zero_le _⟩ rfl rfl (Nat.le_of_ble_eq_true rfl) rfl (pc' := 8) rfl ?_
  refine wm_if_ne C dX11_rate_8 14 (by decide) (pc' := 11) rfl (fun h4 => ?_) (fun h4 => ?_)
  · have hf := ite_t h4 hf
    refine wm_aload_n C dX11_rate_14 0 rfl (pc' := 15) rfl ?_
    refine x_get (v := .int (gI σ 11)) C dX11_rate_15 inX11_X11_rate 0 (by omega) rfl rfl 7 (by decide) (by decide +kernel) (Or.inl rfl) rfl (pc' := 18) rfl ?_
    refine wm_istore_n (lv' := [(2, .int (gI σ 11)), (0, .ref (q 0)), (1, .int x1)]) C dX11_rate_18 (by decide) rfl (pc' := 19) rfl ?_
    refine wm_aload_n C dX11_rate_19 1 rfl (pc' := 20) rfl ?_
    refine wm_iload_n C dX11_rate_20 2 rfl (pc' := 21) rfl ?_
    obtain ⟨s5, e6, hf⟩ := lets_s hf
    refine x_put (σ' := s5) C dX11_rate_21 inX11_X11_rate tyX11 tyX11_ok nmX11 0 (by omega) rfl rfl 7 (by decide) (by decide +kernel) (Or.inl rfl) rfl rfl rfl rfl (Nat.le_of_ble_eq_true rfl) (e6 ▸ xC_I11) (e6 ▸ rfl) (pc' := 24) rfl ?_
    refine wm_iload_n C dX11_rate_24 0 rfl (pc' := 25) rfl ?_
    obtain ⟨rfl, rfl⟩ := leaf_s hf
    exact wm_iret C dX11_rate_25 (Nat.zero_le _) (Nat.zero_le _) FD.rf
  · have hf := ite_f (fun h => h h4) hf
    refine wm_bipush (v := (-2)) C dX11_rate_11 (by decide) (pc' := 13) rfl ?_
    obtain ⟨rfl, rfl⟩ := leaf_s hf
    exact wm_iret C dX11_rate_13 (Nat.zero_le _) (Nat.zero_le _) FD.rf
def fX11_step_L18 (nc : Nat) (x1 : Int32) : Nat → Int32 → Int32 → MS → Option (Int32 × MS)
  | 0, _, _, _ => none
  | fu + 1, x2, x3, s => if x1 ≤ x3 then some (x2, s) else bnd (fX11_oneStep nc s) (fun r6 s7 => fX11_step_L18 nc x1 fu (x2 + r6) (x3 + 1) s7)
theorem fX11_step_L18_s (nc : Nat) (x1 : Int32) (fu : Nat) (x2 : Int32) (x3 : Int32) (s : MS) : fX11_step_L18 nc x1 (fu + 1) x2 x3 s = (if x1 ≤ x3 then some (x2, s) else bnd (fX11_oneStep nc s) (fun r6 s7 => fX11_step_L18 nc x1 fu (x2 + r6) (x3 + 1) s7)) := rfl
def fX11_step (nc : Nat) (x1 : Int32) (σ : MS) : Option (Int32 × MS) :=
  bnd (fX11_isWithin x1.toInt64 0 50) (fun r1 u2 => if ¬ r1 = 0 then bnd (fX11_step_L18 nc x1 FU 0 0 σ) (fun v9 s10 => some (v9, s10)) else some ((-2), σ))
set_option maxHeartbeats 4000000 in
set_option maxRecDepth 100000 in
theorem kX11_step (l : Launch) (D : va_G) (τ : CId) (q : Nat → Nat) (nc : Nat) (σ : MS) (x1 : Int32) (rE : Int32) (sE : MS) (hf : fX11_step nc x1 σ = some (rE, sE)) : Ct l D τ yX11_step wsX11_step { frames := 6, cells := 0, slots := 0, locals := 139 } [.ref (q 0), .int x1] (xW τ q nc σ) (FD (xW τ q nc sE) (some (.int rE))) := by
  unfold fX11_step at hf
  refine ct_of (cc := cX11_step) (maxL := 4) (ret := (some .int)) (by decide) rfl (Nat.le_of_ble_eq_true rfl) (fun Γ C => ?_)
  refine wm_lv (lv' := [(0, .ref (q 0)), (1, .int x1)]) rfl ?_
  have wL_18 : ∀ (x1 : Int32) (fu : Nat) (x2 : Int32) (x3 : Int32) (s : MS) (v : Int32) (s' : MS), fX11_step_L18 nc x1 fu x2 x3 s = some (v, s') → WM l D Γ 4 0 0 (xW τ q nc s') 36 [(2, .int v)] [] → WM l D Γ 4 0 0 (xW τ q nc s) 18 [(0, .ref (q 0)), (1, .int x1), (2, .int x2), (3, .int x3)] [] := by
    intro x1
    intro fu
    induction fu with
    | zero => intro x2 x3 s v s' hf hE; exact absurd hf (fun h => nomatch (show (none : Option _) = some _ from h))
    | succ fu ih =>
      intro x2 x3 s v s' hf hE
      rw [fX11_step_L18_s] at hf
      refine wm_iload_n C dX11_step_18 3 rfl (pc' := 19) rfl ?_
      refine wm_iload_n C dX11_step_19 1 rfl (pc' := 20) rfl ?_
      refine wm_icmp_ge C dX11_step_20 36 (by decide) (pc' := 23) rfl (fun h5 => ?_) (fun h5 => ?_)
      · have hf := ite_t h5 hf
        obtain ⟨rfl, rfl⟩ := leaf_s hf
        refine wm_sub (lv' := [(2, .int x2)]) [2] rfl ?_
        exact hE
      · have hf := ite_f h5 hf
        refine wm_iload_n C dX11_step_23 2 rfl (pc' := 24) rfl ?_
        refine wm_aload_n C dX11_step_24 0 rfl (pc' := 25) rfl ?_
        obtain ⟨r6, s7, h8, hf⟩ := bnd_s hf
        refine wm_callVd (nn := 0) (As := []) (rest := [.int x2]) (st' := [.int r6, .int x2]) C dX11_step_25 (kX11_oneStep l D τ q nc s r6 s7 h8) gX11_step_X11_oneStep rfl (by decide +kernel) ⟨Nat.le_of_ble_eq_true rfl, Nat.le_of_ble_eq_true rfl⟩ rfl rfl ⟨Nat.zero_le _, Nat.zero_le _⟩ 0 (x_at (by omega) rfl) rfl rfl rfl (Nat.le_of_ble_eq_true rfl) rfl (pc' := 28) rfl ?_
        refine wm_iadd C dX11_step_28 (pc' := 29) rfl ?_
        refine wm_istore_n (lv' := [(2, .int (x2 + r6)), (0, .ref (q 0)), (1, .int x1), (3, .int x3)]) C dX11_step_29 (by decide) rfl (pc' := 30) rfl ?_
        refine wm_iinc (v := x3 + 1) (lv' := [(3, .int (x3 + 1)), (2, .int (x2 + r6)), (0, .ref (q 0)), (1, .int x1)]) C dX11_step_30 3 rfl rfl (by decide) rfl (pc' := 33) rfl ?_
        refine wm_goto C dX11_step_33 18 (by decide) ?_
        refine wm_sub (lv' := [(0, .ref (q 0)), (1, .int x1), (2, .int (x2 + r6)), (3, .int (x3 + 1))]) [2, 3, 1, 0] rfl ?_
        exact ih (x2 + r6) (x3 + 1) s7 _ _ hf hE
  refine wm_iload_n C dX11_step_0 1 rfl (pc' := 1) rfl ?_
  refine wm_i2l C dX11_step_1 (pc' := 2) rfl ?_
  refine wm_ikonst (v := 0) C dX11_step_2 (by decide) (pc' := 3) rfl ?_
  refine wm_bipush (v := 50) C dX11_step_3 (by decide) (pc' := 5) rfl ?_
  obtain ⟨r1, u2, h3, hf⟩ := bnd_s hf
  refine wm_callSd (nn := 3) (As := [.long x1.toInt64, .int 0, .int 50]) (rest := []) (st' := [.int r1]) C dX11_step_5 (kX11_isWithin l D τ x1.toInt64 0 50 r1 h3) gX11_step_X11_isWithin rfl (by decide +kernel) ⟨Nat.le_of_ble_eq_true rfl, Nat.le_of_ble_eq_true rfl⟩ rfl rfl ⟨Nat.zero_le _, Nat.zero_le _⟩ rfl rfl (Nat.le_of_ble_eq_true rfl) rfl (pc' := 8) rfl ?_
  refine wm_if_ne C dX11_step_8 14 (by decide) (pc' := 11) rfl (fun h4 => ?_) (fun h4 => ?_)
  · have hf := ite_t h4 hf
    refine wm_ikonst (v := 0) C dX11_step_14 (by decide) (pc' := 15) rfl ?_
    refine wm_istore_n (lv' := [(2, .int 0), (0, .ref (q 0)), (1, .int x1)]) C dX11_step_15 (by decide) rfl (pc' := 16) rfl ?_
    refine wm_ikonst (v := 0) C dX11_step_16 (by decide) (pc' := 17) rfl ?_
    refine wm_istore_n (lv' := [(3, .int 0), (2, .int 0), (0, .ref (q 0)), (1, .int x1)]) C dX11_step_17 (by decide) rfl (pc' := 18) rfl ?_
    refine wm_sub (lv' := [(0, .ref (q 0)), (1, .int x1), (2, .int 0), (3, .int 0)]) [2, 3, 1, 0] rfl ?_
    obtain ⟨v9, s10, h11, hf⟩ := bnd_s hf
    refine wL_18 x1 FU 0 0 σ v9 s10 h11 ?_
    refine wm_iload_n C dX11_step_36 0 rfl (pc' := 37) rfl ?_
    obtain ⟨rfl, rfl⟩ := leaf_s hf
    exact wm_iret C dX11_step_37 (Nat.zero_le _) (Nat.zero_le _) FD.rf
  · have hf := ite_f (fun h => h h4) hf
    refine wm_bipush (v := (-2)) C dX11_step_11 (by decide) (pc' := 13) rfl ?_
    obtain ⟨rfl, rfl⟩ := leaf_s hf
    exact wm_iret C dX11_step_13 (Nat.zero_le _) (Nat.zero_le _) FD.rf
def fX11_run_J62 (nc : Nat) (rec : Int32 → Int32 → MS → Option ((Int32 × Int32) × MS)) (x1 : Int32) (x3 : Int32) (t0 : Int32) (s : MS) : Option ((Int32 × Int32) × MS) :=
  rec t0 x3 s
def fX11_run_J61 (nc : Nat) (rec : Int32 → Int32 → MS → Option ((Int32 × Int32) × MS)) (x1 : Int32) (x3 : Int32) (s : MS) : Option ((Int32 × Int32) × MS) :=
  fX11_run_J62 nc (rec) x1 x3 0 s
def fX11_run_L21 (nc : Nat) (x1 : Int32) : Nat → Int32 → Int32 → MS → Option ((Int32 × Int32) × MS)
  | 0, _, _, _ => none
  | fu + 1, x2, x3, s => if ¬ x2 = 0 then some ((x2, x3), s) else if 200 ≤ x3 then some ((x2, x3), s) else bnd (fX11_oneStep nc s) (fun r10 s11 => if r10 ≤ 0 then fX11_run_J61 nc (fX11_run_L21 nc x1 fu) x1 (x3 + 1) s11 else bnd (fX9_isOne nc x1 s11) (fun r14 s15 => if r14 = 0 then fX11_run_J61 nc (fX11_run_L21 nc x1 fu) x1 (x3 + 1) s15 else fX11_run_J62 nc (fX11_run_L21 nc x1 fu) x1 (x3 + 1) 1 s15))
theorem fX11_run_L21_s (nc : Nat) (x1 : Int32) (fu : Nat) (x2 : Int32) (x3 : Int32) (s : MS) : fX11_run_L21 nc x1 (fu + 1) x2 x3 s = (if ¬ x2 = 0 then some ((x2, x3), s) else if 200 ≤ x3 then some ((x2, x3), s) else bnd (fX11_oneStep nc s) (fun r10 s11 => if r10 ≤ 0 then fX11_run_J61 nc (fX11_run_L21 nc x1 fu) x1 (x3 + 1) s11 else bnd (fX9_isOne nc x1 s11) (fun r14 s15 => if r14 = 0 then fX11_run_J61 nc (fX11_run_L21 nc x1 fu) x1 (x3 + 1) s15 else fX11_run_J62 nc (fX11_run_L21 nc x1 fu) x1 (x3 + 1) 1 s15))) := rfl
def fX11_run (nc : Nat) (x1 : Int32) (σ : MS) : Option (Int32 × MS) :=
  bnd (fX11_isLeastWidth x1) (fun r1 u2 => if ¬ r1 = 0 then bnd (fX9_isOne nc x1 σ) (fun r5 s6 => bnd (fX11_run_L21 nc x1 FU r5 0 s6) (fun v18 s19 => if v18.1 = 0 then some ((-9), s19) else some (v18.2, s19))) else some ((-2), σ))
theorem inX11_X11_run : ∀ w ∈ wsX110, w ∈ wsX11_run := by decide +kernel
set_option maxHeartbeats 4000000 in
set_option maxRecDepth 100000 in
theorem kX11_run (l : Launch) (D : va_G) (τ : CId) (q : Nat → Nat) (nc : Nat) (σ : MS) (x1 : Int32) (rE : Int32) (sE : MS) (hf : fX11_run nc x1 σ = some (rE, sE)) : Ct l D τ yX11_run wsX11_run { frames := 6, cells := 0, slots := 0, locals := 139 } [.ref (q 0), .int x1] (xW τ q nc σ) (FD (xW τ q nc sE) (some (.int rE))) := by
  unfold fX11_run at hf
  refine ct_of (cc := cX11_run) (maxL := 5) (ret := (some .int)) (by decide) rfl (Nat.le_of_ble_eq_true rfl) (fun Γ C => ?_)
  refine wm_lv (lv' := [(0, .ref (q 0)), (1, .int x1)]) rfl ?_
  have wL_21 : ∀ (x1 : Int32) (fu : Nat) (x2 : Int32) (x3 : Int32) (s : MS) (v : (Int32 × Int32)) (s' : MS), fX11_run_L21 nc x1 fu x2 x3 s = some (v, s') → WM l D Γ 5 0 0 (xW τ q nc s') 66 [(2, .int v.1), (3, .int v.2)] [] → WM l D Γ 5 0 0 (xW τ q nc s) 21 [(0, .ref (q 0)), (1, .int x1), (2, .int x2), (3, .int x3)] [] := by
    intro x1
    intro fu
    induction fu with
    | zero => intro x2 x3 s v s' hf hE; exact absurd hf (fun h => nomatch (show (none : Option _) = some _ from h))
    | succ fu ih =>
      intro x2 x3 s v s' hf hE
      rw [fX11_run_L21_s] at hf
      have wJ_62 : ∀ (x3 : Int32) (t0 : Int32) (s : MS) (v : (Int32 × Int32)) (s' : MS), fX11_run_J62 nc (fX11_run_L21 nc x1 fu) x1 x3 t0 s = some (v, s') → WM l D Γ 5 0 0 (xW τ q nc s') 66 [(2, .int v.1), (3, .int v.2)] [] → WM l D Γ 5 0 0 (xW τ q nc s) 62 [(0, .ref (q 0)), (1, .int x1), (3, .int x3)] [.int t0] := by
        intro x3 t0 s v s' hf hE
        unfold fX11_run_J62 at hf
        refine wm_istore_n (lv' := [(2, .int t0), (0, .ref (q 0)), (1, .int x1), (3, .int x3)]) C dX11_run_62 (by decide) rfl (pc' := 63) rfl ?_
        refine wm_goto C dX11_run_63 21 (by decide) ?_
        refine wm_sub (lv' := [(0, .ref (q 0)), (1, .int x1), (2, .int t0), (3, .int x3)]) [1, 2, 0, 3] rfl ?_
        exact ih t0 x3 s _ _ hf hE
      have wJ_61 : ∀ (x3 : Int32) (s : MS) (v : (Int32 × Int32)) (s' : MS), fX11_run_J61 nc (fX11_run_L21 nc x1 fu) x1 x3 s = some (v, s') → WM l D Γ 5 0 0 (xW τ q nc s') 66 [(2, .int v.1), (3, .int v.2)] [] → WM l D Γ 5 0 0 (xW τ q nc s) 61 [(0, .ref (q 0)), (1, .int x1), (3, .int x3)] [] := by
        intro x3 s v s' hf hE
        unfold fX11_run_J61 at hf
        refine wm_ikonst (v := 0) C dX11_run_61 (by decide) (pc' := 62) rfl ?_
        exact wJ_62 x3 0 s _ _ hf hE
      refine wm_iload_n C dX11_run_21 2 rfl (pc' := 22) rfl ?_
      refine wm_if_ne C dX11_run_22 66 (by decide) (pc' := 25) rfl (fun h8 => ?_) (fun h8 => ?_)
      · have hf := ite_t h8 hf
        obtain ⟨rfl, rfl⟩ := leaf_s hf
        refine wm_sub (lv' := [(2, .int x2), (3, .int x3)]) [2, 3] rfl ?_
        exact hE
      · have hf := ite_f (fun h => h h8) hf
        refine wm_iload_n C dX11_run_25 3 rfl (pc' := 26) rfl ?_
        refine wm_sipush (v := 200) C dX11_run_26 (by decide) (pc' := 29) rfl ?_
        refine wm_icmp_ge C dX11_run_29 66 (by decide) (pc' := 32) rfl (fun h9 => ?_) (fun h9 => ?_)
        · have hf := ite_t h9 hf
          obtain ⟨rfl, rfl⟩ := leaf_s hf
          refine wm_sub (lv' := [(2, .int x2), (3, .int x3)]) [2, 3] rfl ?_
          exact hE
        · have hf := ite_f h9 hf
          refine wm_aload_n C dX11_run_32 0 rfl (pc' := 33) rfl ?_
          obtain ⟨r10, s11, h12, hf⟩ := bnd_s hf
          refine wm_callVd (nn := 0) (As := []) (rest := []) (st' := [.int r10]) C dX11_run_33 (kX11_oneStep l D τ q nc s r10 s11 h12) gX11_run_X11_oneStep rfl (by decide +kernel) ⟨Nat.le_of_ble_eq_true rfl, Nat.le_of_ble_eq_true rfl⟩ rfl rfl ⟨Nat.zero_le _, Nat.zero_le _⟩ 0 (x_at (by omega) rfl) rfl rfl rfl (Nat.le_of_ble_eq_true rfl) rfl (pc' := 36) rfl ?_
          refine wm_istore (lv' := [(4, .int r10), (0, .ref (q 0)), (1, .int x1), (2, .int x2), (3, .int x3)]) C dX11_run_36 (by decide) rfl (pc' := 38) rfl ?_
          refine wm_iinc (v := x3 + 1) (lv' := [(3, .int (x3 + 1)), (4, .int r10), (0, .ref (q 0)), (1, .int x1), (2, .int x2)]) C dX11_run_38 4 rfl rfl (by decide) rfl (pc' := 41) rfl ?_
          refine wm_iload C dX11_run_41 1 rfl (pc' := 43) rfl ?_
          refine wm_if_le C dX11_run_43 61 (by decide) (pc' := 46) rfl (fun h13 => ?_) (fun h13 => ?_)
          · have hf := ite_t h13 hf
            refine wm_sub (lv' := [(0, .ref (q 0)), (1, .int x1), (3, .int (x3 + 1))]) [2, 3, 0] rfl ?_
            exact wJ_61 (x3 + 1) s11 _ _ hf hE
          · have hf := ite_f h13 hf
            refine wm_aload_n C dX11_run_46 2 rfl (pc' := 47) rfl ?_
            refine x_get (v := .ref (q 62)) C dX11_run_47 inX11_X11_run 0 (by omega) rfl rfl 2 (by decide) (by decide +kernel) (Or.inl rfl) rfl (pc' := 50) rfl ?_
            refine wm_iload_n C dX11_run_50 3 rfl (pc' := 51) rfl ?_
            obtain ⟨r14, s15, h16, hf⟩ := bnd_s hf
            refine wm_callVd (nn := 1) (As := [.int x1]) (rest := []) (st' := [.int r14]) C dX11_run_51 (kX9_isOne l D τ q nc s11 x1 r14 s15 h16) gX11_run_X9_isOne rfl (by decide +kernel) ⟨Nat.le_of_ble_eq_true rfl, Nat.le_of_ble_eq_true rfl⟩ rfl rfl ⟨Nat.zero_le _, Nat.zero_le _⟩ 3 (x_at (by omega) rfl) rfl rfl rfl (Nat.le_of_ble_eq_true rfl) rfl (pc' := 54) rfl ?_
            refine wm_if_eq C dX11_run_54 61 (by decide) (pc' := 57) rfl (fun h17 => ?_) (fun h17 => ?_)
            · have hf := ite_t h17 hf
              refine wm_sub (lv' := [(0, .ref (q 0)), (1, .int x1), (3, .int (x3 + 1))]) [2, 3, 0] rfl ?_
              exact wJ_61 (x3 + 1) s15 _ _ hf hE
            · have hf := ite_f h17 hf
              refine wm_ikonst (v := 1) C dX11_run_57 (by decide) (pc' := 58) rfl ?_
              refine wm_goto C dX11_run_58 62 (by decide) ?_
              refine wm_sub (lv' := [(0, .ref (q 0)), (1, .int x1), (3, .int (x3 + 1))]) [2, 3, 0] rfl ?_
              exact wJ_62 (x3 + 1) 1 s15 _ _ hf hE
  refine wm_iload_n C dX11_run_0 1 rfl (pc' := 1) rfl ?_
  obtain ⟨r1, u2, h3, hf⟩ := bnd_s hf
  refine wm_callSd (nn := 1) (As := [.int x1]) (rest := []) (st' := [.int r1]) C dX11_run_1 (kX11_isLeastWidth l D τ x1 r1 h3) gX11_run_X11_isLeastWidth rfl (by decide +kernel) ⟨Nat.le_of_ble_eq_true rfl, Nat.le_of_ble_eq_true rfl⟩ rfl rfl ⟨Nat.zero_le _, Nat.zero_le _⟩ rfl rfl (Nat.le_of_ble_eq_true rfl) rfl (pc' := 4) rfl ?_
  refine wm_if_ne C dX11_run_4 10 (by decide) (pc' := 7) rfl (fun h4 => ?_) (fun h4 => ?_)
  · have hf := ite_t h4 hf
    refine wm_aload_n C dX11_run_10 0 rfl (pc' := 11) rfl ?_
    refine x_get (v := .ref (q 62)) C dX11_run_11 inX11_X11_run 0 (by omega) rfl rfl 2 (by decide) (by decide +kernel) (Or.inl rfl) rfl (pc' := 14) rfl ?_
    refine wm_iload_n C dX11_run_14 1 rfl (pc' := 15) rfl ?_
    obtain ⟨r5, s6, h7, hf⟩ := bnd_s hf
    refine wm_callVd (nn := 1) (As := [.int x1]) (rest := []) (st' := [.int r5]) C dX11_run_15 (kX9_isOne l D τ q nc σ x1 r5 s6 h7) gX11_run_X9_isOne rfl (by decide +kernel) ⟨Nat.le_of_ble_eq_true rfl, Nat.le_of_ble_eq_true rfl⟩ rfl rfl ⟨Nat.zero_le _, Nat.zero_le _⟩ 3 (x_at (by omega) rfl) rfl rfl rfl (Nat.le_of_ble_eq_true rfl) rfl (pc' := 18) rfl ?_
    refine wm_istore_n (lv' := [(2, .int r5), (0, .ref (q 0)), (1, .int x1)]) C dX11_run_18 (by decide) rfl (pc' := 19) rfl ?_
    refine wm_ikonst (v := 0) C dX11_run_19 (by decide) (pc' := 20) rfl ?_
    refine wm_istore_n (lv' := [(3, .int 0), (2, .int r5), (0, .ref (q 0)), (1, .int x1)]) C dX11_run_20 (by decide) rfl (pc' := 21) rfl ?_
    refine wm_sub (lv' := [(0, .ref (q 0)), (1, .int x1), (2, .int r5), (3, .int 0)]) [2, 3, 1, 0] rfl ?_
    obtain ⟨v18, s19, h20, hf⟩ := bnd_s hf
    refine wL_21 x1 FU r5 0 s6 v18 s19 h20 ?_
    refine wm_iload_n C dX11_run_66 0 rfl (pc' := 67) rfl ?_
    refine wm_if_eq C dX11_run_67 74 (by decide) (pc' := 70) rfl (fun h21 => ?_) (fun h21 => ?_)
    · have hf := ite_t h21 hf
      refine wm_bipush (v := (-9)) C dX11_run_74 (by decide) (pc' := 76) rfl ?_
      obtain ⟨rfl, rfl⟩ := leaf_s hf
      exact wm_iret C dX11_run_76 (Nat.zero_le _) (Nat.zero_le _) FD.rf
    · have hf := ite_f h21 hf
      refine wm_iload_n C dX11_run_70 1 rfl (pc' := 71) rfl ?_
      refine wm_goto C dX11_run_71 76 (by decide) ?_
      obtain ⟨rfl, rfl⟩ := leaf_s hf
      exact wm_iret C dX11_run_76 (Nat.zero_le _) (Nat.zero_le _) FD.rf
  · have hf := ite_f (fun h => h h4) hf
    refine wm_bipush (v := (-2)) C dX11_run_7 (by decide) (pc' := 9) rfl ?_
    obtain ⟨rfl, rfl⟩ := leaf_s hf
    exact wm_iret C dX11_run_9 (Nat.zero_le _) (Nat.zero_le _) FD.rf
def fX11_ways (nc : Nat) (x1 : Int32) (σ : MS) : Option (Int32 × MS) :=
  bnd (fX11_isLeastWidth x1) (fun r1 u2 => if ¬ r1 = 0 then bnd (fX9_count nc x1 σ) (fun r5 s6 => some (r5, s6)) else some ((-2), σ))
theorem inX11_X11_ways : ∀ w ∈ wsX110, w ∈ wsX11_ways := by decide +kernel
set_option maxHeartbeats 4000000 in
set_option maxRecDepth 100000 in
theorem kX11_ways (l : Launch) (D : va_G) (τ : CId) (q : Nat → Nat) (nc : Nat) (σ : MS) (x1 : Int32) (rE : Int32) (sE : MS) (hf : fX11_ways nc x1 σ = some (rE, sE)) : Ct l D τ yX11_ways wsX11_ways { frames := 12, cells := 0, slots := 0, locals := 329 } [.ref (q 0), .int x1] (xW τ q nc σ) (FD (xW τ q nc sE) (some (.int rE))) := by
  unfold fX11_ways at hf
  refine ct_of (cc := cX11_ways) (maxL := 2) (ret := (some .int)) (by decide) rfl (Nat.le_of_ble_eq_true rfl) (fun Γ C => ?_)
  refine wm_lv (lv' := [(0, .ref (q 0)), (1, .int x1)]) rfl ?_
  refine wm_iload_n C dX11_ways_0 1 rfl (pc' := 1) rfl ?_
  obtain ⟨r1, u2, h3, hf⟩ := bnd_s hf
  refine wm_callSd (nn := 1) (As := [.int x1]) (rest := []) (st' := [.int r1]) C dX11_ways_1 (kX11_isLeastWidth l D τ x1 r1 h3) gX11_ways_X11_isLeastWidth rfl (by decide +kernel) ⟨Nat.le_of_ble_eq_true rfl, Nat.le_of_ble_eq_true rfl⟩ rfl rfl ⟨Nat.zero_le _, Nat.zero_le _⟩ rfl rfl (Nat.le_of_ble_eq_true rfl) rfl (pc' := 4) rfl ?_
  refine wm_if_ne C dX11_ways_4 10 (by decide) (pc' := 7) rfl (fun h4 => ?_) (fun h4 => ?_)
  · have hf := ite_t h4 hf
    refine wm_aload_n C dX11_ways_10 0 rfl (pc' := 11) rfl ?_
    refine x_get (v := .ref (q 62)) C dX11_ways_11 inX11_X11_ways 0 (by omega) rfl rfl 2 (by decide) (by decide +kernel) (Or.inl rfl) rfl (pc' := 14) rfl ?_
    refine wm_iload_n C dX11_ways_14 1 rfl (pc' := 15) rfl ?_
    obtain ⟨r5, s6, h7, hf⟩ := bnd_s hf
    refine wm_callVd (nn := 1) (As := [.int x1]) (rest := []) (st' := [.int r5]) C dX11_ways_15 (kX9_count l D τ q nc σ x1 r5 s6 h7) gX11_ways_X9_count rfl (by decide +kernel) ⟨Nat.le_of_ble_eq_true rfl, Nat.le_of_ble_eq_true rfl⟩ rfl rfl ⟨Nat.zero_le _, Nat.zero_le _⟩ 3 (x_at (by omega) rfl) rfl rfl rfl (Nat.le_of_ble_eq_true rfl) rfl (pc' := 18) rfl ?_
    obtain ⟨rfl, rfl⟩ := leaf_s hf
    exact wm_iret C dX11_ways_18 (Nat.zero_le _) (Nat.zero_le _) FD.rf
  · have hf := ite_f (fun h => h h4) hf
    refine wm_bipush (v := (-2)) C dX11_ways_7 (by decide) (pc' := 9) rfl ?_
    obtain ⟨rfl, rfl⟩ := leaf_s hf
    exact wm_iret C dX11_ways_9 (Nat.zero_le _) (Nat.zero_le _) FD.rf
def fX11_through (nc : Nat) (x1 : Int32) (x2 : Int32) (σ : MS) : Option (Int32 × MS) :=
  bnd (fX5_hasCrack nc x1 σ) (fun r1 s2 => if ¬ r1 = 0 then bnd (fX11_isLeastWidth x2) (fun r5 u6 => if ¬ r5 = 0 then bnd (fX9_countOver nc x1 x2 s2) (fun r9 s10 => if r9 ≤ 0 then some (0, s10) else some (1, s10)) else some ((-2), s2)) else some ((-1), s2))
theorem inX11_X11_through : ∀ w ∈ wsX110, w ∈ wsX11_through := by decide +kernel
set_option maxHeartbeats 4000000 in
set_option maxRecDepth 100000 in
theorem kX11_through (l : Launch) (D : va_G) (τ : CId) (q : Nat → Nat) (nc : Nat) (σ : MS) (x1 : Int32) (x2 : Int32) (rE : Int32) (sE : MS) (hf : fX11_through nc x1 x2 σ = some (rE, sE)) : Ct l D τ yX11_through wsX11_through { frames := 11, cells := 0, slots := 0, locals := 308 } [.ref (q 0), .int x1, .int x2] (xW τ q nc σ) (FD (xW τ q nc sE) (some (.int rE))) := by
  unfold fX11_through at hf
  refine ct_of (cc := cX11_through) (maxL := 3) (ret := (some .int)) (by decide) rfl (Nat.le_of_ble_eq_true rfl) (fun Γ C => ?_)
  refine wm_lv (lv' := [(0, .ref (q 0)), (1, .int x1), (2, .int x2)]) rfl ?_
  refine wm_aload_n C dX11_through_0 0 rfl (pc' := 1) rfl ?_
  refine x_get (v := .ref (q 60)) C dX11_through_1 inX11_X11_through 0 (by omega) rfl rfl 0 (by decide) (by decide +kernel) (Or.inl rfl) rfl (pc' := 4) rfl ?_
  refine wm_iload_n C dX11_through_4 1 rfl (pc' := 5) rfl ?_
  obtain ⟨r1, s2, h3, hf⟩ := bnd_s hf
  refine wm_callVd (nn := 1) (As := [.int x1]) (rest := []) (st' := [.int r1]) C dX11_through_5 (kX5_hasCrack l D τ q nc σ x1 r1 s2 h3) gX11_through_X5_hasCrack rfl (by decide +kernel) ⟨Nat.le_of_ble_eq_true rfl, Nat.le_of_ble_eq_true rfl⟩ rfl rfl ⟨Nat.zero_le _, Nat.zero_le _⟩ 1 (x_at (by omega) rfl) rfl rfl rfl (Nat.le_of_ble_eq_true rfl) rfl (pc' := 8) rfl ?_
  refine wm_if_ne C dX11_through_8 13 (by decide) (pc' := 11) rfl (fun h4 => ?_) (fun h4 => ?_)
  · have hf := ite_t h4 hf
    refine wm_iload_n C dX11_through_13 2 rfl (pc' := 14) rfl ?_
    obtain ⟨r5, u6, h7, hf⟩ := bnd_s hf
    refine wm_callSd (nn := 1) (As := [.int x2]) (rest := []) (st' := [.int r5]) C dX11_through_14 (kX11_isLeastWidth l D τ x2 r5 h7) gX11_through_X11_isLeastWidth rfl (by decide +kernel) ⟨Nat.le_of_ble_eq_true rfl, Nat.le_of_ble_eq_true rfl⟩ rfl rfl ⟨Nat.zero_le _, Nat.zero_le _⟩ rfl rfl (Nat.le_of_ble_eq_true rfl) rfl (pc' := 17) rfl ?_
    refine wm_if_ne C dX11_through_17 23 (by decide) (pc' := 20) rfl (fun h8 => ?_) (fun h8 => ?_)
    · have hf := ite_t h8 hf
      refine wm_aload_n C dX11_through_23 0 rfl (pc' := 24) rfl ?_
      refine x_get (v := .ref (q 62)) C dX11_through_24 inX11_X11_through 0 (by omega) rfl rfl 2 (by decide) (by decide +kernel) (Or.inl rfl) rfl (pc' := 27) rfl ?_
      refine wm_iload_n C dX11_through_27 1 rfl (pc' := 28) rfl ?_
      refine wm_iload_n C dX11_through_28 2 rfl (pc' := 29) rfl ?_
      obtain ⟨r9, s10, h11, hf⟩ := bnd_s hf
      refine wm_callVd (nn := 2) (As := [.int x1, .int x2]) (rest := []) (st' := [.int r9]) C dX11_through_29 (kX9_countOver l D τ q nc s2 x1 x2 r9 s10 h11) gX11_through_X9_countOver rfl (by decide +kernel) ⟨Nat.le_of_ble_eq_true rfl, Nat.le_of_ble_eq_true rfl⟩ rfl rfl ⟨Nat.zero_le _, Nat.zero_le _⟩ 3 (x_at (by omega) rfl) rfl rfl rfl (Nat.le_of_ble_eq_true rfl) rfl (pc' := 32) rfl ?_
      refine wm_if_le C dX11_through_32 39 (by decide) (pc' := 35) rfl (fun h12 => ?_) (fun h12 => ?_)
      · have hf := ite_t h12 hf
        refine wm_ikonst (v := 0) C dX11_through_39 (by decide) (pc' := 40) rfl ?_
        obtain ⟨rfl, rfl⟩ := leaf_s hf
        exact wm_iret C dX11_through_40 (Nat.zero_le _) (Nat.zero_le _) FD.rf
      · have hf := ite_f h12 hf
        refine wm_ikonst (v := 1) C dX11_through_35 (by decide) (pc' := 36) rfl ?_
        refine wm_goto C dX11_through_36 40 (by decide) ?_
        obtain ⟨rfl, rfl⟩ := leaf_s hf
        exact wm_iret C dX11_through_40 (Nat.zero_le _) (Nat.zero_le _) FD.rf
    · have hf := ite_f (fun h => h h8) hf
      refine wm_bipush (v := (-2)) C dX11_through_20 (by decide) (pc' := 22) rfl ?_
      obtain ⟨rfl, rfl⟩ := leaf_s hf
      exact wm_iret C dX11_through_22 (Nat.zero_le _) (Nat.zero_le _) FD.rf
  · have hf := ite_f (fun h => h h4) hf
    refine wm_ikonst (v := (-1)) C dX11_through_11 (by decide) (pc' := 12) rfl ?_
    obtain ⟨rfl, rfl⟩ := leaf_s hf
    exact wm_iret C dX11_through_12 (Nat.zero_le _) (Nat.zero_le _) FD.rf
def fX11_open_L3 (nc : Nat) : Nat → Int32 → MS → Option ((Int32 ⊕ Unit) × MS)
  | 0, _, _ => none
  | fu + 1, x1, s => if x1 ≤ 0 then some (Sum.inr (), s) else bnd (fX9_isOne nc x1 s) (fun r2 s3 => if r2 = 0 then fX11_open_L3 nc fu (x1 + (-1)) s3 else some (Sum.inl x1, s3))
theorem fX11_open_L3_s (nc : Nat) (fu : Nat) (x1 : Int32) (s : MS) : fX11_open_L3 nc (fu + 1) x1 s = (if x1 ≤ 0 then some (Sum.inr (), s) else bnd (fX9_isOne nc x1 s) (fun r2 s3 => if r2 = 0 then fX11_open_L3 nc fu (x1 + (-1)) s3 else some (Sum.inl x1, s3))) := rfl
def fX11_open (nc : Nat) (σ : MS) : Option (Int32 × MS) :=
  bnd (fX11_open_L3 nc FU 12 σ) (fun v6 s7 => Sum.elim (fun r => some (r, s7)) (fun w9 => some (0, s7)) v6)
theorem inX11_X11_open : ∀ w ∈ wsX110, w ∈ wsX11_open := by decide +kernel
set_option maxHeartbeats 4000000 in
set_option maxRecDepth 100000 in
theorem kX11_open (l : Launch) (D : va_G) (τ : CId) (q : Nat → Nat) (nc : Nat) (σ : MS) (rE : Int32) (sE : MS) (hf : fX11_open nc σ = some (rE, sE)) : Ct l D τ yX11_open wsX11_open { frames := 3, cells := 0, slots := 0, locals := 66 } [.ref (q 0)] (xW τ q nc σ) (FD (xW τ q nc sE) (some (.int rE))) := by
  unfold fX11_open at hf
  refine ct_of (cc := cX11_open) (maxL := 2) (ret := (some .int)) (by decide) rfl (Nat.le_of_ble_eq_true rfl) (fun Γ C => ?_)
  refine wm_lv (lv' := [(0, .ref (q 0))]) rfl ?_
  have wL_3 : ∀ (fu : Nat) (x1 : Int32) (s : MS) (v : (Int32 ⊕ Unit)) (s' : MS), fX11_open_L3 nc fu x1 s = some (v, s') → Sum.elim (fun r => FD (xW τ q nc sE) (some (.int rE)) (xW τ q nc s') (some (.int r))) (fun w => WM l D Γ 2 0 0 (xW τ q nc s') 26 [] []) v → WM l D Γ 2 0 0 (xW τ q nc s) 3 [(0, .ref (q 0)), (1, .int x1)] [] := by
    intro fu
    induction fu with
    | zero => intro x1 s v s' hf hE; exact absurd hf (fun h => nomatch (show (none : Option _) = some _ from h))
    | succ fu ih =>
      intro x1 s v s' hf hE
      rw [fX11_open_L3_s] at hf
      refine wm_iload_n C dX11_open_3 1 rfl (pc' := 4) rfl ?_
      refine wm_if_le C dX11_open_4 26 (by decide) (pc' := 7) rfl (fun h1 => ?_) (fun h1 => ?_)
      · have hf := ite_t h1 hf
        obtain ⟨rfl, rfl⟩ := leaf_s hf
        refine wm_sub (lv' := []) [] rfl ?_
        exact hE
      · have hf := ite_f h1 hf
        refine wm_aload_n C dX11_open_7 0 rfl (pc' := 8) rfl ?_
        refine x_get (v := .ref (q 62)) C dX11_open_8 inX11_X11_open 0 (by omega) rfl rfl 2 (by decide) (by decide +kernel) (Or.inl rfl) rfl (pc' := 11) rfl ?_
        refine wm_iload_n C dX11_open_11 1 rfl (pc' := 12) rfl ?_
        obtain ⟨r2, s3, h4, hf⟩ := bnd_s hf
        refine wm_callVd (nn := 1) (As := [.int x1]) (rest := []) (st' := [.int r2]) C dX11_open_12 (kX9_isOne l D τ q nc s x1 r2 s3 h4) gX11_open_X9_isOne rfl (by decide +kernel) ⟨Nat.le_of_ble_eq_true rfl, Nat.le_of_ble_eq_true rfl⟩ rfl rfl ⟨Nat.zero_le _, Nat.zero_le _⟩ 3 (x_at (by omega) rfl) rfl rfl rfl (Nat.le_of_ble_eq_true rfl) rfl (pc' := 15) rfl ?_
        refine wm_if_eq C dX11_open_15 20 (by decide) (pc' := 18) rfl (fun h5 => ?_) (fun h5 => ?_)
        · have hf := ite_t h5 hf
          refine wm_iinc (v := x1 + (-1)) (lv' := [(1, .int (x1 + (-1))), (0, .ref (q 0))]) C dX11_open_20 1 rfl rfl (by decide) rfl (pc' := 23) rfl ?_
          refine wm_goto C dX11_open_23 3 (by decide) ?_
          refine wm_sub (lv' := [(0, .ref (q 0)), (1, .int (x1 + (-1)))]) [1, 0] rfl ?_
          exact ih (x1 + (-1)) s3 _ _ hf hE
        · have hf := ite_f h5 hf
          refine wm_iload_n C dX11_open_18 1 rfl (pc' := 19) rfl ?_
          obtain ⟨rfl, rfl⟩ := leaf_s hf
          exact wm_iret C dX11_open_19 (Nat.zero_le _) (Nat.zero_le _) hE
  refine wm_bipush (v := 12) C dX11_open_0 (by decide) (pc' := 2) rfl ?_
  refine wm_istore_n (lv' := [(1, .int 12), (0, .ref (q 0))]) C dX11_open_2 (by decide) rfl (pc' := 3) rfl ?_
  refine wm_sub (lv' := [(0, .ref (q 0)), (1, .int 12)]) [1, 0] rfl ?_
  obtain ⟨v6, s7, h8, hf⟩ := bnd_s hf
  refine wL_3 FU 12 σ v6 s7 h8 ?_
  cases v6 with
  | inl v6 => (have hf : some (v6, s7) = some (rE, sE) := hf); obtain ⟨rfl, rfl⟩ := leaf_s hf; exact FD.rf
  | inr w9 =>
    have hf : (some (0, s7)) = some (rE, sE) := hf
    show WM l D Γ 2 0 0 (xW τ q nc s7) 26 [] []
    refine wm_ikonst (v := 0) C dX11_open_26 (by decide) (pc' := 27) rfl ?_
    obtain ⟨rfl, rfl⟩ := leaf_s hf
    exact wm_iret C dX11_open_27 (Nat.zero_le _) (Nat.zero_le _) FD.rf
def fX11_eats (nc : Nat) (x1 : Int32) (σ : MS) : Option (Int64 × MS) :=
  bnd (fX5_hasCrack nc x1 σ) (fun r1 s2 => if ¬ r1 = 0 then bnd (fX11_mealIn nc x1 ((gI s2 12) + 1) s2) (fun r5 s6 => some (r5, s6)) else some ((-9223372036854775808), s2))
theorem inX11_X11_eats : ∀ w ∈ wsX110, w ∈ wsX11_eats := by decide +kernel
theorem inX5_X11_eats : ∀ w ∈ wsX50, w ∈ wsX11_eats := by decide +kernel
set_option maxHeartbeats 4000000 in
set_option maxRecDepth 100000 in
theorem kX11_eats (l : Launch) (D : va_G) (τ : CId) (q : Nat → Nat) (nc : Nat) (σ : MS) (x1 : Int32) (rE : Int64) (sE : MS) (hf : fX11_eats nc x1 σ = some (rE, sE)) : Ct l D τ yX11_eats wsX11_eats { frames := 5, cells := 0, slots := 0, locals := 116 } [.ref (q 0), .int x1] (xW τ q nc σ) (FD (xW τ q nc sE) (some (.long rE))) := by
  unfold fX11_eats at hf
  refine ct_of (cc := cX11_eats) (maxL := 2) (ret := (some .long)) (by decide) rfl (Nat.le_of_ble_eq_true rfl) (fun Γ C => ?_)
  refine wm_lv (lv' := [(0, .ref (q 0)), (1, .int x1)]) rfl ?_
  refine wm_aload_n C dX11_eats_0 0 rfl (pc' := 1) rfl ?_
  refine x_get (v := .ref (q 60)) C dX11_eats_1 inX11_X11_eats 0 (by omega) rfl rfl 0 (by decide) (by decide +kernel) (Or.inl rfl) rfl (pc' := 4) rfl ?_
  refine wm_iload_n C dX11_eats_4 1 rfl (pc' := 5) rfl ?_
  obtain ⟨r1, s2, h3, hf⟩ := bnd_s hf
  refine wm_callVd (nn := 1) (As := [.int x1]) (rest := []) (st' := [.int r1]) C dX11_eats_5 (kX5_hasCrack l D τ q nc σ x1 r1 s2 h3) gX11_eats_X5_hasCrack rfl (by decide +kernel) ⟨Nat.le_of_ble_eq_true rfl, Nat.le_of_ble_eq_true rfl⟩ rfl rfl ⟨Nat.zero_le _, Nat.zero_le _⟩ 1 (x_at (by omega) rfl) rfl rfl rfl (Nat.le_of_ble_eq_true rfl) rfl (pc' := 8) rfl ?_
  refine wm_if_ne C dX11_eats_8 15 (by decide) (pc' := 11) rfl (fun h4 => ?_) (fun h4 => ?_)
  · have hf := ite_t h4 hf
    refine wm_aload_n C dX11_eats_15 0 rfl (pc' := 16) rfl ?_
    refine wm_iload_n C dX11_eats_16 1 rfl (pc' := 17) rfl ?_
    refine wm_aload_n C dX11_eats_17 0 rfl (pc' := 18) rfl ?_
    refine x_get (v := .ref (q 60)) C dX11_eats_18 inX11_X11_eats 0 (by omega) rfl rfl 0 (by decide) (by decide +kernel) (Or.inl rfl) rfl (pc' := 21) rfl ?_
    refine x_get (v := .int (gI s2 12)) C dX11_eats_21 inX5_X11_eats 1 (by omega) rfl rfl 5 (by decide) (by decide +kernel) (Or.inl rfl) rfl (pc' := 24) rfl ?_
    refine wm_ikonst (v := 1) C dX11_eats_24 (by decide) (pc' := 25) rfl ?_
    refine wm_iadd C dX11_eats_25 (pc' := 26) rfl ?_
    obtain ⟨r5, s6, h7, hf⟩ := bnd_s hf
    refine wm_callVd (nn := 2) (As := [.int x1, .int ((gI s2 12) + 1)]) (rest := []) (st' := [.long r5]) C dX11_eats_26 (kX11_mealIn l D τ q nc s2 x1 ((gI s2 12) + 1) r5 s6 h7) gX11_eats_X11_mealIn rfl (by decide +kernel) ⟨Nat.le_of_ble_eq_true rfl, Nat.le_of_ble_eq_true rfl⟩ rfl rfl ⟨Nat.zero_le _, Nat.zero_le _⟩ 0 (x_at (by omega) rfl) rfl rfl rfl (Nat.le_of_ble_eq_true rfl) rfl (pc' := 29) rfl ?_
    obtain ⟨rfl, rfl⟩ := leaf_s hf
    exact wm_lret C dX11_eats_29 (Nat.zero_le _) (Nat.zero_le _) FD.rf
  · have hf := ite_f (fun h => h h4) hf
    refine wm_ldc2 (v := (-9223372036854775808)) C dX11_eats_11 (by decide +kernel) (pc' := 14) rfl ?_
    obtain ⟨rfl, rfl⟩ := leaf_s hf
    exact wm_lret C dX11_eats_14 (Nat.zero_le _) (Nat.zero_le _) FD.rf
def fX11_told (nc : Nat) (x1 : Int32) (σ : MS) : Option (Int32 × MS) :=
  if x1 = 0 then some (gI σ 1, σ) else if x1 = 1 then some (gI σ 4, σ) else if x1 = 2 then some (gI σ 12, σ) else if x1 = 3 then some (gI σ 11, σ) else if x1 = 4 then bnd (fX5_heldOnes nc σ) (fun r6 s7 => bnd (fJ6_bitCount_0f7a4 r6) (fun r9 u10 => some (r9, s7))) else if x1 = 5 then bnd (fX8_dryCount nc σ) (fun r13 s14 => some (r13, s14)) else if x1 = 6 then bnd (fX5_openCount nc σ) (fun r17 s18 => some (r17, s18)) else if x1 = 7 then bnd (fX5_widthSum nc σ) (fun r21 s22 => some (r21, s22)) else some ((-2), σ)
theorem inX11_X11_told : ∀ w ∈ wsX110, w ∈ wsX11_told := by decide +kernel
theorem inX5_X11_told : ∀ w ∈ wsX50, w ∈ wsX11_told := by decide +kernel
set_option maxHeartbeats 4000000 in
set_option maxRecDepth 100000 in
theorem kX11_told (l : Launch) (D : va_G) (τ : CId) (q : Nat → Nat) (nc : Nat) (σ : MS) (x1 : Int32) (rE : Int32) (sE : MS) (hf : fX11_told nc x1 σ = some (rE, sE)) : Ct l D τ yX11_told wsX11_told { frames := 4, cells := 0, slots := 0, locals := 92 } [.ref (q 0), .int x1] (xW τ q nc σ) (FD (xW τ q nc sE) (some (.int rE))) := by
  unfold fX11_told at hf
  refine ct_of (cc := cX11_told) (maxL := 2) (ret := (some .int)) (by decide) rfl (Nat.le_of_ble_eq_true rfl) (fun Γ C => ?_)
  refine wm_lv (lv' := [(0, .ref (q 0)), (1, .int x1)]) rfl ?_
  refine wm_iload_n C dX11_told_0 1 rfl (pc' := 1) rfl ?_
  by_cases h1 : x1 = 0
  · have hf := ite_t h1 hf
    refine wm_tableIn (off := 47) C dX11_told_1 (by rw [h1]; decide) (by rw [h1]; decide) (by rw [h1]; rfl) 48 (by decide) ?_
    refine wm_aload_n C dX11_told_48 0 rfl (pc' := 49) rfl ?_
    refine x_get (v := .ref (q 60)) C dX11_told_49 inX11_X11_told 0 (by omega) rfl rfl 0 (by decide) (by decide +kernel) (Or.inl rfl) rfl (pc' := 52) rfl ?_
    refine x_get (v := .int (gI σ 1)) C dX11_told_52 inX5_X11_told 1 (by omega) rfl rfl 3 (by decide) (by decide +kernel) (Or.inl rfl) rfl (pc' := 55) rfl ?_
    obtain ⟨rfl, rfl⟩ := leaf_s hf
    exact wm_iret C dX11_told_55 (Nat.zero_le _) (Nat.zero_le _) FD.rf
  · have hf := ite_f h1 hf
    by_cases h2 : x1 = 1
    · have hf := ite_t h2 hf
      refine wm_tableIn (off := 55) C dX11_told_1 (by rw [h2]; decide) (by rw [h2]; decide) (by rw [h2]; rfl) 56 (by decide) ?_
      refine wm_aload_n C dX11_told_56 0 rfl (pc' := 57) rfl ?_
      refine x_get (v := .ref (q 60)) C dX11_told_57 inX11_X11_told 0 (by omega) rfl rfl 0 (by decide) (by decide +kernel) (Or.inl rfl) rfl (pc' := 60) rfl ?_
      refine x_get (v := .int (gI σ 4)) C dX11_told_60 inX5_X11_told 1 (by omega) rfl rfl 4 (by decide) (by decide +kernel) (Or.inl rfl) rfl (pc' := 63) rfl ?_
      obtain ⟨rfl, rfl⟩ := leaf_s hf
      exact wm_iret C dX11_told_63 (Nat.zero_le _) (Nat.zero_le _) FD.rf
    · have hf := ite_f h2 hf
      by_cases h3 : x1 = 2
      · have hf := ite_t h3 hf
        refine wm_tableIn (off := 63) C dX11_told_1 (by rw [h3]; decide) (by rw [h3]; decide) (by rw [h3]; rfl) 64 (by decide) ?_
        refine wm_aload_n C dX11_told_64 0 rfl (pc' := 65) rfl ?_
        refine x_get (v := .ref (q 60)) C dX11_told_65 inX11_X11_told 0 (by omega) rfl rfl 0 (by decide) (by decide +kernel) (Or.inl rfl) rfl (pc' := 68) rfl ?_
        refine x_get (v := .int (gI σ 12)) C dX11_told_68 inX5_X11_told 1 (by omega) rfl rfl 5 (by decide) (by decide +kernel) (Or.inl rfl) rfl (pc' := 71) rfl ?_
        obtain ⟨rfl, rfl⟩ := leaf_s hf
        exact wm_iret C dX11_told_71 (Nat.zero_le _) (Nat.zero_le _) FD.rf
      · have hf := ite_f h3 hf
        by_cases h4 : x1 = 3
        · have hf := ite_t h4 hf
          refine wm_tableIn (off := 71) C dX11_told_1 (by rw [h4]; decide) (by rw [h4]; decide) (by rw [h4]; rfl) 72 (by decide) ?_
          refine wm_aload_n C dX11_told_72 0 rfl (pc' := 73) rfl ?_
          refine x_get (v := .int (gI σ 11)) C dX11_told_73 inX11_X11_told 0 (by omega) rfl rfl 7 (by decide) (by decide +kernel) (Or.inl rfl) rfl (pc' := 76) rfl ?_
          obtain ⟨rfl, rfl⟩ := leaf_s hf
          exact wm_iret C dX11_told_76 (Nat.zero_le _) (Nat.zero_le _) FD.rf
        · have hf := ite_f h4 hf
          by_cases h5 : x1 = 4
          · have hf := ite_t h5 hf
            refine wm_tableIn (off := 76) C dX11_told_1 (by rw [h5]; decide) (by rw [h5]; decide) (by rw [h5]; rfl) 77 (by decide) ?_
            refine wm_aload_n C dX11_told_77 0 rfl (pc' := 78) rfl ?_
            refine x_get (v := .ref (q 60)) C dX11_told_78 inX11_X11_told 0 (by omega) rfl rfl 0 (by decide) (by decide +kernel) (Or.inl rfl) rfl (pc' := 81) rfl ?_
            obtain ⟨r6, s7, h8, hf⟩ := bnd_s hf
            refine wm_callVd (nn := 0) (As := []) (rest := []) (st' := [.int r6]) C dX11_told_81 (kX5_heldOnes l D τ q nc σ r6 s7 h8) gX11_told_X5_heldOnes rfl (by decide +kernel) ⟨Nat.le_of_ble_eq_true rfl, Nat.le_of_ble_eq_true rfl⟩ rfl rfl ⟨Nat.zero_le _, Nat.zero_le _⟩ 1 (x_at (by omega) rfl) rfl rfl rfl (Nat.le_of_ble_eq_true rfl) rfl (pc' := 84) rfl ?_
            obtain ⟨r9, u10, h11, hf⟩ := bnd_s hf
            refine wm_callSd (nn := 1) (As := [.int r6]) (rest := []) (st' := [.int r9]) C dX11_told_84 (kJ6_bitCount_0f7a4 l D τ r6 r9 h11) gX11_told_J6_bitCount_0f7a4 rfl (by decide +kernel) ⟨Nat.le_of_ble_eq_true rfl, Nat.le_of_ble_eq_true rfl⟩ rfl rfl ⟨Nat.zero_le _, Nat.zero_le _⟩ rfl rfl (Nat.le_of_ble_eq_true rfl) rfl (pc' := 87) rfl ?_
            obtain ⟨rfl, rfl⟩ := leaf_s hf
            exact wm_iret C dX11_told_87 (Nat.zero_le _) (Nat.zero_le _) FD.rf
          · have hf := ite_f h5 hf
            by_cases h12 : x1 = 5
            · have hf := ite_t h12 hf
              refine wm_tableIn (off := 87) C dX11_told_1 (by rw [h12]; decide) (by rw [h12]; decide) (by rw [h12]; rfl) 88 (by decide) ?_
              refine wm_aload_n C dX11_told_88 0 rfl (pc' := 89) rfl ?_
              refine x_get (v := .ref (q 61)) C dX11_told_89 inX11_X11_told 0 (by omega) rfl rfl 1 (by decide) (by decide +kernel) (Or.inl rfl) rfl (pc' := 92) rfl ?_
              obtain ⟨r13, s14, h15, hf⟩ := bnd_s hf
              refine wm_callVd (nn := 0) (As := []) (rest := []) (st' := [.int r13]) C dX11_told_92 (kX8_dryCount l D τ q nc σ r13 s14 h15) gX11_told_X8_dryCount rfl (by decide +kernel) ⟨Nat.le_of_ble_eq_true rfl, Nat.le_of_ble_eq_true rfl⟩ rfl rfl ⟨Nat.zero_le _, Nat.zero_le _⟩ 2 (x_at (by omega) rfl) rfl rfl rfl (Nat.le_of_ble_eq_true rfl) rfl (pc' := 95) rfl ?_
              obtain ⟨rfl, rfl⟩ := leaf_s hf
              exact wm_iret C dX11_told_95 (Nat.zero_le _) (Nat.zero_le _) FD.rf
            · have hf := ite_f h12 hf
              by_cases h16 : x1 = 6
              · have hf := ite_t h16 hf
                refine wm_tableIn (off := 95) C dX11_told_1 (by rw [h16]; decide) (by rw [h16]; decide) (by rw [h16]; rfl) 96 (by decide) ?_
                refine wm_aload_n C dX11_told_96 0 rfl (pc' := 97) rfl ?_
                refine x_get (v := .ref (q 60)) C dX11_told_97 inX11_X11_told 0 (by omega) rfl rfl 0 (by decide) (by decide +kernel) (Or.inl rfl) rfl (pc' := 100) rfl ?_
                obtain ⟨r17, s18, h19, hf⟩ := bnd_s hf
                refine wm_callVd (nn := 0) (As := []) (rest := []) (st' := [.int r17]) C dX11_told_100 (kX5_openCount l D τ q nc σ r17 s18 h19) gX11_told_X5_openCount rfl (by decide +kernel) ⟨Nat.le_of_ble_eq_true rfl, Nat.le_of_ble_eq_true rfl⟩ rfl rfl ⟨Nat.zero_le _, Nat.zero_le _⟩ 1 (x_at (by omega) rfl) rfl rfl rfl (Nat.le_of_ble_eq_true rfl) rfl (pc' := 103) rfl ?_
                obtain ⟨rfl, rfl⟩ := leaf_s hf
                exact wm_iret C dX11_told_103 (Nat.zero_le _) (Nat.zero_le _) FD.rf
              · have hf := ite_f h16 hf
                by_cases h20 : x1 = 7
                · have hf := ite_t h20 hf
                  refine wm_tableIn (off := 103) C dX11_told_1 (by rw [h20]; decide) (by rw [h20]; decide) (by rw [h20]; rfl) 104 (by decide) ?_
                  refine wm_aload_n C dX11_told_104 0 rfl (pc' := 105) rfl ?_
                  refine x_get (v := .ref (q 60)) C dX11_told_105 inX11_X11_told 0 (by omega) rfl rfl 0 (by decide) (by decide +kernel) (Or.inl rfl) rfl (pc' := 108) rfl ?_
                  obtain ⟨r21, s22, h23, hf⟩ := bnd_s hf
                  refine wm_callVd (nn := 0) (As := []) (rest := []) (st' := [.int r21]) C dX11_told_108 (kX5_widthSum l D τ q nc σ r21 s22 h23) gX11_told_X5_widthSum rfl (by decide +kernel) ⟨Nat.le_of_ble_eq_true rfl, Nat.le_of_ble_eq_true rfl⟩ rfl rfl ⟨Nat.zero_le _, Nat.zero_le _⟩ 1 (x_at (by omega) rfl) rfl rfl rfl (Nat.le_of_ble_eq_true rfl) rfl (pc' := 111) rfl ?_
                  obtain ⟨rfl, rfl⟩ := leaf_s hf
                  exact wm_iret C dX11_told_111 (Nat.zero_le _) (Nat.zero_le _) FD.rf
                · have hf := ite_f h20 hf
                  refine wm_tableOut C dX11_told_1 (by have a0 := i32_ne (h1); have a1 := i32_ne (h2); have a2 := i32_ne (h3); have a3 := i32_ne (h4); have a4 := i32_ne (h5); have a5 := i32_ne (h12); have a6 := i32_ne (h16); have a7 := i32_ne (h20); rw [show (0 : Int32).toInt = 0 from by decide] at a0; rw [show (1 : Int32).toInt = 1 from by decide] at a1; rw [show (2 : Int32).toInt = 2 from by decide] at a2; rw [show (3 : Int32).toInt = 3 from by decide] at a3; rw [show (4 : Int32).toInt = 4 from by decide] at a4; rw [show (5 : Int32).toInt = 5 from by decide] at a5; rw [show (6 : Int32).toInt = 6 from by decide] at a6; rw [show (7 : Int32).toInt = 7 from by decide] at a7; omega) 112 (by decide) ?_
                  refine wm_bipush (v := (-2)) C dX11_told_112 (by decide) (pc' := 114) rfl ?_
                  obtain ⟨rfl, rfl⟩ := leaf_s hf
                  exact wm_iret C dX11_told_114 (Nat.zero_le _) (Nat.zero_le _) FD.rf
def fX11_keep (nc : Nat) (σ : MS) : Option (Int32 × MS) :=
  bnd (fX4_push nc σ) (fun r1 s2 => some (gI s2 29, s2))
theorem inX11_X11_keep : ∀ w ∈ wsX110, w ∈ wsX11_keep := by decide +kernel
theorem inX4_X11_keep : ∀ w ∈ wsX40, w ∈ wsX11_keep := by decide +kernel
set_option maxHeartbeats 4000000 in
set_option maxRecDepth 100000 in
theorem kX11_keep (l : Launch) (D : va_G) (τ : CId) (q : Nat → Nat) (nc : Nat) (σ : MS) (rE : Int32) (sE : MS) (hf : fX11_keep nc σ = some (rE, sE)) : Ct l D τ yX11_keep wsX11_keep { frames := 2, cells := 0, slots := 0, locals := 45 } [.ref (q 0)] (xW τ q nc σ) (FD (xW τ q nc sE) (some (.int rE))) := by
  unfold fX11_keep at hf
  refine ct_of (cc := cX11_keep) (maxL := 1) (ret := (some .int)) (by decide) rfl (Nat.le_of_ble_eq_true rfl) (fun Γ C => ?_)
  refine wm_lv (lv' := [(0, .ref (q 0))]) rfl ?_
  refine wm_aload_n C dX11_keep_0 0 rfl (pc' := 1) rfl ?_
  refine x_get (v := .ref (q 63)) C dX11_keep_1 inX11_X11_keep 0 (by omega) rfl rfl 3 (by decide) (by decide +kernel) (Or.inl rfl) rfl (pc' := 4) rfl ?_
  refine wm_aload_n C dX11_keep_4 0 rfl (pc' := 5) rfl ?_
  refine x_get (v := .ref (q 60)) C dX11_keep_5 inX11_X11_keep 0 (by omega) rfl rfl 0 (by decide) (by decide +kernel) (Or.inl rfl) rfl (pc' := 8) rfl ?_
  obtain ⟨r1, s2, h3, hf⟩ := bnd_s hf
  refine wm_callVd (nn := 1) (As := [.ref (q 60)]) (rest := []) (st' := []) C dX11_keep_8 (kX4_push l D τ q nc σ s2 h3) gX11_keep_X4_push rfl (by decide +kernel) ⟨Nat.le_of_ble_eq_true rfl, Nat.le_of_ble_eq_true rfl⟩ rfl rfl ⟨Nat.zero_le _, Nat.zero_le _⟩ 4 (x_at (by omega) rfl) rfl rfl rfl (Nat.le_of_ble_eq_true rfl) rfl (pc' := 11) rfl ?_
  refine wm_aload_n C dX11_keep_11 0 rfl (pc' := 12) rfl ?_
  refine x_get (v := .ref (q 63)) C dX11_keep_12 inX11_X11_keep 0 (by omega) rfl rfl 3 (by decide) (by decide +kernel) (Or.inl rfl) rfl (pc' := 15) rfl ?_
  refine x_get (v := .int (gI s2 29)) C dX11_keep_15 inX4_X11_keep 4 (by omega) rfl rfl 5 (by decide) (by decide +kernel) (Or.inl rfl) rfl (pc' := 18) rfl ?_
  obtain ⟨rfl, rfl⟩ := leaf_s hf
  exact wm_iret C dX11_keep_18 (Nat.zero_le _) (Nat.zero_le _) FD.rf
def fX11_back (nc : Nat) (σ : MS) : Option (Int32 × MS) :=
  if ¬ (gI σ 29) = 0 then bnd (fX4_pop nc σ) (fun r2 s3 => some (gI s3 29, s3)) else some ((-3), σ)
theorem inX11_X11_back : ∀ w ∈ wsX110, w ∈ wsX11_back := by decide +kernel
theorem inX4_X11_back : ∀ w ∈ wsX40, w ∈ wsX11_back := by decide +kernel
set_option maxHeartbeats 4000000 in
set_option maxRecDepth 100000 in
theorem kX11_back (l : Launch) (D : va_G) (τ : CId) (q : Nat → Nat) (nc : Nat) (σ : MS) (rE : Int32) (sE : MS) (hf : fX11_back nc σ = some (rE, sE)) : Ct l D τ yX11_back wsX11_back { frames := 2, cells := 0, slots := 0, locals := 44 } [.ref (q 0)] (xW τ q nc σ) (FD (xW τ q nc sE) (some (.int rE))) := by
  unfold fX11_back at hf
  refine ct_of (cc := cX11_back) (maxL := 1) (ret := (some .int)) (by decide) rfl (Nat.le_of_ble_eq_true rfl) (fun Γ C => ?_)
  refine wm_lv (lv' := [(0, .ref (q 0))]) rfl ?_
  refine wm_aload_n C dX11_back_0 0 rfl (pc' := 1) rfl ?_
  refine x_get (v := .ref (q 63)) C dX11_back_1 inX11_X11_back 0 (by omega) rfl rfl 3 (by decide) (by decide +kernel) (Or.inl rfl) rfl (pc' := 4) rfl ?_
  refine x_get (v := .int (gI σ 29)) C dX11_back_4 inX4_X11_back 4 (by omega) rfl rfl 5 (by decide) (by decide +kernel) (Or.inl rfl) rfl (pc' := 7) rfl ?_
  refine wm_if_ne C dX11_back_7 13 (by decide) (pc' := 10) rfl (fun h1 => ?_) (fun h1 => ?_)
  · have hf := ite_t h1 hf
    refine wm_aload_n C dX11_back_13 0 rfl (pc' := 14) rfl ?_
    refine x_get (v := .ref (q 63)) C dX11_back_14 inX11_X11_back 0 (by omega) rfl rfl 3 (by decide) (by decide +kernel) (Or.inl rfl) rfl (pc' := 17) rfl ?_
    refine wm_aload_n C dX11_back_17 0 rfl (pc' := 18) rfl ?_
    refine x_get (v := .ref (q 60)) C dX11_back_18 inX11_X11_back 0 (by omega) rfl rfl 0 (by decide) (by decide +kernel) (Or.inl rfl) rfl (pc' := 21) rfl ?_
    obtain ⟨r2, s3, h4, hf⟩ := bnd_s hf
    refine wm_callVd (nn := 1) (As := [.ref (q 60)]) (rest := []) (st' := []) C dX11_back_21 (kX4_pop l D τ q nc σ s3 h4) gX11_back_X4_pop rfl (by decide +kernel) ⟨Nat.le_of_ble_eq_true rfl, Nat.le_of_ble_eq_true rfl⟩ rfl rfl ⟨Nat.zero_le _, Nat.zero_le _⟩ 4 (x_at (by omega) rfl) rfl rfl rfl (Nat.le_of_ble_eq_true rfl) rfl (pc' := 24) rfl ?_
    refine wm_aload_n C dX11_back_24 0 rfl (pc' := 25) rfl ?_
    refine x_get (v := .ref (q 63)) C dX11_back_25 inX11_X11_back 0 (by omega) rfl rfl 3 (by decide) (by decide +kernel) (Or.inl rfl) rfl (pc' := 28) rfl ?_
    refine x_get (v := .int (gI s3 29)) C dX11_back_28 inX4_X11_back 4 (by omega) rfl rfl 5 (by decide) (by decide +kernel) (Or.inl rfl) rfl (pc' := 31) rfl ?_
    obtain ⟨rfl, rfl⟩ := leaf_s hf
    exact wm_iret C dX11_back_31 (Nat.zero_le _) (Nat.zero_le _) FD.rf
  · have hf := ite_f (fun h => h h1) hf
    refine wm_bipush (v := (-3)) C dX11_back_10 (by decide) (pc' := 12) rfl ?_
    obtain ⟨rfl, rfl⟩ := leaf_s hf
    exact wm_iret C dX11_back_12 (Nat.zero_le _) (Nat.zero_le _) FD.rf
def fX11_core (nc : Nat) (x1 : Int32) (x2 : Int32) (x3 : Int32) (σ : MS) : Option (Int32 × MS) :=
  lets (sI σ 0 0) (fun s1 => bnd (fX11_isCore x1) (fun r3 u4 => if ¬ r3 = 0 then bnd (fX11_isLane x2) (fun r7 u8 => if r7 = 0 then some ((-2), s1) else if x3 ≤ 24 then if 0 ≤ x3 then if ¬ (x1 < 0 ∨ 4 ≤ x1.toNatClampNeg) then if x1.toNatClampNeg < 4 then if x1.toNatClampNeg < 4 then bnd (fX1_renew nc x1.toNatClampNeg x2 x3 s1) (fun r15 s16 => some (1, s16)) else none else none else none else bnd (fX11_faulted nc 4 s1) (fun r19 s20 => some (r19, s20)) else some ((-2), s1)) else some ((-1), s1)))
theorem inX11_X11_core : ∀ w ∈ wsX110, w ∈ wsX11_core := by decide +kernel
set_option maxHeartbeats 4000000 in
set_option maxRecDepth 100000 in
theorem kX11_core (l : Launch) (D : va_G) (τ : CId) (q : Nat → Nat) (nc : Nat) (σ : MS) (x1 : Int32) (x2 : Int32) (x3 : Int32) (rE : Int32) (sE : MS) (hf : fX11_core nc x1 x2 x3 σ = some (rE, sE)) : Ct l D τ yX11_core wsX11_core { frames := 2, cells := 0, slots := 0, locals := 46 } [.ref (q 0), .int x1, .int x2, .int x3] (xW τ q nc σ) (FD (xW τ q nc sE) (some (.int rE))) := by
  unfold fX11_core at hf
  refine ct_of (cc := cX11_core) (maxL := 4) (ret := (some .int)) (by decide) rfl (Nat.le_of_ble_eq_true rfl) (fun Γ C => ?_)
  refine wm_lv (lv' := [(0, .ref (q 0)), (1, .int x1), (2, .int x2), (3, .int x3)]) rfl ?_
  refine wm_aload_n C dX11_core_0 0 rfl (pc' := 1) rfl ?_
  refine wm_ikonst (v := 0) C dX11_core_1 (by decide) (pc' := 2) rfl ?_
  obtain ⟨s1, e2, hf⟩ := lets_s hf
  refine x_put (σ' := s1) C dX11_core_2 inX11_X11_core tyX11 tyX11_ok nmX11 0 (by omega) rfl rfl 8 (by decide) (by decide +kernel) (Or.inl rfl) rfl rfl rfl rfl (Nat.le_of_ble_eq_true rfl) (e2 ▸ xC_I0) (e2 ▸ rfl) (pc' := 5) rfl ?_
  refine wm_iload_n C dX11_core_5 1 rfl (pc' := 6) rfl ?_
  obtain ⟨r3, u4, h5, hf⟩ := bnd_s hf
  refine wm_callSd (nn := 1) (As := [.int x1]) (rest := []) (st' := [.int r3]) C dX11_core_6 (kX11_isCore l D τ x1 r3 h5) gX11_core_X11_isCore rfl (by decide +kernel) ⟨Nat.le_of_ble_eq_true rfl, Nat.le_of_ble_eq_true rfl⟩ rfl rfl ⟨Nat.zero_le _, Nat.zero_le _⟩ rfl rfl (Nat.le_of_ble_eq_true rfl) rfl (pc' := 9) rfl ?_
  refine wm_if_ne C dX11_core_9 14 (by decide) (pc' := 12) rfl (fun h6 => ?_) (fun h6 => ?_)
  · have hf := ite_t h6 hf
    refine wm_iload_n C dX11_core_14 2 rfl (pc' := 15) rfl ?_
    obtain ⟨r7, u8, h9, hf⟩ := bnd_s hf
    refine wm_callSd (nn := 1) (As := [.int x2]) (rest := []) (st' := [.int r7]) C dX11_core_15 (kX11_isLane l D τ x2 r7 h9) gX11_core_X11_isLane rfl (by decide +kernel) ⟨Nat.le_of_ble_eq_true rfl, Nat.le_of_ble_eq_true rfl⟩ rfl rfl ⟨Nat.zero_le _, Nat.zero_le _⟩ rfl rfl (Nat.le_of_ble_eq_true rfl) rfl (pc' := 18) rfl ?_
    refine wm_if_eq C dX11_core_18 27 (by decide) (pc' := 21) rfl (fun h10 => ?_) (fun h10 => ?_)
    · have hf := ite_t h10 hf
      refine wm_bipush (v := (-2)) C dX11_core_27 (by decide) (pc' := 29) rfl ?_
      obtain ⟨rfl, rfl⟩ := leaf_s hf
      exact wm_iret C dX11_core_29 (Nat.zero_le _) (Nat.zero_le _) FD.rf
    · have hf := ite_f h10 hf
      refine wm_iload_n C dX11_core_21 3 rfl (pc' := 22) rfl ?_
      refine wm_bipush (v := 24) C dX11_core_22 (by decide) (pc' := 24) rfl ?_
      refine wm_icmp_le C dX11_core_24 30 (by decide) (pc' := 27) rfl (fun h11 => ?_) (fun h11 => ?_)
      · have hf := ite_t h11 hf
        refine wm_iload_n C dX11_core_30 3 rfl (pc' := 31) rfl ?_
        refine wm_if_ge C dX11_core_31 40 (by decide) (pc' := 34) rfl (fun h12 => ?_) (fun h12 => ?_)
        · have hf := ite_t h12 hf
          refine wm_aload_n C dX11_core_40 0 rfl (pc' := 41) rfl ?_
          refine x_get (v := .ref (q 64)) C dX11_core_41 inX11_X11_core 0 (by omega) rfl rfl 4 (by decide) (by decide +kernel) (Or.inl rfl) rfl (pc' := 44) rfl ?_
          refine wm_iload_n C dX11_core_44 1 rfl (pc' := 45) rfl ?_
          obtain ⟨h13, hf⟩ := chk_s hf
          obtain ⟨h14, hf⟩ := chk_s hf
          refine wm_aald (f := refs q 80 4) (N := 4) (cA := τ.2.2.2.1) (ty := .object "WideningCracks$Core") C dX11_core_45 6 3 (x_at (by omega) rfl) rfl rfl h13 (refs_at h14) (pc' := 46) rfl ?_
          refine wm_iload_n C dX11_core_46 2 rfl (pc' := 47) rfl ?_
          refine wm_iload_n C dX11_core_47 3 rfl (pc' := 48) rfl ?_
          obtain ⟨h18, hf⟩ := chk_s hf
          obtain ⟨r15, s16, h17, hf⟩ := bnd_s hf
          refine wm_callVd (nn := 2) (As := [.int x2, .int x3]) (rest := []) (st' := []) C dX11_core_48 (kX1_renew l D τ q nc x1.toNatClampNeg s1 x2 x3 s16 h17) gX11_core_X1_renew rfl (by decide +kernel) ⟨Nat.le_of_ble_eq_true rfl, Nat.le_of_ble_eq_true rfl⟩ rfl rfl ⟨Nat.zero_le _, Nat.zero_le _⟩ (19 + x1.toNatClampNeg) (x_coreAt h18) rfl rfl rfl (Nat.le_of_ble_eq_true rfl) rfl (pc' := 51) rfl ?_
          refine wm_ikonst (v := 1) C dX11_core_51 (by decide) (pc' := 52) rfl ?_
          obtain ⟨rfl, rfl⟩ := leaf_s hf
          exact wm_iret C dX11_core_52 (Nat.zero_le _) (Nat.zero_le _) FD.rf
        · have hf := ite_f h12 hf
          refine wm_aload_n C dX11_core_34 0 rfl (pc' := 35) rfl ?_
          refine wm_ikonst (v := 4) C dX11_core_35 (by decide) (pc' := 36) rfl ?_
          obtain ⟨r19, s20, h21, hf⟩ := bnd_s hf
          refine wm_callVd (nn := 1) (As := [.int 4]) (rest := []) (st' := [.int r19]) C dX11_core_36 (kX11_faulted l D τ q nc s1 4 r19 s20 h21) gX11_core_X11_faulted rfl (by decide +kernel) ⟨Nat.le_of_ble_eq_true rfl, Nat.le_of_ble_eq_true rfl⟩ rfl rfl ⟨Nat.zero_le _, Nat.zero_le _⟩ 0 (x_at (by omega) rfl) rfl rfl rfl (Nat.le_of_ble_eq_true rfl) rfl (pc' := 39) rfl ?_
          obtain ⟨rfl, rfl⟩ := leaf_s hf
          exact wm_iret C dX11_core_39 (Nat.zero_le _) (Nat.zero_le _) FD.rf
      · have hf := ite_f h11 hf
        refine wm_bipush (v := (-2)) C dX11_core_27 (by decide) (pc' := 29) rfl ?_
        obtain ⟨rfl, rfl⟩ := leaf_s hf
        exact wm_iret C dX11_core_29 (Nat.zero_le _) (Nat.zero_le _) FD.rf
  · have hf := ite_f (fun h => h h6) hf
    refine wm_ikonst (v := (-1)) C dX11_core_12 (by decide) (pc' := 13) rfl ?_
    obtain ⟨rfl, rfl⟩ := leaf_s hf
    exact wm_iret C dX11_core_13 (Nat.zero_le _) (Nat.zero_le _) FD.rf
def fX11_lose (nc : Nat) (x1 : Int32) (σ : MS) : Option (Int32 × MS) :=
  bnd (fX11_isCore x1) (fun r1 u2 => if ¬ r1 = 0 then if ¬ (x1 < 0 ∨ 4 ≤ x1.toNatClampNeg) then if x1.toNatClampNeg < 4 then if x1.toNatClampNeg < 4 then if ¬ (gA σ 40 x1.toNatClampNeg) = 0 then if ¬ (x1 < 0 ∨ 4 ≤ x1.toNatClampNeg) then if x1.toNatClampNeg < 4 then if x1.toNatClampNeg < 4 then lets (sA σ 40 x1.toNatClampNeg 0) (fun s11 => some (1, s11)) else none else none else none else some (0, σ) else none else none else none else some ((-1), σ))
theorem inX1_X11_lose : ∀ w ∈ wsX10, w ∈ wsX11_lose := by decide +kernel
theorem inX11_X11_lose : ∀ w ∈ wsX110, w ∈ wsX11_lose := by decide +kernel
set_option maxHeartbeats 4000000 in
set_option maxRecDepth 100000 in
theorem kX11_lose (l : Launch) (D : va_G) (τ : CId) (q : Nat → Nat) (nc : Nat) (σ : MS) (x1 : Int32) (rE : Int32) (sE : MS) (hf : fX11_lose nc x1 σ = some (rE, sE)) : Ct l D τ yX11_lose wsX11_lose { frames := 2, cells := 0, slots := 0, locals := 43 } [.ref (q 0), .int x1] (xW τ q nc σ) (FD (xW τ q nc sE) (some (.int rE))) := by
  unfold fX11_lose at hf
  refine ct_of (cc := cX11_lose) (maxL := 2) (ret := (some .int)) (by decide) rfl (Nat.le_of_ble_eq_true rfl) (fun Γ C => ?_)
  refine wm_lv (lv' := [(0, .ref (q 0)), (1, .int x1)]) rfl ?_
  refine wm_iload_n C dX11_lose_0 1 rfl (pc' := 1) rfl ?_
  obtain ⟨r1, u2, h3, hf⟩ := bnd_s hf
  refine wm_callSd (nn := 1) (As := [.int x1]) (rest := []) (st' := [.int r1]) C dX11_lose_1 (kX11_isCore l D τ x1 r1 h3) gX11_lose_X11_isCore rfl (by decide +kernel) ⟨Nat.le_of_ble_eq_true rfl, Nat.le_of_ble_eq_true rfl⟩ rfl rfl ⟨Nat.zero_le _, Nat.zero_le _⟩ rfl rfl (Nat.le_of_ble_eq_true rfl) rfl (pc' := 4) rfl ?_
  refine wm_if_ne C dX11_lose_4 9 (by decide) (pc' := 7) rfl (fun h4 => ?_) (fun h4 => ?_)
  · have hf := ite_t h4 hf
    refine wm_aload_n C dX11_lose_9 0 rfl (pc' := 10) rfl ?_
    refine x_get (v := .ref (q 64)) C dX11_lose_10 inX11_X11_lose 0 (by omega) rfl rfl 4 (by decide) (by decide +kernel) (Or.inl rfl) rfl (pc' := 13) rfl ?_
    refine wm_iload_n C dX11_lose_13 1 rfl (pc' := 14) rfl ?_
    obtain ⟨h5, hf⟩ := chk_s hf
    obtain ⟨h6, hf⟩ := chk_s hf
    refine wm_aald (f := refs q 80 4) (N := 4) (cA := τ.2.2.2.1) (ty := .object "WideningCracks$Core") C dX11_lose_14 6 3 (x_at (by omega) rfl) rfl rfl h5 (refs_at h6) (pc' := 15) rfl ?_
    obtain ⟨h7, hf⟩ := chk_s hf
    refine x_getK (v := .int (gA σ 40 x1.toNatClampNeg)) C dX11_lose_15 inX1_X11_lose h7 1 (by decide) (by decide +kernel) rfl rfl (pc' := 18) rfl ?_
    refine wm_if_ne C dX11_lose_18 23 (by decide) (pc' := 21) rfl (fun h8 => ?_) (fun h8 => ?_)
    · have hf := ite_t h8 hf
      refine wm_aload_n C dX11_lose_23 0 rfl (pc' := 24) rfl ?_
      refine x_get (v := .ref (q 64)) C dX11_lose_24 inX11_X11_lose 0 (by omega) rfl rfl 4 (by decide) (by decide +kernel) (Or.inl rfl) rfl (pc' := 27) rfl ?_
      refine wm_iload_n C dX11_lose_27 1 rfl (pc' := 28) rfl ?_
      obtain ⟨h9, hf⟩ := chk_s hf
      obtain ⟨h10, hf⟩ := chk_s hf
      refine wm_aald (f := refs q 80 4) (N := 4) (cA := τ.2.2.2.1) (ty := .object "WideningCracks$Core") C dX11_lose_28 6 3 (x_at (by omega) rfl) rfl rfl h9 (refs_at h10) (pc' := 29) rfl ?_
      refine wm_ikonst (v := 0) C dX11_lose_29 (by decide) (pc' := 30) rfl ?_
      obtain ⟨h13, hf⟩ := chk_s hf
      obtain ⟨s11, e12, hf⟩ := lets_s hf
      refine x_putKt C dX11_lose_30 inX1_X11_lose h13 (by decide) (by decide) (by decide +kernel) (pc' := 33) rfl ?_
      rw [← e12]
      refine wm_ikonst (v := 1) C dX11_lose_33 (by decide) (pc' := 34) rfl ?_
      obtain ⟨rfl, rfl⟩ := leaf_s hf
      exact wm_iret C dX11_lose_34 (Nat.zero_le _) (Nat.zero_le _) FD.rf
    · have hf := ite_f (fun h => h h8) hf
      refine wm_ikonst (v := 0) C dX11_lose_21 (by decide) (pc' := 22) rfl ?_
      obtain ⟨rfl, rfl⟩ := leaf_s hf
      exact wm_iret C dX11_lose_22 (Nat.zero_le _) (Nat.zero_le _) FD.rf
  · have hf := ite_f (fun h => h h4) hf
    refine wm_ikonst (v := (-1)) C dX11_lose_7 (by decide) (pc' := 8) rfl ?_
    obtain ⟨rfl, rfl⟩ := leaf_s hf
    exact wm_iret C dX11_lose_8 (Nat.zero_le _) (Nat.zero_le _) FD.rf
def fX11_put (nc : Nat) (x1 : Int32) (x2 : Int32) (x3 : Int64) (σ : MS) : Option (Int32 × MS) :=
  lets (sI σ 0 0) (fun s1 => bnd (fX11_isCore x1) (fun r3 u4 => if ¬ r3 = 0 then if ¬ (x1 < 0 ∨ 4 ≤ x1.toNatClampNeg) then if x1.toNatClampNeg < 4 then if x1.toNatClampNeg < 4 then if ¬ (gA s1 40 x1.toNatClampNeg) = 0 then if x1.toNatClampNeg < 4 then bnd (fX1_hasCells nc x1.toNatClampNeg x2 1 s1) (fun r11 s12 => if ¬ r11 = 0 then if x1.toNatClampNeg < 4 then if x1.toNatClampNeg < 4 then bnd (fX1_cut nc x1.toNatClampNeg x3 s12) (fun r17 s18 => if x1.toNatClampNeg < 4 then if ¬ (x2 < 0 ∨ 24 ≤ x2.toNatClampNeg) then lets (sB s18 (90 + x1.toNatClampNeg) x2.toNatClampNeg r17) (fun s22 => some (1, s22)) else none else none) else none else none else bnd (fX11_faulted nc 3 s12) (fun r25 s26 => some (r25, s26))) else none else bnd (fX11_faulted nc 1 s1) (fun r28 s29 => some (r28, s29)) else none else none else none else some ((-1), s1)))
theorem inX1_X11_put : ∀ w ∈ wsX10, w ∈ wsX11_put := by decide +kernel
theorem inX11_X11_put : ∀ w ∈ wsX110, w ∈ wsX11_put := by decide +kernel
set_option maxHeartbeats 4000000 in
set_option maxRecDepth 100000 in
theorem kX11_put (l : Launch) (D : va_G) (τ : CId) (q : Nat → Nat) (nc : Nat) (σ : MS) (x1 : Int32) (x2 : Int32) (x3 : Int64) (rE : Int32) (sE : MS) (hf : fX11_put nc x1 x2 x3 σ = some (rE, sE)) : Ct l D τ yX11_put wsX11_put { frames := 2, cells := 0, slots := 0, locals := 43 } [.ref (q 0), .int x1, .int x2, .long x3] (xW τ q nc σ) (FD (xW τ q nc sE) (some (.int rE))) := by
  unfold fX11_put at hf
  refine ct_of (cc := cX11_put) (maxL := 6) (ret := (some .int)) (by decide) rfl (Nat.le_of_ble_eq_true rfl) (fun Γ C => ?_)
  refine wm_lv (lv' := [(0, .ref (q 0)), (1, .int x1), (2, .int x2), (3, .long x3)]) rfl ?_
  refine wm_aload_n C dX11_put_0 0 rfl (pc' := 1) rfl ?_
  refine wm_ikonst (v := 0) C dX11_put_1 (by decide) (pc' := 2) rfl ?_
  obtain ⟨s1, e2, hf⟩ := lets_s hf
  refine x_put (σ' := s1) C dX11_put_2 inX11_X11_put tyX11 tyX11_ok nmX11 0 (by omega) rfl rfl 8 (by decide) (by decide +kernel) (Or.inl rfl) rfl rfl rfl rfl (Nat.le_of_ble_eq_true rfl) (e2 ▸ xC_I0) (e2 ▸ rfl) (pc' := 5) rfl ?_
  refine wm_iload_n C dX11_put_5 1 rfl (pc' := 6) rfl ?_
  obtain ⟨r3, u4, h5, hf⟩ := bnd_s hf
  refine wm_callSd (nn := 1) (As := [.int x1]) (rest := []) (st' := [.int r3]) C dX11_put_6 (kX11_isCore l D τ x1 r3 h5) gX11_put_X11_isCore rfl (by decide +kernel) ⟨Nat.le_of_ble_eq_true rfl, Nat.le_of_ble_eq_true rfl⟩ rfl rfl ⟨Nat.zero_le _, Nat.zero_le _⟩ rfl rfl (Nat.le_of_ble_eq_true rfl) rfl (pc' := 9) rfl ?_
  refine wm_if_ne C dX11_put_9 14 (by decide) (pc' := 12) rfl (fun h6 => ?_) (fun h6 => ?_)
  · have hf := ite_t h6 hf
    refine wm_aload_n C dX11_put_14 0 rfl (pc' := 15) rfl ?_
    refine x_get (v := .ref (q 64)) C dX11_put_15 inX11_X11_put 0 (by omega) rfl rfl 4 (by decide) (by decide +kernel) (Or.inl rfl) rfl (pc' := 18) rfl ?_
    refine wm_iload_n C dX11_put_18 1 rfl (pc' := 19) rfl ?_
    obtain ⟨h7, hf⟩ := chk_s hf
    obtain ⟨h8, hf⟩ := chk_s hf
    refine wm_aald (f := refs q 80 4) (N := 4) (cA := τ.2.2.2.1) (ty := .object "WideningCracks$Core") C dX11_put_19 6 3 (x_at (by omega) rfl) rfl rfl h7 (refs_at h8) (pc' := 20) rfl ?_
    refine wm_astore (lv' := [(5, .ref (q (80 + x1.toNatClampNeg))), (0, .ref (q 0)), (1, .int x1), (2, .int x2), (3, .long x3)]) C dX11_put_20 (by decide) rfl (pc' := 22) rfl ?_
    refine wm_aload C dX11_put_22 0 rfl (pc' := 24) rfl ?_
    obtain ⟨h9, hf⟩ := chk_s hf
    refine x_getK (v := .int (gA s1 40 x1.toNatClampNeg)) C dX11_put_24 inX1_X11_put h9 1 (by decide) (by decide +kernel) rfl rfl (pc' := 27) rfl ?_
    refine wm_if_ne C dX11_put_27 36 (by decide) (pc' := 30) rfl (fun h10 => ?_) (fun h10 => ?_)
    · have hf := ite_t h10 hf
      refine wm_aload C dX11_put_36 0 rfl (pc' := 38) rfl ?_
      refine wm_iload_n C dX11_put_38 3 rfl (pc' := 39) rfl ?_
      refine wm_ikonst (v := 1) C dX11_put_39 (by decide) (pc' := 40) rfl ?_
      obtain ⟨h14, hf⟩ := chk_s hf
      obtain ⟨r11, s12, h13, hf⟩ := bnd_s hf
      refine wm_callVd (nn := 2) (As := [.int x2, .int 1]) (rest := []) (st' := [.int r11]) C dX11_put_40 (kX1_hasCells l D τ q nc x1.toNatClampNeg s1 x2 1 r11 s12 h13) gX11_put_X1_hasCells rfl (by decide +kernel) ⟨Nat.le_of_ble_eq_true rfl, Nat.le_of_ble_eq_true rfl⟩ rfl rfl ⟨Nat.zero_le _, Nat.zero_le _⟩ (19 + x1.toNatClampNeg) (x_coreAt h14) rfl rfl rfl (Nat.le_of_ble_eq_true rfl) rfl (pc' := 43) rfl ?_
      refine wm_if_ne C dX11_put_43 52 (by decide) (pc' := 46) rfl (fun h15 => ?_) (fun h15 => ?_)
      · have hf := ite_t h15 hf
        refine wm_aload C dX11_put_52 0 rfl (pc' := 54) rfl ?_
        obtain ⟨h16, hf⟩ := chk_s hf
        refine x_getK (v := .ref (q (90 + x1.toNatClampNeg))) C dX11_put_54 inX1_X11_put h16 0 (by decide) (by decide +kernel) rfl rfl (pc' := 57) rfl ?_
        refine wm_iload_n C dX11_put_57 3 rfl (pc' := 58) rfl ?_
        refine wm_aload C dX11_put_58 0 rfl (pc' := 60) rfl ?_
        refine wm_lload_n C dX11_put_60 4 rfl (pc' := 61) rfl ?_
        obtain ⟨h20, hf⟩ := chk_s hf
        obtain ⟨r17, s18, h19, hf⟩ := bnd_s hf
        refine wm_callVd (nn := 1) (As := [.long x3]) (rest := [.int x2, .ref (q (90 + x1.toNatClampNeg))]) (st' := [.long r17, .int x2, .ref (q (90 + x1.toNatClampNeg))]) C dX11_put_61 (kX1_cut l D τ q nc x1.toNatClampNeg s12 x3 r17 s18 h19) gX11_put_X1_cut rfl (by decide +kernel) ⟨Nat.le_of_ble_eq_true rfl, Nat.le_of_ble_eq_true rfl⟩ rfl rfl ⟨Nat.zero_le _, Nat.zero_le _⟩ (19 + x1.toNatClampNeg) (x_coreAt h20) rfl rfl rfl (Nat.le_of_ble_eq_true rfl) rfl (pc' := 64) rfl ?_
        obtain ⟨h24, hf⟩ := chk_s hf
        obtain ⟨h21, hf⟩ := chk_s hf
        obtain ⟨s22, e23, hf⟩ := lets_s hf
        refine wm_last (f := gB s18 (90 + x1.toNatClampNeg)) (N := 24) (cA := τ.2.1) C dX11_put_64 (23 + x1.toNatClampNeg) (x_at (by omega) (xC_cells h24)) rfl h21 (Wd' := xW τ q nc s22) (xW_set (e23 ▸ (xC_Bcells h24)) (by rw [e23, xC_cells h24, gB_eq])) (pc' := 65) rfl ?_
        refine wm_ikonst (v := 1) C dX11_put_65 (by decide) (pc' := 66) rfl ?_
        obtain ⟨rfl, rfl⟩ := leaf_s hf
        exact wm_iret C dX11_put_66 (Nat.zero_le _) (Nat.zero_le _) FD.rf
      · have hf := ite_f (fun h => h h15) hf
        refine wm_aload_n C dX11_put_46 1 rfl (pc' := 47) rfl ?_
        refine wm_ikonst (v := 3) C dX11_put_47 (by decide) (pc' := 48) rfl ?_
        obtain ⟨r25, s26, h27, hf⟩ := bnd_s hf
        refine wm_callVd (nn := 1) (As := [.int 3]) (rest := []) (st' := [.int r25]) C dX11_put_48 (kX11_faulted l D τ q nc s12 3 r25 s26 h27) gX11_put_X11_faulted rfl (by decide +kernel) ⟨Nat.le_of_ble_eq_true rfl, Nat.le_of_ble_eq_true rfl⟩ rfl rfl ⟨Nat.zero_le _, Nat.zero_le _⟩ 0 (x_at (by omega) rfl) rfl rfl rfl (Nat.le_of_ble_eq_true rfl) rfl (pc' := 51) rfl ?_
        obtain ⟨rfl, rfl⟩ := leaf_s hf
        exact wm_iret C dX11_put_51 (Nat.zero_le _) (Nat.zero_le _) FD.rf
    · have hf := ite_f (fun h => h h10) hf
      refine wm_aload_n C dX11_put_30 1 rfl (pc' := 31) rfl ?_
      refine wm_ikonst (v := 1) C dX11_put_31 (by decide) (pc' := 32) rfl ?_
      obtain ⟨r28, s29, h30, hf⟩ := bnd_s hf
      refine wm_callVd (nn := 1) (As := [.int 1]) (rest := []) (st' := [.int r28]) C dX11_put_32 (kX11_faulted l D τ q nc s1 1 r28 s29 h30) gX11_put_X11_faulted rfl (by decide +kernel) ⟨Nat.le_of_ble_eq_true rfl, Nat.le_of_ble_eq_true rfl⟩ rfl rfl ⟨Nat.zero_le _, Nat.zero_le _⟩ 0 (x_at (by omega) rfl) rfl rfl rfl (Nat.le_of_ble_eq_true rfl) rfl (pc' := 35) rfl ?_
      obtain ⟨rfl, rfl⟩ := leaf_s hf
      exact wm_iret C dX11_put_35 (Nat.zero_le _) (Nat.zero_le _) FD.rf
  · have hf := ite_f (fun h => h h6) hf
    refine wm_ikonst (v := (-1)) C dX11_put_12 (by decide) (pc' := 13) rfl ?_
    obtain ⟨rfl, rfl⟩ := leaf_s hf
    exact wm_iret C dX11_put_13 (Nat.zero_le _) (Nat.zero_le _) FD.rf
def fX11_cell (nc : Nat) (x1 : Int32) (x2 : Int32) (x3 : Int32) (σ : MS) : Option (Int64 × MS) :=
  lets (sI σ 0 0) (fun s1 => bnd (fX11_isCore x1) (fun r3 u4 => if r3 = 0 then some ((-9223372036854775808), s1) else bnd (fX11_isLane x3) (fun r7 u8 => if ¬ r7 = 0 then if ¬ (x1 < 0 ∨ 4 ≤ x1.toNatClampNeg) then if x1.toNatClampNeg < 4 then if x1.toNatClampNeg < 4 then bnd (fX1_isOfAnotherLane nc x1.toNatClampNeg x3 s1) (fun r13 s14 => if r13 = 0 then if x1.toNatClampNeg < 4 then if ¬ (gA s14 40 x1.toNatClampNeg) = 0 then if x1.toNatClampNeg < 4 then bnd (fX1_hasCells nc x1.toNatClampNeg x2 1 s14) (fun r20 s21 => if ¬ r20 = 0 then if x1.toNatClampNeg < 4 then if x1.toNatClampNeg < 4 then if ¬ (x2 < 0 ∨ 24 ≤ x2.toNatClampNeg) then some (gB s21 (90 + x1.toNatClampNeg) x2.toNatClampNeg, s21) else none else none else none else bnd (fX11_lost nc 3 s21) (fun r28 s29 => some (r28, s29))) else none else bnd (fX11_lost nc 1 s14) (fun r31 s32 => some (r31, s32)) else none else bnd (fX11_lost nc 2 s14) (fun r34 s35 => some (r34, s35))) else none else none else none else some ((-9223372036854775808), s1))))
theorem inX1_X11_cell : ∀ w ∈ wsX10, w ∈ wsX11_cell := by decide +kernel
theorem inX11_X11_cell : ∀ w ∈ wsX110, w ∈ wsX11_cell := by decide +kernel
set_option maxHeartbeats 4000000 in
set_option maxRecDepth 100000 in
theorem kX11_cell (l : Launch) (D : va_G) (τ : CId) (q : Nat → Nat) (nc : Nat) (σ : MS) (x1 : Int32) (x2 : Int32) (x3 : Int32) (rE : Int64) (sE : MS) (hf : fX11_cell nc x1 x2 x3 σ = some (rE, sE)) : Ct l D τ yX11_cell wsX11_cell { frames := 2, cells := 0, slots := 0, locals := 43 } [.ref (q 0), .int x1, .int x2, .int x3] (xW τ q nc σ) (FD (xW τ q nc sE) (some (.long rE))) := by
  unfold fX11_cell at hf
  refine ct_of (cc := cX11_cell) (maxL := 5) (ret := (some .long)) (by decide) rfl (Nat.le_of_ble_eq_true rfl) (fun Γ C => ?_)
  refine wm_lv (lv' := [(0, .ref (q 0)), (1, .int x1), (2, .int x2), (3, .int x3)]) rfl ?_
  refine wm_aload_n C dX11_cell_0 0 rfl (pc' := 1) rfl ?_
  refine wm_ikonst (v := 0) C dX11_cell_1 (by decide) (pc' := 2) rfl ?_
  obtain ⟨s1, e2, hf⟩ := lets_s hf
  refine x_put (σ' := s1) C dX11_cell_2 inX11_X11_cell tyX11 tyX11_ok nmX11 0 (by omega) rfl rfl 8 (by decide) (by decide +kernel) (Or.inl rfl) rfl rfl rfl rfl (Nat.le_of_ble_eq_true rfl) (e2 ▸ xC_I0) (e2 ▸ rfl) (pc' := 5) rfl ?_
  refine wm_iload_n C dX11_cell_5 1 rfl (pc' := 6) rfl ?_
  obtain ⟨r3, u4, h5, hf⟩ := bnd_s hf
  refine wm_callSd (nn := 1) (As := [.int x1]) (rest := []) (st' := [.int r3]) C dX11_cell_6 (kX11_isCore l D τ x1 r3 h5) gX11_cell_X11_isCore rfl (by decide +kernel) ⟨Nat.le_of_ble_eq_true rfl, Nat.le_of_ble_eq_true rfl⟩ rfl rfl ⟨Nat.zero_le _, Nat.zero_le _⟩ rfl rfl (Nat.le_of_ble_eq_true rfl) rfl (pc' := 9) rfl ?_
  refine wm_if_eq C dX11_cell_9 19 (by decide) (pc' := 12) rfl (fun h6 => ?_) (fun h6 => ?_)
  · have hf := ite_t h6 hf
    refine wm_ldc2 (v := (-9223372036854775808)) C dX11_cell_19 (by decide +kernel) (pc' := 22) rfl ?_
    obtain ⟨rfl, rfl⟩ := leaf_s hf
    exact wm_lret C dX11_cell_22 (Nat.zero_le _) (Nat.zero_le _) FD.rf
  · have hf := ite_f h6 hf
    refine wm_iload_n C dX11_cell_12 3 rfl (pc' := 13) rfl ?_
    obtain ⟨r7, u8, h9, hf⟩ := bnd_s hf
    refine wm_callSd (nn := 1) (As := [.int x3]) (rest := []) (st' := [.int r7]) C dX11_cell_13 (kX11_isLane l D τ x3 r7 h9) gX11_cell_X11_isLane rfl (by decide +kernel) ⟨Nat.le_of_ble_eq_true rfl, Nat.le_of_ble_eq_true rfl⟩ rfl rfl ⟨Nat.zero_le _, Nat.zero_le _⟩ rfl rfl (Nat.le_of_ble_eq_true rfl) rfl (pc' := 16) rfl ?_
    refine wm_if_ne C dX11_cell_16 23 (by decide) (pc' := 19) rfl (fun h10 => ?_) (fun h10 => ?_)
    · have hf := ite_t h10 hf
      refine wm_aload_n C dX11_cell_23 0 rfl (pc' := 24) rfl ?_
      refine x_get (v := .ref (q 64)) C dX11_cell_24 inX11_X11_cell 0 (by omega) rfl rfl 4 (by decide) (by decide +kernel) (Or.inl rfl) rfl (pc' := 27) rfl ?_
      refine wm_iload_n C dX11_cell_27 1 rfl (pc' := 28) rfl ?_
      obtain ⟨h11, hf⟩ := chk_s hf
      obtain ⟨h12, hf⟩ := chk_s hf
      refine wm_aald (f := refs q 80 4) (N := 4) (cA := τ.2.2.2.1) (ty := .object "WideningCracks$Core") C dX11_cell_28 6 3 (x_at (by omega) rfl) rfl rfl h11 (refs_at h12) (pc' := 29) rfl ?_
      refine wm_astore (lv' := [(4, .ref (q (80 + x1.toNatClampNeg))), (0, .ref (q 0)), (1, .int x1), (2, .int x2), (3, .int x3)]) C dX11_cell_29 (by decide) rfl (pc' := 31) rfl ?_
      refine wm_aload C dX11_cell_31 0 rfl (pc' := 33) rfl ?_
      refine wm_iload_n C dX11_cell_33 4 rfl (pc' := 34) rfl ?_
      obtain ⟨h16, hf⟩ := chk_s hf
      obtain ⟨r13, s14, h15, hf⟩ := bnd_s hf
      refine wm_callVd (nn := 1) (As := [.int x3]) (rest := []) (st' := [.int r13]) C dX11_cell_34 (kX1_isOfAnotherLane l D τ q nc x1.toNatClampNeg s1 x3 r13 s14 h15) gX11_cell_X1_isOfAnotherLane rfl (by decide +kernel) ⟨Nat.le_of_ble_eq_true rfl, Nat.le_of_ble_eq_true rfl⟩ rfl rfl ⟨Nat.zero_le _, Nat.zero_le _⟩ (19 + x1.toNatClampNeg) (x_coreAt h16) rfl rfl rfl (Nat.le_of_ble_eq_true rfl) rfl (pc' := 37) rfl ?_
      refine wm_if_eq C dX11_cell_37 46 (by decide) (pc' := 40) rfl (fun h17 => ?_) (fun h17 => ?_)
      · have hf := ite_t h17 hf
        refine wm_aload C dX11_cell_46 0 rfl (pc' := 48) rfl ?_
        obtain ⟨h18, hf⟩ := chk_s hf
        refine x_getK (v := .int (gA s14 40 x1.toNatClampNeg)) C dX11_cell_48 inX1_X11_cell h18 1 (by decide) (by decide +kernel) rfl rfl (pc' := 51) rfl ?_
        refine wm_if_ne C dX11_cell_51 60 (by decide) (pc' := 54) rfl (fun h19 => ?_) (fun h19 => ?_)
        · have hf := ite_t h19 hf
          refine wm_aload C dX11_cell_60 0 rfl (pc' := 62) rfl ?_
          refine wm_iload_n C dX11_cell_62 3 rfl (pc' := 63) rfl ?_
          refine wm_ikonst (v := 1) C dX11_cell_63 (by decide) (pc' := 64) rfl ?_
          obtain ⟨h23, hf⟩ := chk_s hf
          obtain ⟨r20, s21, h22, hf⟩ := bnd_s hf
          refine wm_callVd (nn := 2) (As := [.int x2, .int 1]) (rest := []) (st' := [.int r20]) C dX11_cell_64 (kX1_hasCells l D τ q nc x1.toNatClampNeg s14 x2 1 r20 s21 h22) gX11_cell_X1_hasCells rfl (by decide +kernel) ⟨Nat.le_of_ble_eq_true rfl, Nat.le_of_ble_eq_true rfl⟩ rfl rfl ⟨Nat.zero_le _, Nat.zero_le _⟩ (19 + x1.toNatClampNeg) (x_coreAt h23) rfl rfl rfl (Nat.le_of_ble_eq_true rfl) rfl (pc' := 67) rfl ?_
          refine wm_if_ne C dX11_cell_67 76 (by decide) (pc' := 70) rfl (fun h24 => ?_) (fun h24 => ?_)
          · have hf := ite_t h24 hf
            refine wm_aload C dX11_cell_76 0 rfl (pc' := 78) rfl ?_
            obtain ⟨h25, hf⟩ := chk_s hf
            refine x_getK (v := .ref (q (90 + x1.toNatClampNeg))) C dX11_cell_78 inX1_X11_cell h25 0 (by decide) (by decide +kernel) rfl rfl (pc' := 81) rfl ?_
            refine wm_iload_n C dX11_cell_81 3 rfl (pc' := 82) rfl ?_
            obtain ⟨h27, hf⟩ := chk_s hf
            obtain ⟨h26, hf⟩ := chk_s hf
            refine wm_lald (f := gB s21 (90 + x1.toNatClampNeg)) (N := 24) (cA := τ.2.1) C dX11_cell_82 (23 + x1.toNatClampNeg) (x_at (by omega) (xC_cells h27)) rfl h26 (pc' := 83) rfl ?_
            obtain ⟨rfl, rfl⟩ := leaf_s hf
            exact wm_lret C dX11_cell_83 (Nat.zero_le _) (Nat.zero_le _) FD.rf
          · have hf := ite_f (fun h => h h24) hf
            refine wm_aload_n C dX11_cell_70 1 rfl (pc' := 71) rfl ?_
            refine wm_ikonst (v := 3) C dX11_cell_71 (by decide) (pc' := 72) rfl ?_
            obtain ⟨r28, s29, h30, hf⟩ := bnd_s hf
            refine wm_callVd (nn := 1) (As := [.int 3]) (rest := []) (st' := [.long r28]) C dX11_cell_72 (kX11_lost l D τ q nc s21 3 r28 s29 h30) gX11_cell_X11_lost rfl (by decide +kernel) ⟨Nat.le_of_ble_eq_true rfl, Nat.le_of_ble_eq_true rfl⟩ rfl rfl ⟨Nat.zero_le _, Nat.zero_le _⟩ 0 (x_at (by omega) rfl) rfl rfl rfl (Nat.le_of_ble_eq_true rfl) rfl (pc' := 75) rfl ?_
            obtain ⟨rfl, rfl⟩ := leaf_s hf
            exact wm_lret C dX11_cell_75 (Nat.zero_le _) (Nat.zero_le _) FD.rf
        · have hf := ite_f (fun h => h h19) hf
          refine wm_aload_n C dX11_cell_54 1 rfl (pc' := 55) rfl ?_
          refine wm_ikonst (v := 1) C dX11_cell_55 (by decide) (pc' := 56) rfl ?_
          obtain ⟨r31, s32, h33, hf⟩ := bnd_s hf
          refine wm_callVd (nn := 1) (As := [.int 1]) (rest := []) (st' := [.long r31]) C dX11_cell_56 (kX11_lost l D τ q nc s14 1 r31 s32 h33) gX11_cell_X11_lost rfl (by decide +kernel) ⟨Nat.le_of_ble_eq_true rfl, Nat.le_of_ble_eq_true rfl⟩ rfl rfl ⟨Nat.zero_le _, Nat.zero_le _⟩ 0 (x_at (by omega) rfl) rfl rfl rfl (Nat.le_of_ble_eq_true rfl) rfl (pc' := 59) rfl ?_
          obtain ⟨rfl, rfl⟩ := leaf_s hf
          exact wm_lret C dX11_cell_59 (Nat.zero_le _) (Nat.zero_le _) FD.rf
      · have hf := ite_f h17 hf
        refine wm_aload_n C dX11_cell_40 1 rfl (pc' := 41) rfl ?_
        refine wm_ikonst (v := 2) C dX11_cell_41 (by decide) (pc' := 42) rfl ?_
        obtain ⟨r34, s35, h36, hf⟩ := bnd_s hf
        refine wm_callVd (nn := 1) (As := [.int 2]) (rest := []) (st' := [.long r34]) C dX11_cell_42 (kX11_lost l D τ q nc s14 2 r34 s35 h36) gX11_cell_X11_lost rfl (by decide +kernel) ⟨Nat.le_of_ble_eq_true rfl, Nat.le_of_ble_eq_true rfl⟩ rfl rfl ⟨Nat.zero_le _, Nat.zero_le _⟩ 0 (x_at (by omega) rfl) rfl rfl rfl (Nat.le_of_ble_eq_true rfl) rfl (pc' := 45) rfl ?_
        obtain ⟨rfl, rfl⟩ := leaf_s hf
        exact wm_lret C dX11_cell_45 (Nat.zero_le _) (Nat.zero_le _) FD.rf
    · have hf := ite_f (fun h => h h10) hf
      refine wm_ldc2 (v := (-9223372036854775808)) C dX11_cell_19 (by decide +kernel) (pc' := 22) rfl ?_
      obtain ⟨rfl, rfl⟩ := leaf_s hf
      exact wm_lret C dX11_cell_22 (Nat.zero_le _) (Nat.zero_le _) FD.rf
def fX11_copy_J53 (nc : Nat) (s : MS) : Option (Int32 × MS) :=
  bnd (fX11_faulted nc 1 s) (fun r17 s18 => some (r17, s18))
def fX11_copy_J106 (nc : Nat) (s : MS) : Option (Int32 × MS) :=
  bnd (fX11_faulted nc 3 s) (fun r26 s27 => some (r26, s27))
def fX11_copy (nc : Nat) (x1 : Int32) (x2 : Int32) (x3 : Int32) (x4 : Int32) (x5 : Int32) (σ : MS) : Option (Int32 × MS) :=
  lets (sI σ 0 0) (fun s1 => bnd (fX11_isCore x1) (fun r3 u4 => if r3 = 0 then some ((-1), s1) else bnd (fX11_isCore x3) (fun r7 u8 => if ¬ r7 = 0 then if ¬ (x1 < 0 ∨ 4 ≤ x1.toNatClampNeg) then if x1.toNatClampNeg < 4 then if ¬ (x3 < 0 ∨ 4 ≤ x3.toNatClampNeg) then if x3.toNatClampNeg < 4 then if x1.toNatClampNeg < 4 then if (gA s1 40 x1.toNatClampNeg) = 0 then fX11_copy_J53 nc s1 else if x3.toNatClampNeg < 4 then if ¬ (gA s1 40 x3.toNatClampNeg) = 0 then if x1.toNatClampNeg < 4 then if x3.toNatClampNeg < 4 then if (gA s1 41 x1.toNatClampNeg) = (gA s1 41 x3.toNatClampNeg) then if x5 < 0 then fX11_copy_J106 nc s1 else if x1.toNatClampNeg < 4 then bnd (fX1_hasCells nc x1.toNatClampNeg x2 x5 s1) (fun r29 s30 => if r29 = 0 then fX11_copy_J106 nc s30 else if x3.toNatClampNeg < 4 then bnd (fX1_hasCells nc x3.toNatClampNeg x4 x5 s30) (fun r34 s35 => if ¬ r34 = 0 then if x1.toNatClampNeg < 4 then if x3.toNatClampNeg < 4 then if x1.toNatClampNeg < 4 then if x3.toNatClampNeg < 4 then if (¬ x2 < 0 ∧ ¬ x4 < 0 ∧ ¬ x5 < 0) ∧ x2.toNatClampNeg + x5.toNatClampNeg ≤ 24 ∧ x4.toNatClampNeg + x5.toNatClampNeg ≤ 24 then lets (sBR s35 (90 + x3.toNatClampNeg) (va_cpy (gB s35 (90 + x1.toNatClampNeg)) (gB s35 (90 + x3.toNatClampNeg)) x2.toNatClampNeg x4.toNatClampNeg x5.toNatClampNeg)) (fun s44 => some (x5, s44)) else none else none else none else none else none else fX11_copy_J106 nc s35) else none) else none else bnd (fX11_faulted nc 2 s1) (fun r46 s47 => some (r46, s47)) else none else none else fX11_copy_J53 nc s1 else none else none else none else none else none else none else some ((-1), s1))))
theorem inX1_X11_copy : ∀ w ∈ wsX10, w ∈ wsX11_copy := by decide +kernel
theorem inX11_X11_copy : ∀ w ∈ wsX110, w ∈ wsX11_copy := by decide +kernel
set_option maxHeartbeats 4000000 in
set_option maxRecDepth 100000 in
theorem kX11_copy (l : Launch) (D : va_G) (τ : CId) (q : Nat → Nat) (nc : Nat) (σ : MS) (x1 : Int32) (x2 : Int32) (x3 : Int32) (x4 : Int32) (x5 : Int32) (rE : Int32) (sE : MS) (hf : fX11_copy nc x1 x2 x3 x4 x5 σ = some (rE, sE)) : Ct l D τ yX11_copy wsX11_copy { frames := 2, cells := 0, slots := 0, locals := 64 } [.ref (q 0), .int x1, .int x2, .int x3, .int x4, .int x5] (xW τ q nc σ) (FD (xW τ q nc sE) (some (.int rE))) := by
  unfold fX11_copy at hf
  refine ct_of (cc := cX11_copy) (maxL := 8) (ret := (some .int)) (by decide) rfl (Nat.le_of_ble_eq_true rfl) (fun Γ C => ?_)
  refine wm_lv (lv' := [(0, .ref (q 0)), (1, .int x1), (2, .int x2), (3, .int x3), (4, .int x4), (5, .int x5)]) rfl ?_
  have wJ_53 : ∀ (s : MS), fX11_copy_J53 nc s = some (rE, sE) → WM l D Γ 8 0 0 (xW τ q nc s) 53 [(0, .ref (q 0))] [] := by
    intro  s hf
    unfold fX11_copy_J53 at hf
    refine wm_aload_n C dX11_copy_53 0 rfl (pc' := 54) rfl ?_
    refine wm_ikonst (v := 1) C dX11_copy_54 (by decide) (pc' := 55) rfl ?_
    obtain ⟨r17, s18, h19, hf⟩ := bnd_s hf
    refine wm_callVd (nn := 1) (As := [.int 1]) (rest := []) (st' := [.int r17]) C dX11_copy_55 (kX11_faulted l D τ q nc s 1 r17 s18 h19) gX11_copy_X11_faulted rfl (by decide +kernel) ⟨Nat.le_of_ble_eq_true rfl, Nat.le_of_ble_eq_true rfl⟩ rfl rfl ⟨Nat.zero_le _, Nat.zero_le _⟩ 0 (x_at (by omega) rfl) rfl rfl rfl (Nat.le_of_ble_eq_true rfl) rfl (pc' := 58) rfl ?_
    obtain ⟨rfl, rfl⟩ := leaf_s hf
    exact wm_iret C dX11_copy_58 (Nat.zero_le _) (Nat.zero_le _) FD.rf
  have wJ_106 : ∀ (s : MS), fX11_copy_J106 nc s = some (rE, sE) → WM l D Γ 8 0 0 (xW τ q nc s) 106 [(0, .ref (q 0))] [] := by
    intro  s hf
    unfold fX11_copy_J106 at hf
    refine wm_aload_n C dX11_copy_106 0 rfl (pc' := 107) rfl ?_
    refine wm_ikonst (v := 3) C dX11_copy_107 (by decide) (pc' := 108) rfl ?_
    obtain ⟨r26, s27, h28, hf⟩ := bnd_s hf
    refine wm_callVd (nn := 1) (As := [.int 3]) (rest := []) (st' := [.int r26]) C dX11_copy_108 (kX11_faulted l D τ q nc s 3 r26 s27 h28) gX11_copy_X11_faulted rfl (by decide +kernel) ⟨Nat.le_of_ble_eq_true rfl, Nat.le_of_ble_eq_true rfl⟩ rfl rfl ⟨Nat.zero_le _, Nat.zero_le _⟩ 0 (x_at (by omega) rfl) rfl rfl rfl (Nat.le_of_ble_eq_true rfl) rfl (pc' := 111) rfl ?_
    obtain ⟨rfl, rfl⟩ := leaf_s hf
    exact wm_iret C dX11_copy_111 (Nat.zero_le _) (Nat.zero_le _) FD.rf
  refine wm_aload_n C dX11_copy_0 0 rfl (pc' := 1) rfl ?_
  refine wm_ikonst (v := 0) C dX11_copy_1 (by decide) (pc' := 2) rfl ?_
  obtain ⟨s1, e2, hf⟩ := lets_s hf
  refine x_put (σ' := s1) C dX11_copy_2 inX11_X11_copy tyX11 tyX11_ok nmX11 0 (by omega) rfl rfl 8 (by decide) (by decide +kernel) (Or.inl rfl) rfl rfl rfl rfl (Nat.le_of_ble_eq_true rfl) (e2 ▸ xC_I0) (e2 ▸ rfl) (pc' := 5) rfl ?_
  refine wm_iload_n C dX11_copy_5 1 rfl (pc' := 6) rfl ?_
  obtain ⟨r3, u4, h5, hf⟩ := bnd_s hf
  refine wm_callSd (nn := 1) (As := [.int x1]) (rest := []) (st' := [.int r3]) C dX11_copy_6 (kX11_isCore l D τ x1 r3 h5) gX11_copy_X11_isCore rfl (by decide +kernel) ⟨Nat.le_of_ble_eq_true rfl, Nat.le_of_ble_eq_true rfl⟩ rfl rfl ⟨Nat.zero_le _, Nat.zero_le _⟩ rfl rfl (Nat.le_of_ble_eq_true rfl) rfl (pc' := 9) rfl ?_
  refine wm_if_eq C dX11_copy_9 19 (by decide) (pc' := 12) rfl (fun h6 => ?_) (fun h6 => ?_)
  · have hf := ite_t h6 hf
    refine wm_ikonst (v := (-1)) C dX11_copy_19 (by decide) (pc' := 20) rfl ?_
    obtain ⟨rfl, rfl⟩ := leaf_s hf
    exact wm_iret C dX11_copy_20 (Nat.zero_le _) (Nat.zero_le _) FD.rf
  · have hf := ite_f h6 hf
    refine wm_iload_n C dX11_copy_12 3 rfl (pc' := 13) rfl ?_
    obtain ⟨r7, u8, h9, hf⟩ := bnd_s hf
    refine wm_callSd (nn := 1) (As := [.int x3]) (rest := []) (st' := [.int r7]) C dX11_copy_13 (kX11_isCore l D τ x3 r7 h9) gX11_copy_X11_isCore rfl (by decide +kernel) ⟨Nat.le_of_ble_eq_true rfl, Nat.le_of_ble_eq_true rfl⟩ rfl rfl ⟨Nat.zero_le _, Nat.zero_le _⟩ rfl rfl (Nat.le_of_ble_eq_true rfl) rfl (pc' := 16) rfl ?_
    refine wm_if_ne C dX11_copy_16 21 (by decide) (pc' := 19) rfl (fun h10 => ?_) (fun h10 => ?_)
    · have hf := ite_t h10 hf
      refine wm_aload_n C dX11_copy_21 0 rfl (pc' := 22) rfl ?_
      refine x_get (v := .ref (q 64)) C dX11_copy_22 inX11_X11_copy 0 (by omega) rfl rfl 4 (by decide) (by decide +kernel) (Or.inl rfl) rfl (pc' := 25) rfl ?_
      refine wm_iload_n C dX11_copy_25 1 rfl (pc' := 26) rfl ?_
      obtain ⟨h11, hf⟩ := chk_s hf
      obtain ⟨h12, hf⟩ := chk_s hf
      refine wm_aald (f := refs q 80 4) (N := 4) (cA := τ.2.2.2.1) (ty := .object "WideningCracks$Core") C dX11_copy_26 6 3 (x_at (by omega) rfl) rfl rfl h11 (refs_at h12) (pc' := 27) rfl ?_
      refine wm_astore (lv' := [(6, .ref (q (80 + x1.toNatClampNeg))), (0, .ref (q 0)), (1, .int x1), (2, .int x2), (3, .int x3), (4, .int x4), (5, .int x5)]) C dX11_copy_27 (by decide) rfl (pc' := 29) rfl ?_
      refine wm_aload_n C dX11_copy_29 1 rfl (pc' := 30) rfl ?_
      refine x_get (v := .ref (q 64)) C dX11_copy_30 inX11_X11_copy 0 (by omega) rfl rfl 4 (by decide) (by decide +kernel) (Or.inl rfl) rfl (pc' := 33) rfl ?_
      refine wm_iload_n C dX11_copy_33 4 rfl (pc' := 34) rfl ?_
      obtain ⟨h13, hf⟩ := chk_s hf
      obtain ⟨h14, hf⟩ := chk_s hf
      refine wm_aald (f := refs q 80 4) (N := 4) (cA := τ.2.2.2.1) (ty := .object "WideningCracks$Core") C dX11_copy_34 6 3 (x_at (by omega) rfl) rfl rfl h13 (refs_at h14) (pc' := 35) rfl ?_
      refine wm_astore (lv' := [(7, .ref (q (80 + x3.toNatClampNeg))), (6, .ref (q (80 + x1.toNatClampNeg))), (0, .ref (q 0)), (1, .int x1), (2, .int x2), (3, .int x3), (4, .int x4), (5, .int x5)]) C dX11_copy_35 (by decide) rfl (pc' := 37) rfl ?_
      refine wm_aload C dX11_copy_37 1 rfl (pc' := 39) rfl ?_
      obtain ⟨h15, hf⟩ := chk_s hf
      refine x_getK (v := .int (gA s1 40 x1.toNatClampNeg)) C dX11_copy_39 inX1_X11_copy h15 1 (by decide) (by decide +kernel) rfl rfl (pc' := 42) rfl ?_
      refine wm_if_eq C dX11_copy_42 53 (by decide) (pc' := 45) rfl (fun h16 => ?_) (fun h16 => ?_)
      · have hf := ite_t h16 hf
        refine wm_sub (lv' := [(0, .ref (q 0))]) [2] rfl ?_
        exact wJ_53 s1 hf
      · have hf := ite_f h16 hf
        refine wm_aload C dX11_copy_45 0 rfl (pc' := 47) rfl ?_
        obtain ⟨h20, hf⟩ := chk_s hf
        refine x_getK (v := .int (gA s1 40 x3.toNatClampNeg)) C dX11_copy_47 inX1_X11_copy h20 1 (by decide) (by decide +kernel) rfl rfl (pc' := 50) rfl ?_
        refine wm_if_ne C dX11_copy_50 59 (by decide) (pc' := 53) rfl (fun h21 => ?_) (fun h21 => ?_)
        · have hf := ite_t h21 hf
          refine wm_aload C dX11_copy_59 1 rfl (pc' := 61) rfl ?_
          obtain ⟨h22, hf⟩ := chk_s hf
          refine x_getK (v := .int (gA s1 41 x1.toNatClampNeg)) C dX11_copy_61 inX1_X11_copy h22 2 (by decide) (by decide +kernel) rfl rfl (pc' := 64) rfl ?_
          refine wm_aload C dX11_copy_64 0 rfl (pc' := 66) rfl ?_
          obtain ⟨h23, hf⟩ := chk_s hf
          refine x_getK (v := .int (gA s1 41 x3.toNatClampNeg)) C dX11_copy_66 inX1_X11_copy h23 2 (by decide) (by decide +kernel) rfl rfl (pc' := 69) rfl ?_
          refine wm_icmp_eq C dX11_copy_69 78 (by decide) (pc' := 72) rfl (fun h24 => ?_) (fun h24 => ?_)
          · have hf := ite_t h24 hf
            refine wm_iload C dX11_copy_78 7 rfl (pc' := 80) rfl ?_
            refine wm_if_lt C dX11_copy_80 106 (by decide) (pc' := 83) rfl (fun h25 => ?_) (fun h25 => ?_)
            · have hf := ite_t h25 hf
              refine wm_sub (lv' := [(0, .ref (q 0))]) [2] rfl ?_
              exact wJ_106 s1 hf
            · have hf := ite_f h25 hf
              refine wm_aload C dX11_copy_83 1 rfl (pc' := 85) rfl ?_
              refine wm_iload_n C dX11_copy_85 4 rfl (pc' := 86) rfl ?_
              refine wm_iload C dX11_copy_86 7 rfl (pc' := 88) rfl ?_
              obtain ⟨h32, hf⟩ := chk_s hf
              obtain ⟨r29, s30, h31, hf⟩ := bnd_s hf
              refine wm_callVd (nn := 2) (As := [.int x2, .int x5]) (rest := []) (st' := [.int r29]) C dX11_copy_88 (kX1_hasCells l D τ q nc x1.toNatClampNeg s1 x2 x5 r29 s30 h31) gX11_copy_X1_hasCells rfl (by decide +kernel) ⟨Nat.le_of_ble_eq_true rfl, Nat.le_of_ble_eq_true rfl⟩ rfl rfl ⟨Nat.zero_le _, Nat.zero_le _⟩ (19 + x1.toNatClampNeg) (x_coreAt h32) rfl rfl rfl (Nat.le_of_ble_eq_true rfl) rfl (pc' := 91) rfl ?_
              refine wm_if_eq C dX11_copy_91 106 (by decide) (pc' := 94) rfl (fun h33 => ?_) (fun h33 => ?_)
              · have hf := ite_t h33 hf
                refine wm_sub (lv' := [(0, .ref (q 0))]) [2] rfl ?_
                exact wJ_106 s30 hf
              · have hf := ite_f h33 hf
                refine wm_aload C dX11_copy_94 0 rfl (pc' := 96) rfl ?_
                refine wm_iload C dX11_copy_96 6 rfl (pc' := 98) rfl ?_
                refine wm_iload C dX11_copy_98 7 rfl (pc' := 100) rfl ?_
                obtain ⟨h37, hf⟩ := chk_s hf
                obtain ⟨r34, s35, h36, hf⟩ := bnd_s hf
                refine wm_callVd (nn := 2) (As := [.int x4, .int x5]) (rest := []) (st' := [.int r34]) C dX11_copy_100 (kX1_hasCells l D τ q nc x3.toNatClampNeg s30 x4 x5 r34 s35 h36) gX11_copy_X1_hasCells rfl (by decide +kernel) ⟨Nat.le_of_ble_eq_true rfl, Nat.le_of_ble_eq_true rfl⟩ rfl rfl ⟨Nat.zero_le _, Nat.zero_le _⟩ (19 + x3.toNatClampNeg) (x_coreAt h37) rfl rfl rfl (Nat.le_of_ble_eq_true rfl) rfl (pc' := 103) rfl ?_
                refine wm_if_ne C dX11_copy_103 112 (by decide) (pc' := 106) rfl (fun h38 => ?_) (fun h38 => ?_)
                · have hf := ite_t h38 hf
                  refine wm_aload C dX11_copy_112 1 rfl (pc' := 114) rfl ?_
                  obtain ⟨h39, hf⟩ := chk_s hf
                  refine x_getK (v := .ref (q (90 + x1.toNatClampNeg))) C dX11_copy_114 inX1_X11_copy h39 0 (by decide) (by decide +kernel) rfl rfl (pc' := 117) rfl ?_
                  refine wm_iload_n C dX11_copy_117 4 rfl (pc' := 118) rfl ?_
                  refine wm_aload C dX11_copy_118 0 rfl (pc' := 120) rfl ?_
                  obtain ⟨h40, hf⟩ := chk_s hf
                  refine x_getK (v := .ref (q (90 + x3.toNatClampNeg))) C dX11_copy_120 inX1_X11_copy h40 0 (by decide) (by decide +kernel) rfl rfl (pc' := 123) rfl ?_
                  refine wm_iload C dX11_copy_123 6 rfl (pc' := 125) rfl ?_
                  refine wm_iload C dX11_copy_125 7 rfl (pc' := 127) rfl ?_
                  obtain ⟨h41, hf⟩ := chk_s hf
                  obtain ⟨h42, hf⟩ := chk_s hf
                  obtain ⟨h43, hf⟩ := chk_s hf
                  obtain ⟨s44, e45, hf⟩ := lets_s hf
                  refine x_copy C dX11_copy_127 (by decide +kernel) (by decide +kernel) (by decide +kernel) (by decide +kernel) h41 h42 h43 ⟨Nat.le_of_ble_eq_true rfl, Nat.le_of_ble_eq_true rfl⟩ (pc' := 130) rfl ?_
                  rw [← e45]
                  refine wm_iload C dX11_copy_130 7 rfl (pc' := 132) rfl ?_
                  obtain ⟨rfl, rfl⟩ := leaf_s hf
                  exact wm_iret C dX11_copy_132 (Nat.zero_le _) (Nat.zero_le _) FD.rf
                · have hf := ite_f (fun h => h h38) hf
                  refine wm_sub (lv' := [(0, .ref (q 0))]) [2] rfl ?_
                  exact wJ_106 s35 hf
          · have hf := ite_f h24 hf
            refine wm_aload_n C dX11_copy_72 2 rfl (pc' := 73) rfl ?_
            refine wm_ikonst (v := 2) C dX11_copy_73 (by decide) (pc' := 74) rfl ?_
            obtain ⟨r46, s47, h48, hf⟩ := bnd_s hf
            refine wm_callVd (nn := 1) (As := [.int 2]) (rest := []) (st' := [.int r46]) C dX11_copy_74 (kX11_faulted l D τ q nc s1 2 r46 s47 h48) gX11_copy_X11_faulted rfl (by decide +kernel) ⟨Nat.le_of_ble_eq_true rfl, Nat.le_of_ble_eq_true rfl⟩ rfl rfl ⟨Nat.zero_le _, Nat.zero_le _⟩ 0 (x_at (by omega) rfl) rfl rfl rfl (Nat.le_of_ble_eq_true rfl) rfl (pc' := 77) rfl ?_
            obtain ⟨rfl, rfl⟩ := leaf_s hf
            exact wm_iret C dX11_copy_77 (Nat.zero_le _) (Nat.zero_le _) FD.rf
        · have hf := ite_f (fun h => h h21) hf
          refine wm_sub (lv' := [(0, .ref (q 0))]) [2] rfl ?_
          exact wJ_53 s1 hf
    · have hf := ite_f (fun h => h h10) hf
      refine wm_ikonst (v := (-1)) C dX11_copy_19 (by decide) (pc' := 20) rfl ?_
      obtain ⟨rfl, rfl⟩ := leaf_s hf
      exact wm_iret C dX11_copy_20 (Nat.zero_le _) (Nat.zero_le _) FD.rf
def fX11_tell (nc : Nat) (x1 : Int32) (σ : MS) : Option (Int32 × MS) :=
  bnd (fX5_hasCrack nc x1 σ) (fun r1 s2 => if ¬ r1 = 0 then if ¬ (x1 < 0 ∨ 12 ≤ x1.toNatClampNeg) then if x1.toNatClampNeg < nc then if x1.toNatClampNeg < nc then bnd (vX_telling nc x1.toNatClampNeg s2) (fun r7 s8 => some (r7, s8)) else none else none else none else some ((-1), s2))
theorem inX11_X11_tell : ∀ w ∈ wsX110, w ∈ wsX11_tell := by decide +kernel
theorem inX5_X11_tell : ∀ w ∈ wsX50, w ∈ wsX11_tell := by decide +kernel
set_option maxHeartbeats 4000000 in
set_option maxRecDepth 100000 in
theorem kX11_tell (l : Launch) (D : va_G) (τ : CId) (q : Nat → Nat) (nc : Nat) (σ : MS) (x1 : Int32) (rE : Int32) (sE : MS) (hf : fX11_tell nc x1 σ = some (rE, sE)) : Ct l D τ yX11_tell wsX11_tell { frames := 3, cells := 0, slots := 0, locals := 63 } [.ref (q 0), .int x1] (xW τ q nc σ) (FD (xW τ q nc sE) (some (.int rE))) := by
  unfold fX11_tell at hf
  refine ct_of (cc := cX11_tell) (maxL := 2) (ret := (some .int)) (by decide) rfl (Nat.le_of_ble_eq_true rfl) (fun Γ C => ?_)
  refine wm_lv (lv' := [(0, .ref (q 0)), (1, .int x1)]) rfl ?_
  refine wm_aload_n C dX11_tell_0 0 rfl (pc' := 1) rfl ?_
  refine x_get (v := .ref (q 60)) C dX11_tell_1 inX11_X11_tell 0 (by omega) rfl rfl 0 (by decide) (by decide +kernel) (Or.inl rfl) rfl (pc' := 4) rfl ?_
  refine wm_iload_n C dX11_tell_4 1 rfl (pc' := 5) rfl ?_
  obtain ⟨r1, s2, h3, hf⟩ := bnd_s hf
  refine wm_callVd (nn := 1) (As := [.int x1]) (rest := []) (st' := [.int r1]) C dX11_tell_5 (kX5_hasCrack l D τ q nc σ x1 r1 s2 h3) gX11_tell_X5_hasCrack rfl (by decide +kernel) ⟨Nat.le_of_ble_eq_true rfl, Nat.le_of_ble_eq_true rfl⟩ rfl rfl ⟨Nat.zero_le _, Nat.zero_le _⟩ 1 (x_at (by omega) rfl) rfl rfl rfl (Nat.le_of_ble_eq_true rfl) rfl (pc' := 8) rfl ?_
  refine wm_if_ne C dX11_tell_8 13 (by decide) (pc' := 11) rfl (fun h4 => ?_) (fun h4 => ?_)
  · have hf := ite_t h4 hf
    refine wm_aload_n C dX11_tell_13 0 rfl (pc' := 14) rfl ?_
    refine x_get (v := .ref (q 60)) C dX11_tell_14 inX11_X11_tell 0 (by omega) rfl rfl 0 (by decide) (by decide +kernel) (Or.inl rfl) rfl (pc' := 17) rfl ?_
    refine x_get (v := .ref (q 66)) C dX11_tell_17 inX5_X11_tell 1 (by omega) rfl rfl 2 (by decide) (by decide +kernel) (Or.inl rfl) rfl (pc' := 20) rfl ?_
    refine wm_iload_n C dX11_tell_20 1 rfl (pc' := 21) rfl ?_
    obtain ⟨h5, hf⟩ := chk_s hf
    obtain ⟨h6, hf⟩ := chk_s hf
    refine wm_aald (f := refs q 200 nc) (N := 12) (cA := τ.2.2.2.2.1) (ty := .object "WideningCracks$Crack") C dX11_tell_21 10 4 (x_at (by omega) rfl) rfl rfl h5 (refs_at h6) (pc' := 22) rfl ?_
    refine wm_aload_n C dX11_tell_22 0 rfl (pc' := 23) rfl ?_
    refine x_get (v := .ref (q 65)) C dX11_tell_23 inX11_X11_tell 0 (by omega) rfl rfl 5 (by decide) (by decide +kernel) (Or.inl rfl) rfl (pc' := 26) rfl ?_
    obtain ⟨h10, hf⟩ := chk_s hf
    obtain ⟨r7, s8, h9, hf⟩ := bnd_s hf
    have K11 : WM l D Γ 2 0 0 (xW τ q nc s8) 29 [(0, .ref (q 0)), (1, .int x1)] [.int r7] := by
      obtain ⟨rfl, rfl⟩ := leaf_s hf
      exact wm_iret C dX11_tell_29 (Nat.zero_le _) (Nat.zero_le _) FD.rf
    unfold vX_telling at h9
    rcases kci5 (gA s2 7 x1.toNatClampNeg) with ⟨k1, kk⟩ | ⟨n1, k2, kk⟩ | ⟨n1, n2, k3, kk⟩ | ⟨n1, n2, n3, k4, kk⟩ | ⟨n1, n2, n3, n4, kk⟩
    · exact wm_callC (nn := 1) (As := [.ref (q 65)]) (rest := []) (st' := [.int r7]) C dX11_tell_26 (kX10_telling l D τ q nc x1.toNatClampNeg s2 r7 s8 (ite_t k1 h9)) (cw_O gX11_tell_X10_telling_u260X10 rfl (b0 := cX2_telling) (m0 := 2) (r0 := (some .int)) (by decide +kernel) (by decide +kernel) ⟨Nat.le_of_ble_eq_true rfl, Nat.le_of_ble_eq_true rfl⟩) rfl rfl ⟨Nat.zero_le _, Nat.zero_le _⟩ (49 + x1.toNatClampNeg) (x_crackAt h10 kk) rfl rfl rfl (Nat.le_of_ble_eq_true rfl) rfl (pc' := 29) rfl K11
    · exact wm_callC (nn := 1) (As := [.ref (q 65)]) (rest := []) (st' := [.int r7]) C dX11_tell_26 (kX0_telling l D τ q nc x1.toNatClampNeg s2 r7 s8 (ite_t k2 (ite_f n1 h9))) (cw_O gX11_tell_X0_telling_u260X0 rfl (b0 := cX2_telling) (m0 := 2) (r0 := (some .int)) (by decide +kernel) (by decide +kernel) ⟨Nat.le_of_ble_eq_true rfl, Nat.le_of_ble_eq_true rfl⟩) rfl rfl ⟨Nat.zero_le _, Nat.zero_le _⟩ (49 + x1.toNatClampNeg) (x_crackAt h10 kk) rfl rfl rfl (Nat.le_of_ble_eq_true rfl) rfl (pc' := 29) rfl K11
    · exact wm_callC (nn := 1) (As := [.ref (q 65)]) (rest := []) (st' := [.int r7]) C dX11_tell_26 (kX10_telling l D τ q nc x1.toNatClampNeg s2 r7 s8 (ite_t k3 (ite_f n2 (ite_f n1 h9)))) (cw_O gX11_tell_X10_telling_u260X3 rfl (b0 := cX2_telling) (m0 := 2) (r0 := (some .int)) (by decide +kernel) (by decide +kernel) ⟨Nat.le_of_ble_eq_true rfl, Nat.le_of_ble_eq_true rfl⟩) rfl rfl ⟨Nat.zero_le _, Nat.zero_le _⟩ (49 + x1.toNatClampNeg) (x_crackAt h10 kk) rfl rfl rfl (Nat.le_of_ble_eq_true rfl) rfl (pc' := 29) rfl K11
    · exact wm_callC (nn := 1) (As := [.ref (q 65)]) (rest := []) (st' := [.int r7]) C dX11_tell_26 (kX7_telling l D τ q nc x1.toNatClampNeg s2 r7 s8 (ite_t k4 (ite_f n3 (ite_f n2 (ite_f n1 h9))))) (cw_O gX11_tell_X7_telling_u260X7 rfl (b0 := cX2_telling) (m0 := 2) (r0 := (some .int)) (by decide +kernel) (by decide +kernel) ⟨Nat.le_of_ble_eq_true rfl, Nat.le_of_ble_eq_true rfl⟩) rfl rfl ⟨Nat.zero_le _, Nat.zero_le _⟩ (49 + x1.toNatClampNeg) (x_crackAt h10 kk) rfl rfl rfl (Nat.le_of_ble_eq_true rfl) rfl (pc' := 29) rfl K11
    · exact wm_callVd (nn := 1) (As := [.ref (q 65)]) (rest := []) (st' := [.int r7]) C dX11_tell_26 (kX2_telling l D τ q nc x1.toNatClampNeg s2 r7 s8 (ite_f n4 (ite_f n3 (ite_f n2 (ite_f n1 h9))))) gX11_tell_X2_telling rfl (by decide +kernel) ⟨Nat.le_of_ble_eq_true rfl, Nat.le_of_ble_eq_true rfl⟩ rfl rfl ⟨Nat.zero_le _, Nat.zero_le _⟩ (49 + x1.toNatClampNeg) (x_crackAt h10 kk) rfl rfl rfl (Nat.le_of_ble_eq_true rfl) rfl (pc' := 29) rfl K11
  · have hf := ite_f (fun h => h h4) hf
    refine wm_ikonst (v := (-1)) C dX11_tell_11 (by decide) (pc' := 12) rfl ?_
    obtain ⟨rfl, rfl⟩ := leaf_s hf
    exact wm_iret C dX11_tell_12 (Nat.zero_le _) (Nat.zero_le _) FD.rf
def fX11_judge (nc : Nat) (x1 : Int32) (σ : MS) : Option (Int32 × MS) :=
  bnd (fX5_hasCrack nc x1 σ) (fun r1 s2 => if ¬ r1 = 0 then if ¬ (x1 < 0 ∨ 12 ≤ x1.toNatClampNeg) then if x1.toNatClampNeg < nc then if x1.toNatClampNeg < nc then bnd (vX_judgement nc x1.toNatClampNeg s2) (fun r7 s8 => some (r7, s8)) else none else none else none else some ((-1), s2))
theorem inX11_X11_judge : ∀ w ∈ wsX110, w ∈ wsX11_judge := by decide +kernel
theorem inX5_X11_judge : ∀ w ∈ wsX50, w ∈ wsX11_judge := by decide +kernel
set_option maxHeartbeats 4000000 in
set_option maxRecDepth 100000 in
theorem kX11_judge (l : Launch) (D : va_G) (τ : CId) (q : Nat → Nat) (nc : Nat) (σ : MS) (x1 : Int32) (rE : Int32) (sE : MS) (hf : fX11_judge nc x1 σ = some (rE, sE)) : Ct l D τ yX11_judge wsX11_judge { frames := 2, cells := 0, slots := 0, locals := 42 } [.ref (q 0), .int x1] (xW τ q nc σ) (FD (xW τ q nc sE) (some (.int rE))) := by
  unfold fX11_judge at hf
  refine ct_of (cc := cX11_judge) (maxL := 2) (ret := (some .int)) (by decide) rfl (Nat.le_of_ble_eq_true rfl) (fun Γ C => ?_)
  refine wm_lv (lv' := [(0, .ref (q 0)), (1, .int x1)]) rfl ?_
  refine wm_aload_n C dX11_judge_0 0 rfl (pc' := 1) rfl ?_
  refine x_get (v := .ref (q 60)) C dX11_judge_1 inX11_X11_judge 0 (by omega) rfl rfl 0 (by decide) (by decide +kernel) (Or.inl rfl) rfl (pc' := 4) rfl ?_
  refine wm_iload_n C dX11_judge_4 1 rfl (pc' := 5) rfl ?_
  obtain ⟨r1, s2, h3, hf⟩ := bnd_s hf
  refine wm_callVd (nn := 1) (As := [.int x1]) (rest := []) (st' := [.int r1]) C dX11_judge_5 (kX5_hasCrack l D τ q nc σ x1 r1 s2 h3) gX11_judge_X5_hasCrack rfl (by decide +kernel) ⟨Nat.le_of_ble_eq_true rfl, Nat.le_of_ble_eq_true rfl⟩ rfl rfl ⟨Nat.zero_le _, Nat.zero_le _⟩ 1 (x_at (by omega) rfl) rfl rfl rfl (Nat.le_of_ble_eq_true rfl) rfl (pc' := 8) rfl ?_
  refine wm_if_ne C dX11_judge_8 13 (by decide) (pc' := 11) rfl (fun h4 => ?_) (fun h4 => ?_)
  · have hf := ite_t h4 hf
    refine wm_aload_n C dX11_judge_13 0 rfl (pc' := 14) rfl ?_
    refine x_get (v := .ref (q 60)) C dX11_judge_14 inX11_X11_judge 0 (by omega) rfl rfl 0 (by decide) (by decide +kernel) (Or.inl rfl) rfl (pc' := 17) rfl ?_
    refine x_get (v := .ref (q 66)) C dX11_judge_17 inX5_X11_judge 1 (by omega) rfl rfl 2 (by decide) (by decide +kernel) (Or.inl rfl) rfl (pc' := 20) rfl ?_
    refine wm_iload_n C dX11_judge_20 1 rfl (pc' := 21) rfl ?_
    obtain ⟨h5, hf⟩ := chk_s hf
    obtain ⟨h6, hf⟩ := chk_s hf
    refine wm_aald (f := refs q 200 nc) (N := 12) (cA := τ.2.2.2.2.1) (ty := .object "WideningCracks$Crack") C dX11_judge_21 10 4 (x_at (by omega) rfl) rfl rfl h5 (refs_at h6) (pc' := 22) rfl ?_
    refine wm_aload_n C dX11_judge_22 0 rfl (pc' := 23) rfl ?_
    refine x_get (v := .ref (q 65)) C dX11_judge_23 inX11_X11_judge 0 (by omega) rfl rfl 5 (by decide) (by decide +kernel) (Or.inl rfl) rfl (pc' := 26) rfl ?_
    obtain ⟨h10, hf⟩ := chk_s hf
    obtain ⟨r7, s8, h9, hf⟩ := bnd_s hf
    have K11 : WM l D Γ 2 0 0 (xW τ q nc s8) 29 [(0, .ref (q 0)), (1, .int x1)] [.int r7] := by
      obtain ⟨rfl, rfl⟩ := leaf_s hf
      exact wm_iret C dX11_judge_29 (Nat.zero_le _) (Nat.zero_le _) FD.rf
    unfold vX_judgement at h9
    rcases kci5 (gA s2 7 x1.toNatClampNeg) with ⟨k1, kk⟩ | ⟨n1, k2, kk⟩ | ⟨n1, n2, k3, kk⟩ | ⟨n1, n2, n3, k4, kk⟩ | ⟨n1, n2, n3, n4, kk⟩
    · exact wm_callC (nn := 1) (As := [.ref (q 65)]) (rest := []) (st' := [.int r7]) C dX11_judge_26 (kX2_judgement l D τ q nc x1.toNatClampNeg s2 r7 s8 (ite_t k1 h9)) (cw_U gX11_judge_X2_judgement_u264X10 rfl rfl (by decide +kernel) ⟨Nat.le_of_ble_eq_true rfl, Nat.le_of_ble_eq_true rfl⟩) rfl rfl ⟨Nat.zero_le _, Nat.zero_le _⟩ (49 + x1.toNatClampNeg) (x_crackAt h10 kk) rfl rfl rfl (Nat.le_of_ble_eq_true rfl) rfl (pc' := 29) rfl K11
    · exact wm_callC (nn := 1) (As := [.ref (q 65)]) (rest := []) (st' := [.int r7]) C dX11_judge_26 (kX2_judgement l D τ q nc x1.toNatClampNeg s2 r7 s8 (ite_t k2 (ite_f n1 h9))) (cw_U gX11_judge_X2_judgement_u264X0 rfl rfl (by decide +kernel) ⟨Nat.le_of_ble_eq_true rfl, Nat.le_of_ble_eq_true rfl⟩) rfl rfl ⟨Nat.zero_le _, Nat.zero_le _⟩ (49 + x1.toNatClampNeg) (x_crackAt h10 kk) rfl rfl rfl (Nat.le_of_ble_eq_true rfl) rfl (pc' := 29) rfl K11
    · exact wm_callC (nn := 1) (As := [.ref (q 65)]) (rest := []) (st' := [.int r7]) C dX11_judge_26 (kX3_judgement l D τ q nc x1.toNatClampNeg s2 r7 s8 (ite_t k3 (ite_f n2 (ite_f n1 h9)))) (cw_O gX11_judge_X3_judgement_u264X3 rfl (b0 := cX2_judgement) (m0 := 2) (r0 := (some .int)) (by decide +kernel) (by decide +kernel) ⟨Nat.le_of_ble_eq_true rfl, Nat.le_of_ble_eq_true rfl⟩) rfl rfl ⟨Nat.zero_le _, Nat.zero_le _⟩ (49 + x1.toNatClampNeg) (x_crackAt h10 kk) rfl rfl rfl (Nat.le_of_ble_eq_true rfl) rfl (pc' := 29) rfl K11
    · exact wm_callC (nn := 1) (As := [.ref (q 65)]) (rest := []) (st' := [.int r7]) C dX11_judge_26 (kX3_judgement l D τ q nc x1.toNatClampNeg s2 r7 s8 (ite_t k4 (ite_f n3 (ite_f n2 (ite_f n1 h9))))) (cw_O gX11_judge_X3_judgement_u264X7 rfl (b0 := cX2_judgement) (m0 := 2) (r0 := (some .int)) (by decide +kernel) (by decide +kernel) ⟨Nat.le_of_ble_eq_true rfl, Nat.le_of_ble_eq_true rfl⟩) rfl rfl ⟨Nat.zero_le _, Nat.zero_le _⟩ (49 + x1.toNatClampNeg) (x_crackAt h10 kk) rfl rfl rfl (Nat.le_of_ble_eq_true rfl) rfl (pc' := 29) rfl K11
    · exact wm_callVd (nn := 1) (As := [.ref (q 65)]) (rest := []) (st' := [.int r7]) C dX11_judge_26 (kX2_judgement l D τ q nc x1.toNatClampNeg s2 r7 s8 (ite_f n4 (ite_f n3 (ite_f n2 (ite_f n1 h9))))) gX11_judge_X2_judgement rfl (by decide +kernel) ⟨Nat.le_of_ble_eq_true rfl, Nat.le_of_ble_eq_true rfl⟩ rfl rfl ⟨Nat.zero_le _, Nat.zero_le _⟩ (49 + x1.toNatClampNeg) (x_crackAt h10 kk) rfl rfl rfl (Nat.le_of_ble_eq_true rfl) rfl (pc' := 29) rfl K11
  · have hf := ite_f (fun h => h h4) hf
    refine wm_ikonst (v := (-1)) C dX11_judge_11 (by decide) (pc' := 12) rfl ?_
    obtain ⟨rfl, rfl⟩ := leaf_s hf
    exact wm_iret C dX11_judge_12 (Nat.zero_le _) (Nat.zero_le _) FD.rf
def fX11_as (nc : Nat) (x1 : Int32) (x2 : Int32) (σ : MS) : Option (Int32 × MS) :=
  lets (sI σ 0 0) (fun s1 => bnd (fX5_hasCrack nc x1 s1) (fun r3 s4 => if ¬ r3 = 0 then bnd (fX11_isKind x2) (fun r7 u8 => if ¬ r7 = 0 then if ¬ (x1 < 0 ∨ 12 ≤ x1.toNatClampNeg) then if x1.toNatClampNeg < nc then bnd (fX11_isOfKind nc x1.toNatClampNeg x2 s4) (fun r13 s16 => if ¬ r13 = 0 then some (1, s16) else bnd (fX11_faulted nc 2 s16) (fun r18 s19 => some (r18, s19))) else none else none else some ((-2), s4)) else some ((-1), s4)))
theorem inX11_X11_as : ∀ w ∈ wsX110, w ∈ wsX11_as := by decide +kernel
theorem inX5_X11_as : ∀ w ∈ wsX50, w ∈ wsX11_as := by decide +kernel
set_option maxHeartbeats 4000000 in
set_option maxRecDepth 100000 in
theorem kX11_as (l : Launch) (D : va_G) (τ : CId) (q : Nat → Nat) (nc : Nat) (σ : MS) (x1 : Int32) (x2 : Int32) (rE : Int32) (sE : MS) (hf : fX11_as nc x1 x2 σ = some (rE, sE)) : Ct l D τ yX11_as wsX11_as { frames := 2, cells := 0, slots := 0, locals := 43 } [.ref (q 0), .int x1, .int x2] (xW τ q nc σ) (FD (xW τ q nc sE) (some (.int rE))) := by
  unfold fX11_as at hf
  refine ct_of (cc := cX11_as) (maxL := 3) (ret := (some .int)) (by decide) rfl (Nat.le_of_ble_eq_true rfl) (fun Γ C => ?_)
  refine wm_lv (lv' := [(0, .ref (q 0)), (1, .int x1), (2, .int x2)]) rfl ?_
  refine wm_aload_n C dX11_as_0 0 rfl (pc' := 1) rfl ?_
  refine wm_ikonst (v := 0) C dX11_as_1 (by decide) (pc' := 2) rfl ?_
  obtain ⟨s1, e2, hf⟩ := lets_s hf
  refine x_put (σ' := s1) C dX11_as_2 inX11_X11_as tyX11 tyX11_ok nmX11 0 (by omega) rfl rfl 8 (by decide) (by decide +kernel) (Or.inl rfl) rfl rfl rfl rfl (Nat.le_of_ble_eq_true rfl) (e2 ▸ xC_I0) (e2 ▸ rfl) (pc' := 5) rfl ?_
  refine wm_aload_n C dX11_as_5 0 rfl (pc' := 6) rfl ?_
  refine x_get (v := .ref (q 60)) C dX11_as_6 inX11_X11_as 0 (by omega) rfl rfl 0 (by decide) (by decide +kernel) (Or.inl rfl) rfl (pc' := 9) rfl ?_
  refine wm_iload_n C dX11_as_9 1 rfl (pc' := 10) rfl ?_
  obtain ⟨r3, s4, h5, hf⟩ := bnd_s hf
  refine wm_callVd (nn := 1) (As := [.int x1]) (rest := []) (st' := [.int r3]) C dX11_as_10 (kX5_hasCrack l D τ q nc s1 x1 r3 s4 h5) gX11_as_X5_hasCrack rfl (by decide +kernel) ⟨Nat.le_of_ble_eq_true rfl, Nat.le_of_ble_eq_true rfl⟩ rfl rfl ⟨Nat.zero_le _, Nat.zero_le _⟩ 1 (x_at (by omega) rfl) rfl rfl rfl (Nat.le_of_ble_eq_true rfl) rfl (pc' := 13) rfl ?_
  refine wm_if_ne C dX11_as_13 18 (by decide) (pc' := 16) rfl (fun h6 => ?_) (fun h6 => ?_)
  · have hf := ite_t h6 hf
    refine wm_iload_n C dX11_as_18 2 rfl (pc' := 19) rfl ?_
    obtain ⟨r7, u8, h9, hf⟩ := bnd_s hf
    refine wm_callSd (nn := 1) (As := [.int x2]) (rest := []) (st' := [.int r7]) C dX11_as_19 (kX11_isKind l D τ x2 r7 h9) gX11_as_X11_isKind rfl (by decide +kernel) ⟨Nat.le_of_ble_eq_true rfl, Nat.le_of_ble_eq_true rfl⟩ rfl rfl ⟨Nat.zero_le _, Nat.zero_le _⟩ rfl rfl (Nat.le_of_ble_eq_true rfl) rfl (pc' := 22) rfl ?_
    refine wm_if_ne C dX11_as_22 28 (by decide) (pc' := 25) rfl (fun h10 => ?_) (fun h10 => ?_)
    · have hf := ite_t h10 hf
      refine wm_aload_n C dX11_as_28 0 rfl (pc' := 29) rfl ?_
      refine x_get (v := .ref (q 60)) C dX11_as_29 inX11_X11_as 0 (by omega) rfl rfl 0 (by decide) (by decide +kernel) (Or.inl rfl) rfl (pc' := 32) rfl ?_
      refine x_get (v := .ref (q 66)) C dX11_as_32 inX5_X11_as 1 (by omega) rfl rfl 2 (by decide) (by decide +kernel) (Or.inl rfl) rfl (pc' := 35) rfl ?_
      refine wm_iload_n C dX11_as_35 1 rfl (pc' := 36) rfl ?_
      obtain ⟨h11, hf⟩ := chk_s hf
      obtain ⟨h12, hf⟩ := chk_s hf
      refine wm_aald (f := refs q 200 nc) (N := 12) (cA := τ.2.2.2.2.1) (ty := .object "WideningCracks$Crack") C dX11_as_36 10 4 (x_at (by omega) rfl) rfl rfl h11 (refs_at h12) (pc' := 37) rfl ?_
      refine wm_iload_n C dX11_as_37 2 rfl (pc' := 38) rfl ?_
      obtain ⟨r13, s16, h15, hf⟩ := bnd_s hf
      refine wm_callSW (nn := 2) (As := [.ref (q (200 + x1.toNatClampNeg)), .int x2]) (rest := []) (st' := [.int r13]) C dX11_as_38 (kX11_isOfKind l D τ q nc s4 x1.toNatClampNeg x2 r13 s16 h15) gX11_as_X11_isOfKind rfl (by decide +kernel) ⟨Nat.le_of_ble_eq_true rfl, Nat.le_of_ble_eq_true rfl⟩ rfl rfl ⟨Nat.zero_le _, Nat.zero_le _⟩ rfl rfl (Nat.le_of_ble_eq_true rfl) rfl (pc' := 41) rfl ?_
      refine wm_if_ne C dX11_as_41 50 (by decide) (pc' := 44) rfl (fun h17 => ?_) (fun h17 => ?_)
      · have hf := ite_t h17 hf
        refine wm_ikonst (v := 1) C dX11_as_50 (by decide) (pc' := 51) rfl ?_
        obtain ⟨rfl, rfl⟩ := leaf_s hf
        exact wm_iret C dX11_as_51 (Nat.zero_le _) (Nat.zero_le _) FD.rf
      · have hf := ite_f (fun h => h h17) hf
        refine wm_aload_n C dX11_as_44 0 rfl (pc' := 45) rfl ?_
        refine wm_ikonst (v := 2) C dX11_as_45 (by decide) (pc' := 46) rfl ?_
        obtain ⟨r18, s19, h20, hf⟩ := bnd_s hf
        refine wm_callVd (nn := 1) (As := [.int 2]) (rest := []) (st' := [.int r18]) C dX11_as_46 (kX11_faulted l D τ q nc s16 2 r18 s19 h20) gX11_as_X11_faulted rfl (by decide +kernel) ⟨Nat.le_of_ble_eq_true rfl, Nat.le_of_ble_eq_true rfl⟩ rfl rfl ⟨Nat.zero_le _, Nat.zero_le _⟩ 0 (x_at (by omega) rfl) rfl rfl rfl (Nat.le_of_ble_eq_true rfl) rfl (pc' := 49) rfl ?_
        obtain ⟨rfl, rfl⟩ := leaf_s hf
        exact wm_iret C dX11_as_49 (Nat.zero_le _) (Nat.zero_le _) FD.rf
    · have hf := ite_f (fun h => h h10) hf
      refine wm_bipush (v := (-2)) C dX11_as_25 (by decide) (pc' := 27) rfl ?_
      obtain ⟨rfl, rfl⟩ := leaf_s hf
      exact wm_iret C dX11_as_27 (Nat.zero_le _) (Nat.zero_le _) FD.rf
  · have hf := ite_f (fun h => h h6) hf
    refine wm_ikonst (v := (-1)) C dX11_as_16 (by decide) (pc' := 17) rfl ?_
    obtain ⟨rfl, rfl⟩ := leaf_s hf
    exact wm_iret C dX11_as_17 (Nat.zero_le _) (Nat.zero_le _) FD.rf
def fX11_trace (nc : Nat) (σ : MS) : Option (Int32 × MS) :=
  some (gI σ 38, σ)
theorem inX11_X11_trace : ∀ w ∈ wsX110, w ∈ wsX11_trace := by decide +kernel
theorem inX6_X11_trace : ∀ w ∈ wsX60, w ∈ wsX11_trace := by decide +kernel
set_option maxHeartbeats 4000000 in
set_option maxRecDepth 100000 in
theorem kX11_trace (l : Launch) (D : va_G) (τ : CId) (q : Nat → Nat) (nc : Nat) (σ : MS) (rE : Int32) (sE : MS) (hf : fX11_trace nc σ = some (rE, sE)) : Ct l D τ yX11_trace wsX11_trace { frames := 0, cells := 0, slots := 0, locals := 0 } [.ref (q 0)] (xW τ q nc σ) (FD (xW τ q nc sE) (some (.int rE))) := by
  unfold fX11_trace at hf
  refine ct_of (cc := cX11_trace) (maxL := 1) (ret := (some .int)) (by decide) rfl (Nat.le_of_ble_eq_true rfl) (fun Γ C => ?_)
  refine wm_lv (lv' := [(0, .ref (q 0))]) rfl ?_
  refine wm_aload_n C dX11_trace_0 0 rfl (pc' := 1) rfl ?_
  refine x_get (v := .ref (q 65)) C dX11_trace_1 inX11_X11_trace 0 (by omega) rfl rfl 5 (by decide) (by decide +kernel) (Or.inl rfl) rfl (pc' := 4) rfl ?_
  refine x_get (v := .int (gI σ 38)) C dX11_trace_4 inX6_X11_trace 5 (by omega) rfl rfl 0 (by decide) (by decide +kernel) (Or.inl rfl) rfl (pc' := 7) rfl ?_
  obtain ⟨rfl, rfl⟩ := leaf_s hf
  exact wm_iret C dX11_trace_7 (Nat.zero_le _) (Nat.zero_le _) FD.rf
def fX11_fault (nc : Nat) (σ : MS) : Option (Int32 × MS) :=
  some (gI σ 0, σ)
theorem inX11_X11_fault : ∀ w ∈ wsX110, w ∈ wsX11_fault := by decide +kernel
set_option maxHeartbeats 4000000 in
set_option maxRecDepth 100000 in
theorem kX11_fault (l : Launch) (D : va_G) (τ : CId) (q : Nat → Nat) (nc : Nat) (σ : MS) (rE : Int32) (sE : MS) (hf : fX11_fault nc σ = some (rE, sE)) : Ct l D τ yX11_fault wsX11_fault { frames := 0, cells := 0, slots := 0, locals := 0 } [.ref (q 0)] (xW τ q nc σ) (FD (xW τ q nc sE) (some (.int rE))) := by
  unfold fX11_fault at hf
  refine ct_of (cc := cX11_fault) (maxL := 1) (ret := (some .int)) (by decide) rfl (Nat.le_of_ble_eq_true rfl) (fun Γ C => ?_)
  refine wm_lv (lv' := [(0, .ref (q 0))]) rfl ?_
  refine wm_aload_n C dX11_fault_0 0 rfl (pc' := 1) rfl ?_
  refine x_get (v := .int (gI σ 0)) C dX11_fault_1 inX11_X11_fault 0 (by omega) rfl rfl 8 (by decide) (by decide +kernel) (Or.inl rfl) rfl (pc' := 4) rfl ?_
  obtain ⟨rfl, rfl⟩ := leaf_s hf
  exact wm_iret C dX11_fault_4 (Nat.zero_le _) (Nat.zero_le _) FD.rf
