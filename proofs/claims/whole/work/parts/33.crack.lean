theorem inX2_X2_init : ∀ w ∈ wsX20, w ∈ wsX2_init := by decide +kernel
set_option maxHeartbeats 4000000 in
set_option maxRecDepth 100000 in
theorem kX2_init_X2 (l : Launch) (D : va_G) (τ : CId) (h0 : Nat) (p1 p2 p3 p4 : Int32) : Ct l D τ yX2_init wsX2_init { frames := 1, cells := 0, slots := 0, locals := 20 } [.ref h0, .int p1, .int p2, .int p3, .int p4] [(h0, .inr (2, [.int 0, .int 0, .int 0, .int 0, .int 0]))] (fun W' v => v = none ∧ W' = [(h0, .inr (2, [.int p1, .int p2, .int p4, .int p3, .int 0]))]) := by
  refine ct_of (cc := cX2_init) (maxL := 5) (ret := none) (by decide) rfl (Nat.le_of_ble_eq_true rfl) (fun Γ C => ?_)
  refine wm_lv (lv' := [(0, .ref h0), (1, .int p1), (2, .int p2), (3, .int p3), (4, .int p4)]) rfl ?_
  refine wm_aload_n C dX2_init_0 0 rfl (pc' := 1) rfl ?_
  refine wm_objInit C dX2_init_1 (by decide +kernel) (by decide +kernel) (by decide +kernel) ⟨Nat.le_of_ble_eq_true rfl, Nat.le_of_ble_eq_true rfl⟩ (pc' := 4) rfl ?_
  refine wm_aload_n C dX2_init_4 0 rfl (pc' := 5) rfl ?_
  refine wm_iload_n C dX2_init_5 1 rfl (pc' := 6) rfl ?_
  refine wm_putF (v := .int p1) C dX2_init_6 inX2_X2_init tyX2 tyX2_ok nmX2 0 rfl rfl 0 (by decide) (by decide +kernel) rfl rfl rfl rfl rfl rfl (Nat.le_of_ble_eq_true rfl) (Wd' := [(h0, .inr (2, [.int p1, .int 0, .int 0, .int 0, .int 0]))]) rfl (pc' := 9) rfl ?_
  refine wm_aload_n C dX2_init_9 0 rfl (pc' := 10) rfl ?_
  refine wm_iload_n C dX2_init_10 2 rfl (pc' := 11) rfl ?_
  refine wm_putF (v := .int p2) C dX2_init_11 inX2_X2_init tyX2 tyX2_ok nmX2 0 rfl rfl 1 (by decide) (by decide +kernel) rfl rfl rfl rfl rfl rfl (Nat.le_of_ble_eq_true rfl) (Wd' := [(h0, .inr (2, [.int p1, .int p2, .int 0, .int 0, .int 0]))]) rfl (pc' := 14) rfl ?_
  refine wm_aload_n C dX2_init_14 0 rfl (pc' := 15) rfl ?_
  refine wm_iload_n C dX2_init_15 3 rfl (pc' := 16) rfl ?_
  refine wm_put (v := .int p3) C dX2_init_16 inX2_X2_init tyX2 tyX2_ok nmX2 0 rfl rfl 3 (by decide) (by decide +kernel) (Or.inl rfl) rfl rfl rfl rfl (Nat.le_of_ble_eq_true rfl) (Wd' := [(h0, .inr (2, [.int p1, .int p2, .int 0, .int p3, .int 0]))]) rfl (pc' := 19) rfl ?_
  refine wm_aload_n C dX2_init_19 0 rfl (pc' := 20) rfl ?_
  refine wm_iload C dX2_init_20 4 rfl (pc' := 22) rfl ?_
  refine wm_putF (v := .int p4) C dX2_init_22 inX2_X2_init tyX2 tyX2_ok nmX2 0 rfl rfl 2 (by decide) (by decide +kernel) rfl rfl rfl rfl rfl rfl (Nat.le_of_ble_eq_true rfl) (Wd' := [(h0, .inr (2, [.int p1, .int p2, .int p4, .int p3, .int 0]))]) rfl (pc' := 25) rfl ?_
  exact wm_vret C dX2_init_25 (Nat.le_of_ble_eq_true rfl) (Nat.le_of_ble_eq_true rfl) ⟨rfl, rfl⟩
theorem inX10_X2_init : ∀ w ∈ wsX100, w ∈ wsX2_init := by decide +kernel
set_option maxHeartbeats 4000000 in
set_option maxRecDepth 100000 in
theorem kX2_init_X10 (l : Launch) (D : va_G) (τ : CId) (h0 : Nat) (p1 p2 p3 p4 : Int32) : Ct l D τ yX2_init wsX2_init { frames := 1, cells := 0, slots := 0, locals := 20 } [.ref h0, .int p1, .int p2, .int p3, .int p4] [(h0, .inr (10, [.int 0, .int 0, .int 0, .int 0, .int 0]))] (fun W' v => v = none ∧ W' = [(h0, .inr (10, [.int p1, .int p2, .int p4, .int p3, .int 0]))]) := by
  refine ct_of (cc := cX2_init) (maxL := 5) (ret := none) (by decide) rfl (Nat.le_of_ble_eq_true rfl) (fun Γ C => ?_)
  refine wm_lv (lv' := [(0, .ref h0), (1, .int p1), (2, .int p2), (3, .int p3), (4, .int p4)]) rfl ?_
  refine wm_aload_n C dX2_init_0 0 rfl (pc' := 1) rfl ?_
  refine wm_objInit C dX2_init_1 (by decide +kernel) (by decide +kernel) (by decide +kernel) ⟨Nat.le_of_ble_eq_true rfl, Nat.le_of_ble_eq_true rfl⟩ (pc' := 4) rfl ?_
  refine wm_aload_n C dX2_init_4 0 rfl (pc' := 5) rfl ?_
  refine wm_iload_n C dX2_init_5 1 rfl (pc' := 6) rfl ?_
  refine wm_putF (v := .int p1) C dX2_init_6 inX10_X2_init tyX10 tyX10_ok nmX10 0 rfl rfl 0 (by decide) (by decide +kernel) rfl rfl rfl rfl rfl rfl (Nat.le_of_ble_eq_true rfl) (Wd' := [(h0, .inr (10, [.int p1, .int 0, .int 0, .int 0, .int 0]))]) rfl (pc' := 9) rfl ?_
  refine wm_aload_n C dX2_init_9 0 rfl (pc' := 10) rfl ?_
  refine wm_iload_n C dX2_init_10 2 rfl (pc' := 11) rfl ?_
  refine wm_putF (v := .int p2) C dX2_init_11 inX10_X2_init tyX10 tyX10_ok nmX10 0 rfl rfl 1 (by decide) (by decide +kernel) rfl rfl rfl rfl rfl rfl (Nat.le_of_ble_eq_true rfl) (Wd' := [(h0, .inr (10, [.int p1, .int p2, .int 0, .int 0, .int 0]))]) rfl (pc' := 14) rfl ?_
  refine wm_aload_n C dX2_init_14 0 rfl (pc' := 15) rfl ?_
  refine wm_iload_n C dX2_init_15 3 rfl (pc' := 16) rfl ?_
  refine wm_put (v := .int p3) C dX2_init_16 inX10_X2_init tyX10 tyX10_ok nmX10 0 rfl rfl 3 (by decide) (by decide +kernel) (Or.inl rfl) rfl rfl rfl rfl (Nat.le_of_ble_eq_true rfl) (Wd' := [(h0, .inr (10, [.int p1, .int p2, .int 0, .int p3, .int 0]))]) rfl (pc' := 19) rfl ?_
  refine wm_aload_n C dX2_init_19 0 rfl (pc' := 20) rfl ?_
  refine wm_iload C dX2_init_20 4 rfl (pc' := 22) rfl ?_
  refine wm_putF (v := .int p4) C dX2_init_22 inX10_X2_init tyX10 tyX10_ok nmX10 0 rfl rfl 2 (by decide) (by decide +kernel) rfl rfl rfl rfl rfl rfl (Nat.le_of_ble_eq_true rfl) (Wd' := [(h0, .inr (10, [.int p1, .int p2, .int p4, .int p3, .int 0]))]) rfl (pc' := 25) rfl ?_
  exact wm_vret C dX2_init_25 (Nat.le_of_ble_eq_true rfl) (Nat.le_of_ble_eq_true rfl) ⟨rfl, rfl⟩
theorem inX0_X2_init : ∀ w ∈ wsX00, w ∈ wsX2_init := by decide +kernel
set_option maxHeartbeats 4000000 in
set_option maxRecDepth 100000 in
theorem kX2_init_X0 (l : Launch) (D : va_G) (τ : CId) (h0 : Nat) (p1 p2 p3 p4 : Int32) : Ct l D τ yX2_init wsX2_init { frames := 1, cells := 0, slots := 0, locals := 20 } [.ref h0, .int p1, .int p2, .int p3, .int p4] [(h0, .inr (0, [.int 0, .int 0, .int 0, .int 0, .int 0]))] (fun W' v => v = none ∧ W' = [(h0, .inr (0, [.int p1, .int p2, .int p4, .int p3, .int 0]))]) := by
  refine ct_of (cc := cX2_init) (maxL := 5) (ret := none) (by decide) rfl (Nat.le_of_ble_eq_true rfl) (fun Γ C => ?_)
  refine wm_lv (lv' := [(0, .ref h0), (1, .int p1), (2, .int p2), (3, .int p3), (4, .int p4)]) rfl ?_
  refine wm_aload_n C dX2_init_0 0 rfl (pc' := 1) rfl ?_
  refine wm_objInit C dX2_init_1 (by decide +kernel) (by decide +kernel) (by decide +kernel) ⟨Nat.le_of_ble_eq_true rfl, Nat.le_of_ble_eq_true rfl⟩ (pc' := 4) rfl ?_
  refine wm_aload_n C dX2_init_4 0 rfl (pc' := 5) rfl ?_
  refine wm_iload_n C dX2_init_5 1 rfl (pc' := 6) rfl ?_
  refine wm_putF (v := .int p1) C dX2_init_6 inX0_X2_init tyX0 tyX0_ok nmX0 0 rfl rfl 0 (by decide) (by decide +kernel) rfl rfl rfl rfl rfl rfl (Nat.le_of_ble_eq_true rfl) (Wd' := [(h0, .inr (0, [.int p1, .int 0, .int 0, .int 0, .int 0]))]) rfl (pc' := 9) rfl ?_
  refine wm_aload_n C dX2_init_9 0 rfl (pc' := 10) rfl ?_
  refine wm_iload_n C dX2_init_10 2 rfl (pc' := 11) rfl ?_
  refine wm_putF (v := .int p2) C dX2_init_11 inX0_X2_init tyX0 tyX0_ok nmX0 0 rfl rfl 1 (by decide) (by decide +kernel) rfl rfl rfl rfl rfl rfl (Nat.le_of_ble_eq_true rfl) (Wd' := [(h0, .inr (0, [.int p1, .int p2, .int 0, .int 0, .int 0]))]) rfl (pc' := 14) rfl ?_
  refine wm_aload_n C dX2_init_14 0 rfl (pc' := 15) rfl ?_
  refine wm_iload_n C dX2_init_15 3 rfl (pc' := 16) rfl ?_
  refine wm_put (v := .int p3) C dX2_init_16 inX0_X2_init tyX0 tyX0_ok nmX0 0 rfl rfl 3 (by decide) (by decide +kernel) (Or.inl rfl) rfl rfl rfl rfl (Nat.le_of_ble_eq_true rfl) (Wd' := [(h0, .inr (0, [.int p1, .int p2, .int 0, .int p3, .int 0]))]) rfl (pc' := 19) rfl ?_
  refine wm_aload_n C dX2_init_19 0 rfl (pc' := 20) rfl ?_
  refine wm_iload C dX2_init_20 4 rfl (pc' := 22) rfl ?_
  refine wm_putF (v := .int p4) C dX2_init_22 inX0_X2_init tyX0 tyX0_ok nmX0 0 rfl rfl 2 (by decide) (by decide +kernel) rfl rfl rfl rfl rfl rfl (Nat.le_of_ble_eq_true rfl) (Wd' := [(h0, .inr (0, [.int p1, .int p2, .int p4, .int p3, .int 0]))]) rfl (pc' := 25) rfl ?_
  exact wm_vret C dX2_init_25 (Nat.le_of_ble_eq_true rfl) (Nat.le_of_ble_eq_true rfl) ⟨rfl, rfl⟩
theorem inX3_X2_init : ∀ w ∈ wsX30, w ∈ wsX2_init := by decide +kernel
set_option maxHeartbeats 4000000 in
set_option maxRecDepth 100000 in
theorem kX2_init_X3 (l : Launch) (D : va_G) (τ : CId) (h0 : Nat) (p1 p2 p3 p4 : Int32) : Ct l D τ yX2_init wsX2_init { frames := 1, cells := 0, slots := 0, locals := 20 } [.ref h0, .int p1, .int p2, .int p3, .int p4] [(h0, .inr (3, [.int 0, .int 0, .int 0, .int 0, .int 0]))] (fun W' v => v = none ∧ W' = [(h0, .inr (3, [.int p1, .int p2, .int p4, .int p3, .int 0]))]) := by
  refine ct_of (cc := cX2_init) (maxL := 5) (ret := none) (by decide) rfl (Nat.le_of_ble_eq_true rfl) (fun Γ C => ?_)
  refine wm_lv (lv' := [(0, .ref h0), (1, .int p1), (2, .int p2), (3, .int p3), (4, .int p4)]) rfl ?_
  refine wm_aload_n C dX2_init_0 0 rfl (pc' := 1) rfl ?_
  refine wm_objInit C dX2_init_1 (by decide +kernel) (by decide +kernel) (by decide +kernel) ⟨Nat.le_of_ble_eq_true rfl, Nat.le_of_ble_eq_true rfl⟩ (pc' := 4) rfl ?_
  refine wm_aload_n C dX2_init_4 0 rfl (pc' := 5) rfl ?_
  refine wm_iload_n C dX2_init_5 1 rfl (pc' := 6) rfl ?_
  refine wm_putF (v := .int p1) C dX2_init_6 inX3_X2_init tyX3 tyX3_ok nmX3 0 rfl rfl 0 (by decide) (by decide +kernel) rfl rfl rfl rfl rfl rfl (Nat.le_of_ble_eq_true rfl) (Wd' := [(h0, .inr (3, [.int p1, .int 0, .int 0, .int 0, .int 0]))]) rfl (pc' := 9) rfl ?_
  refine wm_aload_n C dX2_init_9 0 rfl (pc' := 10) rfl ?_
  refine wm_iload_n C dX2_init_10 2 rfl (pc' := 11) rfl ?_
  refine wm_putF (v := .int p2) C dX2_init_11 inX3_X2_init tyX3 tyX3_ok nmX3 0 rfl rfl 1 (by decide) (by decide +kernel) rfl rfl rfl rfl rfl rfl (Nat.le_of_ble_eq_true rfl) (Wd' := [(h0, .inr (3, [.int p1, .int p2, .int 0, .int 0, .int 0]))]) rfl (pc' := 14) rfl ?_
  refine wm_aload_n C dX2_init_14 0 rfl (pc' := 15) rfl ?_
  refine wm_iload_n C dX2_init_15 3 rfl (pc' := 16) rfl ?_
  refine wm_put (v := .int p3) C dX2_init_16 inX3_X2_init tyX3 tyX3_ok nmX3 0 rfl rfl 3 (by decide) (by decide +kernel) (Or.inl rfl) rfl rfl rfl rfl (Nat.le_of_ble_eq_true rfl) (Wd' := [(h0, .inr (3, [.int p1, .int p2, .int 0, .int p3, .int 0]))]) rfl (pc' := 19) rfl ?_
  refine wm_aload_n C dX2_init_19 0 rfl (pc' := 20) rfl ?_
  refine wm_iload C dX2_init_20 4 rfl (pc' := 22) rfl ?_
  refine wm_putF (v := .int p4) C dX2_init_22 inX3_X2_init tyX3 tyX3_ok nmX3 0 rfl rfl 2 (by decide) (by decide +kernel) rfl rfl rfl rfl rfl rfl (Nat.le_of_ble_eq_true rfl) (Wd' := [(h0, .inr (3, [.int p1, .int p2, .int p4, .int p3, .int 0]))]) rfl (pc' := 25) rfl ?_
  exact wm_vret C dX2_init_25 (Nat.le_of_ble_eq_true rfl) (Nat.le_of_ble_eq_true rfl) ⟨rfl, rfl⟩
theorem inX7_X2_init : ∀ w ∈ wsX70, w ∈ wsX2_init := by decide +kernel
set_option maxHeartbeats 4000000 in
set_option maxRecDepth 100000 in
theorem kX2_init_X7 (l : Launch) (D : va_G) (τ : CId) (h0 : Nat) (p1 p2 p3 p4 : Int32) : Ct l D τ yX2_init wsX2_init { frames := 1, cells := 0, slots := 0, locals := 20 } [.ref h0, .int p1, .int p2, .int p3, .int p4] [(h0, .inr (7, [.int 0, .int 0, .int 0, .int 0, .int 0]))] (fun W' v => v = none ∧ W' = [(h0, .inr (7, [.int p1, .int p2, .int p4, .int p3, .int 0]))]) := by
  refine ct_of (cc := cX2_init) (maxL := 5) (ret := none) (by decide) rfl (Nat.le_of_ble_eq_true rfl) (fun Γ C => ?_)
  refine wm_lv (lv' := [(0, .ref h0), (1, .int p1), (2, .int p2), (3, .int p3), (4, .int p4)]) rfl ?_
  refine wm_aload_n C dX2_init_0 0 rfl (pc' := 1) rfl ?_
  refine wm_objInit C dX2_init_1 (by decide +kernel) (by decide +kernel) (by decide +kernel) ⟨Nat.le_of_ble_eq_true rfl, Nat.le_of_ble_eq_true rfl⟩ (pc' := 4) rfl ?_
  refine wm_aload_n C dX2_init_4 0 rfl (pc' := 5) rfl ?_
  refine wm_iload_n C dX2_init_5 1 rfl (pc' := 6) rfl ?_
  refine wm_putF (v := .int p1) C dX2_init_6 inX7_X2_init tyX7 tyX7_ok nmX7 0 rfl rfl 0 (by decide) (by decide +kernel) rfl rfl rfl rfl rfl rfl (Nat.le_of_ble_eq_true rfl) (Wd' := [(h0, .inr (7, [.int p1, .int 0, .int 0, .int 0, .int 0]))]) rfl (pc' := 9) rfl ?_
  refine wm_aload_n C dX2_init_9 0 rfl (pc' := 10) rfl ?_
  refine wm_iload_n C dX2_init_10 2 rfl (pc' := 11) rfl ?_
  refine wm_putF (v := .int p2) C dX2_init_11 inX7_X2_init tyX7 tyX7_ok nmX7 0 rfl rfl 1 (by decide) (by decide +kernel) rfl rfl rfl rfl rfl rfl (Nat.le_of_ble_eq_true rfl) (Wd' := [(h0, .inr (7, [.int p1, .int p2, .int 0, .int 0, .int 0]))]) rfl (pc' := 14) rfl ?_
  refine wm_aload_n C dX2_init_14 0 rfl (pc' := 15) rfl ?_
  refine wm_iload_n C dX2_init_15 3 rfl (pc' := 16) rfl ?_
  refine wm_put (v := .int p3) C dX2_init_16 inX7_X2_init tyX7 tyX7_ok nmX7 0 rfl rfl 3 (by decide) (by decide +kernel) (Or.inl rfl) rfl rfl rfl rfl (Nat.le_of_ble_eq_true rfl) (Wd' := [(h0, .inr (7, [.int p1, .int p2, .int 0, .int p3, .int 0]))]) rfl (pc' := 19) rfl ?_
  refine wm_aload_n C dX2_init_19 0 rfl (pc' := 20) rfl ?_
  refine wm_iload C dX2_init_20 4 rfl (pc' := 22) rfl ?_
  refine wm_putF (v := .int p4) C dX2_init_22 inX7_X2_init tyX7 tyX7_ok nmX7 0 rfl rfl 2 (by decide) (by decide +kernel) rfl rfl rfl rfl rfl rfl (Nat.le_of_ble_eq_true rfl) (Wd' := [(h0, .inr (7, [.int p1, .int p2, .int p4, .int p3, .int 0]))]) rfl (pc' := 25) rfl ?_
  exact wm_vret C dX2_init_25 (Nat.le_of_ble_eq_true rfl) (Nat.le_of_ble_eq_true rfl) ⟨rfl, rfl⟩
set_option maxHeartbeats 4000000 in
set_option maxRecDepth 100000 in
theorem kX0_init_X0 (l : Launch) (D : va_G) (τ : CId) (h0 : Nat) (p1 p2 p3 p4 : Int32) : Ct l D τ yX0_init wsX0_init { frames := 2, cells := 0, slots := 0, locals := 44 } [.ref h0, .int p1, .int p2, .int p3, .int p4] [(h0, .inr (0, [.int 0, .int 0, .int 0, .int 0, .int 0]))] (fun W' v => v = none ∧ W' = [(h0, .inr (0, [.int p1, .int p2, .int p4, .int p3, .int 0]))]) := by
  refine ct_of (cc := cX0_init) (maxL := 5) (ret := none) (by decide) rfl (Nat.le_of_ble_eq_true rfl) (fun Γ C => ?_)
  refine wm_lv (lv' := [(0, .ref h0), (1, .int p1), (2, .int p2), (3, .int p3), (4, .int p4)]) rfl ?_
  refine wm_aload_n C dX0_init_0 0 rfl (pc' := 1) rfl ?_
  refine wm_iload_n C dX0_init_1 1 rfl (pc' := 2) rfl ?_
  refine wm_iload_n C dX0_init_2 2 rfl (pc' := 3) rfl ?_
  refine wm_iload_n C dX0_init_3 3 rfl (pc' := 4) rfl ?_
  refine wm_iload C dX0_init_4 4 rfl (pc' := 6) rfl ?_
  refine wm_callI (nn := 4) (As := [.int p1, .int p2, .int p3, .int p4]) (rest := []) (Wc := [(h0, .inr (0, [.int 0, .int 0, .int 0, .int 0, .int 0]))]) (Wr := []) C dX0_init_6 (kX2_init_X0 l D τ h0 p1 p2 p3 p4) gX0_init_X2_init rfl (by decide +kernel) (by decide +kernel) (by decide +kernel) rfl (by decide +kernel) ⟨Nat.le_of_ble_eq_true rfl, Nat.le_of_ble_eq_true rfl⟩ ⟨Nat.le_of_ble_eq_true rfl, Nat.le_of_ble_eq_true rfl⟩ rfl rfl rfl (Nat.le_of_ble_eq_true rfl) (pc' := 9) rfl (fun v w hF => ?_)
  obtain ⟨rfl, rfl⟩ := hF
  exact wm_vret C dX0_init_9 (Nat.le_of_ble_eq_true rfl) (Nat.le_of_ble_eq_true rfl) ⟨rfl, rfl⟩
set_option maxHeartbeats 4000000 in
set_option maxRecDepth 100000 in
theorem kX10_init_X10 (l : Launch) (D : va_G) (τ : CId) (h0 : Nat) (p1 p2 p3 p4 : Int32) : Ct l D τ yX10_init wsX10_init { frames := 2, cells := 0, slots := 0, locals := 44 } [.ref h0, .int p1, .int p2, .int p3, .int p4] [(h0, .inr (10, [.int 0, .int 0, .int 0, .int 0, .int 0]))] (fun W' v => v = none ∧ W' = [(h0, .inr (10, [.int p1, .int p2, .int p4, .int p3, .int 0]))]) := by
  refine ct_of (cc := cX10_init) (maxL := 5) (ret := none) (by decide) rfl (Nat.le_of_ble_eq_true rfl) (fun Γ C => ?_)
  refine wm_lv (lv' := [(0, .ref h0), (1, .int p1), (2, .int p2), (3, .int p3), (4, .int p4)]) rfl ?_
  refine wm_aload_n C dX10_init_0 0 rfl (pc' := 1) rfl ?_
  refine wm_iload_n C dX10_init_1 1 rfl (pc' := 2) rfl ?_
  refine wm_iload_n C dX10_init_2 2 rfl (pc' := 3) rfl ?_
  refine wm_iload_n C dX10_init_3 3 rfl (pc' := 4) rfl ?_
  refine wm_iload C dX10_init_4 4 rfl (pc' := 6) rfl ?_
  refine wm_callI (nn := 4) (As := [.int p1, .int p2, .int p3, .int p4]) (rest := []) (Wc := [(h0, .inr (10, [.int 0, .int 0, .int 0, .int 0, .int 0]))]) (Wr := []) C dX10_init_6 (kX2_init_X10 l D τ h0 p1 p2 p3 p4) gX10_init_X2_init rfl (by decide +kernel) (by decide +kernel) (by decide +kernel) rfl (by decide +kernel) ⟨Nat.le_of_ble_eq_true rfl, Nat.le_of_ble_eq_true rfl⟩ ⟨Nat.le_of_ble_eq_true rfl, Nat.le_of_ble_eq_true rfl⟩ rfl rfl rfl (Nat.le_of_ble_eq_true rfl) (pc' := 9) rfl (fun v w hF => ?_)
  obtain ⟨rfl, rfl⟩ := hF
  exact wm_vret C dX10_init_9 (Nat.le_of_ble_eq_true rfl) (Nat.le_of_ble_eq_true rfl) ⟨rfl, rfl⟩
set_option maxHeartbeats 4000000 in
set_option maxRecDepth 100000 in
theorem kX10_init_X3 (l : Launch) (D : va_G) (τ : CId) (h0 : Nat) (p1 p2 p3 p4 : Int32) : Ct l D τ yX10_init wsX10_init { frames := 2, cells := 0, slots := 0, locals := 44 } [.ref h0, .int p1, .int p2, .int p3, .int p4] [(h0, .inr (3, [.int 0, .int 0, .int 0, .int 0, .int 0]))] (fun W' v => v = none ∧ W' = [(h0, .inr (3, [.int p1, .int p2, .int p4, .int p3, .int 0]))]) := by
  refine ct_of (cc := cX10_init) (maxL := 5) (ret := none) (by decide) rfl (Nat.le_of_ble_eq_true rfl) (fun Γ C => ?_)
  refine wm_lv (lv' := [(0, .ref h0), (1, .int p1), (2, .int p2), (3, .int p3), (4, .int p4)]) rfl ?_
  refine wm_aload_n C dX10_init_0 0 rfl (pc' := 1) rfl ?_
  refine wm_iload_n C dX10_init_1 1 rfl (pc' := 2) rfl ?_
  refine wm_iload_n C dX10_init_2 2 rfl (pc' := 3) rfl ?_
  refine wm_iload_n C dX10_init_3 3 rfl (pc' := 4) rfl ?_
  refine wm_iload C dX10_init_4 4 rfl (pc' := 6) rfl ?_
  refine wm_callI (nn := 4) (As := [.int p1, .int p2, .int p3, .int p4]) (rest := []) (Wc := [(h0, .inr (3, [.int 0, .int 0, .int 0, .int 0, .int 0]))]) (Wr := []) C dX10_init_6 (kX2_init_X3 l D τ h0 p1 p2 p3 p4) gX10_init_X2_init rfl (by decide +kernel) (by decide +kernel) (by decide +kernel) rfl (by decide +kernel) ⟨Nat.le_of_ble_eq_true rfl, Nat.le_of_ble_eq_true rfl⟩ ⟨Nat.le_of_ble_eq_true rfl, Nat.le_of_ble_eq_true rfl⟩ rfl rfl rfl (Nat.le_of_ble_eq_true rfl) (pc' := 9) rfl (fun v w hF => ?_)
  obtain ⟨rfl, rfl⟩ := hF
  exact wm_vret C dX10_init_9 (Nat.le_of_ble_eq_true rfl) (Nat.le_of_ble_eq_true rfl) ⟨rfl, rfl⟩
set_option maxHeartbeats 4000000 in
set_option maxRecDepth 100000 in
theorem kX10_init_X7 (l : Launch) (D : va_G) (τ : CId) (h0 : Nat) (p1 p2 p3 p4 : Int32) : Ct l D τ yX10_init wsX10_init { frames := 2, cells := 0, slots := 0, locals := 44 } [.ref h0, .int p1, .int p2, .int p3, .int p4] [(h0, .inr (7, [.int 0, .int 0, .int 0, .int 0, .int 0]))] (fun W' v => v = none ∧ W' = [(h0, .inr (7, [.int p1, .int p2, .int p4, .int p3, .int 0]))]) := by
  refine ct_of (cc := cX10_init) (maxL := 5) (ret := none) (by decide) rfl (Nat.le_of_ble_eq_true rfl) (fun Γ C => ?_)
  refine wm_lv (lv' := [(0, .ref h0), (1, .int p1), (2, .int p2), (3, .int p3), (4, .int p4)]) rfl ?_
  refine wm_aload_n C dX10_init_0 0 rfl (pc' := 1) rfl ?_
  refine wm_iload_n C dX10_init_1 1 rfl (pc' := 2) rfl ?_
  refine wm_iload_n C dX10_init_2 2 rfl (pc' := 3) rfl ?_
  refine wm_iload_n C dX10_init_3 3 rfl (pc' := 4) rfl ?_
  refine wm_iload C dX10_init_4 4 rfl (pc' := 6) rfl ?_
  refine wm_callI (nn := 4) (As := [.int p1, .int p2, .int p3, .int p4]) (rest := []) (Wc := [(h0, .inr (7, [.int 0, .int 0, .int 0, .int 0, .int 0]))]) (Wr := []) C dX10_init_6 (kX2_init_X7 l D τ h0 p1 p2 p3 p4) gX10_init_X2_init rfl (by decide +kernel) (by decide +kernel) (by decide +kernel) rfl (by decide +kernel) ⟨Nat.le_of_ble_eq_true rfl, Nat.le_of_ble_eq_true rfl⟩ ⟨Nat.le_of_ble_eq_true rfl, Nat.le_of_ble_eq_true rfl⟩ rfl rfl rfl (Nat.le_of_ble_eq_true rfl) (pc' := 9) rfl (fun v w hF => ?_)
  obtain ⟨rfl, rfl⟩ := hF
  exact wm_vret C dX10_init_9 (Nat.le_of_ble_eq_true rfl) (Nat.le_of_ble_eq_true rfl) ⟨rfl, rfl⟩
set_option maxHeartbeats 4000000 in
set_option maxRecDepth 100000 in
theorem kX3_init_X3 (l : Launch) (D : va_G) (τ : CId) (h0 : Nat) (p1 p2 p3 p4 : Int32) : Ct l D τ yX3_init wsX3_init { frames := 3, cells := 0, slots := 0, locals := 68 } [.ref h0, .int p1, .int p2, .int p3, .int p4] [(h0, .inr (3, [.int 0, .int 0, .int 0, .int 0, .int 0]))] (fun W' v => v = none ∧ W' = [(h0, .inr (3, [.int p1, .int p2, .int p4, .int p3, .int 0]))]) := by
  refine ct_of (cc := cX3_init) (maxL := 5) (ret := none) (by decide) rfl (Nat.le_of_ble_eq_true rfl) (fun Γ C => ?_)
  refine wm_lv (lv' := [(0, .ref h0), (1, .int p1), (2, .int p2), (3, .int p3), (4, .int p4)]) rfl ?_
  refine wm_aload_n C dX3_init_0 0 rfl (pc' := 1) rfl ?_
  refine wm_iload_n C dX3_init_1 1 rfl (pc' := 2) rfl ?_
  refine wm_iload_n C dX3_init_2 2 rfl (pc' := 3) rfl ?_
  refine wm_iload_n C dX3_init_3 3 rfl (pc' := 4) rfl ?_
  refine wm_iload C dX3_init_4 4 rfl (pc' := 6) rfl ?_
  refine wm_callI (nn := 4) (As := [.int p1, .int p2, .int p3, .int p4]) (rest := []) (Wc := [(h0, .inr (3, [.int 0, .int 0, .int 0, .int 0, .int 0]))]) (Wr := []) C dX3_init_6 (kX10_init_X3 l D τ h0 p1 p2 p3 p4) gX3_init_X10_init rfl (by decide +kernel) (by decide +kernel) (by decide +kernel) rfl (by decide +kernel) ⟨Nat.le_of_ble_eq_true rfl, Nat.le_of_ble_eq_true rfl⟩ ⟨Nat.le_of_ble_eq_true rfl, Nat.le_of_ble_eq_true rfl⟩ rfl rfl rfl (Nat.le_of_ble_eq_true rfl) (pc' := 9) rfl (fun v w hF => ?_)
  obtain ⟨rfl, rfl⟩ := hF
  exact wm_vret C dX3_init_9 (Nat.le_of_ble_eq_true rfl) (Nat.le_of_ble_eq_true rfl) ⟨rfl, rfl⟩
set_option maxHeartbeats 4000000 in
set_option maxRecDepth 100000 in
theorem kX3_init_X7 (l : Launch) (D : va_G) (τ : CId) (h0 : Nat) (p1 p2 p3 p4 : Int32) : Ct l D τ yX3_init wsX3_init { frames := 3, cells := 0, slots := 0, locals := 68 } [.ref h0, .int p1, .int p2, .int p3, .int p4] [(h0, .inr (7, [.int 0, .int 0, .int 0, .int 0, .int 0]))] (fun W' v => v = none ∧ W' = [(h0, .inr (7, [.int p1, .int p2, .int p4, .int p3, .int 0]))]) := by
  refine ct_of (cc := cX3_init) (maxL := 5) (ret := none) (by decide) rfl (Nat.le_of_ble_eq_true rfl) (fun Γ C => ?_)
  refine wm_lv (lv' := [(0, .ref h0), (1, .int p1), (2, .int p2), (3, .int p3), (4, .int p4)]) rfl ?_
  refine wm_aload_n C dX3_init_0 0 rfl (pc' := 1) rfl ?_
  refine wm_iload_n C dX3_init_1 1 rfl (pc' := 2) rfl ?_
  refine wm_iload_n C dX3_init_2 2 rfl (pc' := 3) rfl ?_
  refine wm_iload_n C dX3_init_3 3 rfl (pc' := 4) rfl ?_
  refine wm_iload C dX3_init_4 4 rfl (pc' := 6) rfl ?_
  refine wm_callI (nn := 4) (As := [.int p1, .int p2, .int p3, .int p4]) (rest := []) (Wc := [(h0, .inr (7, [.int 0, .int 0, .int 0, .int 0, .int 0]))]) (Wr := []) C dX3_init_6 (kX10_init_X7 l D τ h0 p1 p2 p3 p4) gX3_init_X10_init rfl (by decide +kernel) (by decide +kernel) (by decide +kernel) rfl (by decide +kernel) ⟨Nat.le_of_ble_eq_true rfl, Nat.le_of_ble_eq_true rfl⟩ ⟨Nat.le_of_ble_eq_true rfl, Nat.le_of_ble_eq_true rfl⟩ rfl rfl rfl (Nat.le_of_ble_eq_true rfl) (pc' := 9) rfl (fun v w hF => ?_)
  obtain ⟨rfl, rfl⟩ := hF
  exact wm_vret C dX3_init_9 (Nat.le_of_ble_eq_true rfl) (Nat.le_of_ble_eq_true rfl) ⟨rfl, rfl⟩
set_option maxHeartbeats 4000000 in
set_option maxRecDepth 100000 in
theorem kX7_init_X7 (l : Launch) (D : va_G) (τ : CId) (h0 : Nat) (p1 p2 p3 p4 : Int32) : Ct l D τ yX7_init wsX7_init { frames := 4, cells := 0, slots := 0, locals := 92 } [.ref h0, .int p1, .int p2, .int p3, .int p4] [(h0, .inr (7, [.int 0, .int 0, .int 0, .int 0, .int 0]))] (fun W' v => v = none ∧ W' = [(h0, .inr (7, [.int p1, .int p2, .int p4, .int p3, .int 0]))]) := by
  refine ct_of (cc := cX7_init) (maxL := 5) (ret := none) (by decide) rfl (Nat.le_of_ble_eq_true rfl) (fun Γ C => ?_)
  refine wm_lv (lv' := [(0, .ref h0), (1, .int p1), (2, .int p2), (3, .int p3), (4, .int p4)]) rfl ?_
  refine wm_aload_n C dX7_init_0 0 rfl (pc' := 1) rfl ?_
  refine wm_iload_n C dX7_init_1 1 rfl (pc' := 2) rfl ?_
  refine wm_iload_n C dX7_init_2 2 rfl (pc' := 3) rfl ?_
  refine wm_iload_n C dX7_init_3 3 rfl (pc' := 4) rfl ?_
  refine wm_iload C dX7_init_4 4 rfl (pc' := 6) rfl ?_
  refine wm_callI (nn := 4) (As := [.int p1, .int p2, .int p3, .int p4]) (rest := []) (Wc := [(h0, .inr (7, [.int 0, .int 0, .int 0, .int 0, .int 0]))]) (Wr := []) C dX7_init_6 (kX3_init_X7 l D τ h0 p1 p2 p3 p4) gX7_init_X3_init rfl (by decide +kernel) (by decide +kernel) (by decide +kernel) rfl (by decide +kernel) ⟨Nat.le_of_ble_eq_true rfl, Nat.le_of_ble_eq_true rfl⟩ ⟨Nat.le_of_ble_eq_true rfl, Nat.le_of_ble_eq_true rfl⟩ rfl rfl rfl (Nat.le_of_ble_eq_true rfl) (pc' := 9) rfl (fun v w hF => ?_)
  obtain ⟨rfl, rfl⟩ := hF
  exact wm_vret C dX7_init_9 (Nat.le_of_ble_eq_true rfl) (Nat.le_of_ble_eq_true rfl) ⟨rfl, rfl⟩
theorem inX2_X11_newCrack : ∀ w ∈ wsX20, w ∈ wsX11_newCrack := by decide +kernel
theorem inX10_X11_newCrack : ∀ w ∈ wsX100, w ∈ wsX11_newCrack := by decide +kernel
theorem inX0_X11_newCrack : ∀ w ∈ wsX00, w ∈ wsX11_newCrack := by decide +kernel
theorem inX3_X11_newCrack : ∀ w ∈ wsX30, w ∈ wsX11_newCrack := by decide +kernel
theorem inX7_X11_newCrack : ∀ w ∈ wsX70, w ∈ wsX11_newCrack := by decide +kernel
set_option maxHeartbeats 4000000 in
set_option maxRecDepth 100000 in
theorem kX11_newCrack (l : Launch) (D : va_G) (τ : CId) (x0 x1 x2 x3 x4 : Int32) : Ct l D τ yX11_newCrack wsX11_newCrack { frames := 5, cells := 1, slots := 5, locals := 116 } [.int x0, .int x1, .int x2, .int x3, .int x4] [] (fun W' v => ∃ a : Nat, v = some (.ref a) ∧ W' = [(a, .inr (kci x2, [.int x0, .int x1, .int x4, .int x3, .int 0]))]) := by
  refine ct_of (cc := cX11_newCrack) (maxL := 5) (ret := (some (.object "WideningCracks$Crack"))) (by decide) rfl (Nat.le_of_ble_eq_true rfl) (fun Γ C => ?_)
  refine wm_lv (lv' := [(0, .int x0), (1, .int x1), (2, .int x2), (3, .int x3), (4, .int x4)]) rfl ?_
  refine wm_iload_n C dX11_newCrack_0 2 rfl (pc' := 1) rfl ?_
  by_cases n1 : x2 = 1
  · have hk : kci x2 = 10 := by unfold kci; rw [if_pos n1]
    refine wm_tableIn (off := 31) C dX11_newCrack_1 (by rw [n1]; decide) (by rw [n1]; decide) (by rw [n1]; rfl) 32 (by decide) ?_
    refine wm_new C dX11_newCrack_32 inX10_X11_newCrack tyX10 tyX10_ok (by decide +kernel) (by decide +kernel) (by decide +kernel) (ci := 10) rfl [.int 0, .int 0, .int 0, .int 0, .int 0] (fun j hj => by rcases (show j = 0 ∨ j = 1 ∨ j = 2 ∨ j = 3 ∨ j = 4 by omega) with rfl | rfl | rfl | rfl | rfl <;> rfl) ⟨Nat.le_of_ble_eq_true rfl, Nat.le_of_ble_eq_true rfl⟩ (pc' := 35) rfl (fun a => ?_)
    refine wm_W (Wd' := [(a, .inr (10, [.int 0, .int 0, .int 0, .int 0, .int 0]))]) rfl ?_
    refine wm_dup C dX11_newCrack_35 rfl (pc' := 36) rfl ?_
    refine wm_iload_n C dX11_newCrack_36 0 rfl (pc' := 37) rfl ?_
    refine wm_iload_n C dX11_newCrack_37 1 rfl (pc' := 38) rfl ?_
    refine wm_iload_n C dX11_newCrack_38 3 rfl (pc' := 39) rfl ?_
    refine wm_iload C dX11_newCrack_39 4 rfl (pc' := 41) rfl ?_
    refine wm_callI (nn := 4) (As := [.int x0, .int x1, .int x3, .int x4]) (rest := [.ref a]) (Wc := [(a, .inr (10, [.int 0, .int 0, .int 0, .int 0, .int 0]))]) (Wr := []) C dX11_newCrack_41 (kX10_init_X10 l D τ a x0 x1 x3 x4) gX11_newCrack_X10_init rfl (by decide +kernel) (by decide +kernel) (by decide +kernel) rfl (by decide +kernel) ⟨Nat.le_of_ble_eq_true rfl, Nat.le_of_ble_eq_true rfl⟩ ⟨Nat.le_of_ble_eq_true rfl, Nat.le_of_ble_eq_true rfl⟩ rfl rfl rfl (Nat.le_of_ble_eq_true rfl) (pc' := 44) rfl (fun v w hF => ?_)
    obtain ⟨rfl, rfl⟩ := hF
    exact wm_aret C dX11_newCrack_44 (Nat.le_of_ble_eq_true rfl) (Nat.le_of_ble_eq_true rfl) ⟨a, rfl, by rw [hk]; rfl⟩
  · skip
    by_cases n2 : x2 = 2
    · have hk : kci x2 = 0 := by unfold kci; rw [if_neg n1, if_pos n2]
      refine wm_tableIn (off := 44) C dX11_newCrack_1 (by rw [n2]; decide) (by rw [n2]; decide) (by rw [n2]; rfl) 45 (by decide) ?_
      refine wm_new C dX11_newCrack_45 inX0_X11_newCrack tyX0 tyX0_ok (by decide +kernel) (by decide +kernel) (by decide +kernel) (ci := 0) rfl [.int 0, .int 0, .int 0, .int 0, .int 0] (fun j hj => by rcases (show j = 0 ∨ j = 1 ∨ j = 2 ∨ j = 3 ∨ j = 4 by omega) with rfl | rfl | rfl | rfl | rfl <;> rfl) ⟨Nat.le_of_ble_eq_true rfl, Nat.le_of_ble_eq_true rfl⟩ (pc' := 48) rfl (fun a => ?_)
      refine wm_W (Wd' := [(a, .inr (0, [.int 0, .int 0, .int 0, .int 0, .int 0]))]) rfl ?_
      refine wm_dup C dX11_newCrack_48 rfl (pc' := 49) rfl ?_
      refine wm_iload_n C dX11_newCrack_49 0 rfl (pc' := 50) rfl ?_
      refine wm_iload_n C dX11_newCrack_50 1 rfl (pc' := 51) rfl ?_
      refine wm_iload_n C dX11_newCrack_51 3 rfl (pc' := 52) rfl ?_
      refine wm_iload C dX11_newCrack_52 4 rfl (pc' := 54) rfl ?_
      refine wm_callI (nn := 4) (As := [.int x0, .int x1, .int x3, .int x4]) (rest := [.ref a]) (Wc := [(a, .inr (0, [.int 0, .int 0, .int 0, .int 0, .int 0]))]) (Wr := []) C dX11_newCrack_54 (kX0_init_X0 l D τ a x0 x1 x3 x4) gX11_newCrack_X0_init rfl (by decide +kernel) (by decide +kernel) (by decide +kernel) rfl (by decide +kernel) ⟨Nat.le_of_ble_eq_true rfl, Nat.le_of_ble_eq_true rfl⟩ ⟨Nat.le_of_ble_eq_true rfl, Nat.le_of_ble_eq_true rfl⟩ rfl rfl rfl (Nat.le_of_ble_eq_true rfl) (pc' := 57) rfl (fun v w hF => ?_)
      obtain ⟨rfl, rfl⟩ := hF
      exact wm_aret C dX11_newCrack_57 (Nat.le_of_ble_eq_true rfl) (Nat.le_of_ble_eq_true rfl) ⟨a, rfl, by rw [hk]; rfl⟩
    · skip
      by_cases n3 : x2 = 3
      · have hk : kci x2 = 3 := by unfold kci; rw [if_neg n1, if_neg n2, if_pos n3]
        refine wm_tableIn (off := 57) C dX11_newCrack_1 (by rw [n3]; decide) (by rw [n3]; decide) (by rw [n3]; rfl) 58 (by decide) ?_
        refine wm_new C dX11_newCrack_58 inX3_X11_newCrack tyX3 tyX3_ok (by decide +kernel) (by decide +kernel) (by decide +kernel) (ci := 3) rfl [.int 0, .int 0, .int 0, .int 0, .int 0] (fun j hj => by rcases (show j = 0 ∨ j = 1 ∨ j = 2 ∨ j = 3 ∨ j = 4 by omega) with rfl | rfl | rfl | rfl | rfl <;> rfl) ⟨Nat.le_of_ble_eq_true rfl, Nat.le_of_ble_eq_true rfl⟩ (pc' := 61) rfl (fun a => ?_)
        refine wm_W (Wd' := [(a, .inr (3, [.int 0, .int 0, .int 0, .int 0, .int 0]))]) rfl ?_
        refine wm_dup C dX11_newCrack_61 rfl (pc' := 62) rfl ?_
        refine wm_iload_n C dX11_newCrack_62 0 rfl (pc' := 63) rfl ?_
        refine wm_iload_n C dX11_newCrack_63 1 rfl (pc' := 64) rfl ?_
        refine wm_iload_n C dX11_newCrack_64 3 rfl (pc' := 65) rfl ?_
        refine wm_iload C dX11_newCrack_65 4 rfl (pc' := 67) rfl ?_
        refine wm_callI (nn := 4) (As := [.int x0, .int x1, .int x3, .int x4]) (rest := [.ref a]) (Wc := [(a, .inr (3, [.int 0, .int 0, .int 0, .int 0, .int 0]))]) (Wr := []) C dX11_newCrack_67 (kX3_init_X3 l D τ a x0 x1 x3 x4) gX11_newCrack_X3_init rfl (by decide +kernel) (by decide +kernel) (by decide +kernel) rfl (by decide +kernel) ⟨Nat.le_of_ble_eq_true rfl, Nat.le_of_ble_eq_true rfl⟩ ⟨Nat.le_of_ble_eq_true rfl, Nat.le_of_ble_eq_true rfl⟩ rfl rfl rfl (Nat.le_of_ble_eq_true rfl) (pc' := 70) rfl (fun v w hF => ?_)
        obtain ⟨rfl, rfl⟩ := hF
        exact wm_aret C dX11_newCrack_70 (Nat.le_of_ble_eq_true rfl) (Nat.le_of_ble_eq_true rfl) ⟨a, rfl, by rw [hk]; rfl⟩
      · skip
        by_cases n4 : x2 = 4
        · have hk : kci x2 = 7 := by unfold kci; rw [if_neg n1, if_neg n2, if_neg n3, if_pos n4]
          refine wm_tableIn (off := 70) C dX11_newCrack_1 (by rw [n4]; decide) (by rw [n4]; decide) (by rw [n4]; rfl) 71 (by decide) ?_
          refine wm_new C dX11_newCrack_71 inX7_X11_newCrack tyX7 tyX7_ok (by decide +kernel) (by decide +kernel) (by decide +kernel) (ci := 7) rfl [.int 0, .int 0, .int 0, .int 0, .int 0] (fun j hj => by rcases (show j = 0 ∨ j = 1 ∨ j = 2 ∨ j = 3 ∨ j = 4 by omega) with rfl | rfl | rfl | rfl | rfl <;> rfl) ⟨Nat.le_of_ble_eq_true rfl, Nat.le_of_ble_eq_true rfl⟩ (pc' := 74) rfl (fun a => ?_)
          refine wm_W (Wd' := [(a, .inr (7, [.int 0, .int 0, .int 0, .int 0, .int 0]))]) rfl ?_
          refine wm_dup C dX11_newCrack_74 rfl (pc' := 75) rfl ?_
          refine wm_iload_n C dX11_newCrack_75 0 rfl (pc' := 76) rfl ?_
          refine wm_iload_n C dX11_newCrack_76 1 rfl (pc' := 77) rfl ?_
          refine wm_iload_n C dX11_newCrack_77 3 rfl (pc' := 78) rfl ?_
          refine wm_iload C dX11_newCrack_78 4 rfl (pc' := 80) rfl ?_
          refine wm_callI (nn := 4) (As := [.int x0, .int x1, .int x3, .int x4]) (rest := [.ref a]) (Wc := [(a, .inr (7, [.int 0, .int 0, .int 0, .int 0, .int 0]))]) (Wr := []) C dX11_newCrack_80 (kX7_init_X7 l D τ a x0 x1 x3 x4) gX11_newCrack_X7_init rfl (by decide +kernel) (by decide +kernel) (by decide +kernel) rfl (by decide +kernel) ⟨Nat.le_of_ble_eq_true rfl, Nat.le_of_ble_eq_true rfl⟩ ⟨Nat.le_of_ble_eq_true rfl, Nat.le_of_ble_eq_true rfl⟩ rfl rfl rfl (Nat.le_of_ble_eq_true rfl) (pc' := 83) rfl (fun v w hF => ?_)
          obtain ⟨rfl, rfl⟩ := hF
          exact wm_aret C dX11_newCrack_83 (Nat.le_of_ble_eq_true rfl) (Nat.le_of_ble_eq_true rfl) ⟨a, rfl, by rw [hk]; rfl⟩
        · skip
          have hk : kci x2 = 2 := by unfold kci; rw [if_neg n1, if_neg n2, if_neg n3, if_neg n4]
          refine wm_tableOut C dX11_newCrack_1 (by have a0 := i32_ne n1; have a1 := i32_ne n2; have a2 := i32_ne n3; have a3 := i32_ne n4; rw [show (1 : Int32).toInt = 1 from by decide] at a0; rw [show (2 : Int32).toInt = 2 from by decide] at a1; rw [show (3 : Int32).toInt = 3 from by decide] at a2; rw [show (4 : Int32).toInt = 4 from by decide] at a3; omega) 84 (by decide) ?_
          refine wm_new C dX11_newCrack_84 inX2_X11_newCrack tyX2 tyX2_ok (by decide +kernel) (by decide +kernel) (by decide +kernel) (ci := 2) rfl [.int 0, .int 0, .int 0, .int 0, .int 0] (fun j hj => by rcases (show j = 0 ∨ j = 1 ∨ j = 2 ∨ j = 3 ∨ j = 4 by omega) with rfl | rfl | rfl | rfl | rfl <;> rfl) ⟨Nat.le_of_ble_eq_true rfl, Nat.le_of_ble_eq_true rfl⟩ (pc' := 87) rfl (fun a => ?_)
          refine wm_W (Wd' := [(a, .inr (2, [.int 0, .int 0, .int 0, .int 0, .int 0]))]) rfl ?_
          refine wm_dup C dX11_newCrack_87 rfl (pc' := 88) rfl ?_
          refine wm_iload_n C dX11_newCrack_88 0 rfl (pc' := 89) rfl ?_
          refine wm_iload_n C dX11_newCrack_89 1 rfl (pc' := 90) rfl ?_
          refine wm_iload_n C dX11_newCrack_90 3 rfl (pc' := 91) rfl ?_
          refine wm_iload C dX11_newCrack_91 4 rfl (pc' := 93) rfl ?_
          refine wm_callI (nn := 4) (As := [.int x0, .int x1, .int x3, .int x4]) (rest := [.ref a]) (Wc := [(a, .inr (2, [.int 0, .int 0, .int 0, .int 0, .int 0]))]) (Wr := []) C dX11_newCrack_93 (kX2_init_X2 l D τ a x0 x1 x3 x4) gX11_newCrack_X2_init rfl (by decide +kernel) (by decide +kernel) (by decide +kernel) rfl (by decide +kernel) ⟨Nat.le_of_ble_eq_true rfl, Nat.le_of_ble_eq_true rfl⟩ ⟨Nat.le_of_ble_eq_true rfl, Nat.le_of_ble_eq_true rfl⟩ rfl rfl rfl (Nat.le_of_ble_eq_true rfl) (pc' := 96) rfl (fun v w hF => ?_)
          obtain ⟨rfl, rfl⟩ := hF
          exact wm_aret C dX11_newCrack_96 (Nat.le_of_ble_eq_true rfl) (Nat.le_of_ble_eq_true rfl) ⟨a, rfl, by rw [hk]; rfl⟩
/-- a crack more: its fields in the state -/
def growS (σ : MS) (nc : Nat) (fr to kd wi nu : Int32) : MS := sA (sA (sA (sA (sA (sA σ 5 nc fr) 6 nc to) 7 nc kd) 8 nc wi) 9 nc nu) 10 nc 0
theorem growS_I {σ : MS} {nc : Nat} {fr to kd wi nu : Int32} (k : Nat) : gI (growS σ nc fr to kd wi nu) k = gI σ k := rfl
theorem growS_L {σ : MS} {nc : Nat} {fr to kd wi nu : Int32} : gL (growS σ nc fr to kd wi nu) = gL σ := rfl
theorem growS_B {σ : MS} {nc : Nat} {fr to kd wi nu : Int32} (k : Nat) : gB (growS σ nc fr to kd wi nu) k = gB σ k := rfl
theorem growS_A {σ : MS} {nc : Nat} {fr to kd wi nu : Int32} {k : Nat} (h : k < 5 ∨ 10 < k) : gA (growS σ nc fr to kd wi nu) k = gA σ k := by
  unfold growS
  rw [gA_ne (by omega), gA_ne (by omega), gA_ne (by omega), gA_ne (by omega), gA_ne (by omega), gA_ne (by omega)]
theorem growS_ne {σ : MS} {nc : Nat} {fr to kd wi nu : Int32} (k : Nat) {c : Nat} (h : c ≠ nc) : gA (growS σ nc fr to kd wi nu) k c = gA σ k c := by
  have e : ∀ (s : MS) (j : Nat) (v : Int32), gA (sA s j nc v) k c = gA s k c := by
    intro s j v
    by_cases hk : k = j
    · subst hk; rw [gA_eq]; exact if_neg h
    · rw [gA_ne hk]
  unfold growS
  rw [e, e, e, e, e, e]
theorem growS_5 {σ : MS} {nc : Nat} {fr to kd wi nu : Int32} : gA (growS σ nc fr to kd wi nu) 5 nc = fr := by
  unfold growS
  rw [gA_ne (by decide), gA_ne (by decide), gA_ne (by decide), gA_ne (by decide), gA_ne (by decide), gA_eq, pk_us]
theorem growS_6 {σ : MS} {nc : Nat} {fr to kd wi nu : Int32} : gA (growS σ nc fr to kd wi nu) 6 nc = to := by
  unfold growS
  rw [gA_ne (by decide), gA_ne (by decide), gA_ne (by decide), gA_ne (by decide), gA_eq, pk_us]
theorem growS_7 {σ : MS} {nc : Nat} {fr to kd wi nu : Int32} : gA (growS σ nc fr to kd wi nu) 7 nc = kd := by
  unfold growS
  rw [gA_ne (by decide), gA_ne (by decide), gA_ne (by decide), gA_eq, pk_us]
theorem growS_8 {σ : MS} {nc : Nat} {fr to kd wi nu : Int32} : gA (growS σ nc fr to kd wi nu) 8 nc = wi := by
  unfold growS
  rw [gA_ne (by decide), gA_ne (by decide), gA_eq, pk_us]
theorem growS_9 {σ : MS} {nc : Nat} {fr to kd wi nu : Int32} : gA (growS σ nc fr to kd wi nu) 9 nc = nu := by
  unfold growS
  rw [gA_ne (by decide), gA_eq, pk_us]
theorem growS_10 {σ : MS} {nc : Nat} {fr to kd wi nu : Int32} : gA (growS σ nc fr to kd wi nu) 10 nc = 0 := by
  unfold growS
  rw [gA_eq, pk_us]
theorem xC_grow {τ : CId} {q : Nat → Nat} {nc a : Nat} {σ : MS} {fr to kd wi nu : Int32} : ∀ j, j ≠ 10 → j < 49 + nc → xC τ (va_up q (200 + nc) a) (nc + 1) (growS σ nc fr to kd wi nu) j = xC τ q nc σ j := by
  have hq : ∀ k, k ≠ 200 + nc → va_up q (200 + nc) a k = q k := fun k h => if_neg h
  intro j hj hlt
  by_cases h19 : j < 19
  · have hf : ∀ k, k < 5 ∨ 10 < k → gA (growS σ nc fr to kd wi nu) k = gA σ k := fun k h => growS_A h
    have hr : ∀ b m, b + m ≤ 200 → refs (va_up q (200 + nc) a) b m = refs q b m := by
      intro b m hbm
      funext i
      unfold refs
      by_cases hi : i < m
      · rw [if_pos hi, if_pos hi, hq _ (by omega)]
      · rw [if_neg hi, if_neg hi]
    match j, h19, hj with
    | 0, _, _ => show (_, _) = (_, _); simp only [growS_I]; rw [hq 0 (by omega), hq 60 (by omega), hq 61 (by omega), hq 62 (by omega), hq 63 (by omega), hq 64 (by omega), hq 65 (by omega), hq 22 (by omega)]
    | 1, _, _ => show (_, _) = (_, _); simp only [growS_I]; rw [hq 60 (by omega), hq 2 (by omega), hq 3 (by omega), hq 66 (by omega)]
    | 2, _, _ => show (_, _) = (_, _); simp only [growS_I, growS_L]; rw [hq 61 (by omega), hq 60 (by omega), hq 67 (by omega), hq 68 (by omega), hq 69 (by omega), hq 70 (by omega)]
    | 3, _, _ => show (_, _) = (_, _); simp only [growS_I]; rw [hq 62 (by omega), hq 60 (by omega)]
    | 4, _, _ => show (_, _) = (_, _); simp only [growS_I]; rw [hq 63 (by omega), hq 71 (by omega), hq 72 (by omega), hq 73 (by omega), hq 74 (by omega)]
    | 5, _, _ => show (_, _) = (_, _); simp only [growS_I]; rw [hq 65 (by omega)]
    | 6, _, _ => show (_, _) = (_, _); rw [hq 64 (by omega), hr 80 4 (by omega)]
    | 7, _, _ => show (_, _) = (_, _); rw [hq 22 (by omega)]; rfl
    | 8, _, _ => show (_, _) = (_, _); rw [hq 2 (by omega), hf 2 (by omega)]
    | 9, _, _ => show (_, _) = (_, _); rw [hq 3 (by omega), hf 3 (by omega)]
    | 10, _, h => exact absurd rfl h
    | 11, _, _ => show (_, _) = (_, _); rw [hq 67 (by omega), hr 100 6 (by omega)]
    | 12, _, _ => show (_, _) = (_, _); rw [hq 68 (by omega)]; rfl
    | 13, _, _ => show (_, _) = (_, _); rw [hq 69 (by omega)]; rfl
    | 14, _, _ => show (_, _) = (_, _); rw [hq 70 (by omega)]; rfl
    | 15, _, _ => show (_, _) = (_, _); rw [hq 71 (by omega), hr 110 8 (by omega)]
    | 16, _, _ => show (_, _) = (_, _); rw [hq 72 (by omega), hr 120 8 (by omega)]
    | 17, _, _ => show (_, _) = (_, _); rw [hq 73 (by omega), hf 73 (by omega)]
    | 18, _, _ => show (_, _) = (_, _); rw [hq 74 (by omega), hf 74 (by omega)]
    | n + 19, h, _ => exact absurd h (by omega)
  · obtain ⟨p, rfl⟩ : ∃ p, j = p + 19 := ⟨j - 19, by omega⟩
    show xR τ (va_up q (200 + nc) a) (growS σ nc fr to kd wi nu) p = xR τ q σ p
    unfold xR
    by_cases h1 : p < 4
    · rw [if_pos h1, if_pos h1]; unfold xCore; rw [hq _ (by omega), hq _ (by omega), growS_A (by omega), growS_A (by omega), growS_A (by omega)]
    · rw [if_neg h1, if_neg h1]
      by_cases h2 : p < 8
      · rw [if_pos h2, if_pos h2, hq _ (by omega)]; rfl
      · rw [if_neg h2, if_neg h2]
        by_cases h3 : p < 14
        · rw [if_pos h3, if_pos h3, hq _ (by omega)]; rfl
        · rw [if_neg h3, if_neg h3]
          by_cases h4 : p < 22
          · rw [if_pos h4, if_pos h4, hq _ (by omega), growS_A (by omega)]
          · rw [if_neg h4, if_neg h4]
            by_cases h5 : p < 30
            · rw [if_pos h5, if_pos h5, hq _ (by omega), growS_A (by omega)]
            · rw [if_neg h5, if_neg h5]; unfold xK; rw [hq _ (by omega), growS_ne 5 (by omega), growS_ne 6 (by omega), growS_ne 7 (by omega), growS_ne 8 (by omega), growS_ne 9 (by omega), growS_ne 10 (by omega)]
theorem xW_grow {τ : CId} {q : Nat → Nat} {nc a : Nat} {σ : MS} {fr to kd wi nu : Int32} : (xW τ q nc σ ++ ([(a, .inr (kci kd, [.int fr, .int to, .int nu, .int wi, .int 0]))] : va_W)).set 10 (q 66, .inl (τ.2.2.2.2.1, 12, .inr (.inr (.inr (.inr (va_up (refs q 200 nc) nc (some a))))))) = xW τ (va_up q (200 + nc) a) (nc + 1) (growS σ nc fr to kd wi nu) := by
  have hlen : (xW τ q nc σ).length = 49 + nc := by simp [xW]
  have hlen' : (xW τ (va_up q (200 + nc) a) (nc + 1) (growS σ nc fr to kd wi nu)).length = 49 + (nc + 1) := by simp [xW]
  apply List.ext_getElem?
  intro j
  rw [List.getElem?_set]
  by_cases hj : 10 = j
  · subst hj
    rw [if_pos rfl, if_pos (by rw [List.length_append, hlen]; simp; omega), xW_at (by omega)]
    show _ = some ((va_up q (200 + nc) a 66, _))
    rw [show va_up q (200 + nc) a 66 = q 66 from if_neg (by omega)]
    have er : va_up (refs q 200 nc) nc (some a) = refs (va_up q (200 + nc) a) 200 (nc + 1) := by
      funext i
      unfold refs va_up
      by_cases hi : i = nc
      · subst hi
        rw [if_pos rfl, if_pos (by omega), if_pos rfl]
      · rw [if_neg hi]
        show (if i < nc then some (q (200 + i)) else none) = _
        by_cases h2 : i < nc
        · rw [if_pos h2, if_pos (by omega), if_neg (by omega)]
        · rw [if_neg h2, if_neg (by omega)]
    rw [er]
  · rw [if_neg hj]
    by_cases h2 : j < 49 + nc
    · rw [List.getElem?_append_left (by rw [hlen]; exact h2), xW_at h2, xW_at (by omega), xC_grow j (fun h => hj h.symm) h2]
    · by_cases h3 : j = 49 + nc
      · subst h3
        rw [List.getElem?_append_right (by rw [hlen]; exact Nat.le_refl _), hlen, Nat.sub_self, xW_at (by omega), xC_crack]
        unfold xK
        rw [show va_up q (200 + nc) a (200 + nc) = a from if_pos rfl, growS_5, growS_6, growS_7, growS_8, growS_9, growS_10]
        rfl
      · rw [List.getElem?_eq_none (by rw [List.length_append, hlen]; simp; omega), List.getElem?_eq_none (by rw [hlen']; omega)]
theorem inX5_X5_addCrack : ∀ w ∈ wsX50, w ∈ wsX5_addCrack := by decide +kernel
set_option maxHeartbeats 4000000 in
set_option maxRecDepth 100000 in
theorem kX5_addCrack (l : Launch) (D : va_G) (τ : CId) (q : Nat → Nat) (nc : Nat) (σ : MS) (a : Nat) (fr to kd wi nu : Int32) (hc : (gI σ 4).toNatClampNeg = nc ∧ ¬ (gI σ 4 < 0 ∨ 12 ≤ (gI σ 4).toNatClampNeg)) : Ct l D τ yX5_addCrack wsX5_addCrack { frames := 0, cells := 0, slots := 0, locals := 0 } [.ref (q 60), .ref a] (xW τ q nc σ ++ ([(a, .inr (kci kd, [.int fr, .int to, .int nu, .int wi, .int 0]))] : va_W)) (FD (xW τ (va_up q (200 + nc) a) (nc + 1) (sI (sI (growS σ nc fr to kd wi nu) 50 (gI (growS σ nc fr to kd wi nu) 50 + 1)) 4 (gI (sI (growS σ nc fr to kd wi nu) 50 (gI (growS σ nc fr to kd wi nu) 50 + 1)) 4 + 1))) (some (.int ((gI (sI (sI (growS σ nc fr to kd wi nu) 50 (gI (growS σ nc fr to kd wi nu) 50 + 1)) 4 (gI (sI (growS σ nc fr to kd wi nu) 50 (gI (growS σ nc fr to kd wi nu) 50 + 1)) 4 + 1)) 4) - 1)))) := by
  refine ct_of (cc := cX5_addCrack) (maxL := 2) (ret := (some .int)) (by decide) rfl (Nat.le_of_ble_eq_true rfl) (fun Γ C => ?_)
  refine wm_lv (lv' := [(0, .ref (q 60)), (1, .ref a)]) rfl ?_
  have hlen : (xW τ q nc σ).length = 49 + nc := by simp [xW]
  have hA : ∀ {p0 : Nat} {e : Nat × va_E}, p0 < 49 → xC τ q nc σ p0 = e → (xW τ q nc σ ++ ([(a, .inr (kci kd, [.int fr, .int to, .int nu, .int wi, .int 0]))] : va_W))[p0]? = some e := fun h he => by rw [List.getElem?_append_left (by rw [hlen]; omega)]; exact x_at (by omega) he
  have hLast : (xW τ q nc σ ++ ([(a, .inr (kci kd, [.int fr, .int to, .int nu, .int wi, .int 0]))] : va_W))[49 + nc]? = some (a, .inr (kci kd, [.int fr, .int to, .int nu, .int wi, .int 0])) := by rw [List.getElem?_append_right (by rw [hlen]; exact Nat.le_refl _), hlen, Nat.sub_self]; rfl
  refine wm_aload_n C dX5_addCrack_0 0 rfl (pc' := 1) rfl ?_
  refine wm_get (v := .ref (q 66)) C dX5_addCrack_1 inX5_X5_addCrack 1 (hA (by omega) rfl) rfl 2 (by decide) (by decide +kernel) (Or.inl rfl) rfl (pc' := 4) rfl ?_
  refine wm_aload_n C dX5_addCrack_4 0 rfl (pc' := 5) rfl ?_
  refine wm_get (v := .int (gI σ 4)) C dX5_addCrack_5 inX5_X5_addCrack 1 (hA (by omega) rfl) rfl 4 (by decide) (by decide +kernel) (Or.inl rfl) rfl (pc' := 8) rfl ?_
  refine wm_aload_n C dX5_addCrack_8 1 rfl (pc' := 9) rfl ?_
  have K : WM l D Γ 2 0 0 (xW τ (va_up q (200 + nc) a) (nc + 1) (growS σ nc fr to kd wi nu)) 10 [(0, .ref (q 60)), (1, .ref a)] [] := by
    have h60 : va_up q (200 + nc) a 60 = q 60 := if_neg (by omega)
    refine wm_aload_n C dX5_addCrack_10 0 rfl (pc' := 11) rfl ?_
    refine wm_dup C dX5_addCrack_11 rfl (pc' := 12) rfl ?_
    refine x_get (v := .int (gI (growS σ nc fr to kd wi nu) 50)) C dX5_addCrack_12 inX5_X5_addCrack 1 (by omega) (by rw [← h60]; rfl) rfl 6 (by decide) (by decide +kernel) (Or.inl rfl) rfl (pc' := 15) rfl ?_
    refine wm_ikonst (v := 1) C dX5_addCrack_15 (by decide) (pc' := 16) rfl ?_
    refine wm_iadd C dX5_addCrack_16 (pc' := 17) rfl ?_
    refine x_put (σ' := sI (growS σ nc fr to kd wi nu) 50 (gI (growS σ nc fr to kd wi nu) 50 + 1)) C dX5_addCrack_17 inX5_X5_addCrack tyX5 tyX5_ok nmX5 1 (by omega) (by rw [← h60]; rfl) rfl 6 (by decide) (by decide +kernel) (Or.inl rfl) rfl rfl rfl rfl (Nat.le_of_ble_eq_true rfl) xC_I50 (by rw [← h60]; rfl) (pc' := 20) rfl ?_
    refine wm_aload_n C dX5_addCrack_20 0 rfl (pc' := 21) rfl ?_
    refine wm_dup C dX5_addCrack_21 rfl (pc' := 22) rfl ?_
    refine x_get (v := .int (gI (sI (growS σ nc fr to kd wi nu) 50 (gI (growS σ nc fr to kd wi nu) 50 + 1)) 4)) C dX5_addCrack_22 inX5_X5_addCrack 1 (by omega) (by rw [← h60]; rfl) rfl 4 (by decide) (by decide +kernel) (Or.inl rfl) rfl (pc' := 25) rfl ?_
    refine wm_ikonst (v := 1) C dX5_addCrack_25 (by decide) (pc' := 26) rfl ?_
    refine wm_iadd C dX5_addCrack_26 (pc' := 27) rfl ?_
    refine x_put (σ' := sI (sI (growS σ nc fr to kd wi nu) 50 (gI (growS σ nc fr to kd wi nu) 50 + 1)) 4 (gI (sI (growS σ nc fr to kd wi nu) 50 (gI (growS σ nc fr to kd wi nu) 50 + 1)) 4 + 1)) C dX5_addCrack_27 inX5_X5_addCrack tyX5 tyX5_ok nmX5 1 (by omega) (by rw [← h60]; rfl) rfl 4 (by decide) (by decide +kernel) (Or.inl rfl) rfl rfl rfl rfl (Nat.le_of_ble_eq_true rfl) xC_I4 (by rw [← h60]; rfl) (pc' := 30) rfl ?_
    refine wm_aload_n C dX5_addCrack_30 0 rfl (pc' := 31) rfl ?_
    refine x_get (v := .int (gI (sI (sI (growS σ nc fr to kd wi nu) 50 (gI (growS σ nc fr to kd wi nu) 50 + 1)) 4 (gI (sI (growS σ nc fr to kd wi nu) 50 (gI (growS σ nc fr to kd wi nu) 50 + 1)) 4 + 1)) 4)) C dX5_addCrack_31 inX5_X5_addCrack 1 (by omega) (by rw [← h60]; rfl) rfl 4 (by decide) (by decide +kernel) (Or.inl rfl) rfl (pc' := 34) rfl ?_
    refine wm_ikonst (v := 1) C dX5_addCrack_34 (by decide) (pc' := 35) rfl ?_
    refine wm_isub C dX5_addCrack_35 (pc' := 36) rfl ?_
    exact wm_iret C dX5_addCrack_36 (Nat.zero_le _) (Nat.zero_le _) FD.rf
  have hin : ¬ (gI σ 4 < 0 ∨ 12 ≤ (gI σ 4).toNatClampNeg) := hc.2
  have hix : (gI σ 4).toNatClampNeg = nc := hc.1
  have hW := xW_grow (τ := τ) (q := q) (nc := nc) (a := a) (σ := σ) (fr := fr) (to := to) (kd := kd) (wi := wi) (nu := nu)
  rw [← hix] at hW
  rcases kci5 kd with ⟨-, kk⟩ | ⟨-, -, kk⟩ | ⟨-, -, -, kk⟩ | ⟨-, -, -, -, kk⟩ | ⟨-, -, -, -, kk⟩
  · exact wm_aastO (r := (RX10, TX10, 5)) (E := "WideningCracks$Crack") (f := refs q 200 nc) (N := 12) (cA := τ.2.2.2.2.1) C dX5_addCrack_9 10 4 (49 + nc) (hA (by omega) rfl) rfl (by decide) (by rw [hLast, kk]) rfl hin (by rw [hix] at hW ⊢; exact hW) (pc' := 10) rfl K
  · exact wm_aastO (r := (RX0, TX0, 5)) (E := "WideningCracks$Crack") (f := refs q 200 nc) (N := 12) (cA := τ.2.2.2.2.1) C dX5_addCrack_9 10 4 (49 + nc) (hA (by omega) rfl) rfl (by decide) (by rw [hLast, kk]) rfl hin (by rw [hix] at hW ⊢; exact hW) (pc' := 10) rfl K
  · exact wm_aastO (r := (RX3, TX3, 5)) (E := "WideningCracks$Crack") (f := refs q 200 nc) (N := 12) (cA := τ.2.2.2.2.1) C dX5_addCrack_9 10 4 (49 + nc) (hA (by omega) rfl) rfl (by decide) (by rw [hLast, kk]) rfl hin (by rw [hix] at hW ⊢; exact hW) (pc' := 10) rfl K
  · exact wm_aastO (r := (RX7, TX7, 5)) (E := "WideningCracks$Crack") (f := refs q 200 nc) (N := 12) (cA := τ.2.2.2.2.1) C dX5_addCrack_9 10 4 (49 + nc) (hA (by omega) rfl) rfl (by decide) (by rw [hLast, kk]) rfl hin (by rw [hix] at hW ⊢; exact hW) (pc' := 10) rfl K
  · exact wm_aast (r := (RX2, TX2, 5)) (f := refs q 200 nc) (N := 12) (cA := τ.2.2.2.2.1) C dX5_addCrack_9 10 4 (49 + nc) (hA (by omega) rfl) rfl (by rw [hLast, kk]) rfl hin (by rw [hix] at hW ⊢; exact hW) (pc' := 10) rfl K
