def fX8_inflowUpper_J71 (nc : Nat) (rec : Int64 → Int32 → MS → Option (Int64 × MS)) (x1 : Int32) (x2 : Int64) (x4 : Int32) (s : MS) : Option (Int64 × MS) :=
  rec x2 (x4 + 1) s
def fX8_inflowUpper_J44 (nc : Nat) (rec : Int64 → Int32 → MS → Option (Int64 × MS)) (x1 : Int32) (x2 : Int64) (x4 : Int32) (s : MS) : Option (Int64 × MS) :=
  if ¬ (x4 < 0 ∨ 12 ≤ x4.toNatClampNeg) then if x4.toNatClampNeg < nc then if x4.toNatClampNeg < nc then if ¬ (gA s 6 x4.toNatClampNeg) = x1 then fX8_inflowUpper_J71 nc (rec) x1 x2 x4 s else if ¬ (x4 < 0 ∨ 12 ≤ x4.toNatClampNeg) then fX8_inflowUpper_J71 nc (rec) x1 (x2 - (gB s 70 x4.toNatClampNeg)) x4 s else none else none else none else none
def fX8_inflowUpper_L5 (nc : Nat) (x1 : Int32) : Nat → Int64 → Int32 → MS → Option (Int64 × MS)
  | 0, _, _, _ => none
  | fu + 1, x2, x4, s => if (gI s 4) ≤ x4 then some (x2, s) else if ¬ (x4 < 0 ∨ 12 ≤ x4.toNatClampNeg) then if x4.toNatClampNeg < nc then if x4.toNatClampNeg < nc then if ¬ (gA s 5 x4.toNatClampNeg) = x1 then fX8_inflowUpper_J44 nc (fX8_inflowUpper_L5 nc x1 fu) x1 x2 x4 s else if ¬ (x4 < 0 ∨ 12 ≤ x4.toNatClampNeg) then fX8_inflowUpper_J44 nc (fX8_inflowUpper_L5 nc x1 fu) x1 (x2 + (gB s 70 x4.toNatClampNeg)) x4 s else none else none else none else none
theorem fX8_inflowUpper_L5_s (nc : Nat) (x1 : Int32) (fu : Nat) (x2 : Int64) (x4 : Int32) (s : MS) : fX8_inflowUpper_L5 nc x1 (fu + 1) x2 x4 s = (if (gI s 4) ≤ x4 then some (x2, s) else if ¬ (x4 < 0 ∨ 12 ≤ x4.toNatClampNeg) then if x4.toNatClampNeg < nc then if x4.toNatClampNeg < nc then if ¬ (gA s 5 x4.toNatClampNeg) = x1 then fX8_inflowUpper_J44 nc (fX8_inflowUpper_L5 nc x1 fu) x1 x2 x4 s else if ¬ (x4 < 0 ∨ 12 ≤ x4.toNatClampNeg) then fX8_inflowUpper_J44 nc (fX8_inflowUpper_L5 nc x1 fu) x1 (x2 + (gB s 70 x4.toNatClampNeg)) x4 s else none else none else none else none) := rfl
def fX8_inflowUpper (nc : Nat) (x1 : Int32) (σ : MS) : Option (Int64 × MS) :=
  bnd (fX8_inflowUpper_L5 nc x1 FU 0 0 σ) (fun v12 s13 => some (v12, s13))
theorem in5_X8_inflowUpper : In5 wsX8_inflowUpper := ⟨by decide +kernel, by decide +kernel, by decide +kernel, by decide +kernel, by decide +kernel⟩
theorem inX5_X8_inflowUpper : ∀ w ∈ wsX50, w ∈ wsX8_inflowUpper := by decide +kernel
theorem inX8_X8_inflowUpper : ∀ w ∈ wsX80, w ∈ wsX8_inflowUpper := by decide +kernel
set_option maxHeartbeats 4000000 in
set_option maxRecDepth 100000 in
theorem kX8_inflowUpper (l : Launch) (D : va_G) (τ : CId) (q : Nat → Nat) (nc : Nat) (σ : MS) (x1 : Int32) (rE : Int64) (sE : MS) (hf : fX8_inflowUpper nc x1 σ = some (rE, sE)) : Ct l D τ yX8_inflowUpper wsX8_inflowUpper { frames := 0, cells := 0, slots := 0, locals := 0 } [.ref (q 61), .int x1] (xW τ q nc σ) (FD (xW τ q nc sE) (some (.long rE))) := by
  unfold fX8_inflowUpper at hf
  refine ct_of (cc := cX8_inflowUpper) (maxL := 5) (ret := (some .long)) (by decide) rfl (Nat.le_of_ble_eq_true rfl) (fun Γ C => ?_)
  refine wm_lv (lv' := [(0, .ref (q 61)), (1, .int x1)]) rfl ?_
  have wL_5 : ∀ (x1 : Int32) (fu : Nat) (x2 : Int64) (x4 : Int32) (s : MS) (v : Int64) (s' : MS), fX8_inflowUpper_L5 nc x1 fu x2 x4 s = some (v, s') → WM l D Γ 5 0 0 (xW τ q nc s') 77 [(2, .long v)] [] → WM l D Γ 5 0 0 (xW τ q nc s) 5 [(0, .ref (q 61)), (1, .int x1), (2, .long x2), (4, .int x4)] [] := by
    intro x1
    intro fu
    induction fu with
    | zero => intro x2 x4 s v s' hf hE; exact absurd hf (fun h => nomatch (show (none : Option _) = some _ from h))
    | succ fu ih =>
      intro x2 x4 s v s' hf hE
      rw [fX8_inflowUpper_L5_s] at hf
      have wJ_71 : ∀ (x2 : Int64) (x4 : Int32) (s : MS) (v : Int64) (s' : MS), fX8_inflowUpper_J71 nc (fX8_inflowUpper_L5 nc x1 fu) x1 x2 x4 s = some (v, s') → WM l D Γ 5 0 0 (xW τ q nc s') 77 [(2, .long v)] [] → WM l D Γ 5 0 0 (xW τ q nc s) 71 [(0, .ref (q 61)), (1, .int x1), (2, .long x2), (4, .int x4)] [] := by
        intro x2 x4 s v s' hf hE
        unfold fX8_inflowUpper_J71 at hf
        refine wm_iinc (v := x4 + 1) (lv' := [(4, .int (x4 + 1)), (0, .ref (q 61)), (1, .int x1), (2, .long x2)]) C dX8_inflowUpper_71 3 rfl rfl (by decide) rfl (pc' := 74) rfl ?_
        refine wm_goto C dX8_inflowUpper_74 5 (by decide) ?_
        refine wm_sub (lv' := [(0, .ref (q 61)), (1, .int x1), (2, .long x2), (4, .int (x4 + 1))]) [1, 2, 3, 0] rfl ?_
        exact ih x2 (x4 + 1) s _ _ hf hE
      have wJ_44 : ∀ (x2 : Int64) (x4 : Int32) (s : MS) (v : Int64) (s' : MS), fX8_inflowUpper_J44 nc (fX8_inflowUpper_L5 nc x1 fu) x1 x2 x4 s = some (v, s') → WM l D Γ 5 0 0 (xW τ q nc s') 77 [(2, .long v)] [] → WM l D Γ 5 0 0 (xW τ q nc s) 44 [(0, .ref (q 61)), (1, .int x1), (2, .long x2), (4, .int x4)] [] := by
        intro x2 x4 s v s' hf hE
        unfold fX8_inflowUpper_J44 at hf
        refine wm_aload_n C dX8_inflowUpper_44 0 rfl (pc' := 45) rfl ?_
        refine x_get (v := .ref (q 60)) C dX8_inflowUpper_45 inX8_X8_inflowUpper 2 (by omega) rfl rfl 0 (by decide) (by decide +kernel) (Or.inl rfl) rfl (pc' := 48) rfl ?_
        refine x_get (v := .ref (q 66)) C dX8_inflowUpper_48 inX5_X8_inflowUpper 1 (by omega) rfl rfl 2 (by decide) (by decide +kernel) (Or.inl rfl) rfl (pc' := 51) rfl ?_
        refine wm_iload C dX8_inflowUpper_51 3 rfl (pc' := 53) rfl ?_
        obtain ⟨h6, hf⟩ := chk_s hf
        obtain ⟨h7, hf⟩ := chk_s hf
        refine wm_aald (f := refs q 200 nc) (N := 12) (cA := τ.2.2.2.2.1) (ty := .object "WideningCracks$Crack") C dX8_inflowUpper_53 10 4 (x_at (by omega) rfl) rfl rfl h6 (refs_at h7) (pc' := 54) rfl ?_
        obtain ⟨h8, hf⟩ := chk_s hf
        refine x_getC (ref := "WideningCracks$Crack") (v := .int (gA s 6 x4.toNatClampNeg)) C dX8_inflowUpper_54 in5_X8_inflowUpper h8 1 (by decide) (by decide +kernel) (Or.inl rfl) rfl (pc' := 57) rfl ?_
        refine wm_iload_n C dX8_inflowUpper_57 1 rfl (pc' := 58) rfl ?_
        refine wm_icmp_ne C dX8_inflowUpper_58 71 (by decide) (pc' := 61) rfl (fun h9 => ?_) (fun h9 => ?_)
        · have hf := ite_t h9 hf
          exact wJ_71 x2 x4 s _ _ hf hE
        · have hf := ite_f (fun h => h h9) hf
          refine wm_lload_n C dX8_inflowUpper_61 2 rfl (pc' := 62) rfl ?_
          refine wm_aload_n C dX8_inflowUpper_62 0 rfl (pc' := 63) rfl ?_
          refine x_get (v := .ref (q 70)) C dX8_inflowUpper_63 inX8_X8_inflowUpper 2 (by omega) rfl rfl 4 (by decide) (by decide +kernel) (Or.inl rfl) rfl (pc' := 66) rfl ?_
          refine wm_iload C dX8_inflowUpper_66 3 rfl (pc' := 68) rfl ?_
          obtain ⟨h10, hf⟩ := chk_s hf
          refine wm_lald (f := gB s 70) (N := 12) (cA := τ.2.1) C dX8_inflowUpper_68 14 (x_at (by omega) rfl) rfl h10 (pc' := 69) rfl ?_
          refine wm_lsub C dX8_inflowUpper_69 (pc' := 70) rfl ?_
          refine wm_lstore_n (lv' := [(2, .long (x2 - (gB s 70 x4.toNatClampNeg))), (0, .ref (q 61)), (1, .int x1), (4, .int x4)]) C dX8_inflowUpper_70 (by decide) rfl (pc' := 71) rfl ?_
          refine wm_sub (lv' := [(0, .ref (q 61)), (1, .int x1), (2, .long (x2 - (gB s 70 x4.toNatClampNeg))), (4, .int x4)]) [1, 2, 0, 3] rfl ?_
          exact wJ_71 (x2 - (gB s 70 x4.toNatClampNeg)) x4 s _ _ hf hE
      refine wm_iload C dX8_inflowUpper_5 3 rfl (pc' := 7) rfl ?_
      refine wm_aload_n C dX8_inflowUpper_7 0 rfl (pc' := 8) rfl ?_
      refine x_get (v := .ref (q 60)) C dX8_inflowUpper_8 inX8_X8_inflowUpper 2 (by omega) rfl rfl 0 (by decide) (by decide +kernel) (Or.inl rfl) rfl (pc' := 11) rfl ?_
      refine x_get (v := .int (gI s 4)) C dX8_inflowUpper_11 inX5_X8_inflowUpper 1 (by omega) rfl rfl 4 (by decide) (by decide +kernel) (Or.inl rfl) rfl (pc' := 14) rfl ?_
      refine wm_icmp_ge C dX8_inflowUpper_14 77 (by decide) (pc' := 17) rfl (fun h1 => ?_) (fun h1 => ?_)
      · have hf := ite_t h1 hf
        obtain ⟨rfl, rfl⟩ := leaf_s hf
        refine wm_sub (lv' := [(2, .long x2)]) [2] rfl ?_
        exact hE
      · have hf := ite_f h1 hf
        refine wm_aload_n C dX8_inflowUpper_17 0 rfl (pc' := 18) rfl ?_
        refine x_get (v := .ref (q 60)) C dX8_inflowUpper_18 inX8_X8_inflowUpper 2 (by omega) rfl rfl 0 (by decide) (by decide +kernel) (Or.inl rfl) rfl (pc' := 21) rfl ?_
        refine x_get (v := .ref (q 66)) C dX8_inflowUpper_21 inX5_X8_inflowUpper 1 (by omega) rfl rfl 2 (by decide) (by decide +kernel) (Or.inl rfl) rfl (pc' := 24) rfl ?_
        refine wm_iload C dX8_inflowUpper_24 3 rfl (pc' := 26) rfl ?_
        obtain ⟨h2, hf⟩ := chk_s hf
        obtain ⟨h3, hf⟩ := chk_s hf
        refine wm_aald (f := refs q 200 nc) (N := 12) (cA := τ.2.2.2.2.1) (ty := .object "WideningCracks$Crack") C dX8_inflowUpper_26 10 4 (x_at (by omega) rfl) rfl rfl h2 (refs_at h3) (pc' := 27) rfl ?_
        obtain ⟨h4, hf⟩ := chk_s hf
        refine x_getC (ref := "WideningCracks$Crack") (v := .int (gA s 5 x4.toNatClampNeg)) C dX8_inflowUpper_27 in5_X8_inflowUpper h4 0 (by decide) (by decide +kernel) (Or.inl rfl) rfl (pc' := 30) rfl ?_
        refine wm_iload_n C dX8_inflowUpper_30 1 rfl (pc' := 31) rfl ?_
        refine wm_icmp_ne C dX8_inflowUpper_31 44 (by decide) (pc' := 34) rfl (fun h5 => ?_) (fun h5 => ?_)
        · have hf := ite_t h5 hf
          exact wJ_44 x2 x4 s _ _ hf hE
        · have hf := ite_f (fun h => h h5) hf
          refine wm_lload_n C dX8_inflowUpper_34 2 rfl (pc' := 35) rfl ?_
          refine wm_aload_n C dX8_inflowUpper_35 0 rfl (pc' := 36) rfl ?_
          refine x_get (v := .ref (q 70)) C dX8_inflowUpper_36 inX8_X8_inflowUpper 2 (by omega) rfl rfl 4 (by decide) (by decide +kernel) (Or.inl rfl) rfl (pc' := 39) rfl ?_
          refine wm_iload C dX8_inflowUpper_39 3 rfl (pc' := 41) rfl ?_
          obtain ⟨h11, hf⟩ := chk_s hf
          refine wm_lald (f := gB s 70) (N := 12) (cA := τ.2.1) C dX8_inflowUpper_41 14 (x_at (by omega) rfl) rfl h11 (pc' := 42) rfl ?_
          refine wm_ladd C dX8_inflowUpper_42 (pc' := 43) rfl ?_
          refine wm_lstore_n (lv' := [(2, .long (x2 + (gB s 70 x4.toNatClampNeg))), (0, .ref (q 61)), (1, .int x1), (4, .int x4)]) C dX8_inflowUpper_43 (by decide) rfl (pc' := 44) rfl ?_
          refine wm_sub (lv' := [(0, .ref (q 61)), (1, .int x1), (2, .long (x2 + (gB s 70 x4.toNatClampNeg))), (4, .int x4)]) [1, 2, 0, 3] rfl ?_
          exact wJ_44 (x2 + (gB s 70 x4.toNatClampNeg)) x4 s _ _ hf hE
  refine wm_lkonst (v := 0) C dX8_inflowUpper_0 (by decide) (pc' := 1) rfl ?_
  refine wm_lstore_n (lv' := [(2, .long 0), (0, .ref (q 61)), (1, .int x1)]) C dX8_inflowUpper_1 (by decide) rfl (pc' := 2) rfl ?_
  refine wm_ikonst (v := 0) C dX8_inflowUpper_2 (by decide) (pc' := 3) rfl ?_
  refine wm_istore (lv' := [(4, .int 0), (2, .long 0), (0, .ref (q 61)), (1, .int x1)]) C dX8_inflowUpper_3 (by decide) rfl (pc' := 5) rfl ?_
  refine wm_sub (lv' := [(0, .ref (q 61)), (1, .int x1), (2, .long 0), (4, .int 0)]) [2, 3, 1, 0] rfl ?_
  obtain ⟨v12, s13, h14, hf⟩ := bnd_s hf
  refine wL_5 x1 FU 0 0 σ v12 s13 h14 ?_
  refine wm_lload_n C dX8_inflowUpper_77 0 rfl (pc' := 78) rfl ?_
  obtain ⟨rfl, rfl⟩ := leaf_s hf
  exact wm_lret C dX8_inflowUpper_78 (Nat.zero_le _) (Nat.zero_le _) FD.rf
def fX8_writeCrack (nc : Nat) (x1 : Int32) (x2 : Int32) (x3 : Int32) (σ : MS) : Option (Unit × MS) :=
  if ¬ (((gI σ 52) >>> (x1 &&& 31)) &&& 1) = 1 then some ((), σ) else if ¬ (x1 < 0 ∨ 6 ≤ x1.toNatClampNeg) then if x1.toNatClampNeg < 6 then if x1.toNatClampNeg < 6 then if ¬ (x1 < 0 ∨ 7 ≤ x1.toNatClampNeg) then if x1.toNatClampNeg < 6 then if ¬ (x1 < 0 ∨ 7 ≤ x1.toNatClampNeg) then lets (sB σ (100 + x1.toNatClampNeg) x1.toNatClampNeg ((gB σ (100 + x1.toNatClampNeg) x1.toNatClampNeg) + x3.toInt64)) (fun s6 => if ¬ (x1 < 0 ∨ 6 ≤ x1.toNatClampNeg) then if x1.toNatClampNeg < 6 then if x1.toNatClampNeg < 6 then if ¬ (x2 < 0 ∨ 7 ≤ x2.toNatClampNeg) then if x1.toNatClampNeg < 6 then if ¬ (x2 < 0 ∨ 7 ≤ x2.toNatClampNeg) then lets (sB s6 (100 + x1.toNatClampNeg) x2.toNatClampNeg ((gB s6 (100 + x1.toNatClampNeg) x2.toNatClampNeg) - x3.toInt64)) (fun s12 => some ((), s12)) else none else none else none else none else none else none) else none else none else none else none else none else none
theorem inX8_X8_writeCrack : ∀ w ∈ wsX80, w ∈ wsX8_writeCrack := by decide +kernel
set_option maxHeartbeats 4000000 in
set_option maxRecDepth 100000 in
theorem kX8_writeCrack (l : Launch) (D : va_G) (τ : CId) (q : Nat → Nat) (nc : Nat) (σ : MS) (x1 : Int32) (x2 : Int32) (x3 : Int32) (sE : MS) (hf : fX8_writeCrack nc x1 x2 x3 σ = some ((), sE)) : Ct l D τ yX8_writeCrack wsX8_writeCrack { frames := 0, cells := 0, slots := 0, locals := 0 } [.ref (q 61), .int x1, .int x2, .int x3] (xW τ q nc σ) (FD (xW τ q nc sE) none) := by
  unfold fX8_writeCrack at hf
  refine ct_of (cc := cX8_writeCrack) (maxL := 4) (ret := none) (by decide) rfl (Nat.le_of_ble_eq_true rfl) (fun Γ C => ?_)
  refine wm_lv (lv' := [(0, .ref (q 61)), (1, .int x1), (2, .int x2), (3, .int x3)]) rfl ?_
  refine wm_aload_n C dX8_writeCrack_0 0 rfl (pc' := 1) rfl ?_
  refine x_get (v := .int (gI σ 52)) C dX8_writeCrack_1 inX8_X8_writeCrack 2 (by omega) rfl rfl 7 (by decide) (by decide +kernel) (Or.inl rfl) rfl (pc' := 4) rfl ?_
  refine wm_iload_n C dX8_writeCrack_4 1 rfl (pc' := 5) rfl ?_
  refine wm_ishr C dX8_writeCrack_5 (pc' := 6) rfl ?_
  refine wm_ikonst (v := 1) C dX8_writeCrack_6 (by decide) (pc' := 7) rfl ?_
  refine wm_iand C dX8_writeCrack_7 (pc' := 8) rfl ?_
  refine wm_ikonst (v := 1) C dX8_writeCrack_8 (by decide) (pc' := 9) rfl ?_
  refine wm_icmp_ne C dX8_writeCrack_9 38 (by decide) (pc' := 12) rfl (fun h1 => ?_) (fun h1 => ?_)
  · have hf := ite_t h1 hf
    obtain ⟨-, rfl⟩ := leaf_s hf
    exact wm_vret C dX8_writeCrack_38 (Nat.zero_le _) (Nat.zero_le _) FD.rf
  · have hf := ite_f (fun h => h h1) hf
    refine wm_aload_n C dX8_writeCrack_12 0 rfl (pc' := 13) rfl ?_
    refine x_get (v := .ref (q 67)) C dX8_writeCrack_13 inX8_X8_writeCrack 2 (by omega) rfl rfl 1 (by decide) (by decide +kernel) (Or.inl rfl) rfl (pc' := 16) rfl ?_
    refine wm_iload_n C dX8_writeCrack_16 1 rfl (pc' := 17) rfl ?_
    obtain ⟨h2, hf⟩ := chk_s hf
    obtain ⟨h3, hf⟩ := chk_s hf
    refine wm_aald (f := refs q 100 6) (N := 6) (cA := τ.2.2.2.2.2.2) (ty := .array .long) C dX8_writeCrack_17 11 6 (x_at (by omega) rfl) rfl rfl h2 (refs_at h3) (pc' := 18) rfl ?_
    refine wm_iload_n C dX8_writeCrack_18 1 rfl (pc' := 19) rfl ?_
    refine wm_dup2 C dX8_writeCrack_19 rfl rfl (pc' := 20) rfl ?_
    obtain ⟨h17, hf⟩ := chk_s hf
    obtain ⟨h4, hf⟩ := chk_s hf
    refine wm_lald (f := gB σ (100 + x1.toNatClampNeg)) (N := 7) (cA := τ.2.1) C dX8_writeCrack_20 (27 + x1.toNatClampNeg) (x_at (by omega) (xC_rows h17)) rfl h4 (pc' := 21) rfl ?_
    refine wm_iload_n C dX8_writeCrack_21 3 rfl (pc' := 22) rfl ?_
    refine wm_i2l C dX8_writeCrack_22 (pc' := 23) rfl ?_
    refine wm_ladd C dX8_writeCrack_23 (pc' := 24) rfl ?_
    obtain ⟨h16, hf⟩ := chk_s hf
    obtain ⟨h5, hf⟩ := chk_s hf
    obtain ⟨s6, e7, hf⟩ := lets_s hf
    refine wm_last (f := gB σ (100 + x1.toNatClampNeg)) (N := 7) (cA := τ.2.1) C dX8_writeCrack_24 (27 + x1.toNatClampNeg) (x_at (by omega) (xC_rows h16)) rfl h5 (Wd' := xW τ q nc s6) (xW_set (e7 ▸ (xC_Brows h16)) (by rw [e7, xC_rows h16, gB_eq])) (pc' := 25) rfl ?_
    refine wm_aload_n C dX8_writeCrack_25 0 rfl (pc' := 26) rfl ?_
    refine x_get (v := .ref (q 67)) C dX8_writeCrack_26 inX8_X8_writeCrack 2 (by omega) rfl rfl 1 (by decide) (by decide +kernel) (Or.inl rfl) rfl (pc' := 29) rfl ?_
    refine wm_iload_n C dX8_writeCrack_29 1 rfl (pc' := 30) rfl ?_
    obtain ⟨h8, hf⟩ := chk_s hf
    obtain ⟨h9, hf⟩ := chk_s hf
    refine wm_aald (f := refs q 100 6) (N := 6) (cA := τ.2.2.2.2.2.2) (ty := .array .long) C dX8_writeCrack_30 11 6 (x_at (by omega) rfl) rfl rfl h8 (refs_at h9) (pc' := 31) rfl ?_
    refine wm_iload_n C dX8_writeCrack_31 2 rfl (pc' := 32) rfl ?_
    refine wm_dup2 C dX8_writeCrack_32 rfl rfl (pc' := 33) rfl ?_
    obtain ⟨h15, hf⟩ := chk_s hf
    obtain ⟨h10, hf⟩ := chk_s hf
    refine wm_lald (f := gB s6 (100 + x1.toNatClampNeg)) (N := 7) (cA := τ.2.1) C dX8_writeCrack_33 (27 + x1.toNatClampNeg) (x_at (by omega) (xC_rows h15)) rfl h10 (pc' := 34) rfl ?_
    refine wm_iload_n C dX8_writeCrack_34 3 rfl (pc' := 35) rfl ?_
    refine wm_i2l C dX8_writeCrack_35 (pc' := 36) rfl ?_
    refine wm_lsub C dX8_writeCrack_36 (pc' := 37) rfl ?_
    obtain ⟨h14, hf⟩ := chk_s hf
    obtain ⟨h11, hf⟩ := chk_s hf
    obtain ⟨s12, e13, hf⟩ := lets_s hf
    refine wm_last (f := gB s6 (100 + x1.toNatClampNeg)) (N := 7) (cA := τ.2.1) C dX8_writeCrack_37 (27 + x1.toNatClampNeg) (x_at (by omega) (xC_rows h14)) rfl h11 (Wd' := xW τ q nc s12) (xW_set (e13 ▸ (xC_Brows h14)) (by rw [e13, xC_rows h14, gB_eq])) (pc' := 38) rfl ?_
    obtain ⟨-, rfl⟩ := leaf_s hf
    exact wm_vret C dX8_writeCrack_38 (Nat.zero_le _) (Nat.zero_le _) FD.rf
def fX8_writeRows_J73 (nc : Nat) (rec : Int32 → MS → Option (Unit × MS)) (x1 : Int32) (s : MS) : Option (Unit × MS) :=
  rec (x1 + 1) s
def fX8_writeRows_J72 (nc : Nat) (rec : Int32 → MS → Option (Unit × MS)) (x1 : Int32) (t0 : Int64) (t1 : Int32) (t2 : Nat) (s : MS) : Option (Unit × MS) :=
  if t2 < 6 then if ¬ (t1 < 0 ∨ 7 ≤ t1.toNatClampNeg) then lets (sB s (100 + t2) t1.toNatClampNeg t0) (fun s19 => fX8_writeRows_J73 nc (rec) x1 s19) else none else none
def fX8_writeRows_L2 (nc : Nat) : Nat → Int32 → MS → Option (Unit × MS)
  | 0, _, _ => none
  | fu + 1, x1, s => if 6 ≤ x1 then some ((), s) else if ¬ (x1 < 0 ∨ 6 ≤ x1.toNatClampNeg) then if x1.toNatClampNeg < 6 then bnd (fJ7_fill_d0a16_r nc x1.toNatClampNeg 0 s) (fun r4 s7 => if ¬ (((gI s7 52) >>> (x1 &&& 31)) &&& 1) = 0 then fX8_writeRows_J73 nc (fX8_writeRows_L2 nc fu) x1 s7 else if ¬ (x1 < 0 ∨ 6 ≤ x1.toNatClampNeg) then if x1.toNatClampNeg < 6 then if x1.toNatClampNeg < 6 then if ¬ (x1 < 0 ∨ 7 ≤ x1.toNatClampNeg) then lets (sB s7 (100 + x1.toNatClampNeg) x1.toNatClampNeg 1) (fun s12 => if ¬ (x1 < 0 ∨ 6 ≤ x1.toNatClampNeg) then if x1.toNatClampNeg < 6 then if ¬ (x1 < 0 ∨ 6 ≤ x1.toNatClampNeg) then if (gA s12 2 x1.toNatClampNeg) = 0 then fX8_writeRows_J72 nc (fX8_writeRows_L2 nc fu) x1 0 6 x1.toNatClampNeg s12 else if ¬ (x1 < 0 ∨ 6 ≤ x1.toNatClampNeg) then fX8_writeRows_J72 nc (fX8_writeRows_L2 nc fu) x1 ((gA s12 3 x1.toNatClampNeg).toInt64) 6 x1.toNatClampNeg s12 else none else none else none else none) else none else none else none else none) else none else none
theorem fX8_writeRows_L2_s (nc : Nat) (fu : Nat) (x1 : Int32) (s : MS) : fX8_writeRows_L2 nc (fu + 1) x1 s = (if 6 ≤ x1 then some ((), s) else if ¬ (x1 < 0 ∨ 6 ≤ x1.toNatClampNeg) then if x1.toNatClampNeg < 6 then bnd (fJ7_fill_d0a16_r nc x1.toNatClampNeg 0 s) (fun r4 s7 => if ¬ (((gI s7 52) >>> (x1 &&& 31)) &&& 1) = 0 then fX8_writeRows_J73 nc (fX8_writeRows_L2 nc fu) x1 s7 else if ¬ (x1 < 0 ∨ 6 ≤ x1.toNatClampNeg) then if x1.toNatClampNeg < 6 then if x1.toNatClampNeg < 6 then if ¬ (x1 < 0 ∨ 7 ≤ x1.toNatClampNeg) then lets (sB s7 (100 + x1.toNatClampNeg) x1.toNatClampNeg 1) (fun s12 => if ¬ (x1 < 0 ∨ 6 ≤ x1.toNatClampNeg) then if x1.toNatClampNeg < 6 then if ¬ (x1 < 0 ∨ 6 ≤ x1.toNatClampNeg) then if (gA s12 2 x1.toNatClampNeg) = 0 then fX8_writeRows_J72 nc (fX8_writeRows_L2 nc fu) x1 0 6 x1.toNatClampNeg s12 else if ¬ (x1 < 0 ∨ 6 ≤ x1.toNatClampNeg) then fX8_writeRows_J72 nc (fX8_writeRows_L2 nc fu) x1 ((gA s12 3 x1.toNatClampNeg).toInt64) 6 x1.toNatClampNeg s12 else none else none else none else none) else none else none else none else none) else none else none) := rfl
def fX8_writeRows_L81 (nc : Nat) : Nat → Int32 → MS → Option (Unit × MS)
  | 0, _, _ => none
  | fu + 1, x1, s => if (gI s 4) ≤ x1 then some ((), s) else if ¬ (x1 < 0 ∨ 12 ≤ x1.toNatClampNeg) then if x1.toNatClampNeg < nc then if x1.toNatClampNeg < nc then if x1.toNatClampNeg < nc then if x1.toNatClampNeg < nc then bnd (vX_lets nc x1.toNatClampNeg s) (fun r32 s33 => bnd (fX8_writeCrack nc (gA s 5 x1.toNatClampNeg) (gA s 6 x1.toNatClampNeg) r32 s33) (fun r37 s38 => if x1.toNatClampNeg < nc then if x1.toNatClampNeg < nc then if x1.toNatClampNeg < nc then bnd (vX_lets nc x1.toNatClampNeg s38) (fun r42 s43 => bnd (fX8_writeCrack nc (gA s38 6 x1.toNatClampNeg) (gA s38 5 x1.toNatClampNeg) r42 s43) (fun r47 s48 => fX8_writeRows_L81 nc fu (x1 + 1) s48)) else none else none else none)) else none else none else none else none else none
theorem fX8_writeRows_L81_s (nc : Nat) (fu : Nat) (x1 : Int32) (s : MS) : fX8_writeRows_L81 nc (fu + 1) x1 s = (if (gI s 4) ≤ x1 then some ((), s) else if ¬ (x1 < 0 ∨ 12 ≤ x1.toNatClampNeg) then if x1.toNatClampNeg < nc then if x1.toNatClampNeg < nc then if x1.toNatClampNeg < nc then if x1.toNatClampNeg < nc then bnd (vX_lets nc x1.toNatClampNeg s) (fun r32 s33 => bnd (fX8_writeCrack nc (gA s 5 x1.toNatClampNeg) (gA s 6 x1.toNatClampNeg) r32 s33) (fun r37 s38 => if x1.toNatClampNeg < nc then if x1.toNatClampNeg < nc then if x1.toNatClampNeg < nc then bnd (vX_lets nc x1.toNatClampNeg s38) (fun r42 s43 => bnd (fX8_writeCrack nc (gA s38 6 x1.toNatClampNeg) (gA s38 5 x1.toNatClampNeg) r42 s43) (fun r47 s48 => fX8_writeRows_L81 nc fu (x1 + 1) s48)) else none else none else none)) else none else none else none else none else none) := rfl
def fX8_writeRows (nc : Nat) (σ : MS) : Option (Unit × MS) :=
  bnd (fX8_writeRows_L2 nc FU 0 σ) (fun v24 s25 => bnd (fX8_writeRows_L81 nc FU 0 s25) (fun v50 s51 => some ((), s51)))
theorem in5_X8_writeRows : In5 wsX8_writeRows := ⟨by decide +kernel, by decide +kernel, by decide +kernel, by decide +kernel, by decide +kernel⟩
theorem inX5_X8_writeRows : ∀ w ∈ wsX50, w ∈ wsX8_writeRows := by decide +kernel
theorem inX8_X8_writeRows : ∀ w ∈ wsX80, w ∈ wsX8_writeRows := by decide +kernel
set_option maxHeartbeats 4000000 in
set_option maxRecDepth 100000 in
theorem kX8_writeRows (l : Launch) (D : va_G) (τ : CId) (q : Nat → Nat) (nc : Nat) (σ : MS) (sE : MS) (hf : fX8_writeRows nc σ = some ((), sE)) : Ct l D τ yX8_writeRows wsX8_writeRows { frames := 1, cells := 0, slots := 0, locals := 24 } [.ref (q 61)] (xW τ q nc σ) (FD (xW τ q nc sE) none) := by
  unfold fX8_writeRows at hf
  refine ct_of (cc := cX8_writeRows) (maxL := 3) (ret := none) (by decide) rfl (Nat.le_of_ble_eq_true rfl) (fun Γ C => ?_)
  refine wm_lv (lv' := [(0, .ref (q 61))]) rfl ?_
  have wL_2 : ∀ (fu : Nat) (x1 : Int32) (s : MS) (v : Unit) (s' : MS), fX8_writeRows_L2 nc fu x1 s = some (v, s') → WM l D Γ 3 0 0 (xW τ q nc s') 79 [(0, .ref (q 61))] [] → WM l D Γ 3 0 0 (xW τ q nc s) 2 [(0, .ref (q 61)), (1, .int x1)] [] := by
    intro fu
    induction fu with
    | zero => intro x1 s v s' hf hE; exact absurd hf (fun h => nomatch (show (none : Option _) = some _ from h))
    | succ fu ih =>
      intro x1 s v s' hf hE
      rw [fX8_writeRows_L2_s] at hf
      have wJ_73 : ∀ (x1 : Int32) (s : MS) (v : Unit) (s' : MS), fX8_writeRows_J73 nc (fX8_writeRows_L2 nc fu) x1 s = some (v, s') → WM l D Γ 3 0 0 (xW τ q nc s') 79 [(0, .ref (q 61))] [] → WM l D Γ 3 0 0 (xW τ q nc s) 73 [(0, .ref (q 61)), (1, .int x1)] [] := by
        intro x1 s v s' hf hE
        unfold fX8_writeRows_J73 at hf
        refine wm_iinc (v := x1 + 1) (lv' := [(1, .int (x1 + 1)), (0, .ref (q 61))]) C dX8_writeRows_73 1 rfl rfl (by decide) rfl (pc' := 76) rfl ?_
        refine wm_goto C dX8_writeRows_76 2 (by decide) ?_
        refine wm_sub (lv' := [(0, .ref (q 61)), (1, .int (x1 + 1))]) [1, 0] rfl ?_
        exact ih (x1 + 1) s _ _ hf hE
      have wJ_72 : ∀ (x1 : Int32) (t0 : Int64) (t1 : Int32) (t2 : Nat) (s : MS) (v : Unit) (s' : MS), fX8_writeRows_J72 nc (fX8_writeRows_L2 nc fu) x1 t0 t1 t2 s = some (v, s') → WM l D Γ 3 0 0 (xW τ q nc s') 79 [(0, .ref (q 61))] [] → WM l D Γ 3 0 0 (xW τ q nc s) 72 [(0, .ref (q 61)), (1, .int x1)] [.long t0, .int t1, .ref (q (100 + t2))] := by
        intro x1 t0 t1 t2 s v s' hf hE
        unfold fX8_writeRows_J72 at hf
        obtain ⟨h21, hf⟩ := chk_s hf
        obtain ⟨h18, hf⟩ := chk_s hf
        obtain ⟨s19, e20, hf⟩ := lets_s hf
        refine wm_last (f := gB s (100 + t2)) (N := 7) (cA := τ.2.1) C dX8_writeRows_72 (27 + t2) (x_at (by omega) (xC_rows h21)) rfl h18 (Wd' := xW τ q nc s19) (xW_set (e20 ▸ (xC_Brows h21)) (by rw [e20, xC_rows h21, gB_eq])) (pc' := 73) rfl ?_
        exact wJ_73 x1 s19 _ _ hf hE
      refine wm_iload_n C dX8_writeRows_2 1 rfl (pc' := 3) rfl ?_
      refine wm_bipush (v := 6) C dX8_writeRows_3 (by decide) (pc' := 5) rfl ?_
      refine wm_icmp_ge C dX8_writeRows_5 79 (by decide) (pc' := 8) rfl (fun h1 => ?_) (fun h1 => ?_)
      · have hf := ite_t h1 hf
        obtain ⟨rfl, rfl⟩ := leaf_s hf
        refine wm_sub (lv' := [(0, .ref (q 61))]) [0] rfl ?_
        exact hE
      · have hf := ite_f h1 hf
        refine wm_aload_n C dX8_writeRows_8 0 rfl (pc' := 9) rfl ?_
        refine x_get (v := .ref (q 67)) C dX8_writeRows_9 inX8_X8_writeRows 2 (by omega) rfl rfl 1 (by decide) (by decide +kernel) (Or.inl rfl) rfl (pc' := 12) rfl ?_
        refine wm_iload_n C dX8_writeRows_12 1 rfl (pc' := 13) rfl ?_
        obtain ⟨h2, hf⟩ := chk_s hf
        obtain ⟨h3, hf⟩ := chk_s hf
        refine wm_aald (f := refs q 100 6) (N := 6) (cA := τ.2.2.2.2.2.2) (ty := .array .long) C dX8_writeRows_13 11 6 (x_at (by omega) rfl) rfl rfl h2 (refs_at h3) (pc' := 14) rfl ?_
        refine wm_lkonst (v := 0) C dX8_writeRows_14 (by decide) (pc' := 15) rfl ?_
        obtain ⟨r4, s7, h6, hf⟩ := bnd_s hf
        refine wm_callSW (nn := 2) (As := [.ref (q (100 + x1.toNatClampNeg)), .long 0]) (rest := []) (st' := []) C dX8_writeRows_15 (kJ7_fill_d0a16_r l D τ q nc s x1.toNatClampNeg 0 s7 h6) gX8_writeRows_J7_fill_d0a16 rfl (by decide +kernel) ⟨Nat.le_of_ble_eq_true rfl, Nat.le_of_ble_eq_true rfl⟩ rfl rfl ⟨Nat.zero_le _, Nat.zero_le _⟩ rfl rfl (Nat.le_of_ble_eq_true rfl) rfl (pc' := 18) rfl ?_
        refine wm_aload_n C dX8_writeRows_18 0 rfl (pc' := 19) rfl ?_
        refine x_get (v := .int (gI s7 52)) C dX8_writeRows_19 inX8_X8_writeRows 2 (by omega) rfl rfl 7 (by decide) (by decide +kernel) (Or.inl rfl) rfl (pc' := 22) rfl ?_
        refine wm_iload_n C dX8_writeRows_22 1 rfl (pc' := 23) rfl ?_
        refine wm_ishr C dX8_writeRows_23 (pc' := 24) rfl ?_
        refine wm_ikonst (v := 1) C dX8_writeRows_24 (by decide) (pc' := 25) rfl ?_
        refine wm_iand C dX8_writeRows_25 (pc' := 26) rfl ?_
        refine wm_if_ne C dX8_writeRows_26 73 (by decide) (pc' := 29) rfl (fun h8 => ?_) (fun h8 => ?_)
        · have hf := ite_t h8 hf
          exact wJ_73 x1 s7 _ _ hf hE
        · have hf := ite_f (fun h => h h8) hf
          refine wm_aload_n C dX8_writeRows_29 0 rfl (pc' := 30) rfl ?_
          refine x_get (v := .ref (q 67)) C dX8_writeRows_30 inX8_X8_writeRows 2 (by omega) rfl rfl 1 (by decide) (by decide +kernel) (Or.inl rfl) rfl (pc' := 33) rfl ?_
          refine wm_iload_n C dX8_writeRows_33 1 rfl (pc' := 34) rfl ?_
          obtain ⟨h9, hf⟩ := chk_s hf
          obtain ⟨h10, hf⟩ := chk_s hf
          refine wm_aald (f := refs q 100 6) (N := 6) (cA := τ.2.2.2.2.2.2) (ty := .array .long) C dX8_writeRows_34 11 6 (x_at (by omega) rfl) rfl rfl h9 (refs_at h10) (pc' := 35) rfl ?_
          refine wm_iload_n C dX8_writeRows_35 1 rfl (pc' := 36) rfl ?_
          refine wm_lkonst (v := 1) C dX8_writeRows_36 (by decide) (pc' := 37) rfl ?_
          obtain ⟨h23, hf⟩ := chk_s hf
          obtain ⟨h11, hf⟩ := chk_s hf
          obtain ⟨s12, e13, hf⟩ := lets_s hf
          refine wm_last (f := gB s7 (100 + x1.toNatClampNeg)) (N := 7) (cA := τ.2.1) C dX8_writeRows_37 (27 + x1.toNatClampNeg) (x_at (by omega) (xC_rows h23)) rfl h11 (Wd' := xW τ q nc s12) (xW_set (e13 ▸ (xC_Brows h23)) (by rw [e13, xC_rows h23, gB_eq])) (pc' := 38) rfl ?_
          refine wm_aload_n C dX8_writeRows_38 0 rfl (pc' := 39) rfl ?_
          refine x_get (v := .ref (q 67)) C dX8_writeRows_39 inX8_X8_writeRows 2 (by omega) rfl rfl 1 (by decide) (by decide +kernel) (Or.inl rfl) rfl (pc' := 42) rfl ?_
          refine wm_iload_n C dX8_writeRows_42 1 rfl (pc' := 43) rfl ?_
          obtain ⟨h14, hf⟩ := chk_s hf
          obtain ⟨h15, hf⟩ := chk_s hf
          refine wm_aald (f := refs q 100 6) (N := 6) (cA := τ.2.2.2.2.2.2) (ty := .array .long) C dX8_writeRows_43 11 6 (x_at (by omega) rfl) rfl rfl h14 (refs_at h15) (pc' := 44) rfl ?_
          refine wm_bipush (v := 6) C dX8_writeRows_44 (by decide) (pc' := 46) rfl ?_
          refine wm_aload_n C dX8_writeRows_46 0 rfl (pc' := 47) rfl ?_
          refine x_get (v := .ref (q 60)) C dX8_writeRows_47 inX8_X8_writeRows 2 (by omega) rfl rfl 0 (by decide) (by decide +kernel) (Or.inl rfl) rfl (pc' := 50) rfl ?_
          refine x_get (v := .ref (q 2)) C dX8_writeRows_50 inX5_X8_writeRows 1 (by omega) rfl rfl 0 (by decide) (by decide +kernel) (Or.inl rfl) rfl (pc' := 53) rfl ?_
          refine wm_iload_n C dX8_writeRows_53 1 rfl (pc' := 54) rfl ?_
          obtain ⟨h16, hf⟩ := chk_s hf
          refine wm_zald (f := gA s12 2) (N := 6) (cA := τ.2.2.1) C dX8_writeRows_54 8 (x_at (by omega) rfl) rfl h16 (pc' := 55) rfl ?_
          refine wm_if_eq C dX8_writeRows_55 71 (by decide) (pc' := 58) rfl (fun h17 => ?_) (fun h17 => ?_)
          · have hf := ite_t h17 hf
            refine wm_lkonst (v := 0) C dX8_writeRows_71 (by decide) (pc' := 72) rfl ?_
            exact wJ_72 x1 0 6 x1.toNatClampNeg s12 _ _ hf hE
          · have hf := ite_f h17 hf
            refine wm_aload_n C dX8_writeRows_58 0 rfl (pc' := 59) rfl ?_
            refine x_get (v := .ref (q 60)) C dX8_writeRows_59 inX8_X8_writeRows 2 (by omega) rfl rfl 0 (by decide) (by decide +kernel) (Or.inl rfl) rfl (pc' := 62) rfl ?_
            refine x_get (v := .ref (q 3)) C dX8_writeRows_62 inX5_X8_writeRows 1 (by omega) rfl rfl 1 (by decide) (by decide +kernel) (Or.inl rfl) rfl (pc' := 65) rfl ?_
            refine wm_iload_n C dX8_writeRows_65 1 rfl (pc' := 66) rfl ?_
            obtain ⟨h22, hf⟩ := chk_s hf
            refine wm_iald (f := gA s12 3) (N := 6) (cA := τ.1) C dX8_writeRows_66 9 (x_at (by omega) rfl) rfl h22 (pc' := 67) rfl ?_
            refine wm_i2l C dX8_writeRows_67 (pc' := 68) rfl ?_
            refine wm_goto C dX8_writeRows_68 72 (by decide) ?_
            exact wJ_72 x1 ((gA s12 3 x1.toNatClampNeg).toInt64) 6 x1.toNatClampNeg s12 _ _ hf hE
  have wL_81 : ∀ (fu : Nat) (x1 : Int32) (s : MS) (v : Unit) (s' : MS), fX8_writeRows_L81 nc fu x1 s = some (v, s') → WM l D Γ 3 0 0 (xW τ q nc s') 140 [] [] → WM l D Γ 3 0 0 (xW τ q nc s) 81 [(0, .ref (q 61)), (1, .int x1)] [] := by
    intro fu
    induction fu with
    | zero => intro x1 s v s' hf hE; exact absurd hf (fun h => nomatch (show (none : Option _) = some _ from h))
    | succ fu ih =>
      intro x1 s v s' hf hE
      rw [fX8_writeRows_L81_s] at hf
      refine wm_iload_n C dX8_writeRows_81 1 rfl (pc' := 82) rfl ?_
      refine wm_aload_n C dX8_writeRows_82 0 rfl (pc' := 83) rfl ?_
      refine x_get (v := .ref (q 60)) C dX8_writeRows_83 inX8_X8_writeRows 2 (by omega) rfl rfl 0 (by decide) (by decide +kernel) (Or.inl rfl) rfl (pc' := 86) rfl ?_
      refine x_get (v := .int (gI s 4)) C dX8_writeRows_86 inX5_X8_writeRows 1 (by omega) rfl rfl 4 (by decide) (by decide +kernel) (Or.inl rfl) rfl (pc' := 89) rfl ?_
      refine wm_icmp_ge C dX8_writeRows_89 140 (by decide) (pc' := 92) rfl (fun h27 => ?_) (fun h27 => ?_)
      · have hf := ite_t h27 hf
        obtain ⟨rfl, rfl⟩ := leaf_s hf
        refine wm_sub (lv' := []) [] rfl ?_
        exact hE
      · have hf := ite_f h27 hf
        refine wm_aload_n C dX8_writeRows_92 0 rfl (pc' := 93) rfl ?_
        refine x_get (v := .ref (q 60)) C dX8_writeRows_93 inX8_X8_writeRows 2 (by omega) rfl rfl 0 (by decide) (by decide +kernel) (Or.inl rfl) rfl (pc' := 96) rfl ?_
        refine x_get (v := .ref (q 66)) C dX8_writeRows_96 inX5_X8_writeRows 1 (by omega) rfl rfl 2 (by decide) (by decide +kernel) (Or.inl rfl) rfl (pc' := 99) rfl ?_
        refine wm_iload_n C dX8_writeRows_99 1 rfl (pc' := 100) rfl ?_
        obtain ⟨h28, hf⟩ := chk_s hf
        obtain ⟨h29, hf⟩ := chk_s hf
        refine wm_aald (f := refs q 200 nc) (N := 12) (cA := τ.2.2.2.2.1) (ty := .object "WideningCracks$Crack") C dX8_writeRows_100 10 4 (x_at (by omega) rfl) rfl rfl h28 (refs_at h29) (pc' := 101) rfl ?_
        refine wm_astore_n (lv' := [(2, .ref (q (200 + x1.toNatClampNeg))), (0, .ref (q 61)), (1, .int x1)]) C dX8_writeRows_101 (by decide) rfl (pc' := 102) rfl ?_
        refine wm_aload_n C dX8_writeRows_102 1 rfl (pc' := 103) rfl ?_
        refine wm_aload_n C dX8_writeRows_103 0 rfl (pc' := 104) rfl ?_
        obtain ⟨h30, hf⟩ := chk_s hf
        refine x_getC (ref := "WideningCracks$Crack") (v := .int (gA s 5 x1.toNatClampNeg)) C dX8_writeRows_104 in5_X8_writeRows h30 0 (by decide) (by decide +kernel) (Or.inl rfl) rfl (pc' := 107) rfl ?_
        refine wm_aload_n C dX8_writeRows_107 0 rfl (pc' := 108) rfl ?_
        obtain ⟨h31, hf⟩ := chk_s hf
        refine x_getC (ref := "WideningCracks$Crack") (v := .int (gA s 6 x1.toNatClampNeg)) C dX8_writeRows_108 in5_X8_writeRows h31 1 (by decide) (by decide +kernel) (Or.inl rfl) rfl (pc' := 111) rfl ?_
        refine wm_aload_n C dX8_writeRows_111 0 rfl (pc' := 112) rfl ?_
        obtain ⟨h35, hf⟩ := chk_s hf
        obtain ⟨r32, s33, h34, hf⟩ := bnd_s hf
        have K36 : WM l D Γ 3 0 0 (xW τ q nc s33) 115 [(2, .ref (q (200 + x1.toNatClampNeg))), (0, .ref (q 61)), (1, .int x1)] [.int r32, .int (gA s 6 x1.toNatClampNeg), .int (gA s 5 x1.toNatClampNeg), .ref (q 61)] := by
          obtain ⟨r37, s38, h39, hf⟩ := bnd_s hf
          refine wm_callVd (nn := 3) (As := [.int (gA s 5 x1.toNatClampNeg), .int (gA s 6 x1.toNatClampNeg), .int r32]) (rest := []) (st' := []) C dX8_writeRows_115 (kX8_writeCrack l D τ q nc s33 (gA s 5 x1.toNatClampNeg) (gA s 6 x1.toNatClampNeg) r32 s38 h39) gX8_writeRows_X8_writeCrack rfl (by decide +kernel) ⟨Nat.le_of_ble_eq_true rfl, Nat.le_of_ble_eq_true rfl⟩ rfl rfl ⟨Nat.zero_le _, Nat.zero_le _⟩ 2 (x_at (by omega) rfl) rfl rfl rfl (Nat.le_of_ble_eq_true rfl) rfl (pc' := 118) rfl ?_
          refine wm_aload_n C dX8_writeRows_118 1 rfl (pc' := 119) rfl ?_
          refine wm_aload_n C dX8_writeRows_119 0 rfl (pc' := 120) rfl ?_
          obtain ⟨h40, hf⟩ := chk_s hf
          refine x_getC (ref := "WideningCracks$Crack") (v := .int (gA s38 6 x1.toNatClampNeg)) C dX8_writeRows_120 in5_X8_writeRows h40 1 (by decide) (by decide +kernel) (Or.inl rfl) rfl (pc' := 123) rfl ?_
          refine wm_aload_n C dX8_writeRows_123 0 rfl (pc' := 124) rfl ?_
          obtain ⟨h41, hf⟩ := chk_s hf
          refine x_getC (ref := "WideningCracks$Crack") (v := .int (gA s38 5 x1.toNatClampNeg)) C dX8_writeRows_124 in5_X8_writeRows h41 0 (by decide) (by decide +kernel) (Or.inl rfl) rfl (pc' := 127) rfl ?_
          refine wm_aload_n C dX8_writeRows_127 0 rfl (pc' := 128) rfl ?_
          obtain ⟨h45, hf⟩ := chk_s hf
          obtain ⟨r42, s43, h44, hf⟩ := bnd_s hf
          have K46 : WM l D Γ 3 0 0 (xW τ q nc s43) 131 [(2, .ref (q (200 + x1.toNatClampNeg))), (0, .ref (q 61)), (1, .int x1)] [.int r42, .int (gA s38 5 x1.toNatClampNeg), .int (gA s38 6 x1.toNatClampNeg), .ref (q 61)] := by
            obtain ⟨r47, s48, h49, hf⟩ := bnd_s hf
            refine wm_callVd (nn := 3) (As := [.int (gA s38 6 x1.toNatClampNeg), .int (gA s38 5 x1.toNatClampNeg), .int r42]) (rest := []) (st' := []) C dX8_writeRows_131 (kX8_writeCrack l D τ q nc s43 (gA s38 6 x1.toNatClampNeg) (gA s38 5 x1.toNatClampNeg) r42 s48 h49) gX8_writeRows_X8_writeCrack rfl (by decide +kernel) ⟨Nat.le_of_ble_eq_true rfl, Nat.le_of_ble_eq_true rfl⟩ rfl rfl ⟨Nat.zero_le _, Nat.zero_le _⟩ 2 (x_at (by omega) rfl) rfl rfl rfl (Nat.le_of_ble_eq_true rfl) rfl (pc' := 134) rfl ?_
            refine wm_iinc (v := x1 + 1) (lv' := [(1, .int (x1 + 1)), (2, .ref (q (200 + x1.toNatClampNeg))), (0, .ref (q 61))]) C dX8_writeRows_134 2 rfl rfl (by decide) rfl (pc' := 137) rfl ?_
            refine wm_goto C dX8_writeRows_137 81 (by decide) ?_
            refine wm_sub (lv' := [(0, .ref (q 61)), (1, .int (x1 + 1))]) [2, 0] rfl ?_
            exact ih (x1 + 1) s48 _ _ hf hE
          unfold vX_lets at h44
          rcases kci5 (gA s38 7 x1.toNatClampNeg) with ⟨k1, kk⟩ | ⟨n1, k2, kk⟩ | ⟨n1, n2, k3, kk⟩ | ⟨n1, n2, n3, k4, kk⟩ | ⟨n1, n2, n3, n4, kk⟩
          · exact wm_callC (nn := 0) (As := []) (rest := [.int (gA s38 5 x1.toNatClampNeg), .int (gA s38 6 x1.toNatClampNeg), .ref (q 61)]) (st' := [.int r42, .int (gA s38 5 x1.toNatClampNeg), .int (gA s38 6 x1.toNatClampNeg), .ref (q 61)]) C dX8_writeRows_128 (kX10_lets l D τ q nc x1.toNatClampNeg s38 r42 s43 (ite_t k1 h44)) (cw_O gX8_writeRows_X10_lets_u121X10 rfl (b0 := cX2_lets) (m0 := 1) (r0 := (some .int)) (by decide +kernel) (by decide +kernel) ⟨Nat.le_of_ble_eq_true rfl, Nat.le_of_ble_eq_true rfl⟩) rfl rfl ⟨Nat.zero_le _, Nat.zero_le _⟩ (49 + x1.toNatClampNeg) (x_crackAt h45 kk) rfl rfl rfl (Nat.le_of_ble_eq_true rfl) rfl (pc' := 131) rfl K46
          · exact wm_callC (nn := 0) (As := []) (rest := [.int (gA s38 5 x1.toNatClampNeg), .int (gA s38 6 x1.toNatClampNeg), .ref (q 61)]) (st' := [.int r42, .int (gA s38 5 x1.toNatClampNeg), .int (gA s38 6 x1.toNatClampNeg), .ref (q 61)]) C dX8_writeRows_128 (kX2_lets l D τ q nc x1.toNatClampNeg s38 r42 s43 (ite_t k2 (ite_f n1 h44))) (cw_U gX8_writeRows_X2_lets_u121X0 rfl rfl (by decide +kernel) ⟨Nat.le_of_ble_eq_true rfl, Nat.le_of_ble_eq_true rfl⟩) rfl rfl ⟨Nat.zero_le _, Nat.zero_le _⟩ (49 + x1.toNatClampNeg) (x_crackAt h45 kk) rfl rfl rfl (Nat.le_of_ble_eq_true rfl) rfl (pc' := 131) rfl K46
          · exact wm_callC (nn := 0) (As := []) (rest := [.int (gA s38 5 x1.toNatClampNeg), .int (gA s38 6 x1.toNatClampNeg), .ref (q 61)]) (st' := [.int r42, .int (gA s38 5 x1.toNatClampNeg), .int (gA s38 6 x1.toNatClampNeg), .ref (q 61)]) C dX8_writeRows_128 (kX10_lets l D τ q nc x1.toNatClampNeg s38 r42 s43 (ite_t k3 (ite_f n2 (ite_f n1 h44)))) (cw_O gX8_writeRows_X10_lets_u121X3 rfl (b0 := cX2_lets) (m0 := 1) (r0 := (some .int)) (by decide +kernel) (by decide +kernel) ⟨Nat.le_of_ble_eq_true rfl, Nat.le_of_ble_eq_true rfl⟩) rfl rfl ⟨Nat.zero_le _, Nat.zero_le _⟩ (49 + x1.toNatClampNeg) (x_crackAt h45 kk) rfl rfl rfl (Nat.le_of_ble_eq_true rfl) rfl (pc' := 131) rfl K46
          · exact wm_callC (nn := 0) (As := []) (rest := [.int (gA s38 5 x1.toNatClampNeg), .int (gA s38 6 x1.toNatClampNeg), .ref (q 61)]) (st' := [.int r42, .int (gA s38 5 x1.toNatClampNeg), .int (gA s38 6 x1.toNatClampNeg), .ref (q 61)]) C dX8_writeRows_128 (kX10_lets l D τ q nc x1.toNatClampNeg s38 r42 s43 (ite_t k4 (ite_f n3 (ite_f n2 (ite_f n1 h44))))) (cw_O gX8_writeRows_X10_lets_u121X7 rfl (b0 := cX2_lets) (m0 := 1) (r0 := (some .int)) (by decide +kernel) (by decide +kernel) ⟨Nat.le_of_ble_eq_true rfl, Nat.le_of_ble_eq_true rfl⟩) rfl rfl ⟨Nat.zero_le _, Nat.zero_le _⟩ (49 + x1.toNatClampNeg) (x_crackAt h45 kk) rfl rfl rfl (Nat.le_of_ble_eq_true rfl) rfl (pc' := 131) rfl K46
          · exact wm_callVd (nn := 0) (As := []) (rest := [.int (gA s38 5 x1.toNatClampNeg), .int (gA s38 6 x1.toNatClampNeg), .ref (q 61)]) (st' := [.int r42, .int (gA s38 5 x1.toNatClampNeg), .int (gA s38 6 x1.toNatClampNeg), .ref (q 61)]) C dX8_writeRows_128 (kX2_lets l D τ q nc x1.toNatClampNeg s38 r42 s43 (ite_f n4 (ite_f n3 (ite_f n2 (ite_f n1 h44))))) gX8_writeRows_X2_lets rfl (by decide +kernel) ⟨Nat.le_of_ble_eq_true rfl, Nat.le_of_ble_eq_true rfl⟩ rfl rfl ⟨Nat.zero_le _, Nat.zero_le _⟩ (49 + x1.toNatClampNeg) (x_crackAt h45 kk) rfl rfl rfl (Nat.le_of_ble_eq_true rfl) rfl (pc' := 131) rfl K46
        unfold vX_lets at h34
        rcases kci5 (gA s 7 x1.toNatClampNeg) with ⟨k1, kk⟩ | ⟨n1, k2, kk⟩ | ⟨n1, n2, k3, kk⟩ | ⟨n1, n2, n3, k4, kk⟩ | ⟨n1, n2, n3, n4, kk⟩
        · exact wm_callC (nn := 0) (As := []) (rest := [.int (gA s 6 x1.toNatClampNeg), .int (gA s 5 x1.toNatClampNeg), .ref (q 61)]) (st' := [.int r32, .int (gA s 6 x1.toNatClampNeg), .int (gA s 5 x1.toNatClampNeg), .ref (q 61)]) C dX8_writeRows_112 (kX10_lets l D τ q nc x1.toNatClampNeg s r32 s33 (ite_t k1 h34)) (cw_O gX8_writeRows_X10_lets_u121X10 rfl (b0 := cX2_lets) (m0 := 1) (r0 := (some .int)) (by decide +kernel) (by decide +kernel) ⟨Nat.le_of_ble_eq_true rfl, Nat.le_of_ble_eq_true rfl⟩) rfl rfl ⟨Nat.zero_le _, Nat.zero_le _⟩ (49 + x1.toNatClampNeg) (x_crackAt h35 kk) rfl rfl rfl (Nat.le_of_ble_eq_true rfl) rfl (pc' := 115) rfl K36
        · exact wm_callC (nn := 0) (As := []) (rest := [.int (gA s 6 x1.toNatClampNeg), .int (gA s 5 x1.toNatClampNeg), .ref (q 61)]) (st' := [.int r32, .int (gA s 6 x1.toNatClampNeg), .int (gA s 5 x1.toNatClampNeg), .ref (q 61)]) C dX8_writeRows_112 (kX2_lets l D τ q nc x1.toNatClampNeg s r32 s33 (ite_t k2 (ite_f n1 h34))) (cw_U gX8_writeRows_X2_lets_u121X0 rfl rfl (by decide +kernel) ⟨Nat.le_of_ble_eq_true rfl, Nat.le_of_ble_eq_true rfl⟩) rfl rfl ⟨Nat.zero_le _, Nat.zero_le _⟩ (49 + x1.toNatClampNeg) (x_crackAt h35 kk) rfl rfl rfl (Nat.le_of_ble_eq_true rfl) rfl (pc' := 115) rfl K36
        · exact wm_callC (nn := 0) (As := []) (rest := [.int (gA s 6 x1.toNatClampNeg), .int (gA s 5 x1.toNatClampNeg), .ref (q 61)]) (st' := [.int r32, .int (gA s 6 x1.toNatClampNeg), .int (gA s 5 x1.toNatClampNeg), .ref (q 61)]) C dX8_writeRows_112 (kX10_lets l D τ q nc x1.toNatClampNeg s r32 s33 (ite_t k3 (ite_f n2 (ite_f n1 h34)))) (cw_O gX8_writeRows_X10_lets_u121X3 rfl (b0 := cX2_lets) (m0 := 1) (r0 := (some .int)) (by decide +kernel) (by decide +kernel) ⟨Nat.le_of_ble_eq_true rfl, Nat.le_of_ble_eq_true rfl⟩) rfl rfl ⟨Nat.zero_le _, Nat.zero_le _⟩ (49 + x1.toNatClampNeg) (x_crackAt h35 kk) rfl rfl rfl (Nat.le_of_ble_eq_true rfl) rfl (pc' := 115) rfl K36
        · exact wm_callC (nn := 0) (As := []) (rest := [.int (gA s 6 x1.toNatClampNeg), .int (gA s 5 x1.toNatClampNeg), .ref (q 61)]) (st' := [.int r32, .int (gA s 6 x1.toNatClampNeg), .int (gA s 5 x1.toNatClampNeg), .ref (q 61)]) C dX8_writeRows_112 (kX10_lets l D τ q nc x1.toNatClampNeg s r32 s33 (ite_t k4 (ite_f n3 (ite_f n2 (ite_f n1 h34))))) (cw_O gX8_writeRows_X10_lets_u121X7 rfl (b0 := cX2_lets) (m0 := 1) (r0 := (some .int)) (by decide +kernel) (by decide +kernel) ⟨Nat.le_of_ble_eq_true rfl, Nat.le_of_ble_eq_true rfl⟩) rfl rfl ⟨Nat.zero_le _, Nat.zero_le _⟩ (49 + x1.toNatClampNeg) (x_crackAt h35 kk) rfl rfl rfl (Nat.le_of_ble_eq_true rfl) rfl (pc' := 115) rfl K36
        · exact wm_callVd (nn := 0) (As := []) (rest := [.int (gA s 6 x1.toNatClampNeg), .int (gA s 5 x1.toNatClampNeg), .ref (q 61)]) (st' := [.int r32, .int (gA s 6 x1.toNatClampNeg), .int (gA s 5 x1.toNatClampNeg), .ref (q 61)]) C dX8_writeRows_112 (kX2_lets l D τ q nc x1.toNatClampNeg s r32 s33 (ite_f n4 (ite_f n3 (ite_f n2 (ite_f n1 h34))))) gX8_writeRows_X2_lets rfl (by decide +kernel) ⟨Nat.le_of_ble_eq_true rfl, Nat.le_of_ble_eq_true rfl⟩ rfl rfl ⟨Nat.zero_le _, Nat.zero_le _⟩ (49 + x1.toNatClampNeg) (x_crackAt h35 kk) rfl rfl rfl (Nat.le_of_ble_eq_true rfl) rfl (pc' := 115) rfl K36
  refine wm_ikonst (v := 0) C dX8_writeRows_0 (by decide) (pc' := 1) rfl ?_
  refine wm_istore_n (lv' := [(1, .int 0), (0, .ref (q 61))]) C dX8_writeRows_1 (by decide) rfl (pc' := 2) rfl ?_
  refine wm_sub (lv' := [(0, .ref (q 61)), (1, .int 0)]) [1, 0] rfl ?_
  obtain ⟨v24, s25, h26, hf⟩ := bnd_s hf
  refine wL_2 FU 0 σ v24 s25 h26 ?_
  refine wm_ikonst (v := 0) C dX8_writeRows_79 (by decide) (pc' := 80) rfl ?_
  refine wm_istore_n (lv' := [(1, .int 0), (0, .ref (q 61))]) C dX8_writeRows_80 (by decide) rfl (pc' := 81) rfl ?_
  refine wm_sub (lv' := [(0, .ref (q 61)), (1, .int 0)]) [1, 0] rfl ?_
  obtain ⟨v50, s51, h52, hf⟩ := bnd_s hf
  refine wL_81 FU 0 s25 v50 s51 h52 ?_
  obtain ⟨-, rfl⟩ := leaf_s hf
  exact wm_vret C dX8_writeRows_140 (Nat.zero_le _) (Nat.zero_le _) FD.rf
def fX8_minorOf_J51 (nc : Nat) (rec : Int64 → Int64 → Int32 → MS → Option (Int64 × MS)) (x1 : Int32) (x2 : Nat) (x3 : Int64) (x5 : Int64) (x7 : Int32) (s : MS) : Option (Int64 × MS) :=
  rec x3 x5 (x7 + (-1)) s
def fX8_minorOf_L9 (nc : Nat) (x1 : Int32) (x2 : Nat) : Nat → Int64 → Int64 → Int32 → MS → Option (Int64 × MS)
  | 0, _, _, _, _ => none
  | fu + 1, x3, x5, x7, s => if x7 < 0 then some (x3, s) else if ¬ ((x1 >>> (x7 &&& 31)) &&& 1) = 1 then fX8_minorOf_J51 nc (fX8_minorOf_L9 nc x1 x2 fu) x1 x2 x3 x5 x7 s else if x2 < 6 then if ¬ (x7 < 0 ∨ 7 ≤ x7.toNatClampNeg) then if ¬ ((x1 ^^^ (1 <<< (x7 &&& 31))) < 0 ∨ 128 ≤ (x1 ^^^ (1 <<< (x7 &&& 31))).toNatClampNeg) then fX8_minorOf_J51 nc (fX8_minorOf_L9 nc x1 x2 fu) x1 x2 (x3 + ((x5 * (gB s (100 + x2) x7.toNatClampNeg)) * (gB s 68 (x1 ^^^ (1 <<< (x7 &&& 31))).toNatClampNeg))) (-x5) x7 s else none else none else none
theorem fX8_minorOf_L9_s (nc : Nat) (x1 : Int32) (x2 : Nat) (fu : Nat) (x3 : Int64) (x5 : Int64) (x7 : Int32) (s : MS) : fX8_minorOf_L9 nc x1 x2 (fu + 1) x3 x5 x7 s = (if x7 < 0 then some (x3, s) else if ¬ ((x1 >>> (x7 &&& 31)) &&& 1) = 1 then fX8_minorOf_J51 nc (fX8_minorOf_L9 nc x1 x2 fu) x1 x2 x3 x5 x7 s else if x2 < 6 then if ¬ (x7 < 0 ∨ 7 ≤ x7.toNatClampNeg) then if ¬ ((x1 ^^^ (1 <<< (x7 &&& 31))) < 0 ∨ 128 ≤ (x1 ^^^ (1 <<< (x7 &&& 31))).toNatClampNeg) then fX8_minorOf_J51 nc (fX8_minorOf_L9 nc x1 x2 fu) x1 x2 (x3 + ((x5 * (gB s (100 + x2) x7.toNatClampNeg)) * (gB s 68 (x1 ^^^ (1 <<< (x7 &&& 31))).toNatClampNeg))) (-x5) x7 s else none else none else none) := rfl
def fX8_minorOf (nc : Nat) (x1 : Int32) (x2 : Nat) (σ : MS) : Option (Int64 × MS) :=
  bnd (fX8_minorOf_L9 nc x1 x2 FU 0 1 6 σ) (fun v6 s7 => some (v6, s7))
theorem inX8_X8_minorOf : ∀ w ∈ wsX80, w ∈ wsX8_minorOf := by decide +kernel
set_option maxHeartbeats 4000000 in
set_option maxRecDepth 100000 in
theorem kX8_minorOf (l : Launch) (D : va_G) (τ : CId) (q : Nat → Nat) (nc : Nat) (σ : MS) (x1 : Int32) (x2 : Nat) (rE : Int64) (sE : MS) (hf : fX8_minorOf nc x1 x2 σ = some (rE, sE)) : Ct l D τ yX8_minorOf wsX8_minorOf { frames := 0, cells := 0, slots := 0, locals := 0 } [.ref (q 61), .int x1, .ref (q (100 + x2))] (xW τ q nc σ) (FD (xW τ q nc sE) (some (.long rE))) := by
  unfold fX8_minorOf at hf
  refine ct_of (cc := cX8_minorOf) (maxL := 8) (ret := (some .long)) (by decide) rfl (Nat.le_of_ble_eq_true rfl) (fun Γ C => ?_)
  refine wm_lv (lv' := [(0, .ref (q 61)), (1, .int x1), (2, .ref (q (100 + x2)))]) rfl ?_
  have wL_9 : ∀ (x1 : Int32) (x2 : Nat) (fu : Nat) (x3 : Int64) (x5 : Int64) (x7 : Int32) (s : MS) (v : Int64) (s' : MS), fX8_minorOf_L9 nc x1 x2 fu x3 x5 x7 s = some (v, s') → WM l D Γ 8 0 0 (xW τ q nc s') 57 [(3, .long v)] [] → WM l D Γ 8 0 0 (xW τ q nc s) 9 [(0, .ref (q 61)), (1, .int x1), (2, .ref (q (100 + x2))), (3, .long x3), (5, .long x5), (7, .int x7)] [] := by
    intro x1 x2
    intro fu
    induction fu with
    | zero => intro x3 x5 x7 s v s' hf hE; exact absurd hf (fun h => nomatch (show (none : Option _) = some _ from h))
    | succ fu ih =>
      intro x3 x5 x7 s v s' hf hE
      rw [fX8_minorOf_L9_s] at hf
      have wJ_51 : ∀ (x3 : Int64) (x5 : Int64) (x7 : Int32) (s : MS) (v : Int64) (s' : MS), fX8_minorOf_J51 nc (fX8_minorOf_L9 nc x1 x2 fu) x1 x2 x3 x5 x7 s = some (v, s') → WM l D Γ 8 0 0 (xW τ q nc s') 57 [(3, .long v)] [] → WM l D Γ 8 0 0 (xW τ q nc s) 51 [(0, .ref (q 61)), (1, .int x1), (2, .ref (q (100 + x2))), (3, .long x3), (5, .long x5), (7, .int x7)] [] := by
        intro x3 x5 x7 s v s' hf hE
        unfold fX8_minorOf_J51 at hf
        refine wm_iinc (v := x7 + (-1)) (lv' := [(7, .int (x7 + (-1))), (0, .ref (q 61)), (1, .int x1), (2, .ref (q (100 + x2))), (3, .long x3), (5, .long x5)]) C dX8_minorOf_51 5 rfl rfl (by decide) rfl (pc' := 54) rfl ?_
        refine wm_goto C dX8_minorOf_54 9 (by decide) ?_
        refine wm_sub (lv' := [(0, .ref (q 61)), (1, .int x1), (2, .ref (q (100 + x2))), (3, .long x3), (5, .long x5), (7, .int (x7 + (-1)))]) [1, 2, 3, 4, 5, 0] rfl ?_
        exact ih x3 x5 (x7 + (-1)) s _ _ hf hE
      refine wm_iload C dX8_minorOf_9 5 rfl (pc' := 11) rfl ?_
      refine wm_if_lt C dX8_minorOf_11 57 (by decide) (pc' := 14) rfl (fun h1 => ?_) (fun h1 => ?_)
      · have hf := ite_t h1 hf
        obtain ⟨rfl, rfl⟩ := leaf_s hf
        refine wm_sub (lv' := [(3, .long x3)]) [3] rfl ?_
        exact hE
      · have hf := ite_f h1 hf
        refine wm_iload_n C dX8_minorOf_14 1 rfl (pc' := 15) rfl ?_
        refine wm_iload C dX8_minorOf_15 5 rfl (pc' := 17) rfl ?_
        refine wm_ishr C dX8_minorOf_17 (pc' := 18) rfl ?_
        refine wm_ikonst (v := 1) C dX8_minorOf_18 (by decide) (pc' := 19) rfl ?_
        refine wm_iand C dX8_minorOf_19 (pc' := 20) rfl ?_
        refine wm_ikonst (v := 1) C dX8_minorOf_20 (by decide) (pc' := 21) rfl ?_
        refine wm_icmp_ne C dX8_minorOf_21 51 (by decide) (pc' := 24) rfl (fun h2 => ?_) (fun h2 => ?_)
        · have hf := ite_t h2 hf
          exact wJ_51 x3 x5 x7 s _ _ hf hE
        · have hf := ite_f (fun h => h h2) hf
          refine wm_lload_n C dX8_minorOf_24 3 rfl (pc' := 25) rfl ?_
          refine wm_lload C dX8_minorOf_25 4 rfl (pc' := 27) rfl ?_
          refine wm_aload_n C dX8_minorOf_27 2 rfl (pc' := 28) rfl ?_
          refine wm_iload C dX8_minorOf_28 5 rfl (pc' := 30) rfl ?_
          obtain ⟨h5, hf⟩ := chk_s hf
          obtain ⟨h3, hf⟩ := chk_s hf
          refine wm_lald (f := gB s (100 + x2)) (N := 7) (cA := τ.2.1) C dX8_minorOf_30 (27 + x2) (x_at (by omega) (xC_rows h5)) rfl h3 (pc' := 31) rfl ?_
          refine wm_lmul C dX8_minorOf_31 (pc' := 32) rfl ?_
          refine wm_aload_n C dX8_minorOf_32 0 rfl (pc' := 33) rfl ?_
          refine x_get (v := .ref (q 68)) C dX8_minorOf_33 inX8_X8_minorOf 2 (by omega) rfl rfl 2 (by decide) (by decide +kernel) (Or.inl rfl) rfl (pc' := 36) rfl ?_
          refine wm_iload_n C dX8_minorOf_36 1 rfl (pc' := 37) rfl ?_
          refine wm_ikonst (v := 1) C dX8_minorOf_37 (by decide) (pc' := 38) rfl ?_
          refine wm_iload C dX8_minorOf_38 5 rfl (pc' := 40) rfl ?_
          refine wm_ishl C dX8_minorOf_40 (pc' := 41) rfl ?_
          refine wm_ixor C dX8_minorOf_41 (pc' := 42) rfl ?_
          obtain ⟨h4, hf⟩ := chk_s hf
          refine wm_lald (f := gB s 68) (N := 128) (cA := τ.2.1) C dX8_minorOf_42 12 (x_at (by omega) rfl) rfl h4 (pc' := 43) rfl ?_
          refine wm_lmul C dX8_minorOf_43 (pc' := 44) rfl ?_
          refine wm_ladd C dX8_minorOf_44 (pc' := 45) rfl ?_
          refine wm_lstore_n (lv' := [(3, .long (x3 + ((x5 * (gB s (100 + x2) x7.toNatClampNeg)) * (gB s 68 (x1 ^^^ (1 <<< (x7 &&& 31))).toNatClampNeg)))), (0, .ref (q 61)), (1, .int x1), (2, .ref (q (100 + x2))), (5, .long x5), (7, .int x7)]) C dX8_minorOf_45 (by decide) rfl (pc' := 46) rfl ?_
          refine wm_lload C dX8_minorOf_46 4 rfl (pc' := 48) rfl ?_
          refine wm_lneg C dX8_minorOf_48 (pc' := 49) rfl ?_
          refine wm_lstore (lv' := [(5, .long (-x5)), (3, .long (x3 + ((x5 * (gB s (100 + x2) x7.toNatClampNeg)) * (gB s 68 (x1 ^^^ (1 <<< (x7 &&& 31))).toNatClampNeg)))), (0, .ref (q 61)), (1, .int x1), (2, .ref (q (100 + x2))), (7, .int x7)]) C dX8_minorOf_49 (by decide) rfl (pc' := 51) rfl ?_
          refine wm_sub (lv' := [(0, .ref (q 61)), (1, .int x1), (2, .ref (q (100 + x2))), (3, .long (x3 + ((x5 * (gB s (100 + x2) x7.toNatClampNeg)) * (gB s 68 (x1 ^^^ (1 <<< (x7 &&& 31))).toNatClampNeg)))), (5, .long (-x5)), (7, .int x7)]) [2, 3, 4, 1, 0, 5] rfl ?_
          exact wJ_51 (x3 + ((x5 * (gB s (100 + x2) x7.toNatClampNeg)) * (gB s 68 (x1 ^^^ (1 <<< (x7 &&& 31))).toNatClampNeg))) (-x5) x7 s _ _ hf hE
  refine wm_lkonst (v := 0) C dX8_minorOf_0 (by decide) (pc' := 1) rfl ?_
  refine wm_lstore_n (lv' := [(3, .long 0), (0, .ref (q 61)), (1, .int x1), (2, .ref (q (100 + x2)))]) C dX8_minorOf_1 (by decide) rfl (pc' := 2) rfl ?_
  refine wm_lkonst (v := 1) C dX8_minorOf_2 (by decide) (pc' := 3) rfl ?_
  refine wm_lstore (lv' := [(5, .long 1), (3, .long 0), (0, .ref (q 61)), (1, .int x1), (2, .ref (q (100 + x2)))]) C dX8_minorOf_3 (by decide) rfl (pc' := 5) rfl ?_
  refine wm_bipush (v := 6) C dX8_minorOf_5 (by decide) (pc' := 7) rfl ?_
  refine wm_istore (lv' := [(7, .int 6), (5, .long 1), (3, .long 0), (0, .ref (q 61)), (1, .int x1), (2, .ref (q (100 + x2)))]) C dX8_minorOf_7 (by decide) rfl (pc' := 9) rfl ?_
  refine wm_sub (lv' := [(0, .ref (q 61)), (1, .int x1), (2, .ref (q (100 + x2))), (3, .long 0), (5, .long 1), (7, .int 6)]) [3, 4, 5, 2, 1, 0] rfl ?_
  obtain ⟨v6, s7, h8, hf⟩ := bnd_s hf
  refine wL_9 x1 x2 FU 0 1 6 σ v6 s7 h8 ?_
  refine wm_lload_n C dX8_minorOf_57 0 rfl (pc' := 58) rfl ?_
  obtain ⟨rfl, rfl⟩ := leaf_s hf
  exact wm_lret C dX8_minorOf_58 (Nat.zero_le _) (Nat.zero_le _) FD.rf
def fX8_solveRows_L12 (nc : Nat) (x1 : Int32) : Nat → Int32 → MS → Option (Unit × MS)
  | 0, _, _ => none
  | fu + 1, x2, s => if x1 ≤ x2 then some ((), s) else bnd (fJ6_bitCount_0f7a4 x2) (fun r5 u6 => if ¬ ((r5 - 1) < 0 ∨ 6 ≤ (r5 - 1).toNatClampNeg) then if (r5 - 1).toNatClampNeg < 6 then bnd (fX8_minorOf nc x2 ((r5 - 1).toNatClampNeg) s) (fun r10 s11 => if ¬ (x2 < 0 ∨ 128 ≤ x2.toNatClampNeg) then lets (sB s11 68 x2.toNatClampNeg r10) (fun s14 => fX8_solveRows_L12 nc x1 fu (x2 + 1) s14) else none) else none else none)
theorem fX8_solveRows_L12_s (nc : Nat) (x1 : Int32) (fu : Nat) (x2 : Int32) (s : MS) : fX8_solveRows_L12 nc x1 (fu + 1) x2 s = (if x1 ≤ x2 then some ((), s) else bnd (fJ6_bitCount_0f7a4 x2) (fun r5 u6 => if ¬ ((r5 - 1) < 0 ∨ 6 ≤ (r5 - 1).toNatClampNeg) then if (r5 - 1).toNatClampNeg < 6 then bnd (fX8_minorOf nc x2 ((r5 - 1).toNatClampNeg) s) (fun r10 s11 => if ¬ (x2 < 0 ∨ 128 ≤ x2.toNatClampNeg) then lets (sB s11 68 x2.toNatClampNeg r10) (fun s14 => fX8_solveRows_L12 nc x1 fu (x2 + 1) s14) else none) else none else none)) := rfl
def fX8_solveRows_L65 (nc : Nat) (x1 : Int32) : Nat → Int64 → Int32 → MS → Option (Unit × MS)
  | 0, _, _, _ => none
  | fu + 1, x2, x4, s => if x4 < 0 then some ((), s) else if ¬ ((x1 ^^^ (1 <<< (x4 &&& 31))) < 0 ∨ 128 ≤ (x1 ^^^ (1 <<< (x4 &&& 31))).toNatClampNeg) then if ¬ (x4 < 0 ∨ 6 ≤ x4.toNatClampNeg) then lets (sB s 69 x4.toNatClampNeg (x2 * (gB s 68 (x1 ^^^ (1 <<< (x4 &&& 31))).toNatClampNeg))) (fun s25 => fX8_solveRows_L65 nc x1 fu (-x2) (x4 + (-1)) s25) else none else none
theorem fX8_solveRows_L65_s (nc : Nat) (x1 : Int32) (fu : Nat) (x2 : Int64) (x4 : Int32) (s : MS) : fX8_solveRows_L65 nc x1 (fu + 1) x2 x4 s = (if x4 < 0 then some ((), s) else if ¬ ((x1 ^^^ (1 <<< (x4 &&& 31))) < 0 ∨ 128 ≤ (x1 ^^^ (1 <<< (x4 &&& 31))).toNatClampNeg) then if ¬ (x4 < 0 ∨ 6 ≤ x4.toNatClampNeg) then lets (sB s 69 x4.toNatClampNeg (x2 * (gB s 68 (x1 ^^^ (1 <<< (x4 &&& 31))).toNatClampNeg))) (fun s25 => fX8_solveRows_L65 nc x1 fu (-x2) (x4 + (-1)) s25) else none else none) := rfl
def fX8_solveRows (nc : Nat) (σ : MS) : Option (Unit × MS) :=
  if ¬ ((0 : Int32) < 0 ∨ 128 ≤ (0 : Int32).toNatClampNeg) then lets (sB σ 68 (0 : Int32).toNatClampNeg 1) (fun s2 => bnd (fX8_solveRows_L12 nc 127 FU 1 s2) (fun v16 s17 => if ¬ ((63 : Int32) < 0 ∨ 128 ≤ (63 : Int32).toNatClampNeg) then lets (sL s17 (if (gB s17 68 (63 : Int32).toNatClampNeg) < 1 then 1 else (gB s17 68 (63 : Int32).toNatClampNeg))) (fun s20 => bnd (fX8_solveRows_L65 nc 127 FU 1 5 s20) (fun v27 s28 => some ((), s28))) else none)) else none
theorem inX8_X8_solveRows : ∀ w ∈ wsX80, w ∈ wsX8_solveRows := by decide +kernel
set_option maxHeartbeats 4000000 in
set_option maxRecDepth 100000 in
theorem kX8_solveRows (l : Launch) (D : va_G) (τ : CId) (q : Nat → Nat) (nc : Nat) (σ : MS) (sE : MS) (hf : fX8_solveRows nc σ = some ((), sE)) : Ct l D τ yX8_solveRows wsX8_solveRows { frames := 1, cells := 0, slots := 0, locals := 27 } [.ref (q 61)] (xW τ q nc σ) (FD (xW τ q nc sE) none) := by
  unfold fX8_solveRows at hf
  refine ct_of (cc := cX8_solveRows) (maxL := 5) (ret := none) (by decide) rfl (Nat.le_of_ble_eq_true rfl) (fun Γ C => ?_)
  refine wm_lv (lv' := [(0, .ref (q 61))]) rfl ?_
  have wL_12 : ∀ (x1 : Int32) (fu : Nat) (x2 : Int32) (s : MS) (v : Unit) (s' : MS), fX8_solveRows_L12 nc x1 fu x2 s = some (v, s') → WM l D Γ 5 0 0 (xW τ q nc s') 45 [(0, .ref (q 61)), (1, .int x1)] [] → WM l D Γ 5 0 0 (xW τ q nc s) 12 [(0, .ref (q 61)), (1, .int x1), (2, .int x2)] [] := by
    intro x1
    intro fu
    induction fu with
    | zero => intro x2 s v s' hf hE; exact absurd hf (fun h => nomatch (show (none : Option _) = some _ from h))
    | succ fu ih =>
      intro x2 s v s' hf hE
      rw [fX8_solveRows_L12_s] at hf
      refine wm_iload_n C dX8_solveRows_12 2 rfl (pc' := 13) rfl ?_
      refine wm_iload_n C dX8_solveRows_13 1 rfl (pc' := 14) rfl ?_
      refine wm_icmp_ge C dX8_solveRows_14 45 (by decide) (pc' := 17) rfl (fun h4 => ?_) (fun h4 => ?_)
      · have hf := ite_t h4 hf
        obtain ⟨rfl, rfl⟩ := leaf_s hf
        refine wm_sub (lv' := [(0, .ref (q 61)), (1, .int x1)]) [0, 1] rfl ?_
        exact hE
      · have hf := ite_f h4 hf
        refine wm_aload_n C dX8_solveRows_17 0 rfl (pc' := 18) rfl ?_
        refine x_get (v := .ref (q 68)) C dX8_solveRows_18 inX8_X8_solveRows 2 (by omega) rfl rfl 2 (by decide) (by decide +kernel) (Or.inl rfl) rfl (pc' := 21) rfl ?_
        refine wm_iload_n C dX8_solveRows_21 2 rfl (pc' := 22) rfl ?_
        refine wm_aload_n C dX8_solveRows_22 0 rfl (pc' := 23) rfl ?_
        refine wm_iload_n C dX8_solveRows_23 2 rfl (pc' := 24) rfl ?_
        refine wm_aload_n C dX8_solveRows_24 0 rfl (pc' := 25) rfl ?_
        refine x_get (v := .ref (q 67)) C dX8_solveRows_25 inX8_X8_solveRows 2 (by omega) rfl rfl 1 (by decide) (by decide +kernel) (Or.inl rfl) rfl (pc' := 28) rfl ?_
        refine wm_iload_n C dX8_solveRows_28 2 rfl (pc' := 29) rfl ?_
        obtain ⟨r5, u6, h7, hf⟩ := bnd_s hf
        refine wm_callSd (nn := 1) (As := [.int x2]) (rest := [.ref (q 67), .int x2, .ref (q 61), .int x2, .ref (q 68)]) (st' := [.int r5, .ref (q 67), .int x2, .ref (q 61), .int x2, .ref (q 68)]) C dX8_solveRows_29 (kJ6_bitCount_0f7a4 l D τ x2 r5 h7) gX8_solveRows_J6_bitCount_0f7a4 rfl (by decide +kernel) ⟨Nat.le_of_ble_eq_true rfl, Nat.le_of_ble_eq_true rfl⟩ rfl rfl ⟨Nat.zero_le _, Nat.zero_le _⟩ rfl rfl (Nat.le_of_ble_eq_true rfl) rfl (pc' := 32) rfl ?_
        refine wm_ikonst (v := 1) C dX8_solveRows_32 (by decide) (pc' := 33) rfl ?_
        refine wm_isub C dX8_solveRows_33 (pc' := 34) rfl ?_
        obtain ⟨h8, hf⟩ := chk_s hf
        obtain ⟨h9, hf⟩ := chk_s hf
        refine wm_aald (f := refs q 100 6) (N := 6) (cA := τ.2.2.2.2.2.2) (ty := .array .long) C dX8_solveRows_34 11 6 (x_at (by omega) rfl) rfl rfl h8 (refs_at h9) (pc' := 35) rfl ?_
        obtain ⟨r10, s11, h12, hf⟩ := bnd_s hf
        refine wm_callVd (nn := 2) (As := [.int x2, .ref (q (100 + (r5 - 1).toNatClampNeg))]) (rest := [.int x2, .ref (q 68)]) (st' := [.long r10, .int x2, .ref (q 68)]) C dX8_solveRows_35 (kX8_minorOf l D τ q nc s x2 ((r5 - 1).toNatClampNeg) r10 s11 h12) gX8_solveRows_X8_minorOf rfl (by decide +kernel) ⟨Nat.le_of_ble_eq_true rfl, Nat.le_of_ble_eq_true rfl⟩ rfl rfl ⟨Nat.zero_le _, Nat.zero_le _⟩ 2 (x_at (by omega) rfl) rfl rfl rfl (Nat.le_of_ble_eq_true rfl) rfl (pc' := 38) rfl ?_
        obtain ⟨h13, hf⟩ := chk_s hf
        obtain ⟨s14, e15, hf⟩ := lets_s hf
        refine wm_last (f := gB s11 68) (N := 128) (cA := τ.2.1) C dX8_solveRows_38 12 (x_at (by omega) rfl) rfl h13 (Wd' := xW τ q nc s14) (xW_set (e15 ▸ xC_B68) (by rw [e15]; rfl)) (pc' := 39) rfl ?_
        refine wm_iinc (v := x2 + 1) (lv' := [(2, .int (x2 + 1)), (0, .ref (q 61)), (1, .int x1)]) C dX8_solveRows_39 2 rfl rfl (by decide) rfl (pc' := 42) rfl ?_
        refine wm_goto C dX8_solveRows_42 12 (by decide) ?_
        refine wm_sub (lv' := [(0, .ref (q 61)), (1, .int x1), (2, .int (x2 + 1))]) [1, 2, 0] rfl ?_
        exact ih (x2 + 1) s14 _ _ hf hE
  have wL_65 : ∀ (x1 : Int32) (fu : Nat) (x2 : Int64) (x4 : Int32) (s : MS) (v : Unit) (s' : MS), fX8_solveRows_L65 nc x1 fu x2 x4 s = some (v, s') → WM l D Γ 5 0 0 (xW τ q nc s') 99 [] [] → WM l D Γ 5 0 0 (xW τ q nc s) 65 [(0, .ref (q 61)), (1, .int x1), (2, .long x2), (4, .int x4)] [] := by
    intro x1
    intro fu
    induction fu with
    | zero => intro x2 x4 s v s' hf hE; exact absurd hf (fun h => nomatch (show (none : Option _) = some _ from h))
    | succ fu ih =>
      intro x2 x4 s v s' hf hE
      rw [fX8_solveRows_L65_s] at hf
      refine wm_iload C dX8_solveRows_65 3 rfl (pc' := 67) rfl ?_
      refine wm_if_lt C dX8_solveRows_67 99 (by decide) (pc' := 70) rfl (fun h22 => ?_) (fun h22 => ?_)
      · have hf := ite_t h22 hf
        obtain ⟨rfl, rfl⟩ := leaf_s hf
        refine wm_sub (lv' := []) [] rfl ?_
        exact hE
      · have hf := ite_f h22 hf
        refine wm_aload_n C dX8_solveRows_70 0 rfl (pc' := 71) rfl ?_
        refine x_get (v := .ref (q 69)) C dX8_solveRows_71 inX8_X8_solveRows 2 (by omega) rfl rfl 3 (by decide) (by decide +kernel) (Or.inl rfl) rfl (pc' := 74) rfl ?_
        refine wm_iload C dX8_solveRows_74 3 rfl (pc' := 76) rfl ?_
        refine wm_lload_n C dX8_solveRows_76 2 rfl (pc' := 77) rfl ?_
        refine wm_aload_n C dX8_solveRows_77 0 rfl (pc' := 78) rfl ?_
        refine x_get (v := .ref (q 68)) C dX8_solveRows_78 inX8_X8_solveRows 2 (by omega) rfl rfl 2 (by decide) (by decide +kernel) (Or.inl rfl) rfl (pc' := 81) rfl ?_
        refine wm_iload_n C dX8_solveRows_81 1 rfl (pc' := 82) rfl ?_
        refine wm_ikonst (v := 1) C dX8_solveRows_82 (by decide) (pc' := 83) rfl ?_
        refine wm_iload C dX8_solveRows_83 3 rfl (pc' := 85) rfl ?_
        refine wm_ishl C dX8_solveRows_85 (pc' := 86) rfl ?_
        refine wm_ixor C dX8_solveRows_86 (pc' := 87) rfl ?_
        obtain ⟨h23, hf⟩ := chk_s hf
        refine wm_lald (f := gB s 68) (N := 128) (cA := τ.2.1) C dX8_solveRows_87 12 (x_at (by omega) rfl) rfl h23 (pc' := 88) rfl ?_
        refine wm_lmul C dX8_solveRows_88 (pc' := 89) rfl ?_
        obtain ⟨h24, hf⟩ := chk_s hf
        obtain ⟨s25, e26, hf⟩ := lets_s hf
        refine wm_last (f := gB s 69) (N := 6) (cA := τ.2.1) C dX8_solveRows_89 13 (x_at (by omega) rfl) rfl h24 (Wd' := xW τ q nc s25) (xW_set (e26 ▸ xC_B69) (by rw [e26]; rfl)) (pc' := 90) rfl ?_
        refine wm_lload_n C dX8_solveRows_90 2 rfl (pc' := 91) rfl ?_
        refine wm_lneg C dX8_solveRows_91 (pc' := 92) rfl ?_
        refine wm_lstore_n (lv' := [(2, .long (-x2)), (0, .ref (q 61)), (1, .int x1), (4, .int x4)]) C dX8_solveRows_92 (by decide) rfl (pc' := 93) rfl ?_
        refine wm_iinc (v := x4 + (-1)) (lv' := [(4, .int (x4 + (-1))), (2, .long (-x2)), (0, .ref (q 61)), (1, .int x1)]) C dX8_solveRows_93 3 rfl rfl (by decide) rfl (pc' := 96) rfl ?_
        refine wm_goto C dX8_solveRows_96 65 (by decide) ?_
        refine wm_sub (lv' := [(0, .ref (q 61)), (1, .int x1), (2, .long (-x2)), (4, .int (x4 + (-1)))]) [2, 3, 1, 0] rfl ?_
        exact ih (-x2) (x4 + (-1)) s25 _ _ hf hE
  refine wm_bipush (v := 127) C dX8_solveRows_0 (by decide) (pc' := 2) rfl ?_
  refine wm_istore_n (lv' := [(1, .int 127), (0, .ref (q 61))]) C dX8_solveRows_2 (by decide) rfl (pc' := 3) rfl ?_
  refine wm_aload_n C dX8_solveRows_3 1 rfl (pc' := 4) rfl ?_
  refine x_get (v := .ref (q 68)) C dX8_solveRows_4 inX8_X8_solveRows 2 (by omega) rfl rfl 2 (by decide) (by decide +kernel) (Or.inl rfl) rfl (pc' := 7) rfl ?_
  refine wm_ikonst (v := 0) C dX8_solveRows_7 (by decide) (pc' := 8) rfl ?_
  refine wm_lkonst (v := 1) C dX8_solveRows_8 (by decide) (pc' := 9) rfl ?_
  obtain ⟨h1, hf⟩ := chk_s hf
  obtain ⟨s2, e3, hf⟩ := lets_s hf
  refine wm_last (f := gB σ 68) (N := 128) (cA := τ.2.1) C dX8_solveRows_9 12 (x_at (by omega) rfl) rfl h1 (Wd' := xW τ q nc s2) (xW_set (e3 ▸ xC_B68) (by rw [e3]; rfl)) (pc' := 10) rfl ?_
  refine wm_ikonst (v := 1) C dX8_solveRows_10 (by decide) (pc' := 11) rfl ?_
  refine wm_istore_n (lv' := [(2, .int 1), (1, .int 127), (0, .ref (q 61))]) C dX8_solveRows_11 (by decide) rfl (pc' := 12) rfl ?_
  refine wm_sub (lv' := [(0, .ref (q 61)), (1, .int 127), (2, .int 1)]) [2, 1, 0] rfl ?_
  obtain ⟨v16, s17, h18, hf⟩ := bnd_s hf
  refine wL_12 127 FU 1 s2 v16 s17 h18 ?_
  refine wm_aload_n C dX8_solveRows_45 0 rfl (pc' := 46) rfl ?_
  refine wm_lkonst (v := 1) C dX8_solveRows_46 (by decide) (pc' := 47) rfl ?_
  refine wm_aload_n C dX8_solveRows_47 0 rfl (pc' := 48) rfl ?_
  refine x_get (v := .ref (q 68)) C dX8_solveRows_48 inX8_X8_solveRows 2 (by omega) rfl rfl 2 (by decide) (by decide +kernel) (Or.inl rfl) rfl (pc' := 51) rfl ?_
  refine wm_bipush (v := 63) C dX8_solveRows_51 (by decide) (pc' := 53) rfl ?_
  obtain ⟨h19, hf⟩ := chk_s hf
  refine wm_lald (f := gB s17 68) (N := 128) (cA := τ.2.1) C dX8_solveRows_53 12 (x_at (by omega) rfl) rfl h19 (pc' := 54) rfl ?_
  refine wm_maxL C dX8_solveRows_54 (by decide +kernel) (by decide +kernel) (by decide +kernel) (by decide +kernel) ⟨Nat.le_of_ble_eq_true rfl, Nat.le_of_ble_eq_true rfl⟩ ⟨Nat.zero_le _, Nat.zero_le _⟩ (pc' := 57) rfl ?_
  obtain ⟨s20, e21, hf⟩ := lets_s hf
  refine x_put (σ' := s20) C dX8_solveRows_57 inX8_X8_solveRows tyX8 tyX8_ok nmX8 2 (by omega) rfl rfl 5 (by decide) (by decide +kernel) (Or.inl rfl) rfl rfl rfl rfl (Nat.le_of_ble_eq_true rfl) (e21 ▸ xC_L) (e21 ▸ rfl) (pc' := 60) rfl ?_
  refine wm_lkonst (v := 1) C dX8_solveRows_60 (by decide) (pc' := 61) rfl ?_
  refine wm_lstore_n (lv' := [(2, .long 1), (0, .ref (q 61)), (1, .int 127)]) C dX8_solveRows_61 (by decide) rfl (pc' := 62) rfl ?_
  refine wm_ikonst (v := 5) C dX8_solveRows_62 (by decide) (pc' := 63) rfl ?_
  refine wm_istore (lv' := [(4, .int 5), (2, .long 1), (0, .ref (q 61)), (1, .int 127)]) C dX8_solveRows_63 (by decide) rfl (pc' := 65) rfl ?_
  refine wm_sub (lv' := [(0, .ref (q 61)), (1, .int 127), (2, .long 1), (4, .int 5)]) [2, 3, 1, 0] rfl ?_
  obtain ⟨v27, s28, h29, hf⟩ := bnd_s hf
  refine wL_65 127 FU 1 5 s20 v27 s28 h29 ?_
  obtain ⟨-, rfl⟩ := leaf_s hf
  exact wm_vret C dX8_solveRows_99 (Nat.zero_le _) (Nat.zero_le _) FD.rf
def fX8_reckonFlows_L2 (nc : Nat) : Nat → Int32 → MS → Option (Unit × MS)
  | 0, _, _ => none
  | fu + 1, x1, s => if (gI s 4) ≤ x1 then some ((), s) else if ¬ (x1 < 0 ∨ 12 ≤ x1.toNatClampNeg) then if x1.toNatClampNeg < nc then if x1.toNatClampNeg < nc then bnd (vX_lets nc x1.toNatClampNeg s) (fun r4 s5 => if x1.toNatClampNeg < nc then if ¬ ((gA s5 5 x1.toNatClampNeg) < 0 ∨ 6 ≤ (gA s5 5 x1.toNatClampNeg).toNatClampNeg) then if x1.toNatClampNeg < nc then if ¬ ((gA s5 6 x1.toNatClampNeg) < 0 ∨ 6 ≤ (gA s5 6 x1.toNatClampNeg).toNatClampNeg) then if ¬ (x1 < 0 ∨ 12 ≤ x1.toNatClampNeg) then lets (sB s5 70 x1.toNatClampNeg (r4.toInt64 * ((gB s5 69 (gA s5 5 x1.toNatClampNeg).toNatClampNeg) - (gB s5 69 (gA s5 6 x1.toNatClampNeg).toNatClampNeg)))) (fun s14 => fX8_reckonFlows_L2 nc fu (x1 + 1) s14) else none else none else none else none else none) else none else none else none
theorem fX8_reckonFlows_L2_s (nc : Nat) (fu : Nat) (x1 : Int32) (s : MS) : fX8_reckonFlows_L2 nc (fu + 1) x1 s = (if (gI s 4) ≤ x1 then some ((), s) else if ¬ (x1 < 0 ∨ 12 ≤ x1.toNatClampNeg) then if x1.toNatClampNeg < nc then if x1.toNatClampNeg < nc then bnd (vX_lets nc x1.toNatClampNeg s) (fun r4 s5 => if x1.toNatClampNeg < nc then if ¬ ((gA s5 5 x1.toNatClampNeg) < 0 ∨ 6 ≤ (gA s5 5 x1.toNatClampNeg).toNatClampNeg) then if x1.toNatClampNeg < nc then if ¬ ((gA s5 6 x1.toNatClampNeg) < 0 ∨ 6 ≤ (gA s5 6 x1.toNatClampNeg).toNatClampNeg) then if ¬ (x1 < 0 ∨ 12 ≤ x1.toNatClampNeg) then lets (sB s5 70 x1.toNatClampNeg (r4.toInt64 * ((gB s5 69 (gA s5 5 x1.toNatClampNeg).toNatClampNeg) - (gB s5 69 (gA s5 6 x1.toNatClampNeg).toNatClampNeg)))) (fun s14 => fX8_reckonFlows_L2 nc fu (x1 + 1) s14) else none else none else none else none else none) else none else none else none) := rfl
def fX8_reckonFlows (nc : Nat) (σ : MS) : Option (Unit × MS) :=
  bnd (fX8_reckonFlows_L2 nc FU 0 σ) (fun v16 s17 => some ((), s17))
theorem in5_X8_reckonFlows : In5 wsX8_reckonFlows := ⟨by decide +kernel, by decide +kernel, by decide +kernel, by decide +kernel, by decide +kernel⟩
theorem inX5_X8_reckonFlows : ∀ w ∈ wsX50, w ∈ wsX8_reckonFlows := by decide +kernel
theorem inX8_X8_reckonFlows : ∀ w ∈ wsX80, w ∈ wsX8_reckonFlows := by decide +kernel
set_option maxHeartbeats 4000000 in
set_option maxRecDepth 100000 in
theorem kX8_reckonFlows (l : Launch) (D : va_G) (τ : CId) (q : Nat → Nat) (nc : Nat) (σ : MS) (sE : MS) (hf : fX8_reckonFlows nc σ = some ((), sE)) : Ct l D τ yX8_reckonFlows wsX8_reckonFlows { frames := 1, cells := 0, slots := 0, locals := 20 } [.ref (q 61)] (xW τ q nc σ) (FD (xW τ q nc sE) none) := by
  unfold fX8_reckonFlows at hf
  refine ct_of (cc := cX8_reckonFlows) (maxL := 3) (ret := none) (by decide) rfl (Nat.le_of_ble_eq_true rfl) (fun Γ C => ?_)
  refine wm_lv (lv' := [(0, .ref (q 61))]) rfl ?_
  have wL_2 : ∀ (fu : Nat) (x1 : Int32) (s : MS) (v : Unit) (s' : MS), fX8_reckonFlows_L2 nc fu x1 s = some (v, s') → WM l D Γ 3 0 0 (xW τ q nc s') 60 [] [] → WM l D Γ 3 0 0 (xW τ q nc s) 2 [(0, .ref (q 61)), (1, .int x1)] [] := by
    intro fu
    induction fu with
    | zero => intro x1 s v s' hf hE; exact absurd hf (fun h => nomatch (show (none : Option _) = some _ from h))
    | succ fu ih =>
      intro x1 s v s' hf hE
      rw [fX8_reckonFlows_L2_s] at hf
      refine wm_iload_n C dX8_reckonFlows_2 1 rfl (pc' := 3) rfl ?_
      refine wm_aload_n C dX8_reckonFlows_3 0 rfl (pc' := 4) rfl ?_
      refine x_get (v := .ref (q 60)) C dX8_reckonFlows_4 inX8_X8_reckonFlows 2 (by omega) rfl rfl 0 (by decide) (by decide +kernel) (Or.inl rfl) rfl (pc' := 7) rfl ?_
      refine x_get (v := .int (gI s 4)) C dX8_reckonFlows_7 inX5_X8_reckonFlows 1 (by omega) rfl rfl 4 (by decide) (by decide +kernel) (Or.inl rfl) rfl (pc' := 10) rfl ?_
      refine wm_icmp_ge C dX8_reckonFlows_10 60 (by decide) (pc' := 13) rfl (fun h1 => ?_) (fun h1 => ?_)
      · have hf := ite_t h1 hf
        obtain ⟨rfl, rfl⟩ := leaf_s hf
        refine wm_sub (lv' := []) [] rfl ?_
        exact hE
      · have hf := ite_f h1 hf
        refine wm_aload_n C dX8_reckonFlows_13 0 rfl (pc' := 14) rfl ?_
        refine x_get (v := .ref (q 60)) C dX8_reckonFlows_14 inX8_X8_reckonFlows 2 (by omega) rfl rfl 0 (by decide) (by decide +kernel) (Or.inl rfl) rfl (pc' := 17) rfl ?_
        refine x_get (v := .ref (q 66)) C dX8_reckonFlows_17 inX5_X8_reckonFlows 1 (by omega) rfl rfl 2 (by decide) (by decide +kernel) (Or.inl rfl) rfl (pc' := 20) rfl ?_
        refine wm_iload_n C dX8_reckonFlows_20 1 rfl (pc' := 21) rfl ?_
        obtain ⟨h2, hf⟩ := chk_s hf
        obtain ⟨h3, hf⟩ := chk_s hf
        refine wm_aald (f := refs q 200 nc) (N := 12) (cA := τ.2.2.2.2.1) (ty := .object "WideningCracks$Crack") C dX8_reckonFlows_21 10 4 (x_at (by omega) rfl) rfl rfl h2 (refs_at h3) (pc' := 22) rfl ?_
        refine wm_astore_n (lv' := [(2, .ref (q (200 + x1.toNatClampNeg))), (0, .ref (q 61)), (1, .int x1)]) C dX8_reckonFlows_22 (by decide) rfl (pc' := 23) rfl ?_
        refine wm_aload_n C dX8_reckonFlows_23 1 rfl (pc' := 24) rfl ?_
        refine x_get (v := .ref (q 70)) C dX8_reckonFlows_24 inX8_X8_reckonFlows 2 (by omega) rfl rfl 4 (by decide) (by decide +kernel) (Or.inl rfl) rfl (pc' := 27) rfl ?_
        refine wm_iload_n C dX8_reckonFlows_27 2 rfl (pc' := 28) rfl ?_
        refine wm_aload_n C dX8_reckonFlows_28 0 rfl (pc' := 29) rfl ?_
        obtain ⟨h7, hf⟩ := chk_s hf
        obtain ⟨r4, s5, h6, hf⟩ := bnd_s hf
        have K8 : WM l D Γ 3 0 0 (xW τ q nc s5) 32 [(2, .ref (q (200 + x1.toNatClampNeg))), (0, .ref (q 61)), (1, .int x1)] [.int r4, .int x1, .ref (q 70)] := by
          refine wm_i2l C dX8_reckonFlows_32 (pc' := 33) rfl ?_
          refine wm_aload_n C dX8_reckonFlows_33 1 rfl (pc' := 34) rfl ?_
          refine x_get (v := .ref (q 69)) C dX8_reckonFlows_34 inX8_X8_reckonFlows 2 (by omega) rfl rfl 3 (by decide) (by decide +kernel) (Or.inl rfl) rfl (pc' := 37) rfl ?_
          refine wm_aload_n C dX8_reckonFlows_37 0 rfl (pc' := 38) rfl ?_
          obtain ⟨h9, hf⟩ := chk_s hf
          refine x_getC (ref := "WideningCracks$Crack") (v := .int (gA s5 5 x1.toNatClampNeg)) C dX8_reckonFlows_38 in5_X8_reckonFlows h9 0 (by decide) (by decide +kernel) (Or.inl rfl) rfl (pc' := 41) rfl ?_
          obtain ⟨h10, hf⟩ := chk_s hf
          refine wm_lald (f := gB s5 69) (N := 6) (cA := τ.2.1) C dX8_reckonFlows_41 13 (x_at (by omega) rfl) rfl h10 (pc' := 42) rfl ?_
          refine wm_aload_n C dX8_reckonFlows_42 1 rfl (pc' := 43) rfl ?_
          refine x_get (v := .ref (q 69)) C dX8_reckonFlows_43 inX8_X8_reckonFlows 2 (by omega) rfl rfl 3 (by decide) (by decide +kernel) (Or.inl rfl) rfl (pc' := 46) rfl ?_
          refine wm_aload_n C dX8_reckonFlows_46 0 rfl (pc' := 47) rfl ?_
          obtain ⟨h11, hf⟩ := chk_s hf
          refine x_getC (ref := "WideningCracks$Crack") (v := .int (gA s5 6 x1.toNatClampNeg)) C dX8_reckonFlows_47 in5_X8_reckonFlows h11 1 (by decide) (by decide +kernel) (Or.inl rfl) rfl (pc' := 50) rfl ?_
          obtain ⟨h12, hf⟩ := chk_s hf
          refine wm_lald (f := gB s5 69) (N := 6) (cA := τ.2.1) C dX8_reckonFlows_50 13 (x_at (by omega) rfl) rfl h12 (pc' := 51) rfl ?_
          refine wm_lsub C dX8_reckonFlows_51 (pc' := 52) rfl ?_
          refine wm_lmul C dX8_reckonFlows_52 (pc' := 53) rfl ?_
          obtain ⟨h13, hf⟩ := chk_s hf
          obtain ⟨s14, e15, hf⟩ := lets_s hf
          refine wm_last (f := gB s5 70) (N := 12) (cA := τ.2.1) C dX8_reckonFlows_53 14 (x_at (by omega) rfl) rfl h13 (Wd' := xW τ q nc s14) (xW_set (e15 ▸ xC_B70) (by rw [e15]; rfl)) (pc' := 54) rfl ?_
          refine wm_iinc (v := x1 + 1) (lv' := [(1, .int (x1 + 1)), (2, .ref (q (200 + x1.toNatClampNeg))), (0, .ref (q 61))]) C dX8_reckonFlows_54 2 rfl rfl (by decide) rfl (pc' := 57) rfl ?_
          refine wm_goto C dX8_reckonFlows_57 2 (by decide) ?_
          refine wm_sub (lv' := [(0, .ref (q 61)), (1, .int (x1 + 1))]) [2, 0] rfl ?_
          exact ih (x1 + 1) s14 _ _ hf hE
        unfold vX_lets at h6
        rcases kci5 (gA s 7 x1.toNatClampNeg) with ⟨k1, kk⟩ | ⟨n1, k2, kk⟩ | ⟨n1, n2, k3, kk⟩ | ⟨n1, n2, n3, k4, kk⟩ | ⟨n1, n2, n3, n4, kk⟩
        · exact wm_callC (nn := 0) (As := []) (rest := [.int x1, .ref (q 70)]) (st' := [.int r4, .int x1, .ref (q 70)]) C dX8_reckonFlows_29 (kX10_lets l D τ q nc x1.toNatClampNeg s r4 s5 (ite_t k1 h6)) (cw_O gX8_reckonFlows_X10_lets_u121X10 rfl (b0 := cX2_lets) (m0 := 1) (r0 := (some .int)) (by decide +kernel) (by decide +kernel) ⟨Nat.le_of_ble_eq_true rfl, Nat.le_of_ble_eq_true rfl⟩) rfl rfl ⟨Nat.zero_le _, Nat.zero_le _⟩ (49 + x1.toNatClampNeg) (x_crackAt h7 kk) rfl rfl rfl (Nat.le_of_ble_eq_true rfl) rfl (pc' := 32) rfl K8
        · exact wm_callC (nn := 0) (As := []) (rest := [.int x1, .ref (q 70)]) (st' := [.int r4, .int x1, .ref (q 70)]) C dX8_reckonFlows_29 (kX2_lets l D τ q nc x1.toNatClampNeg s r4 s5 (ite_t k2 (ite_f n1 h6))) (cw_U gX8_reckonFlows_X2_lets_u121X0 rfl rfl (by decide +kernel) ⟨Nat.le_of_ble_eq_true rfl, Nat.le_of_ble_eq_true rfl⟩) rfl rfl ⟨Nat.zero_le _, Nat.zero_le _⟩ (49 + x1.toNatClampNeg) (x_crackAt h7 kk) rfl rfl rfl (Nat.le_of_ble_eq_true rfl) rfl (pc' := 32) rfl K8
        · exact wm_callC (nn := 0) (As := []) (rest := [.int x1, .ref (q 70)]) (st' := [.int r4, .int x1, .ref (q 70)]) C dX8_reckonFlows_29 (kX10_lets l D τ q nc x1.toNatClampNeg s r4 s5 (ite_t k3 (ite_f n2 (ite_f n1 h6)))) (cw_O gX8_reckonFlows_X10_lets_u121X3 rfl (b0 := cX2_lets) (m0 := 1) (r0 := (some .int)) (by decide +kernel) (by decide +kernel) ⟨Nat.le_of_ble_eq_true rfl, Nat.le_of_ble_eq_true rfl⟩) rfl rfl ⟨Nat.zero_le _, Nat.zero_le _⟩ (49 + x1.toNatClampNeg) (x_crackAt h7 kk) rfl rfl rfl (Nat.le_of_ble_eq_true rfl) rfl (pc' := 32) rfl K8
        · exact wm_callC (nn := 0) (As := []) (rest := [.int x1, .ref (q 70)]) (st' := [.int r4, .int x1, .ref (q 70)]) C dX8_reckonFlows_29 (kX10_lets l D τ q nc x1.toNatClampNeg s r4 s5 (ite_t k4 (ite_f n3 (ite_f n2 (ite_f n1 h6))))) (cw_O gX8_reckonFlows_X10_lets_u121X7 rfl (b0 := cX2_lets) (m0 := 1) (r0 := (some .int)) (by decide +kernel) (by decide +kernel) ⟨Nat.le_of_ble_eq_true rfl, Nat.le_of_ble_eq_true rfl⟩) rfl rfl ⟨Nat.zero_le _, Nat.zero_le _⟩ (49 + x1.toNatClampNeg) (x_crackAt h7 kk) rfl rfl rfl (Nat.le_of_ble_eq_true rfl) rfl (pc' := 32) rfl K8
        · exact wm_callVd (nn := 0) (As := []) (rest := [.int x1, .ref (q 70)]) (st' := [.int r4, .int x1, .ref (q 70)]) C dX8_reckonFlows_29 (kX2_lets l D τ q nc x1.toNatClampNeg s r4 s5 (ite_f n4 (ite_f n3 (ite_f n2 (ite_f n1 h6))))) gX8_reckonFlows_X2_lets rfl (by decide +kernel) ⟨Nat.le_of_ble_eq_true rfl, Nat.le_of_ble_eq_true rfl⟩ rfl rfl ⟨Nat.zero_le _, Nat.zero_le _⟩ (49 + x1.toNatClampNeg) (x_crackAt h7 kk) rfl rfl rfl (Nat.le_of_ble_eq_true rfl) rfl (pc' := 32) rfl K8
  refine wm_ikonst (v := 0) C dX8_reckonFlows_0 (by decide) (pc' := 1) rfl ?_
  refine wm_istore_n (lv' := [(1, .int 0), (0, .ref (q 61))]) C dX8_reckonFlows_1 (by decide) rfl (pc' := 2) rfl ?_
  refine wm_sub (lv' := [(0, .ref (q 61)), (1, .int 0)]) [1, 0] rfl ?_
  obtain ⟨v16, s17, h18, hf⟩ := bnd_s hf
  refine wL_2 FU 0 σ v16 s17 h18 ?_
  obtain ⟨-, rfl⟩ := leaf_s hf
  exact wm_vret C dX8_reckonFlows_60 (Nat.zero_le _) (Nat.zero_le _) FD.rf
def fX8_settle (nc : Nat) (σ : MS) : Option (Unit × MS) :=
  if ¬ (gI σ 53) = (gI σ 50) then lets (sI σ 53 (gI σ 50)) (fun s2 => bnd (fX5_heldOnes nc s2) (fun r4 s5 => bnd (fX5_reachedFrom nc r4 1 s5) (fun r7 s8 => lets (sI s8 51 r7) (fun s10 => lets (sI s10 52 ((gI s10 51) &&& (r4 ^^^ (-1)))) (fun s12 => bnd (fX8_writeRows nc s12) (fun r14 s15 => bnd (fX8_solveRows nc s15) (fun r17 s18 => bnd (fX8_reckonFlows nc s18) (fun r20 s21 => some ((), s21))))))))) else some ((), σ)
theorem inX5_X8_settle : ∀ w ∈ wsX50, w ∈ wsX8_settle := by decide +kernel
theorem inX8_X8_settle : ∀ w ∈ wsX80, w ∈ wsX8_settle := by decide +kernel
set_option maxHeartbeats 4000000 in
set_option maxRecDepth 100000 in
theorem kX8_settle (l : Launch) (D : va_G) (τ : CId) (q : Nat → Nat) (nc : Nat) (σ : MS) (sE : MS) (hf : fX8_settle nc σ = some ((), sE)) : Ct l D τ yX8_settle wsX8_settle { frames := 2, cells := 0, slots := 0, locals := 51 } [.ref (q 61)] (xW τ q nc σ) (FD (xW τ q nc sE) none) := by
  unfold fX8_settle at hf
  refine ct_of (cc := cX8_settle) (maxL := 2) (ret := none) (by decide) rfl (Nat.le_of_ble_eq_true rfl) (fun Γ C => ?_)
  refine wm_lv (lv' := [(0, .ref (q 61))]) rfl ?_
  refine wm_aload_n C dX8_settle_0 0 rfl (pc' := 1) rfl ?_
  refine x_get (v := .int (gI σ 53)) C dX8_settle_1 inX8_X8_settle 2 (by omega) rfl rfl 8 (by decide) (by decide +kernel) (Or.inl rfl) rfl (pc' := 4) rfl ?_
  refine wm_aload_n C dX8_settle_4 0 rfl (pc' := 5) rfl ?_
  refine x_get (v := .ref (q 60)) C dX8_settle_5 inX8_X8_settle 2 (by omega) rfl rfl 0 (by decide) (by decide +kernel) (Or.inl rfl) rfl (pc' := 8) rfl ?_
  refine x_get (v := .int (gI σ 50)) C dX8_settle_8 inX5_X8_settle 1 (by omega) rfl rfl 6 (by decide) (by decide +kernel) (Or.inl rfl) rfl (pc' := 11) rfl ?_
  refine wm_icmp_ne C dX8_settle_11 15 (by decide) (pc' := 14) rfl (fun h1 => ?_) (fun h1 => ?_)
  · have hf := ite_t h1 hf
    refine wm_aload_n C dX8_settle_15 0 rfl (pc' := 16) rfl ?_
    refine wm_aload_n C dX8_settle_16 0 rfl (pc' := 17) rfl ?_
    refine x_get (v := .ref (q 60)) C dX8_settle_17 inX8_X8_settle 2 (by omega) rfl rfl 0 (by decide) (by decide +kernel) (Or.inl rfl) rfl (pc' := 20) rfl ?_
    refine x_get (v := .int (gI σ 50)) C dX8_settle_20 inX5_X8_settle 1 (by omega) rfl rfl 6 (by decide) (by decide +kernel) (Or.inl rfl) rfl (pc' := 23) rfl ?_
    obtain ⟨s2, e3, hf⟩ := lets_s hf
    refine x_put (σ' := s2) C dX8_settle_23 inX8_X8_settle tyX8 tyX8_ok nmX8 2 (by omega) rfl rfl 8 (by decide) (by decide +kernel) (Or.inl rfl) rfl rfl rfl rfl (Nat.le_of_ble_eq_true rfl) (e3 ▸ xC_I53) (e3 ▸ rfl) (pc' := 26) rfl ?_
    refine wm_aload_n C dX8_settle_26 0 rfl (pc' := 27) rfl ?_
    refine x_get (v := .ref (q 60)) C dX8_settle_27 inX8_X8_settle 2 (by omega) rfl rfl 0 (by decide) (by decide +kernel) (Or.inl rfl) rfl (pc' := 30) rfl ?_
    obtain ⟨r4, s5, h6, hf⟩ := bnd_s hf
    refine wm_callVd (nn := 0) (As := []) (rest := []) (st' := [.int r4]) C dX8_settle_30 (kX5_heldOnes l D τ q nc s2 r4 s5 h6) gX8_settle_X5_heldOnes rfl (by decide +kernel) ⟨Nat.le_of_ble_eq_true rfl, Nat.le_of_ble_eq_true rfl⟩ rfl rfl ⟨Nat.zero_le _, Nat.zero_le _⟩ 1 (x_at (by omega) rfl) rfl rfl rfl (Nat.le_of_ble_eq_true rfl) rfl (pc' := 33) rfl ?_
    refine wm_istore_n (lv' := [(1, .int r4), (0, .ref (q 61))]) C dX8_settle_33 (by decide) rfl (pc' := 34) rfl ?_
    refine wm_aload_n C dX8_settle_34 1 rfl (pc' := 35) rfl ?_
    refine wm_aload_n C dX8_settle_35 1 rfl (pc' := 36) rfl ?_
    refine x_get (v := .ref (q 60)) C dX8_settle_36 inX8_X8_settle 2 (by omega) rfl rfl 0 (by decide) (by decide +kernel) (Or.inl rfl) rfl (pc' := 39) rfl ?_
    refine wm_iload_n C dX8_settle_39 0 rfl (pc' := 40) rfl ?_
    refine wm_ikonst (v := 1) C dX8_settle_40 (by decide) (pc' := 41) rfl ?_
    obtain ⟨r7, s8, h9, hf⟩ := bnd_s hf
    refine wm_callVd (nn := 2) (As := [.int r4, .int 1]) (rest := [.ref (q 61)]) (st' := [.int r7, .ref (q 61)]) C dX8_settle_41 (kX5_reachedFrom l D τ q nc s5 r4 1 r7 s8 h9) gX8_settle_X5_reachedFrom rfl (by decide +kernel) ⟨Nat.le_of_ble_eq_true rfl, Nat.le_of_ble_eq_true rfl⟩ rfl rfl ⟨Nat.zero_le _, Nat.zero_le _⟩ 1 (x_at (by omega) rfl) rfl rfl rfl (Nat.le_of_ble_eq_true rfl) rfl (pc' := 44) rfl ?_
    obtain ⟨s10, e11, hf⟩ := lets_s hf
    refine x_put (σ' := s10) C dX8_settle_44 inX8_X8_settle tyX8 tyX8_ok nmX8 2 (by omega) rfl rfl 6 (by decide) (by decide +kernel) (Or.inl rfl) rfl rfl rfl rfl (Nat.le_of_ble_eq_true rfl) (e11 ▸ xC_I51) (e11 ▸ rfl) (pc' := 47) rfl ?_
    refine wm_aload_n C dX8_settle_47 1 rfl (pc' := 48) rfl ?_
    refine wm_aload_n C dX8_settle_48 1 rfl (pc' := 49) rfl ?_
    refine x_get (v := .int (gI s10 51)) C dX8_settle_49 inX8_X8_settle 2 (by omega) rfl rfl 6 (by decide) (by decide +kernel) (Or.inl rfl) rfl (pc' := 52) rfl ?_
    refine wm_iload_n C dX8_settle_52 0 rfl (pc' := 53) rfl ?_
    refine wm_ikonst (v := (-1)) C dX8_settle_53 (by decide) (pc' := 54) rfl ?_
    refine wm_ixor C dX8_settle_54 (pc' := 55) rfl ?_
    refine wm_iand C dX8_settle_55 (pc' := 56) rfl ?_
    obtain ⟨s12, e13, hf⟩ := lets_s hf
    refine x_put (σ' := s12) C dX8_settle_56 inX8_X8_settle tyX8 tyX8_ok nmX8 2 (by omega) rfl rfl 7 (by decide) (by decide +kernel) (Or.inl rfl) rfl rfl rfl rfl (Nat.le_of_ble_eq_true rfl) (e13 ▸ xC_I52) (e13 ▸ rfl) (pc' := 59) rfl ?_
    refine wm_aload_n C dX8_settle_59 1 rfl (pc' := 60) rfl ?_
    obtain ⟨r14, s15, h16, hf⟩ := bnd_s hf
    refine wm_callVd (nn := 0) (As := []) (rest := []) (st' := []) C dX8_settle_60 (kX8_writeRows l D τ q nc s12 s15 h16) gX8_settle_X8_writeRows rfl (by decide +kernel) ⟨Nat.le_of_ble_eq_true rfl, Nat.le_of_ble_eq_true rfl⟩ rfl rfl ⟨Nat.zero_le _, Nat.zero_le _⟩ 2 (x_at (by omega) rfl) rfl rfl rfl (Nat.le_of_ble_eq_true rfl) rfl (pc' := 63) rfl ?_
    refine wm_aload_n C dX8_settle_63 1 rfl (pc' := 64) rfl ?_
    obtain ⟨r17, s18, h19, hf⟩ := bnd_s hf
    refine wm_callVd (nn := 0) (As := []) (rest := []) (st' := []) C dX8_settle_64 (kX8_solveRows l D τ q nc s15 s18 h19) gX8_settle_X8_solveRows rfl (by decide +kernel) ⟨Nat.le_of_ble_eq_true rfl, Nat.le_of_ble_eq_true rfl⟩ rfl rfl ⟨Nat.zero_le _, Nat.zero_le _⟩ 2 (x_at (by omega) rfl) rfl rfl rfl (Nat.le_of_ble_eq_true rfl) rfl (pc' := 67) rfl ?_
    refine wm_aload_n C dX8_settle_67 1 rfl (pc' := 68) rfl ?_
    obtain ⟨r20, s21, h22, hf⟩ := bnd_s hf
    refine wm_callVd (nn := 0) (As := []) (rest := []) (st' := []) C dX8_settle_68 (kX8_reckonFlows l D τ q nc s18 s21 h22) gX8_settle_X8_reckonFlows rfl (by decide +kernel) ⟨Nat.le_of_ble_eq_true rfl, Nat.le_of_ble_eq_true rfl⟩ rfl rfl ⟨Nat.zero_le _, Nat.zero_le _⟩ 2 (x_at (by omega) rfl) rfl rfl rfl (Nat.le_of_ble_eq_true rfl) rfl (pc' := 71) rfl ?_
    obtain ⟨-, rfl⟩ := leaf_s hf
    exact wm_vret C dX8_settle_71 (Nat.zero_le _) (Nat.zero_le _) FD.rf
  · have hf := ite_f (fun h => h h1) hf
    obtain ⟨-, rfl⟩ := leaf_s hf
    exact wm_vret C dX8_settle_14 (Nat.zero_le _) (Nat.zero_le _) FD.rf
def fX8_isDry (nc : Nat) (x1 : Int32) (σ : MS) : Option (Int32 × MS) :=
  bnd (fX8_settle nc σ) (fun r1 s2 => if ¬ (((gI s2 51) >>> (x1 &&& 31)) &&& 1) = 0 then some (0, s2) else some (1, s2))
theorem inX8_X8_isDry : ∀ w ∈ wsX80, w ∈ wsX8_isDry := by decide +kernel
set_option maxHeartbeats 4000000 in
set_option maxRecDepth 100000 in
theorem kX8_isDry (l : Launch) (D : va_G) (τ : CId) (q : Nat → Nat) (nc : Nat) (σ : MS) (x1 : Int32) (rE : Int32) (sE : MS) (hf : fX8_isDry nc x1 σ = some (rE, sE)) : Ct l D τ yX8_isDry wsX8_isDry { frames := 3, cells := 0, slots := 0, locals := 72 } [.ref (q 61), .int x1] (xW τ q nc σ) (FD (xW τ q nc sE) (some (.int rE))) := by
  unfold fX8_isDry at hf
  refine ct_of (cc := cX8_isDry) (maxL := 2) (ret := (some .boolean)) (by decide) rfl (Nat.le_of_ble_eq_true rfl) (fun Γ C => ?_)
  refine wm_lv (lv' := [(0, .ref (q 61)), (1, .int x1)]) rfl ?_
  refine wm_aload_n C dX8_isDry_0 0 rfl (pc' := 1) rfl ?_
  obtain ⟨r1, s2, h3, hf⟩ := bnd_s hf
  refine wm_callVd (nn := 0) (As := []) (rest := []) (st' := []) C dX8_isDry_1 (kX8_settle l D τ q nc σ s2 h3) gX8_isDry_X8_settle rfl (by decide +kernel) ⟨Nat.le_of_ble_eq_true rfl, Nat.le_of_ble_eq_true rfl⟩ rfl rfl ⟨Nat.zero_le _, Nat.zero_le _⟩ 2 (x_at (by omega) rfl) rfl rfl rfl (Nat.le_of_ble_eq_true rfl) rfl (pc' := 4) rfl ?_
  refine wm_aload_n C dX8_isDry_4 0 rfl (pc' := 5) rfl ?_
  refine x_get (v := .int (gI s2 51)) C dX8_isDry_5 inX8_X8_isDry 2 (by omega) rfl rfl 6 (by decide) (by decide +kernel) (Or.inl rfl) rfl (pc' := 8) rfl ?_
  refine wm_iload_n C dX8_isDry_8 1 rfl (pc' := 9) rfl ?_
  refine wm_ishr C dX8_isDry_9 (pc' := 10) rfl ?_
  refine wm_ikonst (v := 1) C dX8_isDry_10 (by decide) (pc' := 11) rfl ?_
  refine wm_iand C dX8_isDry_11 (pc' := 12) rfl ?_
  refine wm_if_ne C dX8_isDry_12 19 (by decide) (pc' := 15) rfl (fun h4 => ?_) (fun h4 => ?_)
  · have hf := ite_t h4 hf
    refine wm_ikonst (v := 0) C dX8_isDry_19 (by decide) (pc' := 20) rfl ?_
    obtain ⟨rfl, rfl⟩ := leaf_s hf
    exact wm_zret C dX8_isDry_20 (by decide) (Nat.zero_le _) (Nat.zero_le _) FD.rf
  · have hf := ite_f (fun h => h h4) hf
    refine wm_ikonst (v := 1) C dX8_isDry_15 (by decide) (pc' := 16) rfl ?_
    refine wm_goto C dX8_isDry_16 20 (by decide) ?_
    obtain ⟨rfl, rfl⟩ := leaf_s hf
    exact wm_zret C dX8_isDry_20 (by decide) (Nat.zero_le _) (Nat.zero_le _) FD.rf
def fX8_dryCount (nc : Nat) (σ : MS) : Option (Int32 × MS) :=
  bnd (fX8_settle nc σ) (fun r1 s2 => bnd (fJ6_bitCount_0f7a4 (gI s2 51)) (fun r4 u5 => some ((gI s2 1) - r4, s2)))
theorem inX5_X8_dryCount : ∀ w ∈ wsX50, w ∈ wsX8_dryCount := by decide +kernel
theorem inX8_X8_dryCount : ∀ w ∈ wsX80, w ∈ wsX8_dryCount := by decide +kernel
set_option maxHeartbeats 4000000 in
set_option maxRecDepth 100000 in
theorem kX8_dryCount (l : Launch) (D : va_G) (τ : CId) (q : Nat → Nat) (nc : Nat) (σ : MS) (rE : Int32) (sE : MS) (hf : fX8_dryCount nc σ = some (rE, sE)) : Ct l D τ yX8_dryCount wsX8_dryCount { frames := 3, cells := 0, slots := 0, locals := 72 } [.ref (q 61)] (xW τ q nc σ) (FD (xW τ q nc sE) (some (.int rE))) := by
  unfold fX8_dryCount at hf
  refine ct_of (cc := cX8_dryCount) (maxL := 1) (ret := (some .int)) (by decide) rfl (Nat.le_of_ble_eq_true rfl) (fun Γ C => ?_)
  refine wm_lv (lv' := [(0, .ref (q 61))]) rfl ?_
  refine wm_aload_n C dX8_dryCount_0 0 rfl (pc' := 1) rfl ?_
  obtain ⟨r1, s2, h3, hf⟩ := bnd_s hf
  refine wm_callVd (nn := 0) (As := []) (rest := []) (st' := []) C dX8_dryCount_1 (kX8_settle l D τ q nc σ s2 h3) gX8_dryCount_X8_settle rfl (by decide +kernel) ⟨Nat.le_of_ble_eq_true rfl, Nat.le_of_ble_eq_true rfl⟩ rfl rfl ⟨Nat.zero_le _, Nat.zero_le _⟩ 2 (x_at (by omega) rfl) rfl rfl rfl (Nat.le_of_ble_eq_true rfl) rfl (pc' := 4) rfl ?_
  refine wm_aload_n C dX8_dryCount_4 0 rfl (pc' := 5) rfl ?_
  refine x_get (v := .ref (q 60)) C dX8_dryCount_5 inX8_X8_dryCount 2 (by omega) rfl rfl 0 (by decide) (by decide +kernel) (Or.inl rfl) rfl (pc' := 8) rfl ?_
  refine x_get (v := .int (gI s2 1)) C dX8_dryCount_8 inX5_X8_dryCount 1 (by omega) rfl rfl 3 (by decide) (by decide +kernel) (Or.inl rfl) rfl (pc' := 11) rfl ?_
  refine wm_aload_n C dX8_dryCount_11 0 rfl (pc' := 12) rfl ?_
  refine x_get (v := .int (gI s2 51)) C dX8_dryCount_12 inX8_X8_dryCount 2 (by omega) rfl rfl 6 (by decide) (by decide +kernel) (Or.inl rfl) rfl (pc' := 15) rfl ?_
  obtain ⟨r4, u5, h6, hf⟩ := bnd_s hf
  refine wm_callSd (nn := 1) (As := [.int (gI s2 51)]) (rest := [.int (gI s2 1)]) (st' := [.int r4, .int (gI s2 1)]) C dX8_dryCount_15 (kJ6_bitCount_0f7a4 l D τ (gI s2 51) r4 h6) gX8_dryCount_J6_bitCount_0f7a4 rfl (by decide +kernel) ⟨Nat.le_of_ble_eq_true rfl, Nat.le_of_ble_eq_true rfl⟩ rfl rfl ⟨Nat.zero_le _, Nat.zero_le _⟩ rfl rfl (Nat.le_of_ble_eq_true rfl) rfl (pc' := 18) rfl ?_
  refine wm_isub C dX8_dryCount_18 (pc' := 19) rfl ?_
  obtain ⟨rfl, rfl⟩ := leaf_s hf
  exact wm_iret C dX8_dryCount_19 (Nat.zero_le _) (Nat.zero_le _) FD.rf
def fX8_headPart (nc : Nat) (x1 : Int32) (x2 : Int32) (σ : MS) : Option (Int64 × MS) :=
  bnd (fX8_settle nc σ) (fun r1 s2 => if ¬ (x1 < 0 ∨ 6 ≤ x1.toNatClampNeg) then bnd (fX11_partOf (gB s2 69 x1.toNatClampNeg) (gL s2) x2) (fun r5 u6 => some (r5, s2)) else none)
theorem inX8_X8_headPart : ∀ w ∈ wsX80, w ∈ wsX8_headPart := by decide +kernel
set_option maxHeartbeats 4000000 in
set_option maxRecDepth 100000 in
theorem kX8_headPart (l : Launch) (D : va_G) (τ : CId) (q : Nat → Nat) (nc : Nat) (σ : MS) (x1 : Int32) (x2 : Int32) (rE : Int64) (sE : MS) (hf : fX8_headPart nc x1 x2 σ = some (rE, sE)) : Ct l D τ yX8_headPart wsX8_headPart { frames := 3, cells := 0, slots := 0, locals := 72 } [.ref (q 61), .int x1, .int x2] (xW τ q nc σ) (FD (xW τ q nc sE) (some (.long rE))) := by
  unfold fX8_headPart at hf
  refine ct_of (cc := cX8_headPart) (maxL := 3) (ret := (some .long)) (by decide) rfl (Nat.le_of_ble_eq_true rfl) (fun Γ C => ?_)
  refine wm_lv (lv' := [(0, .ref (q 61)), (1, .int x1), (2, .int x2)]) rfl ?_
  refine wm_aload_n C dX8_headPart_0 0 rfl (pc' := 1) rfl ?_
  obtain ⟨r1, s2, h3, hf⟩ := bnd_s hf
  refine wm_callVd (nn := 0) (As := []) (rest := []) (st' := []) C dX8_headPart_1 (kX8_settle l D τ q nc σ s2 h3) gX8_headPart_X8_settle rfl (by decide +kernel) ⟨Nat.le_of_ble_eq_true rfl, Nat.le_of_ble_eq_true rfl⟩ rfl rfl ⟨Nat.zero_le _, Nat.zero_le _⟩ 2 (x_at (by omega) rfl) rfl rfl rfl (Nat.le_of_ble_eq_true rfl) rfl (pc' := 4) rfl ?_
  refine wm_aload_n C dX8_headPart_4 0 rfl (pc' := 5) rfl ?_
  refine x_get (v := .ref (q 69)) C dX8_headPart_5 inX8_X8_headPart 2 (by omega) rfl rfl 3 (by decide) (by decide +kernel) (Or.inl rfl) rfl (pc' := 8) rfl ?_
  refine wm_iload_n C dX8_headPart_8 1 rfl (pc' := 9) rfl ?_
  obtain ⟨h4, hf⟩ := chk_s hf
  refine wm_lald (f := gB s2 69) (N := 6) (cA := τ.2.1) C dX8_headPart_9 13 (x_at (by omega) rfl) rfl h4 (pc' := 10) rfl ?_
  refine wm_aload_n C dX8_headPart_10 0 rfl (pc' := 11) rfl ?_
  refine x_get (v := .long (gL s2)) C dX8_headPart_11 inX8_X8_headPart 2 (by omega) rfl rfl 5 (by decide) (by decide +kernel) (Or.inl rfl) rfl (pc' := 14) rfl ?_
  refine wm_iload_n C dX8_headPart_14 2 rfl (pc' := 15) rfl ?_
  obtain ⟨r5, u6, h7, hf⟩ := bnd_s hf
  refine wm_callSN (nn := 3) (As := [.long (gB s2 69 x1.toNatClampNeg), .long (gL s2), .int x2]) (rest := []) (st' := [.long r5]) C dX8_headPart_15 (kX11_partOf l D τ (gB s2 69 x1.toNatClampNeg) (gL s2) x2 r5 h7) gX8_headPart_X11_partOf_n55 rfl (by decide +kernel) (by decide +kernel) (by decide +kernel) (by decide +kernel) ⟨Nat.le_of_ble_eq_true rfl, Nat.le_of_ble_eq_true rfl⟩ rfl rfl ⟨Nat.zero_le _, Nat.zero_le _⟩ rfl rfl (Nat.le_of_ble_eq_true rfl) rfl (pc' := 18) rfl ?_
  obtain ⟨rfl, rfl⟩ := leaf_s hf
  exact wm_lret C dX8_headPart_18 (Nat.zero_le _) (Nat.zero_le _) FD.rf
def fX8_flowPart (nc : Nat) (x1 : Int32) (x2 : Int32) (σ : MS) : Option (Int64 × MS) :=
  bnd (fX8_settle nc σ) (fun r1 s2 => if ¬ (x1 < 0 ∨ 12 ≤ x1.toNatClampNeg) then bnd (fX11_partOf (gB s2 70 x1.toNatClampNeg) (gL s2) x2) (fun r5 u6 => some (r5, s2)) else none)
theorem inX8_X8_flowPart : ∀ w ∈ wsX80, w ∈ wsX8_flowPart := by decide +kernel
set_option maxHeartbeats 4000000 in
set_option maxRecDepth 100000 in
theorem kX8_flowPart (l : Launch) (D : va_G) (τ : CId) (q : Nat → Nat) (nc : Nat) (σ : MS) (x1 : Int32) (x2 : Int32) (rE : Int64) (sE : MS) (hf : fX8_flowPart nc x1 x2 σ = some (rE, sE)) : Ct l D τ yX8_flowPart wsX8_flowPart { frames := 3, cells := 0, slots := 0, locals := 72 } [.ref (q 61), .int x1, .int x2] (xW τ q nc σ) (FD (xW τ q nc sE) (some (.long rE))) := by
  unfold fX8_flowPart at hf
  refine ct_of (cc := cX8_flowPart) (maxL := 3) (ret := (some .long)) (by decide) rfl (Nat.le_of_ble_eq_true rfl) (fun Γ C => ?_)
  refine wm_lv (lv' := [(0, .ref (q 61)), (1, .int x1), (2, .int x2)]) rfl ?_
  refine wm_aload_n C dX8_flowPart_0 0 rfl (pc' := 1) rfl ?_
  obtain ⟨r1, s2, h3, hf⟩ := bnd_s hf
  refine wm_callVd (nn := 0) (As := []) (rest := []) (st' := []) C dX8_flowPart_1 (kX8_settle l D τ q nc σ s2 h3) gX8_flowPart_X8_settle rfl (by decide +kernel) ⟨Nat.le_of_ble_eq_true rfl, Nat.le_of_ble_eq_true rfl⟩ rfl rfl ⟨Nat.zero_le _, Nat.zero_le _⟩ 2 (x_at (by omega) rfl) rfl rfl rfl (Nat.le_of_ble_eq_true rfl) rfl (pc' := 4) rfl ?_
  refine wm_aload_n C dX8_flowPart_4 0 rfl (pc' := 5) rfl ?_
  refine x_get (v := .ref (q 70)) C dX8_flowPart_5 inX8_X8_flowPart 2 (by omega) rfl rfl 4 (by decide) (by decide +kernel) (Or.inl rfl) rfl (pc' := 8) rfl ?_
  refine wm_iload_n C dX8_flowPart_8 1 rfl (pc' := 9) rfl ?_
  obtain ⟨h4, hf⟩ := chk_s hf
  refine wm_lald (f := gB s2 70) (N := 12) (cA := τ.2.1) C dX8_flowPart_9 14 (x_at (by omega) rfl) rfl h4 (pc' := 10) rfl ?_
  refine wm_aload_n C dX8_flowPart_10 0 rfl (pc' := 11) rfl ?_
  refine x_get (v := .long (gL s2)) C dX8_flowPart_11 inX8_X8_flowPart 2 (by omega) rfl rfl 5 (by decide) (by decide +kernel) (Or.inl rfl) rfl (pc' := 14) rfl ?_
  refine wm_iload_n C dX8_flowPart_14 2 rfl (pc' := 15) rfl ?_
  obtain ⟨r5, u6, h7, hf⟩ := bnd_s hf
  refine wm_callSN (nn := 3) (As := [.long (gB s2 70 x1.toNatClampNeg), .long (gL s2), .int x2]) (rest := []) (st' := [.long r5]) C dX8_flowPart_15 (kX11_partOf l D τ (gB s2 70 x1.toNatClampNeg) (gL s2) x2 r5 h7) gX8_flowPart_X11_partOf_n55 rfl (by decide +kernel) (by decide +kernel) (by decide +kernel) (by decide +kernel) ⟨Nat.le_of_ble_eq_true rfl, Nat.le_of_ble_eq_true rfl⟩ rfl rfl ⟨Nat.zero_le _, Nat.zero_le _⟩ rfl rfl (Nat.le_of_ble_eq_true rfl) rfl (pc' := 18) rfl ?_
  obtain ⟨rfl, rfl⟩ := leaf_s hf
  exact wm_lret C dX8_flowPart_18 (Nat.zero_le _) (Nat.zero_le _) FD.rf
def fX8_inflowPart (nc : Nat) (x1 : Int32) (x2 : Int32) (σ : MS) : Option (Int64 × MS) :=
  bnd (fX8_settle nc σ) (fun r1 s2 => bnd (fX8_inflowUpper nc x1 s2) (fun r4 s5 => bnd (fX11_partOf r4 (gL s5) x2) (fun r7 u8 => some (r7, s5))))
theorem inX8_X8_inflowPart : ∀ w ∈ wsX80, w ∈ wsX8_inflowPart := by decide +kernel
set_option maxHeartbeats 4000000 in
set_option maxRecDepth 100000 in
theorem kX8_inflowPart (l : Launch) (D : va_G) (τ : CId) (q : Nat → Nat) (nc : Nat) (σ : MS) (x1 : Int32) (x2 : Int32) (rE : Int64) (sE : MS) (hf : fX8_inflowPart nc x1 x2 σ = some (rE, sE)) : Ct l D τ yX8_inflowPart wsX8_inflowPart { frames := 3, cells := 0, slots := 0, locals := 72 } [.ref (q 61), .int x1, .int x2] (xW τ q nc σ) (FD (xW τ q nc sE) (some (.long rE))) := by
  unfold fX8_inflowPart at hf
  refine ct_of (cc := cX8_inflowPart) (maxL := 3) (ret := (some .long)) (by decide) rfl (Nat.le_of_ble_eq_true rfl) (fun Γ C => ?_)
  refine wm_lv (lv' := [(0, .ref (q 61)), (1, .int x1), (2, .int x2)]) rfl ?_
  refine wm_aload_n C dX8_inflowPart_0 0 rfl (pc' := 1) rfl ?_
  obtain ⟨r1, s2, h3, hf⟩ := bnd_s hf
  refine wm_callVd (nn := 0) (As := []) (rest := []) (st' := []) C dX8_inflowPart_1 (kX8_settle l D τ q nc σ s2 h3) gX8_inflowPart_X8_settle rfl (by decide +kernel) ⟨Nat.le_of_ble_eq_true rfl, Nat.le_of_ble_eq_true rfl⟩ rfl rfl ⟨Nat.zero_le _, Nat.zero_le _⟩ 2 (x_at (by omega) rfl) rfl rfl rfl (Nat.le_of_ble_eq_true rfl) rfl (pc' := 4) rfl ?_
  refine wm_aload_n C dX8_inflowPart_4 0 rfl (pc' := 5) rfl ?_
  refine wm_iload_n C dX8_inflowPart_5 1 rfl (pc' := 6) rfl ?_
  obtain ⟨r4, s5, h6, hf⟩ := bnd_s hf
  refine wm_callVd (nn := 1) (As := [.int x1]) (rest := []) (st' := [.long r4]) C dX8_inflowPart_6 (kX8_inflowUpper l D τ q nc s2 x1 r4 s5 h6) gX8_inflowPart_X8_inflowUpper rfl (by decide +kernel) ⟨Nat.le_of_ble_eq_true rfl, Nat.le_of_ble_eq_true rfl⟩ rfl rfl ⟨Nat.zero_le _, Nat.zero_le _⟩ 2 (x_at (by omega) rfl) rfl rfl rfl (Nat.le_of_ble_eq_true rfl) rfl (pc' := 9) rfl ?_
  refine wm_aload_n C dX8_inflowPart_9 0 rfl (pc' := 10) rfl ?_
  refine x_get (v := .long (gL s5)) C dX8_inflowPart_10 inX8_X8_inflowPart 2 (by omega) rfl rfl 5 (by decide) (by decide +kernel) (Or.inl rfl) rfl (pc' := 13) rfl ?_
  refine wm_iload_n C dX8_inflowPart_13 2 rfl (pc' := 14) rfl ?_
  obtain ⟨r7, u8, h9, hf⟩ := bnd_s hf
  refine wm_callSN (nn := 3) (As := [.long r4, .long (gL s5), .int x2]) (rest := []) (st' := [.long r7]) C dX8_inflowPart_14 (kX11_partOf l D τ r4 (gL s5) x2 r7 h9) gX8_inflowPart_X11_partOf_n55 rfl (by decide +kernel) (by decide +kernel) (by decide +kernel) (by decide +kernel) ⟨Nat.le_of_ble_eq_true rfl, Nat.le_of_ble_eq_true rfl⟩ rfl rfl ⟨Nat.zero_le _, Nat.zero_le _⟩ rfl rfl (Nat.le_of_ble_eq_true rfl) rfl (pc' := 17) rfl ?_
  obtain ⟨rfl, rfl⟩ := leaf_s hf
  exact wm_lret C dX8_inflowPart_17 (Nat.zero_le _) (Nat.zero_le _) FD.rf
def fX8_workPart_J55 (nc : Nat) (rec : Int64 → Int32 → MS → Option (Int64 × MS)) (x1 : Int32) (x2 : Int64) (x4 : Int32) (s : MS) : Option (Int64 × MS) :=
  rec x2 (x4 + 1) s
def fX8_workPart_L9 (nc : Nat) (x1 : Int32) : Nat → Int64 → Int32 → MS → Option (Int64 × MS)
  | 0, _, _, _ => none
  | fu + 1, x2, x4, s => if (gI s 1) ≤ x4 then some (x2, s) else if ¬ (x4 < 0 ∨ 6 ≤ x4.toNatClampNeg) then if (gA s 2 x4.toNatClampNeg) = 0 then fX8_workPart_J55 nc (fX8_workPart_L9 nc x1 fu) x1 x2 x4 s else if ¬ (x4 < 0 ∨ 6 ≤ x4.toNatClampNeg) then bnd (fX8_inflowUpper nc x4 s) (fun r8 s9 => fX8_workPart_J55 nc (fX8_workPart_L9 nc x1 fu) x1 (x2 + (((gA s 3 x4.toNatClampNeg).toInt64) * r8)) x4 s9) else none else none
theorem fX8_workPart_L9_s (nc : Nat) (x1 : Int32) (fu : Nat) (x2 : Int64) (x4 : Int32) (s : MS) : fX8_workPart_L9 nc x1 (fu + 1) x2 x4 s = (if (gI s 1) ≤ x4 then some (x2, s) else if ¬ (x4 < 0 ∨ 6 ≤ x4.toNatClampNeg) then if (gA s 2 x4.toNatClampNeg) = 0 then fX8_workPart_J55 nc (fX8_workPart_L9 nc x1 fu) x1 x2 x4 s else if ¬ (x4 < 0 ∨ 6 ≤ x4.toNatClampNeg) then bnd (fX8_inflowUpper nc x4 s) (fun r8 s9 => fX8_workPart_J55 nc (fX8_workPart_L9 nc x1 fu) x1 (x2 + (((gA s 3 x4.toNatClampNeg).toInt64) * r8)) x4 s9) else none else none) := rfl
def fX8_workPart (nc : Nat) (x1 : Int32) (σ : MS) : Option (Int64 × MS) :=
  bnd (fX8_settle nc σ) (fun r1 s2 => bnd (fX8_workPart_L9 nc x1 FU 0 0 s2) (fun v11 s12 => bnd (fX11_partOf v11 (gL s12) x1) (fun r14 u15 => some (r14, s12))))
theorem inX5_X8_workPart : ∀ w ∈ wsX50, w ∈ wsX8_workPart := by decide +kernel
theorem inX8_X8_workPart : ∀ w ∈ wsX80, w ∈ wsX8_workPart := by decide +kernel
set_option maxHeartbeats 4000000 in
set_option maxRecDepth 100000 in
theorem kX8_workPart (l : Launch) (D : va_G) (τ : CId) (q : Nat → Nat) (nc : Nat) (σ : MS) (x1 : Int32) (rE : Int64) (sE : MS) (hf : fX8_workPart nc x1 σ = some (rE, sE)) : Ct l D τ yX8_workPart wsX8_workPart { frames := 3, cells := 0, slots := 0, locals := 72 } [.ref (q 61), .int x1] (xW τ q nc σ) (FD (xW τ q nc sE) (some (.long rE))) := by
  unfold fX8_workPart at hf
  refine ct_of (cc := cX8_workPart) (maxL := 5) (ret := (some .long)) (by decide) rfl (Nat.le_of_ble_eq_true rfl) (fun Γ C => ?_)
  refine wm_lv (lv' := [(0, .ref (q 61)), (1, .int x1)]) rfl ?_
  have wL_9 : ∀ (x1 : Int32) (fu : Nat) (x2 : Int64) (x4 : Int32) (s : MS) (v : Int64) (s' : MS), fX8_workPart_L9 nc x1 fu x2 x4 s = some (v, s') → WM l D Γ 5 0 0 (xW τ q nc s') 61 [(0, .ref (q 61)), (1, .int x1), (2, .long v)] [] → WM l D Γ 5 0 0 (xW τ q nc s) 9 [(0, .ref (q 61)), (1, .int x1), (2, .long x2), (4, .int x4)] [] := by
    intro x1
    intro fu
    induction fu with
    | zero => intro x2 x4 s v s' hf hE; exact absurd hf (fun h => nomatch (show (none : Option _) = some _ from h))
    | succ fu ih =>
      intro x2 x4 s v s' hf hE
      rw [fX8_workPart_L9_s] at hf
      have wJ_55 : ∀ (x2 : Int64) (x4 : Int32) (s : MS) (v : Int64) (s' : MS), fX8_workPart_J55 nc (fX8_workPart_L9 nc x1 fu) x1 x2 x4 s = some (v, s') → WM l D Γ 5 0 0 (xW τ q nc s') 61 [(0, .ref (q 61)), (1, .int x1), (2, .long v)] [] → WM l D Γ 5 0 0 (xW τ q nc s) 55 [(0, .ref (q 61)), (1, .int x1), (2, .long x2), (4, .int x4)] [] := by
        intro x2 x4 s v s' hf hE
        unfold fX8_workPart_J55 at hf
        refine wm_iinc (v := x4 + 1) (lv' := [(4, .int (x4 + 1)), (0, .ref (q 61)), (1, .int x1), (2, .long x2)]) C dX8_workPart_55 3 rfl rfl (by decide) rfl (pc' := 58) rfl ?_
        refine wm_goto C dX8_workPart_58 9 (by decide) ?_
        refine wm_sub (lv' := [(0, .ref (q 61)), (1, .int x1), (2, .long x2), (4, .int (x4 + 1))]) [1, 2, 3, 0] rfl ?_
        exact ih x2 (x4 + 1) s _ _ hf hE
      refine wm_iload C dX8_workPart_9 3 rfl (pc' := 11) rfl ?_
      refine wm_aload_n C dX8_workPart_11 0 rfl (pc' := 12) rfl ?_
      refine x_get (v := .ref (q 60)) C dX8_workPart_12 inX8_X8_workPart 2 (by omega) rfl rfl 0 (by decide) (by decide +kernel) (Or.inl rfl) rfl (pc' := 15) rfl ?_
      refine x_get (v := .int (gI s 1)) C dX8_workPart_15 inX5_X8_workPart 1 (by omega) rfl rfl 3 (by decide) (by decide +kernel) (Or.inl rfl) rfl (pc' := 18) rfl ?_
      refine wm_icmp_ge C dX8_workPart_18 61 (by decide) (pc' := 21) rfl (fun h4 => ?_) (fun h4 => ?_)
      · have hf := ite_t h4 hf
        obtain ⟨rfl, rfl⟩ := leaf_s hf
        refine wm_sub (lv' := [(0, .ref (q 61)), (1, .int x1), (2, .long x2)]) [0, 1, 2] rfl ?_
        exact hE
      · have hf := ite_f h4 hf
        refine wm_aload_n C dX8_workPart_21 0 rfl (pc' := 22) rfl ?_
        refine x_get (v := .ref (q 60)) C dX8_workPart_22 inX8_X8_workPart 2 (by omega) rfl rfl 0 (by decide) (by decide +kernel) (Or.inl rfl) rfl (pc' := 25) rfl ?_
        refine x_get (v := .ref (q 2)) C dX8_workPart_25 inX5_X8_workPart 1 (by omega) rfl rfl 0 (by decide) (by decide +kernel) (Or.inl rfl) rfl (pc' := 28) rfl ?_
        refine wm_iload C dX8_workPart_28 3 rfl (pc' := 30) rfl ?_
        obtain ⟨h5, hf⟩ := chk_s hf
        refine wm_zald (f := gA s 2) (N := 6) (cA := τ.2.2.1) C dX8_workPart_30 8 (x_at (by omega) rfl) rfl h5 (pc' := 31) rfl ?_
        refine wm_if_eq C dX8_workPart_31 55 (by decide) (pc' := 34) rfl (fun h6 => ?_) (fun h6 => ?_)
        · have hf := ite_t h6 hf
          exact wJ_55 x2 x4 s _ _ hf hE
        · have hf := ite_f h6 hf
          refine wm_lload_n C dX8_workPart_34 2 rfl (pc' := 35) rfl ?_
          refine wm_aload_n C dX8_workPart_35 0 rfl (pc' := 36) rfl ?_
          refine x_get (v := .ref (q 60)) C dX8_workPart_36 inX8_X8_workPart 2 (by omega) rfl rfl 0 (by decide) (by decide +kernel) (Or.inl rfl) rfl (pc' := 39) rfl ?_
          refine x_get (v := .ref (q 3)) C dX8_workPart_39 inX5_X8_workPart 1 (by omega) rfl rfl 1 (by decide) (by decide +kernel) (Or.inl rfl) rfl (pc' := 42) rfl ?_
          refine wm_iload C dX8_workPart_42 3 rfl (pc' := 44) rfl ?_
          obtain ⟨h7, hf⟩ := chk_s hf
          refine wm_iald (f := gA s 3) (N := 6) (cA := τ.1) C dX8_workPart_44 9 (x_at (by omega) rfl) rfl h7 (pc' := 45) rfl ?_
          refine wm_i2l C dX8_workPart_45 (pc' := 46) rfl ?_
          refine wm_aload_n C dX8_workPart_46 0 rfl (pc' := 47) rfl ?_
          refine wm_iload C dX8_workPart_47 3 rfl (pc' := 49) rfl ?_
          obtain ⟨r8, s9, h10, hf⟩ := bnd_s hf
          refine wm_callVd (nn := 1) (As := [.int x4]) (rest := [.long ((gA s 3 x4.toNatClampNeg).toInt64), .long x2]) (st' := [.long r8, .long ((gA s 3 x4.toNatClampNeg).toInt64), .long x2]) C dX8_workPart_49 (kX8_inflowUpper l D τ q nc s x4 r8 s9 h10) gX8_workPart_X8_inflowUpper rfl (by decide +kernel) ⟨Nat.le_of_ble_eq_true rfl, Nat.le_of_ble_eq_true rfl⟩ rfl rfl ⟨Nat.zero_le _, Nat.zero_le _⟩ 2 (x_at (by omega) rfl) rfl rfl rfl (Nat.le_of_ble_eq_true rfl) rfl (pc' := 52) rfl ?_
          refine wm_lmul C dX8_workPart_52 (pc' := 53) rfl ?_
          refine wm_ladd C dX8_workPart_53 (pc' := 54) rfl ?_
          refine wm_lstore_n (lv' := [(2, .long (x2 + (((gA s 3 x4.toNatClampNeg).toInt64) * r8))), (0, .ref (q 61)), (1, .int x1), (4, .int x4)]) C dX8_workPart_54 (by decide) rfl (pc' := 55) rfl ?_
          refine wm_sub (lv' := [(0, .ref (q 61)), (1, .int x1), (2, .long (x2 + (((gA s 3 x4.toNatClampNeg).toInt64) * r8))), (4, .int x4)]) [1, 2, 0, 3] rfl ?_
          exact wJ_55 (x2 + (((gA s 3 x4.toNatClampNeg).toInt64) * r8)) x4 s9 _ _ hf hE
  refine wm_aload_n C dX8_workPart_0 0 rfl (pc' := 1) rfl ?_
  obtain ⟨r1, s2, h3, hf⟩ := bnd_s hf
  refine wm_callVd (nn := 0) (As := []) (rest := []) (st' := []) C dX8_workPart_1 (kX8_settle l D τ q nc σ s2 h3) gX8_workPart_X8_settle rfl (by decide +kernel) ⟨Nat.le_of_ble_eq_true rfl, Nat.le_of_ble_eq_true rfl⟩ rfl rfl ⟨Nat.zero_le _, Nat.zero_le _⟩ 2 (x_at (by omega) rfl) rfl rfl rfl (Nat.le_of_ble_eq_true rfl) rfl (pc' := 4) rfl ?_
  refine wm_lkonst (v := 0) C dX8_workPart_4 (by decide) (pc' := 5) rfl ?_
  refine wm_lstore_n (lv' := [(2, .long 0), (0, .ref (q 61)), (1, .int x1)]) C dX8_workPart_5 (by decide) rfl (pc' := 6) rfl ?_
  refine wm_ikonst (v := 0) C dX8_workPart_6 (by decide) (pc' := 7) rfl ?_
  refine wm_istore (lv' := [(4, .int 0), (2, .long 0), (0, .ref (q 61)), (1, .int x1)]) C dX8_workPart_7 (by decide) rfl (pc' := 9) rfl ?_
  refine wm_sub (lv' := [(0, .ref (q 61)), (1, .int x1), (2, .long 0), (4, .int 0)]) [2, 3, 1, 0] rfl ?_
  obtain ⟨v11, s12, h13, hf⟩ := bnd_s hf
  refine wL_9 x1 FU 0 0 s2 v11 s12 h13 ?_
  refine wm_lload_n C dX8_workPart_61 2 rfl (pc' := 62) rfl ?_
  refine wm_aload_n C dX8_workPart_62 0 rfl (pc' := 63) rfl ?_
  refine x_get (v := .long (gL s12)) C dX8_workPart_63 inX8_X8_workPart 2 (by omega) rfl rfl 5 (by decide) (by decide +kernel) (Or.inl rfl) rfl (pc' := 66) rfl ?_
  refine wm_iload_n C dX8_workPart_66 1 rfl (pc' := 67) rfl ?_
  obtain ⟨r14, u15, h16, hf⟩ := bnd_s hf
  refine wm_callSN (nn := 3) (As := [.long v11, .long (gL s12), .int x1]) (rest := []) (st' := [.long r14]) C dX8_workPart_67 (kX11_partOf l D τ v11 (gL s12) x1 r14 h16) gX8_workPart_X11_partOf_n55 rfl (by decide +kernel) (by decide +kernel) (by decide +kernel) (by decide +kernel) ⟨Nat.le_of_ble_eq_true rfl, Nat.le_of_ble_eq_true rfl⟩ rfl rfl ⟨Nat.zero_le _, Nat.zero_le _⟩ rfl rfl (Nat.le_of_ble_eq_true rfl) rfl (pc' := 70) rfl ?_
  obtain ⟨rfl, rfl⟩ := leaf_s hf
  exact wm_lret C dX8_workPart_70 (Nat.zero_le _) (Nat.zero_le _) FD.rf
def fX8_amount (nc : Nat) (x1 : Int32) (x2 : Int32) (σ : MS) : Option (Int64 × MS) :=
  bnd (fX8_settle nc σ) (fun r1 s2 => if (lg_cmp (gL s2) 0) ≤ 0 then some (0, s2) else if ¬ (x1 < 0 ∨ 12 ≤ x1.toNatClampNeg) then if ¬ (gL s2) = 0 then some (((if 0 < (gB s2 70 x1.toNatClampNeg) then (gB s2 70 x1.toNatClampNeg) else -(gB s2 70 x1.toNatClampNeg)) * x2.toInt64) / (gL s2), s2) else none else none)
theorem inX8_X8_amount : ∀ w ∈ wsX80, w ∈ wsX8_amount := by decide +kernel
set_option maxHeartbeats 4000000 in
set_option maxRecDepth 100000 in
theorem kX8_amount (l : Launch) (D : va_G) (τ : CId) (q : Nat → Nat) (nc : Nat) (σ : MS) (x1 : Int32) (x2 : Int32) (rE : Int64) (sE : MS) (hf : fX8_amount nc x1 x2 σ = some (rE, sE)) : Ct l D τ yX8_amount wsX8_amount { frames := 3, cells := 0, slots := 0, locals := 72 } [.ref (q 61), .int x1, .int x2] (xW τ q nc σ) (FD (xW τ q nc sE) (some (.long rE))) := by
  unfold fX8_amount at hf
  refine ct_of (cc := cX8_amount) (maxL := 3) (ret := (some .long)) (by decide) rfl (Nat.le_of_ble_eq_true rfl) (fun Γ C => ?_)
  refine wm_lv (lv' := [(0, .ref (q 61)), (1, .int x1), (2, .int x2)]) rfl ?_
  refine wm_aload_n C dX8_amount_0 0 rfl (pc' := 1) rfl ?_
  obtain ⟨r1, s2, h3, hf⟩ := bnd_s hf
  refine wm_callVd (nn := 0) (As := []) (rest := []) (st' := []) C dX8_amount_1 (kX8_settle l D τ q nc σ s2 h3) gX8_amount_X8_settle rfl (by decide +kernel) ⟨Nat.le_of_ble_eq_true rfl, Nat.le_of_ble_eq_true rfl⟩ rfl rfl ⟨Nat.zero_le _, Nat.zero_le _⟩ 2 (x_at (by omega) rfl) rfl rfl rfl (Nat.le_of_ble_eq_true rfl) rfl (pc' := 4) rfl ?_
  refine wm_aload_n C dX8_amount_4 0 rfl (pc' := 5) rfl ?_
  refine x_get (v := .long (gL s2)) C dX8_amount_5 inX8_X8_amount 2 (by omega) rfl rfl 5 (by decide) (by decide +kernel) (Or.inl rfl) rfl (pc' := 8) rfl ?_
  refine wm_lkonst (v := 0) C dX8_amount_8 (by decide) (pc' := 9) rfl ?_
  refine wm_lcmp C dX8_amount_9 (pc' := 10) rfl ?_
  refine wm_if_le C dX8_amount_10 33 (by decide) (pc' := 13) rfl (fun h4 => ?_) (fun h4 => ?_)
  · have hf := ite_t h4 hf
    refine wm_lkonst (v := 0) C dX8_amount_33 (by decide) (pc' := 34) rfl ?_
    obtain ⟨rfl, rfl⟩ := leaf_s hf
    exact wm_lret C dX8_amount_34 (Nat.zero_le _) (Nat.zero_le _) FD.rf
  · have hf := ite_f h4 hf
    refine wm_aload_n C dX8_amount_13 0 rfl (pc' := 14) rfl ?_
    refine x_get (v := .ref (q 70)) C dX8_amount_14 inX8_X8_amount 2 (by omega) rfl rfl 4 (by decide) (by decide +kernel) (Or.inl rfl) rfl (pc' := 17) rfl ?_
    refine wm_iload_n C dX8_amount_17 1 rfl (pc' := 18) rfl ?_
    obtain ⟨h5, hf⟩ := chk_s hf
    refine wm_lald (f := gB s2 70) (N := 12) (cA := τ.2.1) C dX8_amount_18 14 (x_at (by omega) rfl) rfl h5 (pc' := 19) rfl ?_
    refine wm_absL C dX8_amount_19 (by decide +kernel) (by decide +kernel) (by decide +kernel) (by decide +kernel) ⟨Nat.le_of_ble_eq_true rfl, Nat.le_of_ble_eq_true rfl⟩ ⟨Nat.zero_le _, Nat.zero_le _⟩ (pc' := 22) rfl ?_
    refine wm_iload_n C dX8_amount_22 2 rfl (pc' := 23) rfl ?_
    refine wm_i2l C dX8_amount_23 (pc' := 24) rfl ?_
    refine wm_lmul C dX8_amount_24 (pc' := 25) rfl ?_
    refine wm_aload_n C dX8_amount_25 0 rfl (pc' := 26) rfl ?_
    refine x_get (v := .long (gL s2)) C dX8_amount_26 inX8_X8_amount 2 (by omega) rfl rfl 5 (by decide) (by decide +kernel) (Or.inl rfl) rfl (pc' := 29) rfl ?_
    obtain ⟨h6, hf⟩ := chk_s hf
    refine wm_ldiv C dX8_amount_29 h6 (pc' := 30) rfl ?_
    refine wm_goto C dX8_amount_30 34 (by decide) ?_
    obtain ⟨rfl, rfl⟩ := leaf_s hf
    exact wm_lret C dX8_amount_34 (Nat.zero_le _) (Nat.zero_le _) FD.rf
