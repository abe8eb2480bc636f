def fX12_findHeads_J67 (rec : Int32 → MS → Option (Unit × MS)) (x1 : Int32) (s : MS) : Option (Unit × MS) :=
  rec (x1 + 1) s
def fX12_findHeads_L11 : Nat → Int32 → MS → Option (Unit × MS)
  | 0, _, _ => none
  | fu + 1, x1, s => if (gI s 1) ≤ x1 then some ((), s) else if ¬ (x1 < 0 ∨ 6 ≤ x1.toNatClampNeg) then if (gA s 13 x1.toNatClampNeg) = 0 then fX12_findHeads_J67 (fX12_findHeads_L11 fu) x1 s else if ¬ (x1 < 0 ∨ 6 ≤ x1.toNatClampNeg) then if ¬ (gA s 2 x1.toNatClampNeg) = 0 then fX12_findHeads_J67 (fX12_findHeads_L11 fu) x1 s else if ¬ ((gI s 16) < 0 ∨ 6 ≤ (gI s 16).toNatClampNeg) then lets (sA s 17 (gI s 16).toNatClampNeg x1) (fun s12 => if ¬ (x1 < 0 ∨ 6 ≤ x1.toNatClampNeg) then lets (sA s12 18 x1.toNatClampNeg (gI s12 16)) (fun s15 => lets (sI s15 16 ((gI s15 16) + 1)) (fun s17 => fX12_findHeads_J67 (fX12_findHeads_L11 fu) x1 s17)) else none) else none else none else none
theorem fX12_findHeads_L11_s (fu : Nat) (x1 : Int32) (s : MS) : fX12_findHeads_L11 (fu + 1) x1 s = (if (gI s 1) ≤ x1 then some ((), s) else if ¬ (x1 < 0 ∨ 6 ≤ x1.toNatClampNeg) then if (gA s 13 x1.toNatClampNeg) = 0 then fX12_findHeads_J67 (fX12_findHeads_L11 fu) x1 s else if ¬ (x1 < 0 ∨ 6 ≤ x1.toNatClampNeg) then if ¬ (gA s 2 x1.toNatClampNeg) = 0 then fX12_findHeads_J67 (fX12_findHeads_L11 fu) x1 s else if ¬ ((gI s 16) < 0 ∨ 6 ≤ (gI s 16).toNatClampNeg) then lets (sA s 17 (gI s 16).toNatClampNeg x1) (fun s12 => if ¬ (x1 < 0 ∨ 6 ≤ x1.toNatClampNeg) then lets (sA s12 18 x1.toNatClampNeg (gI s12 16)) (fun s15 => lets (sI s15 16 ((gI s15 16) + 1)) (fun s17 => fX12_findHeads_J67 (fX12_findHeads_L11 fu) x1 s17)) else none) else none else none else none) := rfl
def fX12_findHeads_L75 : Nat → Int32 → MS → Option (Unit × MS)
  | 0, _, _ => none
  | fu + 1, x1, s => if 30 ≤ x1 then some ((), s) else if ¬ (x1 < 0 ∨ 30 ≤ x1.toNatClampNeg) then lets (sB s 19 x1.toNatClampNeg 0) (fun s24 => fX12_findHeads_L75 fu (x1 + 1) s24) else none
theorem fX12_findHeads_L75_s (fu : Nat) (x1 : Int32) (s : MS) : fX12_findHeads_L75 (fu + 1) x1 s = (if 30 ≤ x1 then some ((), s) else if ¬ (x1 < 0 ∨ 30 ≤ x1.toNatClampNeg) then lets (sB s 19 x1.toNatClampNeg 0) (fun s24 => fX12_findHeads_L75 fu (x1 + 1) s24) else none) := rfl
def fX12_findHeads_J155 (rec : Int32 → MS → Option (Unit × MS)) (x1 : Int32) (s : MS) : Option (Unit × MS) :=
  rec (x1 + 1) s
def fX12_findHeads_L96 : Nat → Int32 → MS → Option (Unit × MS)
  | 0, _, _ => none
  | fu + 1, x1, s => if (gI s 4) ≤ x1 then some ((), s) else if ¬ (x1 < 0 ∨ 12 ≤ x1.toNatClampNeg) then if (gA s 8 x1.toNatClampNeg) ≤ 0 then fX12_findHeads_J155 (fX12_findHeads_L96 fu) x1 s else if ¬ (x1 < 0 ∨ 12 ≤ x1.toNatClampNeg) then if ¬ (x1 < 0 ∨ 12 ≤ x1.toNatClampNeg) then bnd (fX12_lets x1 s) (fun r34 s35 => bnd (fX12_ask (gA s 5 x1.toNatClampNeg) (gA s 6 x1.toNatClampNeg) r34 s35) (fun r37 s38 => if ¬ (x1 < 0 ∨ 12 ≤ x1.toNatClampNeg) then if ¬ (x1 < 0 ∨ 12 ≤ x1.toNatClampNeg) then bnd (fX12_lets x1 s38) (fun r42 s43 => bnd (fX12_ask (gA s38 6 x1.toNatClampNeg) (gA s38 5 x1.toNatClampNeg) r42 s43) (fun r45 s46 => fX12_findHeads_J155 (fX12_findHeads_L96 fu) x1 s46)) else none else none)) else none else none else none
theorem fX12_findHeads_L96_s (fu : Nat) (x1 : Int32) (s : MS) : fX12_findHeads_L96 (fu + 1) x1 s = (if (gI s 4) ≤ x1 then some ((), s) else if ¬ (x1 < 0 ∨ 12 ≤ x1.toNatClampNeg) then if (gA s 8 x1.toNatClampNeg) ≤ 0 then fX12_findHeads_J155 (fX12_findHeads_L96 fu) x1 s else if ¬ (x1 < 0 ∨ 12 ≤ x1.toNatClampNeg) then if ¬ (x1 < 0 ∨ 12 ≤ x1.toNatClampNeg) then bnd (fX12_lets x1 s) (fun r34 s35 => bnd (fX12_ask (gA s 5 x1.toNatClampNeg) (gA s 6 x1.toNatClampNeg) r34 s35) (fun r37 s38 => if ¬ (x1 < 0 ∨ 12 ≤ x1.toNatClampNeg) then if ¬ (x1 < 0 ∨ 12 ≤ x1.toNatClampNeg) then bnd (fX12_lets x1 s38) (fun r42 s43 => bnd (fX12_ask (gA s38 6 x1.toNatClampNeg) (gA s38 5 x1.toNatClampNeg) r42 s43) (fun r45 s46 => fX12_findHeads_J155 (fX12_findHeads_L96 fu) x1 s46)) else none else none)) else none else none else none) := rfl
def fX12_findHeads_J232 (rec : Int32 → MS → Option (Unit × MS)) (x1 : Int32) (t0 : Int64) (t1 : Int32) (s : MS) : Option (Unit × MS) :=
  if ¬ (t1 < 0 ∨ 6 ≤ t1.toNatClampNeg) then lets (sB s 14 t1.toNatClampNeg t0) (fun s62 => rec (x1 + 1) s62) else none
def fX12_findHeads_L172 : Nat → Int32 → MS → Option (Unit × MS)
  | 0, _, _ => none
  | fu + 1, x1, s => if (gI s 1) ≤ x1 then some ((), s) else if ¬ (x1 < 0 ∨ 6 ≤ x1.toNatClampNeg) then if (gA s 2 x1.toNatClampNeg) = 0 then if ¬ (x1 < 0 ∨ 6 ≤ x1.toNatClampNeg) then if (gA s 13 x1.toNatClampNeg) = 0 then fX12_findHeads_J232 (fX12_findHeads_L172 fu) x1 0 x1 s else if ¬ (x1 < 0 ∨ 6 ≤ x1.toNatClampNeg) then bnd (fX12_determinant (gA s 18 x1.toNatClampNeg) s) (fun r65 s66 => fX12_findHeads_J232 (fX12_findHeads_L172 fu) x1 r65 x1 s66) else none else none else if ¬ (x1 < 0 ∨ 6 ≤ x1.toNatClampNeg) then fX12_findHeads_J232 (fX12_findHeads_L172 fu) x1 (((gA s 3 x1.toNatClampNeg).toInt64) * (gL s)) x1 s else none else none
theorem fX12_findHeads_L172_s (fu : Nat) (x1 : Int32) (s : MS) : fX12_findHeads_L172 (fu + 1) x1 s = (if (gI s 1) ≤ x1 then some ((), s) else if ¬ (x1 < 0 ∨ 6 ≤ x1.toNatClampNeg) then if (gA s 2 x1.toNatClampNeg) = 0 then if ¬ (x1 < 0 ∨ 6 ≤ x1.toNatClampNeg) then if (gA s 13 x1.toNatClampNeg) = 0 then fX12_findHeads_J232 (fX12_findHeads_L172 fu) x1 0 x1 s else if ¬ (x1 < 0 ∨ 6 ≤ x1.toNatClampNeg) then bnd (fX12_determinant (gA s 18 x1.toNatClampNeg) s) (fun r65 s66 => fX12_findHeads_J232 (fX12_findHeads_L172 fu) x1 r65 x1 s66) else none else none else if ¬ (x1 < 0 ∨ 6 ≤ x1.toNatClampNeg) then fX12_findHeads_J232 (fX12_findHeads_L172 fu) x1 (((gA s 3 x1.toNatClampNeg).toInt64) * (gL s)) x1 s else none else none) := rfl
def fX12_findHeads (σ : MS) : Option (Unit × MS) :=
  bnd (fX12_findWet σ) (fun r1 s2 => lets (sI s2 16 0) (fun s4 => bnd (fX12_findHeads_L11 FU 0 s4) (fun v19 s20 => bnd (fX12_findHeads_L75 FU 0 s20) (fun v26 s27 => bnd (fX12_findHeads_L96 FU 0 s27) (fun v48 s49 => bnd (fX12_determinant (-1) s49) (fun r51 s52 => lets (sL s52 r51) (fun s54 => bnd (fX12_findHeads_L172 FU 0 s54) (fun v69 s70 => some ((), s70)))))))))
theorem in_X12_findHeads : ∀ w ∈ u_ws RX12 TX12 39, w ∈ wsX12_findHeads := by decide +kernel
set_option maxHeartbeats 4000000 in
set_option maxRecDepth 100000 in
theorem kX12_findHeads (l : Launch) (D : va_G) (τ : CId) (q : Nat → Nat) (σ : MS) (sE : MS) (hf : fX12_findHeads σ = some ((), sE)) : Ct l D τ yX12_findHeads wsX12_findHeads { frames := 2, cells := 0, slots := 0, locals := 50 } [.ref (q 0)] (mW τ q σ) (FD (mW τ q sE) none) := by
  unfold fX12_findHeads at hf
  refine ct_of (cc := cX12_findHeads) (maxL := 2) (ret := none) (by decide) rfl (Nat.le_of_ble_eq_true rfl) (fun Γ C => ?_)
  refine wm_lv (lv' := [(0, .ref (q 0))]) rfl ?_
  have wL_11 : ∀ (fu : Nat) (x1 : Int32) (s : MS) (v : Unit) (s' : MS), fX12_findHeads_L11 fu x1 s = some (v, s') → WM l D Γ 2 0 0 (mW τ q s') 73 [(0, .ref (q 0))] [] → WM l D Γ 2 0 0 (mW τ q s) 11 [(0, .ref (q 0)), (1, .int x1)] [] := by
    intro fu
    induction fu with
    | zero => intro x1 s v s' hf hE; exact absurd hf (fun h => nomatch (show (none : Option _) = some _ from h))
    | succ fu ih =>
      intro x1 s v s' hf hE
      rw [fX12_findHeads_L11_s] at hf
      have wJ_67 : ∀ (x1 : Int32) (s : MS) (v : Unit) (s' : MS), fX12_findHeads_J67 (fX12_findHeads_L11 fu) x1 s = some (v, s') → WM l D Γ 2 0 0 (mW τ q s') 73 [(0, .ref (q 0))] [] → WM l D Γ 2 0 0 (mW τ q s) 67 [(0, .ref (q 0)), (1, .int x1)] [] := by
        intro x1 s v s' hf hE
        unfold fX12_findHeads_J67 at hf
        refine wm_iinc (v := x1 + 1) (lv' := [(1, .int (x1 + 1)), (0, .ref (q 0))]) C dX12_findHeads_67 1 rfl rfl (by decide) rfl (pc' := 70) rfl ?_
        refine wm_goto C dX12_findHeads_70 11 (by decide) ?_
        refine wm_sub (lv' := [(0, .ref (q 0)), (1, .int (x1 + 1))]) [1, 0] rfl ?_
        exact ih (x1 + 1) s _ _ hf hE
      refine wm_iload_n C dX12_findHeads_11 1 rfl (pc' := 12) rfl ?_
      refine wm_aload_n C dX12_findHeads_12 0 rfl (pc' := 13) rfl ?_
      refine m_get (v := .int (gI s 1)) C dX12_findHeads_13 in_X12_findHeads 1 (by decide) (by decide +kernel) rfl rfl (pc' := 16) rfl ?_
      refine wm_icmp_ge C dX12_findHeads_16 73 (by decide) (pc' := 19) rfl (fun h6 => ?_) (fun h6 => ?_)
      · have hf := ite_t h6 hf
        obtain ⟨rfl, rfl⟩ := leaf_s hf
        refine wm_sub (lv' := [(0, .ref (q 0))]) [0] rfl ?_
        exact hE
      · have hf := ite_f h6 hf
        refine wm_aload_n C dX12_findHeads_19 0 rfl (pc' := 20) rfl ?_
        refine m_get (v := .ref (q 13)) C dX12_findHeads_20 in_X12_findHeads 13 (by decide) (by decide +kernel) rfl rfl (pc' := 23) rfl ?_
        refine wm_iload_n C dX12_findHeads_23 1 rfl (pc' := 24) rfl ?_
        obtain ⟨h7, hf⟩ := chk_s hf
        refine wm_zald (f := gA s 13) (N := 6) (cA := τ.2.2.1) C dX12_findHeads_24 9 mA_13 rfl h7 (pc' := 25) rfl ?_
        refine wm_if_eq C dX12_findHeads_25 67 (by decide) (pc' := 28) rfl (fun h8 => ?_) (fun h8 => ?_)
        · have hf := ite_t h8 hf
          exact wJ_67 x1 s _ _ hf hE
        · have hf := ite_f h8 hf
          refine wm_aload_n C dX12_findHeads_28 0 rfl (pc' := 29) rfl ?_
          refine m_get (v := .ref (q 2)) C dX12_findHeads_29 in_X12_findHeads 2 (by decide) (by decide +kernel) rfl rfl (pc' := 32) rfl ?_
          refine wm_iload_n C dX12_findHeads_32 1 rfl (pc' := 33) rfl ?_
          obtain ⟨h9, hf⟩ := chk_s hf
          refine wm_zald (f := gA s 2) (N := 6) (cA := τ.2.2.1) C dX12_findHeads_33 1 mA_2 rfl h9 (pc' := 34) rfl ?_
          refine wm_if_ne C dX12_findHeads_34 67 (by decide) (pc' := 37) rfl (fun h10 => ?_) (fun h10 => ?_)
          · have hf := ite_t h10 hf
            exact wJ_67 x1 s _ _ hf hE
          · have hf := ite_f (fun h => h h10) hf
            refine wm_aload_n C dX12_findHeads_37 0 rfl (pc' := 38) rfl ?_
            refine m_get (v := .ref (q 17)) C dX12_findHeads_38 in_X12_findHeads 17 (by decide) (by decide +kernel) rfl rfl (pc' := 41) rfl ?_
            refine wm_aload_n C dX12_findHeads_41 0 rfl (pc' := 42) rfl ?_
            refine m_get (v := .int (gI s 16)) C dX12_findHeads_42 in_X12_findHeads 16 (by decide) (by decide +kernel) rfl rfl (pc' := 45) rfl ?_
            refine wm_iload_n C dX12_findHeads_45 1 rfl (pc' := 46) rfl ?_
            obtain ⟨h11, hf⟩ := chk_s hf
            obtain ⟨s12, e13, hf⟩ := lets_s hf
            refine wm_iast (f := gA s 17) (N := 6) (cA := τ.1) C dX12_findHeads_46 11 mA_17 rfl h11 (Wd' := mW τ q s12) ((mS_17 _ _).trans (congrArg (mW τ q) e13.symm)) (pc' := 47) rfl ?_
            refine wm_aload_n C dX12_findHeads_47 0 rfl (pc' := 48) rfl ?_
            refine m_get (v := .ref (q 18)) C dX12_findHeads_48 in_X12_findHeads 18 (by decide) (by decide +kernel) rfl rfl (pc' := 51) rfl ?_
            refine wm_iload_n C dX12_findHeads_51 1 rfl (pc' := 52) rfl ?_
            refine wm_aload_n C dX12_findHeads_52 0 rfl (pc' := 53) rfl ?_
            refine m_get (v := .int (gI s12 16)) C dX12_findHeads_53 in_X12_findHeads 16 (by decide) (by decide +kernel) rfl rfl (pc' := 56) rfl ?_
            obtain ⟨h14, hf⟩ := chk_s hf
            obtain ⟨s15, e16, hf⟩ := lets_s hf
            refine wm_iast (f := gA s12 18) (N := 6) (cA := τ.1) C dX12_findHeads_56 12 mA_18 rfl h14 (Wd' := mW τ q s15) ((mS_18 _ _).trans (congrArg (mW τ q) e16.symm)) (pc' := 57) rfl ?_
            refine wm_aload_n C dX12_findHeads_57 0 rfl (pc' := 58) rfl ?_
            refine wm_dup C dX12_findHeads_58 rfl (pc' := 59) rfl ?_
            refine m_get (v := .int (gI s15 16)) C dX12_findHeads_59 in_X12_findHeads 16 (by decide) (by decide +kernel) rfl rfl (pc' := 62) rfl ?_
            refine wm_ikonst (v := 1) C dX12_findHeads_62 (by decide) (pc' := 63) rfl ?_
            refine wm_iadd C dX12_findHeads_63 (pc' := 64) rfl ?_
            obtain ⟨s17, e18, hf⟩ := lets_s hf
            refine m_putI C dX12_findHeads_64 in_X12_findHeads 16 (by decide) (by decide +kernel) rfl rfl rfl mL_16 mI_16 e18 (pc' := 67) rfl ?_
            exact wJ_67 x1 s17 _ _ hf hE
  have wL_75 : ∀ (fu : Nat) (x1 : Int32) (s : MS) (v : Unit) (s' : MS), fX12_findHeads_L75 fu x1 s = some (v, s') → WM l D Γ 2 0 0 (mW τ q s') 94 [(0, .ref (q 0))] [] → WM l D Γ 2 0 0 (mW τ q s) 75 [(0, .ref (q 0)), (1, .int x1)] [] := by
    intro fu
    induction fu with
    | zero => intro x1 s v s' hf hE; exact absurd hf (fun h => nomatch (show (none : Option _) = some _ from h))
    | succ fu ih =>
      intro x1 s v s' hf hE
      rw [fX12_findHeads_L75_s] at hf
      refine wm_iload_n C dX12_findHeads_75 1 rfl (pc' := 76) rfl ?_
      refine wm_bipush (v := 30) C dX12_findHeads_76 (by decide) (pc' := 78) rfl ?_
      refine wm_icmp_ge C dX12_findHeads_78 94 (by decide) (pc' := 81) rfl (fun h22 => ?_) (fun h22 => ?_)
      · have hf := ite_t h22 hf
        obtain ⟨rfl, rfl⟩ := leaf_s hf
        refine wm_sub (lv' := [(0, .ref (q 0))]) [0] rfl ?_
        exact hE
      · have hf := ite_f h22 hf
        refine wm_aload_n C dX12_findHeads_81 0 rfl (pc' := 82) rfl ?_
        refine m_get (v := .ref (q 19)) C dX12_findHeads_82 in_X12_findHeads 19 (by decide) (by decide +kernel) rfl rfl (pc' := 85) rfl ?_
        refine wm_iload_n C dX12_findHeads_85 1 rfl (pc' := 86) rfl ?_
        refine wm_lkonst (v := 0) C dX12_findHeads_86 (by decide) (pc' := 87) rfl ?_
        obtain ⟨h23, hf⟩ := chk_s hf
        obtain ⟨s24, e25, hf⟩ := lets_s hf
        refine wm_last (f := gB s 19) (N := 30) (cA := τ.2.1) C dX12_findHeads_87 13 mA_19 rfl h23 (Wd' := mW τ q s24) ((mS_19 _ _).trans (congrArg (mW τ q) e25.symm)) (pc' := 88) rfl ?_
        refine wm_iinc (v := x1 + 1) (lv' := [(1, .int (x1 + 1)), (0, .ref (q 0))]) C dX12_findHeads_88 1 rfl rfl (by decide) rfl (pc' := 91) rfl ?_
        refine wm_goto C dX12_findHeads_91 75 (by decide) ?_
        refine wm_sub (lv' := [(0, .ref (q 0)), (1, .int (x1 + 1))]) [1, 0] rfl ?_
        exact ih (x1 + 1) s24 _ _ hf hE
  have wL_96 : ∀ (fu : Nat) (x1 : Int32) (s : MS) (v : Unit) (s' : MS), fX12_findHeads_L96 fu x1 s = some (v, s') → WM l D Γ 2 0 0 (mW τ q s') 161 [(0, .ref (q 0))] [] → WM l D Γ 2 0 0 (mW τ q s) 96 [(0, .ref (q 0)), (1, .int x1)] [] := by
    intro fu
    induction fu with
    | zero => intro x1 s v s' hf hE; exact absurd hf (fun h => nomatch (show (none : Option _) = some _ from h))
    | succ fu ih =>
      intro x1 s v s' hf hE
      rw [fX12_findHeads_L96_s] at hf
      have wJ_155 : ∀ (x1 : Int32) (s : MS) (v : Unit) (s' : MS), fX12_findHeads_J155 (fX12_findHeads_L96 fu) x1 s = some (v, s') → WM l D Γ 2 0 0 (mW τ q s') 161 [(0, .ref (q 0))] [] → WM l D Γ 2 0 0 (mW τ q s) 155 [(0, .ref (q 0)), (1, .int x1)] [] := by
        intro x1 s v s' hf hE
        unfold fX12_findHeads_J155 at hf
        refine wm_iinc (v := x1 + 1) (lv' := [(1, .int (x1 + 1)), (0, .ref (q 0))]) C dX12_findHeads_155 1 rfl rfl (by decide) rfl (pc' := 158) rfl ?_
        refine wm_goto C dX12_findHeads_158 96 (by decide) ?_
        refine wm_sub (lv' := [(0, .ref (q 0)), (1, .int (x1 + 1))]) [1, 0] rfl ?_
        exact ih (x1 + 1) s _ _ hf hE
      refine wm_iload_n C dX12_findHeads_96 1 rfl (pc' := 97) rfl ?_
      refine wm_aload_n C dX12_findHeads_97 0 rfl (pc' := 98) rfl ?_
      refine m_get (v := .int (gI s 4)) C dX12_findHeads_98 in_X12_findHeads 4 (by decide) (by decide +kernel) rfl rfl (pc' := 101) rfl ?_
      refine wm_icmp_ge C dX12_findHeads_101 161 (by decide) (pc' := 104) rfl (fun h29 => ?_) (fun h29 => ?_)
      · have hf := ite_t h29 hf
        obtain ⟨rfl, rfl⟩ := leaf_s hf
        refine wm_sub (lv' := [(0, .ref (q 0))]) [0] rfl ?_
        exact hE
      · have hf := ite_f h29 hf
        refine wm_aload_n C dX12_findHeads_104 0 rfl (pc' := 105) rfl ?_
        refine m_get (v := .ref (q 8)) C dX12_findHeads_105 in_X12_findHeads 8 (by decide) (by decide +kernel) rfl rfl (pc' := 108) rfl ?_
        refine wm_iload_n C dX12_findHeads_108 1 rfl (pc' := 109) rfl ?_
        obtain ⟨h30, hf⟩ := chk_s hf
        refine wm_iald (f := gA s 8) (N := 12) (cA := τ.1) C dX12_findHeads_109 6 mA_8 rfl h30 (pc' := 110) rfl ?_
        refine wm_if_le C dX12_findHeads_110 155 (by decide) (pc' := 113) rfl (fun h31 => ?_) (fun h31 => ?_)
        · have hf := ite_t h31 hf
          exact wJ_155 x1 s _ _ hf hE
        · have hf := ite_f h31 hf
          refine wm_aload_n C dX12_findHeads_113 0 rfl (pc' := 114) rfl ?_
          refine wm_aload_n C dX12_findHeads_114 0 rfl (pc' := 115) rfl ?_
          refine m_get (v := .ref (q 5)) C dX12_findHeads_115 in_X12_findHeads 5 (by decide) (by decide +kernel) rfl rfl (pc' := 118) rfl ?_
          refine wm_iload_n C dX12_findHeads_118 1 rfl (pc' := 119) rfl ?_
          obtain ⟨h32, hf⟩ := chk_s hf
          refine wm_iald (f := gA s 5) (N := 12) (cA := τ.1) C dX12_findHeads_119 3 mA_5 rfl h32 (pc' := 120) rfl ?_
          refine wm_aload_n C dX12_findHeads_120 0 rfl (pc' := 121) rfl ?_
          refine m_get (v := .ref (q 6)) C dX12_findHeads_121 in_X12_findHeads 6 (by decide) (by decide +kernel) rfl rfl (pc' := 124) rfl ?_
          refine wm_iload_n C dX12_findHeads_124 1 rfl (pc' := 125) rfl ?_
          obtain ⟨h33, hf⟩ := chk_s hf
          refine wm_iald (f := gA s 6) (N := 12) (cA := τ.1) C dX12_findHeads_125 4 mA_6 rfl h33 (pc' := 126) rfl ?_
          refine wm_aload_n C dX12_findHeads_126 0 rfl (pc' := 127) rfl ?_
          refine wm_iload_n C dX12_findHeads_127 1 rfl (pc' := 128) rfl ?_
          obtain ⟨r34, s35, h36, hf⟩ := bnd_s hf
          refine wm_callVd (nn := 1) (As := [.int x1]) (rest := [.int (gA s 6 x1.toNatClampNeg), .int (gA s 5 x1.toNatClampNeg), .ref (q 0)]) (st' := [.int r34, .int (gA s 6 x1.toNatClampNeg), .int (gA s 5 x1.toNatClampNeg), .ref (q 0)]) C dX12_findHeads_128 (kX12_lets l D τ q s x1 r34 s35 h36) gX12_findHeads_X12_lets rfl (by decide +kernel) ⟨Nat.le_of_ble_eq_true rfl, Nat.le_of_ble_eq_true rfl⟩ rfl rfl ⟨Nat.zero_le _, Nat.zero_le _⟩ 0 rfl rfl rfl rfl (Nat.le_of_ble_eq_true rfl) rfl (pc' := 131) rfl ?_
          obtain ⟨r37, s38, h39, hf⟩ := bnd_s hf
          refine wm_callVd (nn := 3) (As := [.int (gA s 5 x1.toNatClampNeg), .int (gA s 6 x1.toNatClampNeg), .int r34]) (rest := []) (st' := []) C dX12_findHeads_131 (kX12_ask l D τ q s35 (gA s 5 x1.toNatClampNeg) (gA s 6 x1.toNatClampNeg) r34 s38 h39) gX12_findHeads_X12_ask rfl (by decide +kernel) ⟨Nat.le_of_ble_eq_true rfl, Nat.le_of_ble_eq_true rfl⟩ rfl rfl ⟨Nat.zero_le _, Nat.zero_le _⟩ 0 rfl rfl rfl rfl (Nat.le_of_ble_eq_true rfl) rfl (pc' := 134) rfl ?_
          refine wm_aload_n C dX12_findHeads_134 0 rfl (pc' := 135) rfl ?_
          refine wm_aload_n C dX12_findHeads_135 0 rfl (pc' := 136) rfl ?_
          refine m_get (v := .ref (q 6)) C dX12_findHeads_136 in_X12_findHeads 6 (by decide) (by decide +kernel) rfl rfl (pc' := 139) rfl ?_
          refine wm_iload_n C dX12_findHeads_139 1 rfl (pc' := 140) rfl ?_
          obtain ⟨h40, hf⟩ := chk_s hf
          refine wm_iald (f := gA s38 6) (N := 12) (cA := τ.1) C dX12_findHeads_140 4 mA_6 rfl h40 (pc' := 141) rfl ?_
          refine wm_aload_n C dX12_findHeads_141 0 rfl (pc' := 142) rfl ?_
          refine m_get (v := .ref (q 5)) C dX12_findHeads_142 in_X12_findHeads 5 (by decide) (by decide +kernel) rfl rfl (pc' := 145) rfl ?_
          refine wm_iload_n C dX12_findHeads_145 1 rfl (pc' := 146) rfl ?_
          obtain ⟨h41, hf⟩ := chk_s hf
          refine wm_iald (f := gA s38 5) (N := 12) (cA := τ.1) C dX12_findHeads_146 3 mA_5 rfl h41 (pc' := 147) rfl ?_
          refine wm_aload_n C dX12_findHeads_147 0 rfl (pc' := 148) rfl ?_
          refine wm_iload_n C dX12_findHeads_148 1 rfl (pc' := 149) rfl ?_
          obtain ⟨r42, s43, h44, hf⟩ := bnd_s hf
          refine wm_callVd (nn := 1) (As := [.int x1]) (rest := [.int (gA s38 5 x1.toNatClampNeg), .int (gA s38 6 x1.toNatClampNeg), .ref (q 0)]) (st' := [.int r42, .int (gA s38 5 x1.toNatClampNeg), .int (gA s38 6 x1.toNatClampNeg), .ref (q 0)]) C dX12_findHeads_149 (kX12_lets l D τ q s38 x1 r42 s43 h44) gX12_findHeads_X12_lets rfl (by decide +kernel) ⟨Nat.le_of_ble_eq_true rfl, Nat.le_of_ble_eq_true rfl⟩ rfl rfl ⟨Nat.zero_le _, Nat.zero_le _⟩ 0 rfl rfl rfl rfl (Nat.le_of_ble_eq_true rfl) rfl (pc' := 152) rfl ?_
          obtain ⟨r45, s46, h47, hf⟩ := bnd_s hf
          refine wm_callVd (nn := 3) (As := [.int (gA s38 6 x1.toNatClampNeg), .int (gA s38 5 x1.toNatClampNeg), .int r42]) (rest := []) (st' := []) C dX12_findHeads_152 (kX12_ask l D τ q s43 (gA s38 6 x1.toNatClampNeg) (gA s38 5 x1.toNatClampNeg) r42 s46 h47) gX12_findHeads_X12_ask rfl (by decide +kernel) ⟨Nat.le_of_ble_eq_true rfl, Nat.le_of_ble_eq_true rfl⟩ rfl rfl ⟨Nat.zero_le _, Nat.zero_le _⟩ 0 rfl rfl rfl rfl (Nat.le_of_ble_eq_true rfl) rfl (pc' := 155) rfl ?_
          exact wJ_155 x1 s46 _ _ hf hE
  have wL_172 : ∀ (fu : Nat) (x1 : Int32) (s : MS) (v : Unit) (s' : MS), fX12_findHeads_L172 fu x1 s = some (v, s') → WM l D Γ 2 0 0 (mW τ q s') 239 [] [] → WM l D Γ 2 0 0 (mW τ q s) 172 [(0, .ref (q 0)), (1, .int x1)] [] := by
    intro fu
    induction fu with
    | zero => intro x1 s v s' hf hE; exact absurd hf (fun h => nomatch (show (none : Option _) = some _ from h))
    | succ fu ih =>
      intro x1 s v s' hf hE
      rw [fX12_findHeads_L172_s] at hf
      have wJ_232 : ∀ (x1 : Int32) (t0 : Int64) (t1 : Int32) (s : MS) (v : Unit) (s' : MS), fX12_findHeads_J232 (fX12_findHeads_L172 fu) x1 t0 t1 s = some (v, s') → WM l D Γ 2 0 0 (mW τ q s') 239 [] [] → WM l D Γ 2 0 0 (mW τ q s) 232 [(0, .ref (q 0)), (1, .int x1)] [.long t0, .int t1, .ref (q 14)] := by
        intro x1 t0 t1 s v s' hf hE
        unfold fX12_findHeads_J232 at hf
        obtain ⟨h61, hf⟩ := chk_s hf
        obtain ⟨s62, e63, hf⟩ := lets_s hf
        refine wm_last (f := gB s 14) (N := 6) (cA := τ.2.1) C dX12_findHeads_232 10 mA_14 rfl h61 (Wd' := mW τ q s62) ((mS_14 _ _).trans (congrArg (mW τ q) e63.symm)) (pc' := 233) rfl ?_
        refine wm_iinc (v := x1 + 1) (lv' := [(1, .int (x1 + 1)), (0, .ref (q 0))]) C dX12_findHeads_233 1 rfl rfl (by decide) rfl (pc' := 236) rfl ?_
        refine wm_goto C dX12_findHeads_236 172 (by decide) ?_
        refine wm_sub (lv' := [(0, .ref (q 0)), (1, .int (x1 + 1))]) [1, 0] rfl ?_
        exact ih (x1 + 1) s62 _ _ hf hE
      refine wm_iload_n C dX12_findHeads_172 1 rfl (pc' := 173) rfl ?_
      refine wm_aload_n C dX12_findHeads_173 0 rfl (pc' := 174) rfl ?_
      refine m_get (v := .int (gI s 1)) C dX12_findHeads_174 in_X12_findHeads 1 (by decide) (by decide +kernel) rfl rfl (pc' := 177) rfl ?_
      refine wm_icmp_ge C dX12_findHeads_177 239 (by decide) (pc' := 180) rfl (fun h56 => ?_) (fun h56 => ?_)
      · have hf := ite_t h56 hf
        obtain ⟨rfl, rfl⟩ := leaf_s hf
        refine wm_sub (lv' := []) [] rfl ?_
        exact hE
      · have hf := ite_f h56 hf
        refine wm_aload_n C dX12_findHeads_180 0 rfl (pc' := 181) rfl ?_
        refine m_get (v := .ref (q 14)) C dX12_findHeads_181 in_X12_findHeads 14 (by decide) (by decide +kernel) rfl rfl (pc' := 184) rfl ?_
        refine wm_iload_n C dX12_findHeads_184 1 rfl (pc' := 185) rfl ?_
        refine wm_aload_n C dX12_findHeads_185 0 rfl (pc' := 186) rfl ?_
        refine m_get (v := .ref (q 2)) C dX12_findHeads_186 in_X12_findHeads 2 (by decide) (by decide +kernel) rfl rfl (pc' := 189) rfl ?_
        refine wm_iload_n C dX12_findHeads_189 1 rfl (pc' := 190) rfl ?_
        obtain ⟨h57, hf⟩ := chk_s hf
        refine wm_zald (f := gA s 2) (N := 6) (cA := τ.2.2.1) C dX12_findHeads_190 1 mA_2 rfl h57 (pc' := 191) rfl ?_
        refine wm_if_eq C dX12_findHeads_191 209 (by decide) (pc' := 194) rfl (fun h58 => ?_) (fun h58 => ?_)
        · have hf := ite_t h58 hf
          refine wm_aload_n C dX12_findHeads_209 0 rfl (pc' := 210) rfl ?_
          refine m_get (v := .ref (q 13)) C dX12_findHeads_210 in_X12_findHeads 13 (by decide) (by decide +kernel) rfl rfl (pc' := 213) rfl ?_
          refine wm_iload_n C dX12_findHeads_213 1 rfl (pc' := 214) rfl ?_
          obtain ⟨h59, hf⟩ := chk_s hf
          refine wm_zald (f := gA s 13) (N := 6) (cA := τ.2.2.1) C dX12_findHeads_214 9 mA_13 rfl h59 (pc' := 215) rfl ?_
          refine wm_if_eq C dX12_findHeads_215 231 (by decide) (pc' := 218) rfl (fun h60 => ?_) (fun h60 => ?_)
          · have hf := ite_t h60 hf
            refine wm_lkonst (v := 0) C dX12_findHeads_231 (by decide) (pc' := 232) rfl ?_
            exact wJ_232 x1 0 x1 s _ _ hf hE
          · have hf := ite_f h60 hf
            refine wm_aload_n C dX12_findHeads_218 0 rfl (pc' := 219) rfl ?_
            refine wm_aload_n C dX12_findHeads_219 0 rfl (pc' := 220) rfl ?_
            refine m_get (v := .ref (q 18)) C dX12_findHeads_220 in_X12_findHeads 18 (by decide) (by decide +kernel) rfl rfl (pc' := 223) rfl ?_
            refine wm_iload_n C dX12_findHeads_223 1 rfl (pc' := 224) rfl ?_
            obtain ⟨h64, hf⟩ := chk_s hf
            refine wm_iald (f := gA s 18) (N := 6) (cA := τ.1) C dX12_findHeads_224 12 mA_18 rfl h64 (pc' := 225) rfl ?_
            obtain ⟨r65, s66, h67, hf⟩ := bnd_s hf
            refine wm_callVd (nn := 1) (As := [.int (gA s 18 x1.toNatClampNeg)]) (rest := [.int x1, .ref (q 14)]) (st' := [.long r65, .int x1, .ref (q 14)]) C dX12_findHeads_225 (kX12_determinant l D τ q s (gA s 18 x1.toNatClampNeg) r65 s66 h67) gX12_findHeads_X12_determinant rfl (by decide +kernel) ⟨Nat.le_of_ble_eq_true rfl, Nat.le_of_ble_eq_true rfl⟩ rfl rfl ⟨Nat.zero_le _, Nat.zero_le _⟩ 0 rfl rfl rfl rfl (Nat.le_of_ble_eq_true rfl) rfl (pc' := 228) rfl ?_
            refine wm_goto C dX12_findHeads_228 232 (by decide) ?_
            exact wJ_232 x1 r65 x1 s66 _ _ hf hE
        · have hf := ite_f h58 hf
          refine wm_aload_n C dX12_findHeads_194 0 rfl (pc' := 195) rfl ?_
          refine m_get (v := .ref (q 3)) C dX12_findHeads_195 in_X12_findHeads 3 (by decide) (by decide +kernel) rfl rfl (pc' := 198) rfl ?_
          refine wm_iload_n C dX12_findHeads_198 1 rfl (pc' := 199) rfl ?_
          obtain ⟨h68, hf⟩ := chk_s hf
          refine wm_iald (f := gA s 3) (N := 6) (cA := τ.1) C dX12_findHeads_199 2 mA_3 rfl h68 (pc' := 200) rfl ?_
          refine wm_i2l C dX12_findHeads_200 (pc' := 201) rfl ?_
          refine wm_aload_n C dX12_findHeads_201 0 rfl (pc' := 202) rfl ?_
          refine m_get (v := .long (gL s)) C dX12_findHeads_202 in_X12_findHeads 15 (by decide) (by decide +kernel) rfl rfl (pc' := 205) rfl ?_
          refine wm_lmul C dX12_findHeads_205 (pc' := 206) rfl ?_
          refine wm_goto C dX12_findHeads_206 232 (by decide) ?_
          exact wJ_232 x1 (((gA s 3 x1.toNatClampNeg).toInt64) * (gL s)) x1 s _ _ hf hE
  refine wm_aload_n C dX12_findHeads_0 0 rfl (pc' := 1) rfl ?_
  obtain ⟨r1, s2, h3, hf⟩ := bnd_s hf
  refine wm_callVd (nn := 0) (As := []) (rest := []) (st' := []) C dX12_findHeads_1 (kX12_findWet l D τ q σ s2 h3) gX12_findHeads_X12_findWet rfl (by decide +kernel) ⟨Nat.le_of_ble_eq_true rfl, Nat.le_of_ble_eq_true rfl⟩ rfl rfl ⟨Nat.zero_le _, Nat.zero_le _⟩ 0 rfl rfl rfl rfl (Nat.le_of_ble_eq_true rfl) rfl (pc' := 4) rfl ?_
  refine wm_aload_n C dX12_findHeads_4 0 rfl (pc' := 5) rfl ?_
  refine wm_ikonst (v := 0) C dX12_findHeads_5 (by decide) (pc' := 6) rfl ?_
  obtain ⟨s4, e5, hf⟩ := lets_s hf
  refine m_putI C dX12_findHeads_6 in_X12_findHeads 16 (by decide) (by decide +kernel) rfl rfl rfl mL_16 mI_16 e5 (pc' := 9) rfl ?_
  refine wm_ikonst (v := 0) C dX12_findHeads_9 (by decide) (pc' := 10) rfl ?_
  refine wm_istore_n (lv' := [(1, .int 0), (0, .ref (q 0))]) C dX12_findHeads_10 (by decide) rfl (pc' := 11) rfl ?_
  refine wm_sub (lv' := [(0, .ref (q 0)), (1, .int 0)]) [1, 0] rfl ?_
  obtain ⟨v19, s20, h21, hf⟩ := bnd_s hf
  refine wL_11 FU 0 s4 v19 s20 h21 ?_
  refine wm_ikonst (v := 0) C dX12_findHeads_73 (by decide) (pc' := 74) rfl ?_
  refine wm_istore_n (lv' := [(1, .int 0), (0, .ref (q 0))]) C dX12_findHeads_74 (by decide) rfl (pc' := 75) rfl ?_
  refine wm_sub (lv' := [(0, .ref (q 0)), (1, .int 0)]) [1, 0] rfl ?_
  obtain ⟨v26, s27, h28, hf⟩ := bnd_s hf
  refine wL_75 FU 0 s20 v26 s27 h28 ?_
  refine wm_ikonst (v := 0) C dX12_findHeads_94 (by decide) (pc' := 95) rfl ?_
  refine wm_istore_n (lv' := [(1, .int 0), (0, .ref (q 0))]) C dX12_findHeads_95 (by decide) rfl (pc' := 96) rfl ?_
  refine wm_sub (lv' := [(0, .ref (q 0)), (1, .int 0)]) [1, 0] rfl ?_
  obtain ⟨v48, s49, h50, hf⟩ := bnd_s hf
  refine wL_96 FU 0 s27 v48 s49 h50 ?_
  refine wm_aload_n C dX12_findHeads_161 0 rfl (pc' := 162) rfl ?_
  refine wm_aload_n C dX12_findHeads_162 0 rfl (pc' := 163) rfl ?_
  refine wm_ikonst (v := (-1)) C dX12_findHeads_163 (by decide) (pc' := 164) rfl ?_
  obtain ⟨r51, s52, h53, hf⟩ := bnd_s hf
  refine wm_callVd (nn := 1) (As := [.int (-1)]) (rest := [.ref (q 0)]) (st' := [.long r51, .ref (q 0)]) C dX12_findHeads_164 (kX12_determinant l D τ q s49 (-1) r51 s52 h53) gX12_findHeads_X12_determinant rfl (by decide +kernel) ⟨Nat.le_of_ble_eq_true rfl, Nat.le_of_ble_eq_true rfl⟩ rfl rfl ⟨Nat.zero_le _, Nat.zero_le _⟩ 0 rfl rfl rfl rfl (Nat.le_of_ble_eq_true rfl) rfl (pc' := 167) rfl ?_
  obtain ⟨s54, e55, hf⟩ := lets_s hf
  refine m_putL C dX12_findHeads_167 in_X12_findHeads (by decide +kernel) e55 (pc' := 170) rfl ?_
  refine wm_ikonst (v := 0) C dX12_findHeads_170 (by decide) (pc' := 171) rfl ?_
  refine wm_istore_n (lv' := [(1, .int 0), (0, .ref (q 0))]) C dX12_findHeads_171 (by decide) rfl (pc' := 172) rfl ?_
  refine wm_sub (lv' := [(0, .ref (q 0)), (1, .int 0)]) [1, 0] rfl ?_
  obtain ⟨v69, s70, h71, hf⟩ := bnd_s hf
  refine wL_172 FU 0 s54 v69 s70 h71 ?_
  obtain ⟨-, rfl⟩ := leaf_s hf
  exact wm_vret C dX12_findHeads_239 (Nat.zero_le _) (Nat.zero_le _) FD.rf
def fX12_lowest_L17 (x1 : Int64) (x3 : Int64) (x5 : Int32) : Nat → Int64 → Int64 → MS → Option (Int64 × MS)
  | 0, _, _, _ => none
  | fu + 1, x6, x8, s => if (lg_cmp x8 0) = 0 then some (x6, s) else if ¬ x8 = 0 then fX12_lowest_L17 x1 x3 x5 fu x8 (x6 - x6 / x8 * x8) s else none
theorem fX12_lowest_L17_s (x1 : Int64) (x3 : Int64) (x5 : Int32) (fu : Nat) (x6 : Int64) (x8 : Int64) (s : MS) : fX12_lowest_L17 x1 x3 x5 (fu + 1) x6 x8 s = (if (lg_cmp x8 0) = 0 then some (x6, s) else if ¬ x8 = 0 then fX12_lowest_L17 x1 x3 x5 fu x8 (x6 - x6 / x8 * x8) s else none) := rfl
def fX12_lowest_J12 (x1 : Int64) (x3 : Int64) (x5 : Int32) (t0 : Int64) (s : MS) : Option (Int64 × MS) :=
  bnd (fX12_lowest_L17 x1 x3 x5 FU t0 x3 s) (fun v4 s5 => if ¬ x5 = 0 then if ¬ v4 = 0 then some (x3 / v4, s5) else none else if ¬ v4 = 0 then some (x1 / v4, s5) else none)
def fX12_lowest (x1 : Int64) (x3 : Int64) (x5 : Int32) (σ : MS) : Option (Int64 × MS) :=
  if 0 ≤ (lg_cmp x1 0) then fX12_lowest_J12 x1 x3 x5 x1 σ else fX12_lowest_J12 x1 x3 x5 (-x1) σ
set_option maxHeartbeats 4000000 in
set_option maxRecDepth 100000 in
theorem kX12_lowest (l : Launch) (D : va_G) (τ : CId) (q : Nat → Nat) (σ : MS) (x1 : Int64) (x3 : Int64) (x5 : Int32) (rE : Int64) (sE : MS) (hf : fX12_lowest x1 x3 x5 σ = some (rE, sE)) : Ct l D τ yX12_lowest wsX12_lowest { frames := 0, cells := 0, slots := 0, locals := 0 } [.ref (q 0), .long x1, .long x3, .int x5] (mW τ q σ) (FD (mW τ q sE) (some (.long rE))) := by
  unfold fX12_lowest at hf
  refine ct_of (cc := cX12_lowest) (maxL := 12) (ret := (some .long)) (by decide) rfl (Nat.le_of_ble_eq_true rfl) (fun Γ C => ?_)
  refine wm_lv (lv' := [(0, .ref (q 0)), (1, .long x1), (3, .long x3), (5, .int x5)]) rfl ?_
  have wL_17 : ∀ (x1 : Int64) (x3 : Int64) (x5 : Int32) (fu : Nat) (x6 : Int64) (x8 : Int64) (s : MS) (v : Int64) (s' : MS), fX12_lowest_L17 x1 x3 x5 fu x6 x8 s = some (v, s') → WM l D Γ 12 0 0 (mW τ q s') 42 [(1, .long x1), (3, .long x3), (5, .int x5), (6, .long v)] [] → WM l D Γ 12 0 0 (mW τ q s) 17 [(1, .long x1), (3, .long x3), (5, .int x5), (6, .long x6), (8, .long x8)] [] := by
    intro x1 x3 x5
    intro fu
    induction fu with
    | zero => intro x6 x8 s v s' hf hE; exact absurd hf (fun h => nomatch (show (none : Option _) = some _ from h))
    | succ fu ih =>
      intro x6 x8 s v s' hf hE
      rw [fX12_lowest_L17_s] at hf
      refine wm_lload C dX12_lowest_17 4 rfl (pc' := 19) rfl ?_
      refine wm_lkonst (v := 0) C dX12_lowest_19 (by decide) (pc' := 20) rfl ?_
      refine wm_lcmp C dX12_lowest_20 (pc' := 21) rfl ?_
      refine wm_if_eq C dX12_lowest_21 42 (by decide) (pc' := 24) rfl (fun h2 => ?_) (fun h2 => ?_)
      · have hf := ite_t h2 hf
        obtain ⟨rfl, rfl⟩ := leaf_s hf
        refine wm_sub (lv' := [(1, .long x1), (3, .long x3), (5, .int x5), (6, .long x6)]) [0, 1, 2, 3] rfl ?_
        exact hE
      · have hf := ite_f h2 hf
        refine wm_lload C dX12_lowest_24 3 rfl (pc' := 26) rfl ?_
        refine wm_lload C dX12_lowest_26 4 rfl (pc' := 28) rfl ?_
        obtain ⟨h3, hf⟩ := chk_s hf
        refine wm_lrem C dX12_lowest_28 h3 (pc' := 29) rfl ?_
        refine wm_lstore (lv' := [(10, .long (x6 - x6 / x8 * x8)), (1, .long x1), (3, .long x3), (5, .int x5), (6, .long x6), (8, .long x8)]) C dX12_lowest_29 (by decide) rfl (pc' := 31) rfl ?_
        refine wm_lload C dX12_lowest_31 5 rfl (pc' := 33) rfl ?_
        refine wm_lstore (lv' := [(6, .long x8), (10, .long (x6 - x6 / x8 * x8)), (1, .long x1), (3, .long x3), (5, .int x5), (8, .long x8)]) C dX12_lowest_33 (by decide) rfl (pc' := 35) rfl ?_
        refine wm_lload C dX12_lowest_35 1 rfl (pc' := 37) rfl ?_
        refine wm_lstore (lv' := [(8, .long (x6 - x6 / x8 * x8)), (6, .long x8), (10, .long (x6 - x6 / x8 * x8)), (1, .long x1), (3, .long x3), (5, .int x5)]) C dX12_lowest_37 (by decide) rfl (pc' := 39) rfl ?_
        refine wm_goto C dX12_lowest_39 17 (by decide) ?_
        refine wm_sub (lv' := [(1, .long x1), (3, .long x3), (5, .int x5), (6, .long x8), (8, .long (x6 - x6 / x8 * x8))]) [3, 4, 5, 1, 0] rfl ?_
        exact ih x8 (x6 - x6 / x8 * x8) s _ _ hf hE
  have wJ_12 : ∀ (x1 : Int64) (x3 : Int64) (x5 : Int32) (t0 : Int64) (s : MS), fX12_lowest_J12 x1 x3 x5 t0 s = some (rE, sE) → WM l D Γ 12 0 0 (mW τ q s) 12 [(1, .long x1), (3, .long x3), (5, .int x5)] [.long t0] := by
    intro x1 x3 x5 t0 s hf
    unfold fX12_lowest_J12 at hf
    refine wm_lstore (lv' := [(6, .long t0), (1, .long x1), (3, .long x3), (5, .int x5)]) C dX12_lowest_12 (by decide) rfl (pc' := 14) rfl ?_
    refine wm_lload_n C dX12_lowest_14 2 rfl (pc' := 15) rfl ?_
    refine wm_lstore (lv' := [(8, .long x3), (6, .long t0), (1, .long x1), (3, .long x3), (5, .int x5)]) C dX12_lowest_15 (by decide) rfl (pc' := 17) rfl ?_
    refine wm_sub (lv' := [(1, .long x1), (3, .long x3), (5, .int x5), (6, .long t0), (8, .long x3)]) [2, 3, 4, 1, 0] rfl ?_
    obtain ⟨v4, s5, h6, hf⟩ := bnd_s hf
    refine wL_17 x1 x3 x5 FU t0 x3 s v4 s5 h6 ?_
    refine wm_iload C dX12_lowest_42 2 rfl (pc' := 44) rfl ?_
    refine wm_if_ne C dX12_lowest_44 54 (by decide) (pc' := 47) rfl (fun h7 => ?_) (fun h7 => ?_)
    · have hf := ite_t h7 hf
      refine wm_lload_n C dX12_lowest_54 1 rfl (pc' := 55) rfl ?_
      refine wm_lload C dX12_lowest_55 3 rfl (pc' := 57) rfl ?_
      obtain ⟨h8, hf⟩ := chk_s hf
      refine wm_ldiv C dX12_lowest_57 h8 (pc' := 58) rfl ?_
      obtain ⟨rfl, rfl⟩ := leaf_s hf
      exact wm_lret C dX12_lowest_58 (Nat.zero_le _) (Nat.zero_le _) FD.rf
    · have hf := ite_f (fun h => h h7) hf
      refine wm_lload_n C dX12_lowest_47 0 rfl (pc' := 48) rfl ?_
      refine wm_lload C dX12_lowest_48 3 rfl (pc' := 50) rfl ?_
      obtain ⟨h9, hf⟩ := chk_s hf
      refine wm_ldiv C dX12_lowest_50 h9 (pc' := 51) rfl ?_
      refine wm_goto C dX12_lowest_51 58 (by decide) ?_
      obtain ⟨rfl, rfl⟩ := leaf_s hf
      exact wm_lret C dX12_lowest_58 (Nat.zero_le _) (Nat.zero_le _) FD.rf
  refine wm_lload_n C dX12_lowest_0 1 rfl (pc' := 1) rfl ?_
  refine wm_lkonst (v := 0) C dX12_lowest_1 (by decide) (pc' := 2) rfl ?_
  refine wm_lcmp C dX12_lowest_2 (pc' := 3) rfl ?_
  refine wm_if_ge C dX12_lowest_3 11 (by decide) (pc' := 6) rfl (fun h1 => ?_) (fun h1 => ?_)
  · have hf := ite_t h1 hf
    refine wm_lload_n C dX12_lowest_11 1 rfl (pc' := 12) rfl ?_
    refine wm_sub (lv' := [(1, .long x1), (3, .long x3), (5, .int x5)]) [1, 2, 3] rfl ?_
    exact wJ_12 x1 x3 x5 x1 σ hf
  · have hf := ite_f h1 hf
    refine wm_lload_n C dX12_lowest_6 1 rfl (pc' := 7) rfl ?_
    refine wm_lneg C dX12_lowest_7 (pc' := 8) rfl ?_
    refine wm_goto C dX12_lowest_8 12 (by decide) ?_
    refine wm_sub (lv' := [(1, .long x1), (3, .long x3), (5, .int x5)]) [1, 2, 3] rfl ?_
    exact wJ_12 x1 x3 x5 (-x1) σ hf
def fX12_at_J147 (rec : Int32 → Int32 → MS → Option (Int32 × MS)) (x1 : Int32) (x4 : Int32) (t0 : Int32) (t1 : Int32) (s : MS) : Option (Int32 × MS) :=
  rec (t1 + t0) (x4 + 1) s
def fX12_at_J146 (rec : Int32 → Int32 → MS → Option (Int32 × MS)) (x1 : Int32) (x4 : Int32) (t0 : Int32) (s : MS) : Option (Int32 × MS) :=
  fX12_at_J147 (rec) x1 x4 0 t0 s
def fX12_at_J142 (rec : Int32 → Int32 → MS → Option (Int32 × MS)) (x1 : Int32) (x4 : Int32) (t0 : Int32) (s : MS) : Option (Int32 × MS) :=
  fX12_at_J147 (rec) x1 x4 1 t0 s
def fX12_at_L100 (x1 : Int32) : Nat → Int32 → Int32 → MS → Option (Int32 × MS)
  | 0, _, _, _ => none
  | fu + 1, x3, x4, s => if (gI s 4) ≤ x4 then some (x3, s) else if ¬ (x4 < 0 ∨ 12 ≤ x4.toNatClampNeg) then if (gA s 8 x4.toNatClampNeg) ≤ 0 then fX12_at_J146 (fX12_at_L100 x1 fu) x1 x4 x3 s else if ¬ (x4 < 0 ∨ 12 ≤ x4.toNatClampNeg) then if (gA s 5 x4.toNatClampNeg) = x1 then fX12_at_J142 (fX12_at_L100 x1 fu) x1 x4 x3 s else if ¬ (x4 < 0 ∨ 12 ≤ x4.toNatClampNeg) then if ¬ (gA s 6 x4.toNatClampNeg) = x1 then fX12_at_J146 (fX12_at_L100 x1 fu) x1 x4 x3 s else fX12_at_J142 (fX12_at_L100 x1 fu) x1 x4 x3 s else none else none else none
theorem fX12_at_L100_s (x1 : Int32) (fu : Nat) (x3 : Int32) (x4 : Int32) (s : MS) : fX12_at_L100 x1 (fu + 1) x3 x4 s = (if (gI s 4) ≤ x4 then some (x3, s) else if ¬ (x4 < 0 ∨ 12 ≤ x4.toNatClampNeg) then if (gA s 8 x4.toNatClampNeg) ≤ 0 then fX12_at_J146 (fX12_at_L100 x1 fu) x1 x4 x3 s else if ¬ (x4 < 0 ∨ 12 ≤ x4.toNatClampNeg) then if (gA s 5 x4.toNatClampNeg) = x1 then fX12_at_J142 (fX12_at_L100 x1 fu) x1 x4 x3 s else if ¬ (x4 < 0 ∨ 12 ≤ x4.toNatClampNeg) then if ¬ (gA s 6 x4.toNatClampNeg) = x1 then fX12_at_J146 (fX12_at_L100 x1 fu) x1 x4 x3 s else fX12_at_J142 (fX12_at_L100 x1 fu) x1 x4 x3 s else none else none else none) := rfl
def fX12_at (x1 : Int32) (x2 : Int32) (σ : MS) : Option (Int32 × MS) :=
  bnd (fX12_noJoint x1 σ) (fun r1 s2 => if r1 = 0 then if x2 = 0 then if ¬ (x1 < 0 ∨ 6 ≤ x1.toNatClampNeg) then if (gA s2 2 x1.toNatClampNeg) = 0 then some (0, s2) else some (1, s2) else none else if x2 = 1 then if ¬ (x1 < 0 ∨ 6 ≤ x1.toNatClampNeg) then if (gA s2 2 x1.toNatClampNeg) = 0 then some ((-9), s2) else if ¬ (x1 < 0 ∨ 6 ≤ x1.toNatClampNeg) then some (gA s2 3 x1.toNatClampNeg, s2) else none else none else if x2 = 2 then bnd (fX12_findWet s2) (fun r13 s14 => if ¬ (x1 < 0 ∨ 6 ≤ x1.toNatClampNeg) then if (gA s14 13 x1.toNatClampNeg) = 0 then some (1, s14) else some (0, s14) else none) else if x2 = 3 then bnd (fX12_at_L100 x1 FU 0 0 s2) (fun v26 s27 => some (v26, s27)) else some ((-2), s2) else some ((-1), s2))
theorem in_X12_at : ∀ w ∈ u_ws RX12 TX12 39, w ∈ wsX12_at := by decide +kernel
set_option maxHeartbeats 4000000 in
set_option maxRecDepth 100000 in
theorem kX12_at (l : Launch) (D : va_G) (τ : CId) (q : Nat → Nat) (σ : MS) (x1 : Int32) (x2 : Int32) (rE : Int32) (sE : MS) (hf : fX12_at x1 x2 σ = some (rE, sE)) : Ct l D τ yX12_at wsX12_at { frames := 2, cells := 0, slots := 0, locals := 43 } [.ref (q 0), .int x1, .int x2] (mW τ q σ) (FD (mW τ q sE) (some (.int rE))) := by
  unfold fX12_at at hf
  refine ct_of (cc := cX12_at) (maxL := 5) (ret := (some .int)) (by decide) rfl (Nat.le_of_ble_eq_true rfl) (fun Γ C => ?_)
  refine wm_lv (lv' := [(0, .ref (q 0)), (1, .int x1), (2, .int x2)]) rfl ?_
  have wL_100 : ∀ (x1 : Int32) (fu : Nat) (x3 : Int32) (x4 : Int32) (s : MS) (v : Int32) (s' : MS), fX12_at_L100 x1 fu x3 x4 s = some (v, s') → WM l D Γ 5 0 0 (mW τ q s') 155 [(3, .int v)] [] → WM l D Γ 5 0 0 (mW τ q s) 100 [(0, .ref (q 0)), (1, .int x1), (3, .int x3), (4, .int x4)] [] := by
    intro x1
    intro fu
    induction fu with
    | zero => intro x3 x4 s v s' hf hE; exact absurd hf (fun h => nomatch (show (none : Option _) = some _ from h))
    | succ fu ih =>
      intro x3 x4 s v s' hf hE
      rw [fX12_at_L100_s] at hf
      have wJ_147 : ∀ (x4 : Int32) (t0 : Int32) (t1 : Int32) (s : MS) (v : Int32) (s' : MS), fX12_at_J147 (fX12_at_L100 x1 fu) x1 x4 t0 t1 s = some (v, s') → WM l D Γ 5 0 0 (mW τ q s') 155 [(3, .int v)] [] → WM l D Γ 5 0 0 (mW τ q s) 147 [(0, .ref (q 0)), (1, .int x1), (4, .int x4)] [.int t0, .int t1] := by
        intro x4 t0 t1 s v s' hf hE
        unfold fX12_at_J147 at hf
        refine wm_iadd C dX12_at_147 (pc' := 148) rfl ?_
        refine wm_istore_n (lv' := [(3, .int (t1 + t0)), (0, .ref (q 0)), (1, .int x1), (4, .int x4)]) C dX12_at_148 (by decide) rfl (pc' := 149) rfl ?_
        refine wm_iinc (v := x4 + 1) (lv' := [(4, .int (x4 + 1)), (3, .int (t1 + t0)), (0, .ref (q 0)), (1, .int x1)]) C dX12_at_149 3 rfl rfl (by decide) rfl (pc' := 152) rfl ?_
        refine wm_goto C dX12_at_152 100 (by decide) ?_
        refine wm_sub (lv' := [(0, .ref (q 0)), (1, .int x1), (3, .int (t1 + t0)), (4, .int (x4 + 1))]) [2, 3, 1, 0] rfl ?_
        exact ih (t1 + t0) (x4 + 1) s _ _ hf hE
      have wJ_146 : ∀ (x4 : Int32) (t0 : Int32) (s : MS) (v : Int32) (s' : MS), fX12_at_J146 (fX12_at_L100 x1 fu) x1 x4 t0 s = some (v, s') → WM l D Γ 5 0 0 (mW τ q s') 155 [(3, .int v)] [] → WM l D Γ 5 0 0 (mW τ q s) 146 [(0, .ref (q 0)), (1, .int x1), (4, .int x4)] [.int t0] := by
        intro x4 t0 s v s' hf hE
        unfold fX12_at_J146 at hf
        refine wm_ikonst (v := 0) C dX12_at_146 (by decide) (pc' := 147) rfl ?_
        exact wJ_147 x4 0 t0 s _ _ hf hE
      have wJ_142 : ∀ (x4 : Int32) (t0 : Int32) (s : MS) (v : Int32) (s' : MS), fX12_at_J142 (fX12_at_L100 x1 fu) x1 x4 t0 s = some (v, s') → WM l D Γ 5 0 0 (mW τ q s') 155 [(3, .int v)] [] → WM l D Γ 5 0 0 (mW τ q s) 142 [(0, .ref (q 0)), (1, .int x1), (4, .int x4)] [.int t0] := by
        intro x4 t0 s v s' hf hE
        unfold fX12_at_J142 at hf
        refine wm_ikonst (v := 1) C dX12_at_142 (by decide) (pc' := 143) rfl ?_
        refine wm_goto C dX12_at_143 147 (by decide) ?_
        exact wJ_147 x4 1 t0 s _ _ hf hE
      refine wm_iload C dX12_at_100 3 rfl (pc' := 102) rfl ?_
      refine wm_aload_n C dX12_at_102 0 rfl (pc' := 103) rfl ?_
      refine m_get (v := .int (gI s 4)) C dX12_at_103 in_X12_at 4 (by decide) (by decide +kernel) rfl rfl (pc' := 106) rfl ?_
      refine wm_icmp_ge C dX12_at_106 155 (by decide) (pc' := 109) rfl (fun h19 => ?_) (fun h19 => ?_)
      · have hf := ite_t h19 hf
        obtain ⟨rfl, rfl⟩ := leaf_s hf
        refine wm_sub (lv' := [(3, .int x3)]) [2] rfl ?_
        exact hE
      · have hf := ite_f h19 hf
        refine wm_iload_n C dX12_at_109 2 rfl (pc' := 110) rfl ?_
        refine wm_aload_n C dX12_at_110 0 rfl (pc' := 111) rfl ?_
        refine m_get (v := .ref (q 8)) C dX12_at_111 in_X12_at 8 (by decide) (by decide +kernel) rfl rfl (pc' := 114) rfl ?_
        refine wm_iload C dX12_at_114 3 rfl (pc' := 116) rfl ?_
        obtain ⟨h20, hf⟩ := chk_s hf
        refine wm_iald (f := gA s 8) (N := 12) (cA := τ.1) C dX12_at_116 6 mA_8 rfl h20 (pc' := 117) rfl ?_
        refine wm_if_le C dX12_at_117 146 (by decide) (pc' := 120) rfl (fun h21 => ?_) (fun h21 => ?_)
        · have hf := ite_t h21 hf
          refine wm_sub (lv' := [(0, .ref (q 0)), (1, .int x1), (4, .int x4)]) [0, 1, 3] rfl ?_
          exact wJ_146 x4 x3 s _ _ hf hE
        · have hf := ite_f h21 hf
          refine wm_aload_n C dX12_at_120 0 rfl (pc' := 121) rfl ?_
          refine m_get (v := .ref (q 5)) C dX12_at_121 in_X12_at 5 (by decide) (by decide +kernel) rfl rfl (pc' := 124) rfl ?_
          refine wm_iload C dX12_at_124 3 rfl (pc' := 126) rfl ?_
          obtain ⟨h22, hf⟩ := chk_s hf
          refine wm_iald (f := gA s 5) (N := 12) (cA := τ.1) C dX12_at_126 3 mA_5 rfl h22 (pc' := 127) rfl ?_
          refine wm_iload_n C dX12_at_127 1 rfl (pc' := 128) rfl ?_
          refine wm_icmp_eq C dX12_at_128 142 (by decide) (pc' := 131) rfl (fun h23 => ?_) (fun h23 => ?_)
          · have hf := ite_t h23 hf
            refine wm_sub (lv' := [(0, .ref (q 0)), (1, .int x1), (4, .int x4)]) [0, 1, 3] rfl ?_
            exact wJ_142 x4 x3 s _ _ hf hE
          · have hf := ite_f h23 hf
            refine wm_aload_n C dX12_at_131 0 rfl (pc' := 132) rfl ?_
            refine m_get (v := .ref (q 6)) C dX12_at_132 in_X12_at 6 (by decide) (by decide +kernel) rfl rfl (pc' := 135) rfl ?_
            refine wm_iload C dX12_at_135 3 rfl (pc' := 137) rfl ?_
            obtain ⟨h24, hf⟩ := chk_s hf
            refine wm_iald (f := gA s 6) (N := 12) (cA := τ.1) C dX12_at_137 4 mA_6 rfl h24 (pc' := 138) rfl ?_
            refine wm_iload_n C dX12_at_138 1 rfl (pc' := 139) rfl ?_
            refine wm_icmp_ne C dX12_at_139 146 (by decide) (pc' := 142) rfl (fun h25 => ?_) (fun h25 => ?_)
            · have hf := ite_t h25 hf
              refine wm_sub (lv' := [(0, .ref (q 0)), (1, .int x1), (4, .int x4)]) [0, 1, 3] rfl ?_
              exact wJ_146 x4 x3 s _ _ hf hE
            · have hf := ite_f (fun h => h h25) hf
              refine wm_sub (lv' := [(0, .ref (q 0)), (1, .int x1), (4, .int x4)]) [0, 1, 3] rfl ?_
              exact wJ_142 x4 x3 s _ _ hf hE
  refine wm_aload_n C dX12_at_0 0 rfl (pc' := 1) rfl ?_
  refine wm_iload_n C dX12_at_1 1 rfl (pc' := 2) rfl ?_
  obtain ⟨r1, s2, h3, hf⟩ := bnd_s hf
  refine wm_callVd (nn := 1) (As := [.int x1]) (rest := []) (st' := [.int r1]) C dX12_at_2 (kX12_noJoint l D τ q σ x1 r1 s2 h3) gX12_at_X12_noJoint rfl (by decide +kernel) ⟨Nat.le_of_ble_eq_true rfl, Nat.le_of_ble_eq_true rfl⟩ rfl rfl ⟨Nat.zero_le _, Nat.zero_le _⟩ 0 rfl rfl rfl rfl (Nat.le_of_ble_eq_true rfl) rfl (pc' := 5) rfl ?_
  refine wm_if_eq C dX12_at_5 10 (by decide) (pc' := 8) rfl (fun h4 => ?_) (fun h4 => ?_)
  · have hf := ite_t h4 hf
    refine wm_iload_n C dX12_at_10 2 rfl (pc' := 11) rfl ?_
    by_cases h5 : x2 = 0
    · have hf := ite_t h5 hf
      refine wm_tableIn (off := 29) C dX12_at_11 (by rw [h5]; decide) (by rw [h5]; decide) (by rw [h5]; rfl) 40 (by decide) ?_
      refine wm_aload_n C dX12_at_40 0 rfl (pc' := 41) rfl ?_
      refine m_get (v := .ref (q 2)) C dX12_at_41 in_X12_at 2 (by decide) (by decide +kernel) rfl rfl (pc' := 44) rfl ?_
      refine wm_iload_n C dX12_at_44 1 rfl (pc' := 45) rfl ?_
      obtain ⟨h6, hf⟩ := chk_s hf
      refine wm_zald (f := gA s2 2) (N := 6) (cA := τ.2.2.1) C dX12_at_45 1 mA_2 rfl h6 (pc' := 46) rfl ?_
      refine wm_if_eq C dX12_at_46 53 (by decide) (pc' := 49) rfl (fun h7 => ?_) (fun h7 => ?_)
      · have hf := ite_t h7 hf
        refine wm_ikonst (v := 0) C dX12_at_53 (by decide) (pc' := 54) rfl ?_
        obtain ⟨rfl, rfl⟩ := leaf_s hf
        exact wm_iret C dX12_at_54 (Nat.zero_le _) (Nat.zero_le _) FD.rf
      · have hf := ite_f h7 hf
        refine wm_ikonst (v := 1) C dX12_at_49 (by decide) (pc' := 50) rfl ?_
        refine wm_goto C dX12_at_50 54 (by decide) ?_
        obtain ⟨rfl, rfl⟩ := leaf_s hf
        exact wm_iret C dX12_at_54 (Nat.zero_le _) (Nat.zero_le _) FD.rf
    · have hf := ite_f h5 hf
      by_cases h8 : x2 = 1
      · have hf := ite_t h8 hf
        refine wm_tableIn (off := 44) C dX12_at_11 (by rw [h8]; decide) (by rw [h8]; decide) (by rw [h8]; rfl) 55 (by decide) ?_
        refine wm_aload_n C dX12_at_55 0 rfl (pc' := 56) rfl ?_
        refine m_get (v := .ref (q 2)) C dX12_at_56 in_X12_at 2 (by decide) (by decide +kernel) rfl rfl (pc' := 59) rfl ?_
        refine wm_iload_n C dX12_at_59 1 rfl (pc' := 60) rfl ?_
        obtain ⟨h9, hf⟩ := chk_s hf
        refine wm_zald (f := gA s2 2) (N := 6) (cA := τ.2.2.1) C dX12_at_60 1 mA_2 rfl h9 (pc' := 61) rfl ?_
        refine wm_if_eq C dX12_at_61 73 (by decide) (pc' := 64) rfl (fun h10 => ?_) (fun h10 => ?_)
        · have hf := ite_t h10 hf
          refine wm_bipush (v := (-9)) C dX12_at_73 (by decide) (pc' := 75) rfl ?_
          obtain ⟨rfl, rfl⟩ := leaf_s hf
          exact wm_iret C dX12_at_75 (Nat.zero_le _) (Nat.zero_le _) FD.rf
        · have hf := ite_f h10 hf
          refine wm_aload_n C dX12_at_64 0 rfl (pc' := 65) rfl ?_
          refine m_get (v := .ref (q 3)) C dX12_at_65 in_X12_at 3 (by decide) (by decide +kernel) rfl rfl (pc' := 68) rfl ?_
          refine wm_iload_n C dX12_at_68 1 rfl (pc' := 69) rfl ?_
          obtain ⟨h11, hf⟩ := chk_s hf
          refine wm_iald (f := gA s2 3) (N := 6) (cA := τ.1) C dX12_at_69 2 mA_3 rfl h11 (pc' := 70) rfl ?_
          refine wm_goto C dX12_at_70 75 (by decide) ?_
          obtain ⟨rfl, rfl⟩ := leaf_s hf
          exact wm_iret C dX12_at_75 (Nat.zero_le _) (Nat.zero_le _) FD.rf
      · have hf := ite_f h8 hf
        by_cases h12 : x2 = 2
        · have hf := ite_t h12 hf
          refine wm_tableIn (off := 65) C dX12_at_11 (by rw [h12]; decide) (by rw [h12]; decide) (by rw [h12]; rfl) 76 (by decide) ?_
          refine wm_aload_n C dX12_at_76 0 rfl (pc' := 77) rfl ?_
          obtain ⟨r13, s14, h15, hf⟩ := bnd_s hf
          refine wm_callVd (nn := 0) (As := []) (rest := []) (st' := []) C dX12_at_77 (kX12_findWet l D τ q s2 s14 h15) gX12_at_X12_findWet rfl (by decide +kernel) ⟨Nat.le_of_ble_eq_true rfl, Nat.le_of_ble_eq_true rfl⟩ rfl rfl ⟨Nat.zero_le _, Nat.zero_le _⟩ 0 rfl rfl rfl rfl (Nat.le_of_ble_eq_true rfl) rfl (pc' := 80) rfl ?_
          refine wm_aload_n C dX12_at_80 0 rfl (pc' := 81) rfl ?_
          refine m_get (v := .ref (q 13)) C dX12_at_81 in_X12_at 13 (by decide) (by decide +kernel) rfl rfl (pc' := 84) rfl ?_
          refine wm_iload_n C dX12_at_84 1 rfl (pc' := 85) rfl ?_
          obtain ⟨h16, hf⟩ := chk_s hf
          refine wm_zald (f := gA s14 13) (N := 6) (cA := τ.2.2.1) C dX12_at_85 9 mA_13 rfl h16 (pc' := 86) rfl ?_
          refine wm_if_eq C dX12_at_86 93 (by decide) (pc' := 89) rfl (fun h17 => ?_) (fun h17 => ?_)
          · have hf := ite_t h17 hf
            refine wm_ikonst (v := 1) C dX12_at_93 (by decide) (pc' := 94) rfl ?_
            obtain ⟨rfl, rfl⟩ := leaf_s hf
            exact wm_iret C dX12_at_94 (Nat.zero_le _) (Nat.zero_le _) FD.rf
          · have hf := ite_f h17 hf
            refine wm_ikonst (v := 0) C dX12_at_89 (by decide) (pc' := 90) rfl ?_
            refine wm_goto C dX12_at_90 94 (by decide) ?_
            obtain ⟨rfl, rfl⟩ := leaf_s hf
            exact wm_iret C dX12_at_94 (Nat.zero_le _) (Nat.zero_le _) FD.rf
        · have hf := ite_f h12 hf
          by_cases h18 : x2 = 3
          · have hf := ite_t h18 hf
            refine wm_tableIn (off := 84) C dX12_at_11 (by rw [h18]; decide) (by rw [h18]; decide) (by rw [h18]; rfl) 95 (by decide) ?_
            refine wm_ikonst (v := 0) C dX12_at_95 (by decide) (pc' := 96) rfl ?_
            refine wm_istore_n (lv' := [(3, .int 0), (0, .ref (q 0)), (1, .int x1), (2, .int x2)]) C dX12_at_96 (by decide) rfl (pc' := 97) rfl ?_
            refine wm_ikonst (v := 0) C dX12_at_97 (by decide) (pc' := 98) rfl ?_
            refine wm_istore (lv' := [(4, .int 0), (3, .int 0), (0, .ref (q 0)), (1, .int x1), (2, .int x2)]) C dX12_at_98 (by decide) rfl (pc' := 100) rfl ?_
            refine wm_sub (lv' := [(0, .ref (q 0)), (1, .int x1), (3, .int 0), (4, .int 0)]) [2, 3, 1, 0] rfl ?_
            obtain ⟨v26, s27, h28, hf⟩ := bnd_s hf
            refine wL_100 x1 FU 0 0 s2 v26 s27 h28 ?_
            refine wm_iload_n C dX12_at_155 0 rfl (pc' := 156) rfl ?_
            obtain ⟨rfl, rfl⟩ := leaf_s hf
            exact wm_iret C dX12_at_156 (Nat.zero_le _) (Nat.zero_le _) FD.rf
          · have hf := ite_f h18 hf
            refine wm_tableOut C dX12_at_11 (by have a0 := i32_ne (h5); have a1 := i32_ne (h8); have a2 := i32_ne (h12); have a3 := i32_ne (h18); rw [show (0 : Int32).toInt = 0 from by decide] at a0; rw [show (1 : Int32).toInt = 1 from by decide] at a1; rw [show (2 : Int32).toInt = 2 from by decide] at a2; rw [show (3 : Int32).toInt = 3 from by decide] at a3; omega) 157 (by decide) ?_
            refine wm_bipush (v := (-2)) C dX12_at_157 (by decide) (pc' := 159) rfl ?_
            obtain ⟨rfl, rfl⟩ := leaf_s hf
            exact wm_iret C dX12_at_159 (Nat.zero_le _) (Nat.zero_le _) FD.rf
  · have hf := ite_f h4 hf
    refine wm_ikonst (v := (-1)) C dX12_at_8 (by decide) (pc' := 9) rfl ?_
    obtain ⟨rfl, rfl⟩ := leaf_s hf
    exact wm_iret C dX12_at_9 (Nat.zero_le _) (Nat.zero_le _) FD.rf
def fX12_head_J17 (s : MS) : Option (Int64 × MS) :=
  bnd (fX12_lost) (fun r5 u6 => some (r5, s))
def fX12_head (x1 : Int32) (x2 : Int32) (σ : MS) : Option (Int64 × MS) :=
  bnd (fX12_noJoint x1 σ) (fun r1 s2 => if ¬ r1 = 0 then fX12_head_J17 s2 else bnd (fX12_among x2 0 1) (fun r8 u9 => if ¬ r8 = 0 then bnd (fX12_findHeads s2) (fun r12 s13 => if ¬ (x1 < 0 ∨ 6 ≤ x1.toNatClampNeg) then if (gA s13 13 x1.toNatClampNeg) = 0 then bnd (fX12_lost) (fun r17 u18 => some (r17, s13)) else if ¬ (x1 < 0 ∨ 6 ≤ x1.toNatClampNeg) then bnd (fX12_lowest (gB s13 14 x1.toNatClampNeg) (gL s13) x2 s13) (fun r21 s22 => some (r21, s22)) else none else none) else fX12_head_J17 s2))
theorem in_X12_head : ∀ w ∈ u_ws RX12 TX12 39, w ∈ wsX12_head := by decide +kernel
set_option maxHeartbeats 4000000 in
set_option maxRecDepth 100000 in
theorem kX12_head (l : Launch) (D : va_G) (τ : CId) (q : Nat → Nat) (σ : MS) (x1 : Int32) (x2 : Int32) (rE : Int64) (sE : MS) (hf : fX12_head x1 x2 σ = some (rE, sE)) : Ct l D τ yX12_head wsX12_head { frames := 3, cells := 0, slots := 0, locals := 71 } [.ref (q 0), .int x1, .int x2] (mW τ q σ) (FD (mW τ q sE) (some (.long rE))) := by
  unfold fX12_head at hf
  refine ct_of (cc := cX12_head) (maxL := 3) (ret := (some .long)) (by decide) rfl (Nat.le_of_ble_eq_true rfl) (fun Γ C => ?_)
  refine wm_lv (lv' := [(0, .ref (q 0)), (1, .int x1), (2, .int x2)]) rfl ?_
  have wJ_17 : ∀ (s : MS), fX12_head_J17 s = some (rE, sE) → WM l D Γ 3 0 0 (mW τ q s) 17 [] [] := by
    intro  s hf
    unfold fX12_head_J17 at hf
    obtain ⟨r5, u6, h7, hf⟩ := bnd_s hf
    refine wm_callSd (nn := 0) (As := []) (rest := []) (st' := [.long r5]) C dX12_head_17 (kX12_lost l D τ r5 h7) gX12_head_X12_lost rfl (by decide +kernel) ⟨Nat.le_of_ble_eq_true rfl, Nat.le_of_ble_eq_true rfl⟩ rfl rfl ⟨Nat.zero_le _, Nat.zero_le _⟩ rfl rfl (Nat.le_of_ble_eq_true rfl) rfl (pc' := 20) rfl ?_
    obtain ⟨rfl, rfl⟩ := leaf_s hf
    exact wm_lret C dX12_head_20 (Nat.zero_le _) (Nat.zero_le _) FD.rf
  refine wm_aload_n C dX12_head_0 0 rfl (pc' := 1) rfl ?_
  refine wm_iload_n C dX12_head_1 1 rfl (pc' := 2) rfl ?_
  obtain ⟨r1, s2, h3, hf⟩ := bnd_s hf
  refine wm_callVd (nn := 1) (As := [.int x1]) (rest := []) (st' := [.int r1]) C dX12_head_2 (kX12_noJoint l D τ q σ x1 r1 s2 h3) gX12_head_X12_noJoint rfl (by decide +kernel) ⟨Nat.le_of_ble_eq_true rfl, Nat.le_of_ble_eq_true rfl⟩ rfl rfl ⟨Nat.zero_le _, Nat.zero_le _⟩ 0 rfl rfl rfl rfl (Nat.le_of_ble_eq_true rfl) rfl (pc' := 5) rfl ?_
  refine wm_if_ne C dX12_head_5 17 (by decide) (pc' := 8) rfl (fun h4 => ?_) (fun h4 => ?_)
  · have hf := ite_t h4 hf
    refine wm_sub (lv' := []) [] rfl ?_
    exact wJ_17 s2 hf
  · have hf := ite_f (fun h => h h4) hf
    refine wm_iload_n C dX12_head_8 2 rfl (pc' := 9) rfl ?_
    refine wm_ikonst (v := 0) C dX12_head_9 (by decide) (pc' := 10) rfl ?_
    refine wm_ikonst (v := 1) C dX12_head_10 (by decide) (pc' := 11) rfl ?_
    obtain ⟨r8, u9, h10, hf⟩ := bnd_s hf
    refine wm_callSd (nn := 3) (As := [.int x2, .int 0, .int 1]) (rest := []) (st' := [.int r8]) C dX12_head_11 (kX12_among l D τ x2 0 1 r8 h10) gX12_head_X12_among rfl (by decide +kernel) ⟨Nat.le_of_ble_eq_true rfl, Nat.le_of_ble_eq_true rfl⟩ rfl rfl ⟨Nat.zero_le _, Nat.zero_le _⟩ rfl rfl (Nat.le_of_ble_eq_true rfl) rfl (pc' := 14) rfl ?_
    refine wm_if_ne C dX12_head_14 21 (by decide) (pc' := 17) rfl (fun h11 => ?_) (fun h11 => ?_)
    · have hf := ite_t h11 hf
      refine wm_aload_n C dX12_head_21 0 rfl (pc' := 22) rfl ?_
      obtain ⟨r12, s13, h14, hf⟩ := bnd_s hf
      refine wm_callVd (nn := 0) (As := []) (rest := []) (st' := []) C dX12_head_22 (kX12_findHeads l D τ q s2 s13 h14) gX12_head_X12_findHeads rfl (by decide +kernel) ⟨Nat.le_of_ble_eq_true rfl, Nat.le_of_ble_eq_true rfl⟩ rfl rfl ⟨Nat.zero_le _, Nat.zero_le _⟩ 0 rfl rfl rfl rfl (Nat.le_of_ble_eq_true rfl) rfl (pc' := 25) rfl ?_
      refine wm_aload_n C dX12_head_25 0 rfl (pc' := 26) rfl ?_
      refine m_get (v := .ref (q 13)) C dX12_head_26 in_X12_head 13 (by decide) (by decide +kernel) rfl rfl (pc' := 29) rfl ?_
      refine wm_iload_n C dX12_head_29 1 rfl (pc' := 30) rfl ?_
      obtain ⟨h15, hf⟩ := chk_s hf
      refine wm_zald (f := gA s13 13) (N := 6) (cA := τ.2.2.1) C dX12_head_30 9 mA_13 rfl h15 (pc' := 31) rfl ?_
      refine wm_if_eq C dX12_head_31 52 (by decide) (pc' := 34) rfl (fun h16 => ?_) (fun h16 => ?_)
      · have hf := ite_t h16 hf
        obtain ⟨r17, u18, h19, hf⟩ := bnd_s hf
        refine wm_callSd (nn := 0) (As := []) (rest := []) (st' := [.long r17]) C dX12_head_52 (kX12_lost l D τ r17 h19) gX12_head_X12_lost rfl (by decide +kernel) ⟨Nat.le_of_ble_eq_true rfl, Nat.le_of_ble_eq_true rfl⟩ rfl rfl ⟨Nat.zero_le _, Nat.zero_le _⟩ rfl rfl (Nat.le_of_ble_eq_true rfl) rfl (pc' := 55) rfl ?_
        obtain ⟨rfl, rfl⟩ := leaf_s hf
        exact wm_lret C dX12_head_55 (Nat.zero_le _) (Nat.zero_le _) FD.rf
      · have hf := ite_f h16 hf
        refine wm_aload_n C dX12_head_34 0 rfl (pc' := 35) rfl ?_
        refine wm_aload_n C dX12_head_35 0 rfl (pc' := 36) rfl ?_
        refine m_get (v := .ref (q 14)) C dX12_head_36 in_X12_head 14 (by decide) (by decide +kernel) rfl rfl (pc' := 39) rfl ?_
        refine wm_iload_n C dX12_head_39 1 rfl (pc' := 40) rfl ?_
        obtain ⟨h20, hf⟩ := chk_s hf
        refine wm_lald (f := gB s13 14) (N := 6) (cA := τ.2.1) C dX12_head_40 10 mA_14 rfl h20 (pc' := 41) rfl ?_
        refine wm_aload_n C dX12_head_41 0 rfl (pc' := 42) rfl ?_
        refine m_get (v := .long (gL s13)) C dX12_head_42 in_X12_head 15 (by decide) (by decide +kernel) rfl rfl (pc' := 45) rfl ?_
        refine wm_iload_n C dX12_head_45 2 rfl (pc' := 46) rfl ?_
        obtain ⟨r21, s22, h23, hf⟩ := bnd_s hf
        refine wm_callVd (nn := 3) (As := [.long (gB s13 14 x1.toNatClampNeg), .long (gL s13), .int x2]) (rest := []) (st' := [.long r21]) C dX12_head_46 (kX12_lowest l D τ q s13 (gB s13 14 x1.toNatClampNeg) (gL s13) x2 r21 s22 h23) gX12_head_X12_lowest rfl (by decide +kernel) ⟨Nat.le_of_ble_eq_true rfl, Nat.le_of_ble_eq_true rfl⟩ rfl rfl ⟨Nat.zero_le _, Nat.zero_le _⟩ 0 rfl rfl rfl rfl (Nat.le_of_ble_eq_true rfl) rfl (pc' := 49) rfl ?_
        refine wm_goto C dX12_head_49 55 (by decide) ?_
        obtain ⟨rfl, rfl⟩ := leaf_s hf
        exact wm_lret C dX12_head_55 (Nat.zero_le _) (Nat.zero_le _) FD.rf
    · have hf := ite_f (fun h => h h11) hf
      refine wm_sub (lv' := []) [] rfl ?_
      exact wJ_17 s2 hf
def fX12_flowOf (x1 : Int32) (σ : MS) : Option (Int64 × MS) :=
  if ¬ (x1 < 0 ∨ 12 ≤ x1.toNatClampNeg) then if (gA σ 8 x1.toNatClampNeg) = 0 then some (0, σ) else if ¬ (x1 < 0 ∨ 12 ≤ x1.toNatClampNeg) then if ¬ ((gA σ 5 x1.toNatClampNeg) < 0 ∨ 6 ≤ (gA σ 5 x1.toNatClampNeg).toNatClampNeg) then if (gA σ 13 (gA σ 5 x1.toNatClampNeg).toNatClampNeg) = 0 then some (0, σ) else if ¬ (x1 < 0 ∨ 12 ≤ x1.toNatClampNeg) then if ¬ ((gA σ 6 x1.toNatClampNeg) < 0 ∨ 6 ≤ (gA σ 6 x1.toNatClampNeg).toNatClampNeg) then if ¬ (gA σ 13 (gA σ 6 x1.toNatClampNeg).toNatClampNeg) = 0 then bnd (fX12_lets x1 σ) (fun r9 s10 => if ¬ (x1 < 0 ∨ 12 ≤ x1.toNatClampNeg) then if ¬ ((gA s10 5 x1.toNatClampNeg) < 0 ∨ 6 ≤ (gA s10 5 x1.toNatClampNeg).toNatClampNeg) then if ¬ (x1 < 0 ∨ 12 ≤ x1.toNatClampNeg) then if ¬ ((gA s10 6 x1.toNatClampNeg) < 0 ∨ 6 ≤ (gA s10 6 x1.toNatClampNeg).toNatClampNeg) then some (r9.toInt64 * ((gB s10 14 (gA s10 5 x1.toNatClampNeg).toNatClampNeg) - (gB s10 14 (gA s10 6 x1.toNatClampNeg).toNatClampNeg)), s10) else none else none else none else none) else some (0, σ) else none else none else none else none else none
theorem in_X12_flowOf : ∀ w ∈ u_ws RX12 TX12 39, w ∈ wsX12_flowOf := by decide +kernel
set_option maxHeartbeats 4000000 in
set_option maxRecDepth 100000 in
theorem kX12_flowOf (l : Launch) (D : va_G) (τ : CId) (q : Nat → Nat) (σ : MS) (x1 : Int32) (rE : Int64) (sE : MS) (hf : fX12_flowOf x1 σ = some (rE, sE)) : Ct l D τ yX12_flowOf wsX12_flowOf { frames := 1, cells := 0, slots := 0, locals := 21 } [.ref (q 0), .int x1] (mW τ q σ) (FD (mW τ q sE) (some (.long rE))) := by
  unfold fX12_flowOf at hf
  refine ct_of (cc := cX12_flowOf) (maxL := 2) (ret := (some .long)) (by decide) rfl (Nat.le_of_ble_eq_true rfl) (fun Γ C => ?_)
  refine wm_lv (lv' := [(0, .ref (q 0)), (1, .int x1)]) rfl ?_
  refine wm_aload_n C dX12_flowOf_0 0 rfl (pc' := 1) rfl ?_
  refine m_get (v := .ref (q 8)) C dX12_flowOf_1 in_X12_flowOf 8 (by decide) (by decide +kernel) rfl rfl (pc' := 4) rfl ?_
  refine wm_iload_n C dX12_flowOf_4 1 rfl (pc' := 5) rfl ?_
  obtain ⟨h1, hf⟩ := chk_s hf
  refine wm_iald (f := gA σ 8) (N := 12) (cA := τ.1) C dX12_flowOf_5 6 mA_8 rfl h1 (pc' := 6) rfl ?_
  refine wm_if_eq C dX12_flowOf_6 37 (by decide) (pc' := 9) rfl (fun h2 => ?_) (fun h2 => ?_)
  · have hf := ite_t h2 hf
    refine wm_lkonst (v := 0) C dX12_flowOf_37 (by decide) (pc' := 38) rfl ?_
    refine wm_goto C dX12_flowOf_38 71 (by decide) ?_
    obtain ⟨rfl, rfl⟩ := leaf_s hf
    exact wm_lret C dX12_flowOf_71 (Nat.zero_le _) (Nat.zero_le _) FD.rf
  · have hf := ite_f h2 hf
    refine wm_aload_n C dX12_flowOf_9 0 rfl (pc' := 10) rfl ?_
    refine m_get (v := .ref (q 13)) C dX12_flowOf_10 in_X12_flowOf 13 (by decide) (by decide +kernel) rfl rfl (pc' := 13) rfl ?_
    refine wm_aload_n C dX12_flowOf_13 0 rfl (pc' := 14) rfl ?_
    refine m_get (v := .ref (q 5)) C dX12_flowOf_14 in_X12_flowOf 5 (by decide) (by decide +kernel) rfl rfl (pc' := 17) rfl ?_
    refine wm_iload_n C dX12_flowOf_17 1 rfl (pc' := 18) rfl ?_
    obtain ⟨h3, hf⟩ := chk_s hf
    refine wm_iald (f := gA σ 5) (N := 12) (cA := τ.1) C dX12_flowOf_18 3 mA_5 rfl h3 (pc' := 19) rfl ?_
    obtain ⟨h4, hf⟩ := chk_s hf
    refine wm_zald (f := gA σ 13) (N := 6) (cA := τ.2.2.1) C dX12_flowOf_19 9 mA_13 rfl h4 (pc' := 20) rfl ?_
    refine wm_if_eq C dX12_flowOf_20 37 (by decide) (pc' := 23) rfl (fun h5 => ?_) (fun h5 => ?_)
    · have hf := ite_t h5 hf
      refine wm_lkonst (v := 0) C dX12_flowOf_37 (by decide) (pc' := 38) rfl ?_
      refine wm_goto C dX12_flowOf_38 71 (by decide) ?_
      obtain ⟨rfl, rfl⟩ := leaf_s hf
      exact wm_lret C dX12_flowOf_71 (Nat.zero_le _) (Nat.zero_le _) FD.rf
    · have hf := ite_f h5 hf
      refine wm_aload_n C dX12_flowOf_23 0 rfl (pc' := 24) rfl ?_
      refine m_get (v := .ref (q 13)) C dX12_flowOf_24 in_X12_flowOf 13 (by decide) (by decide +kernel) rfl rfl (pc' := 27) rfl ?_
      refine wm_aload_n C dX12_flowOf_27 0 rfl (pc' := 28) rfl ?_
      refine m_get (v := .ref (q 6)) C dX12_flowOf_28 in_X12_flowOf 6 (by decide) (by decide +kernel) rfl rfl (pc' := 31) rfl ?_
      refine wm_iload_n C dX12_flowOf_31 1 rfl (pc' := 32) rfl ?_
      obtain ⟨h6, hf⟩ := chk_s hf
      refine wm_iald (f := gA σ 6) (N := 12) (cA := τ.1) C dX12_flowOf_32 4 mA_6 rfl h6 (pc' := 33) rfl ?_
      obtain ⟨h7, hf⟩ := chk_s hf
      refine wm_zald (f := gA σ 13) (N := 6) (cA := τ.2.2.1) C dX12_flowOf_33 9 mA_13 rfl h7 (pc' := 34) rfl ?_
      refine wm_if_ne C dX12_flowOf_34 41 (by decide) (pc' := 37) rfl (fun h8 => ?_) (fun h8 => ?_)
      · have hf := ite_t h8 hf
        refine wm_aload_n C dX12_flowOf_41 0 rfl (pc' := 42) rfl ?_
        refine wm_iload_n C dX12_flowOf_42 1 rfl (pc' := 43) rfl ?_
        obtain ⟨r9, s10, h11, hf⟩ := bnd_s hf
        refine wm_callVd (nn := 1) (As := [.int x1]) (rest := []) (st' := [.int r9]) C dX12_flowOf_43 (kX12_lets l D τ q σ x1 r9 s10 h11) gX12_flowOf_X12_lets rfl (by decide +kernel) ⟨Nat.le_of_ble_eq_true rfl, Nat.le_of_ble_eq_true rfl⟩ rfl rfl ⟨Nat.zero_le _, Nat.zero_le _⟩ 0 rfl rfl rfl rfl (Nat.le_of_ble_eq_true rfl) rfl (pc' := 46) rfl ?_
        refine wm_i2l C dX12_flowOf_46 (pc' := 47) rfl ?_
        refine wm_aload_n C dX12_flowOf_47 0 rfl (pc' := 48) rfl ?_
        refine m_get (v := .ref (q 14)) C dX12_flowOf_48 in_X12_flowOf 14 (by decide) (by decide +kernel) rfl rfl (pc' := 51) rfl ?_
        refine wm_aload_n C dX12_flowOf_51 0 rfl (pc' := 52) rfl ?_
        refine m_get (v := .ref (q 5)) C dX12_flowOf_52 in_X12_flowOf 5 (by decide) (by decide +kernel) rfl rfl (pc' := 55) rfl ?_
        refine wm_iload_n C dX12_flowOf_55 1 rfl (pc' := 56) rfl ?_
        obtain ⟨h12, hf⟩ := chk_s hf
        refine wm_iald (f := gA s10 5) (N := 12) (cA := τ.1) C dX12_flowOf_56 3 mA_5 rfl h12 (pc' := 57) rfl ?_
        obtain ⟨h13, hf⟩ := chk_s hf
        refine wm_lald (f := gB s10 14) (N := 6) (cA := τ.2.1) C dX12_flowOf_57 10 mA_14 rfl h13 (pc' := 58) rfl ?_
        refine wm_aload_n C dX12_flowOf_58 0 rfl (pc' := 59) rfl ?_
        refine m_get (v := .ref (q 14)) C dX12_flowOf_59 in_X12_flowOf 14 (by decide) (by decide +kernel) rfl rfl (pc' := 62) rfl ?_
        refine wm_aload_n C dX12_flowOf_62 0 rfl (pc' := 63) rfl ?_
        refine m_get (v := .ref (q 6)) C dX12_flowOf_63 in_X12_flowOf 6 (by decide) (by decide +kernel) rfl rfl (pc' := 66) rfl ?_
        refine wm_iload_n C dX12_flowOf_66 1 rfl (pc' := 67) rfl ?_
        obtain ⟨h14, hf⟩ := chk_s hf
        refine wm_iald (f := gA s10 6) (N := 12) (cA := τ.1) C dX12_flowOf_67 4 mA_6 rfl h14 (pc' := 68) rfl ?_
        obtain ⟨h15, hf⟩ := chk_s hf
        refine wm_lald (f := gB s10 14) (N := 6) (cA := τ.2.1) C dX12_flowOf_68 10 mA_14 rfl h15 (pc' := 69) rfl ?_
        refine wm_lsub C dX12_flowOf_69 (pc' := 70) rfl ?_
        refine wm_lmul C dX12_flowOf_70 (pc' := 71) rfl ?_
        obtain ⟨rfl, rfl⟩ := leaf_s hf
        exact wm_lret C dX12_flowOf_71 (Nat.zero_le _) (Nat.zero_le _) FD.rf
      · have hf := ite_f (fun h => h h8) hf
        refine wm_lkonst (v := 0) C dX12_flowOf_37 (by decide) (pc' := 38) rfl ?_
        refine wm_goto C dX12_flowOf_38 71 (by decide) ?_
        obtain ⟨rfl, rfl⟩ := leaf_s hf
        exact wm_lret C dX12_flowOf_71 (Nat.zero_le _) (Nat.zero_le _) FD.rf
def fX12_flow_J17 (s : MS) : Option (Int64 × MS) :=
  bnd (fX12_lost) (fun r5 u6 => some (r5, s))
def fX12_flow (x1 : Int32) (x2 : Int32) (σ : MS) : Option (Int64 × MS) :=
  bnd (fX12_noCrack x1 σ) (fun r1 s2 => if ¬ r1 = 0 then fX12_flow_J17 s2 else bnd (fX12_among x2 0 1) (fun r8 u9 => if ¬ r8 = 0 then bnd (fX12_findHeads s2) (fun r12 s13 => bnd (fX12_flowOf x1 s13) (fun r15 s16 => bnd (fX12_lowest r15 (gL s16) x2 s16) (fun r18 s19 => some (r18, s19)))) else fX12_flow_J17 s2))
theorem in_X12_flow : ∀ w ∈ u_ws RX12 TX12 39, w ∈ wsX12_flow := by decide +kernel
set_option maxHeartbeats 4000000 in
set_option maxRecDepth 100000 in
theorem kX12_flow (l : Launch) (D : va_G) (τ : CId) (q : Nat → Nat) (σ : MS) (x1 : Int32) (x2 : Int32) (rE : Int64) (sE : MS) (hf : fX12_flow x1 x2 σ = some (rE, sE)) : Ct l D τ yX12_flow wsX12_flow { frames := 3, cells := 0, slots := 0, locals := 71 } [.ref (q 0), .int x1, .int x2] (mW τ q σ) (FD (mW τ q sE) (some (.long rE))) := by
  unfold fX12_flow at hf
  refine ct_of (cc := cX12_flow) (maxL := 3) (ret := (some .long)) (by decide) rfl (Nat.le_of_ble_eq_true rfl) (fun Γ C => ?_)
  refine wm_lv (lv' := [(0, .ref (q 0)), (1, .int x1), (2, .int x2)]) rfl ?_
  have wJ_17 : ∀ (s : MS), fX12_flow_J17 s = some (rE, sE) → WM l D Γ 3 0 0 (mW τ q s) 17 [] [] := by
    intro  s hf
    unfold fX12_flow_J17 at hf
    obtain ⟨r5, u6, h7, hf⟩ := bnd_s hf
    refine wm_callSd (nn := 0) (As := []) (rest := []) (st' := [.long r5]) C dX12_flow_17 (kX12_lost l D τ r5 h7) gX12_flow_X12_lost rfl (by decide +kernel) ⟨Nat.le_of_ble_eq_true rfl, Nat.le_of_ble_eq_true rfl⟩ rfl rfl ⟨Nat.zero_le _, Nat.zero_le _⟩ rfl rfl (Nat.le_of_ble_eq_true rfl) rfl (pc' := 20) rfl ?_
    obtain ⟨rfl, rfl⟩ := leaf_s hf
    exact wm_lret C dX12_flow_20 (Nat.zero_le _) (Nat.zero_le _) FD.rf
  refine wm_aload_n C dX12_flow_0 0 rfl (pc' := 1) rfl ?_
  refine wm_iload_n C dX12_flow_1 1 rfl (pc' := 2) rfl ?_
  obtain ⟨r1, s2, h3, hf⟩ := bnd_s hf
  refine wm_callVd (nn := 1) (As := [.int x1]) (rest := []) (st' := [.int r1]) C dX12_flow_2 (kX12_noCrack l D τ q σ x1 r1 s2 h3) gX12_flow_X12_noCrack rfl (by decide +kernel) ⟨Nat.le_of_ble_eq_true rfl, Nat.le_of_ble_eq_true rfl⟩ rfl rfl ⟨Nat.zero_le _, Nat.zero_le _⟩ 0 rfl rfl rfl rfl (Nat.le_of_ble_eq_true rfl) rfl (pc' := 5) rfl ?_
  refine wm_if_ne C dX12_flow_5 17 (by decide) (pc' := 8) rfl (fun h4 => ?_) (fun h4 => ?_)
  · have hf := ite_t h4 hf
    refine wm_sub (lv' := []) [] rfl ?_
    exact wJ_17 s2 hf
  · have hf := ite_f (fun h => h h4) hf
    refine wm_iload_n C dX12_flow_8 2 rfl (pc' := 9) rfl ?_
    refine wm_ikonst (v := 0) C dX12_flow_9 (by decide) (pc' := 10) rfl ?_
    refine wm_ikonst (v := 1) C dX12_flow_10 (by decide) (pc' := 11) rfl ?_
    obtain ⟨r8, u9, h10, hf⟩ := bnd_s hf
    refine wm_callSd (nn := 3) (As := [.int x2, .int 0, .int 1]) (rest := []) (st' := [.int r8]) C dX12_flow_11 (kX12_among l D τ x2 0 1 r8 h10) gX12_flow_X12_among rfl (by decide +kernel) ⟨Nat.le_of_ble_eq_true rfl, Nat.le_of_ble_eq_true rfl⟩ rfl rfl ⟨Nat.zero_le _, Nat.zero_le _⟩ rfl rfl (Nat.le_of_ble_eq_true rfl) rfl (pc' := 14) rfl ?_
    refine wm_if_ne C dX12_flow_14 21 (by decide) (pc' := 17) rfl (fun h11 => ?_) (fun h11 => ?_)
    · have hf := ite_t h11 hf
      refine wm_aload_n C dX12_flow_21 0 rfl (pc' := 22) rfl ?_
      obtain ⟨r12, s13, h14, hf⟩ := bnd_s hf
      refine wm_callVd (nn := 0) (As := []) (rest := []) (st' := []) C dX12_flow_22 (kX12_findHeads l D τ q s2 s13 h14) gX12_flow_X12_findHeads rfl (by decide +kernel) ⟨Nat.le_of_ble_eq_true rfl, Nat.le_of_ble_eq_true rfl⟩ rfl rfl ⟨Nat.zero_le _, Nat.zero_le _⟩ 0 rfl rfl rfl rfl (Nat.le_of_ble_eq_true rfl) rfl (pc' := 25) rfl ?_
      refine wm_aload_n C dX12_flow_25 0 rfl (pc' := 26) rfl ?_
      refine wm_aload_n C dX12_flow_26 0 rfl (pc' := 27) rfl ?_
      refine wm_iload_n C dX12_flow_27 1 rfl (pc' := 28) rfl ?_
      obtain ⟨r15, s16, h17, hf⟩ := bnd_s hf
      refine wm_callVd (nn := 1) (As := [.int x1]) (rest := [.ref (q 0)]) (st' := [.long r15, .ref (q 0)]) C dX12_flow_28 (kX12_flowOf l D τ q s13 x1 r15 s16 h17) gX12_flow_X12_flowOf rfl (by decide +kernel) ⟨Nat.le_of_ble_eq_true rfl, Nat.le_of_ble_eq_true rfl⟩ rfl rfl ⟨Nat.zero_le _, Nat.zero_le _⟩ 0 rfl rfl rfl rfl (Nat.le_of_ble_eq_true rfl) rfl (pc' := 31) rfl ?_
      refine wm_aload_n C dX12_flow_31 0 rfl (pc' := 32) rfl ?_
      refine m_get (v := .long (gL s16)) C dX12_flow_32 in_X12_flow 15 (by decide) (by decide +kernel) rfl rfl (pc' := 35) rfl ?_
      refine wm_iload_n C dX12_flow_35 2 rfl (pc' := 36) rfl ?_
      obtain ⟨r18, s19, h20, hf⟩ := bnd_s hf
      refine wm_callVd (nn := 3) (As := [.long r15, .long (gL s16), .int x2]) (rest := []) (st' := [.long r18]) C dX12_flow_36 (kX12_lowest l D τ q s16 r15 (gL s16) x2 r18 s19 h20) gX12_flow_X12_lowest rfl (by decide +kernel) ⟨Nat.le_of_ble_eq_true rfl, Nat.le_of_ble_eq_true rfl⟩ rfl rfl ⟨Nat.zero_le _, Nat.zero_le _⟩ 0 rfl rfl rfl rfl (Nat.le_of_ble_eq_true rfl) rfl (pc' := 39) rfl ?_
      obtain ⟨rfl, rfl⟩ := leaf_s hf
      exact wm_lret C dX12_flow_39 (Nat.zero_le _) (Nat.zero_le _) FD.rf
    · have hf := ite_f (fun h => h h11) hf
      refine wm_sub (lv' := []) [] rfl ?_
      exact wJ_17 s2 hf
def fX12_inOf_J57 (rec : Int64 → Int32 → MS → Option (Int64 × MS)) (x1 : Int32) (x4 : Int32) (t0 : Int64) (t1 : Int64) (s : MS) : Option (Int64 × MS) :=
  rec (t1 + t0) (x4 + 1) s
def fX12_inOf_L5 (x1 : Int32) : Nat → Int64 → Int32 → MS → Option (Int64 × MS)
  | 0, _, _, _ => none
  | fu + 1, x2, x4, s => if (gI s 4) ≤ x4 then some (x2, s) else if ¬ (x4 < 0 ∨ 12 ≤ x4.toNatClampNeg) then if ¬ (gA s 5 x4.toNatClampNeg) = x1 then if ¬ (x4 < 0 ∨ 12 ≤ x4.toNatClampNeg) then if ¬ (gA s 6 x4.toNatClampNeg) = x1 then fX12_inOf_J57 (fX12_inOf_L5 x1 fu) x1 x4 0 x2 s else bnd (fX12_flowOf x4 s) (fun r6 s7 => fX12_inOf_J57 (fX12_inOf_L5 x1 fu) x1 x4 (-r6) x2 s7) else none else bnd (fX12_flowOf x4 s) (fun r9 s10 => fX12_inOf_J57 (fX12_inOf_L5 x1 fu) x1 x4 r9 x2 s10) else none
theorem fX12_inOf_L5_s (x1 : Int32) (fu : Nat) (x2 : Int64) (x4 : Int32) (s : MS) : fX12_inOf_L5 x1 (fu + 1) x2 x4 s = (if (gI s 4) ≤ x4 then some (x2, s) else if ¬ (x4 < 0 ∨ 12 ≤ x4.toNatClampNeg) then if ¬ (gA s 5 x4.toNatClampNeg) = x1 then if ¬ (x4 < 0 ∨ 12 ≤ x4.toNatClampNeg) then if ¬ (gA s 6 x4.toNatClampNeg) = x1 then fX12_inOf_J57 (fX12_inOf_L5 x1 fu) x1 x4 0 x2 s else bnd (fX12_flowOf x4 s) (fun r6 s7 => fX12_inOf_J57 (fX12_inOf_L5 x1 fu) x1 x4 (-r6) x2 s7) else none else bnd (fX12_flowOf x4 s) (fun r9 s10 => fX12_inOf_J57 (fX12_inOf_L5 x1 fu) x1 x4 r9 x2 s10) else none) := rfl
def fX12_inOf (x1 : Int32) (σ : MS) : Option (Int64 × MS) :=
  bnd (fX12_inOf_L5 x1 FU 0 0 σ) (fun v12 s13 => some (v12, s13))
theorem in_X12_inOf : ∀ w ∈ u_ws RX12 TX12 39, w ∈ wsX12_inOf := by decide +kernel
set_option maxHeartbeats 4000000 in
set_option maxRecDepth 100000 in
theorem kX12_inOf (l : Launch) (D : va_G) (τ : CId) (q : Nat → Nat) (σ : MS) (x1 : Int32) (rE : Int64) (sE : MS) (hf : fX12_inOf x1 σ = some (rE, sE)) : Ct l D τ yX12_inOf wsX12_inOf { frames := 2, cells := 0, slots := 0, locals := 42 } [.ref (q 0), .int x1] (mW τ q σ) (FD (mW τ q sE) (some (.long rE))) := by
  unfold fX12_inOf at hf
  refine ct_of (cc := cX12_inOf) (maxL := 5) (ret := (some .long)) (by decide) rfl (Nat.le_of_ble_eq_true rfl) (fun Γ C => ?_)
  refine wm_lv (lv' := [(0, .ref (q 0)), (1, .int x1)]) rfl ?_
  have wL_5 : ∀ (x1 : Int32) (fu : Nat) (x2 : Int64) (x4 : Int32) (s : MS) (v : Int64) (s' : MS), fX12_inOf_L5 x1 fu x2 x4 s = some (v, s') → WM l D Γ 5 0 0 (mW τ q s') 65 [(2, .long v)] [] → WM l D Γ 5 0 0 (mW τ q s) 5 [(0, .ref (q 0)), (1, .int x1), (2, .long x2), (4, .int x4)] [] := by
    intro x1
    intro fu
    induction fu with
    | zero => intro x2 x4 s v s' hf hE; exact absurd hf (fun h => nomatch (show (none : Option _) = some _ from h))
    | succ fu ih =>
      intro x2 x4 s v s' hf hE
      rw [fX12_inOf_L5_s] at hf
      have wJ_57 : ∀ (x4 : Int32) (t0 : Int64) (t1 : Int64) (s : MS) (v : Int64) (s' : MS), fX12_inOf_J57 (fX12_inOf_L5 x1 fu) x1 x4 t0 t1 s = some (v, s') → WM l D Γ 5 0 0 (mW τ q s') 65 [(2, .long v)] [] → WM l D Γ 5 0 0 (mW τ q s) 57 [(0, .ref (q 0)), (1, .int x1), (4, .int x4)] [.long t0, .long t1] := by
        intro x4 t0 t1 s v s' hf hE
        unfold fX12_inOf_J57 at hf
        refine wm_ladd C dX12_inOf_57 (pc' := 58) rfl ?_
        refine wm_lstore_n (lv' := [(2, .long (t1 + t0)), (0, .ref (q 0)), (1, .int x1), (4, .int x4)]) C dX12_inOf_58 (by decide) rfl (pc' := 59) rfl ?_
        refine wm_iinc (v := x4 + 1) (lv' := [(4, .int (x4 + 1)), (2, .long (t1 + t0)), (0, .ref (q 0)), (1, .int x1)]) C dX12_inOf_59 3 rfl rfl (by decide) rfl (pc' := 62) rfl ?_
        refine wm_goto C dX12_inOf_62 5 (by decide) ?_
        refine wm_sub (lv' := [(0, .ref (q 0)), (1, .int x1), (2, .long (t1 + t0)), (4, .int (x4 + 1))]) [2, 3, 1, 0] rfl ?_
        exact ih (t1 + t0) (x4 + 1) s _ _ hf hE
      refine wm_iload C dX12_inOf_5 3 rfl (pc' := 7) rfl ?_
      refine wm_aload_n C dX12_inOf_7 0 rfl (pc' := 8) rfl ?_
      refine m_get (v := .int (gI s 4)) C dX12_inOf_8 in_X12_inOf 4 (by decide) (by decide +kernel) rfl rfl (pc' := 11) rfl ?_
      refine wm_icmp_ge C dX12_inOf_11 65 (by decide) (pc' := 14) rfl (fun h1 => ?_) (fun h1 => ?_)
      · have hf := ite_t h1 hf
        obtain ⟨rfl, rfl⟩ := leaf_s hf
        refine wm_sub (lv' := [(2, .long x2)]) [2] rfl ?_
        exact hE
      · have hf := ite_f h1 hf
        refine wm_lload_n C dX12_inOf_14 2 rfl (pc' := 15) rfl ?_
        refine wm_aload_n C dX12_inOf_15 0 rfl (pc' := 16) rfl ?_
        refine m_get (v := .ref (q 5)) C dX12_inOf_16 in_X12_inOf 5 (by decide) (by decide +kernel) rfl rfl (pc' := 19) rfl ?_
        refine wm_iload C dX12_inOf_19 3 rfl (pc' := 21) rfl ?_
        obtain ⟨h2, hf⟩ := chk_s hf
        refine wm_iald (f := gA s 5) (N := 12) (cA := τ.1) C dX12_inOf_21 3 mA_5 rfl h2 (pc' := 22) rfl ?_
        refine wm_iload_n C dX12_inOf_22 1 rfl (pc' := 23) rfl ?_
        refine wm_icmp_ne C dX12_inOf_23 35 (by decide) (pc' := 26) rfl (fun h3 => ?_) (fun h3 => ?_)
        · have hf := ite_t h3 hf
          refine wm_aload_n C dX12_inOf_35 0 rfl (pc' := 36) rfl ?_
          refine m_get (v := .ref (q 6)) C dX12_inOf_36 in_X12_inOf 6 (by decide) (by decide +kernel) rfl rfl (pc' := 39) rfl ?_
          refine wm_iload C dX12_inOf_39 3 rfl (pc' := 41) rfl ?_
          obtain ⟨h4, hf⟩ := chk_s hf
          refine wm_iald (f := gA s 6) (N := 12) (cA := τ.1) C dX12_inOf_41 4 mA_6 rfl h4 (pc' := 42) rfl ?_
          refine wm_iload_n C dX12_inOf_42 1 rfl (pc' := 43) rfl ?_
          refine wm_icmp_ne C dX12_inOf_43 56 (by decide) (pc' := 46) rfl (fun h5 => ?_) (fun h5 => ?_)
          · have hf := ite_t h5 hf
            refine wm_lkonst (v := 0) C dX12_inOf_56 (by decide) (pc' := 57) rfl ?_
            refine wm_sub (lv' := [(0, .ref (q 0)), (1, .int x1), (4, .int x4)]) [0, 1, 3] rfl ?_
            exact wJ_57 x4 0 x2 s _ _ hf hE
          · have hf := ite_f (fun h => h h5) hf
            refine wm_aload_n C dX12_inOf_46 0 rfl (pc' := 47) rfl ?_
            refine wm_iload C dX12_inOf_47 3 rfl (pc' := 49) rfl ?_
            obtain ⟨r6, s7, h8, hf⟩ := bnd_s hf
            refine wm_callVd (nn := 1) (As := [.int x4]) (rest := [.long x2]) (st' := [.long r6, .long x2]) C dX12_inOf_49 (kX12_flowOf l D τ q s x4 r6 s7 h8) gX12_inOf_X12_flowOf rfl (by decide +kernel) ⟨Nat.le_of_ble_eq_true rfl, Nat.le_of_ble_eq_true rfl⟩ rfl rfl ⟨Nat.zero_le _, Nat.zero_le _⟩ 0 rfl rfl rfl rfl (Nat.le_of_ble_eq_true rfl) rfl (pc' := 52) rfl ?_
            refine wm_lneg C dX12_inOf_52 (pc' := 53) rfl ?_
            refine wm_goto C dX12_inOf_53 57 (by decide) ?_
            refine wm_sub (lv' := [(0, .ref (q 0)), (1, .int x1), (4, .int x4)]) [0, 1, 3] rfl ?_
            exact wJ_57 x4 (-r6) x2 s7 _ _ hf hE
        · have hf := ite_f (fun h => h h3) hf
          refine wm_aload_n C dX12_inOf_26 0 rfl (pc' := 27) rfl ?_
          refine wm_iload C dX12_inOf_27 3 rfl (pc' := 29) rfl ?_
          obtain ⟨r9, s10, h11, hf⟩ := bnd_s hf
          refine wm_callVd (nn := 1) (As := [.int x4]) (rest := [.long x2]) (st' := [.long r9, .long x2]) C dX12_inOf_29 (kX12_flowOf l D τ q s x4 r9 s10 h11) gX12_inOf_X12_flowOf rfl (by decide +kernel) ⟨Nat.le_of_ble_eq_true rfl, Nat.le_of_ble_eq_true rfl⟩ rfl rfl ⟨Nat.zero_le _, Nat.zero_le _⟩ 0 rfl rfl rfl rfl (Nat.le_of_ble_eq_true rfl) rfl (pc' := 32) rfl ?_
          refine wm_goto C dX12_inOf_32 57 (by decide) ?_
          refine wm_sub (lv' := [(0, .ref (q 0)), (1, .int x1), (4, .int x4)]) [0, 1, 3] rfl ?_
          exact wJ_57 x4 r9 x2 s10 _ _ hf hE
  refine wm_lkonst (v := 0) C dX12_inOf_0 (by decide) (pc' := 1) rfl ?_
  refine wm_lstore_n (lv' := [(2, .long 0), (0, .ref (q 0)), (1, .int x1)]) C dX12_inOf_1 (by decide) rfl (pc' := 2) rfl ?_
  refine wm_ikonst (v := 0) C dX12_inOf_2 (by decide) (pc' := 3) rfl ?_
  refine wm_istore (lv' := [(4, .int 0), (2, .long 0), (0, .ref (q 0)), (1, .int x1)]) C dX12_inOf_3 (by decide) rfl (pc' := 5) rfl ?_
  refine wm_sub (lv' := [(0, .ref (q 0)), (1, .int x1), (2, .long 0), (4, .int 0)]) [2, 3, 1, 0] rfl ?_
  obtain ⟨v12, s13, h14, hf⟩ := bnd_s hf
  refine wL_5 x1 FU 0 0 σ v12 s13 h14 ?_
  refine wm_lload_n C dX12_inOf_65 0 rfl (pc' := 66) rfl ?_
  obtain ⟨rfl, rfl⟩ := leaf_s hf
  exact wm_lret C dX12_inOf_66 (Nat.zero_le _) (Nat.zero_le _) FD.rf
def fX12_in_J26 (s : MS) : Option (Int64 × MS) :=
  bnd (fX12_lost) (fun r5 u6 => some (r5, s))
def fX12_in (x1 : Int32) (x2 : Int32) (σ : MS) : Option (Int64 × MS) :=
  bnd (fX12_noJoint x1 σ) (fun r1 s2 => if ¬ r1 = 0 then fX12_in_J26 s2 else bnd (fX12_among x2 0 1) (fun r8 u9 => if r8 = 0 then fX12_in_J26 s2 else if ¬ (x1 < 0 ∨ 6 ≤ x1.toNatClampNeg) then if ¬ (gA s2 2 x1.toNatClampNeg) = 0 then bnd (fX12_findHeads s2) (fun r14 s15 => bnd (fX12_inOf x1 s15) (fun r17 s18 => bnd (fX12_lowest r17 (gL s18) x2 s18) (fun r20 s21 => some (r20, s21)))) else fX12_in_J26 s2 else none))
theorem in_X12_in : ∀ w ∈ u_ws RX12 TX12 39, w ∈ wsX12_in := by decide +kernel
set_option maxHeartbeats 4000000 in
set_option maxRecDepth 100000 in
theorem kX12_in (l : Launch) (D : va_G) (τ : CId) (q : Nat → Nat) (σ : MS) (x1 : Int32) (x2 : Int32) (rE : Int64) (sE : MS) (hf : fX12_in x1 x2 σ = some (rE, sE)) : Ct l D τ yX12_in wsX12_in { frames := 3, cells := 0, slots := 0, locals := 71 } [.ref (q 0), .int x1, .int x2] (mW τ q σ) (FD (mW τ q sE) (some (.long rE))) := by
  unfold fX12_in at hf
  refine ct_of (cc := cX12_in) (maxL := 3) (ret := (some .long)) (by decide) rfl (Nat.le_of_ble_eq_true rfl) (fun Γ C => ?_)
  refine wm_lv (lv' := [(0, .ref (q 0)), (1, .int x1), (2, .int x2)]) rfl ?_
  have wJ_26 : ∀ (s : MS), fX12_in_J26 s = some (rE, sE) → WM l D Γ 3 0 0 (mW τ q s) 26 [] [] := by
    intro  s hf
    unfold fX12_in_J26 at hf
    obtain ⟨r5, u6, h7, hf⟩ := bnd_s hf
    refine wm_callSd (nn := 0) (As := []) (rest := []) (st' := [.long r5]) C dX12_in_26 (kX12_lost l D τ r5 h7) gX12_in_X12_lost rfl (by decide +kernel) ⟨Nat.le_of_ble_eq_true rfl, Nat.le_of_ble_eq_true rfl⟩ rfl rfl ⟨Nat.zero_le _, Nat.zero_le _⟩ rfl rfl (Nat.le_of_ble_eq_true rfl) rfl (pc' := 29) rfl ?_
    obtain ⟨rfl, rfl⟩ := leaf_s hf
    exact wm_lret C dX12_in_29 (Nat.zero_le _) (Nat.zero_le _) FD.rf
  refine wm_aload_n C dX12_in_0 0 rfl (pc' := 1) rfl ?_
  refine wm_iload_n C dX12_in_1 1 rfl (pc' := 2) rfl ?_
  obtain ⟨r1, s2, h3, hf⟩ := bnd_s hf
  refine wm_callVd (nn := 1) (As := [.int x1]) (rest := []) (st' := [.int r1]) C dX12_in_2 (kX12_noJoint l D τ q σ x1 r1 s2 h3) gX12_in_X12_noJoint rfl (by decide +kernel) ⟨Nat.le_of_ble_eq_true rfl, Nat.le_of_ble_eq_true rfl⟩ rfl rfl ⟨Nat.zero_le _, Nat.zero_le _⟩ 0 rfl rfl rfl rfl (Nat.le_of_ble_eq_true rfl) rfl (pc' := 5) rfl ?_
  refine wm_if_ne C dX12_in_5 26 (by decide) (pc' := 8) rfl (fun h4 => ?_) (fun h4 => ?_)
  · have hf := ite_t h4 hf
    refine wm_sub (lv' := []) [] rfl ?_
    exact wJ_26 s2 hf
  · have hf := ite_f (fun h => h h4) hf
    refine wm_iload_n C dX12_in_8 2 rfl (pc' := 9) rfl ?_
    refine wm_ikonst (v := 0) C dX12_in_9 (by decide) (pc' := 10) rfl ?_
    refine wm_ikonst (v := 1) C dX12_in_10 (by decide) (pc' := 11) rfl ?_
    obtain ⟨r8, u9, h10, hf⟩ := bnd_s hf
    refine wm_callSd (nn := 3) (As := [.int x2, .int 0, .int 1]) (rest := []) (st' := [.int r8]) C dX12_in_11 (kX12_among l D τ x2 0 1 r8 h10) gX12_in_X12_among rfl (by decide +kernel) ⟨Nat.le_of_ble_eq_true rfl, Nat.le_of_ble_eq_true rfl⟩ rfl rfl ⟨Nat.zero_le _, Nat.zero_le _⟩ rfl rfl (Nat.le_of_ble_eq_true rfl) rfl (pc' := 14) rfl ?_
    refine wm_if_eq C dX12_in_14 26 (by decide) (pc' := 17) rfl (fun h11 => ?_) (fun h11 => ?_)
    · have hf := ite_t h11 hf
      refine wm_sub (lv' := []) [] rfl ?_
      exact wJ_26 s2 hf
    · have hf := ite_f h11 hf
      refine wm_aload_n C dX12_in_17 0 rfl (pc' := 18) rfl ?_
      refine m_get (v := .ref (q 2)) C dX12_in_18 in_X12_in 2 (by decide) (by decide +kernel) rfl rfl (pc' := 21) rfl ?_
      refine wm_iload_n C dX12_in_21 1 rfl (pc' := 22) rfl ?_
      obtain ⟨h12, hf⟩ := chk_s hf
      refine wm_zald (f := gA s2 2) (N := 6) (cA := τ.2.2.1) C dX12_in_22 1 mA_2 rfl h12 (pc' := 23) rfl ?_
      refine wm_if_ne C dX12_in_23 30 (by decide) (pc' := 26) rfl (fun h13 => ?_) (fun h13 => ?_)
      · have hf := ite_t h13 hf
        refine wm_aload_n C dX12_in_30 0 rfl (pc' := 31) rfl ?_
        obtain ⟨r14, s15, h16, hf⟩ := bnd_s hf
        refine wm_callVd (nn := 0) (As := []) (rest := []) (st' := []) C dX12_in_31 (kX12_findHeads l D τ q s2 s15 h16) gX12_in_X12_findHeads rfl (by decide +kernel) ⟨Nat.le_of_ble_eq_true rfl, Nat.le_of_ble_eq_true rfl⟩ rfl rfl ⟨Nat.zero_le _, Nat.zero_le _⟩ 0 rfl rfl rfl rfl (Nat.le_of_ble_eq_true rfl) rfl (pc' := 34) rfl ?_
        refine wm_aload_n C dX12_in_34 0 rfl (pc' := 35) rfl ?_
        refine wm_aload_n C dX12_in_35 0 rfl (pc' := 36) rfl ?_
        refine wm_iload_n C dX12_in_36 1 rfl (pc' := 37) rfl ?_
        obtain ⟨r17, s18, h19, hf⟩ := bnd_s hf
        refine wm_callVd (nn := 1) (As := [.int x1]) (rest := [.ref (q 0)]) (st' := [.long r17, .ref (q 0)]) C dX12_in_37 (kX12_inOf l D τ q s15 x1 r17 s18 h19) gX12_in_X12_inOf rfl (by decide +kernel) ⟨Nat.le_of_ble_eq_true rfl, Nat.le_of_ble_eq_true rfl⟩ rfl rfl ⟨Nat.zero_le _, Nat.zero_le _⟩ 0 rfl rfl rfl rfl (Nat.le_of_ble_eq_true rfl) rfl (pc' := 40) rfl ?_
        refine wm_aload_n C dX12_in_40 0 rfl (pc' := 41) rfl ?_
        refine m_get (v := .long (gL s18)) C dX12_in_41 in_X12_in 15 (by decide) (by decide +kernel) rfl rfl (pc' := 44) rfl ?_
        refine wm_iload_n C dX12_in_44 2 rfl (pc' := 45) rfl ?_
        obtain ⟨r20, s21, h22, hf⟩ := bnd_s hf
        refine wm_callVd (nn := 3) (As := [.long r17, .long (gL s18), .int x2]) (rest := []) (st' := [.long r20]) C dX12_in_45 (kX12_lowest l D τ q s18 r17 (gL s18) x2 r20 s21 h22) gX12_in_X12_lowest rfl (by decide +kernel) ⟨Nat.le_of_ble_eq_true rfl, Nat.le_of_ble_eq_true rfl⟩ rfl rfl ⟨Nat.zero_le _, Nat.zero_le _⟩ 0 rfl rfl rfl rfl (Nat.le_of_ble_eq_true rfl) rfl (pc' := 48) rfl ?_
        obtain ⟨rfl, rfl⟩ := leaf_s hf
        exact wm_lret C dX12_in_48 (Nat.zero_le _) (Nat.zero_le _) FD.rf
      · have hf := ite_f (fun h => h h13) hf
        refine wm_sub (lv' := []) [] rfl ?_
        exact wJ_26 s2 hf
def fX12_work_J61 (rec : Int64 → Int32 → MS → Option (Int64 × MS)) (x1 : Int32) (x4 : Int32) (t0 : Int64) (t1 : Int64) (s : MS) : Option (Int64 × MS) :=
  rec (t1 + t0) (x4 + 1) s
def fX12_work_L22 (x1 : Int32) : Nat → Int64 → Int32 → MS → Option (Int64 × MS)
  | 0, _, _, _ => none
  | fu + 1, x2, x4, s => if (gI s 1) ≤ x4 then some (x2, s) else if ¬ (x4 < 0 ∨ 6 ≤ x4.toNatClampNeg) then if (gA s 2 x4.toNatClampNeg) = 0 then fX12_work_J61 (fX12_work_L22 x1 fu) x1 x4 0 x2 s else bnd (fX12_inOf x4 s) (fun r11 s12 => if ¬ (x4 < 0 ∨ 6 ≤ x4.toNatClampNeg) then fX12_work_J61 (fX12_work_L22 x1 fu) x1 x4 (r11 * ((gA s12 3 x4.toNatClampNeg).toInt64)) x2 s12 else none) else none
theorem fX12_work_L22_s (x1 : Int32) (fu : Nat) (x2 : Int64) (x4 : Int32) (s : MS) : fX12_work_L22 x1 (fu + 1) x2 x4 s = (if (gI s 1) ≤ x4 then some (x2, s) else if ¬ (x4 < 0 ∨ 6 ≤ x4.toNatClampNeg) then if (gA s 2 x4.toNatClampNeg) = 0 then fX12_work_J61 (fX12_work_L22 x1 fu) x1 x4 0 x2 s else bnd (fX12_inOf x4 s) (fun r11 s12 => if ¬ (x4 < 0 ∨ 6 ≤ x4.toNatClampNeg) then fX12_work_J61 (fX12_work_L22 x1 fu) x1 x4 (r11 * ((gA s12 3 x4.toNatClampNeg).toInt64)) x2 s12 else none) else none) := rfl
def fX12_work (x1 : Int32) (σ : MS) : Option (Int64 × MS) :=
  bnd (fX12_among x1 0 1) (fun r1 u2 => if ¬ r1 = 0 then bnd (fX12_findHeads σ) (fun r5 s6 => bnd (fX12_work_L22 x1 FU 0 0 s6) (fun v15 s16 => bnd (fX12_lowest v15 (gL s16) x1 s16) (fun r18 s19 => some (r18, s19)))) else bnd (fX12_lost) (fun r21 u22 => some (r21, σ)))
theorem in_X12_work : ∀ w ∈ u_ws RX12 TX12 39, w ∈ wsX12_work := by decide +kernel
set_option maxHeartbeats 4000000 in
set_option maxRecDepth 100000 in
theorem kX12_work (l : Launch) (D : va_G) (τ : CId) (q : Nat → Nat) (σ : MS) (x1 : Int32) (rE : Int64) (sE : MS) (hf : fX12_work x1 σ = some (rE, sE)) : Ct l D τ yX12_work wsX12_work { frames := 3, cells := 0, slots := 0, locals := 71 } [.ref (q 0), .int x1] (mW τ q σ) (FD (mW τ q sE) (some (.long rE))) := by
  unfold fX12_work at hf
  refine ct_of (cc := cX12_work) (maxL := 5) (ret := (some .long)) (by decide) rfl (Nat.le_of_ble_eq_true rfl) (fun Γ C => ?_)
  refine wm_lv (lv' := [(0, .ref (q 0)), (1, .int x1)]) rfl ?_
  have wL_22 : ∀ (x1 : Int32) (fu : Nat) (x2 : Int64) (x4 : Int32) (s : MS) (v : Int64) (s' : MS), fX12_work_L22 x1 fu x2 x4 s = some (v, s') → WM l D Γ 5 0 0 (mW τ q s') 69 [(0, .ref (q 0)), (1, .int x1), (2, .long v)] [] → WM l D Γ 5 0 0 (mW τ q s) 22 [(0, .ref (q 0)), (1, .int x1), (2, .long x2), (4, .int x4)] [] := by
    intro x1
    intro fu
    induction fu with
    | zero => intro x2 x4 s v s' hf hE; exact absurd hf (fun h => nomatch (show (none : Option _) = some _ from h))
    | succ fu ih =>
      intro x2 x4 s v s' hf hE
      rw [fX12_work_L22_s] at hf
      have wJ_61 : ∀ (x4 : Int32) (t0 : Int64) (t1 : Int64) (s : MS) (v : Int64) (s' : MS), fX12_work_J61 (fX12_work_L22 x1 fu) x1 x4 t0 t1 s = some (v, s') → WM l D Γ 5 0 0 (mW τ q s') 69 [(0, .ref (q 0)), (1, .int x1), (2, .long v)] [] → WM l D Γ 5 0 0 (mW τ q s) 61 [(0, .ref (q 0)), (1, .int x1), (4, .int x4)] [.long t0, .long t1] := by
        intro x4 t0 t1 s v s' hf hE
        unfold fX12_work_J61 at hf
        refine wm_ladd C dX12_work_61 (pc' := 62) rfl ?_
        refine wm_lstore_n (lv' := [(2, .long (t1 + t0)), (0, .ref (q 0)), (1, .int x1), (4, .int x4)]) C dX12_work_62 (by decide) rfl (pc' := 63) rfl ?_
        refine wm_iinc (v := x4 + 1) (lv' := [(4, .int (x4 + 1)), (2, .long (t1 + t0)), (0, .ref (q 0)), (1, .int x1)]) C dX12_work_63 3 rfl rfl (by decide) rfl (pc' := 66) rfl ?_
        refine wm_goto C dX12_work_66 22 (by decide) ?_
        refine wm_sub (lv' := [(0, .ref (q 0)), (1, .int x1), (2, .long (t1 + t0)), (4, .int (x4 + 1))]) [2, 3, 1, 0] rfl ?_
        exact ih (t1 + t0) (x4 + 1) s _ _ hf hE
      refine wm_iload C dX12_work_22 3 rfl (pc' := 24) rfl ?_
      refine wm_aload_n C dX12_work_24 0 rfl (pc' := 25) rfl ?_
      refine m_get (v := .int (gI s 1)) C dX12_work_25 in_X12_work 1 (by decide) (by decide +kernel) rfl rfl (pc' := 28) rfl ?_
      refine wm_icmp_ge C dX12_work_28 69 (by decide) (pc' := 31) rfl (fun h8 => ?_) (fun h8 => ?_)
      · have hf := ite_t h8 hf
        obtain ⟨rfl, rfl⟩ := leaf_s hf
        refine wm_sub (lv' := [(0, .ref (q 0)), (1, .int x1), (2, .long x2)]) [0, 1, 2] rfl ?_
        exact hE
      · have hf := ite_f h8 hf
        refine wm_lload_n C dX12_work_31 2 rfl (pc' := 32) rfl ?_
        refine wm_aload_n C dX12_work_32 0 rfl (pc' := 33) rfl ?_
        refine m_get (v := .ref (q 2)) C dX12_work_33 in_X12_work 2 (by decide) (by decide +kernel) rfl rfl (pc' := 36) rfl ?_
        refine wm_iload C dX12_work_36 3 rfl (pc' := 38) rfl ?_
        obtain ⟨h9, hf⟩ := chk_s hf
        refine wm_zald (f := gA s 2) (N := 6) (cA := τ.2.2.1) C dX12_work_38 1 mA_2 rfl h9 (pc' := 39) rfl ?_
        refine wm_if_eq C dX12_work_39 60 (by decide) (pc' := 42) rfl (fun h10 => ?_) (fun h10 => ?_)
        · have hf := ite_t h10 hf
          refine wm_lkonst (v := 0) C dX12_work_60 (by decide) (pc' := 61) rfl ?_
          refine wm_sub (lv' := [(0, .ref (q 0)), (1, .int x1), (4, .int x4)]) [0, 1, 3] rfl ?_
          exact wJ_61 x4 0 x2 s _ _ hf hE
        · have hf := ite_f h10 hf
          refine wm_aload_n C dX12_work_42 0 rfl (pc' := 43) rfl ?_
          refine wm_iload C dX12_work_43 3 rfl (pc' := 45) rfl ?_
          obtain ⟨r11, s12, h13, hf⟩ := bnd_s hf
          refine wm_callVd (nn := 1) (As := [.int x4]) (rest := [.long x2]) (st' := [.long r11, .long x2]) C dX12_work_45 (kX12_inOf l D τ q s x4 r11 s12 h13) gX12_work_X12_inOf rfl (by decide +kernel) ⟨Nat.le_of_ble_eq_true rfl, Nat.le_of_ble_eq_true rfl⟩ rfl rfl ⟨Nat.zero_le _, Nat.zero_le _⟩ 0 rfl rfl rfl rfl (Nat.le_of_ble_eq_true rfl) rfl (pc' := 48) rfl ?_
          refine wm_aload_n C dX12_work_48 0 rfl (pc' := 49) rfl ?_
          refine m_get (v := .ref (q 3)) C dX12_work_49 in_X12_work 3 (by decide) (by decide +kernel) rfl rfl (pc' := 52) rfl ?_
          refine wm_iload C dX12_work_52 3 rfl (pc' := 54) rfl ?_
          obtain ⟨h14, hf⟩ := chk_s hf
          refine wm_iald (f := gA s12 3) (N := 6) (cA := τ.1) C dX12_work_54 2 mA_3 rfl h14 (pc' := 55) rfl ?_
          refine wm_i2l C dX12_work_55 (pc' := 56) rfl ?_
          refine wm_lmul C dX12_work_56 (pc' := 57) rfl ?_
          refine wm_goto C dX12_work_57 61 (by decide) ?_
          refine wm_sub (lv' := [(0, .ref (q 0)), (1, .int x1), (4, .int x4)]) [0, 1, 3] rfl ?_
          exact wJ_61 x4 (r11 * ((gA s12 3 x4.toNatClampNeg).toInt64)) x2 s12 _ _ hf hE
  refine wm_iload_n C dX12_work_0 1 rfl (pc' := 1) rfl ?_
  refine wm_ikonst (v := 0) C dX12_work_1 (by decide) (pc' := 2) rfl ?_
  refine wm_ikonst (v := 1) C dX12_work_2 (by decide) (pc' := 3) rfl ?_
  obtain ⟨r1, u2, h3, hf⟩ := bnd_s hf
  refine wm_callSd (nn := 3) (As := [.int x1, .int 0, .int 1]) (rest := []) (st' := [.int r1]) C dX12_work_3 (kX12_among l D τ x1 0 1 r1 h3) gX12_work_X12_among rfl (by decide +kernel) ⟨Nat.le_of_ble_eq_true rfl, Nat.le_of_ble_eq_true rfl⟩ rfl rfl ⟨Nat.zero_le _, Nat.zero_le _⟩ rfl rfl (Nat.le_of_ble_eq_true rfl) rfl (pc' := 6) rfl ?_
  refine wm_if_ne C dX12_work_6 13 (by decide) (pc' := 9) rfl (fun h4 => ?_) (fun h4 => ?_)
  · have hf := ite_t h4 hf
    refine wm_aload_n C dX12_work_13 0 rfl (pc' := 14) rfl ?_
    obtain ⟨r5, s6, h7, hf⟩ := bnd_s hf
    refine wm_callVd (nn := 0) (As := []) (rest := []) (st' := []) C dX12_work_14 (kX12_findHeads l D τ q σ s6 h7) gX12_work_X12_findHeads rfl (by decide +kernel) ⟨Nat.le_of_ble_eq_true rfl, Nat.le_of_ble_eq_true rfl⟩ rfl rfl ⟨Nat.zero_le _, Nat.zero_le _⟩ 0 rfl rfl rfl rfl (Nat.le_of_ble_eq_true rfl) rfl (pc' := 17) rfl ?_
    refine wm_lkonst (v := 0) C dX12_work_17 (by decide) (pc' := 18) rfl ?_
    refine wm_lstore_n (lv' := [(2, .long 0), (0, .ref (q 0)), (1, .int x1)]) C dX12_work_18 (by decide) rfl (pc' := 19) rfl ?_
    refine wm_ikonst (v := 0) C dX12_work_19 (by decide) (pc' := 20) rfl ?_
    refine wm_istore (lv' := [(4, .int 0), (2, .long 0), (0, .ref (q 0)), (1, .int x1)]) C dX12_work_20 (by decide) rfl (pc' := 22) rfl ?_
    refine wm_sub (lv' := [(0, .ref (q 0)), (1, .int x1), (2, .long 0), (4, .int 0)]) [2, 3, 1, 0] rfl ?_
    obtain ⟨v15, s16, h17, hf⟩ := bnd_s hf
    refine wL_22 x1 FU 0 0 s6 v15 s16 h17 ?_
    refine wm_aload_n C dX12_work_69 0 rfl (pc' := 70) rfl ?_
    refine wm_lload_n C dX12_work_70 2 rfl (pc' := 71) rfl ?_
    refine wm_aload_n C dX12_work_71 0 rfl (pc' := 72) rfl ?_
    refine m_get (v := .long (gL s16)) C dX12_work_72 in_X12_work 15 (by decide) (by decide +kernel) rfl rfl (pc' := 75) rfl ?_
    refine wm_iload_n C dX12_work_75 1 rfl (pc' := 76) rfl ?_
    obtain ⟨r18, s19, h20, hf⟩ := bnd_s hf
    refine wm_callVd (nn := 3) (As := [.long v15, .long (gL s16), .int x1]) (rest := []) (st' := [.long r18]) C dX12_work_76 (kX12_lowest l D τ q s16 v15 (gL s16) x1 r18 s19 h20) gX12_work_X12_lowest rfl (by decide +kernel) ⟨Nat.le_of_ble_eq_true rfl, Nat.le_of_ble_eq_true rfl⟩ rfl rfl ⟨Nat.zero_le _, Nat.zero_le _⟩ 0 rfl rfl rfl rfl (Nat.le_of_ble_eq_true rfl) rfl (pc' := 79) rfl ?_
    obtain ⟨rfl, rfl⟩ := leaf_s hf
    exact wm_lret C dX12_work_79 (Nat.zero_le _) (Nat.zero_le _) FD.rf
  · have hf := ite_f (fun h => h h4) hf
    obtain ⟨r21, u22, h23, hf⟩ := bnd_s hf
    refine wm_callSd (nn := 0) (As := []) (rest := []) (st' := [.long r21]) C dX12_work_9 (kX12_lost l D τ r21 h23) gX12_work_X12_lost rfl (by decide +kernel) ⟨Nat.le_of_ble_eq_true rfl, Nat.le_of_ble_eq_true rfl⟩ rfl rfl ⟨Nat.zero_le _, Nat.zero_le _⟩ rfl rfl (Nat.le_of_ble_eq_true rfl) rfl (pc' := 12) rfl ?_
    obtain ⟨rfl, rfl⟩ := leaf_s hf
    exact wm_lret C dX12_work_12 (Nat.zero_le _) (Nat.zero_le _) FD.rf
