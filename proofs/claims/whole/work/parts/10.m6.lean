def fX12_keep_L129 : Nat → Int32 → MS → Option (Unit × MS)
  | 0, _, _ => none
  | fu + 1, x1, s => if (gI s 4) ≤ x1 then some ((), s) else if ¬ (x1 < 0 ∨ 12 ≤ x1.toNatClampNeg) then if ¬ (((12 * (gI s 29)) + x1) < 0 ∨ 96 ≤ ((12 * (gI s 29)) + x1).toNatClampNeg) then lets (sA s 32 ((12 * (gI s 29)) + x1).toNatClampNeg (gA s 8 x1.toNatClampNeg)) (fun s11 => if ¬ (x1 < 0 ∨ 12 ≤ x1.toNatClampNeg) then if ¬ (((12 * (gI s11 29)) + x1) < 0 ∨ 96 ≤ ((12 * (gI s11 29)) + x1).toNatClampNeg) then lets (sA s11 33 ((12 * (gI s11 29)) + x1).toNatClampNeg (gA s11 10 x1.toNatClampNeg)) (fun s15 => fX12_keep_L129 fu (x1 + 1) s15) else none else none) else none else none
theorem fX12_keep_L129_s (fu : Nat) (x1 : Int32) (s : MS) : fX12_keep_L129 (fu + 1) x1 s = (if (gI s 4) ≤ x1 then some ((), s) else if ¬ (x1 < 0 ∨ 12 ≤ x1.toNatClampNeg) then if ¬ (((12 * (gI s 29)) + x1) < 0 ∨ 96 ≤ ((12 * (gI s 29)) + x1).toNatClampNeg) then lets (sA s 32 ((12 * (gI s 29)) + x1).toNatClampNeg (gA s 8 x1.toNatClampNeg)) (fun s11 => if ¬ (x1 < 0 ∨ 12 ≤ x1.toNatClampNeg) then if ¬ (((12 * (gI s11 29)) + x1) < 0 ∨ 96 ≤ ((12 * (gI s11 29)) + x1).toNatClampNeg) then lets (sA s11 33 ((12 * (gI s11 29)) + x1).toNatClampNeg (gA s11 10 x1.toNatClampNeg)) (fun s15 => fX12_keep_L129 fu (x1 + 1) s15) else none else none) else none else none) := rfl
def fX12_keep_J101 (s : MS) : Option (Int32 × MS) :=
  if ¬ ((gI s 29) < 0 ∨ 8 ≤ (gI s 29).toNatClampNeg) then lets (sA s 30 (gI s 29).toNatClampNeg (gI s 4)) (fun s3 => if ¬ ((gI s3 29) < 0 ∨ 8 ≤ (gI s3 29).toNatClampNeg) then lets (sA s3 31 (gI s3 29).toNatClampNeg (gI s3 12)) (fun s6 => bnd (fX12_keep_L129 FU 0 s6) (fun v17 s18 => lets (sI s18 29 ((gI s18 29) + 1)) (fun s20 => some (gI s20 29, s20)))) else none) else none
def fX12_keep_L11 : Nat → Int32 → MS → Option (Unit × MS)
  | 0, _, _ => none
  | fu + 1, x1, s => if 7 ≤ x1 then some ((), s) else if ¬ ((x1 + 1) < 0 ∨ 8 ≤ (x1 + 1).toNatClampNeg) then if ¬ (x1 < 0 ∨ 8 ≤ x1.toNatClampNeg) then lets (sA s 30 x1.toNatClampNeg (gA s 30 (x1 + 1).toNatClampNeg)) (fun s25 => if ¬ ((x1 + 1) < 0 ∨ 8 ≤ (x1 + 1).toNatClampNeg) then if ¬ (x1 < 0 ∨ 8 ≤ x1.toNatClampNeg) then lets (sA s25 31 x1.toNatClampNeg (gA s25 31 (x1 + 1).toNatClampNeg)) (fun s29 => fX12_keep_L11 fu (x1 + 1) s29) else none else none) else none else none
theorem fX12_keep_L11_s (fu : Nat) (x1 : Int32) (s : MS) : fX12_keep_L11 (fu + 1) x1 s = (if 7 ≤ x1 then some ((), s) else if ¬ ((x1 + 1) < 0 ∨ 8 ≤ (x1 + 1).toNatClampNeg) then if ¬ (x1 < 0 ∨ 8 ≤ x1.toNatClampNeg) then lets (sA s 30 x1.toNatClampNeg (gA s 30 (x1 + 1).toNatClampNeg)) (fun s25 => if ¬ ((x1 + 1) < 0 ∨ 8 ≤ (x1 + 1).toNatClampNeg) then if ¬ (x1 < 0 ∨ 8 ≤ x1.toNatClampNeg) then lets (sA s25 31 x1.toNatClampNeg (gA s25 31 (x1 + 1).toNatClampNeg)) (fun s29 => fX12_keep_L11 fu (x1 + 1) s29) else none else none) else none else none) := rfl
def fX12_keep_L53 : Nat → Int32 → MS → Option (Unit × MS)
  | 0, _, _ => none
  | fu + 1, x1, s => if 84 ≤ x1 then some ((), s) else if ¬ ((x1 + 12) < 0 ∨ 96 ≤ (x1 + 12).toNatClampNeg) then if ¬ (x1 < 0 ∨ 96 ≤ x1.toNatClampNeg) then lets (sA s 32 x1.toNatClampNeg (gA s 32 (x1 + 12).toNatClampNeg)) (fun s37 => if ¬ ((x1 + 12) < 0 ∨ 96 ≤ (x1 + 12).toNatClampNeg) then if ¬ (x1 < 0 ∨ 96 ≤ x1.toNatClampNeg) then lets (sA s37 33 x1.toNatClampNeg (gA s37 33 (x1 + 12).toNatClampNeg)) (fun s41 => fX12_keep_L53 fu (x1 + 1) s41) else none else none) else none else none
theorem fX12_keep_L53_s (fu : Nat) (x1 : Int32) (s : MS) : fX12_keep_L53 (fu + 1) x1 s = (if 84 ≤ x1 then some ((), s) else if ¬ ((x1 + 12) < 0 ∨ 96 ≤ (x1 + 12).toNatClampNeg) then if ¬ (x1 < 0 ∨ 96 ≤ x1.toNatClampNeg) then lets (sA s 32 x1.toNatClampNeg (gA s 32 (x1 + 12).toNatClampNeg)) (fun s37 => if ¬ ((x1 + 12) < 0 ∨ 96 ≤ (x1 + 12).toNatClampNeg) then if ¬ (x1 < 0 ∨ 96 ≤ x1.toNatClampNeg) then lets (sA s37 33 x1.toNatClampNeg (gA s37 33 (x1 + 12).toNatClampNeg)) (fun s41 => fX12_keep_L53 fu (x1 + 1) s41) else none else none) else none else none) := rfl
def fX12_keep (σ : MS) : Option (Int32 × MS) :=
  if ¬ (gI σ 29) = 8 then fX12_keep_J101 σ else bnd (fX12_keep_L11 FU 0 σ) (fun v31 s32 => bnd (fX12_keep_L53 FU 0 s32) (fun v43 s44 => lets (sI s44 29 7) (fun s46 => fX12_keep_J101 s46)))
theorem in_X12_keep : ∀ w ∈ u_ws RX12 TX12 39, w ∈ wsX12_keep := by decide +kernel
set_option maxHeartbeats 4000000 in
set_option maxRecDepth 100000 in
theorem kX12_keep (l : Launch) (D : va_G) (τ : CId) (q : Nat → Nat) (σ : MS) (rE : Int32) (sE : MS) (hf : fX12_keep σ = some (rE, sE)) : Ct l D τ yX12_keep wsX12_keep { frames := 0, cells := 0, slots := 0, locals := 0 } [.ref (q 0)] (mW τ q σ) (FD (mW τ q sE) (some (.int rE))) := by
  unfold fX12_keep at hf
  refine ct_of (cc := cX12_keep) (maxL := 2) (ret := (some .int)) (by decide) rfl (Nat.le_of_ble_eq_true rfl) (fun Γ C => ?_)
  refine wm_lv (lv' := [(0, .ref (q 0))]) rfl ?_
  have wL_129 : ∀ (fu : Nat) (x1 : Int32) (s : MS) (v : Unit) (s' : MS), fX12_keep_L129 fu x1 s = some (v, s') → WM l D Γ 2 0 0 (mW τ q s') 183 [(0, .ref (q 0))] [] → WM l D Γ 2 0 0 (mW τ q s) 129 [(0, .ref (q 0)), (1, .int x1)] [] := by
    intro fu
    induction fu with
    | zero => intro x1 s v s' hf hE; exact absurd hf (fun h => nomatch (show (none : Option _) = some _ from h))
    | succ fu ih =>
      intro x1 s v s' hf hE
      rw [fX12_keep_L129_s] at hf
      refine wm_iload_n C dX12_keep_129 1 rfl (pc' := 130) rfl ?_
      refine wm_aload_n C dX12_keep_130 0 rfl (pc' := 131) rfl ?_
      refine m_get (v := .int (gI s 4)) C dX12_keep_131 in_X12_keep 4 (by decide) (by decide +kernel) rfl rfl (pc' := 134) rfl ?_
      refine wm_icmp_ge C dX12_keep_134 183 (by decide) (pc' := 137) rfl (fun h8 => ?_) (fun h8 => ?_)
      · have hf := ite_t h8 hf
        obtain ⟨rfl, rfl⟩ := leaf_s hf
        refine wm_sub (lv' := [(0, .ref (q 0))]) [0] rfl ?_
        exact hE
      · have hf := ite_f h8 hf
        refine wm_aload_n C dX12_keep_137 0 rfl (pc' := 138) rfl ?_
        refine m_get (v := .ref (q 32)) C dX12_keep_138 in_X12_keep 32 (by decide) (by decide +kernel) rfl rfl (pc' := 141) rfl ?_
        refine wm_bipush (v := 12) C dX12_keep_141 (by decide) (pc' := 143) rfl ?_
        refine wm_aload_n C dX12_keep_143 0 rfl (pc' := 144) rfl ?_
        refine m_get (v := .int (gI s 29)) C dX12_keep_144 in_X12_keep 29 (by decide) (by decide +kernel) rfl rfl (pc' := 147) rfl ?_
        refine wm_imul C dX12_keep_147 (pc' := 148) rfl ?_
        refine wm_iload_n C dX12_keep_148 1 rfl (pc' := 149) rfl ?_
        refine wm_iadd C dX12_keep_149 (pc' := 150) rfl ?_
        refine wm_aload_n C dX12_keep_150 0 rfl (pc' := 151) rfl ?_
        refine m_get (v := .ref (q 8)) C dX12_keep_151 in_X12_keep 8 (by decide) (by decide +kernel) rfl rfl (pc' := 154) rfl ?_
        refine wm_iload_n C dX12_keep_154 1 rfl (pc' := 155) rfl ?_
        obtain ⟨h9, hf⟩ := chk_s hf
        refine wm_iald (f := gA s 8) (N := 12) (cA := τ.1) C dX12_keep_155 6 mA_8 rfl h9 (pc' := 156) rfl ?_
        obtain ⟨h10, hf⟩ := chk_s hf
        obtain ⟨s11, e12, hf⟩ := lets_s hf
        refine wm_iast (f := gA s 32) (N := 96) (cA := τ.1) C dX12_keep_156 23 mA_32 rfl h10 (Wd' := mW τ q s11) ((mS_32 _ _).trans (congrArg (mW τ q) e12.symm)) (pc' := 157) rfl ?_
        refine wm_aload_n C dX12_keep_157 0 rfl (pc' := 158) rfl ?_
        refine m_get (v := .ref (q 33)) C dX12_keep_158 in_X12_keep 33 (by decide) (by decide +kernel) rfl rfl (pc' := 161) rfl ?_
        refine wm_bipush (v := 12) C dX12_keep_161 (by decide) (pc' := 163) rfl ?_
        refine wm_aload_n C dX12_keep_163 0 rfl (pc' := 164) rfl ?_
        refine m_get (v := .int (gI s11 29)) C dX12_keep_164 in_X12_keep 29 (by decide) (by decide +kernel) rfl rfl (pc' := 167) rfl ?_
        refine wm_imul C dX12_keep_167 (pc' := 168) rfl ?_
        refine wm_iload_n C dX12_keep_168 1 rfl (pc' := 169) rfl ?_
        refine wm_iadd C dX12_keep_169 (pc' := 170) rfl ?_
        refine wm_aload_n C dX12_keep_170 0 rfl (pc' := 171) rfl ?_
        refine m_get (v := .ref (q 10)) C dX12_keep_171 in_X12_keep 10 (by decide) (by decide +kernel) rfl rfl (pc' := 174) rfl ?_
        refine wm_iload_n C dX12_keep_174 1 rfl (pc' := 175) rfl ?_
        obtain ⟨h13, hf⟩ := chk_s hf
        refine wm_iald (f := gA s11 10) (N := 12) (cA := τ.1) C dX12_keep_175 8 mA_10 rfl h13 (pc' := 176) rfl ?_
        obtain ⟨h14, hf⟩ := chk_s hf
        obtain ⟨s15, e16, hf⟩ := lets_s hf
        refine wm_iast (f := gA s11 33) (N := 96) (cA := τ.1) C dX12_keep_176 24 mA_33 rfl h14 (Wd' := mW τ q s15) ((mS_33 _ _).trans (congrArg (mW τ q) e16.symm)) (pc' := 177) rfl ?_
        refine wm_iinc (v := x1 + 1) (lv' := [(1, .int (x1 + 1)), (0, .ref (q 0))]) C dX12_keep_177 1 rfl rfl (by decide) rfl (pc' := 180) rfl ?_
        refine wm_goto C dX12_keep_180 129 (by decide) ?_
        refine wm_sub (lv' := [(0, .ref (q 0)), (1, .int (x1 + 1))]) [1, 0] rfl ?_
        exact ih (x1 + 1) s15 _ _ hf hE
  have wL_11 : ∀ (fu : Nat) (x1 : Int32) (s : MS) (v : Unit) (s' : MS), fX12_keep_L11 fu x1 s = some (v, s') → WM l D Γ 2 0 0 (mW τ q s') 51 [(0, .ref (q 0))] [] → WM l D Γ 2 0 0 (mW τ q s) 11 [(0, .ref (q 0)), (1, .int x1)] [] := by
    intro fu
    induction fu with
    | zero => intro x1 s v s' hf hE; exact absurd hf (fun h => nomatch (show (none : Option _) = some _ from h))
    | succ fu ih =>
      intro x1 s v s' hf hE
      rw [fX12_keep_L11_s] at hf
      refine wm_iload_n C dX12_keep_11 1 rfl (pc' := 12) rfl ?_
      refine wm_bipush (v := 7) C dX12_keep_12 (by decide) (pc' := 14) rfl ?_
      refine wm_icmp_ge C dX12_keep_14 51 (by decide) (pc' := 17) rfl (fun h22 => ?_) (fun h22 => ?_)
      · have hf := ite_t h22 hf
        obtain ⟨rfl, rfl⟩ := leaf_s hf
        refine wm_sub (lv' := [(0, .ref (q 0))]) [0] rfl ?_
        exact hE
      · have hf := ite_f h22 hf
        refine wm_aload_n C dX12_keep_17 0 rfl (pc' := 18) rfl ?_
        refine m_get (v := .ref (q 30)) C dX12_keep_18 in_X12_keep 30 (by decide) (by decide +kernel) rfl rfl (pc' := 21) rfl ?_
        refine wm_iload_n C dX12_keep_21 1 rfl (pc' := 22) rfl ?_
        refine wm_aload_n C dX12_keep_22 0 rfl (pc' := 23) rfl ?_
        refine m_get (v := .ref (q 30)) C dX12_keep_23 in_X12_keep 30 (by decide) (by decide +kernel) rfl rfl (pc' := 26) rfl ?_
        refine wm_iload_n C dX12_keep_26 1 rfl (pc' := 27) rfl ?_
        refine wm_ikonst (v := 1) C dX12_keep_27 (by decide) (pc' := 28) rfl ?_
        refine wm_iadd C dX12_keep_28 (pc' := 29) rfl ?_
        obtain ⟨h23, hf⟩ := chk_s hf
        refine wm_iald (f := gA s 30) (N := 8) (cA := τ.1) C dX12_keep_29 21 mA_30 rfl h23 (pc' := 30) rfl ?_
        obtain ⟨h24, hf⟩ := chk_s hf
        obtain ⟨s25, e26, hf⟩ := lets_s hf
        refine wm_iast (f := gA s 30) (N := 8) (cA := τ.1) C dX12_keep_30 21 mA_30 rfl h24 (Wd' := mW τ q s25) ((mS_30 _ _).trans (congrArg (mW τ q) e26.symm)) (pc' := 31) rfl ?_
        refine wm_aload_n C dX12_keep_31 0 rfl (pc' := 32) rfl ?_
        refine m_get (v := .ref (q 31)) C dX12_keep_32 in_X12_keep 31 (by decide) (by decide +kernel) rfl rfl (pc' := 35) rfl ?_
        refine wm_iload_n C dX12_keep_35 1 rfl (pc' := 36) rfl ?_
        refine wm_aload_n C dX12_keep_36 0 rfl (pc' := 37) rfl ?_
        refine m_get (v := .ref (q 31)) C dX12_keep_37 in_X12_keep 31 (by decide) (by decide +kernel) rfl rfl (pc' := 40) rfl ?_
        refine wm_iload_n C dX12_keep_40 1 rfl (pc' := 41) rfl ?_
        refine wm_ikonst (v := 1) C dX12_keep_41 (by decide) (pc' := 42) rfl ?_
        refine wm_iadd C dX12_keep_42 (pc' := 43) rfl ?_
        obtain ⟨h27, hf⟩ := chk_s hf
        refine wm_iald (f := gA s25 31) (N := 8) (cA := τ.1) C dX12_keep_43 22 mA_31 rfl h27 (pc' := 44) rfl ?_
        obtain ⟨h28, hf⟩ := chk_s hf
        obtain ⟨s29, e30, hf⟩ := lets_s hf
        refine wm_iast (f := gA s25 31) (N := 8) (cA := τ.1) C dX12_keep_44 22 mA_31 rfl h28 (Wd' := mW τ q s29) ((mS_31 _ _).trans (congrArg (mW τ q) e30.symm)) (pc' := 45) rfl ?_
        refine wm_iinc (v := x1 + 1) (lv' := [(1, .int (x1 + 1)), (0, .ref (q 0))]) C dX12_keep_45 1 rfl rfl (by decide) rfl (pc' := 48) rfl ?_
        refine wm_goto C dX12_keep_48 11 (by decide) ?_
        refine wm_sub (lv' := [(0, .ref (q 0)), (1, .int (x1 + 1))]) [1, 0] rfl ?_
        exact ih (x1 + 1) s29 _ _ hf hE
  have wL_53 : ∀ (fu : Nat) (x1 : Int32) (s : MS) (v : Unit) (s' : MS), fX12_keep_L53 fu x1 s = some (v, s') → WM l D Γ 2 0 0 (mW τ q s') 95 [(0, .ref (q 0))] [] → WM l D Γ 2 0 0 (mW τ q s) 53 [(0, .ref (q 0)), (1, .int x1)] [] := by
    intro fu
    induction fu with
    | zero => intro x1 s v s' hf hE; exact absurd hf (fun h => nomatch (show (none : Option _) = some _ from h))
    | succ fu ih =>
      intro x1 s v s' hf hE
      rw [fX12_keep_L53_s] at hf
      refine wm_iload_n C dX12_keep_53 1 rfl (pc' := 54) rfl ?_
      refine wm_bipush (v := 84) C dX12_keep_54 (by decide) (pc' := 56) rfl ?_
      refine wm_icmp_ge C dX12_keep_56 95 (by decide) (pc' := 59) rfl (fun h34 => ?_) (fun h34 => ?_)
      · have hf := ite_t h34 hf
        obtain ⟨rfl, rfl⟩ := leaf_s hf
        refine wm_sub (lv' := [(0, .ref (q 0))]) [0] rfl ?_
        exact hE
      · have hf := ite_f h34 hf
        refine wm_aload_n C dX12_keep_59 0 rfl (pc' := 60) rfl ?_
        refine m_get (v := .ref (q 32)) C dX12_keep_60 in_X12_keep 32 (by decide) (by decide +kernel) rfl rfl (pc' := 63) rfl ?_
        refine wm_iload_n C dX12_keep_63 1 rfl (pc' := 64) rfl ?_
        refine wm_aload_n C dX12_keep_64 0 rfl (pc' := 65) rfl ?_
        refine m_get (v := .ref (q 32)) C dX12_keep_65 in_X12_keep 32 (by decide) (by decide +kernel) rfl rfl (pc' := 68) rfl ?_
        refine wm_iload_n C dX12_keep_68 1 rfl (pc' := 69) rfl ?_
        refine wm_bipush (v := 12) C dX12_keep_69 (by decide) (pc' := 71) rfl ?_
        refine wm_iadd C dX12_keep_71 (pc' := 72) rfl ?_
        obtain ⟨h35, hf⟩ := chk_s hf
        refine wm_iald (f := gA s 32) (N := 96) (cA := τ.1) C dX12_keep_72 23 mA_32 rfl h35 (pc' := 73) rfl ?_
        obtain ⟨h36, hf⟩ := chk_s hf
        obtain ⟨s37, e38, hf⟩ := lets_s hf
        refine wm_iast (f := gA s 32) (N := 96) (cA := τ.1) C dX12_keep_73 23 mA_32 rfl h36 (Wd' := mW τ q s37) ((mS_32 _ _).trans (congrArg (mW τ q) e38.symm)) (pc' := 74) rfl ?_
        refine wm_aload_n C dX12_keep_74 0 rfl (pc' := 75) rfl ?_
        refine m_get (v := .ref (q 33)) C dX12_keep_75 in_X12_keep 33 (by decide) (by decide +kernel) rfl rfl (pc' := 78) rfl ?_
        refine wm_iload_n C dX12_keep_78 1 rfl (pc' := 79) rfl ?_
        refine wm_aload_n C dX12_keep_79 0 rfl (pc' := 80) rfl ?_
        refine m_get (v := .ref (q 33)) C dX12_keep_80 in_X12_keep 33 (by decide) (by decide +kernel) rfl rfl (pc' := 83) rfl ?_
        refine wm_iload_n C dX12_keep_83 1 rfl (pc' := 84) rfl ?_
        refine wm_bipush (v := 12) C dX12_keep_84 (by decide) (pc' := 86) rfl ?_
        refine wm_iadd C dX12_keep_86 (pc' := 87) rfl ?_
        obtain ⟨h39, hf⟩ := chk_s hf
        refine wm_iald (f := gA s37 33) (N := 96) (cA := τ.1) C dX12_keep_87 24 mA_33 rfl h39 (pc' := 88) rfl ?_
        obtain ⟨h40, hf⟩ := chk_s hf
        obtain ⟨s41, e42, hf⟩ := lets_s hf
        refine wm_iast (f := gA s37 33) (N := 96) (cA := τ.1) C dX12_keep_88 24 mA_33 rfl h40 (Wd' := mW τ q s41) ((mS_33 _ _).trans (congrArg (mW τ q) e42.symm)) (pc' := 89) rfl ?_
        refine wm_iinc (v := x1 + 1) (lv' := [(1, .int (x1 + 1)), (0, .ref (q 0))]) C dX12_keep_89 1 rfl rfl (by decide) rfl (pc' := 92) rfl ?_
        refine wm_goto C dX12_keep_92 53 (by decide) ?_
        refine wm_sub (lv' := [(0, .ref (q 0)), (1, .int (x1 + 1))]) [1, 0] rfl ?_
        exact ih (x1 + 1) s41 _ _ hf hE
  have wJ_101 : ∀ (s : MS), fX12_keep_J101 s = some (rE, sE) → WM l D Γ 2 0 0 (mW τ q s) 101 [(0, .ref (q 0))] [] := by
    intro  s hf
    unfold fX12_keep_J101 at hf
    refine wm_aload_n C dX12_keep_101 0 rfl (pc' := 102) rfl ?_
    refine m_get (v := .ref (q 30)) C dX12_keep_102 in_X12_keep 30 (by decide) (by decide +kernel) rfl rfl (pc' := 105) rfl ?_
    refine wm_aload_n C dX12_keep_105 0 rfl (pc' := 106) rfl ?_
    refine m_get (v := .int (gI s 29)) C dX12_keep_106 in_X12_keep 29 (by decide) (by decide +kernel) rfl rfl (pc' := 109) rfl ?_
    refine wm_aload_n C dX12_keep_109 0 rfl (pc' := 110) rfl ?_
    refine m_get (v := .int (gI s 4)) C dX12_keep_110 in_X12_keep 4 (by decide) (by decide +kernel) rfl rfl (pc' := 113) rfl ?_
    obtain ⟨h2, hf⟩ := chk_s hf
    obtain ⟨s3, e4, hf⟩ := lets_s hf
    refine wm_iast (f := gA s 30) (N := 8) (cA := τ.1) C dX12_keep_113 21 mA_30 rfl h2 (Wd' := mW τ q s3) ((mS_30 _ _).trans (congrArg (mW τ q) e4.symm)) (pc' := 114) rfl ?_
    refine wm_aload_n C dX12_keep_114 0 rfl (pc' := 115) rfl ?_
    refine m_get (v := .ref (q 31)) C dX12_keep_115 in_X12_keep 31 (by decide) (by decide +kernel) rfl rfl (pc' := 118) rfl ?_
    refine wm_aload_n C dX12_keep_118 0 rfl (pc' := 119) rfl ?_
    refine m_get (v := .int (gI s3 29)) C dX12_keep_119 in_X12_keep 29 (by decide) (by decide +kernel) rfl rfl (pc' := 122) rfl ?_
    refine wm_aload_n C dX12_keep_122 0 rfl (pc' := 123) rfl ?_
    refine m_get (v := .int (gI s3 12)) C dX12_keep_123 in_X12_keep 12 (by decide) (by decide +kernel) rfl rfl (pc' := 126) rfl ?_
    obtain ⟨h5, hf⟩ := chk_s hf
    obtain ⟨s6, e7, hf⟩ := lets_s hf
    refine wm_iast (f := gA s3 31) (N := 8) (cA := τ.1) C dX12_keep_126 22 mA_31 rfl h5 (Wd' := mW τ q s6) ((mS_31 _ _).trans (congrArg (mW τ q) e7.symm)) (pc' := 127) rfl ?_
    refine wm_ikonst (v := 0) C dX12_keep_127 (by decide) (pc' := 128) rfl ?_
    refine wm_istore_n (lv' := [(1, .int 0), (0, .ref (q 0))]) C dX12_keep_128 (by decide) rfl (pc' := 129) rfl ?_
    refine wm_sub (lv' := [(0, .ref (q 0)), (1, .int 0)]) [1, 0] rfl ?_
    obtain ⟨v17, s18, h19, hf⟩ := bnd_s hf
    refine wL_129 FU 0 s6 v17 s18 h19 ?_
    refine wm_aload_n C dX12_keep_183 0 rfl (pc' := 184) rfl ?_
    refine wm_dup C dX12_keep_184 rfl (pc' := 185) rfl ?_
    refine m_get (v := .int (gI s18 29)) C dX12_keep_185 in_X12_keep 29 (by decide) (by decide +kernel) rfl rfl (pc' := 188) rfl ?_
    refine wm_ikonst (v := 1) C dX12_keep_188 (by decide) (pc' := 189) rfl ?_
    refine wm_iadd C dX12_keep_189 (pc' := 190) rfl ?_
    obtain ⟨s20, e21, hf⟩ := lets_s hf
    refine m_putI C dX12_keep_190 in_X12_keep 29 (by decide) (by decide +kernel) rfl rfl rfl mL_29 mI_29 e21 (pc' := 193) rfl ?_
    refine wm_aload_n C dX12_keep_193 0 rfl (pc' := 194) rfl ?_
    refine m_get (v := .int (gI s20 29)) C dX12_keep_194 in_X12_keep 29 (by decide) (by decide +kernel) rfl rfl (pc' := 197) rfl ?_
    obtain ⟨rfl, rfl⟩ := leaf_s hf
    exact wm_iret C dX12_keep_197 (Nat.zero_le _) (Nat.zero_le _) FD.rf
  refine wm_aload_n C dX12_keep_0 0 rfl (pc' := 1) rfl ?_
  refine m_get (v := .int (gI σ 29)) C dX12_keep_1 in_X12_keep 29 (by decide) (by decide +kernel) rfl rfl (pc' := 4) rfl ?_
  refine wm_bipush (v := 8) C dX12_keep_4 (by decide) (pc' := 6) rfl ?_
  refine wm_icmp_ne C dX12_keep_6 101 (by decide) (pc' := 9) rfl (fun h1 => ?_) (fun h1 => ?_)
  · have hf := ite_t h1 hf
    exact wJ_101 σ hf
  · have hf := ite_f (fun h => h h1) hf
    refine wm_ikonst (v := 0) C dX12_keep_9 (by decide) (pc' := 10) rfl ?_
    refine wm_istore_n (lv' := [(1, .int 0), (0, .ref (q 0))]) C dX12_keep_10 (by decide) rfl (pc' := 11) rfl ?_
    refine wm_sub (lv' := [(0, .ref (q 0)), (1, .int 0)]) [1, 0] rfl ?_
    obtain ⟨v31, s32, h33, hf⟩ := bnd_s hf
    refine wL_11 FU 0 σ v31 s32 h33 ?_
    refine wm_ikonst (v := 0) C dX12_keep_51 (by decide) (pc' := 52) rfl ?_
    refine wm_istore_n (lv' := [(1, .int 0), (0, .ref (q 0))]) C dX12_keep_52 (by decide) rfl (pc' := 53) rfl ?_
    refine wm_sub (lv' := [(0, .ref (q 0)), (1, .int 0)]) [1, 0] rfl ?_
    obtain ⟨v43, s44, h45, hf⟩ := bnd_s hf
    refine wL_53 FU 0 s32 v43 s44 h45 ?_
    refine wm_aload_n C dX12_keep_95 0 rfl (pc' := 96) rfl ?_
    refine wm_bipush (v := 7) C dX12_keep_96 (by decide) (pc' := 98) rfl ?_
    obtain ⟨s46, e47, hf⟩ := lets_s hf
    refine m_putI C dX12_keep_98 in_X12_keep 29 (by decide) (by decide +kernel) rfl rfl rfl mL_29 mI_29 e47 (pc' := 101) rfl ?_
    exact wJ_101 s46 hf
def fX12_back_L35 : Nat → Int32 → MS → Option (Unit × MS)
  | 0, _, _ => none
  | fu + 1, x1, s => if ¬ ((gI s 29) < 0 ∨ 8 ≤ (gI s 29).toNatClampNeg) then if (gA s 30 (gI s 29).toNatClampNeg) ≤ x1 then some ((), s) else if ¬ (((12 * (gI s 29)) + x1) < 0 ∨ 96 ≤ ((12 * (gI s 29)) + x1).toNatClampNeg) then if ¬ (x1 < 0 ∨ 12 ≤ x1.toNatClampNeg) then lets (sA s 8 x1.toNatClampNeg (gA s 32 ((12 * (gI s 29)) + x1).toNatClampNeg)) (fun s11 => if ¬ (((12 * (gI s11 29)) + x1) < 0 ∨ 96 ≤ ((12 * (gI s11 29)) + x1).toNatClampNeg) then if ¬ (x1 < 0 ∨ 12 ≤ x1.toNatClampNeg) then lets (sA s11 10 x1.toNatClampNeg (gA s11 33 ((12 * (gI s11 29)) + x1).toNatClampNeg)) (fun s15 => fX12_back_L35 fu (x1 + 1) s15) else none else none) else none else none else none
theorem fX12_back_L35_s (fu : Nat) (x1 : Int32) (s : MS) : fX12_back_L35 (fu + 1) x1 s = (if ¬ ((gI s 29) < 0 ∨ 8 ≤ (gI s 29).toNatClampNeg) then if (gA s 30 (gI s 29).toNatClampNeg) ≤ x1 then some ((), s) else if ¬ (((12 * (gI s 29)) + x1) < 0 ∨ 96 ≤ ((12 * (gI s 29)) + x1).toNatClampNeg) then if ¬ (x1 < 0 ∨ 12 ≤ x1.toNatClampNeg) then lets (sA s 8 x1.toNatClampNeg (gA s 32 ((12 * (gI s 29)) + x1).toNatClampNeg)) (fun s11 => if ¬ (((12 * (gI s11 29)) + x1) < 0 ∨ 96 ≤ ((12 * (gI s11 29)) + x1).toNatClampNeg) then if ¬ (x1 < 0 ∨ 12 ≤ x1.toNatClampNeg) then lets (sA s11 10 x1.toNatClampNeg (gA s11 33 ((12 * (gI s11 29)) + x1).toNatClampNeg)) (fun s15 => fX12_back_L35 fu (x1 + 1) s15) else none else none) else none else none else none) := rfl
def fX12_back (σ : MS) : Option (Int32 × MS) :=
  if ¬ (gI σ 29) = 0 then lets (sI σ 29 ((gI σ 29) - 1)) (fun s2 => if ¬ ((gI s2 29) < 0 ∨ 8 ≤ (gI s2 29).toNatClampNeg) then lets (sI s2 12 (gA s2 31 (gI s2 29).toNatClampNeg)) (fun s5 => bnd (fX12_back_L35 FU 0 s5) (fun v17 s18 => some (gI s18 29, s18))) else none) else some ((-3), σ)
theorem in_X12_back : ∀ w ∈ u_ws RX12 TX12 39, w ∈ wsX12_back := by decide +kernel
set_option maxHeartbeats 4000000 in
set_option maxRecDepth 100000 in
theorem kX12_back (l : Launch) (D : va_G) (τ : CId) (q : Nat → Nat) (σ : MS) (rE : Int32) (sE : MS) (hf : fX12_back σ = some (rE, sE)) : Ct l D τ yX12_back wsX12_back { frames := 0, cells := 0, slots := 0, locals := 0 } [.ref (q 0)] (mW τ q σ) (FD (mW τ q sE) (some (.int rE))) := by
  unfold fX12_back at hf
  refine ct_of (cc := cX12_back) (maxL := 2) (ret := (some .int)) (by decide) rfl (Nat.le_of_ble_eq_true rfl) (fun Γ C => ?_)
  refine wm_lv (lv' := [(0, .ref (q 0))]) rfl ?_
  have wL_35 : ∀ (fu : Nat) (x1 : Int32) (s : MS) (v : Unit) (s' : MS), fX12_back_L35 fu x1 s = some (v, s') → WM l D Γ 2 0 0 (mW τ q s') 94 [(0, .ref (q 0))] [] → WM l D Γ 2 0 0 (mW τ q s) 35 [(0, .ref (q 0)), (1, .int x1)] [] := by
    intro fu
    induction fu with
    | zero => intro x1 s v s' hf hE; exact absurd hf (fun h => nomatch (show (none : Option _) = some _ from h))
    | succ fu ih =>
      intro x1 s v s' hf hE
      rw [fX12_back_L35_s] at hf
      refine wm_iload_n C dX12_back_35 1 rfl (pc' := 36) rfl ?_
      refine wm_aload_n C dX12_back_36 0 rfl (pc' := 37) rfl ?_
      refine m_get (v := .ref (q 30)) C dX12_back_37 in_X12_back 30 (by decide) (by decide +kernel) rfl rfl (pc' := 40) rfl ?_
      refine wm_aload_n C dX12_back_40 0 rfl (pc' := 41) rfl ?_
      refine m_get (v := .int (gI s 29)) C dX12_back_41 in_X12_back 29 (by decide) (by decide +kernel) rfl rfl (pc' := 44) rfl ?_
      obtain ⟨h7, hf⟩ := chk_s hf
      refine wm_iald (f := gA s 30) (N := 8) (cA := τ.1) C dX12_back_44 21 mA_30 rfl h7 (pc' := 45) rfl ?_
      refine wm_icmp_ge C dX12_back_45 94 (by decide) (pc' := 48) rfl (fun h8 => ?_) (fun h8 => ?_)
      · have hf := ite_t h8 hf
        obtain ⟨rfl, rfl⟩ := leaf_s hf
        refine wm_sub (lv' := [(0, .ref (q 0))]) [0] rfl ?_
        exact hE
      · have hf := ite_f h8 hf
        refine wm_aload_n C dX12_back_48 0 rfl (pc' := 49) rfl ?_
        refine m_get (v := .ref (q 8)) C dX12_back_49 in_X12_back 8 (by decide) (by decide +kernel) rfl rfl (pc' := 52) rfl ?_
        refine wm_iload_n C dX12_back_52 1 rfl (pc' := 53) rfl ?_
        refine wm_aload_n C dX12_back_53 0 rfl (pc' := 54) rfl ?_
        refine m_get (v := .ref (q 32)) C dX12_back_54 in_X12_back 32 (by decide) (by decide +kernel) rfl rfl (pc' := 57) rfl ?_
        refine wm_bipush (v := 12) C dX12_back_57 (by decide) (pc' := 59) rfl ?_
        refine wm_aload_n C dX12_back_59 0 rfl (pc' := 60) rfl ?_
        refine m_get (v := .int (gI s 29)) C dX12_back_60 in_X12_back 29 (by decide) (by decide +kernel) rfl rfl (pc' := 63) rfl ?_
        refine wm_imul C dX12_back_63 (pc' := 64) rfl ?_
        refine wm_iload_n C dX12_back_64 1 rfl (pc' := 65) rfl ?_
        refine wm_iadd C dX12_back_65 (pc' := 66) rfl ?_
        obtain ⟨h9, hf⟩ := chk_s hf
        refine wm_iald (f := gA s 32) (N := 96) (cA := τ.1) C dX12_back_66 23 mA_32 rfl h9 (pc' := 67) rfl ?_
        obtain ⟨h10, hf⟩ := chk_s hf
        obtain ⟨s11, e12, hf⟩ := lets_s hf
        refine wm_iast (f := gA s 8) (N := 12) (cA := τ.1) C dX12_back_67 6 mA_8 rfl h10 (Wd' := mW τ q s11) ((mS_8 _ _).trans (congrArg (mW τ q) e12.symm)) (pc' := 68) rfl ?_
        refine wm_aload_n C dX12_back_68 0 rfl (pc' := 69) rfl ?_
        refine m_get (v := .ref (q 10)) C dX12_back_69 in_X12_back 10 (by decide) (by decide +kernel) rfl rfl (pc' := 72) rfl ?_
        refine wm_iload_n C dX12_back_72 1 rfl (pc' := 73) rfl ?_
        refine wm_aload_n C dX12_back_73 0 rfl (pc' := 74) rfl ?_
        refine m_get (v := .ref (q 33)) C dX12_back_74 in_X12_back 33 (by decide) (by decide +kernel) rfl rfl (pc' := 77) rfl ?_
        refine wm_bipush (v := 12) C dX12_back_77 (by decide) (pc' := 79) rfl ?_
        refine wm_aload_n C dX12_back_79 0 rfl (pc' := 80) rfl ?_
        refine m_get (v := .int (gI s11 29)) C dX12_back_80 in_X12_back 29 (by decide) (by decide +kernel) rfl rfl (pc' := 83) rfl ?_
        refine wm_imul C dX12_back_83 (pc' := 84) rfl ?_
        refine wm_iload_n C dX12_back_84 1 rfl (pc' := 85) rfl ?_
        refine wm_iadd C dX12_back_85 (pc' := 86) rfl ?_
        obtain ⟨h13, hf⟩ := chk_s hf
        refine wm_iald (f := gA s11 33) (N := 96) (cA := τ.1) C dX12_back_86 24 mA_33 rfl h13 (pc' := 87) rfl ?_
        obtain ⟨h14, hf⟩ := chk_s hf
        obtain ⟨s15, e16, hf⟩ := lets_s hf
        refine wm_iast (f := gA s11 10) (N := 12) (cA := τ.1) C dX12_back_87 8 mA_10 rfl h14 (Wd' := mW τ q s15) ((mS_10 _ _).trans (congrArg (mW τ q) e16.symm)) (pc' := 88) rfl ?_
        refine wm_iinc (v := x1 + 1) (lv' := [(1, .int (x1 + 1)), (0, .ref (q 0))]) C dX12_back_88 1 rfl rfl (by decide) rfl (pc' := 91) rfl ?_
        refine wm_goto C dX12_back_91 35 (by decide) ?_
        refine wm_sub (lv' := [(0, .ref (q 0)), (1, .int (x1 + 1))]) [1, 0] rfl ?_
        exact ih (x1 + 1) s15 _ _ hf hE
  refine wm_aload_n C dX12_back_0 0 rfl (pc' := 1) rfl ?_
  refine m_get (v := .int (gI σ 29)) C dX12_back_1 in_X12_back 29 (by decide) (by decide +kernel) rfl rfl (pc' := 4) rfl ?_
  refine wm_if_ne C dX12_back_4 10 (by decide) (pc' := 7) rfl (fun h1 => ?_) (fun h1 => ?_)
  · have hf := ite_t h1 hf
    refine wm_aload_n C dX12_back_10 0 rfl (pc' := 11) rfl ?_
    refine wm_dup C dX12_back_11 rfl (pc' := 12) rfl ?_
    refine m_get (v := .int (gI σ 29)) C dX12_back_12 in_X12_back 29 (by decide) (by decide +kernel) rfl rfl (pc' := 15) rfl ?_
    refine wm_ikonst (v := 1) C dX12_back_15 (by decide) (pc' := 16) rfl ?_
    refine wm_isub C dX12_back_16 (pc' := 17) rfl ?_
    obtain ⟨s2, e3, hf⟩ := lets_s hf
    refine m_putI C dX12_back_17 in_X12_back 29 (by decide) (by decide +kernel) rfl rfl rfl mL_29 mI_29 e3 (pc' := 20) rfl ?_
    refine wm_aload_n C dX12_back_20 0 rfl (pc' := 21) rfl ?_
    refine wm_aload_n C dX12_back_21 0 rfl (pc' := 22) rfl ?_
    refine m_get (v := .ref (q 31)) C dX12_back_22 in_X12_back 31 (by decide) (by decide +kernel) rfl rfl (pc' := 25) rfl ?_
    refine wm_aload_n C dX12_back_25 0 rfl (pc' := 26) rfl ?_
    refine m_get (v := .int (gI s2 29)) C dX12_back_26 in_X12_back 29 (by decide) (by decide +kernel) rfl rfl (pc' := 29) rfl ?_
    obtain ⟨h4, hf⟩ := chk_s hf
    refine wm_iald (f := gA s2 31) (N := 8) (cA := τ.1) C dX12_back_29 22 mA_31 rfl h4 (pc' := 30) rfl ?_
    obtain ⟨s5, e6, hf⟩ := lets_s hf
    refine m_putI C dX12_back_30 in_X12_back 12 (by decide) (by decide +kernel) rfl rfl rfl mL_12 mI_12 e6 (pc' := 33) rfl ?_
    refine wm_ikonst (v := 0) C dX12_back_33 (by decide) (pc' := 34) rfl ?_
    refine wm_istore_n (lv' := [(1, .int 0), (0, .ref (q 0))]) C dX12_back_34 (by decide) rfl (pc' := 35) rfl ?_
    refine wm_sub (lv' := [(0, .ref (q 0)), (1, .int 0)]) [1, 0] rfl ?_
    obtain ⟨v17, s18, h19, hf⟩ := bnd_s hf
    refine wL_35 FU 0 s5 v17 s18 h19 ?_
    refine wm_aload_n C dX12_back_94 0 rfl (pc' := 95) rfl ?_
    refine m_get (v := .int (gI s18 29)) C dX12_back_95 in_X12_back 29 (by decide) (by decide +kernel) rfl rfl (pc' := 98) rfl ?_
    obtain ⟨rfl, rfl⟩ := leaf_s hf
    exact wm_iret C dX12_back_98 (Nat.zero_le _) (Nat.zero_le _) FD.rf
  · have hf := ite_f (fun h => h h1) hf
    refine wm_bipush (v := (-3)) C dX12_back_7 (by decide) (pc' := 9) rfl ?_
    obtain ⟨rfl, rfl⟩ := leaf_s hf
    exact wm_iret C dX12_back_9 (Nat.zero_le _) (Nat.zero_le _) FD.rf
def fX12_core_J28 (s : MS) : Option (Int32 × MS) :=
  bnd (fX12_refused (-2) s) (fun r9 s10 => some (r9, s10))
def fX12_core_L62 (x1 : Int32) (x3 : Int32) : Nat → Int32 → MS → Option (Unit × MS)
  | 0, _, _ => none
  | fu + 1, x4, s => if x3 ≤ x4 then some ((), s) else if ¬ (((24 * x1) + x4) < 0 ∨ 96 ≤ ((24 * x1) + x4).toNatClampNeg) then lets (sB s 36 ((24 * x1) + x4).toNatClampNeg 0) (fun s22 => fX12_core_L62 x1 x3 fu (x4 + 1) s22) else none
theorem fX12_core_L62_s (x1 : Int32) (x3 : Int32) (fu : Nat) (x4 : Int32) (s : MS) : fX12_core_L62 x1 x3 (fu + 1) x4 s = (if x3 ≤ x4 then some ((), s) else if ¬ (((24 * x1) + x4) < 0 ∨ 96 ≤ ((24 * x1) + x4).toNatClampNeg) then lets (sB s 36 ((24 * x1) + x4).toNatClampNeg 0) (fun s22 => fX12_core_L62 x1 x3 fu (x4 + 1) s22) else none) := rfl
def fX12_core (x1 : Int32) (x2 : Int32) (x3 : Int32) (σ : MS) : Option (Int32 × MS) :=
  bnd (fX12_noCore x1) (fun r1 u2 => if r1 = 0 then bnd (fX12_among x2 0 3) (fun r5 u6 => if r5 = 0 then fX12_core_J28 σ else if x3 ≤ 24 then if 0 ≤ x3 then if ¬ (x1 < 0 ∨ 4 ≤ x1.toNatClampNeg) then lets (sA σ 34 x1.toNatClampNeg x3) (fun s15 => if ¬ (x1 < 0 ∨ 4 ≤ x1.toNatClampNeg) then lets (sA s15 35 x1.toNatClampNeg x2) (fun s18 => bnd (fX12_core_L62 x1 x3 FU 0 s18) (fun v24 s25 => bnd (fX12_refused 1 s25) (fun r27 s28 => some (r27, s28)))) else none) else none else bnd (fX12_failed 4 σ) (fun r30 s31 => some (r30, s31)) else fX12_core_J28 σ) else bnd (fX12_refused (-1) σ) (fun r33 s34 => some (r33, s34)))
theorem in_X12_core : ∀ w ∈ u_ws RX12 TX12 39, w ∈ wsX12_core := by decide +kernel
set_option maxHeartbeats 4000000 in
set_option maxRecDepth 100000 in
theorem kX12_core (l : Launch) (D : va_G) (τ : CId) (q : Nat → Nat) (σ : MS) (x1 : Int32) (x2 : Int32) (x3 : Int32) (rE : Int32) (sE : MS) (hf : fX12_core x1 x2 x3 σ = some (rE, sE)) : Ct l D τ yX12_core wsX12_core { frames := 2, cells := 0, slots := 0, locals := 42 } [.ref (q 0), .int x1, .int x2, .int x3] (mW τ q σ) (FD (mW τ q sE) (some (.int rE))) := by
  unfold fX12_core at hf
  refine ct_of (cc := cX12_core) (maxL := 5) (ret := (some .int)) (by decide) rfl (Nat.le_of_ble_eq_true rfl) (fun Γ C => ?_)
  refine wm_lv (lv' := [(0, .ref (q 0)), (1, .int x1), (2, .int x2), (3, .int x3)]) rfl ?_
  have wL_62 : ∀ (x1 : Int32) (x3 : Int32) (fu : Nat) (x4 : Int32) (s : MS) (v : Unit) (s' : MS), fX12_core_L62 x1 x3 fu x4 s = some (v, s') → WM l D Γ 5 0 0 (mW τ q s') 87 [(0, .ref (q 0))] [] → WM l D Γ 5 0 0 (mW τ q s) 62 [(0, .ref (q 0)), (1, .int x1), (3, .int x3), (4, .int x4)] [] := by
    intro x1 x3
    intro fu
    induction fu with
    | zero => intro x4 s v s' hf hE; exact absurd hf (fun h => nomatch (show (none : Option _) = some _ from h))
    | succ fu ih =>
      intro x4 s v s' hf hE
      rw [fX12_core_L62_s] at hf
      refine wm_iload C dX12_core_62 3 rfl (pc' := 64) rfl ?_
      refine wm_iload_n C dX12_core_64 2 rfl (pc' := 65) rfl ?_
      refine wm_icmp_ge C dX12_core_65 87 (by decide) (pc' := 68) rfl (fun h20 => ?_) (fun h20 => ?_)
      · have hf := ite_t h20 hf
        obtain ⟨rfl, rfl⟩ := leaf_s hf
        refine wm_sub (lv' := [(0, .ref (q 0))]) [0] rfl ?_
        exact hE
      · have hf := ite_f h20 hf
        refine wm_aload_n C dX12_core_68 0 rfl (pc' := 69) rfl ?_
        refine m_get (v := .ref (q 36)) C dX12_core_69 in_X12_core 36 (by decide) (by decide +kernel) rfl rfl (pc' := 72) rfl ?_
        refine wm_bipush (v := 24) C dX12_core_72 (by decide) (pc' := 74) rfl ?_
        refine wm_iload_n C dX12_core_74 1 rfl (pc' := 75) rfl ?_
        refine wm_imul C dX12_core_75 (pc' := 76) rfl ?_
        refine wm_iload C dX12_core_76 3 rfl (pc' := 78) rfl ?_
        refine wm_iadd C dX12_core_78 (pc' := 79) rfl ?_
        refine wm_lkonst (v := 0) C dX12_core_79 (by decide) (pc' := 80) rfl ?_
        obtain ⟨h21, hf⟩ := chk_s hf
        obtain ⟨s22, e23, hf⟩ := lets_s hf
        refine wm_last (f := gB s 36) (N := 96) (cA := τ.2.1) C dX12_core_80 27 mA_36 rfl h21 (Wd' := mW τ q s22) ((mS_36 _ _).trans (congrArg (mW τ q) e23.symm)) (pc' := 81) rfl ?_
        refine wm_iinc (v := x4 + 1) (lv' := [(4, .int (x4 + 1)), (0, .ref (q 0)), (1, .int x1), (3, .int x3)]) C dX12_core_81 3 rfl rfl (by decide) rfl (pc' := 84) rfl ?_
        refine wm_goto C dX12_core_84 62 (by decide) ?_
        refine wm_sub (lv' := [(0, .ref (q 0)), (1, .int x1), (3, .int x3), (4, .int (x4 + 1))]) [1, 2, 3, 0] rfl ?_
        exact ih (x4 + 1) s22 _ _ hf hE
  have wJ_28 : ∀ (s : MS), fX12_core_J28 s = some (rE, sE) → WM l D Γ 5 0 0 (mW τ q s) 28 [(0, .ref (q 0))] [] := by
    intro  s hf
    unfold fX12_core_J28 at hf
    refine wm_aload_n C dX12_core_28 0 rfl (pc' := 29) rfl ?_
    refine wm_bipush (v := (-2)) C dX12_core_29 (by decide) (pc' := 31) rfl ?_
    obtain ⟨r9, s10, h11, hf⟩ := bnd_s hf
    refine wm_callVd (nn := 1) (As := [.int (-2)]) (rest := []) (st' := [.int r9]) C dX12_core_31 (kX12_refused l D τ q s (-2) r9 s10 h11) gX12_core_X12_refused rfl (by decide +kernel) ⟨Nat.le_of_ble_eq_true rfl, Nat.le_of_ble_eq_true rfl⟩ rfl rfl ⟨Nat.zero_le _, Nat.zero_le _⟩ 0 rfl rfl rfl rfl (Nat.le_of_ble_eq_true rfl) rfl (pc' := 34) rfl ?_
    obtain ⟨rfl, rfl⟩ := leaf_s hf
    exact wm_iret C dX12_core_34 (Nat.zero_le _) (Nat.zero_le _) FD.rf
  refine wm_iload_n C dX12_core_0 1 rfl (pc' := 1) rfl ?_
  obtain ⟨r1, u2, h3, hf⟩ := bnd_s hf
  refine wm_callSd (nn := 1) (As := [.int x1]) (rest := []) (st' := [.int r1]) C dX12_core_1 (kX12_noCore l D τ x1 r1 h3) gX12_core_X12_noCore rfl (by decide +kernel) ⟨Nat.le_of_ble_eq_true rfl, Nat.le_of_ble_eq_true rfl⟩ rfl rfl ⟨Nat.zero_le _, Nat.zero_le _⟩ rfl rfl (Nat.le_of_ble_eq_true rfl) rfl (pc' := 4) rfl ?_
  refine wm_if_eq C dX12_core_4 13 (by decide) (pc' := 7) rfl (fun h4 => ?_) (fun h4 => ?_)
  · have hf := ite_t h4 hf
    refine wm_iload_n C dX12_core_13 2 rfl (pc' := 14) rfl ?_
    refine wm_ikonst (v := 0) C dX12_core_14 (by decide) (pc' := 15) rfl ?_
    refine wm_ikonst (v := 3) C dX12_core_15 (by decide) (pc' := 16) rfl ?_
    obtain ⟨r5, u6, h7, hf⟩ := bnd_s hf
    refine wm_callSd (nn := 3) (As := [.int x2, .int 0, .int 3]) (rest := []) (st' := [.int r5]) C dX12_core_16 (kX12_among l D τ x2 0 3 r5 h7) gX12_core_X12_among rfl (by decide +kernel) ⟨Nat.le_of_ble_eq_true rfl, Nat.le_of_ble_eq_true rfl⟩ rfl rfl ⟨Nat.zero_le _, Nat.zero_le _⟩ rfl rfl (Nat.le_of_ble_eq_true rfl) rfl (pc' := 19) rfl ?_
    refine wm_if_eq C dX12_core_19 28 (by decide) (pc' := 22) rfl (fun h8 => ?_) (fun h8 => ?_)
    · have hf := ite_t h8 hf
      refine wm_sub (lv' := [(0, .ref (q 0))]) [0] rfl ?_
      exact wJ_28 σ hf
    · have hf := ite_f h8 hf
      refine wm_iload_n C dX12_core_22 3 rfl (pc' := 23) rfl ?_
      refine wm_bipush (v := 24) C dX12_core_23 (by decide) (pc' := 25) rfl ?_
      refine wm_icmp_le C dX12_core_25 35 (by decide) (pc' := 28) rfl (fun h12 => ?_) (fun h12 => ?_)
      · have hf := ite_t h12 hf
        refine wm_iload_n C dX12_core_35 3 rfl (pc' := 36) rfl ?_
        refine wm_if_ge C dX12_core_36 45 (by decide) (pc' := 39) rfl (fun h13 => ?_) (fun h13 => ?_)
        · have hf := ite_t h13 hf
          refine wm_aload_n C dX12_core_45 0 rfl (pc' := 46) rfl ?_
          refine m_get (v := .ref (q 34)) C dX12_core_46 in_X12_core 34 (by decide) (by decide +kernel) rfl rfl (pc' := 49) rfl ?_
          refine wm_iload_n C dX12_core_49 1 rfl (pc' := 50) rfl ?_
          refine wm_iload_n C dX12_core_50 3 rfl (pc' := 51) rfl ?_
          obtain ⟨h14, hf⟩ := chk_s hf
          obtain ⟨s15, e16, hf⟩ := lets_s hf
          refine wm_iast (f := gA σ 34) (N := 4) (cA := τ.1) C dX12_core_51 25 mA_34 rfl h14 (Wd' := mW τ q s15) ((mS_34 _ _).trans (congrArg (mW τ q) e16.symm)) (pc' := 52) rfl ?_
          refine wm_aload_n C dX12_core_52 0 rfl (pc' := 53) rfl ?_
          refine m_get (v := .ref (q 35)) C dX12_core_53 in_X12_core 35 (by decide) (by decide +kernel) rfl rfl (pc' := 56) rfl ?_
          refine wm_iload_n C dX12_core_56 1 rfl (pc' := 57) rfl ?_
          refine wm_iload_n C dX12_core_57 2 rfl (pc' := 58) rfl ?_
          obtain ⟨h17, hf⟩ := chk_s hf
          obtain ⟨s18, e19, hf⟩ := lets_s hf
          refine wm_iast (f := gA s15 35) (N := 4) (cA := τ.1) C dX12_core_58 26 mA_35 rfl h17 (Wd' := mW τ q s18) ((mS_35 _ _).trans (congrArg (mW τ q) e19.symm)) (pc' := 59) rfl ?_
          refine wm_ikonst (v := 0) C dX12_core_59 (by decide) (pc' := 60) rfl ?_
          refine wm_istore (lv' := [(4, .int 0), (0, .ref (q 0)), (1, .int x1), (2, .int x2), (3, .int x3)]) C dX12_core_60 (by decide) rfl (pc' := 62) rfl ?_
          refine wm_sub (lv' := [(0, .ref (q 0)), (1, .int x1), (3, .int x3), (4, .int 0)]) [1, 2, 4, 0] rfl ?_
          obtain ⟨v24, s25, h26, hf⟩ := bnd_s hf
          refine wL_62 x1 x3 FU 0 s18 v24 s25 h26 ?_
          refine wm_aload_n C dX12_core_87 0 rfl (pc' := 88) rfl ?_
          refine wm_ikonst (v := 1) C dX12_core_88 (by decide) (pc' := 89) rfl ?_
          obtain ⟨r27, s28, h29, hf⟩ := bnd_s hf
          refine wm_callVd (nn := 1) (As := [.int 1]) (rest := []) (st' := [.int r27]) C dX12_core_89 (kX12_refused l D τ q s25 1 r27 s28 h29) gX12_core_X12_refused rfl (by decide +kernel) ⟨Nat.le_of_ble_eq_true rfl, Nat.le_of_ble_eq_true rfl⟩ rfl rfl ⟨Nat.zero_le _, Nat.zero_le _⟩ 0 rfl rfl rfl rfl (Nat.le_of_ble_eq_true rfl) rfl (pc' := 92) rfl ?_
          obtain ⟨rfl, rfl⟩ := leaf_s hf
          exact wm_iret C dX12_core_92 (Nat.zero_le _) (Nat.zero_le _) FD.rf
        · have hf := ite_f h13 hf
          refine wm_aload_n C dX12_core_39 0 rfl (pc' := 40) rfl ?_
          refine wm_ikonst (v := 4) C dX12_core_40 (by decide) (pc' := 41) rfl ?_
          obtain ⟨r30, s31, h32, hf⟩ := bnd_s hf
          refine wm_callVd (nn := 1) (As := [.int 4]) (rest := []) (st' := [.int r30]) C dX12_core_41 (kX12_failed l D τ q σ 4 r30 s31 h32) gX12_core_X12_failed rfl (by decide +kernel) ⟨Nat.le_of_ble_eq_true rfl, Nat.le_of_ble_eq_true rfl⟩ rfl rfl ⟨Nat.zero_le _, Nat.zero_le _⟩ 0 rfl rfl rfl rfl (Nat.le_of_ble_eq_true rfl) rfl (pc' := 44) rfl ?_
          obtain ⟨rfl, rfl⟩ := leaf_s hf
          exact wm_iret C dX12_core_44 (Nat.zero_le _) (Nat.zero_le _) FD.rf
      · have hf := ite_f h12 hf
        refine wm_sub (lv' := [(0, .ref (q 0))]) [0] rfl ?_
        exact wJ_28 σ hf
  · have hf := ite_f h4 hf
    refine wm_aload_n C dX12_core_7 0 rfl (pc' := 8) rfl ?_
    refine wm_ikonst (v := (-1)) C dX12_core_8 (by decide) (pc' := 9) rfl ?_
    obtain ⟨r33, s34, h35, hf⟩ := bnd_s hf
    refine wm_callVd (nn := 1) (As := [.int (-1)]) (rest := []) (st' := [.int r33]) C dX12_core_9 (kX12_refused l D τ q σ (-1) r33 s34 h35) gX12_core_X12_refused rfl (by decide +kernel) ⟨Nat.le_of_ble_eq_true rfl, Nat.le_of_ble_eq_true rfl⟩ rfl rfl ⟨Nat.zero_le _, Nat.zero_le _⟩ 0 rfl rfl rfl rfl (Nat.le_of_ble_eq_true rfl) rfl (pc' := 12) rfl ?_
    obtain ⟨rfl, rfl⟩ := leaf_s hf
    exact wm_iret C dX12_core_12 (Nat.zero_le _) (Nat.zero_le _) FD.rf
def fX12_lose_J23 (x1 : Int32) (t0 : Int32) (s : MS) : Option (Int32 × MS) :=
  if ¬ (x1 < 0 ∨ 4 ≤ x1.toNatClampNeg) then lets (sA s 34 x1.toNatClampNeg (-1)) (fun s8 => some (t0, s8)) else none
def fX12_lose (x1 : Int32) (σ : MS) : Option (Int32 × MS) :=
  bnd (fX12_noCore x1) (fun r1 u2 => if r1 = 0 then if ¬ (x1 < 0 ∨ 4 ≤ x1.toNatClampNeg) then if 0 ≤ (gA σ 34 x1.toNatClampNeg) then fX12_lose_J23 x1 1 σ else fX12_lose_J23 x1 0 σ else none else some ((-1), σ))
theorem in_X12_lose : ∀ w ∈ u_ws RX12 TX12 39, w ∈ wsX12_lose := by decide +kernel
set_option maxHeartbeats 4000000 in
set_option maxRecDepth 100000 in
theorem kX12_lose (l : Launch) (D : va_G) (τ : CId) (q : Nat → Nat) (σ : MS) (x1 : Int32) (rE : Int32) (sE : MS) (hf : fX12_lose x1 σ = some (rE, sE)) : Ct l D τ yX12_lose wsX12_lose { frames := 2, cells := 0, slots := 0, locals := 42 } [.ref (q 0), .int x1] (mW τ q σ) (FD (mW τ q sE) (some (.int rE))) := by
  unfold fX12_lose at hf
  refine ct_of (cc := cX12_lose) (maxL := 3) (ret := (some .int)) (by decide) rfl (Nat.le_of_ble_eq_true rfl) (fun Γ C => ?_)
  refine wm_lv (lv' := [(0, .ref (q 0)), (1, .int x1)]) rfl ?_
  have wJ_23 : ∀ (x1 : Int32) (t0 : Int32) (s : MS), fX12_lose_J23 x1 t0 s = some (rE, sE) → WM l D Γ 3 0 0 (mW τ q s) 23 [(0, .ref (q 0)), (1, .int x1)] [.int t0] := by
    intro x1 t0 s hf
    unfold fX12_lose_J23 at hf
    refine wm_istore_n (lv' := [(2, .int t0), (0, .ref (q 0)), (1, .int x1)]) C dX12_lose_23 (by decide) rfl (pc' := 24) rfl ?_
    refine wm_aload_n C dX12_lose_24 1 rfl (pc' := 25) rfl ?_
    refine m_get (v := .ref (q 34)) C dX12_lose_25 in_X12_lose 34 (by decide) (by decide +kernel) rfl rfl (pc' := 28) rfl ?_
    refine wm_iload_n C dX12_lose_28 2 rfl (pc' := 29) rfl ?_
    refine wm_ikonst (v := (-1)) C dX12_lose_29 (by decide) (pc' := 30) rfl ?_
    obtain ⟨h7, hf⟩ := chk_s hf
    obtain ⟨s8, e9, hf⟩ := lets_s hf
    refine wm_iast (f := gA s 34) (N := 4) (cA := τ.1) C dX12_lose_30 25 mA_34 rfl h7 (Wd' := mW τ q s8) ((mS_34 _ _).trans (congrArg (mW τ q) e9.symm)) (pc' := 31) rfl ?_
    refine wm_iload_n C dX12_lose_31 0 rfl (pc' := 32) rfl ?_
    obtain ⟨rfl, rfl⟩ := leaf_s hf
    exact wm_iret C dX12_lose_32 (Nat.zero_le _) (Nat.zero_le _) FD.rf
  refine wm_iload_n C dX12_lose_0 1 rfl (pc' := 1) rfl ?_
  obtain ⟨r1, u2, h3, hf⟩ := bnd_s hf
  refine wm_callSd (nn := 1) (As := [.int x1]) (rest := []) (st' := [.int r1]) C dX12_lose_1 (kX12_noCore l D τ x1 r1 h3) gX12_lose_X12_noCore rfl (by decide +kernel) ⟨Nat.le_of_ble_eq_true rfl, Nat.le_of_ble_eq_true rfl⟩ rfl rfl ⟨Nat.zero_le _, Nat.zero_le _⟩ rfl rfl (Nat.le_of_ble_eq_true rfl) rfl (pc' := 4) rfl ?_
  refine wm_if_eq C dX12_lose_4 9 (by decide) (pc' := 7) rfl (fun h4 => ?_) (fun h4 => ?_)
  · have hf := ite_t h4 hf
    refine wm_aload_n C dX12_lose_9 0 rfl (pc' := 10) rfl ?_
    refine m_get (v := .ref (q 34)) C dX12_lose_10 in_X12_lose 34 (by decide) (by decide +kernel) rfl rfl (pc' := 13) rfl ?_
    refine wm_iload_n C dX12_lose_13 1 rfl (pc' := 14) rfl ?_
    obtain ⟨h5, hf⟩ := chk_s hf
    refine wm_iald (f := gA σ 34) (N := 4) (cA := τ.1) C dX12_lose_14 25 mA_34 rfl h5 (pc' := 15) rfl ?_
    refine wm_if_ge C dX12_lose_15 22 (by decide) (pc' := 18) rfl (fun h6 => ?_) (fun h6 => ?_)
    · have hf := ite_t h6 hf
      refine wm_ikonst (v := 1) C dX12_lose_22 (by decide) (pc' := 23) rfl ?_
      exact wJ_23 x1 1 σ hf
    · have hf := ite_f h6 hf
      refine wm_ikonst (v := 0) C dX12_lose_18 (by decide) (pc' := 19) rfl ?_
      refine wm_goto C dX12_lose_19 23 (by decide) ?_
      exact wJ_23 x1 0 σ hf
  · have hf := ite_f h4 hf
    refine wm_ikonst (v := (-1)) C dX12_lose_7 (by decide) (pc' := 8) rfl ?_
    obtain ⟨rfl, rfl⟩ := leaf_s hf
    exact wm_iret C dX12_lose_8 (Nat.zero_le _) (Nat.zero_le _) FD.rf
def fX12_noCell (x1 : Int32) (x2 : Int32) (σ : MS) : Option (Int32 × MS) :=
  if ¬ (x1 < 0 ∨ 4 ≤ x1.toNatClampNeg) then if 0 ≤ (gA σ 34 x1.toNatClampNeg) then if ¬ (x1 < 0 ∨ 4 ≤ x1.toNatClampNeg) then bnd (fX12_among x2 0 ((gA σ 34 x1.toNatClampNeg) - 1)) (fun r4 u5 => if r4 = 0 then some (3, σ) else some (0, σ)) else none else some (1, σ) else none
theorem in_X12_noCell : ∀ w ∈ u_ws RX12 TX12 39, w ∈ wsX12_noCell := by decide +kernel
set_option maxHeartbeats 4000000 in
set_option maxRecDepth 100000 in
theorem kX12_noCell (l : Launch) (D : va_G) (τ : CId) (q : Nat → Nat) (σ : MS) (x1 : Int32) (x2 : Int32) (rE : Int32) (sE : MS) (hf : fX12_noCell x1 x2 σ = some (rE, sE)) : Ct l D τ yX12_noCell wsX12_noCell { frames := 1, cells := 0, slots := 0, locals := 22 } [.ref (q 0), .int x1, .int x2] (mW τ q σ) (FD (mW τ q sE) (some (.int rE))) := by
  unfold fX12_noCell at hf
  refine ct_of (cc := cX12_noCell) (maxL := 3) (ret := (some .int)) (by decide) rfl (Nat.le_of_ble_eq_true rfl) (fun Γ C => ?_)
  refine wm_lv (lv' := [(0, .ref (q 0)), (1, .int x1), (2, .int x2)]) rfl ?_
  refine wm_aload_n C dX12_noCell_0 0 rfl (pc' := 1) rfl ?_
  refine m_get (v := .ref (q 34)) C dX12_noCell_1 in_X12_noCell 34 (by decide) (by decide +kernel) rfl rfl (pc' := 4) rfl ?_
  refine wm_iload_n C dX12_noCell_4 1 rfl (pc' := 5) rfl ?_
  obtain ⟨h1, hf⟩ := chk_s hf
  refine wm_iald (f := gA σ 34) (N := 4) (cA := τ.1) C dX12_noCell_5 25 mA_34 rfl h1 (pc' := 6) rfl ?_
  refine wm_if_ge C dX12_noCell_6 13 (by decide) (pc' := 9) rfl (fun h2 => ?_) (fun h2 => ?_)
  · have hf := ite_t h2 hf
    refine wm_iload_n C dX12_noCell_13 2 rfl (pc' := 14) rfl ?_
    refine wm_ikonst (v := 0) C dX12_noCell_14 (by decide) (pc' := 15) rfl ?_
    refine wm_aload_n C dX12_noCell_15 0 rfl (pc' := 16) rfl ?_
    refine m_get (v := .ref (q 34)) C dX12_noCell_16 in_X12_noCell 34 (by decide) (by decide +kernel) rfl rfl (pc' := 19) rfl ?_
    refine wm_iload_n C dX12_noCell_19 1 rfl (pc' := 20) rfl ?_
    obtain ⟨h3, hf⟩ := chk_s hf
    refine wm_iald (f := gA σ 34) (N := 4) (cA := τ.1) C dX12_noCell_20 25 mA_34 rfl h3 (pc' := 21) rfl ?_
    refine wm_ikonst (v := 1) C dX12_noCell_21 (by decide) (pc' := 22) rfl ?_
    refine wm_isub C dX12_noCell_22 (pc' := 23) rfl ?_
    obtain ⟨r4, u5, h6, hf⟩ := bnd_s hf
    refine wm_callSd (nn := 3) (As := [.int x2, .int 0, .int ((gA σ 34 x1.toNatClampNeg) - 1)]) (rest := []) (st' := [.int r4]) C dX12_noCell_23 (kX12_among l D τ x2 0 ((gA σ 34 x1.toNatClampNeg) - 1) r4 h6) gX12_noCell_X12_among rfl (by decide +kernel) ⟨Nat.le_of_ble_eq_true rfl, Nat.le_of_ble_eq_true rfl⟩ rfl rfl ⟨Nat.zero_le _, Nat.zero_le _⟩ rfl rfl (Nat.le_of_ble_eq_true rfl) rfl (pc' := 26) rfl ?_
    refine wm_if_eq C dX12_noCell_26 33 (by decide) (pc' := 29) rfl (fun h7 => ?_) (fun h7 => ?_)
    · have hf := ite_t h7 hf
      refine wm_ikonst (v := 3) C dX12_noCell_33 (by decide) (pc' := 34) rfl ?_
      obtain ⟨rfl, rfl⟩ := leaf_s hf
      exact wm_iret C dX12_noCell_34 (Nat.zero_le _) (Nat.zero_le _) FD.rf
    · have hf := ite_f h7 hf
      refine wm_ikonst (v := 0) C dX12_noCell_29 (by decide) (pc' := 30) rfl ?_
      refine wm_goto C dX12_noCell_30 34 (by decide) ?_
      obtain ⟨rfl, rfl⟩ := leaf_s hf
      exact wm_iret C dX12_noCell_34 (Nat.zero_le _) (Nat.zero_le _) FD.rf
  · have hf := ite_f h2 hf
    refine wm_ikonst (v := 1) C dX12_noCell_9 (by decide) (pc' := 10) rfl ?_
    refine wm_goto C dX12_noCell_10 34 (by decide) ?_
    obtain ⟨rfl, rfl⟩ := leaf_s hf
    exact wm_iret C dX12_noCell_34 (Nat.zero_le _) (Nat.zero_le _) FD.rf
def fX12_put_J89 (t0 : Int64) (t1 : Int32) (s : MS) : Option (Int32 × MS) :=
  if ¬ (t1 < 0 ∨ 96 ≤ t1.toNatClampNeg) then lets (sB s 36 t1.toNatClampNeg t0) (fun s14 => bnd (fX12_refused 1 s14) (fun r16 s17 => some (r16, s17))) else none
def fX12_put (x1 : Int32) (x2 : Int32) (x3 : Int64) (σ : MS) : Option (Int32 × MS) :=
  bnd (fX12_noCore x1) (fun r1 u2 => if r1 = 0 then bnd (fX12_noCell x1 x2 σ) (fun r5 s6 => if r5 ≤ 0 then if ¬ (x1 < 0 ∨ 4 ≤ x1.toNatClampNeg) then if ¬ (gA s6 35 x1.toNatClampNeg) = 0 then if ¬ (gA s6 35 x1.toNatClampNeg) = 1 then if ¬ (gA s6 35 x1.toNatClampNeg) = 2 then fX12_put_J89 x3 ((24 * x1) + x2) s6 else fX12_put_J89 x3.toInt32.toInt64 ((24 * x1) + x2) s6 else fX12_put_J89 x3.toInt32.toInt16.toInt32.toInt64 ((24 * x1) + x2) s6 else fX12_put_J89 x3.toInt32.toInt8.toInt32.toInt64 ((24 * x1) + x2) s6 else none else bnd (fX12_noCell x1 x2 s6) (fun r19 s20 => bnd (fX12_failed r19 s20) (fun r22 s23 => some (r22, s23)))) else bnd (fX12_refused (-1) σ) (fun r25 s26 => some (r25, s26)))
theorem in_X12_put : ∀ w ∈ u_ws RX12 TX12 39, w ∈ wsX12_put := by decide +kernel
set_option maxHeartbeats 4000000 in
set_option maxRecDepth 100000 in
theorem kX12_put (l : Launch) (D : va_G) (τ : CId) (q : Nat → Nat) (σ : MS) (x1 : Int32) (x2 : Int32) (x3 : Int64) (rE : Int32) (sE : MS) (hf : fX12_put x1 x2 x3 σ = some (rE, sE)) : Ct l D τ yX12_put wsX12_put { frames := 2, cells := 0, slots := 0, locals := 44 } [.ref (q 0), .int x1, .int x2, .long x3] (mW τ q σ) (FD (mW τ q sE) (some (.int rE))) := by
  unfold fX12_put at hf
  refine ct_of (cc := cX12_put) (maxL := 6) (ret := (some .int)) (by decide) rfl (Nat.le_of_ble_eq_true rfl) (fun Γ C => ?_)
  refine wm_lv (lv' := [(0, .ref (q 0)), (1, .int x1), (2, .int x2), (3, .long x3)]) rfl ?_
  have wJ_89 : ∀ (t0 : Int64) (t1 : Int32) (s : MS), fX12_put_J89 t0 t1 s = some (rE, sE) → WM l D Γ 6 0 0 (mW τ q s) 89 [(0, .ref (q 0))] [.long t0, .int t1, .ref (q 36)] := by
    intro t0 t1 s hf
    unfold fX12_put_J89 at hf
    obtain ⟨h13, hf⟩ := chk_s hf
    obtain ⟨s14, e15, hf⟩ := lets_s hf
    refine wm_last (f := gB s 36) (N := 96) (cA := τ.2.1) C dX12_put_89 27 mA_36 rfl h13 (Wd' := mW τ q s14) ((mS_36 _ _).trans (congrArg (mW τ q) e15.symm)) (pc' := 90) rfl ?_
    refine wm_aload_n C dX12_put_90 0 rfl (pc' := 91) rfl ?_
    refine wm_ikonst (v := 1) C dX12_put_91 (by decide) (pc' := 92) rfl ?_
    obtain ⟨r16, s17, h18, hf⟩ := bnd_s hf
    refine wm_callVd (nn := 1) (As := [.int 1]) (rest := []) (st' := [.int r16]) C dX12_put_92 (kX12_refused l D τ q s14 1 r16 s17 h18) gX12_put_X12_refused rfl (by decide +kernel) ⟨Nat.le_of_ble_eq_true rfl, Nat.le_of_ble_eq_true rfl⟩ rfl rfl ⟨Nat.zero_le _, Nat.zero_le _⟩ 0 rfl rfl rfl rfl (Nat.le_of_ble_eq_true rfl) rfl (pc' := 95) rfl ?_
    obtain ⟨rfl, rfl⟩ := leaf_s hf
    exact wm_iret C dX12_put_95 (Nat.zero_le _) (Nat.zero_le _) FD.rf
  refine wm_iload_n C dX12_put_0 1 rfl (pc' := 1) rfl ?_
  obtain ⟨r1, u2, h3, hf⟩ := bnd_s hf
  refine wm_callSd (nn := 1) (As := [.int x1]) (rest := []) (st' := [.int r1]) C dX12_put_1 (kX12_noCore l D τ x1 r1 h3) gX12_put_X12_noCore rfl (by decide +kernel) ⟨Nat.le_of_ble_eq_true rfl, Nat.le_of_ble_eq_true rfl⟩ rfl rfl ⟨Nat.zero_le _, Nat.zero_le _⟩ rfl rfl (Nat.le_of_ble_eq_true rfl) rfl (pc' := 4) rfl ?_
  refine wm_if_eq C dX12_put_4 13 (by decide) (pc' := 7) rfl (fun h4 => ?_) (fun h4 => ?_)
  · have hf := ite_t h4 hf
    refine wm_aload_n C dX12_put_13 0 rfl (pc' := 14) rfl ?_
    refine wm_iload_n C dX12_put_14 1 rfl (pc' := 15) rfl ?_
    refine wm_iload_n C dX12_put_15 2 rfl (pc' := 16) rfl ?_
    obtain ⟨r5, s6, h7, hf⟩ := bnd_s hf
    refine wm_callVd (nn := 2) (As := [.int x1, .int x2]) (rest := []) (st' := [.int r5]) C dX12_put_16 (kX12_noCell l D τ q σ x1 x2 r5 s6 h7) gX12_put_X12_noCell rfl (by decide +kernel) ⟨Nat.le_of_ble_eq_true rfl, Nat.le_of_ble_eq_true rfl⟩ rfl rfl ⟨Nat.zero_le _, Nat.zero_le _⟩ 0 rfl rfl rfl rfl (Nat.le_of_ble_eq_true rfl) rfl (pc' := 19) rfl ?_
    refine wm_if_le C dX12_put_19 33 (by decide) (pc' := 22) rfl (fun h8 => ?_) (fun h8 => ?_)
    · have hf := ite_t h8 hf
      refine wm_aload_n C dX12_put_33 0 rfl (pc' := 34) rfl ?_
      refine m_get (v := .ref (q 35)) C dX12_put_34 in_X12_put 35 (by decide) (by decide +kernel) rfl rfl (pc' := 37) rfl ?_
      refine wm_iload_n C dX12_put_37 1 rfl (pc' := 38) rfl ?_
      obtain ⟨h9, hf⟩ := chk_s hf
      refine wm_iald (f := gA s6 35) (N := 4) (cA := τ.1) C dX12_put_38 26 mA_35 rfl h9 (pc' := 39) rfl ?_
      refine wm_istore (lv' := [(5, .int (gA s6 35 x1.toNatClampNeg)), (0, .ref (q 0)), (1, .int x1), (2, .int x2), (3, .long x3)]) C dX12_put_39 (by decide) rfl (pc' := 41) rfl ?_
      refine wm_aload_n C dX12_put_41 1 rfl (pc' := 42) rfl ?_
      refine m_get (v := .ref (q 36)) C dX12_put_42 in_X12_put 36 (by decide) (by decide +kernel) rfl rfl (pc' := 45) rfl ?_
      refine wm_bipush (v := 24) C dX12_put_45 (by decide) (pc' := 47) rfl ?_
      refine wm_iload_n C dX12_put_47 2 rfl (pc' := 48) rfl ?_
      refine wm_imul C dX12_put_48 (pc' := 49) rfl ?_
      refine wm_iload_n C dX12_put_49 3 rfl (pc' := 50) rfl ?_
      refine wm_iadd C dX12_put_50 (pc' := 51) rfl ?_
      refine wm_iload C dX12_put_51 0 rfl (pc' := 53) rfl ?_
      refine wm_if_ne C dX12_put_53 63 (by decide) (pc' := 56) rfl (fun h10 => ?_) (fun h10 => ?_)
      · have hf := ite_t h10 hf
        refine wm_iload C dX12_put_63 0 rfl (pc' := 65) rfl ?_
        refine wm_ikonst (v := 1) C dX12_put_65 (by decide) (pc' := 66) rfl ?_
        refine wm_icmp_ne C dX12_put_66 76 (by decide) (pc' := 69) rfl (fun h11 => ?_) (fun h11 => ?_)
        · have hf := ite_t h11 hf
          refine wm_iload C dX12_put_76 0 rfl (pc' := 78) rfl ?_
          refine wm_ikonst (v := 2) C dX12_put_78 (by decide) (pc' := 79) rfl ?_
          refine wm_icmp_ne C dX12_put_79 88 (by decide) (pc' := 82) rfl (fun h12 => ?_) (fun h12 => ?_)
          · have hf := ite_t h12 hf
            refine wm_lload_n C dX12_put_88 4 rfl (pc' := 89) rfl ?_
            refine wm_sub (lv' := [(0, .ref (q 0))]) [1] rfl ?_
            exact wJ_89 x3 ((24 * x1) + x2) s6 hf
          · have hf := ite_f (fun h => h h12) hf
            refine wm_lload_n C dX12_put_82 4 rfl (pc' := 83) rfl ?_
            refine wm_l2i C dX12_put_83 (pc' := 84) rfl ?_
            refine wm_i2l C dX12_put_84 (pc' := 85) rfl ?_
            refine wm_goto C dX12_put_85 89 (by decide) ?_
            refine wm_sub (lv' := [(0, .ref (q 0))]) [1] rfl ?_
            exact wJ_89 x3.toInt32.toInt64 ((24 * x1) + x2) s6 hf
        · have hf := ite_f (fun h => h h11) hf
          refine wm_lload_n C dX12_put_69 4 rfl (pc' := 70) rfl ?_
          refine wm_l2i C dX12_put_70 (pc' := 71) rfl ?_
          refine wm_i2s C dX12_put_71 (pc' := 72) rfl ?_
          refine wm_i2l C dX12_put_72 (pc' := 73) rfl ?_
          refine wm_goto C dX12_put_73 89 (by decide) ?_
          refine wm_sub (lv' := [(0, .ref (q 0))]) [1] rfl ?_
          exact wJ_89 x3.toInt32.toInt16.toInt32.toInt64 ((24 * x1) + x2) s6 hf
      · have hf := ite_f (fun h => h h10) hf
        refine wm_lload_n C dX12_put_56 4 rfl (pc' := 57) rfl ?_
        refine wm_l2i C dX12_put_57 (pc' := 58) rfl ?_
        refine wm_i2b C dX12_put_58 (pc' := 59) rfl ?_
        refine wm_i2l C dX12_put_59 (pc' := 60) rfl ?_
        refine wm_goto C dX12_put_60 89 (by decide) ?_
        refine wm_sub (lv' := [(0, .ref (q 0))]) [1] rfl ?_
        exact wJ_89 x3.toInt32.toInt8.toInt32.toInt64 ((24 * x1) + x2) s6 hf
    · have hf := ite_f h8 hf
      refine wm_aload_n C dX12_put_22 0 rfl (pc' := 23) rfl ?_
      refine wm_aload_n C dX12_put_23 0 rfl (pc' := 24) rfl ?_
      refine wm_iload_n C dX12_put_24 1 rfl (pc' := 25) rfl ?_
      refine wm_iload_n C dX12_put_25 2 rfl (pc' := 26) rfl ?_
      obtain ⟨r19, s20, h21, hf⟩ := bnd_s hf
      refine wm_callVd (nn := 2) (As := [.int x1, .int x2]) (rest := [.ref (q 0)]) (st' := [.int r19, .ref (q 0)]) C dX12_put_26 (kX12_noCell l D τ q s6 x1 x2 r19 s20 h21) gX12_put_X12_noCell rfl (by decide +kernel) ⟨Nat.le_of_ble_eq_true rfl, Nat.le_of_ble_eq_true rfl⟩ rfl rfl ⟨Nat.zero_le _, Nat.zero_le _⟩ 0 rfl rfl rfl rfl (Nat.le_of_ble_eq_true rfl) rfl (pc' := 29) rfl ?_
      obtain ⟨r22, s23, h24, hf⟩ := bnd_s hf
      refine wm_callVd (nn := 1) (As := [.int r19]) (rest := []) (st' := [.int r22]) C dX12_put_29 (kX12_failed l D τ q s20 r19 r22 s23 h24) gX12_put_X12_failed rfl (by decide +kernel) ⟨Nat.le_of_ble_eq_true rfl, Nat.le_of_ble_eq_true rfl⟩ rfl rfl ⟨Nat.zero_le _, Nat.zero_le _⟩ 0 rfl rfl rfl rfl (Nat.le_of_ble_eq_true rfl) rfl (pc' := 32) rfl ?_
      obtain ⟨rfl, rfl⟩ := leaf_s hf
      exact wm_iret C dX12_put_32 (Nat.zero_le _) (Nat.zero_le _) FD.rf
  · have hf := ite_f h4 hf
    refine wm_aload_n C dX12_put_7 0 rfl (pc' := 8) rfl ?_
    refine wm_ikonst (v := (-1)) C dX12_put_8 (by decide) (pc' := 9) rfl ?_
    obtain ⟨r25, s26, h27, hf⟩ := bnd_s hf
    refine wm_callVd (nn := 1) (As := [.int (-1)]) (rest := []) (st' := [.int r25]) C dX12_put_9 (kX12_refused l D τ q σ (-1) r25 s26 h27) gX12_put_X12_refused rfl (by decide +kernel) ⟨Nat.le_of_ble_eq_true rfl, Nat.le_of_ble_eq_true rfl⟩ rfl rfl ⟨Nat.zero_le _, Nat.zero_le _⟩ 0 rfl rfl rfl rfl (Nat.le_of_ble_eq_true rfl) rfl (pc' := 12) rfl ?_
    obtain ⟨rfl, rfl⟩ := leaf_s hf
    exact wm_iret C dX12_put_12 (Nat.zero_le _) (Nat.zero_le _) FD.rf
def fX12_cell_J21 (s : MS) : Option (Int64 × MS) :=
  bnd (fX12_lost) (fun r7 u8 => some (r7, s))
def fX12_cell_J50 (x1 : Int32) (x2 : Int32) (s : MS) : Option (Int64 × MS) :=
  bnd (fX12_noCell x1 x2 s) (fun r16 s17 => if r16 ≤ 0 then if ¬ (((24 * x1) + x2) < 0 ∨ 96 ≤ ((24 * x1) + x2).toNatClampNeg) then some (gB s17 36 ((24 * x1) + x2).toNatClampNeg, s17) else none else bnd (fX12_noCell x1 x2 s17) (fun r21 s22 => bnd (fX12_failedLong r21 s22) (fun r24 s25 => some (r24, s25))))
def fX12_cell (x1 : Int32) (x2 : Int32) (x3 : Int32) (σ : MS) : Option (Int64 × MS) :=
  lets (sI σ 0 0) (fun s1 => bnd (fX12_noCore x1) (fun r3 u4 => if ¬ r3 = 0 then fX12_cell_J21 s1 else bnd (fX12_among x3 0 3) (fun r10 u11 => if ¬ r10 = 0 then if ¬ (x1 < 0 ∨ 4 ≤ x1.toNatClampNeg) then if (gA s1 34 x1.toNatClampNeg) < 0 then fX12_cell_J50 x1 x2 s1 else if ¬ (x1 < 0 ∨ 4 ≤ x1.toNatClampNeg) then if (gA s1 35 x1.toNatClampNeg) = x3 then fX12_cell_J50 x1 x2 s1 else bnd (fX12_failedLong 2 s1) (fun r29 s30 => some (r29, s30)) else none else none else fX12_cell_J21 s1)))
theorem in_X12_cell : ∀ w ∈ u_ws RX12 TX12 39, w ∈ wsX12_cell := by decide +kernel
set_option maxHeartbeats 4000000 in
set_option maxRecDepth 100000 in
theorem kX12_cell (l : Launch) (D : va_G) (τ : CId) (q : Nat → Nat) (σ : MS) (x1 : Int32) (x2 : Int32) (x3 : Int32) (rE : Int64) (sE : MS) (hf : fX12_cell x1 x2 x3 σ = some (rE, sE)) : Ct l D τ yX12_cell wsX12_cell { frames := 2, cells := 0, slots := 0, locals := 44 } [.ref (q 0), .int x1, .int x2, .int x3] (mW τ q σ) (FD (mW τ q sE) (some (.long rE))) := by
  unfold fX12_cell at hf
  refine ct_of (cc := cX12_cell) (maxL := 4) (ret := (some .long)) (by decide) rfl (Nat.le_of_ble_eq_true rfl) (fun Γ C => ?_)
  refine wm_lv (lv' := [(0, .ref (q 0)), (1, .int x1), (2, .int x2), (3, .int x3)]) rfl ?_
  have wJ_21 : ∀ (s : MS), fX12_cell_J21 s = some (rE, sE) → WM l D Γ 4 0 0 (mW τ q s) 21 [] [] := by
    intro  s hf
    unfold fX12_cell_J21 at hf
    obtain ⟨r7, u8, h9, hf⟩ := bnd_s hf
    refine wm_callSd (nn := 0) (As := []) (rest := []) (st' := [.long r7]) C dX12_cell_21 (kX12_lost l D τ r7 h9) gX12_cell_X12_lost rfl (by decide +kernel) ⟨Nat.le_of_ble_eq_true rfl, Nat.le_of_ble_eq_true rfl⟩ rfl rfl ⟨Nat.zero_le _, Nat.zero_le _⟩ rfl rfl (Nat.le_of_ble_eq_true rfl) rfl (pc' := 24) rfl ?_
    obtain ⟨rfl, rfl⟩ := leaf_s hf
    exact wm_lret C dX12_cell_24 (Nat.zero_le _) (Nat.zero_le _) FD.rf
  have wJ_50 : ∀ (x1 : Int32) (x2 : Int32) (s : MS), fX12_cell_J50 x1 x2 s = some (rE, sE) → WM l D Γ 4 0 0 (mW τ q s) 50 [(0, .ref (q 0)), (1, .int x1), (2, .int x2)] [] := by
    intro x1 x2 s hf
    unfold fX12_cell_J50 at hf
    refine wm_aload_n C dX12_cell_50 0 rfl (pc' := 51) rfl ?_
    refine wm_iload_n C dX12_cell_51 1 rfl (pc' := 52) rfl ?_
    refine wm_iload_n C dX12_cell_52 2 rfl (pc' := 53) rfl ?_
    obtain ⟨r16, s17, h18, hf⟩ := bnd_s hf
    refine wm_callVd (nn := 2) (As := [.int x1, .int x2]) (rest := []) (st' := [.int r16]) C dX12_cell_53 (kX12_noCell l D τ q s x1 x2 r16 s17 h18) gX12_cell_X12_noCell rfl (by decide +kernel) ⟨Nat.le_of_ble_eq_true rfl, Nat.le_of_ble_eq_true rfl⟩ rfl rfl ⟨Nat.zero_le _, Nat.zero_le _⟩ 0 rfl rfl rfl rfl (Nat.le_of_ble_eq_true rfl) rfl (pc' := 56) rfl ?_
    refine wm_if_le C dX12_cell_56 72 (by decide) (pc' := 59) rfl (fun h19 => ?_) (fun h19 => ?_)
    · have hf := ite_t h19 hf
      refine wm_aload_n C dX12_cell_72 0 rfl (pc' := 73) rfl ?_
      refine m_get (v := .ref (q 36)) C dX12_cell_73 in_X12_cell 36 (by decide) (by decide +kernel) rfl rfl (pc' := 76) rfl ?_
      refine wm_bipush (v := 24) C dX12_cell_76 (by decide) (pc' := 78) rfl ?_
      refine wm_iload_n C dX12_cell_78 1 rfl (pc' := 79) rfl ?_
      refine wm_imul C dX12_cell_79 (pc' := 80) rfl ?_
      refine wm_iload_n C dX12_cell_80 2 rfl (pc' := 81) rfl ?_
      refine wm_iadd C dX12_cell_81 (pc' := 82) rfl ?_
      obtain ⟨h20, hf⟩ := chk_s hf
      refine wm_lald (f := gB s17 36) (N := 96) (cA := τ.2.1) C dX12_cell_82 27 mA_36 rfl h20 (pc' := 83) rfl ?_
      obtain ⟨rfl, rfl⟩ := leaf_s hf
      exact wm_lret C dX12_cell_83 (Nat.zero_le _) (Nat.zero_le _) FD.rf
    · have hf := ite_f h19 hf
      refine wm_aload_n C dX12_cell_59 0 rfl (pc' := 60) rfl ?_
      refine wm_aload_n C dX12_cell_60 0 rfl (pc' := 61) rfl ?_
      refine wm_iload_n C dX12_cell_61 1 rfl (pc' := 62) rfl ?_
      refine wm_iload_n C dX12_cell_62 2 rfl (pc' := 63) rfl ?_
      obtain ⟨r21, s22, h23, hf⟩ := bnd_s hf
      refine wm_callVd (nn := 2) (As := [.int x1, .int x2]) (rest := [.ref (q 0)]) (st' := [.int r21, .ref (q 0)]) C dX12_cell_63 (kX12_noCell l D τ q s17 x1 x2 r21 s22 h23) gX12_cell_X12_noCell rfl (by decide +kernel) ⟨Nat.le_of_ble_eq_true rfl, Nat.le_of_ble_eq_true rfl⟩ rfl rfl ⟨Nat.zero_le _, Nat.zero_le _⟩ 0 rfl rfl rfl rfl (Nat.le_of_ble_eq_true rfl) rfl (pc' := 66) rfl ?_
      obtain ⟨r24, s25, h26, hf⟩ := bnd_s hf
      refine wm_callVd (nn := 1) (As := [.int r21]) (rest := []) (st' := [.long r24]) C dX12_cell_66 (kX12_failedLong l D τ q s22 r21 r24 s25 h26) gX12_cell_X12_failedLong rfl (by decide +kernel) ⟨Nat.le_of_ble_eq_true rfl, Nat.le_of_ble_eq_true rfl⟩ rfl rfl ⟨Nat.zero_le _, Nat.zero_le _⟩ 0 rfl rfl rfl rfl (Nat.le_of_ble_eq_true rfl) rfl (pc' := 69) rfl ?_
      refine wm_goto C dX12_cell_69 83 (by decide) ?_
      obtain ⟨rfl, rfl⟩ := leaf_s hf
      exact wm_lret C dX12_cell_83 (Nat.zero_le _) (Nat.zero_le _) FD.rf
  refine wm_aload_n C dX12_cell_0 0 rfl (pc' := 1) rfl ?_
  refine wm_ikonst (v := 0) C dX12_cell_1 (by decide) (pc' := 2) rfl ?_
  obtain ⟨s1, e2, hf⟩ := lets_s hf
  refine m_putI C dX12_cell_2 in_X12_cell 0 (by decide) (by decide +kernel) rfl rfl rfl mL_0 mI_0 e2 (pc' := 5) rfl ?_
  refine wm_iload_n C dX12_cell_5 1 rfl (pc' := 6) rfl ?_
  obtain ⟨r3, u4, h5, hf⟩ := bnd_s hf
  refine wm_callSd (nn := 1) (As := [.int x1]) (rest := []) (st' := [.int r3]) C dX12_cell_6 (kX12_noCore l D τ x1 r3 h5) gX12_cell_X12_noCore rfl (by decide +kernel) ⟨Nat.le_of_ble_eq_true rfl, Nat.le_of_ble_eq_true rfl⟩ rfl rfl ⟨Nat.zero_le _, Nat.zero_le _⟩ rfl rfl (Nat.le_of_ble_eq_true rfl) rfl (pc' := 9) rfl ?_
  refine wm_if_ne C dX12_cell_9 21 (by decide) (pc' := 12) rfl (fun h6 => ?_) (fun h6 => ?_)
  · have hf := ite_t h6 hf
    refine wm_sub (lv' := []) [] rfl ?_
    exact wJ_21 s1 hf
  · have hf := ite_f (fun h => h h6) hf
    refine wm_iload_n C dX12_cell_12 3 rfl (pc' := 13) rfl ?_
    refine wm_ikonst (v := 0) C dX12_cell_13 (by decide) (pc' := 14) rfl ?_
    refine wm_ikonst (v := 3) C dX12_cell_14 (by decide) (pc' := 15) rfl ?_
    obtain ⟨r10, u11, h12, hf⟩ := bnd_s hf
    refine wm_callSd (nn := 3) (As := [.int x3, .int 0, .int 3]) (rest := []) (st' := [.int r10]) C dX12_cell_15 (kX12_among l D τ x3 0 3 r10 h12) gX12_cell_X12_among rfl (by decide +kernel) ⟨Nat.le_of_ble_eq_true rfl, Nat.le_of_ble_eq_true rfl⟩ rfl rfl ⟨Nat.zero_le _, Nat.zero_le _⟩ rfl rfl (Nat.le_of_ble_eq_true rfl) rfl (pc' := 18) rfl ?_
    refine wm_if_ne C dX12_cell_18 25 (by decide) (pc' := 21) rfl (fun h13 => ?_) (fun h13 => ?_)
    · have hf := ite_t h13 hf
      refine wm_aload_n C dX12_cell_25 0 rfl (pc' := 26) rfl ?_
      refine m_get (v := .ref (q 34)) C dX12_cell_26 in_X12_cell 34 (by decide) (by decide +kernel) rfl rfl (pc' := 29) rfl ?_
      refine wm_iload_n C dX12_cell_29 1 rfl (pc' := 30) rfl ?_
      obtain ⟨h14, hf⟩ := chk_s hf
      refine wm_iald (f := gA s1 34) (N := 4) (cA := τ.1) C dX12_cell_30 25 mA_34 rfl h14 (pc' := 31) rfl ?_
      refine wm_if_lt C dX12_cell_31 50 (by decide) (pc' := 34) rfl (fun h15 => ?_) (fun h15 => ?_)
      · have hf := ite_t h15 hf
        refine wm_sub (lv' := [(0, .ref (q 0)), (1, .int x1), (2, .int x2)]) [0, 1, 2] rfl ?_
        exact wJ_50 x1 x2 s1 hf
      · have hf := ite_f h15 hf
        refine wm_aload_n C dX12_cell_34 0 rfl (pc' := 35) rfl ?_
        refine m_get (v := .ref (q 35)) C dX12_cell_35 in_X12_cell 35 (by decide) (by decide +kernel) rfl rfl (pc' := 38) rfl ?_
        refine wm_iload_n C dX12_cell_38 1 rfl (pc' := 39) rfl ?_
        obtain ⟨h27, hf⟩ := chk_s hf
        refine wm_iald (f := gA s1 35) (N := 4) (cA := τ.1) C dX12_cell_39 26 mA_35 rfl h27 (pc' := 40) rfl ?_
        refine wm_iload_n C dX12_cell_40 3 rfl (pc' := 41) rfl ?_
        refine wm_icmp_eq C dX12_cell_41 50 (by decide) (pc' := 44) rfl (fun h28 => ?_) (fun h28 => ?_)
        · have hf := ite_t h28 hf
          refine wm_sub (lv' := [(0, .ref (q 0)), (1, .int x1), (2, .int x2)]) [0, 1, 2] rfl ?_
          exact wJ_50 x1 x2 s1 hf
        · have hf := ite_f h28 hf
          refine wm_aload_n C dX12_cell_44 0 rfl (pc' := 45) rfl ?_
          refine wm_ikonst (v := 2) C dX12_cell_45 (by decide) (pc' := 46) rfl ?_
          obtain ⟨r29, s30, h31, hf⟩ := bnd_s hf
          refine wm_callVd (nn := 1) (As := [.int 2]) (rest := []) (st' := [.long r29]) C dX12_cell_46 (kX12_failedLong l D τ q s1 2 r29 s30 h31) gX12_cell_X12_failedLong rfl (by decide +kernel) ⟨Nat.le_of_ble_eq_true rfl, Nat.le_of_ble_eq_true rfl⟩ rfl rfl ⟨Nat.zero_le _, Nat.zero_le _⟩ 0 rfl rfl rfl rfl (Nat.le_of_ble_eq_true rfl) rfl (pc' := 49) rfl ?_
          obtain ⟨rfl, rfl⟩ := leaf_s hf
          exact wm_lret C dX12_cell_49 (Nat.zero_le _) (Nat.zero_le _) FD.rf
    · have hf := ite_f (fun h => h h13) hf
      refine wm_sub (lv' := []) [] rfl ?_
      exact wJ_21 s1 hf
def fX12_copy_J14 (s : MS) : Option (Int32 × MS) :=
  bnd (fX12_refused (-1) s) (fun r5 s6 => some (r5, s6))
def fX12_copy_J38 (s : MS) : Option (Int32 × MS) :=
  bnd (fX12_failed 1 s) (fun r14 s15 => some (r14, s15))
def fX12_copy_J96 (s : MS) : Option (Int32 × MS) :=
  bnd (fX12_failed 3 s) (fun r27 s28 => some (r27, s28))
def fX12_copy_L105 (x1 : Int32) (x2 : Int32) (x3 : Int32) (x4 : Int32) (x5 : Int32) : Nat → Int32 → MS → Option (Unit × MS)
  | 0, _, _ => none
  | fu + 1, x6, s => if x5 ≤ x6 then some ((), s) else if ¬ ((((24 * x1) + x2) + x6) < 0 ∨ 96 ≤ (((24 * x1) + x2) + x6).toNatClampNeg) then if ¬ (x6 < 0 ∨ 24 ≤ x6.toNatClampNeg) then lets (sB s 37 x6.toNatClampNeg (gB s 36 (((24 * x1) + x2) + x6).toNatClampNeg)) (fun s38 => fX12_copy_L105 x1 x2 x3 x4 x5 fu (x6 + 1) s38) else none else none
theorem fX12_copy_L105_s (x1 : Int32) (x2 : Int32) (x3 : Int32) (x4 : Int32) (x5 : Int32) (fu : Nat) (x6 : Int32) (s : MS) : fX12_copy_L105 x1 x2 x3 x4 x5 (fu + 1) x6 s = (if x5 ≤ x6 then some ((), s) else if ¬ ((((24 * x1) + x2) + x6) < 0 ∨ 96 ≤ (((24 * x1) + x2) + x6).toNatClampNeg) then if ¬ (x6 < 0 ∨ 24 ≤ x6.toNatClampNeg) then lets (sB s 37 x6.toNatClampNeg (gB s 36 (((24 * x1) + x2) + x6).toNatClampNeg)) (fun s38 => fX12_copy_L105 x1 x2 x3 x4 x5 fu (x6 + 1) s38) else none else none) := rfl
def fX12_copy_L142 (x3 : Int32) (x4 : Int32) (x5 : Int32) : Nat → Int32 → MS → Option (Unit × MS)
  | 0, _, _ => none
  | fu + 1, x6, s => if x5 ≤ x6 then some ((), s) else if ¬ (x6 < 0 ∨ 24 ≤ x6.toNatClampNeg) then if ¬ ((((24 * x3) + x4) + x6) < 0 ∨ 96 ≤ (((24 * x3) + x4) + x6).toNatClampNeg) then lets (sB s 36 (((24 * x3) + x4) + x6).toNatClampNeg (gB s 37 x6.toNatClampNeg)) (fun s46 => fX12_copy_L142 x3 x4 x5 fu (x6 + 1) s46) else none else none
theorem fX12_copy_L142_s (x3 : Int32) (x4 : Int32) (x5 : Int32) (fu : Nat) (x6 : Int32) (s : MS) : fX12_copy_L142 x3 x4 x5 (fu + 1) x6 s = (if x5 ≤ x6 then some ((), s) else if ¬ (x6 < 0 ∨ 24 ≤ x6.toNatClampNeg) then if ¬ ((((24 * x3) + x4) + x6) < 0 ∨ 96 ≤ (((24 * x3) + x4) + x6).toNatClampNeg) then lets (sB s 36 (((24 * x3) + x4) + x6).toNatClampNeg (gB s 37 x6.toNatClampNeg)) (fun s46 => fX12_copy_L142 x3 x4 x5 fu (x6 + 1) s46) else none else none) := rfl
def fX12_copy (x1 : Int32) (x2 : Int32) (x3 : Int32) (x4 : Int32) (x5 : Int32) (σ : MS) : Option (Int32 × MS) :=
  bnd (fX12_noCore x1) (fun r1 u2 => if ¬ r1 = 0 then fX12_copy_J14 σ else bnd (fX12_noCore x3) (fun r8 u9 => if r8 = 0 then if ¬ (x1 < 0 ∨ 4 ≤ x1.toNatClampNeg) then if (gA σ 34 x1.toNatClampNeg) < 0 then fX12_copy_J38 σ else if ¬ (x3 < 0 ∨ 4 ≤ x3.toNatClampNeg) then if 0 ≤ (gA σ 34 x3.toNatClampNeg) then if ¬ (x1 < 0 ∨ 4 ≤ x1.toNatClampNeg) then if ¬ (x3 < 0 ∨ 4 ≤ x3.toNatClampNeg) then if (gA σ 35 x1.toNatClampNeg) = (gA σ 35 x3.toNatClampNeg) then if ¬ (x1 < 0 ∨ 4 ≤ x1.toNatClampNeg) then bnd (fX12_isBeyond x2 x5 (gA σ 34 x1.toNatClampNeg)) (fun r23 u24 => if ¬ r23 = 0 then fX12_copy_J96 σ else if ¬ (x3 < 0 ∨ 4 ≤ x3.toNatClampNeg) then bnd (fX12_isBeyond x4 x5 (gA σ 34 x3.toNatClampNeg)) (fun r31 u32 => if r31 = 0 then bnd (fX12_copy_L105 x1 x2 x3 x4 x5 FU 0 σ) (fun v40 s41 => bnd (fX12_copy_L142 x3 x4 x5 FU 0 s41) (fun v48 s49 => bnd (fX12_refused x5 s49) (fun r51 s52 => some (r51, s52)))) else fX12_copy_J96 σ) else none) else none else bnd (fX12_failed 2 σ) (fun r54 s55 => some (r54, s55)) else none else none else fX12_copy_J38 σ else none else none else fX12_copy_J14 σ))
theorem in_X12_copy : ∀ w ∈ u_ws RX12 TX12 39, w ∈ wsX12_copy := by decide +kernel
set_option maxHeartbeats 4000000 in
set_option maxRecDepth 100000 in
theorem kX12_copy (l : Launch) (D : va_G) (τ : CId) (q : Nat → Nat) (σ : MS) (x1 : Int32) (x2 : Int32) (x3 : Int32) (x4 : Int32) (x5 : Int32) (rE : Int32) (sE : MS) (hf : fX12_copy x1 x2 x3 x4 x5 σ = some (rE, sE)) : Ct l D τ yX12_copy wsX12_copy { frames := 2, cells := 0, slots := 0, locals := 42 } [.ref (q 0), .int x1, .int x2, .int x3, .int x4, .int x5] (mW τ q σ) (FD (mW τ q sE) (some (.int rE))) := by
  unfold fX12_copy at hf
  refine ct_of (cc := cX12_copy) (maxL := 7) (ret := (some .int)) (by decide) rfl (Nat.le_of_ble_eq_true rfl) (fun Γ C => ?_)
  refine wm_lv (lv' := [(0, .ref (q 0)), (1, .int x1), (2, .int x2), (3, .int x3), (4, .int x4), (5, .int x5)]) rfl ?_
  have wL_105 : ∀ (x1 : Int32) (x2 : Int32) (x3 : Int32) (x4 : Int32) (x5 : Int32) (fu : Nat) (x6 : Int32) (s : MS) (v : Unit) (s' : MS), fX12_copy_L105 x1 x2 x3 x4 x5 fu x6 s = some (v, s') → WM l D Γ 7 0 0 (mW τ q s') 139 [(0, .ref (q 0)), (3, .int x3), (4, .int x4), (5, .int x5)] [] → WM l D Γ 7 0 0 (mW τ q s) 105 [(0, .ref (q 0)), (1, .int x1), (2, .int x2), (3, .int x3), (4, .int x4), (5, .int x5), (6, .int x6)] [] := by
    intro x1 x2 x3 x4 x5
    intro fu
    induction fu with
    | zero => intro x6 s v s' hf hE; exact absurd hf (fun h => nomatch (show (none : Option _) = some _ from h))
    | succ fu ih =>
      intro x6 s v s' hf hE
      rw [fX12_copy_L105_s] at hf
      refine wm_iload C dX12_copy_105 6 rfl (pc' := 107) rfl ?_
      refine wm_iload C dX12_copy_107 5 rfl (pc' := 109) rfl ?_
      refine wm_icmp_ge C dX12_copy_109 139 (by decide) (pc' := 112) rfl (fun h35 => ?_) (fun h35 => ?_)
      · have hf := ite_t h35 hf
        obtain ⟨rfl, rfl⟩ := leaf_s hf
        refine wm_sub (lv' := [(0, .ref (q 0)), (3, .int x3), (4, .int x4), (5, .int x5)]) [0, 3, 4, 5] rfl ?_
        exact hE
      · have hf := ite_f h35 hf
        refine wm_aload_n C dX12_copy_112 0 rfl (pc' := 113) rfl ?_
        refine m_get (v := .ref (q 37)) C dX12_copy_113 in_X12_copy 37 (by decide) (by decide +kernel) rfl rfl (pc' := 116) rfl ?_
        refine wm_iload C dX12_copy_116 6 rfl (pc' := 118) rfl ?_
        refine wm_aload_n C dX12_copy_118 0 rfl (pc' := 119) rfl ?_
        refine m_get (v := .ref (q 36)) C dX12_copy_119 in_X12_copy 36 (by decide) (by decide +kernel) rfl rfl (pc' := 122) rfl ?_
        refine wm_bipush (v := 24) C dX12_copy_122 (by decide) (pc' := 124) rfl ?_
        refine wm_iload_n C dX12_copy_124 1 rfl (pc' := 125) rfl ?_
        refine wm_imul C dX12_copy_125 (pc' := 126) rfl ?_
        refine wm_iload_n C dX12_copy_126 2 rfl (pc' := 127) rfl ?_
        refine wm_iadd C dX12_copy_127 (pc' := 128) rfl ?_
        refine wm_iload C dX12_copy_128 6 rfl (pc' := 130) rfl ?_
        refine wm_iadd C dX12_copy_130 (pc' := 131) rfl ?_
        obtain ⟨h36, hf⟩ := chk_s hf
        refine wm_lald (f := gB s 36) (N := 96) (cA := τ.2.1) C dX12_copy_131 27 mA_36 rfl h36 (pc' := 132) rfl ?_
        obtain ⟨h37, hf⟩ := chk_s hf
        obtain ⟨s38, e39, hf⟩ := lets_s hf
        refine wm_last (f := gB s 37) (N := 24) (cA := τ.2.1) C dX12_copy_132 28 mA_37 rfl h37 (Wd' := mW τ q s38) ((mS_37 _ _).trans (congrArg (mW τ q) e39.symm)) (pc' := 133) rfl ?_
        refine wm_iinc (v := x6 + 1) (lv' := [(6, .int (x6 + 1)), (0, .ref (q 0)), (1, .int x1), (2, .int x2), (3, .int x3), (4, .int x4), (5, .int x5)]) C dX12_copy_133 6 rfl rfl (by decide) rfl (pc' := 136) rfl ?_
        refine wm_goto C dX12_copy_136 105 (by decide) ?_
        refine wm_sub (lv' := [(0, .ref (q 0)), (1, .int x1), (2, .int x2), (3, .int x3), (4, .int x4), (5, .int x5), (6, .int (x6 + 1))]) [1, 2, 3, 4, 5, 6, 0] rfl ?_
        exact ih (x6 + 1) s38 _ _ hf hE
  have wL_142 : ∀ (x3 : Int32) (x4 : Int32) (x5 : Int32) (fu : Nat) (x6 : Int32) (s : MS) (v : Unit) (s' : MS), fX12_copy_L142 x3 x4 x5 fu x6 s = some (v, s') → WM l D Γ 7 0 0 (mW τ q s') 177 [(0, .ref (q 0)), (5, .int x5)] [] → WM l D Γ 7 0 0 (mW τ q s) 142 [(0, .ref (q 0)), (3, .int x3), (4, .int x4), (5, .int x5), (6, .int x6)] [] := by
    intro x3 x4 x5
    intro fu
    induction fu with
    | zero => intro x6 s v s' hf hE; exact absurd hf (fun h => nomatch (show (none : Option _) = some _ from h))
    | succ fu ih =>
      intro x6 s v s' hf hE
      rw [fX12_copy_L142_s] at hf
      refine wm_iload C dX12_copy_142 4 rfl (pc' := 144) rfl ?_
      refine wm_iload C dX12_copy_144 3 rfl (pc' := 146) rfl ?_
      refine wm_icmp_ge C dX12_copy_146 177 (by decide) (pc' := 149) rfl (fun h43 => ?_) (fun h43 => ?_)
      · have hf := ite_t h43 hf
        obtain ⟨rfl, rfl⟩ := leaf_s hf
        refine wm_sub (lv' := [(0, .ref (q 0)), (5, .int x5)]) [0, 3] rfl ?_
        exact hE
      · have hf := ite_f h43 hf
        refine wm_aload_n C dX12_copy_149 0 rfl (pc' := 150) rfl ?_
        refine m_get (v := .ref (q 36)) C dX12_copy_150 in_X12_copy 36 (by decide) (by decide +kernel) rfl rfl (pc' := 153) rfl ?_
        refine wm_bipush (v := 24) C dX12_copy_153 (by decide) (pc' := 155) rfl ?_
        refine wm_iload_n C dX12_copy_155 1 rfl (pc' := 156) rfl ?_
        refine wm_imul C dX12_copy_156 (pc' := 157) rfl ?_
        refine wm_iload C dX12_copy_157 2 rfl (pc' := 159) rfl ?_
        refine wm_iadd C dX12_copy_159 (pc' := 160) rfl ?_
        refine wm_iload C dX12_copy_160 4 rfl (pc' := 162) rfl ?_
        refine wm_iadd C dX12_copy_162 (pc' := 163) rfl ?_
        refine wm_aload_n C dX12_copy_163 0 rfl (pc' := 164) rfl ?_
        refine m_get (v := .ref (q 37)) C dX12_copy_164 in_X12_copy 37 (by decide) (by decide +kernel) rfl rfl (pc' := 167) rfl ?_
        refine wm_iload C dX12_copy_167 4 rfl (pc' := 169) rfl ?_
        obtain ⟨h44, hf⟩ := chk_s hf
        refine wm_lald (f := gB s 37) (N := 24) (cA := τ.2.1) C dX12_copy_169 28 mA_37 rfl h44 (pc' := 170) rfl ?_
        obtain ⟨h45, hf⟩ := chk_s hf
        obtain ⟨s46, e47, hf⟩ := lets_s hf
        refine wm_last (f := gB s 36) (N := 96) (cA := τ.2.1) C dX12_copy_170 27 mA_36 rfl h45 (Wd' := mW τ q s46) ((mS_36 _ _).trans (congrArg (mW τ q) e47.symm)) (pc' := 171) rfl ?_
        refine wm_iinc (v := x6 + 1) (lv' := [(6, .int (x6 + 1)), (0, .ref (q 0)), (3, .int x3), (4, .int x4), (5, .int x5)]) C dX12_copy_171 4 rfl rfl (by decide) rfl (pc' := 174) rfl ?_
        refine wm_goto C dX12_copy_174 142 (by decide) ?_
        refine wm_sub (lv' := [(0, .ref (q 0)), (3, .int x3), (4, .int x4), (5, .int x5), (6, .int (x6 + 1))]) [1, 2, 3, 4, 0] rfl ?_
        exact ih (x6 + 1) s46 _ _ hf hE
  have wJ_14 : ∀ (s : MS), fX12_copy_J14 s = some (rE, sE) → WM l D Γ 7 0 0 (mW τ q s) 14 [(0, .ref (q 0))] [] := by
    intro  s hf
    unfold fX12_copy_J14 at hf
    refine wm_aload_n C dX12_copy_14 0 rfl (pc' := 15) rfl ?_
    refine wm_ikonst (v := (-1)) C dX12_copy_15 (by decide) (pc' := 16) rfl ?_
    obtain ⟨r5, s6, h7, hf⟩ := bnd_s hf
    refine wm_callVd (nn := 1) (As := [.int (-1)]) (rest := []) (st' := [.int r5]) C dX12_copy_16 (kX12_refused l D τ q s (-1) r5 s6 h7) gX12_copy_X12_refused rfl (by decide +kernel) ⟨Nat.le_of_ble_eq_true rfl, Nat.le_of_ble_eq_true rfl⟩ rfl rfl ⟨Nat.zero_le _, Nat.zero_le _⟩ 0 rfl rfl rfl rfl (Nat.le_of_ble_eq_true rfl) rfl (pc' := 19) rfl ?_
    obtain ⟨rfl, rfl⟩ := leaf_s hf
    exact wm_iret C dX12_copy_19 (Nat.zero_le _) (Nat.zero_le _) FD.rf
  have wJ_38 : ∀ (s : MS), fX12_copy_J38 s = some (rE, sE) → WM l D Γ 7 0 0 (mW τ q s) 38 [(0, .ref (q 0))] [] := by
    intro  s hf
    unfold fX12_copy_J38 at hf
    refine wm_aload_n C dX12_copy_38 0 rfl (pc' := 39) rfl ?_
    refine wm_ikonst (v := 1) C dX12_copy_39 (by decide) (pc' := 40) rfl ?_
    obtain ⟨r14, s15, h16, hf⟩ := bnd_s hf
    refine wm_callVd (nn := 1) (As := [.int 1]) (rest := []) (st' := [.int r14]) C dX12_copy_40 (kX12_failed l D τ q s 1 r14 s15 h16) gX12_copy_X12_failed rfl (by decide +kernel) ⟨Nat.le_of_ble_eq_true rfl, Nat.le_of_ble_eq_true rfl⟩ rfl rfl ⟨Nat.zero_le _, Nat.zero_le _⟩ 0 rfl rfl rfl rfl (Nat.le_of_ble_eq_true rfl) rfl (pc' := 43) rfl ?_
    obtain ⟨rfl, rfl⟩ := leaf_s hf
    exact wm_iret C dX12_copy_43 (Nat.zero_le _) (Nat.zero_le _) FD.rf
  have wJ_96 : ∀ (s : MS), fX12_copy_J96 s = some (rE, sE) → WM l D Γ 7 0 0 (mW τ q s) 96 [(0, .ref (q 0))] [] := by
    intro  s hf
    unfold fX12_copy_J96 at hf
    refine wm_aload_n C dX12_copy_96 0 rfl (pc' := 97) rfl ?_
    refine wm_ikonst (v := 3) C dX12_copy_97 (by decide) (pc' := 98) rfl ?_
    obtain ⟨r27, s28, h29, hf⟩ := bnd_s hf
    refine wm_callVd (nn := 1) (As := [.int 3]) (rest := []) (st' := [.int r27]) C dX12_copy_98 (kX12_failed l D τ q s 3 r27 s28 h29) gX12_copy_X12_failed rfl (by decide +kernel) ⟨Nat.le_of_ble_eq_true rfl, Nat.le_of_ble_eq_true rfl⟩ rfl rfl ⟨Nat.zero_le _, Nat.zero_le _⟩ 0 rfl rfl rfl rfl (Nat.le_of_ble_eq_true rfl) rfl (pc' := 101) rfl ?_
    obtain ⟨rfl, rfl⟩ := leaf_s hf
    exact wm_iret C dX12_copy_101 (Nat.zero_le _) (Nat.zero_le _) FD.rf
  refine wm_iload_n C dX12_copy_0 1 rfl (pc' := 1) rfl ?_
  obtain ⟨r1, u2, h3, hf⟩ := bnd_s hf
  refine wm_callSd (nn := 1) (As := [.int x1]) (rest := []) (st' := [.int r1]) C dX12_copy_1 (kX12_noCore l D τ x1 r1 h3) gX12_copy_X12_noCore rfl (by decide +kernel) ⟨Nat.le_of_ble_eq_true rfl, Nat.le_of_ble_eq_true rfl⟩ rfl rfl ⟨Nat.zero_le _, Nat.zero_le _⟩ rfl rfl (Nat.le_of_ble_eq_true rfl) rfl (pc' := 4) rfl ?_
  refine wm_if_ne C dX12_copy_4 14 (by decide) (pc' := 7) rfl (fun h4 => ?_) (fun h4 => ?_)
  · have hf := ite_t h4 hf
    refine wm_sub (lv' := [(0, .ref (q 0))]) [0] rfl ?_
    exact wJ_14 σ hf
  · have hf := ite_f (fun h => h h4) hf
    refine wm_iload_n C dX12_copy_7 3 rfl (pc' := 8) rfl ?_
    obtain ⟨r8, u9, h10, hf⟩ := bnd_s hf
    refine wm_callSd (nn := 1) (As := [.int x3]) (rest := []) (st' := [.int r8]) C dX12_copy_8 (kX12_noCore l D τ x3 r8 h10) gX12_copy_X12_noCore rfl (by decide +kernel) ⟨Nat.le_of_ble_eq_true rfl, Nat.le_of_ble_eq_true rfl⟩ rfl rfl ⟨Nat.zero_le _, Nat.zero_le _⟩ rfl rfl (Nat.le_of_ble_eq_true rfl) rfl (pc' := 11) rfl ?_
    refine wm_if_eq C dX12_copy_11 20 (by decide) (pc' := 14) rfl (fun h11 => ?_) (fun h11 => ?_)
    · have hf := ite_t h11 hf
      refine wm_aload_n C dX12_copy_20 0 rfl (pc' := 21) rfl ?_
      refine m_get (v := .ref (q 34)) C dX12_copy_21 in_X12_copy 34 (by decide) (by decide +kernel) rfl rfl (pc' := 24) rfl ?_
      refine wm_iload_n C dX12_copy_24 1 rfl (pc' := 25) rfl ?_
      obtain ⟨h12, hf⟩ := chk_s hf
      refine wm_iald (f := gA σ 34) (N := 4) (cA := τ.1) C dX12_copy_25 25 mA_34 rfl h12 (pc' := 26) rfl ?_
      refine wm_if_lt C dX12_copy_26 38 (by decide) (pc' := 29) rfl (fun h13 => ?_) (fun h13 => ?_)
      · have hf := ite_t h13 hf
        refine wm_sub (lv' := [(0, .ref (q 0))]) [0] rfl ?_
        exact wJ_38 σ hf
      · have hf := ite_f h13 hf
        refine wm_aload_n C dX12_copy_29 0 rfl (pc' := 30) rfl ?_
        refine m_get (v := .ref (q 34)) C dX12_copy_30 in_X12_copy 34 (by decide) (by decide +kernel) rfl rfl (pc' := 33) rfl ?_
        refine wm_iload_n C dX12_copy_33 3 rfl (pc' := 34) rfl ?_
        obtain ⟨h17, hf⟩ := chk_s hf
        refine wm_iald (f := gA σ 34) (N := 4) (cA := τ.1) C dX12_copy_34 25 mA_34 rfl h17 (pc' := 35) rfl ?_
        refine wm_if_ge C dX12_copy_35 44 (by decide) (pc' := 38) rfl (fun h18 => ?_) (fun h18 => ?_)
        · have hf := ite_t h18 hf
          refine wm_aload_n C dX12_copy_44 0 rfl (pc' := 45) rfl ?_
          refine m_get (v := .ref (q 35)) C dX12_copy_45 in_X12_copy 35 (by decide) (by decide +kernel) rfl rfl (pc' := 48) rfl ?_
          refine wm_iload_n C dX12_copy_48 1 rfl (pc' := 49) rfl ?_
          obtain ⟨h19, hf⟩ := chk_s hf
          refine wm_iald (f := gA σ 35) (N := 4) (cA := τ.1) C dX12_copy_49 26 mA_35 rfl h19 (pc' := 50) rfl ?_
          refine wm_aload_n C dX12_copy_50 0 rfl (pc' := 51) rfl ?_
          refine m_get (v := .ref (q 35)) C dX12_copy_51 in_X12_copy 35 (by decide) (by decide +kernel) rfl rfl (pc' := 54) rfl ?_
          refine wm_iload_n C dX12_copy_54 3 rfl (pc' := 55) rfl ?_
          obtain ⟨h20, hf⟩ := chk_s hf
          refine wm_iald (f := gA σ 35) (N := 4) (cA := τ.1) C dX12_copy_55 26 mA_35 rfl h20 (pc' := 56) rfl ?_
          refine wm_icmp_eq C dX12_copy_56 65 (by decide) (pc' := 59) rfl (fun h21 => ?_) (fun h21 => ?_)
          · have hf := ite_t h21 hf
            refine wm_iload_n C dX12_copy_65 2 rfl (pc' := 66) rfl ?_
            refine wm_iload C dX12_copy_66 5 rfl (pc' := 68) rfl ?_
            refine wm_aload_n C dX12_copy_68 0 rfl (pc' := 69) rfl ?_
            refine m_get (v := .ref (q 34)) C dX12_copy_69 in_X12_copy 34 (by decide) (by decide +kernel) rfl rfl (pc' := 72) rfl ?_
            refine wm_iload_n C dX12_copy_72 1 rfl (pc' := 73) rfl ?_
            obtain ⟨h22, hf⟩ := chk_s hf
            refine wm_iald (f := gA σ 34) (N := 4) (cA := τ.1) C dX12_copy_73 25 mA_34 rfl h22 (pc' := 74) rfl ?_
            obtain ⟨r23, u24, h25, hf⟩ := bnd_s hf
            refine wm_callSd (nn := 3) (As := [.int x2, .int x5, .int (gA σ 34 x1.toNatClampNeg)]) (rest := []) (st' := [.int r23]) C dX12_copy_74 (kX12_isBeyond l D τ x2 x5 (gA σ 34 x1.toNatClampNeg) r23 h25) gX12_copy_X12_isBeyond rfl (by decide +kernel) ⟨Nat.le_of_ble_eq_true rfl, Nat.le_of_ble_eq_true rfl⟩ rfl rfl ⟨Nat.zero_le _, Nat.zero_le _⟩ rfl rfl (Nat.le_of_ble_eq_true rfl) rfl (pc' := 77) rfl ?_
            refine wm_if_ne C dX12_copy_77 96 (by decide) (pc' := 80) rfl (fun h26 => ?_) (fun h26 => ?_)
            · have hf := ite_t h26 hf
              refine wm_sub (lv' := [(0, .ref (q 0))]) [0] rfl ?_
              exact wJ_96 σ hf
            · have hf := ite_f (fun h => h h26) hf
              refine wm_iload C dX12_copy_80 4 rfl (pc' := 82) rfl ?_
              refine wm_iload C dX12_copy_82 5 rfl (pc' := 84) rfl ?_
              refine wm_aload_n C dX12_copy_84 0 rfl (pc' := 85) rfl ?_
              refine m_get (v := .ref (q 34)) C dX12_copy_85 in_X12_copy 34 (by decide) (by decide +kernel) rfl rfl (pc' := 88) rfl ?_
              refine wm_iload_n C dX12_copy_88 3 rfl (pc' := 89) rfl ?_
              obtain ⟨h30, hf⟩ := chk_s hf
              refine wm_iald (f := gA σ 34) (N := 4) (cA := τ.1) C dX12_copy_89 25 mA_34 rfl h30 (pc' := 90) rfl ?_
              obtain ⟨r31, u32, h33, hf⟩ := bnd_s hf
              refine wm_callSd (nn := 3) (As := [.int x4, .int x5, .int (gA σ 34 x3.toNatClampNeg)]) (rest := []) (st' := [.int r31]) C dX12_copy_90 (kX12_isBeyond l D τ x4 x5 (gA σ 34 x3.toNatClampNeg) r31 h33) gX12_copy_X12_isBeyond rfl (by decide +kernel) ⟨Nat.le_of_ble_eq_true rfl, Nat.le_of_ble_eq_true rfl⟩ rfl rfl ⟨Nat.zero_le _, Nat.zero_le _⟩ rfl rfl (Nat.le_of_ble_eq_true rfl) rfl (pc' := 93) rfl ?_
              refine wm_if_eq C dX12_copy_93 102 (by decide) (pc' := 96) rfl (fun h34 => ?_) (fun h34 => ?_)
              · have hf := ite_t h34 hf
                refine wm_ikonst (v := 0) C dX12_copy_102 (by decide) (pc' := 103) rfl ?_
                refine wm_istore (lv' := [(6, .int 0), (0, .ref (q 0)), (1, .int x1), (2, .int x2), (3, .int x3), (4, .int x4), (5, .int x5)]) C dX12_copy_103 (by decide) rfl (pc' := 105) rfl ?_
                refine wm_sub (lv' := [(0, .ref (q 0)), (1, .int x1), (2, .int x2), (3, .int x3), (4, .int x4), (5, .int x5), (6, .int 0)]) [1, 2, 3, 4, 5, 6, 0] rfl ?_
                obtain ⟨v40, s41, h42, hf⟩ := bnd_s hf
                refine wL_105 x1 x2 x3 x4 x5 FU 0 σ v40 s41 h42 ?_
                refine wm_ikonst (v := 0) C dX12_copy_139 (by decide) (pc' := 140) rfl ?_
                refine wm_istore (lv' := [(6, .int 0), (0, .ref (q 0)), (3, .int x3), (4, .int x4), (5, .int x5)]) C dX12_copy_140 (by decide) rfl (pc' := 142) rfl ?_
                refine wm_sub (lv' := [(0, .ref (q 0)), (3, .int x3), (4, .int x4), (5, .int x5), (6, .int 0)]) [1, 2, 3, 4, 0] rfl ?_
                obtain ⟨v48, s49, h50, hf⟩ := bnd_s hf
                refine wL_142 x3 x4 x5 FU 0 s41 v48 s49 h50 ?_
                refine wm_aload_n C dX12_copy_177 0 rfl (pc' := 178) rfl ?_
                refine wm_iload C dX12_copy_178 1 rfl (pc' := 180) rfl ?_
                obtain ⟨r51, s52, h53, hf⟩ := bnd_s hf
                refine wm_callVd (nn := 1) (As := [.int x5]) (rest := []) (st' := [.int r51]) C dX12_copy_180 (kX12_refused l D τ q s49 x5 r51 s52 h53) gX12_copy_X12_refused rfl (by decide +kernel) ⟨Nat.le_of_ble_eq_true rfl, Nat.le_of_ble_eq_true rfl⟩ rfl rfl ⟨Nat.zero_le _, Nat.zero_le _⟩ 0 rfl rfl rfl rfl (Nat.le_of_ble_eq_true rfl) rfl (pc' := 183) rfl ?_
                obtain ⟨rfl, rfl⟩ := leaf_s hf
                exact wm_iret C dX12_copy_183 (Nat.zero_le _) (Nat.zero_le _) FD.rf
              · have hf := ite_f h34 hf
                refine wm_sub (lv' := [(0, .ref (q 0))]) [0] rfl ?_
                exact wJ_96 σ hf
          · have hf := ite_f h21 hf
            refine wm_aload_n C dX12_copy_59 0 rfl (pc' := 60) rfl ?_
            refine wm_ikonst (v := 2) C dX12_copy_60 (by decide) (pc' := 61) rfl ?_
            obtain ⟨r54, s55, h56, hf⟩ := bnd_s hf
            refine wm_callVd (nn := 1) (As := [.int 2]) (rest := []) (st' := [.int r54]) C dX12_copy_61 (kX12_failed l D τ q σ 2 r54 s55 h56) gX12_copy_X12_failed rfl (by decide +kernel) ⟨Nat.le_of_ble_eq_true rfl, Nat.le_of_ble_eq_true rfl⟩ rfl rfl ⟨Nat.zero_le _, Nat.zero_le _⟩ 0 rfl rfl rfl rfl (Nat.le_of_ble_eq_true rfl) rfl (pc' := 64) rfl ?_
            obtain ⟨rfl, rfl⟩ := leaf_s hf
            exact wm_iret C dX12_copy_64 (Nat.zero_le _) (Nat.zero_le _) FD.rf
        · have hf := ite_f h18 hf
          refine wm_sub (lv' := [(0, .ref (q 0))]) [0] rfl ?_
          exact wJ_38 σ hf
    · have hf := ite_f h11 hf
      refine wm_sub (lv' := [(0, .ref (q 0))]) [0] rfl ?_
      exact wJ_14 σ hf
def fX12_widths_J16 (s : MS) : Option (Int32 × MS) :=
  bnd (fX12_refused (-1) s) (fun r5 s6 => some (r5, s6))
def fX12_widths_J118 (s : MS) : Option (Int32 × MS) :=
  bnd (fX12_failed 3 s) (fun r26 s27 => some (r26, s27))
def fX12_widths_J166 (rec : Int32 → MS → Option ((Int32 ⊕ Unit) × MS)) (s : MS) : Option ((Int32 ⊕ Unit) × MS) :=
  bnd (fX12_refused (-2) s) (fun r36 s37 => some (Sum.inl r36, s37))
def fX12_widths_L127 (x1 : Int32) (x3 : Int32) (x4 : Int32) (x5 : Int32) : Nat → Int32 → MS → Option ((Int32 ⊕ Unit) × MS)
  | 0, _, _ => none
  | fu + 1, x6, s => if x4 ≤ x6 then some (Sum.inr (), s) else if ¬ ((((24 * x1) + x3) + x6) < 0 ∨ 96 ≤ (((24 * x1) + x3) + x6).toNatClampNeg) then if (lg_cmp (gB s 36 (((24 * x1) + x3) + x6).toNatClampNeg) 0) < 0 then fX12_widths_J166 (fX12_widths_L127 x1 x3 x4 x5 fu) s else if (lg_cmp (gB s 36 (((24 * x1) + x3) + x6).toNatClampNeg) (12)) ≤ 0 then fX12_widths_L127 x1 x3 x4 x5 fu (x6 + 1) s else fX12_widths_J166 (fX12_widths_L127 x1 x3 x4 x5 fu) s else none
theorem fX12_widths_L127_s (x1 : Int32) (x3 : Int32) (x4 : Int32) (x5 : Int32) (fu : Nat) (x6 : Int32) (s : MS) : fX12_widths_L127 x1 x3 x4 x5 (fu + 1) x6 s = (if x4 ≤ x6 then some (Sum.inr (), s) else if ¬ ((((24 * x1) + x3) + x6) < 0 ∨ 96 ≤ (((24 * x1) + x3) + x6).toNatClampNeg) then if (lg_cmp (gB s 36 (((24 * x1) + x3) + x6).toNatClampNeg) 0) < 0 then fX12_widths_J166 (fX12_widths_L127 x1 x3 x4 x5 fu) s else if (lg_cmp (gB s 36 (((24 * x1) + x3) + x6).toNatClampNeg) (12)) ≤ 0 then fX12_widths_L127 x1 x3 x4 x5 fu (x6 + 1) s else fX12_widths_J166 (fX12_widths_L127 x1 x3 x4 x5 fu) s else none) := rfl
def fX12_widths_L182 (x1 : Int32) (x3 : Int32) (x4 : Int32) (x5 : Int32) : Nat → Int32 → MS → Option (Unit × MS)
  | 0, _, _ => none
  | fu + 1, x6, s => if x4 ≤ x6 then some ((), s) else if ¬ ((((24 * x1) + x3) + x6) < 0 ∨ 96 ≤ (((24 * x1) + x3) + x6).toNatClampNeg) then if ¬ ((x5 + x6) < 0 ∨ 12 ≤ (x5 + x6).toNatClampNeg) then lets (sA s 8 (x5 + x6).toNatClampNeg ((gB s 36 (((24 * x1) + x3) + x6).toNatClampNeg).toInt32)) (fun s47 => if ¬ ((x5 + x6) < 0 ∨ 12 ≤ (x5 + x6).toNatClampNeg) then lets (sA s47 10 (x5 + x6).toNatClampNeg 0) (fun s50 => fX12_widths_L182 x1 x3 x4 x5 fu (x6 + 1) s50) else none) else none else none
theorem fX12_widths_L182_s (x1 : Int32) (x3 : Int32) (x4 : Int32) (x5 : Int32) (fu : Nat) (x6 : Int32) (s : MS) : fX12_widths_L182 x1 x3 x4 x5 (fu + 1) x6 s = (if x4 ≤ x6 then some ((), s) else if ¬ ((((24 * x1) + x3) + x6) < 0 ∨ 96 ≤ (((24 * x1) + x3) + x6).toNatClampNeg) then if ¬ ((x5 + x6) < 0 ∨ 12 ≤ (x5 + x6).toNatClampNeg) then lets (sA s 8 (x5 + x6).toNatClampNeg ((gB s 36 (((24 * x1) + x3) + x6).toNatClampNeg).toInt32)) (fun s47 => if ¬ ((x5 + x6) < 0 ∨ 12 ≤ (x5 + x6).toNatClampNeg) then lets (sA s47 10 (x5 + x6).toNatClampNeg 0) (fun s50 => fX12_widths_L182 x1 x3 x4 x5 fu (x6 + 1) s50) else none) else none else none) := rfl
def fX12_widths_J63 (x1 : Int32) (x3 : Int32) (x4 : Int32) (x5 : Int32) (s : MS) : Option (Int32 × MS) :=
  if ¬ (x1 < 0 ∨ 4 ≤ x1.toNatClampNeg) then if 0 ≤ (gA s 34 x1.toNatClampNeg) then if 0 ≤ x4 then if ¬ (x1 < 0 ∨ 4 ≤ x1.toNatClampNeg) then bnd (fX12_isBeyond x3 x4 (gA s 34 x1.toNatClampNeg)) (fun r22 u23 => if ¬ r22 = 0 then fX12_widths_J118 s else bnd (fX12_isBeyond x5 x4 (gI s 4)) (fun r29 u30 => if r29 = 0 then bnd (fX12_widths_L127 x1 x3 x4 x5 FU 0 s) (fun v40 s41 => Sum.elim (fun r => some (r, s41)) (fun w43 => bnd (fX12_widths_L182 x1 x3 x4 x5 FU 0 s41) (fun v52 s53 => bnd (fX12_refused x4 s53) (fun r55 s56 => some (r55, s56)))) v40) else fX12_widths_J118 s)) else none else bnd (fX12_failed 4 s) (fun r58 s59 => some (r58, s59)) else bnd (fX12_failed 1 s) (fun r61 s62 => some (r61, s62)) else none
def fX12_widths (x1 : Int32) (x2 : Int32) (x3 : Int32) (x4 : Int32) (x5 : Int32) (σ : MS) : Option (Int32 × MS) :=
  bnd (fX12_noCore x1) (fun r1 u2 => if ¬ r1 = 0 then fX12_widths_J16 σ else bnd (fX12_noCrack x5 σ) (fun r8 s9 => if r8 = 0 then bnd (fX12_among x2 0 3) (fun r12 u13 => if ¬ r12 = 0 then if ¬ (x1 < 0 ∨ 4 ≤ x1.toNatClampNeg) then if (gA s9 34 x1.toNatClampNeg) < 0 then fX12_widths_J63 x1 x3 x4 x5 s9 else if ¬ (x1 < 0 ∨ 4 ≤ x1.toNatClampNeg) then if (gA s9 35 x1.toNatClampNeg) = x2 then fX12_widths_J63 x1 x3 x4 x5 s9 else bnd (fX12_failed 2 s9) (fun r66 s67 => some (r66, s67)) else none else none else bnd (fX12_refused (-2) s9) (fun r69 s70 => some (r69, s70))) else fX12_widths_J16 s9))
theorem in_X12_widths : ∀ w ∈ u_ws RX12 TX12 39, w ∈ wsX12_widths := by decide +kernel
set_option maxHeartbeats 4000000 in
set_option maxRecDepth 100000 in
theorem kX12_widths (l : Launch) (D : va_G) (τ : CId) (q : Nat → Nat) (σ : MS) (x1 : Int32) (x2 : Int32) (x3 : Int32) (x4 : Int32) (x5 : Int32) (rE : Int32) (sE : MS) (hf : fX12_widths x1 x2 x3 x4 x5 σ = some (rE, sE)) : Ct l D τ yX12_widths wsX12_widths { frames := 2, cells := 0, slots := 0, locals := 43 } [.ref (q 0), .int x1, .int x2, .int x3, .int x4, .int x5] (mW τ q σ) (FD (mW τ q sE) (some (.int rE))) := by
  unfold fX12_widths at hf
  refine ct_of (cc := cX12_widths) (maxL := 9) (ret := (some .int)) (by decide) rfl (Nat.le_of_ble_eq_true rfl) (fun Γ C => ?_)
  refine wm_lv (lv' := [(0, .ref (q 0)), (1, .int x1), (2, .int x2), (3, .int x3), (4, .int x4), (5, .int x5)]) rfl ?_
  have wL_127 : ∀ (x1 : Int32) (x3 : Int32) (x4 : Int32) (x5 : Int32) (fu : Nat) (x6 : Int32) (s : MS) (v : (Int32 ⊕ Unit)) (s' : MS), fX12_widths_L127 x1 x3 x4 x5 fu x6 s = some (v, s') → Sum.elim (fun r => FD (mW τ q sE) (some (.int rE)) (mW τ q s') (some (.int r))) (fun w => WM l D Γ 9 0 0 (mW τ q s') 179 [(0, .ref (q 0)), (1, .int x1), (3, .int x3), (4, .int x4), (5, .int x5)] []) v → WM l D Γ 9 0 0 (mW τ q s) 127 [(0, .ref (q 0)), (1, .int x1), (3, .int x3), (4, .int x4), (5, .int x5), (6, .int x6)] [] := by
    intro x1 x3 x4 x5
    intro fu
    induction fu with
    | zero => intro x6 s v s' hf hE; exact absurd hf (fun h => nomatch (show (none : Option _) = some _ from h))
    | succ fu ih =>
      intro x6 s v s' hf hE
      rw [fX12_widths_L127_s] at hf
      have wJ_166 : ∀ (s : MS) (v : (Int32 ⊕ Unit)) (s' : MS), fX12_widths_J166 (fX12_widths_L127 x1 x3 x4 x5 fu) s = some (v, s') → Sum.elim (fun r => FD (mW τ q sE) (some (.int rE)) (mW τ q s') (some (.int r))) (fun w => WM l D Γ 9 0 0 (mW τ q s') 179 [(0, .ref (q 0)), (1, .int x1), (3, .int x3), (4, .int x4), (5, .int x5)] []) v → WM l D Γ 9 0 0 (mW τ q s) 166 [(0, .ref (q 0))] [] := by
        intro  s v s' hf hE
        unfold fX12_widths_J166 at hf
        refine wm_aload_n C dX12_widths_166 0 rfl (pc' := 167) rfl ?_
        refine wm_bipush (v := (-2)) C dX12_widths_167 (by decide) (pc' := 169) rfl ?_
        obtain ⟨r36, s37, h38, hf⟩ := bnd_s hf
        refine wm_callVd (nn := 1) (As := [.int (-2)]) (rest := []) (st' := [.int r36]) C dX12_widths_169 (kX12_refused l D τ q s (-2) r36 s37 h38) gX12_widths_X12_refused rfl (by decide +kernel) ⟨Nat.le_of_ble_eq_true rfl, Nat.le_of_ble_eq_true rfl⟩ rfl rfl ⟨Nat.zero_le _, Nat.zero_le _⟩ 0 rfl rfl rfl rfl (Nat.le_of_ble_eq_true rfl) rfl (pc' := 172) rfl ?_
        obtain ⟨rfl, rfl⟩ := leaf_s hf
        exact wm_iret C dX12_widths_172 (Nat.zero_le _) (Nat.zero_le _) hE
      refine wm_iload C dX12_widths_127 5 rfl (pc' := 129) rfl ?_
      refine wm_iload C dX12_widths_129 3 rfl (pc' := 131) rfl ?_
      refine wm_icmp_ge C dX12_widths_131 179 (by decide) (pc' := 134) rfl (fun h33 => ?_) (fun h33 => ?_)
      · have hf := ite_t h33 hf
        obtain ⟨rfl, rfl⟩ := leaf_s hf
        refine wm_sub (lv' := [(0, .ref (q 0)), (1, .int x1), (3, .int x3), (4, .int x4), (5, .int x5)]) [0, 1, 2, 3, 4] rfl ?_
        exact hE
      · have hf := ite_f h33 hf
        refine wm_aload_n C dX12_widths_134 0 rfl (pc' := 135) rfl ?_
        refine m_get (v := .ref (q 36)) C dX12_widths_135 in_X12_widths 36 (by decide) (by decide +kernel) rfl rfl (pc' := 138) rfl ?_
        refine wm_bipush (v := 24) C dX12_widths_138 (by decide) (pc' := 140) rfl ?_
        refine wm_iload_n C dX12_widths_140 1 rfl (pc' := 141) rfl ?_
        refine wm_imul C dX12_widths_141 (pc' := 142) rfl ?_
        refine wm_iload_n C dX12_widths_142 2 rfl (pc' := 143) rfl ?_
        refine wm_iadd C dX12_widths_143 (pc' := 144) rfl ?_
        refine wm_iload C dX12_widths_144 5 rfl (pc' := 146) rfl ?_
        refine wm_iadd C dX12_widths_146 (pc' := 147) rfl ?_
        obtain ⟨h34, hf⟩ := chk_s hf
        refine wm_lald (f := gB s 36) (N := 96) (cA := τ.2.1) C dX12_widths_147 27 mA_36 rfl h34 (pc' := 148) rfl ?_
        refine wm_lstore (lv' := [(7, .long (gB s 36 (((24 * x1) + x3) + x6).toNatClampNeg)), (0, .ref (q 0)), (1, .int x1), (3, .int x3), (4, .int x4), (5, .int x5), (6, .int x6)]) C dX12_widths_148 (by decide) rfl (pc' := 150) rfl ?_
        refine wm_lload C dX12_widths_150 0 rfl (pc' := 152) rfl ?_
        refine wm_lkonst (v := 0) C dX12_widths_152 (by decide) (pc' := 153) rfl ?_
        refine wm_lcmp C dX12_widths_153 (pc' := 154) rfl ?_
        refine wm_if_lt C dX12_widths_154 166 (by decide) (pc' := 157) rfl (fun h35 => ?_) (fun h35 => ?_)
        · have hf := ite_t h35 hf
          refine wm_sub (lv' := [(0, .ref (q 0))]) [1] rfl ?_
          exact wJ_166 s _ _ hf hE
        · have hf := ite_f h35 hf
          refine wm_lload C dX12_widths_157 0 rfl (pc' := 159) rfl ?_
          refine wm_ldc2 (v := (12)) C dX12_widths_159 (by decide +kernel) (pc' := 162) rfl ?_
          refine wm_lcmp C dX12_widths_162 (pc' := 163) rfl ?_
          refine wm_if_le C dX12_widths_163 173 (by decide) (pc' := 166) rfl (fun h39 => ?_) (fun h39 => ?_)
          · have hf := ite_t h39 hf
            refine wm_iinc (v := x6 + 1) (lv' := [(6, .int (x6 + 1)), (7, .long (gB s 36 (((24 * x1) + x3) + x6).toNatClampNeg)), (0, .ref (q 0)), (1, .int x1), (3, .int x3), (4, .int x4), (5, .int x5)]) C dX12_widths_173 6 rfl rfl (by decide) rfl (pc' := 176) rfl ?_
            refine wm_goto C dX12_widths_176 127 (by decide) ?_
            refine wm_sub (lv' := [(0, .ref (q 0)), (1, .int x1), (3, .int x3), (4, .int x4), (5, .int x5), (6, .int (x6 + 1))]) [2, 3, 4, 5, 6, 0] rfl ?_
            exact ih (x6 + 1) s _ _ hf hE
          · have hf := ite_f h39 hf
            refine wm_sub (lv' := [(0, .ref (q 0))]) [1] rfl ?_
            exact wJ_166 s _ _ hf hE
  have wL_182 : ∀ (x1 : Int32) (x3 : Int32) (x4 : Int32) (x5 : Int32) (fu : Nat) (x6 : Int32) (s : MS) (v : Unit) (s' : MS), fX12_widths_L182 x1 x3 x4 x5 fu x6 s = some (v, s') → WM l D Γ 9 0 0 (mW τ q s') 231 [(0, .ref (q 0)), (4, .int x4)] [] → WM l D Γ 9 0 0 (mW τ q s) 182 [(0, .ref (q 0)), (1, .int x1), (3, .int x3), (4, .int x4), (5, .int x5), (6, .int x6)] [] := by
    intro x1 x3 x4 x5
    intro fu
    induction fu with
    | zero => intro x6 s v s' hf hE; exact absurd hf (fun h => nomatch (show (none : Option _) = some _ from h))
    | succ fu ih =>
      intro x6 s v s' hf hE
      rw [fX12_widths_L182_s] at hf
      refine wm_iload C dX12_widths_182 5 rfl (pc' := 184) rfl ?_
      refine wm_iload C dX12_widths_184 3 rfl (pc' := 186) rfl ?_
      refine wm_icmp_ge C dX12_widths_186 231 (by decide) (pc' := 189) rfl (fun h44 => ?_) (fun h44 => ?_)
      · have hf := ite_t h44 hf
        obtain ⟨rfl, rfl⟩ := leaf_s hf
        refine wm_sub (lv' := [(0, .ref (q 0)), (4, .int x4)]) [0, 3] rfl ?_
        exact hE
      · have hf := ite_f h44 hf
        refine wm_aload_n C dX12_widths_189 0 rfl (pc' := 190) rfl ?_
        refine m_get (v := .ref (q 8)) C dX12_widths_190 in_X12_widths 8 (by decide) (by decide +kernel) rfl rfl (pc' := 193) rfl ?_
        refine wm_iload C dX12_widths_193 4 rfl (pc' := 195) rfl ?_
        refine wm_iload C dX12_widths_195 5 rfl (pc' := 197) rfl ?_
        refine wm_iadd C dX12_widths_197 (pc' := 198) rfl ?_
        refine wm_aload_n C dX12_widths_198 0 rfl (pc' := 199) rfl ?_
        refine m_get (v := .ref (q 36)) C dX12_widths_199 in_X12_widths 36 (by decide) (by decide +kernel) rfl rfl (pc' := 202) rfl ?_
        refine wm_bipush (v := 24) C dX12_widths_202 (by decide) (pc' := 204) rfl ?_
        refine wm_iload_n C dX12_widths_204 1 rfl (pc' := 205) rfl ?_
        refine wm_imul C dX12_widths_205 (pc' := 206) rfl ?_
        refine wm_iload_n C dX12_widths_206 2 rfl (pc' := 207) rfl ?_
        refine wm_iadd C dX12_widths_207 (pc' := 208) rfl ?_
        refine wm_iload C dX12_widths_208 5 rfl (pc' := 210) rfl ?_
        refine wm_iadd C dX12_widths_210 (pc' := 211) rfl ?_
        obtain ⟨h45, hf⟩ := chk_s hf
        refine wm_lald (f := gB s 36) (N := 96) (cA := τ.2.1) C dX12_widths_211 27 mA_36 rfl h45 (pc' := 212) rfl ?_
        refine wm_l2i C dX12_widths_212 (pc' := 213) rfl ?_
        obtain ⟨h46, hf⟩ := chk_s hf
        obtain ⟨s47, e48, hf⟩ := lets_s hf
        refine wm_iast (f := gA s 8) (N := 12) (cA := τ.1) C dX12_widths_213 6 mA_8 rfl h46 (Wd' := mW τ q s47) ((mS_8 _ _).trans (congrArg (mW τ q) e48.symm)) (pc' := 214) rfl ?_
        refine wm_aload_n C dX12_widths_214 0 rfl (pc' := 215) rfl ?_
        refine m_get (v := .ref (q 10)) C dX12_widths_215 in_X12_widths 10 (by decide) (by decide +kernel) rfl rfl (pc' := 218) rfl ?_
        refine wm_iload C dX12_widths_218 4 rfl (pc' := 220) rfl ?_
        refine wm_iload C dX12_widths_220 5 rfl (pc' := 222) rfl ?_
        refine wm_iadd C dX12_widths_222 (pc' := 223) rfl ?_
        refine wm_ikonst (v := 0) C dX12_widths_223 (by decide) (pc' := 224) rfl ?_
        obtain ⟨h49, hf⟩ := chk_s hf
        obtain ⟨s50, e51, hf⟩ := lets_s hf
        refine wm_iast (f := gA s47 10) (N := 12) (cA := τ.1) C dX12_widths_224 8 mA_10 rfl h49 (Wd' := mW τ q s50) ((mS_10 _ _).trans (congrArg (mW τ q) e51.symm)) (pc' := 225) rfl ?_
        refine wm_iinc (v := x6 + 1) (lv' := [(6, .int (x6 + 1)), (0, .ref (q 0)), (1, .int x1), (3, .int x3), (4, .int x4), (5, .int x5)]) C dX12_widths_225 5 rfl rfl (by decide) rfl (pc' := 228) rfl ?_
        refine wm_goto C dX12_widths_228 182 (by decide) ?_
        refine wm_sub (lv' := [(0, .ref (q 0)), (1, .int x1), (3, .int x3), (4, .int x4), (5, .int x5), (6, .int (x6 + 1))]) [1, 2, 3, 4, 5, 0] rfl ?_
        exact ih (x6 + 1) s50 _ _ hf hE
  have wJ_16 : ∀ (s : MS), fX12_widths_J16 s = some (rE, sE) → WM l D Γ 9 0 0 (mW τ q s) 16 [(0, .ref (q 0))] [] := by
    intro  s hf
    unfold fX12_widths_J16 at hf
    refine wm_aload_n C dX12_widths_16 0 rfl (pc' := 17) rfl ?_
    refine wm_ikonst (v := (-1)) C dX12_widths_17 (by decide) (pc' := 18) rfl ?_
    obtain ⟨r5, s6, h7, hf⟩ := bnd_s hf
    refine wm_callVd (nn := 1) (As := [.int (-1)]) (rest := []) (st' := [.int r5]) C dX12_widths_18 (kX12_refused l D τ q s (-1) r5 s6 h7) gX12_widths_X12_refused rfl (by decide +kernel) ⟨Nat.le_of_ble_eq_true rfl, Nat.le_of_ble_eq_true rfl⟩ rfl rfl ⟨Nat.zero_le _, Nat.zero_le _⟩ 0 rfl rfl rfl rfl (Nat.le_of_ble_eq_true rfl) rfl (pc' := 21) rfl ?_
    obtain ⟨rfl, rfl⟩ := leaf_s hf
    exact wm_iret C dX12_widths_21 (Nat.zero_le _) (Nat.zero_le _) FD.rf
  have wJ_118 : ∀ (s : MS), fX12_widths_J118 s = some (rE, sE) → WM l D Γ 9 0 0 (mW τ q s) 118 [(0, .ref (q 0))] [] := by
    intro  s hf
    unfold fX12_widths_J118 at hf
    refine wm_aload_n C dX12_widths_118 0 rfl (pc' := 119) rfl ?_
    refine wm_ikonst (v := 3) C dX12_widths_119 (by decide) (pc' := 120) rfl ?_
    obtain ⟨r26, s27, h28, hf⟩ := bnd_s hf
    refine wm_callVd (nn := 1) (As := [.int 3]) (rest := []) (st' := [.int r26]) C dX12_widths_120 (kX12_failed l D τ q s 3 r26 s27 h28) gX12_widths_X12_failed rfl (by decide +kernel) ⟨Nat.le_of_ble_eq_true rfl, Nat.le_of_ble_eq_true rfl⟩ rfl rfl ⟨Nat.zero_le _, Nat.zero_le _⟩ 0 rfl rfl rfl rfl (Nat.le_of_ble_eq_true rfl) rfl (pc' := 123) rfl ?_
    obtain ⟨rfl, rfl⟩ := leaf_s hf
    exact wm_iret C dX12_widths_123 (Nat.zero_le _) (Nat.zero_le _) FD.rf
  have wJ_63 : ∀ (x1 : Int32) (x3 : Int32) (x4 : Int32) (x5 : Int32) (s : MS), fX12_widths_J63 x1 x3 x4 x5 s = some (rE, sE) → WM l D Γ 9 0 0 (mW τ q s) 63 [(0, .ref (q 0)), (1, .int x1), (3, .int x3), (4, .int x4), (5, .int x5)] [] := by
    intro x1 x3 x4 x5 s hf
    unfold fX12_widths_J63 at hf
    refine wm_aload_n C dX12_widths_63 0 rfl (pc' := 64) rfl ?_
    refine m_get (v := .ref (q 34)) C dX12_widths_64 in_X12_widths 34 (by decide) (by decide +kernel) rfl rfl (pc' := 67) rfl ?_
    refine wm_iload_n C dX12_widths_67 1 rfl (pc' := 68) rfl ?_
    obtain ⟨h18, hf⟩ := chk_s hf
    refine wm_iald (f := gA s 34) (N := 4) (cA := τ.1) C dX12_widths_68 25 mA_34 rfl h18 (pc' := 69) rfl ?_
    refine wm_if_ge C dX12_widths_69 78 (by decide) (pc' := 72) rfl (fun h19 => ?_) (fun h19 => ?_)
    · have hf := ite_t h19 hf
      refine wm_iload C dX12_widths_78 3 rfl (pc' := 80) rfl ?_
      refine wm_if_ge C dX12_widths_80 89 (by decide) (pc' := 83) rfl (fun h20 => ?_) (fun h20 => ?_)
      · have hf := ite_t h20 hf
        refine wm_iload_n C dX12_widths_89 2 rfl (pc' := 90) rfl ?_
        refine wm_iload C dX12_widths_90 3 rfl (pc' := 92) rfl ?_
        refine wm_aload_n C dX12_widths_92 0 rfl (pc' := 93) rfl ?_
        refine m_get (v := .ref (q 34)) C dX12_widths_93 in_X12_widths 34 (by decide) (by decide +kernel) rfl rfl (pc' := 96) rfl ?_
        refine wm_iload_n C dX12_widths_96 1 rfl (pc' := 97) rfl ?_
        obtain ⟨h21, hf⟩ := chk_s hf
        refine wm_iald (f := gA s 34) (N := 4) (cA := τ.1) C dX12_widths_97 25 mA_34 rfl h21 (pc' := 98) rfl ?_
        obtain ⟨r22, u23, h24, hf⟩ := bnd_s hf
        refine wm_callSd (nn := 3) (As := [.int x3, .int x4, .int (gA s 34 x1.toNatClampNeg)]) (rest := []) (st' := [.int r22]) C dX12_widths_98 (kX12_isBeyond l D τ x3 x4 (gA s 34 x1.toNatClampNeg) r22 h24) gX12_widths_X12_isBeyond rfl (by decide +kernel) ⟨Nat.le_of_ble_eq_true rfl, Nat.le_of_ble_eq_true rfl⟩ rfl rfl ⟨Nat.zero_le _, Nat.zero_le _⟩ rfl rfl (Nat.le_of_ble_eq_true rfl) rfl (pc' := 101) rfl ?_
        refine wm_if_ne C dX12_widths_101 118 (by decide) (pc' := 104) rfl (fun h25 => ?_) (fun h25 => ?_)
        · have hf := ite_t h25 hf
          refine wm_sub (lv' := [(0, .ref (q 0))]) [0] rfl ?_
          exact wJ_118 s hf
        · have hf := ite_f (fun h => h h25) hf
          refine wm_iload C dX12_widths_104 4 rfl (pc' := 106) rfl ?_
          refine wm_iload C dX12_widths_106 3 rfl (pc' := 108) rfl ?_
          refine wm_aload_n C dX12_widths_108 0 rfl (pc' := 109) rfl ?_
          refine m_get (v := .int (gI s 4)) C dX12_widths_109 in_X12_widths 4 (by decide) (by decide +kernel) rfl rfl (pc' := 112) rfl ?_
          obtain ⟨r29, u30, h31, hf⟩ := bnd_s hf
          refine wm_callSd (nn := 3) (As := [.int x5, .int x4, .int (gI s 4)]) (rest := []) (st' := [.int r29]) C dX12_widths_112 (kX12_isBeyond l D τ x5 x4 (gI s 4) r29 h31) gX12_widths_X12_isBeyond rfl (by decide +kernel) ⟨Nat.le_of_ble_eq_true rfl, Nat.le_of_ble_eq_true rfl⟩ rfl rfl ⟨Nat.zero_le _, Nat.zero_le _⟩ rfl rfl (Nat.le_of_ble_eq_true rfl) rfl (pc' := 115) rfl ?_
          refine wm_if_eq C dX12_widths_115 124 (by decide) (pc' := 118) rfl (fun h32 => ?_) (fun h32 => ?_)
          · have hf := ite_t h32 hf
            refine wm_ikonst (v := 0) C dX12_widths_124 (by decide) (pc' := 125) rfl ?_
            refine wm_istore (lv' := [(6, .int 0), (0, .ref (q 0)), (1, .int x1), (3, .int x3), (4, .int x4), (5, .int x5)]) C dX12_widths_125 (by decide) rfl (pc' := 127) rfl ?_
            refine wm_sub (lv' := [(0, .ref (q 0)), (1, .int x1), (3, .int x3), (4, .int x4), (5, .int x5), (6, .int 0)]) [1, 2, 3, 4, 5, 0] rfl ?_
            obtain ⟨v40, s41, h42, hf⟩ := bnd_s hf
            refine wL_127 x1 x3 x4 x5 FU 0 s v40 s41 h42 ?_
            cases v40 with
            | inl v40 => (have hf : some (v40, s41) = some (rE, sE) := hf); obtain ⟨rfl, rfl⟩ := leaf_s hf; exact FD.rf
            | inr w43 =>
              have hf : (bnd (fX12_widths_L182 x1 x3 x4 x5 FU 0 s41) (fun v52 s53 => bnd (fX12_refused x4 s53) (fun r55 s56 => some (r55, s56)))) = some (rE, sE) := hf
              show WM l D Γ 9 0 0 (mW τ q s41) 179 [(0, .ref (q 0)), (1, .int x1), (3, .int x3), (4, .int x4), (5, .int x5)] []
              refine wm_ikonst (v := 0) C dX12_widths_179 (by decide) (pc' := 180) rfl ?_
              refine wm_istore (lv' := [(6, .int 0), (0, .ref (q 0)), (1, .int x1), (3, .int x3), (4, .int x4), (5, .int x5)]) C dX12_widths_180 (by decide) rfl (pc' := 182) rfl ?_
              refine wm_sub (lv' := [(0, .ref (q 0)), (1, .int x1), (3, .int x3), (4, .int x4), (5, .int x5), (6, .int 0)]) [1, 2, 3, 4, 5, 0] rfl ?_
              obtain ⟨v52, s53, h54, hf⟩ := bnd_s hf
              refine wL_182 x1 x3 x4 x5 FU 0 s41 v52 s53 h54 ?_
              refine wm_aload_n C dX12_widths_231 0 rfl (pc' := 232) rfl ?_
              refine wm_iload C dX12_widths_232 1 rfl (pc' := 234) rfl ?_
              obtain ⟨r55, s56, h57, hf⟩ := bnd_s hf
              refine wm_callVd (nn := 1) (As := [.int x4]) (rest := []) (st' := [.int r55]) C dX12_widths_234 (kX12_refused l D τ q s53 x4 r55 s56 h57) gX12_widths_X12_refused rfl (by decide +kernel) ⟨Nat.le_of_ble_eq_true rfl, Nat.le_of_ble_eq_true rfl⟩ rfl rfl ⟨Nat.zero_le _, Nat.zero_le _⟩ 0 rfl rfl rfl rfl (Nat.le_of_ble_eq_true rfl) rfl (pc' := 237) rfl ?_
              obtain ⟨rfl, rfl⟩ := leaf_s hf
              exact wm_iret C dX12_widths_237 (Nat.zero_le _) (Nat.zero_le _) FD.rf
          · have hf := ite_f h32 hf
            refine wm_sub (lv' := [(0, .ref (q 0))]) [0] rfl ?_
            exact wJ_118 s hf
      · have hf := ite_f h20 hf
        refine wm_aload_n C dX12_widths_83 0 rfl (pc' := 84) rfl ?_
        refine wm_ikonst (v := 4) C dX12_widths_84 (by decide) (pc' := 85) rfl ?_
        obtain ⟨r58, s59, h60, hf⟩ := bnd_s hf
        refine wm_callVd (nn := 1) (As := [.int 4]) (rest := []) (st' := [.int r58]) C dX12_widths_85 (kX12_failed l D τ q s 4 r58 s59 h60) gX12_widths_X12_failed rfl (by decide +kernel) ⟨Nat.le_of_ble_eq_true rfl, Nat.le_of_ble_eq_true rfl⟩ rfl rfl ⟨Nat.zero_le _, Nat.zero_le _⟩ 0 rfl rfl rfl rfl (Nat.le_of_ble_eq_true rfl) rfl (pc' := 88) rfl ?_
        obtain ⟨rfl, rfl⟩ := leaf_s hf
        exact wm_iret C dX12_widths_88 (Nat.zero_le _) (Nat.zero_le _) FD.rf
    · have hf := ite_f h19 hf
      refine wm_aload_n C dX12_widths_72 0 rfl (pc' := 73) rfl ?_
      refine wm_ikonst (v := 1) C dX12_widths_73 (by decide) (pc' := 74) rfl ?_
      obtain ⟨r61, s62, h63, hf⟩ := bnd_s hf
      refine wm_callVd (nn := 1) (As := [.int 1]) (rest := []) (st' := [.int r61]) C dX12_widths_74 (kX12_failed l D τ q s 1 r61 s62 h63) gX12_widths_X12_failed rfl (by decide +kernel) ⟨Nat.le_of_ble_eq_true rfl, Nat.le_of_ble_eq_true rfl⟩ rfl rfl ⟨Nat.zero_le _, Nat.zero_le _⟩ 0 rfl rfl rfl rfl (Nat.le_of_ble_eq_true rfl) rfl (pc' := 77) rfl ?_
      obtain ⟨rfl, rfl⟩ := leaf_s hf
      exact wm_iret C dX12_widths_77 (Nat.zero_le _) (Nat.zero_le _) FD.rf
  refine wm_iload_n C dX12_widths_0 1 rfl (pc' := 1) rfl ?_
  obtain ⟨r1, u2, h3, hf⟩ := bnd_s hf
  refine wm_callSd (nn := 1) (As := [.int x1]) (rest := []) (st' := [.int r1]) C dX12_widths_1 (kX12_noCore l D τ x1 r1 h3) gX12_widths_X12_noCore rfl (by decide +kernel) ⟨Nat.le_of_ble_eq_true rfl, Nat.le_of_ble_eq_true rfl⟩ rfl rfl ⟨Nat.zero_le _, Nat.zero_le _⟩ rfl rfl (Nat.le_of_ble_eq_true rfl) rfl (pc' := 4) rfl ?_
  refine wm_if_ne C dX12_widths_4 16 (by decide) (pc' := 7) rfl (fun h4 => ?_) (fun h4 => ?_)
  · have hf := ite_t h4 hf
    refine wm_sub (lv' := [(0, .ref (q 0))]) [0] rfl ?_
    exact wJ_16 σ hf
  · have hf := ite_f (fun h => h h4) hf
    refine wm_aload_n C dX12_widths_7 0 rfl (pc' := 8) rfl ?_
    refine wm_iload C dX12_widths_8 5 rfl (pc' := 10) rfl ?_
    obtain ⟨r8, s9, h10, hf⟩ := bnd_s hf
    refine wm_callVd (nn := 1) (As := [.int x5]) (rest := []) (st' := [.int r8]) C dX12_widths_10 (kX12_noCrack l D τ q σ x5 r8 s9 h10) gX12_widths_X12_noCrack rfl (by decide +kernel) ⟨Nat.le_of_ble_eq_true rfl, Nat.le_of_ble_eq_true rfl⟩ rfl rfl ⟨Nat.zero_le _, Nat.zero_le _⟩ 0 rfl rfl rfl rfl (Nat.le_of_ble_eq_true rfl) rfl (pc' := 13) rfl ?_
    refine wm_if_eq C dX12_widths_13 22 (by decide) (pc' := 16) rfl (fun h11 => ?_) (fun h11 => ?_)
    · have hf := ite_t h11 hf
      refine wm_iload_n C dX12_widths_22 2 rfl (pc' := 23) rfl ?_
      refine wm_ikonst (v := 0) C dX12_widths_23 (by decide) (pc' := 24) rfl ?_
      refine wm_ikonst (v := 3) C dX12_widths_24 (by decide) (pc' := 25) rfl ?_
      obtain ⟨r12, u13, h14, hf⟩ := bnd_s hf
      refine wm_callSd (nn := 3) (As := [.int x2, .int 0, .int 3]) (rest := []) (st' := [.int r12]) C dX12_widths_25 (kX12_among l D τ x2 0 3 r12 h14) gX12_widths_X12_among rfl (by decide +kernel) ⟨Nat.le_of_ble_eq_true rfl, Nat.le_of_ble_eq_true rfl⟩ rfl rfl ⟨Nat.zero_le _, Nat.zero_le _⟩ rfl rfl (Nat.le_of_ble_eq_true rfl) rfl (pc' := 28) rfl ?_
      refine wm_if_ne C dX12_widths_28 38 (by decide) (pc' := 31) rfl (fun h15 => ?_) (fun h15 => ?_)
      · have hf := ite_t h15 hf
        refine wm_aload_n C dX12_widths_38 0 rfl (pc' := 39) rfl ?_
        refine m_get (v := .ref (q 34)) C dX12_widths_39 in_X12_widths 34 (by decide) (by decide +kernel) rfl rfl (pc' := 42) rfl ?_
        refine wm_iload_n C dX12_widths_42 1 rfl (pc' := 43) rfl ?_
        obtain ⟨h16, hf⟩ := chk_s hf
        refine wm_iald (f := gA s9 34) (N := 4) (cA := τ.1) C dX12_widths_43 25 mA_34 rfl h16 (pc' := 44) rfl ?_
        refine wm_if_lt C dX12_widths_44 63 (by decide) (pc' := 47) rfl (fun h17 => ?_) (fun h17 => ?_)
        · have hf := ite_t h17 hf
          refine wm_sub (lv' := [(0, .ref (q 0)), (1, .int x1), (3, .int x3), (4, .int x4), (5, .int x5)]) [0, 1, 3, 4, 5] rfl ?_
          exact wJ_63 x1 x3 x4 x5 s9 hf
        · have hf := ite_f h17 hf
          refine wm_aload_n C dX12_widths_47 0 rfl (pc' := 48) rfl ?_
          refine m_get (v := .ref (q 35)) C dX12_widths_48 in_X12_widths 35 (by decide) (by decide +kernel) rfl rfl (pc' := 51) rfl ?_
          refine wm_iload_n C dX12_widths_51 1 rfl (pc' := 52) rfl ?_
          obtain ⟨h64, hf⟩ := chk_s hf
          refine wm_iald (f := gA s9 35) (N := 4) (cA := τ.1) C dX12_widths_52 26 mA_35 rfl h64 (pc' := 53) rfl ?_
          refine wm_iload_n C dX12_widths_53 2 rfl (pc' := 54) rfl ?_
          refine wm_icmp_eq C dX12_widths_54 63 (by decide) (pc' := 57) rfl (fun h65 => ?_) (fun h65 => ?_)
          · have hf := ite_t h65 hf
            refine wm_sub (lv' := [(0, .ref (q 0)), (1, .int x1), (3, .int x3), (4, .int x4), (5, .int x5)]) [0, 1, 3, 4, 5] rfl ?_
            exact wJ_63 x1 x3 x4 x5 s9 hf
          · have hf := ite_f h65 hf
            refine wm_aload_n C dX12_widths_57 0 rfl (pc' := 58) rfl ?_
            refine wm_ikonst (v := 2) C dX12_widths_58 (by decide) (pc' := 59) rfl ?_
            obtain ⟨r66, s67, h68, hf⟩ := bnd_s hf
            refine wm_callVd (nn := 1) (As := [.int 2]) (rest := []) (st' := [.int r66]) C dX12_widths_59 (kX12_failed l D τ q s9 2 r66 s67 h68) gX12_widths_X12_failed rfl (by decide +kernel) ⟨Nat.le_of_ble_eq_true rfl, Nat.le_of_ble_eq_true rfl⟩ rfl rfl ⟨Nat.zero_le _, Nat.zero_le _⟩ 0 rfl rfl rfl rfl (Nat.le_of_ble_eq_true rfl) rfl (pc' := 62) rfl ?_
            obtain ⟨rfl, rfl⟩ := leaf_s hf
            exact wm_iret C dX12_widths_62 (Nat.zero_le _) (Nat.zero_le _) FD.rf
      · have hf := ite_f (fun h => h h15) hf
        refine wm_aload_n C dX12_widths_31 0 rfl (pc' := 32) rfl ?_
        refine wm_bipush (v := (-2)) C dX12_widths_32 (by decide) (pc' := 34) rfl ?_
        obtain ⟨r69, s70, h71, hf⟩ := bnd_s hf
        refine wm_callVd (nn := 1) (As := [.int (-2)]) (rest := []) (st' := [.int r69]) C dX12_widths_34 (kX12_refused l D τ q s9 (-2) r69 s70 h71) gX12_widths_X12_refused rfl (by decide +kernel) ⟨Nat.le_of_ble_eq_true rfl, Nat.le_of_ble_eq_true rfl⟩ rfl rfl ⟨Nat.zero_le _, Nat.zero_le _⟩ 0 rfl rfl rfl rfl (Nat.le_of_ble_eq_true rfl) rfl (pc' := 37) rfl ?_
        obtain ⟨rfl, rfl⟩ := leaf_s hf
        exact wm_iret C dX12_widths_37 (Nat.zero_le _) (Nat.zero_le _) FD.rf
    · have hf := ite_f h11 hf
      refine wm_sub (lv' := [(0, .ref (q 0))]) [0] rfl ?_
      exact wJ_16 s9 hf
def fX12_traced (x1 : Int32) (σ : MS) : Option (Unit × MS) :=
  lets (sI σ 38 ((31 * (gI σ 38)) + x1)) (fun s1 => some ((), s1))
theorem in_X12_traced : ∀ w ∈ u_ws RX12 TX12 39, w ∈ wsX12_traced := by decide +kernel
set_option maxHeartbeats 4000000 in
set_option maxRecDepth 100000 in
theorem kX12_traced (l : Launch) (D : va_G) (τ : CId) (q : Nat → Nat) (σ : MS) (x1 : Int32) (sE : MS) (hf : fX12_traced x1 σ = some ((), sE)) : Ct l D τ yX12_traced wsX12_traced { frames := 0, cells := 0, slots := 0, locals := 0 } [.ref (q 0), .int x1] (mW τ q σ) (FD (mW τ q sE) none) := by
  unfold fX12_traced at hf
  refine ct_of (cc := cX12_traced) (maxL := 2) (ret := none) (by decide) rfl (Nat.le_of_ble_eq_true rfl) (fun Γ C => ?_)
  refine wm_lv (lv' := [(0, .ref (q 0)), (1, .int x1)]) rfl ?_
  refine wm_aload_n C dX12_traced_0 0 rfl (pc' := 1) rfl ?_
  refine wm_bipush (v := 31) C dX12_traced_1 (by decide) (pc' := 3) rfl ?_
  refine wm_aload_n C dX12_traced_3 0 rfl (pc' := 4) rfl ?_
  refine m_get (v := .int (gI σ 38)) C dX12_traced_4 in_X12_traced 38 (by decide) (by decide +kernel) rfl rfl (pc' := 7) rfl ?_
  refine wm_imul C dX12_traced_7 (pc' := 8) rfl ?_
  refine wm_iload_n C dX12_traced_8 1 rfl (pc' := 9) rfl ?_
  refine wm_iadd C dX12_traced_9 (pc' := 10) rfl ?_
  obtain ⟨s1, e2, hf⟩ := lets_s hf
  refine m_putI C dX12_traced_10 in_X12_traced 38 (by decide) (by decide +kernel) rfl rfl rfl mL_38 mI_38 e2 (pc' := 13) rfl ?_
  obtain ⟨-, rfl⟩ := leaf_s hf
  exact wm_vret C dX12_traced_13 (Nat.zero_le _) (Nat.zero_le _) FD.rf
def fX12_tell_J44 (x1 : Int32) (x2 : Int32) (s : MS) : Option (Int32 × MS) :=
  bnd (fX12_traced 1 s) (fun r7 s8 => if ¬ (x1 < 0 ∨ 12 ≤ x1.toNatClampNeg) then if ¬ x2 = 0 then if ¬ x2 = 2 then if ¬ x2 = 4 then some (10 * (gA s8 8 x1.toNatClampNeg), s8) else if ¬ (x1 < 0 ∨ 12 ≤ x1.toNatClampNeg) then some ((gA s8 8 x1.toNatClampNeg) + (gA s8 9 x1.toNatClampNeg), s8) else none else some ((gA s8 8 x1.toNatClampNeg) - 20, s8) else some (gA s8 8 x1.toNatClampNeg, s8) else none)
def fX12_tell_J41 (x1 : Int32) (x2 : Int32) (t0 : Int32) (s : MS) : Option (Int32 × MS) :=
  bnd (fX12_traced t0 s) (fun r17 s18 => fX12_tell_J44 x1 x2 s18)
def fX12_tell (x1 : Int32) (σ : MS) : Option (Int32 × MS) :=
  bnd (fX12_noCrack x1 σ) (fun r1 s2 => if r1 = 0 then if ¬ (x1 < 0 ∨ 12 ≤ x1.toNatClampNeg) then if (gA s2 7 x1.toNatClampNeg) = 0 then fX12_tell_J44 x1 (gA s2 7 x1.toNatClampNeg) s2 else if ¬ (gA s2 7 x1.toNatClampNeg) = 2 then if ¬ (gA s2 7 x1.toNatClampNeg) = 4 then fX12_tell_J41 x1 (gA s2 7 x1.toNatClampNeg) 2 s2 else fX12_tell_J41 x1 (gA s2 7 x1.toNatClampNeg) 4 s2 else fX12_tell_J41 x1 (gA s2 7 x1.toNatClampNeg) 3 s2 else none else some ((-1), s2))
theorem in_X12_tell : ∀ w ∈ u_ws RX12 TX12 39, w ∈ wsX12_tell := by decide +kernel
set_option maxHeartbeats 4000000 in
set_option maxRecDepth 100000 in
theorem kX12_tell (l : Launch) (D : va_G) (τ : CId) (q : Nat → Nat) (σ : MS) (x1 : Int32) (rE : Int32) (sE : MS) (hf : fX12_tell x1 σ = some (rE, sE)) : Ct l D τ yX12_tell wsX12_tell { frames := 2, cells := 0, slots := 0, locals := 43 } [.ref (q 0), .int x1] (mW τ q σ) (FD (mW τ q sE) (some (.int rE))) := by
  unfold fX12_tell at hf
  refine ct_of (cc := cX12_tell) (maxL := 4) (ret := (some .int)) (by decide) rfl (Nat.le_of_ble_eq_true rfl) (fun Γ C => ?_)
  refine wm_lv (lv' := [(0, .ref (q 0)), (1, .int x1)]) rfl ?_
  have wJ_44 : ∀ (x1 : Int32) (x2 : Int32) (s : MS), fX12_tell_J44 x1 x2 s = some (rE, sE) → WM l D Γ 4 0 0 (mW τ q s) 44 [(0, .ref (q 0)), (1, .int x1), (2, .int x2)] [] := by
    intro x1 x2 s hf
    unfold fX12_tell_J44 at hf
    refine wm_aload_n C dX12_tell_44 0 rfl (pc' := 45) rfl ?_
    refine wm_ikonst (v := 1) C dX12_tell_45 (by decide) (pc' := 46) rfl ?_
    obtain ⟨r7, s8, h9, hf⟩ := bnd_s hf
    refine wm_callVd (nn := 1) (As := [.int 1]) (rest := []) (st' := []) C dX12_tell_46 (kX12_traced l D τ q s 1 s8 h9) gX12_tell_X12_traced rfl (by decide +kernel) ⟨Nat.le_of_ble_eq_true rfl, Nat.le_of_ble_eq_true rfl⟩ rfl rfl ⟨Nat.zero_le _, Nat.zero_le _⟩ 0 rfl rfl rfl rfl (Nat.le_of_ble_eq_true rfl) rfl (pc' := 49) rfl ?_
    refine wm_aload_n C dX12_tell_49 0 rfl (pc' := 50) rfl ?_
    refine m_get (v := .ref (q 8)) C dX12_tell_50 in_X12_tell 8 (by decide) (by decide +kernel) rfl rfl (pc' := 53) rfl ?_
    refine wm_iload_n C dX12_tell_53 1 rfl (pc' := 54) rfl ?_
    obtain ⟨h10, hf⟩ := chk_s hf
    refine wm_iald (f := gA s8 8) (N := 12) (cA := τ.1) C dX12_tell_54 6 mA_8 rfl h10 (pc' := 55) rfl ?_
    refine wm_istore_n (lv' := [(3, .int (gA s8 8 x1.toNatClampNeg)), (0, .ref (q 0)), (1, .int x1), (2, .int x2)]) C dX12_tell_55 (by decide) rfl (pc' := 56) rfl ?_
    refine wm_iload_n C dX12_tell_56 3 rfl (pc' := 57) rfl ?_
    refine wm_if_ne C dX12_tell_57 64 (by decide) (pc' := 60) rfl (fun h11 => ?_) (fun h11 => ?_)
    · have hf := ite_t h11 hf
      refine wm_iload_n C dX12_tell_64 3 rfl (pc' := 65) rfl ?_
      refine wm_ikonst (v := 2) C dX12_tell_65 (by decide) (pc' := 66) rfl ?_
      refine wm_icmp_ne C dX12_tell_66 76 (by decide) (pc' := 69) rfl (fun h12 => ?_) (fun h12 => ?_)
      · have hf := ite_t h12 hf
        refine wm_iload_n C dX12_tell_76 3 rfl (pc' := 77) rfl ?_
        refine wm_ikonst (v := 4) C dX12_tell_77 (by decide) (pc' := 78) rfl ?_
        refine wm_icmp_ne C dX12_tell_78 92 (by decide) (pc' := 81) rfl (fun h13 => ?_) (fun h13 => ?_)
        · have hf := ite_t h13 hf
          refine wm_bipush (v := 10) C dX12_tell_92 (by decide) (pc' := 94) rfl ?_
          refine wm_iload_n C dX12_tell_94 0 rfl (pc' := 95) rfl ?_
          refine wm_imul C dX12_tell_95 (pc' := 96) rfl ?_
          obtain ⟨rfl, rfl⟩ := leaf_s hf
          exact wm_iret C dX12_tell_96 (Nat.zero_le _) (Nat.zero_le _) FD.rf
        · have hf := ite_f (fun h => h h13) hf
          refine wm_iload_n C dX12_tell_81 0 rfl (pc' := 82) rfl ?_
          refine wm_aload_n C dX12_tell_82 1 rfl (pc' := 83) rfl ?_
          refine m_get (v := .ref (q 9)) C dX12_tell_83 in_X12_tell 9 (by decide) (by decide +kernel) rfl rfl (pc' := 86) rfl ?_
          refine wm_iload_n C dX12_tell_86 2 rfl (pc' := 87) rfl ?_
          obtain ⟨h14, hf⟩ := chk_s hf
          refine wm_iald (f := gA s8 9) (N := 12) (cA := τ.1) C dX12_tell_87 7 mA_9 rfl h14 (pc' := 88) rfl ?_
          refine wm_iadd C dX12_tell_88 (pc' := 89) rfl ?_
          refine wm_goto C dX12_tell_89 96 (by decide) ?_
          obtain ⟨rfl, rfl⟩ := leaf_s hf
          exact wm_iret C dX12_tell_96 (Nat.zero_le _) (Nat.zero_le _) FD.rf
      · have hf := ite_f (fun h => h h12) hf
        refine wm_iload_n C dX12_tell_69 0 rfl (pc' := 70) rfl ?_
        refine wm_bipush (v := 20) C dX12_tell_70 (by decide) (pc' := 72) rfl ?_
        refine wm_isub C dX12_tell_72 (pc' := 73) rfl ?_
        refine wm_goto C dX12_tell_73 96 (by decide) ?_
        obtain ⟨rfl, rfl⟩ := leaf_s hf
        exact wm_iret C dX12_tell_96 (Nat.zero_le _) (Nat.zero_le _) FD.rf
    · have hf := ite_f (fun h => h h11) hf
      refine wm_iload_n C dX12_tell_60 0 rfl (pc' := 61) rfl ?_
      refine wm_goto C dX12_tell_61 96 (by decide) ?_
      obtain ⟨rfl, rfl⟩ := leaf_s hf
      exact wm_iret C dX12_tell_96 (Nat.zero_le _) (Nat.zero_le _) FD.rf
  have wJ_41 : ∀ (x1 : Int32) (x2 : Int32) (t0 : Int32) (s : MS), fX12_tell_J41 x1 x2 t0 s = some (rE, sE) → WM l D Γ 4 0 0 (mW τ q s) 41 [(0, .ref (q 0)), (1, .int x1), (2, .int x2)] [.int t0, .ref (q 0)] := by
    intro x1 x2 t0 s hf
    unfold fX12_tell_J41 at hf
    obtain ⟨r17, s18, h19, hf⟩ := bnd_s hf
    refine wm_callVd (nn := 1) (As := [.int t0]) (rest := []) (st' := []) C dX12_tell_41 (kX12_traced l D τ q s t0 s18 h19) gX12_tell_X12_traced rfl (by decide +kernel) ⟨Nat.le_of_ble_eq_true rfl, Nat.le_of_ble_eq_true rfl⟩ rfl rfl ⟨Nat.zero_le _, Nat.zero_le _⟩ 0 rfl rfl rfl rfl (Nat.le_of_ble_eq_true rfl) rfl (pc' := 44) rfl ?_
    exact wJ_44 x1 x2 s18 hf
  refine wm_aload_n C dX12_tell_0 0 rfl (pc' := 1) rfl ?_
  refine wm_iload_n C dX12_tell_1 1 rfl (pc' := 2) rfl ?_
  obtain ⟨r1, s2, h3, hf⟩ := bnd_s hf
  refine wm_callVd (nn := 1) (As := [.int x1]) (rest := []) (st' := [.int r1]) C dX12_tell_2 (kX12_noCrack l D τ q σ x1 r1 s2 h3) gX12_tell_X12_noCrack rfl (by decide +kernel) ⟨Nat.le_of_ble_eq_true rfl, Nat.le_of_ble_eq_true rfl⟩ rfl rfl ⟨Nat.zero_le _, Nat.zero_le _⟩ 0 rfl rfl rfl rfl (Nat.le_of_ble_eq_true rfl) rfl (pc' := 5) rfl ?_
  refine wm_if_eq C dX12_tell_5 10 (by decide) (pc' := 8) rfl (fun h4 => ?_) (fun h4 => ?_)
  · have hf := ite_t h4 hf
    refine wm_aload_n C dX12_tell_10 0 rfl (pc' := 11) rfl ?_
    refine m_get (v := .ref (q 7)) C dX12_tell_11 in_X12_tell 7 (by decide) (by decide +kernel) rfl rfl (pc' := 14) rfl ?_
    refine wm_iload_n C dX12_tell_14 1 rfl (pc' := 15) rfl ?_
    obtain ⟨h5, hf⟩ := chk_s hf
    refine wm_iald (f := gA s2 7) (N := 12) (cA := τ.1) C dX12_tell_15 5 mA_7 rfl h5 (pc' := 16) rfl ?_
    refine wm_istore_n (lv' := [(2, .int (gA s2 7 x1.toNatClampNeg)), (0, .ref (q 0)), (1, .int x1)]) C dX12_tell_16 (by decide) rfl (pc' := 17) rfl ?_
    refine wm_iload_n C dX12_tell_17 0 rfl (pc' := 18) rfl ?_
    refine wm_if_eq C dX12_tell_18 44 (by decide) (pc' := 21) rfl (fun h6 => ?_) (fun h6 => ?_)
    · have hf := ite_t h6 hf
      refine wm_sub (lv' := [(0, .ref (q 0)), (1, .int x1), (2, .int (gA s2 7 x1.toNatClampNeg))]) [1, 2, 0] rfl ?_
      exact wJ_44 x1 (gA s2 7 x1.toNatClampNeg) s2 hf
    · have hf := ite_f h6 hf
      refine wm_aload_n C dX12_tell_21 1 rfl (pc' := 22) rfl ?_
      refine wm_iload_n C dX12_tell_22 0 rfl (pc' := 23) rfl ?_
      refine wm_ikonst (v := 2) C dX12_tell_23 (by decide) (pc' := 24) rfl ?_
      refine wm_icmp_ne C dX12_tell_24 31 (by decide) (pc' := 27) rfl (fun h15 => ?_) (fun h15 => ?_)
      · have hf := ite_t h15 hf
        refine wm_iload_n C dX12_tell_31 0 rfl (pc' := 32) rfl ?_
        refine wm_ikonst (v := 4) C dX12_tell_32 (by decide) (pc' := 33) rfl ?_
        refine wm_icmp_ne C dX12_tell_33 40 (by decide) (pc' := 36) rfl (fun h16 => ?_) (fun h16 => ?_)
        · have hf := ite_t h16 hf
          refine wm_ikonst (v := 2) C dX12_tell_40 (by decide) (pc' := 41) rfl ?_
          refine wm_sub (lv' := [(0, .ref (q 0)), (1, .int x1), (2, .int (gA s2 7 x1.toNatClampNeg))]) [1, 2, 0] rfl ?_
          exact wJ_41 x1 (gA s2 7 x1.toNatClampNeg) 2 s2 hf
        · have hf := ite_f (fun h => h h16) hf
          refine wm_ikonst (v := 4) C dX12_tell_36 (by decide) (pc' := 37) rfl ?_
          refine wm_goto C dX12_tell_37 41 (by decide) ?_
          refine wm_sub (lv' := [(0, .ref (q 0)), (1, .int x1), (2, .int (gA s2 7 x1.toNatClampNeg))]) [1, 2, 0] rfl ?_
          exact wJ_41 x1 (gA s2 7 x1.toNatClampNeg) 4 s2 hf
      · have hf := ite_f (fun h => h h15) hf
        refine wm_ikonst (v := 3) C dX12_tell_27 (by decide) (pc' := 28) rfl ?_
        refine wm_goto C dX12_tell_28 41 (by decide) ?_
        refine wm_sub (lv' := [(0, .ref (q 0)), (1, .int x1), (2, .int (gA s2 7 x1.toNatClampNeg))]) [1, 2, 0] rfl ?_
        exact wJ_41 x1 (gA s2 7 x1.toNatClampNeg) 3 s2 hf
  · have hf := ite_f h4 hf
    refine wm_ikonst (v := (-1)) C dX12_tell_8 (by decide) (pc' := 9) rfl ?_
    obtain ⟨rfl, rfl⟩ := leaf_s hf
    exact wm_iret C dX12_tell_9 (Nat.zero_le _) (Nat.zero_le _) FD.rf
def fX12_judge_J37 (x1 : Int32) (x2 : Int32) (t0 : Int32) (s : MS) : Option (Int32 × MS) :=
  bnd (fX12_traced t0 s) (fun r8 s9 => if x2 = 0 then if ¬ (x1 < 0 ∨ 12 ≤ x1.toNatClampNeg) then some (100 + (gA s9 7 x1.toNatClampNeg), s9) else none else if ¬ (x1 < 0 ∨ 12 ≤ x1.toNatClampNeg) then some (gA s9 9 x1.toNatClampNeg, s9) else none)
def fX12_judge_J25 (x1 : Int32) (t0 : Int32) (s : MS) : Option (Int32 × MS) :=
  if t0 = 0 then fX12_judge_J37 x1 t0 5 s else fX12_judge_J37 x1 t0 6 s
def fX12_judge (x1 : Int32) (σ : MS) : Option (Int32 × MS) :=
  bnd (fX12_noCrack x1 σ) (fun r1 s2 => if r1 = 0 then if ¬ (x1 < 0 ∨ 12 ≤ x1.toNatClampNeg) then if (gA s2 7 x1.toNatClampNeg) < 3 then fX12_judge_J25 x1 0 s2 else fX12_judge_J25 x1 1 s2 else none else some ((-1), s2))
theorem in_X12_judge : ∀ w ∈ u_ws RX12 TX12 39, w ∈ wsX12_judge := by decide +kernel
set_option maxHeartbeats 4000000 in
set_option maxRecDepth 100000 in
theorem kX12_judge (l : Launch) (D : va_G) (τ : CId) (q : Nat → Nat) (σ : MS) (x1 : Int32) (rE : Int32) (sE : MS) (hf : fX12_judge x1 σ = some (rE, sE)) : Ct l D τ yX12_judge wsX12_judge { frames := 2, cells := 0, slots := 0, locals := 43 } [.ref (q 0), .int x1] (mW τ q σ) (FD (mW τ q sE) (some (.int rE))) := by
  unfold fX12_judge at hf
  refine ct_of (cc := cX12_judge) (maxL := 3) (ret := (some .int)) (by decide) rfl (Nat.le_of_ble_eq_true rfl) (fun Γ C => ?_)
  refine wm_lv (lv' := [(0, .ref (q 0)), (1, .int x1)]) rfl ?_
  have wJ_37 : ∀ (x1 : Int32) (x2 : Int32) (t0 : Int32) (s : MS), fX12_judge_J37 x1 x2 t0 s = some (rE, sE) → WM l D Γ 3 0 0 (mW τ q s) 37 [(0, .ref (q 0)), (1, .int x1), (2, .int x2)] [.int t0, .ref (q 0)] := by
    intro x1 x2 t0 s hf
    unfold fX12_judge_J37 at hf
    obtain ⟨r8, s9, h10, hf⟩ := bnd_s hf
    refine wm_callVd (nn := 1) (As := [.int t0]) (rest := []) (st' := []) C dX12_judge_37 (kX12_traced l D τ q s t0 s9 h10) gX12_judge_X12_traced rfl (by decide +kernel) ⟨Nat.le_of_ble_eq_true rfl, Nat.le_of_ble_eq_true rfl⟩ rfl rfl ⟨Nat.zero_le _, Nat.zero_le _⟩ 0 rfl rfl rfl rfl (Nat.le_of_ble_eq_true rfl) rfl (pc' := 40) rfl ?_
    refine wm_iload_n C dX12_judge_40 2 rfl (pc' := 41) rfl ?_
    refine wm_if_eq C dX12_judge_41 53 (by decide) (pc' := 44) rfl (fun h11 => ?_) (fun h11 => ?_)
    · have hf := ite_t h11 hf
      refine wm_bipush (v := 100) C dX12_judge_53 (by decide) (pc' := 55) rfl ?_
      refine wm_aload_n C dX12_judge_55 0 rfl (pc' := 56) rfl ?_
      refine m_get (v := .ref (q 7)) C dX12_judge_56 in_X12_judge 7 (by decide) (by decide +kernel) rfl rfl (pc' := 59) rfl ?_
      refine wm_iload_n C dX12_judge_59 1 rfl (pc' := 60) rfl ?_
      obtain ⟨h12, hf⟩ := chk_s hf
      refine wm_iald (f := gA s9 7) (N := 12) (cA := τ.1) C dX12_judge_60 5 mA_7 rfl h12 (pc' := 61) rfl ?_
      refine wm_iadd C dX12_judge_61 (pc' := 62) rfl ?_
      obtain ⟨rfl, rfl⟩ := leaf_s hf
      exact wm_iret C dX12_judge_62 (Nat.zero_le _) (Nat.zero_le _) FD.rf
    · have hf := ite_f h11 hf
      refine wm_aload_n C dX12_judge_44 0 rfl (pc' := 45) rfl ?_
      refine m_get (v := .ref (q 9)) C dX12_judge_45 in_X12_judge 9 (by decide) (by decide +kernel) rfl rfl (pc' := 48) rfl ?_
      refine wm_iload_n C dX12_judge_48 1 rfl (pc' := 49) rfl ?_
      obtain ⟨h13, hf⟩ := chk_s hf
      refine wm_iald (f := gA s9 9) (N := 12) (cA := τ.1) C dX12_judge_49 7 mA_9 rfl h13 (pc' := 50) rfl ?_
      refine wm_goto C dX12_judge_50 62 (by decide) ?_
      obtain ⟨rfl, rfl⟩ := leaf_s hf
      exact wm_iret C dX12_judge_62 (Nat.zero_le _) (Nat.zero_le _) FD.rf
  have wJ_25 : ∀ (x1 : Int32) (t0 : Int32) (s : MS), fX12_judge_J25 x1 t0 s = some (rE, sE) → WM l D Γ 3 0 0 (mW τ q s) 25 [(0, .ref (q 0)), (1, .int x1)] [.int t0] := by
    intro x1 t0 s hf
    unfold fX12_judge_J25 at hf
    refine wm_istore_n (lv' := [(2, .int t0), (0, .ref (q 0)), (1, .int x1)]) C dX12_judge_25 (by decide) rfl (pc' := 26) rfl ?_
    refine wm_aload_n C dX12_judge_26 1 rfl (pc' := 27) rfl ?_
    refine wm_iload_n C dX12_judge_27 0 rfl (pc' := 28) rfl ?_
    refine wm_if_eq C dX12_judge_28 36 (by decide) (pc' := 31) rfl (fun h7 => ?_) (fun h7 => ?_)
    · have hf := ite_t h7 hf
      refine wm_ikonst (v := 5) C dX12_judge_36 (by decide) (pc' := 37) rfl ?_
      refine wm_sub (lv' := [(0, .ref (q 0)), (1, .int x1), (2, .int t0)]) [1, 2, 0] rfl ?_
      exact wJ_37 x1 t0 5 s hf
    · have hf := ite_f h7 hf
      refine wm_bipush (v := 6) C dX12_judge_31 (by decide) (pc' := 33) rfl ?_
      refine wm_goto C dX12_judge_33 37 (by decide) ?_
      refine wm_sub (lv' := [(0, .ref (q 0)), (1, .int x1), (2, .int t0)]) [1, 2, 0] rfl ?_
      exact wJ_37 x1 t0 6 s hf
  refine wm_aload_n C dX12_judge_0 0 rfl (pc' := 1) rfl ?_
  refine wm_iload_n C dX12_judge_1 1 rfl (pc' := 2) rfl ?_
  obtain ⟨r1, s2, h3, hf⟩ := bnd_s hf
  refine wm_callVd (nn := 1) (As := [.int x1]) (rest := []) (st' := [.int r1]) C dX12_judge_2 (kX12_noCrack l D τ q σ x1 r1 s2 h3) gX12_judge_X12_noCrack rfl (by decide +kernel) ⟨Nat.le_of_ble_eq_true rfl, Nat.le_of_ble_eq_true rfl⟩ rfl rfl ⟨Nat.zero_le _, Nat.zero_le _⟩ 0 rfl rfl rfl rfl (Nat.le_of_ble_eq_true rfl) rfl (pc' := 5) rfl ?_
  refine wm_if_eq C dX12_judge_5 10 (by decide) (pc' := 8) rfl (fun h4 => ?_) (fun h4 => ?_)
  · have hf := ite_t h4 hf
    refine wm_aload_n C dX12_judge_10 0 rfl (pc' := 11) rfl ?_
    refine m_get (v := .ref (q 7)) C dX12_judge_11 in_X12_judge 7 (by decide) (by decide +kernel) rfl rfl (pc' := 14) rfl ?_
    refine wm_iload_n C dX12_judge_14 1 rfl (pc' := 15) rfl ?_
    obtain ⟨h5, hf⟩ := chk_s hf
    refine wm_iald (f := gA s2 7) (N := 12) (cA := τ.1) C dX12_judge_15 5 mA_7 rfl h5 (pc' := 16) rfl ?_
    refine wm_ikonst (v := 3) C dX12_judge_16 (by decide) (pc' := 17) rfl ?_
    refine wm_icmp_lt C dX12_judge_17 24 (by decide) (pc' := 20) rfl (fun h6 => ?_) (fun h6 => ?_)
    · have hf := ite_t h6 hf
      refine wm_ikonst (v := 0) C dX12_judge_24 (by decide) (pc' := 25) rfl ?_
      exact wJ_25 x1 0 s2 hf
    · have hf := ite_f h6 hf
      refine wm_ikonst (v := 1) C dX12_judge_20 (by decide) (pc' := 21) rfl ?_
      refine wm_goto C dX12_judge_21 25 (by decide) ?_
      exact wJ_25 x1 1 s2 hf
  · have hf := ite_f h4 hf
    refine wm_ikonst (v := (-1)) C dX12_judge_8 (by decide) (pc' := 9) rfl ?_
    obtain ⟨rfl, rfl⟩ := leaf_s hf
    exact wm_iret C dX12_judge_9 (Nat.zero_le _) (Nat.zero_le _) FD.rf
def fX12_as_J71 (t0 : Int32) (s : MS) : Option (Int32 × MS) :=
  if t0 = 0 then bnd (fX12_failed 2 s) (fun r12 s13 => some (r12, s13)) else bnd (fX12_refused 1 s) (fun r15 s16 => some (r15, s16))
def fX12_as_J66 (s : MS) : Option (Int32 × MS) :=
  fX12_as_J71 1 s
def fX12_as_J70 (s : MS) : Option (Int32 × MS) :=
  fX12_as_J71 0 s
def fX12_as_J56 (x2 : Int32) (x3 : Int32) (s : MS) : Option (Int32 × MS) :=
  if ¬ x2 = 3 then fX12_as_J70 s else if ¬ x3 = 4 then fX12_as_J70 s else fX12_as_J66 s
def fX12_as (x1 : Int32) (x2 : Int32) (σ : MS) : Option (Int32 × MS) :=
  bnd (fX12_noCrack x1 σ) (fun r1 s2 => if r1 = 0 then bnd (fX12_among x2 0 4) (fun r5 u6 => if ¬ r5 = 0 then if ¬ (x1 < 0 ∨ 12 ≤ x1.toNatClampNeg) then if x2 = 0 then fX12_as_J66 s2 else if x2 = (gA s2 7 x1.toNatClampNeg) then fX12_as_J66 s2 else if ¬ x2 = 1 then fX12_as_J56 x2 (gA s2 7 x1.toNatClampNeg) s2 else if 3 ≤ (gA s2 7 x1.toNatClampNeg) then fX12_as_J66 s2 else fX12_as_J56 x2 (gA s2 7 x1.toNatClampNeg) s2 else none else bnd (fX12_refused (-2) s2) (fun r23 s24 => some (r23, s24))) else bnd (fX12_refused (-1) s2) (fun r26 s27 => some (r26, s27)))
theorem in_X12_as : ∀ w ∈ u_ws RX12 TX12 39, w ∈ wsX12_as := by decide +kernel
set_option maxHeartbeats 4000000 in
set_option maxRecDepth 100000 in
theorem kX12_as (l : Launch) (D : va_G) (τ : CId) (q : Nat → Nat) (σ : MS) (x1 : Int32) (x2 : Int32) (rE : Int32) (sE : MS) (hf : fX12_as x1 x2 σ = some (rE, sE)) : Ct l D τ yX12_as wsX12_as { frames := 2, cells := 0, slots := 0, locals := 43 } [.ref (q 0), .int x1, .int x2] (mW τ q σ) (FD (mW τ q sE) (some (.int rE))) := by
  unfold fX12_as at hf
  refine ct_of (cc := cX12_as) (maxL := 5) (ret := (some .int)) (by decide) rfl (Nat.le_of_ble_eq_true rfl) (fun Γ C => ?_)
  refine wm_lv (lv' := [(0, .ref (q 0)), (1, .int x1), (2, .int x2)]) rfl ?_
  have wJ_71 : ∀ (t0 : Int32) (s : MS), fX12_as_J71 t0 s = some (rE, sE) → WM l D Γ 5 0 0 (mW τ q s) 71 [(0, .ref (q 0))] [.int t0] := by
    intro t0 s hf
    unfold fX12_as_J71 at hf
    refine wm_istore (lv' := [(4, .int t0), (0, .ref (q 0))]) C dX12_as_71 (by decide) rfl (pc' := 73) rfl ?_
    refine wm_iload C dX12_as_73 0 rfl (pc' := 75) rfl ?_
    refine wm_if_eq C dX12_as_75 86 (by decide) (pc' := 78) rfl (fun h11 => ?_) (fun h11 => ?_)
    · have hf := ite_t h11 hf
      refine wm_aload_n C dX12_as_86 1 rfl (pc' := 87) rfl ?_
      refine wm_ikonst (v := 2) C dX12_as_87 (by decide) (pc' := 88) rfl ?_
      obtain ⟨r12, s13, h14, hf⟩ := bnd_s hf
      refine wm_callVd (nn := 1) (As := [.int 2]) (rest := []) (st' := [.int r12]) C dX12_as_88 (kX12_failed l D τ q s 2 r12 s13 h14) gX12_as_X12_failed rfl (by decide +kernel) ⟨Nat.le_of_ble_eq_true rfl, Nat.le_of_ble_eq_true rfl⟩ rfl rfl ⟨Nat.zero_le _, Nat.zero_le _⟩ 0 rfl rfl rfl rfl (Nat.le_of_ble_eq_true rfl) rfl (pc' := 91) rfl ?_
      obtain ⟨rfl, rfl⟩ := leaf_s hf
      exact wm_iret C dX12_as_91 (Nat.zero_le _) (Nat.zero_le _) FD.rf
    · have hf := ite_f h11 hf
      refine wm_aload_n C dX12_as_78 1 rfl (pc' := 79) rfl ?_
      refine wm_ikonst (v := 1) C dX12_as_79 (by decide) (pc' := 80) rfl ?_
      obtain ⟨r15, s16, h17, hf⟩ := bnd_s hf
      refine wm_callVd (nn := 1) (As := [.int 1]) (rest := []) (st' := [.int r15]) C dX12_as_80 (kX12_refused l D τ q s 1 r15 s16 h17) gX12_as_X12_refused rfl (by decide +kernel) ⟨Nat.le_of_ble_eq_true rfl, Nat.le_of_ble_eq_true rfl⟩ rfl rfl ⟨Nat.zero_le _, Nat.zero_le _⟩ 0 rfl rfl rfl rfl (Nat.le_of_ble_eq_true rfl) rfl (pc' := 83) rfl ?_
      refine wm_goto C dX12_as_83 91 (by decide) ?_
      obtain ⟨rfl, rfl⟩ := leaf_s hf
      exact wm_iret C dX12_as_91 (Nat.zero_le _) (Nat.zero_le _) FD.rf
  have wJ_66 : ∀ (s : MS), fX12_as_J66 s = some (rE, sE) → WM l D Γ 5 0 0 (mW τ q s) 66 [(0, .ref (q 0))] [] := by
    intro  s hf
    unfold fX12_as_J66 at hf
    refine wm_ikonst (v := 1) C dX12_as_66 (by decide) (pc' := 67) rfl ?_
    refine wm_goto C dX12_as_67 71 (by decide) ?_
    exact wJ_71 1 s hf
  have wJ_70 : ∀ (s : MS), fX12_as_J70 s = some (rE, sE) → WM l D Γ 5 0 0 (mW τ q s) 70 [(0, .ref (q 0))] [] := by
    intro  s hf
    unfold fX12_as_J70 at hf
    refine wm_ikonst (v := 0) C dX12_as_70 (by decide) (pc' := 71) rfl ?_
    exact wJ_71 0 s hf
  have wJ_56 : ∀ (x2 : Int32) (x3 : Int32) (s : MS), fX12_as_J56 x2 x3 s = some (rE, sE) → WM l D Γ 5 0 0 (mW τ q s) 56 [(0, .ref (q 0)), (2, .int x2), (3, .int x3)] [] := by
    intro x2 x3 s hf
    unfold fX12_as_J56 at hf
    refine wm_iload_n C dX12_as_56 1 rfl (pc' := 57) rfl ?_
    refine wm_ikonst (v := 3) C dX12_as_57 (by decide) (pc' := 58) rfl ?_
    refine wm_icmp_ne C dX12_as_58 70 (by decide) (pc' := 61) rfl (fun h20 => ?_) (fun h20 => ?_)
    · have hf := ite_t h20 hf
      refine wm_sub (lv' := [(0, .ref (q 0))]) [0] rfl ?_
      exact wJ_70 s hf
    · have hf := ite_f (fun h => h h20) hf
      refine wm_iload_n C dX12_as_61 2 rfl (pc' := 62) rfl ?_
      refine wm_ikonst (v := 4) C dX12_as_62 (by decide) (pc' := 63) rfl ?_
      refine wm_icmp_ne C dX12_as_63 70 (by decide) (pc' := 66) rfl (fun h21 => ?_) (fun h21 => ?_)
      · have hf := ite_t h21 hf
        refine wm_sub (lv' := [(0, .ref (q 0))]) [0] rfl ?_
        exact wJ_70 s hf
      · have hf := ite_f (fun h => h h21) hf
        refine wm_sub (lv' := [(0, .ref (q 0))]) [0] rfl ?_
        exact wJ_66 s hf
  refine wm_aload_n C dX12_as_0 0 rfl (pc' := 1) rfl ?_
  refine wm_iload_n C dX12_as_1 1 rfl (pc' := 2) rfl ?_
  obtain ⟨r1, s2, h3, hf⟩ := bnd_s hf
  refine wm_callVd (nn := 1) (As := [.int x1]) (rest := []) (st' := [.int r1]) C dX12_as_2 (kX12_noCrack l D τ q σ x1 r1 s2 h3) gX12_as_X12_noCrack rfl (by decide +kernel) ⟨Nat.le_of_ble_eq_true rfl, Nat.le_of_ble_eq_true rfl⟩ rfl rfl ⟨Nat.zero_le _, Nat.zero_le _⟩ 0 rfl rfl rfl rfl (Nat.le_of_ble_eq_true rfl) rfl (pc' := 5) rfl ?_
  refine wm_if_eq C dX12_as_5 14 (by decide) (pc' := 8) rfl (fun h4 => ?_) (fun h4 => ?_)
  · have hf := ite_t h4 hf
    refine wm_iload_n C dX12_as_14 2 rfl (pc' := 15) rfl ?_
    refine wm_ikonst (v := 0) C dX12_as_15 (by decide) (pc' := 16) rfl ?_
    refine wm_ikonst (v := 4) C dX12_as_16 (by decide) (pc' := 17) rfl ?_
    obtain ⟨r5, u6, h7, hf⟩ := bnd_s hf
    refine wm_callSd (nn := 3) (As := [.int x2, .int 0, .int 4]) (rest := []) (st' := [.int r5]) C dX12_as_17 (kX12_among l D τ x2 0 4 r5 h7) gX12_as_X12_among rfl (by decide +kernel) ⟨Nat.le_of_ble_eq_true rfl, Nat.le_of_ble_eq_true rfl⟩ rfl rfl ⟨Nat.zero_le _, Nat.zero_le _⟩ rfl rfl (Nat.le_of_ble_eq_true rfl) rfl (pc' := 20) rfl ?_
    refine wm_if_ne C dX12_as_20 30 (by decide) (pc' := 23) rfl (fun h8 => ?_) (fun h8 => ?_)
    · have hf := ite_t h8 hf
      refine wm_aload_n C dX12_as_30 0 rfl (pc' := 31) rfl ?_
      refine m_get (v := .ref (q 7)) C dX12_as_31 in_X12_as 7 (by decide) (by decide +kernel) rfl rfl (pc' := 34) rfl ?_
      refine wm_iload_n C dX12_as_34 1 rfl (pc' := 35) rfl ?_
      obtain ⟨h9, hf⟩ := chk_s hf
      refine wm_iald (f := gA s2 7) (N := 12) (cA := τ.1) C dX12_as_35 5 mA_7 rfl h9 (pc' := 36) rfl ?_
      refine wm_istore_n (lv' := [(3, .int (gA s2 7 x1.toNatClampNeg)), (0, .ref (q 0)), (1, .int x1), (2, .int x2)]) C dX12_as_36 (by decide) rfl (pc' := 37) rfl ?_
      refine wm_iload_n C dX12_as_37 3 rfl (pc' := 38) rfl ?_
      refine wm_if_eq C dX12_as_38 66 (by decide) (pc' := 41) rfl (fun h10 => ?_) (fun h10 => ?_)
      · have hf := ite_t h10 hf
        refine wm_sub (lv' := [(0, .ref (q 0))]) [1] rfl ?_
        exact wJ_66 s2 hf
      · have hf := ite_f h10 hf
        refine wm_iload_n C dX12_as_41 3 rfl (pc' := 42) rfl ?_
        refine wm_iload_n C dX12_as_42 0 rfl (pc' := 43) rfl ?_
        refine wm_icmp_eq C dX12_as_43 66 (by decide) (pc' := 46) rfl (fun h18 => ?_) (fun h18 => ?_)
        · have hf := ite_t h18 hf
          refine wm_sub (lv' := [(0, .ref (q 0))]) [1] rfl ?_
          exact wJ_66 s2 hf
        · have hf := ite_f h18 hf
          refine wm_iload_n C dX12_as_46 3 rfl (pc' := 47) rfl ?_
          refine wm_ikonst (v := 1) C dX12_as_47 (by decide) (pc' := 48) rfl ?_
          refine wm_icmp_ne C dX12_as_48 56 (by decide) (pc' := 51) rfl (fun h19 => ?_) (fun h19 => ?_)
          · have hf := ite_t h19 hf
            refine wm_sub (lv' := [(0, .ref (q 0)), (2, .int x2), (3, .int (gA s2 7 x1.toNatClampNeg))]) [1, 3, 0] rfl ?_
            exact wJ_56 x2 (gA s2 7 x1.toNatClampNeg) s2 hf
          · have hf := ite_f (fun h => h h19) hf
            refine wm_iload_n C dX12_as_51 0 rfl (pc' := 52) rfl ?_
            refine wm_ikonst (v := 3) C dX12_as_52 (by decide) (pc' := 53) rfl ?_
            refine wm_icmp_ge C dX12_as_53 66 (by decide) (pc' := 56) rfl (fun h22 => ?_) (fun h22 => ?_)
            · have hf := ite_t h22 hf
              refine wm_sub (lv' := [(0, .ref (q 0))]) [1] rfl ?_
              exact wJ_66 s2 hf
            · have hf := ite_f h22 hf
              refine wm_sub (lv' := [(0, .ref (q 0)), (2, .int x2), (3, .int (gA s2 7 x1.toNatClampNeg))]) [1, 3, 0] rfl ?_
              exact wJ_56 x2 (gA s2 7 x1.toNatClampNeg) s2 hf
    · have hf := ite_f (fun h => h h8) hf
      refine wm_aload_n C dX12_as_23 0 rfl (pc' := 24) rfl ?_
      refine wm_bipush (v := (-2)) C dX12_as_24 (by decide) (pc' := 26) rfl ?_
      obtain ⟨r23, s24, h25, hf⟩ := bnd_s hf
      refine wm_callVd (nn := 1) (As := [.int (-2)]) (rest := []) (st' := [.int r23]) C dX12_as_26 (kX12_refused l D τ q s2 (-2) r23 s24 h25) gX12_as_X12_refused rfl (by decide +kernel) ⟨Nat.le_of_ble_eq_true rfl, Nat.le_of_ble_eq_true rfl⟩ rfl rfl ⟨Nat.zero_le _, Nat.zero_le _⟩ 0 rfl rfl rfl rfl (Nat.le_of_ble_eq_true rfl) rfl (pc' := 29) rfl ?_
      obtain ⟨rfl, rfl⟩ := leaf_s hf
      exact wm_iret C dX12_as_29 (Nat.zero_le _) (Nat.zero_le _) FD.rf
  · have hf := ite_f h4 hf
    refine wm_aload_n C dX12_as_8 0 rfl (pc' := 9) rfl ?_
    refine wm_ikonst (v := (-1)) C dX12_as_9 (by decide) (pc' := 10) rfl ?_
    obtain ⟨r26, s27, h28, hf⟩ := bnd_s hf
    refine wm_callVd (nn := 1) (As := [.int (-1)]) (rest := []) (st' := [.int r26]) C dX12_as_10 (kX12_refused l D τ q s2 (-1) r26 s27 h28) gX12_as_X12_refused rfl (by decide +kernel) ⟨Nat.le_of_ble_eq_true rfl, Nat.le_of_ble_eq_true rfl⟩ rfl rfl ⟨Nat.zero_le _, Nat.zero_le _⟩ 0 rfl rfl rfl rfl (Nat.le_of_ble_eq_true rfl) rfl (pc' := 13) rfl ?_
    obtain ⟨rfl, rfl⟩ := leaf_s hf
    exact wm_iret C dX12_as_13 (Nat.zero_le _) (Nat.zero_le _) FD.rf
def fX12_trace (σ : MS) : Option (Int32 × MS) :=
  some (gI σ 38, σ)
theorem in_X12_trace : ∀ w ∈ u_ws RX12 TX12 39, w ∈ wsX12_trace := by decide +kernel
set_option maxHeartbeats 4000000 in
set_option maxRecDepth 100000 in
theorem kX12_trace (l : Launch) (D : va_G) (τ : CId) (q : Nat → Nat) (σ : MS) (rE : Int32) (sE : MS) (hf : fX12_trace σ = some (rE, sE)) : Ct l D τ yX12_trace wsX12_trace { frames := 0, cells := 0, slots := 0, locals := 0 } [.ref (q 0)] (mW τ q σ) (FD (mW τ q sE) (some (.int rE))) := by
  unfold fX12_trace at hf
  refine ct_of (cc := cX12_trace) (maxL := 1) (ret := (some .int)) (by decide) rfl (Nat.le_of_ble_eq_true rfl) (fun Γ C => ?_)
  refine wm_lv (lv' := [(0, .ref (q 0))]) rfl ?_
  refine wm_aload_n C dX12_trace_0 0 rfl (pc' := 1) rfl ?_
  refine m_get (v := .int (gI σ 38)) C dX12_trace_1 in_X12_trace 38 (by decide) (by decide +kernel) rfl rfl (pc' := 4) rfl ?_
  obtain ⟨rfl, rfl⟩ := leaf_s hf
  exact wm_iret C dX12_trace_4 (Nat.zero_le _) (Nat.zero_le _) FD.rf
def fX12_fault (σ : MS) : Option (Int32 × MS) :=
  some (gI σ 0, σ)
theorem in_X12_fault : ∀ w ∈ u_ws RX12 TX12 39, w ∈ wsX12_fault := by decide +kernel
set_option maxHeartbeats 4000000 in
set_option maxRecDepth 100000 in
theorem kX12_fault (l : Launch) (D : va_G) (τ : CId) (q : Nat → Nat) (σ : MS) (rE : Int32) (sE : MS) (hf : fX12_fault σ = some (rE, sE)) : Ct l D τ yX12_fault wsX12_fault { frames := 0, cells := 0, slots := 0, locals := 0 } [.ref (q 0)] (mW τ q σ) (FD (mW τ q sE) (some (.int rE))) := by
  unfold fX12_fault at hf
  refine ct_of (cc := cX12_fault) (maxL := 1) (ret := (some .int)) (by decide) rfl (Nat.le_of_ble_eq_true rfl) (fun Γ C => ?_)
  refine wm_lv (lv' := [(0, .ref (q 0))]) rfl ?_
  refine wm_aload_n C dX12_fault_0 0 rfl (pc' := 1) rfl ?_
  refine m_get (v := .int (gI σ 0)) C dX12_fault_1 in_X12_fault 0 (by decide) (by decide +kernel) rfl rfl (pc' := 4) rfl ?_
  obtain ⟨rfl, rfl⟩ := leaf_s hf
  exact wm_iret C dX12_fault_4 (Nat.zero_le _) (Nat.zero_le _) FD.rf
