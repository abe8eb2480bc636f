def fX12_findEnds_J96 (rec : Int32 → MS → Option (Unit × MS)) (x1 : Int32) (t0 : Int32) (s : MS) : Option (Unit × MS) :=
  lets (sI s 24 t0) (fun s12 => rec (x1 + 1) s12)
def fX12_findEnds_J92 (rec : Int32 → MS → Option (Unit × MS)) (x1 : Int32) (s : MS) : Option (Unit × MS) :=
  fX12_findEnds_J96 (rec) x1 (gI s 24) s
def fX12_findEnds_J57 (rec : Int32 → MS → Option (Unit × MS)) (x1 : Int32) (t0 : Int32) (s : MS) : Option (Unit × MS) :=
  lets (sI s 23 t0) (fun s8 => if ¬ (x1 < 0 ∨ 6 ≤ x1.toNatClampNeg) then if (gA s8 2 x1.toNatClampNeg) = 0 then fX12_findEnds_J92 (rec) x1 s8 else if ¬ (x1 < 0 ∨ 6 ≤ x1.toNatClampNeg) then if (gI s8 24) ≤ (gA s8 3 x1.toNatClampNeg) then fX12_findEnds_J92 (rec) x1 s8 else if ¬ (x1 < 0 ∨ 6 ≤ x1.toNatClampNeg) then fX12_findEnds_J96 (rec) x1 (gA s8 3 x1.toNatClampNeg) s8 else none else none else none)
def fX12_findEnds_J53 (rec : Int32 → MS → Option (Unit × MS)) (x1 : Int32) (s : MS) : Option (Unit × MS) :=
  fX12_findEnds_J57 (rec) x1 (gI s 23) s
def fX12_findEnds_L13 : Nat → Int32 → MS → Option (Unit × MS)
  | 0, _, _ => none
  | fu + 1, x1, s => if (gI s 1) ≤ x1 then some ((), s) else if ¬ (x1 < 0 ∨ 6 ≤ x1.toNatClampNeg) then if (gA s 2 x1.toNatClampNeg) = 0 then fX12_findEnds_J53 (fX12_findEnds_L13 fu) x1 s else if ¬ (x1 < 0 ∨ 6 ≤ x1.toNatClampNeg) then if (gA s 3 x1.toNatClampNeg) ≤ (gI s 23) then fX12_findEnds_J53 (fX12_findEnds_L13 fu) x1 s else if ¬ (x1 < 0 ∨ 6 ≤ x1.toNatClampNeg) then fX12_findEnds_J57 (fX12_findEnds_L13 fu) x1 (gA s 3 x1.toNatClampNeg) s else none else none else none
theorem fX12_findEnds_L13_s (fu : Nat) (x1 : Int32) (s : MS) : fX12_findEnds_L13 (fu + 1) x1 s = (if (gI s 1) ≤ x1 then some ((), s) else if ¬ (x1 < 0 ∨ 6 ≤ x1.toNatClampNeg) then if (gA s 2 x1.toNatClampNeg) = 0 then fX12_findEnds_J53 (fX12_findEnds_L13 fu) x1 s else if ¬ (x1 < 0 ∨ 6 ≤ x1.toNatClampNeg) then if (gA s 3 x1.toNatClampNeg) ≤ (gI s 23) then fX12_findEnds_J53 (fX12_findEnds_L13 fu) x1 s else if ¬ (x1 < 0 ∨ 6 ≤ x1.toNatClampNeg) then fX12_findEnds_J57 (fX12_findEnds_L13 fu) x1 (gA s 3 x1.toNatClampNeg) s else none else none else none) := rfl
def fX12_findEnds (σ : MS) : Option (Int32 × MS) :=
  lets (sI σ 23 (-1)) (fun s1 => lets (sI s1 24 101) (fun s3 => bnd (fX12_findEnds_L13 FU 0 s3) (fun v20 s21 => if (gI s21 23) ≤ (gI s21 24) then some (0, s21) else some (1, s21))))
theorem in_X12_findEnds : ∀ w ∈ u_ws RX12 TX12 39, w ∈ wsX12_findEnds := by decide +kernel
set_option maxHeartbeats 4000000 in
set_option maxRecDepth 100000 in
theorem kX12_findEnds (l : Launch) (D : va_G) (τ : CId) (q : Nat → Nat) (σ : MS) (rE : Int32) (sE : MS) (hf : fX12_findEnds σ = some (rE, sE)) : Ct l D τ yX12_findEnds wsX12_findEnds { frames := 0, cells := 0, slots := 0, locals := 0 } [.ref (q 0)] (mW τ q σ) (FD (mW τ q sE) (some (.int rE))) := by
  unfold fX12_findEnds at hf
  refine ct_of (cc := cX12_findEnds) (maxL := 2) (ret := (some .boolean)) (by decide) rfl (Nat.le_of_ble_eq_true rfl) (fun Γ C => ?_)
  refine wm_lv (lv' := [(0, .ref (q 0))]) rfl ?_
  have wL_13 : ∀ (fu : Nat) (x1 : Int32) (s : MS) (v : Unit) (s' : MS), fX12_findEnds_L13 fu x1 s = some (v, s') → WM l D Γ 2 0 0 (mW τ q s') 105 [(0, .ref (q 0))] [] → WM l D Γ 2 0 0 (mW τ q s) 13 [(0, .ref (q 0)), (1, .int x1)] [] := by
    intro fu
    induction fu with
    | zero => intro x1 s v s' hf hE; exact absurd hf (fun h => nomatch (show (none : Option _) = some _ from h))
    | succ fu ih =>
      intro x1 s v s' hf hE
      rw [fX12_findEnds_L13_s] at hf
      have wJ_96 : ∀ (x1 : Int32) (t0 : Int32) (s : MS) (v : Unit) (s' : MS), fX12_findEnds_J96 (fX12_findEnds_L13 fu) x1 t0 s = some (v, s') → WM l D Γ 2 0 0 (mW τ q s') 105 [(0, .ref (q 0))] [] → WM l D Γ 2 0 0 (mW τ q s) 96 [(0, .ref (q 0)), (1, .int x1)] [.int t0, .ref (q 0)] := by
        intro x1 t0 s v s' hf hE
        unfold fX12_findEnds_J96 at hf
        obtain ⟨s12, e13, hf⟩ := lets_s hf
        refine m_putI C dX12_findEnds_96 in_X12_findEnds 24 (by decide) (by decide +kernel) rfl rfl rfl mL_24 mI_24 e13 (pc' := 99) rfl ?_
        refine wm_iinc (v := x1 + 1) (lv' := [(1, .int (x1 + 1)), (0, .ref (q 0))]) C dX12_findEnds_99 1 rfl rfl (by decide) rfl (pc' := 102) rfl ?_
        refine wm_goto C dX12_findEnds_102 13 (by decide) ?_
        refine wm_sub (lv' := [(0, .ref (q 0)), (1, .int (x1 + 1))]) [1, 0] rfl ?_
        exact ih (x1 + 1) s12 _ _ hf hE
      have wJ_92 : ∀ (x1 : Int32) (s : MS) (v : Unit) (s' : MS), fX12_findEnds_J92 (fX12_findEnds_L13 fu) x1 s = some (v, s') → WM l D Γ 2 0 0 (mW τ q s') 105 [(0, .ref (q 0))] [] → WM l D Γ 2 0 0 (mW τ q s) 92 [(0, .ref (q 0)), (1, .int x1)] [.ref (q 0)] := by
        intro x1 s v s' hf hE
        unfold fX12_findEnds_J92 at hf
        refine wm_aload_n C dX12_findEnds_92 0 rfl (pc' := 93) rfl ?_
        refine m_get (v := .int (gI s 24)) C dX12_findEnds_93 in_X12_findEnds 24 (by decide) (by decide +kernel) rfl rfl (pc' := 96) rfl ?_
        exact wJ_96 x1 (gI s 24) s _ _ hf hE
      have wJ_57 : ∀ (x1 : Int32) (t0 : Int32) (s : MS) (v : Unit) (s' : MS), fX12_findEnds_J57 (fX12_findEnds_L13 fu) x1 t0 s = some (v, s') → WM l D Γ 2 0 0 (mW τ q s') 105 [(0, .ref (q 0))] [] → WM l D Γ 2 0 0 (mW τ q s) 57 [(0, .ref (q 0)), (1, .int x1)] [.int t0, .ref (q 0)] := by
        intro x1 t0 s v s' hf hE
        unfold fX12_findEnds_J57 at hf
        obtain ⟨s8, e9, hf⟩ := lets_s hf
        refine m_putI C dX12_findEnds_57 in_X12_findEnds 23 (by decide) (by decide +kernel) rfl rfl rfl mL_23 mI_23 e9 (pc' := 60) rfl ?_
        refine wm_aload_n C dX12_findEnds_60 0 rfl (pc' := 61) rfl ?_
        refine wm_aload_n C dX12_findEnds_61 0 rfl (pc' := 62) rfl ?_
        refine m_get (v := .ref (q 2)) C dX12_findEnds_62 in_X12_findEnds 2 (by decide) (by decide +kernel) rfl rfl (pc' := 65) rfl ?_
        refine wm_iload_n C dX12_findEnds_65 1 rfl (pc' := 66) rfl ?_
        obtain ⟨h10, hf⟩ := chk_s hf
        refine wm_zald (f := gA s8 2) (N := 6) (cA := τ.2.2.1) C dX12_findEnds_66 1 mA_2 rfl h10 (pc' := 67) rfl ?_
        refine wm_if_eq C dX12_findEnds_67 92 (by decide) (pc' := 70) rfl (fun h11 => ?_) (fun h11 => ?_)
        · have hf := ite_t h11 hf
          exact wJ_92 x1 s8 _ _ hf hE
        · have hf := ite_f h11 hf
          refine wm_aload_n C dX12_findEnds_70 0 rfl (pc' := 71) rfl ?_
          refine m_get (v := .ref (q 3)) C dX12_findEnds_71 in_X12_findEnds 3 (by decide) (by decide +kernel) rfl rfl (pc' := 74) rfl ?_
          refine wm_iload_n C dX12_findEnds_74 1 rfl (pc' := 75) rfl ?_
          obtain ⟨h14, hf⟩ := chk_s hf
          refine wm_iald (f := gA s8 3) (N := 6) (cA := τ.1) C dX12_findEnds_75 2 mA_3 rfl h14 (pc' := 76) rfl ?_
          refine wm_aload_n C dX12_findEnds_76 0 rfl (pc' := 77) rfl ?_
          refine m_get (v := .int (gI s8 24)) C dX12_findEnds_77 in_X12_findEnds 24 (by decide) (by decide +kernel) rfl rfl (pc' := 80) rfl ?_
          refine wm_icmp_ge C dX12_findEnds_80 92 (by decide) (pc' := 83) rfl (fun h15 => ?_) (fun h15 => ?_)
          · have hf := ite_t h15 hf
            exact wJ_92 x1 s8 _ _ hf hE
          · have hf := ite_f h15 hf
            refine wm_aload_n C dX12_findEnds_83 0 rfl (pc' := 84) rfl ?_
            refine m_get (v := .ref (q 3)) C dX12_findEnds_84 in_X12_findEnds 3 (by decide) (by decide +kernel) rfl rfl (pc' := 87) rfl ?_
            refine wm_iload_n C dX12_findEnds_87 1 rfl (pc' := 88) rfl ?_
            obtain ⟨h16, hf⟩ := chk_s hf
            refine wm_iald (f := gA s8 3) (N := 6) (cA := τ.1) C dX12_findEnds_88 2 mA_3 rfl h16 (pc' := 89) rfl ?_
            refine wm_goto C dX12_findEnds_89 96 (by decide) ?_
            exact wJ_96 x1 (gA s8 3 x1.toNatClampNeg) s8 _ _ hf hE
      have wJ_53 : ∀ (x1 : Int32) (s : MS) (v : Unit) (s' : MS), fX12_findEnds_J53 (fX12_findEnds_L13 fu) x1 s = some (v, s') → WM l D Γ 2 0 0 (mW τ q s') 105 [(0, .ref (q 0))] [] → WM l D Γ 2 0 0 (mW τ q s) 53 [(0, .ref (q 0)), (1, .int x1)] [.ref (q 0)] := by
        intro x1 s v s' hf hE
        unfold fX12_findEnds_J53 at hf
        refine wm_aload_n C dX12_findEnds_53 0 rfl (pc' := 54) rfl ?_
        refine m_get (v := .int (gI s 23)) C dX12_findEnds_54 in_X12_findEnds 23 (by decide) (by decide +kernel) rfl rfl (pc' := 57) rfl ?_
        exact wJ_57 x1 (gI s 23) s _ _ hf hE
      refine wm_iload_n C dX12_findEnds_13 1 rfl (pc' := 14) rfl ?_
      refine wm_aload_n C dX12_findEnds_14 0 rfl (pc' := 15) rfl ?_
      refine m_get (v := .int (gI s 1)) C dX12_findEnds_15 in_X12_findEnds 1 (by decide) (by decide +kernel) rfl rfl (pc' := 18) rfl ?_
      refine wm_icmp_ge C dX12_findEnds_18 105 (by decide) (pc' := 21) rfl (fun h5 => ?_) (fun h5 => ?_)
      · have hf := ite_t h5 hf
        obtain ⟨rfl, rfl⟩ := leaf_s hf
        refine wm_sub (lv' := [(0, .ref (q 0))]) [0] rfl ?_
        exact hE
      · have hf := ite_f h5 hf
        refine wm_aload_n C dX12_findEnds_21 0 rfl (pc' := 22) rfl ?_
        refine wm_aload_n C dX12_findEnds_22 0 rfl (pc' := 23) rfl ?_
        refine m_get (v := .ref (q 2)) C dX12_findEnds_23 in_X12_findEnds 2 (by decide) (by decide +kernel) rfl rfl (pc' := 26) rfl ?_
        refine wm_iload_n C dX12_findEnds_26 1 rfl (pc' := 27) rfl ?_
        obtain ⟨h6, hf⟩ := chk_s hf
        refine wm_zald (f := gA s 2) (N := 6) (cA := τ.2.2.1) C dX12_findEnds_27 1 mA_2 rfl h6 (pc' := 28) rfl ?_
        refine wm_if_eq C dX12_findEnds_28 53 (by decide) (pc' := 31) rfl (fun h7 => ?_) (fun h7 => ?_)
        · have hf := ite_t h7 hf
          exact wJ_53 x1 s _ _ hf hE
        · have hf := ite_f h7 hf
          refine wm_aload_n C dX12_findEnds_31 0 rfl (pc' := 32) rfl ?_
          refine m_get (v := .ref (q 3)) C dX12_findEnds_32 in_X12_findEnds 3 (by decide) (by decide +kernel) rfl rfl (pc' := 35) rfl ?_
          refine wm_iload_n C dX12_findEnds_35 1 rfl (pc' := 36) rfl ?_
          obtain ⟨h17, hf⟩ := chk_s hf
          refine wm_iald (f := gA s 3) (N := 6) (cA := τ.1) C dX12_findEnds_36 2 mA_3 rfl h17 (pc' := 37) rfl ?_
          refine wm_aload_n C dX12_findEnds_37 0 rfl (pc' := 38) rfl ?_
          refine m_get (v := .int (gI s 23)) C dX12_findEnds_38 in_X12_findEnds 23 (by decide) (by decide +kernel) rfl rfl (pc' := 41) rfl ?_
          refine wm_icmp_le C dX12_findEnds_41 53 (by decide) (pc' := 44) rfl (fun h18 => ?_) (fun h18 => ?_)
          · have hf := ite_t h18 hf
            exact wJ_53 x1 s _ _ hf hE
          · have hf := ite_f h18 hf
            refine wm_aload_n C dX12_findEnds_44 0 rfl (pc' := 45) rfl ?_
            refine m_get (v := .ref (q 3)) C dX12_findEnds_45 in_X12_findEnds 3 (by decide) (by decide +kernel) rfl rfl (pc' := 48) rfl ?_
            refine wm_iload_n C dX12_findEnds_48 1 rfl (pc' := 49) rfl ?_
            obtain ⟨h19, hf⟩ := chk_s hf
            refine wm_iald (f := gA s 3) (N := 6) (cA := τ.1) C dX12_findEnds_49 2 mA_3 rfl h19 (pc' := 50) rfl ?_
            refine wm_goto C dX12_findEnds_50 57 (by decide) ?_
            exact wJ_57 x1 (gA s 3 x1.toNatClampNeg) s _ _ hf hE
  refine wm_aload_n C dX12_findEnds_0 0 rfl (pc' := 1) rfl ?_
  refine wm_ikonst (v := (-1)) C dX12_findEnds_1 (by decide) (pc' := 2) rfl ?_
  obtain ⟨s1, e2, hf⟩ := lets_s hf
  refine m_putI C dX12_findEnds_2 in_X12_findEnds 23 (by decide) (by decide +kernel) rfl rfl rfl mL_23 mI_23 e2 (pc' := 5) rfl ?_
  refine wm_aload_n C dX12_findEnds_5 0 rfl (pc' := 6) rfl ?_
  refine wm_bipush (v := 101) C dX12_findEnds_6 (by decide) (pc' := 8) rfl ?_
  obtain ⟨s3, e4, hf⟩ := lets_s hf
  refine m_putI C dX12_findEnds_8 in_X12_findEnds 24 (by decide) (by decide +kernel) rfl rfl rfl mL_24 mI_24 e4 (pc' := 11) rfl ?_
  refine wm_ikonst (v := 0) C dX12_findEnds_11 (by decide) (pc' := 12) rfl ?_
  refine wm_istore_n (lv' := [(1, .int 0), (0, .ref (q 0))]) C dX12_findEnds_12 (by decide) rfl (pc' := 13) rfl ?_
  refine wm_sub (lv' := [(0, .ref (q 0)), (1, .int 0)]) [1, 0] rfl ?_
  obtain ⟨v20, s21, h22, hf⟩ := bnd_s hf
  refine wL_13 FU 0 s3 v20 s21 h22 ?_
  refine wm_aload_n C dX12_findEnds_105 0 rfl (pc' := 106) rfl ?_
  refine m_get (v := .int (gI s21 23)) C dX12_findEnds_106 in_X12_findEnds 23 (by decide) (by decide +kernel) rfl rfl (pc' := 109) rfl ?_
  refine wm_aload_n C dX12_findEnds_109 0 rfl (pc' := 110) rfl ?_
  refine m_get (v := .int (gI s21 24)) C dX12_findEnds_110 in_X12_findEnds 24 (by decide) (by decide +kernel) rfl rfl (pc' := 113) rfl ?_
  refine wm_icmp_le C dX12_findEnds_113 120 (by decide) (pc' := 116) rfl (fun h23 => ?_) (fun h23 => ?_)
  · have hf := ite_t h23 hf
    refine wm_ikonst (v := 0) C dX12_findEnds_120 (by decide) (pc' := 121) rfl ?_
    obtain ⟨rfl, rfl⟩ := leaf_s hf
    exact wm_zret C dX12_findEnds_121 (by decide) (Nat.zero_le _) (Nat.zero_le _) FD.rf
  · have hf := ite_f h23 hf
    refine wm_ikonst (v := 1) C dX12_findEnds_116 (by decide) (pc' := 117) rfl ?_
    refine wm_goto C dX12_findEnds_117 121 (by decide) ?_
    obtain ⟨rfl, rfl⟩ := leaf_s hf
    exact wm_zret C dX12_findEnds_121 (by decide) (Nat.zero_le _) (Nat.zero_le _) FD.rf
def fX12_waysFrom_J46 (rec : Int32 → MS → Option (Unit × MS)) (x1 : Int32) (x2 : Int32) (x3 : Int32) (x4 : Int32) (x5 : Int32) (t0 : Int32) (t1 : Int32) (s : MS) : Option (Unit × MS) :=
  if ¬ (t1 < 0 ∨ 6 ≤ t1.toNatClampNeg) then lets (sA s 27 t1.toNatClampNeg (vp_nar .boolean t0)) (fun s10 => rec (x5 + 1) s10) else none
def fX12_waysFrom_L22 (x1 : Int32) (x2 : Int32) (x3 : Int32) (x4 : Int32) : Nat → Int32 → MS → Option (Unit × MS)
  | 0, _, _ => none
  | fu + 1, x5, s => if 6 ≤ x5 then some ((), s) else if ¬ x5 = x1 then fX12_waysFrom_J46 (fX12_waysFrom_L22 x1 x2 x3 x4 fu) x1 x2 x3 x4 x5 0 x5 s else fX12_waysFrom_J46 (fX12_waysFrom_L22 x1 x2 x3 x4 fu) x1 x2 x3 x4 x5 1 x5 s
theorem fX12_waysFrom_L22_s (x1 : Int32) (x2 : Int32) (x3 : Int32) (x4 : Int32) (fu : Nat) (x5 : Int32) (s : MS) : fX12_waysFrom_L22 x1 x2 x3 x4 (fu + 1) x5 s = (if 6 ≤ x5 then some ((), s) else if ¬ x5 = x1 then fX12_waysFrom_J46 (fX12_waysFrom_L22 x1 x2 x3 x4 fu) x1 x2 x3 x4 x5 0 x5 s else fX12_waysFrom_J46 (fX12_waysFrom_L22 x1 x2 x3 x4 fu) x1 x2 x3 x4 x5 1 x5 s) := rfl
def fX12_waysFrom_J188 (rec : Int32 → Int32 → MS → Option ((Int32 × Int32) × MS)) (x2 : Int32) (x3 : Int32) (x4 : Int32) (x5 : Int32) (x7 : Int32) (t0 : Int32) (t1 : Int32) (s : MS) : Option ((Int32 × Int32) × MS) :=
  rec (t1 + t0) x7 s
def fX12_waysFrom_J174 (rec : Int32 → Int32 → MS → Option ((Int32 × Int32) × MS)) (x2 : Int32) (x3 : Int32) (x4 : Int32) (x5 : Int32) (x6 : Int32) (t0 : Int32) (s : MS) : Option ((Int32 × Int32) × MS) :=
  if 0 ≤ t0 then fX12_waysFrom_J188 (rec) x2 x3 x4 x5 t0 0 x6 s else fX12_waysFrom_J188 (rec) x2 x3 x4 x5 t0 1 x6 s
def fX12_waysFrom_J173 (rec : Int32 → Int32 → MS → Option ((Int32 × Int32) × MS)) (x2 : Int32) (x3 : Int32) (x4 : Int32) (x5 : Int32) (x6 : Int32) (s : MS) : Option ((Int32 × Int32) × MS) :=
  fX12_waysFrom_J174 (rec) x2 x3 x4 x5 x6 (-1) s
def fX12_waysFrom_J140 (rec : Int32 → Int32 → MS → Option ((Int32 × Int32) × MS)) (x2 : Int32) (x3 : Int32) (x4 : Int32) (x5 : Int32) (x6 : Int32) (t0 : Int32) (s : MS) : Option ((Int32 × Int32) × MS) :=
  if ¬ (x6 < 0 ∨ 12 ≤ x6.toNatClampNeg) then if (gA s 8 x6.toNatClampNeg) < x2 then fX12_waysFrom_J173 (rec) x2 x3 x4 x5 x6 s else if t0 < 0 then fX12_waysFrom_J173 (rec) x2 x3 x4 x5 x6 s else if ¬ (t0 < 0 ∨ 6 ≤ t0.toNatClampNeg) then if ¬ (gA s 27 t0.toNatClampNeg) = 0 then fX12_waysFrom_J173 (rec) x2 x3 x4 x5 x6 s else fX12_waysFrom_J174 (rec) x2 x3 x4 x5 x6 t0 s else none else none
def fX12_waysFrom_L81 (x2 : Int32) (x3 : Int32) (x4 : Int32) (x5 : Int32) : Nat → Int32 → Int32 → MS → Option ((Int32 × Int32) × MS)
  | 0, _, _, _ => none
  | fu + 1, x6, x7, s => if (gI s 4) ≤ x6 then some ((x6, x7), s) else if 0 ≤ x7 then some ((x6, x7), s) else if ¬ (x6 < 0 ∨ 12 ≤ x6.toNatClampNeg) then if ¬ (gA s 5 x6.toNatClampNeg) = x5 then if ¬ (x6 < 0 ∨ 12 ≤ x6.toNatClampNeg) then if ¬ (gA s 6 x6.toNatClampNeg) = x5 then fX12_waysFrom_J140 (fX12_waysFrom_L81 x2 x3 x4 x5 fu) x2 x3 x4 x5 x6 (-1) s else if ¬ (x6 < 0 ∨ 12 ≤ x6.toNatClampNeg) then fX12_waysFrom_J140 (fX12_waysFrom_L81 x2 x3 x4 x5 fu) x2 x3 x4 x5 x6 (gA s 5 x6.toNatClampNeg) s else none else none else if ¬ (x6 < 0 ∨ 12 ≤ x6.toNatClampNeg) then fX12_waysFrom_J140 (fX12_waysFrom_L81 x2 x3 x4 x5 fu) x2 x3 x4 x5 x6 (gA s 6 x6.toNatClampNeg) s else none else none
theorem fX12_waysFrom_L81_s (x2 : Int32) (x3 : Int32) (x4 : Int32) (x5 : Int32) (fu : Nat) (x6 : Int32) (x7 : Int32) (s : MS) : fX12_waysFrom_L81 x2 x3 x4 x5 (fu + 1) x6 x7 s = (if (gI s 4) ≤ x6 then some ((x6, x7), s) else if 0 ≤ x7 then some ((x6, x7), s) else if ¬ (x6 < 0 ∨ 12 ≤ x6.toNatClampNeg) then if ¬ (gA s 5 x6.toNatClampNeg) = x5 then if ¬ (x6 < 0 ∨ 12 ≤ x6.toNatClampNeg) then if ¬ (gA s 6 x6.toNatClampNeg) = x5 then fX12_waysFrom_J140 (fX12_waysFrom_L81 x2 x3 x4 x5 fu) x2 x3 x4 x5 x6 (-1) s else if ¬ (x6 < 0 ∨ 12 ≤ x6.toNatClampNeg) then fX12_waysFrom_J140 (fX12_waysFrom_L81 x2 x3 x4 x5 fu) x2 x3 x4 x5 x6 (gA s 5 x6.toNatClampNeg) s else none else none else if ¬ (x6 < 0 ∨ 12 ≤ x6.toNatClampNeg) then fX12_waysFrom_J140 (fX12_waysFrom_L81 x2 x3 x4 x5 fu) x2 x3 x4 x5 x6 (gA s 6 x6.toNatClampNeg) s else none else none) := rfl
def fX12_waysFrom_J306 (rec : Int32 → Int32 → MS → Option (Int32 × MS)) (x2 : Int32) (x3 : Int32) (x4 : Int32) (s : MS) : Option (Int32 × MS) :=
  rec x3 x4 s
def fX12_waysFrom_J278 (rec : Int32 → Int32 → MS → Option (Int32 × MS)) (x2 : Int32) (x3 : Int32) (x4 : Int32) (x7 : Int32) (s : MS) : Option (Int32 × MS) :=
  if ¬ ((x4 + 1) < 0 ∨ 7 ≤ (x4 + 1).toNatClampNeg) then lets (sA s 25 (x4 + 1).toNatClampNeg x7) (fun s42 => if ¬ ((x4 + 1) < 0 ∨ 7 ≤ (x4 + 1).toNatClampNeg) then lets (sA s42 26 (x4 + 1).toNatClampNeg (-1)) (fun s45 => if ¬ (x7 < 0 ∨ 6 ≤ x7.toNatClampNeg) then lets (sA s45 27 x7.toNatClampNeg (vp_nar .boolean 1)) (fun s48 => fX12_waysFrom_J306 (rec) x2 x3 (x4 + 1) s48) else none) else none) else none
def fX12_waysFrom_L252 (x2 : Int32) (x3 : Int32) (x4 : Int32) (x7 : Int32) : Nat → Int32 → MS → Option (Unit × MS)
  | 0, _, _ => none
  | fu + 1, x8, s => if x4 < x8 then some ((), s) else if ¬ (x8 < 0 ∨ 7 ≤ x8.toNatClampNeg) then if ¬ ((gA s 26 x8.toNatClampNeg) < 0 ∨ 12 ≤ (gA s 26 x8.toNatClampNeg).toNatClampNeg) then lets (sA s 28 (gA s 26 x8.toNatClampNeg).toNatClampNeg (vp_nar .boolean 1)) (fun s55 => fX12_waysFrom_L252 x2 x3 x4 x7 fu (x8 + 1) s55) else none else none
theorem fX12_waysFrom_L252_s (x2 : Int32) (x3 : Int32) (x4 : Int32) (x7 : Int32) (fu : Nat) (x8 : Int32) (s : MS) : fX12_waysFrom_L252 x2 x3 x4 x7 (fu + 1) x8 s = (if x4 < x8 then some ((), s) else if ¬ (x8 < 0 ∨ 7 ≤ x8.toNatClampNeg) then if ¬ ((gA s 26 x8.toNatClampNeg) < 0 ∨ 12 ≤ (gA s 26 x8.toNatClampNeg).toNatClampNeg) then lets (sA s 28 (gA s 26 x8.toNatClampNeg).toNatClampNeg (vp_nar .boolean 1)) (fun s55 => fX12_waysFrom_L252 x2 x3 x4 x7 fu (x8 + 1) s55) else none else none) := rfl
def fX12_waysFrom_L53 (x2 : Int32) : Nat → Int32 → Int32 → MS → Option (Int32 × MS)
  | 0, _, _, _ => none
  | fu + 1, x3, x4, s => if x4 < 0 then some (x3, s) else if ¬ (x4 < 0 ∨ 7 ≤ x4.toNatClampNeg) then if ¬ (x4 < 0 ∨ 7 ≤ x4.toNatClampNeg) then bnd (fX12_waysFrom_L81 x2 x3 x4 (gA s 25 x4.toNatClampNeg) FU ((gA s 26 x4.toNatClampNeg) + 1) (-1) s) (fun v32 s33 => if ¬ (x4 < 0 ∨ 7 ≤ x4.toNatClampNeg) then lets (sA s33 26 x4.toNatClampNeg v32.1) (fun s36 => if 0 ≤ v32.2 then if ¬ (v32.2 < 0 ∨ 6 ≤ v32.2.toNatClampNeg) then if (gA s36 2 v32.2.toNatClampNeg) = 0 then fX12_waysFrom_J278 (fX12_waysFrom_L53 x2 fu) x2 x3 x4 v32.2 s36 else if ¬ (v32.2 < 0 ∨ 6 ≤ v32.2.toNatClampNeg) then if ¬ (gA s36 3 v32.2.toNatClampNeg) = (gI s36 24) then fX12_waysFrom_J278 (fX12_waysFrom_L53 x2 fu) x2 x3 x4 v32.2 s36 else bnd (fX12_waysFrom_L252 x2 (x3 + 1) x4 v32.2 FU 0 s36) (fun v57 s58 => fX12_waysFrom_J278 (fX12_waysFrom_L53 x2 fu) x2 (x3 + 1) x4 v32.2 s58) else none else none else if ¬ ((gA s 25 x4.toNatClampNeg) < 0 ∨ 6 ≤ (gA s 25 x4.toNatClampNeg).toNatClampNeg) then lets (sA s36 27 (gA s 25 x4.toNatClampNeg).toNatClampNeg (vp_nar .boolean 0)) (fun s61 => fX12_waysFrom_J306 (fX12_waysFrom_L53 x2 fu) x2 x3 (x4 + (-1)) s61) else none) else none) else none else none
theorem fX12_waysFrom_L53_s (x2 : Int32) (fu : Nat) (x3 : Int32) (x4 : Int32) (s : MS) : fX12_waysFrom_L53 x2 (fu + 1) x3 x4 s = (if x4 < 0 then some (x3, s) else if ¬ (x4 < 0 ∨ 7 ≤ x4.toNatClampNeg) then if ¬ (x4 < 0 ∨ 7 ≤ x4.toNatClampNeg) then bnd (fX12_waysFrom_L81 x2 x3 x4 (gA s 25 x4.toNatClampNeg) FU ((gA s 26 x4.toNatClampNeg) + 1) (-1) s) (fun v32 s33 => if ¬ (x4 < 0 ∨ 7 ≤ x4.toNatClampNeg) then lets (sA s33 26 x4.toNatClampNeg v32.1) (fun s36 => if 0 ≤ v32.2 then if ¬ (v32.2 < 0 ∨ 6 ≤ v32.2.toNatClampNeg) then if (gA s36 2 v32.2.toNatClampNeg) = 0 then fX12_waysFrom_J278 (fX12_waysFrom_L53 x2 fu) x2 x3 x4 v32.2 s36 else if ¬ (v32.2 < 0 ∨ 6 ≤ v32.2.toNatClampNeg) then if ¬ (gA s36 3 v32.2.toNatClampNeg) = (gI s36 24) then fX12_waysFrom_J278 (fX12_waysFrom_L53 x2 fu) x2 x3 x4 v32.2 s36 else bnd (fX12_waysFrom_L252 x2 (x3 + 1) x4 v32.2 FU 0 s36) (fun v57 s58 => fX12_waysFrom_J278 (fX12_waysFrom_L53 x2 fu) x2 (x3 + 1) x4 v32.2 s58) else none else none else if ¬ ((gA s 25 x4.toNatClampNeg) < 0 ∨ 6 ≤ (gA s 25 x4.toNatClampNeg).toNatClampNeg) then lets (sA s36 27 (gA s 25 x4.toNatClampNeg).toNatClampNeg (vp_nar .boolean 0)) (fun s61 => fX12_waysFrom_J306 (fX12_waysFrom_L53 x2 fu) x2 x3 (x4 + (-1)) s61) else none) else none) else none else none) := rfl
def fX12_waysFrom (x1 : Int32) (x2 : Int32) (σ : MS) : Option (Int32 × MS) :=
  if ¬ ((0 : Int32) < 0 ∨ 7 ≤ (0 : Int32).toNatClampNeg) then lets (sA σ 25 (0 : Int32).toNatClampNeg x1) (fun s2 => if ¬ ((0 : Int32) < 0 ∨ 7 ≤ (0 : Int32).toNatClampNeg) then lets (sA s2 26 (0 : Int32).toNatClampNeg (-1)) (fun s5 => bnd (fX12_waysFrom_L22 x1 x2 0 0 FU 0 s5) (fun v12 s13 => bnd (fX12_waysFrom_L53 x2 FU 0 0 s13) (fun v63 s64 => some (v63, s64)))) else none) else none
theorem in_X12_waysFrom : ∀ w ∈ u_ws RX12 TX12 39, w ∈ wsX12_waysFrom := by decide +kernel
set_option maxHeartbeats 4000000 in
set_option maxRecDepth 100000 in
theorem kX12_waysFrom (l : Launch) (D : va_G) (τ : CId) (q : Nat → Nat) (σ : MS) (x1 : Int32) (x2 : Int32) (rE : Int32) (sE : MS) (hf : fX12_waysFrom x1 x2 σ = some (rE, sE)) : Ct l D τ yX12_waysFrom wsX12_waysFrom { frames := 0, cells := 0, slots := 0, locals := 0 } [.ref (q 0), .int x1, .int x2] (mW τ q σ) (FD (mW τ q sE) (some (.int rE))) := by
  unfold fX12_waysFrom at hf
  refine ct_of (cc := cX12_waysFrom) (maxL := 9) (ret := (some .int)) (by decide) rfl (Nat.le_of_ble_eq_true rfl) (fun Γ C => ?_)
  refine wm_lv (lv' := [(0, .ref (q 0)), (1, .int x1), (2, .int x2)]) rfl ?_
  have wL_22 : ∀ (x1 : Int32) (x2 : Int32) (x3 : Int32) (x4 : Int32) (fu : Nat) (x5 : Int32) (s : MS) (v : Unit) (s' : MS), fX12_waysFrom_L22 x1 x2 x3 x4 fu x5 s = some (v, s') → WM l D Γ 9 0 0 (mW τ q s') 53 [(0, .ref (q 0)), (2, .int x2), (3, .int x3), (4, .int x4)] [] → WM l D Γ 9 0 0 (mW τ q s) 22 [(0, .ref (q 0)), (1, .int x1), (2, .int x2), (3, .int x3), (4, .int x4), (5, .int x5)] [] := by
    intro x1 x2 x3 x4
    intro fu
    induction fu with
    | zero => intro x5 s v s' hf hE; exact absurd hf (fun h => nomatch (show (none : Option _) = some _ from h))
    | succ fu ih =>
      intro x5 s v s' hf hE
      rw [fX12_waysFrom_L22_s] at hf
      have wJ_46 : ∀ (x5 : Int32) (t0 : Int32) (t1 : Int32) (s : MS) (v : Unit) (s' : MS), fX12_waysFrom_J46 (fX12_waysFrom_L22 x1 x2 x3 x4 fu) x1 x2 x3 x4 x5 t0 t1 s = some (v, s') → WM l D Γ 9 0 0 (mW τ q s') 53 [(0, .ref (q 0)), (2, .int x2), (3, .int x3), (4, .int x4)] [] → WM l D Γ 9 0 0 (mW τ q s) 46 [(0, .ref (q 0)), (1, .int x1), (2, .int x2), (3, .int x3), (4, .int x4), (5, .int x5)] [.int t0, .int t1, .ref (q 27)] := by
        intro x5 t0 t1 s v s' hf hE
        unfold fX12_waysFrom_J46 at hf
        obtain ⟨h9, hf⟩ := chk_s hf
        obtain ⟨s10, e11, hf⟩ := lets_s hf
        refine wm_zast (f := gA s 27) (N := 6) (cA := τ.2.2.1) C dX12_waysFrom_46 19 mA_27 rfl h9 (Wd' := mW τ q s10) ((mS_27 _ _).trans (congrArg (mW τ q) e11.symm)) (pc' := 47) rfl ?_
        refine wm_iinc (v := x5 + 1) (lv' := [(5, .int (x5 + 1)), (0, .ref (q 0)), (1, .int x1), (2, .int x2), (3, .int x3), (4, .int x4)]) C dX12_waysFrom_47 5 rfl rfl (by decide) rfl (pc' := 50) rfl ?_
        refine wm_goto C dX12_waysFrom_50 22 (by decide) ?_
        refine wm_sub (lv' := [(0, .ref (q 0)), (1, .int x1), (2, .int x2), (3, .int x3), (4, .int x4), (5, .int (x5 + 1))]) [1, 2, 3, 4, 5, 0] rfl ?_
        exact ih (x5 + 1) s10 _ _ hf hE
      refine wm_iload C dX12_waysFrom_22 5 rfl (pc' := 24) rfl ?_
      refine wm_bipush (v := 6) C dX12_waysFrom_24 (by decide) (pc' := 26) rfl ?_
      refine wm_icmp_ge C dX12_waysFrom_26 53 (by decide) (pc' := 29) rfl (fun h7 => ?_) (fun h7 => ?_)
      · have hf := ite_t h7 hf
        obtain ⟨rfl, rfl⟩ := leaf_s hf
        refine wm_sub (lv' := [(0, .ref (q 0)), (2, .int x2), (3, .int x3), (4, .int x4)]) [0, 2, 3, 4] rfl ?_
        exact hE
      · have hf := ite_f h7 hf
        refine wm_aload_n C dX12_waysFrom_29 0 rfl (pc' := 30) rfl ?_
        refine m_get (v := .ref (q 27)) C dX12_waysFrom_30 in_X12_waysFrom 27 (by decide) (by decide +kernel) rfl rfl (pc' := 33) rfl ?_
        refine wm_iload C dX12_waysFrom_33 5 rfl (pc' := 35) rfl ?_
        refine wm_iload C dX12_waysFrom_35 5 rfl (pc' := 37) rfl ?_
        refine wm_iload_n C dX12_waysFrom_37 1 rfl (pc' := 38) rfl ?_
        refine wm_icmp_ne C dX12_waysFrom_38 45 (by decide) (pc' := 41) rfl (fun h8 => ?_) (fun h8 => ?_)
        · have hf := ite_t h8 hf
          refine wm_ikonst (v := 0) C dX12_waysFrom_45 (by decide) (pc' := 46) rfl ?_
          exact wJ_46 x5 0 x5 s _ _ hf hE
        · have hf := ite_f (fun h => h h8) hf
          refine wm_ikonst (v := 1) C dX12_waysFrom_41 (by decide) (pc' := 42) rfl ?_
          refine wm_goto C dX12_waysFrom_42 46 (by decide) ?_
          exact wJ_46 x5 1 x5 s _ _ hf hE
  have wL_81 : ∀ (x2 : Int32) (x3 : Int32) (x4 : Int32) (x5 : Int32) (fu : Nat) (x6 : Int32) (x7 : Int32) (s : MS) (v : (Int32 × Int32)) (s' : MS), fX12_waysFrom_L81 x2 x3 x4 x5 fu x6 x7 s = some (v, s') → WM l D Γ 9 0 0 (mW τ q s') 194 [(0, .ref (q 0)), (2, .int x2), (3, .int x3), (4, .int x4), (5, .int x5), (6, .int v.1), (7, .int v.2)] [] → WM l D Γ 9 0 0 (mW τ q s) 81 [(0, .ref (q 0)), (2, .int x2), (3, .int x3), (4, .int x4), (5, .int x5), (6, .int x6), (7, .int x7)] [] := by
    intro x2 x3 x4 x5
    intro fu
    induction fu with
    | zero => intro x6 x7 s v s' hf hE; exact absurd hf (fun h => nomatch (show (none : Option _) = some _ from h))
    | succ fu ih =>
      intro x6 x7 s v s' hf hE
      rw [fX12_waysFrom_L81_s] at hf
      have wJ_188 : ∀ (x7 : Int32) (t0 : Int32) (t1 : Int32) (s : MS) (v : (Int32 × Int32)) (s' : MS), fX12_waysFrom_J188 (fX12_waysFrom_L81 x2 x3 x4 x5 fu) x2 x3 x4 x5 x7 t0 t1 s = some (v, s') → WM l D Γ 9 0 0 (mW τ q s') 194 [(0, .ref (q 0)), (2, .int x2), (3, .int x3), (4, .int x4), (5, .int x5), (6, .int v.1), (7, .int v.2)] [] → WM l D Γ 9 0 0 (mW τ q s) 188 [(0, .ref (q 0)), (2, .int x2), (3, .int x3), (4, .int x4), (5, .int x5), (7, .int x7)] [.int t0, .int t1] := by
        intro x7 t0 t1 s v s' hf hE
        unfold fX12_waysFrom_J188 at hf
        refine wm_iadd C dX12_waysFrom_188 (pc' := 189) rfl ?_
        refine wm_istore (lv' := [(6, .int (t1 + t0)), (0, .ref (q 0)), (2, .int x2), (3, .int x3), (4, .int x4), (5, .int x5), (7, .int x7)]) C dX12_waysFrom_189 (by decide) rfl (pc' := 191) rfl ?_
        refine wm_goto C dX12_waysFrom_191 81 (by decide) ?_
        refine wm_sub (lv' := [(0, .ref (q 0)), (2, .int x2), (3, .int x3), (4, .int x4), (5, .int x5), (6, .int (t1 + t0)), (7, .int x7)]) [1, 2, 3, 4, 5, 0, 6] rfl ?_
        exact ih (t1 + t0) x7 s _ _ hf hE
      have wJ_174 : ∀ (x6 : Int32) (t0 : Int32) (s : MS) (v : (Int32 × Int32)) (s' : MS), fX12_waysFrom_J174 (fX12_waysFrom_L81 x2 x3 x4 x5 fu) x2 x3 x4 x5 x6 t0 s = some (v, s') → WM l D Γ 9 0 0 (mW τ q s') 194 [(0, .ref (q 0)), (2, .int x2), (3, .int x3), (4, .int x4), (5, .int x5), (6, .int v.1), (7, .int v.2)] [] → WM l D Γ 9 0 0 (mW τ q s) 174 [(0, .ref (q 0)), (2, .int x2), (3, .int x3), (4, .int x4), (5, .int x5), (6, .int x6)] [.int t0] := by
        intro x6 t0 s v s' hf hE
        unfold fX12_waysFrom_J174 at hf
        refine wm_istore (lv' := [(7, .int t0), (0, .ref (q 0)), (2, .int x2), (3, .int x3), (4, .int x4), (5, .int x5), (6, .int x6)]) C dX12_waysFrom_174 (by decide) rfl (pc' := 176) rfl ?_
        refine wm_iload C dX12_waysFrom_176 6 rfl (pc' := 178) rfl ?_
        refine wm_iload C dX12_waysFrom_178 0 rfl (pc' := 180) rfl ?_
        refine wm_if_ge C dX12_waysFrom_180 187 (by decide) (pc' := 183) rfl (fun h26 => ?_) (fun h26 => ?_)
        · have hf := ite_t h26 hf
          refine wm_ikonst (v := 0) C dX12_waysFrom_187 (by decide) (pc' := 188) rfl ?_
          refine wm_sub (lv' := [(0, .ref (q 0)), (2, .int x2), (3, .int x3), (4, .int x4), (5, .int x5), (7, .int t0)]) [1, 2, 3, 4, 5, 0] rfl ?_
          exact wJ_188 t0 0 x6 s _ _ hf hE
        · have hf := ite_f h26 hf
          refine wm_ikonst (v := 1) C dX12_waysFrom_183 (by decide) (pc' := 184) rfl ?_
          refine wm_goto C dX12_waysFrom_184 188 (by decide) ?_
          refine wm_sub (lv' := [(0, .ref (q 0)), (2, .int x2), (3, .int x3), (4, .int x4), (5, .int x5), (7, .int t0)]) [1, 2, 3, 4, 5, 0] rfl ?_
          exact wJ_188 t0 1 x6 s _ _ hf hE
      have wJ_173 : ∀ (x6 : Int32) (s : MS) (v : (Int32 × Int32)) (s' : MS), fX12_waysFrom_J173 (fX12_waysFrom_L81 x2 x3 x4 x5 fu) x2 x3 x4 x5 x6 s = some (v, s') → WM l D Γ 9 0 0 (mW τ q s') 194 [(0, .ref (q 0)), (2, .int x2), (3, .int x3), (4, .int x4), (5, .int x5), (6, .int v.1), (7, .int v.2)] [] → WM l D Γ 9 0 0 (mW τ q s) 173 [(0, .ref (q 0)), (2, .int x2), (3, .int x3), (4, .int x4), (5, .int x5), (6, .int x6)] [] := by
        intro x6 s v s' hf hE
        unfold fX12_waysFrom_J173 at hf
        refine wm_ikonst (v := (-1)) C dX12_waysFrom_173 (by decide) (pc' := 174) rfl ?_
        exact wJ_174 x6 (-1) s _ _ hf hE
      have wJ_140 : ∀ (x6 : Int32) (t0 : Int32) (s : MS) (v : (Int32 × Int32)) (s' : MS), fX12_waysFrom_J140 (fX12_waysFrom_L81 x2 x3 x4 x5 fu) x2 x3 x4 x5 x6 t0 s = some (v, s') → WM l D Γ 9 0 0 (mW τ q s') 194 [(0, .ref (q 0)), (2, .int x2), (3, .int x3), (4, .int x4), (5, .int x5), (6, .int v.1), (7, .int v.2)] [] → WM l D Γ 9 0 0 (mW τ q s) 140 [(0, .ref (q 0)), (2, .int x2), (3, .int x3), (4, .int x4), (5, .int x5), (6, .int x6)] [.int t0] := by
        intro x6 t0 s v s' hf hE
        unfold fX12_waysFrom_J140 at hf
        refine wm_istore (lv' := [(8, .int t0), (0, .ref (q 0)), (2, .int x2), (3, .int x3), (4, .int x4), (5, .int x5), (6, .int x6)]) C dX12_waysFrom_140 (by decide) rfl (pc' := 142) rfl ?_
        refine wm_aload_n C dX12_waysFrom_142 1 rfl (pc' := 143) rfl ?_
        refine m_get (v := .ref (q 8)) C dX12_waysFrom_143 in_X12_waysFrom 8 (by decide) (by decide +kernel) rfl rfl (pc' := 146) rfl ?_
        refine wm_iload C dX12_waysFrom_146 6 rfl (pc' := 148) rfl ?_
        obtain ⟨h24, hf⟩ := chk_s hf
        refine wm_iald (f := gA s 8) (N := 12) (cA := τ.1) C dX12_waysFrom_148 6 mA_8 rfl h24 (pc' := 149) rfl ?_
        refine wm_iload_n C dX12_waysFrom_149 2 rfl (pc' := 150) rfl ?_
        refine wm_icmp_lt C dX12_waysFrom_150 173 (by decide) (pc' := 153) rfl (fun h25 => ?_) (fun h25 => ?_)
        · have hf := ite_t h25 hf
          refine wm_sub (lv' := [(0, .ref (q 0)), (2, .int x2), (3, .int x3), (4, .int x4), (5, .int x5), (6, .int x6)]) [1, 2, 3, 4, 5, 6] rfl ?_
          exact wJ_173 x6 s _ _ hf hE
        · have hf := ite_f h25 hf
          refine wm_iload C dX12_waysFrom_153 0 rfl (pc' := 155) rfl ?_
          refine wm_if_lt C dX12_waysFrom_155 173 (by decide) (pc' := 158) rfl (fun h27 => ?_) (fun h27 => ?_)
          · have hf := ite_t h27 hf
            refine wm_sub (lv' := [(0, .ref (q 0)), (2, .int x2), (3, .int x3), (4, .int x4), (5, .int x5), (6, .int x6)]) [1, 2, 3, 4, 5, 6] rfl ?_
            exact wJ_173 x6 s _ _ hf hE
          · have hf := ite_f h27 hf
            refine wm_aload_n C dX12_waysFrom_158 1 rfl (pc' := 159) rfl ?_
            refine m_get (v := .ref (q 27)) C dX12_waysFrom_159 in_X12_waysFrom 27 (by decide) (by decide +kernel) rfl rfl (pc' := 162) rfl ?_
            refine wm_iload C dX12_waysFrom_162 0 rfl (pc' := 164) rfl ?_
            obtain ⟨h28, hf⟩ := chk_s hf
            refine wm_zald (f := gA s 27) (N := 6) (cA := τ.2.2.1) C dX12_waysFrom_164 19 mA_27 rfl h28 (pc' := 165) rfl ?_
            refine wm_if_ne C dX12_waysFrom_165 173 (by decide) (pc' := 168) rfl (fun h29 => ?_) (fun h29 => ?_)
            · have hf := ite_t h29 hf
              refine wm_sub (lv' := [(0, .ref (q 0)), (2, .int x2), (3, .int x3), (4, .int x4), (5, .int x5), (6, .int x6)]) [1, 2, 3, 4, 5, 6] rfl ?_
              exact wJ_173 x6 s _ _ hf hE
            · have hf := ite_f (fun h => h h29) hf
              refine wm_iload C dX12_waysFrom_168 0 rfl (pc' := 170) rfl ?_
              refine wm_goto C dX12_waysFrom_170 174 (by decide) ?_
              refine wm_sub (lv' := [(0, .ref (q 0)), (2, .int x2), (3, .int x3), (4, .int x4), (5, .int x5), (6, .int x6)]) [1, 2, 3, 4, 5, 6] rfl ?_
              exact wJ_174 x6 t0 s _ _ hf hE
      refine wm_iload C dX12_waysFrom_81 5 rfl (pc' := 83) rfl ?_
      refine wm_aload_n C dX12_waysFrom_83 0 rfl (pc' := 84) rfl ?_
      refine m_get (v := .int (gI s 4)) C dX12_waysFrom_84 in_X12_waysFrom 4 (by decide) (by decide +kernel) rfl rfl (pc' := 87) rfl ?_
      refine wm_icmp_ge C dX12_waysFrom_87 194 (by decide) (pc' := 90) rfl (fun h18 => ?_) (fun h18 => ?_)
      · have hf := ite_t h18 hf
        obtain ⟨rfl, rfl⟩ := leaf_s hf
        exact hE
      · have hf := ite_f h18 hf
        refine wm_iload C dX12_waysFrom_90 6 rfl (pc' := 92) rfl ?_
        refine wm_if_ge C dX12_waysFrom_92 194 (by decide) (pc' := 95) rfl (fun h19 => ?_) (fun h19 => ?_)
        · have hf := ite_t h19 hf
          obtain ⟨rfl, rfl⟩ := leaf_s hf
          exact hE
        · have hf := ite_f h19 hf
          refine wm_aload_n C dX12_waysFrom_95 0 rfl (pc' := 96) rfl ?_
          refine m_get (v := .ref (q 5)) C dX12_waysFrom_96 in_X12_waysFrom 5 (by decide) (by decide +kernel) rfl rfl (pc' := 99) rfl ?_
          refine wm_iload C dX12_waysFrom_99 5 rfl (pc' := 101) rfl ?_
          obtain ⟨h20, hf⟩ := chk_s hf
          refine wm_iald (f := gA s 5) (N := 12) (cA := τ.1) C dX12_waysFrom_101 3 mA_5 rfl h20 (pc' := 102) rfl ?_
          refine wm_iload C dX12_waysFrom_102 4 rfl (pc' := 104) rfl ?_
          refine wm_icmp_ne C dX12_waysFrom_104 117 (by decide) (pc' := 107) rfl (fun h21 => ?_) (fun h21 => ?_)
          · have hf := ite_t h21 hf
            refine wm_aload_n C dX12_waysFrom_117 0 rfl (pc' := 118) rfl ?_
            refine m_get (v := .ref (q 6)) C dX12_waysFrom_118 in_X12_waysFrom 6 (by decide) (by decide +kernel) rfl rfl (pc' := 121) rfl ?_
            refine wm_iload C dX12_waysFrom_121 5 rfl (pc' := 123) rfl ?_
            obtain ⟨h22, hf⟩ := chk_s hf
            refine wm_iald (f := gA s 6) (N := 12) (cA := τ.1) C dX12_waysFrom_123 4 mA_6 rfl h22 (pc' := 124) rfl ?_
            refine wm_iload C dX12_waysFrom_124 4 rfl (pc' := 126) rfl ?_
            refine wm_icmp_ne C dX12_waysFrom_126 139 (by decide) (pc' := 129) rfl (fun h23 => ?_) (fun h23 => ?_)
            · have hf := ite_t h23 hf
              refine wm_ikonst (v := (-1)) C dX12_waysFrom_139 (by decide) (pc' := 140) rfl ?_
              refine wm_sub (lv' := [(0, .ref (q 0)), (2, .int x2), (3, .int x3), (4, .int x4), (5, .int x5), (6, .int x6)]) [0, 1, 2, 3, 4, 5] rfl ?_
              exact wJ_140 x6 (-1) s _ _ hf hE
            · have hf := ite_f (fun h => h h23) hf
              refine wm_aload_n C dX12_waysFrom_129 0 rfl (pc' := 130) rfl ?_
              refine m_get (v := .ref (q 5)) C dX12_waysFrom_130 in_X12_waysFrom 5 (by decide) (by decide +kernel) rfl rfl (pc' := 133) rfl ?_
              refine wm_iload C dX12_waysFrom_133 5 rfl (pc' := 135) rfl ?_
              obtain ⟨h30, hf⟩ := chk_s hf
              refine wm_iald (f := gA s 5) (N := 12) (cA := τ.1) C dX12_waysFrom_135 3 mA_5 rfl h30 (pc' := 136) rfl ?_
              refine wm_goto C dX12_waysFrom_136 140 (by decide) ?_
              refine wm_sub (lv' := [(0, .ref (q 0)), (2, .int x2), (3, .int x3), (4, .int x4), (5, .int x5), (6, .int x6)]) [0, 1, 2, 3, 4, 5] rfl ?_
              exact wJ_140 x6 (gA s 5 x6.toNatClampNeg) s _ _ hf hE
          · have hf := ite_f (fun h => h h21) hf
            refine wm_aload_n C dX12_waysFrom_107 0 rfl (pc' := 108) rfl ?_
            refine m_get (v := .ref (q 6)) C dX12_waysFrom_108 in_X12_waysFrom 6 (by decide) (by decide +kernel) rfl rfl (pc' := 111) rfl ?_
            refine wm_iload C dX12_waysFrom_111 5 rfl (pc' := 113) rfl ?_
            obtain ⟨h31, hf⟩ := chk_s hf
            refine wm_iald (f := gA s 6) (N := 12) (cA := τ.1) C dX12_waysFrom_113 4 mA_6 rfl h31 (pc' := 114) rfl ?_
            refine wm_goto C dX12_waysFrom_114 140 (by decide) ?_
            refine wm_sub (lv' := [(0, .ref (q 0)), (2, .int x2), (3, .int x3), (4, .int x4), (5, .int x5), (6, .int x6)]) [0, 1, 2, 3, 4, 5] rfl ?_
            exact wJ_140 x6 (gA s 6 x6.toNatClampNeg) s _ _ hf hE
  have wL_252 : ∀ (x2 : Int32) (x3 : Int32) (x4 : Int32) (x7 : Int32) (fu : Nat) (x8 : Int32) (s : MS) (v : Unit) (s' : MS), fX12_waysFrom_L252 x2 x3 x4 x7 fu x8 s = some (v, s') → WM l D Γ 9 0 0 (mW τ q s') 278 [(0, .ref (q 0)), (2, .int x2), (3, .int x3), (4, .int x4), (7, .int x7)] [] → WM l D Γ 9 0 0 (mW τ q s) 252 [(0, .ref (q 0)), (2, .int x2), (3, .int x3), (4, .int x4), (7, .int x7), (8, .int x8)] [] := by
    intro x2 x3 x4 x7
    intro fu
    induction fu with
    | zero => intro x8 s v s' hf hE; exact absurd hf (fun h => nomatch (show (none : Option _) = some _ from h))
    | succ fu ih =>
      intro x8 s v s' hf hE
      rw [fX12_waysFrom_L252_s] at hf
      refine wm_iload C dX12_waysFrom_252 5 rfl (pc' := 254) rfl ?_
      refine wm_iload C dX12_waysFrom_254 3 rfl (pc' := 256) rfl ?_
      refine wm_icmp_gt C dX12_waysFrom_256 278 (by decide) (pc' := 259) rfl (fun h52 => ?_) (fun h52 => ?_)
      · have hf := ite_t h52 hf
        obtain ⟨rfl, rfl⟩ := leaf_s hf
        refine wm_sub (lv' := [(0, .ref (q 0)), (2, .int x2), (3, .int x3), (4, .int x4), (7, .int x7)]) [0, 1, 2, 3, 4] rfl ?_
        exact hE
      · have hf := ite_f h52 hf
        refine wm_aload_n C dX12_waysFrom_259 0 rfl (pc' := 260) rfl ?_
        refine m_get (v := .ref (q 28)) C dX12_waysFrom_260 in_X12_waysFrom 28 (by decide) (by decide +kernel) rfl rfl (pc' := 263) rfl ?_
        refine wm_aload_n C dX12_waysFrom_263 0 rfl (pc' := 264) rfl ?_
        refine m_get (v := .ref (q 26)) C dX12_waysFrom_264 in_X12_waysFrom 26 (by decide) (by decide +kernel) rfl rfl (pc' := 267) rfl ?_
        refine wm_iload C dX12_waysFrom_267 5 rfl (pc' := 269) rfl ?_
        obtain ⟨h53, hf⟩ := chk_s hf
        refine wm_iald (f := gA s 26) (N := 7) (cA := τ.1) C dX12_waysFrom_269 18 mA_26 rfl h53 (pc' := 270) rfl ?_
        refine wm_ikonst (v := 1) C dX12_waysFrom_270 (by decide) (pc' := 271) rfl ?_
        obtain ⟨h54, hf⟩ := chk_s hf
        obtain ⟨s55, e56, hf⟩ := lets_s hf
        refine wm_zast (f := gA s 28) (N := 12) (cA := τ.2.2.1) C dX12_waysFrom_271 20 mA_28 rfl h54 (Wd' := mW τ q s55) ((mS_28 _ _).trans (congrArg (mW τ q) e56.symm)) (pc' := 272) rfl ?_
        refine wm_iinc (v := x8 + 1) (lv' := [(8, .int (x8 + 1)), (0, .ref (q 0)), (2, .int x2), (3, .int x3), (4, .int x4), (7, .int x7)]) C dX12_waysFrom_272 5 rfl rfl (by decide) rfl (pc' := 275) rfl ?_
        refine wm_goto C dX12_waysFrom_275 252 (by decide) ?_
        refine wm_sub (lv' := [(0, .ref (q 0)), (2, .int x2), (3, .int x3), (4, .int x4), (7, .int x7), (8, .int (x8 + 1))]) [1, 2, 3, 4, 5, 0] rfl ?_
        exact ih (x8 + 1) s55 _ _ hf hE
  have wL_53 : ∀ (x2 : Int32) (fu : Nat) (x3 : Int32) (x4 : Int32) (s : MS) (v : Int32) (s' : MS), fX12_waysFrom_L53 x2 fu x3 x4 s = some (v, s') → WM l D Γ 9 0 0 (mW τ q s') 309 [(3, .int v)] [] → WM l D Γ 9 0 0 (mW τ q s) 53 [(0, .ref (q 0)), (2, .int x2), (3, .int x3), (4, .int x4)] [] := by
    intro x2
    intro fu
    induction fu with
    | zero => intro x3 x4 s v s' hf hE; exact absurd hf (fun h => nomatch (show (none : Option _) = some _ from h))
    | succ fu ih =>
      intro x3 x4 s v s' hf hE
      rw [fX12_waysFrom_L53_s] at hf
      have wJ_306 : ∀ (x3 : Int32) (x4 : Int32) (s : MS) (v : Int32) (s' : MS), fX12_waysFrom_J306 (fX12_waysFrom_L53 x2 fu) x2 x3 x4 s = some (v, s') → WM l D Γ 9 0 0 (mW τ q s') 309 [(3, .int v)] [] → WM l D Γ 9 0 0 (mW τ q s) 306 [(0, .ref (q 0)), (2, .int x2), (3, .int x3), (4, .int x4)] [] := by
        intro x3 x4 s v s' hf hE
        unfold fX12_waysFrom_J306 at hf
        refine wm_goto C dX12_waysFrom_306 53 (by decide) ?_
        exact ih x3 x4 s _ _ hf hE
      have wJ_278 : ∀ (x3 : Int32) (x4 : Int32) (x7 : Int32) (s : MS) (v : Int32) (s' : MS), fX12_waysFrom_J278 (fX12_waysFrom_L53 x2 fu) x2 x3 x4 x7 s = some (v, s') → WM l D Γ 9 0 0 (mW τ q s') 309 [(3, .int v)] [] → WM l D Γ 9 0 0 (mW τ q s) 278 [(0, .ref (q 0)), (2, .int x2), (3, .int x3), (4, .int x4), (7, .int x7)] [] := by
        intro x3 x4 x7 s v s' hf hE
        unfold fX12_waysFrom_J278 at hf
        refine wm_iinc (v := x4 + 1) (lv' := [(4, .int (x4 + 1)), (0, .ref (q 0)), (2, .int x2), (3, .int x3), (7, .int x7)]) C dX12_waysFrom_278 3 rfl rfl (by decide) rfl (pc' := 281) rfl ?_
        refine wm_aload_n C dX12_waysFrom_281 1 rfl (pc' := 282) rfl ?_
        refine m_get (v := .ref (q 25)) C dX12_waysFrom_282 in_X12_waysFrom 25 (by decide) (by decide +kernel) rfl rfl (pc' := 285) rfl ?_
        refine wm_iload C dX12_waysFrom_285 0 rfl (pc' := 287) rfl ?_
        refine wm_iload C dX12_waysFrom_287 4 rfl (pc' := 289) rfl ?_
        obtain ⟨h41, hf⟩ := chk_s hf
        obtain ⟨s42, e43, hf⟩ := lets_s hf
        refine wm_iast (f := gA s 25) (N := 7) (cA := τ.1) C dX12_waysFrom_289 17 mA_25 rfl h41 (Wd' := mW τ q s42) ((mS_25 _ _).trans (congrArg (mW τ q) e43.symm)) (pc' := 290) rfl ?_
        refine wm_aload_n C dX12_waysFrom_290 1 rfl (pc' := 291) rfl ?_
        refine m_get (v := .ref (q 26)) C dX12_waysFrom_291 in_X12_waysFrom 26 (by decide) (by decide +kernel) rfl rfl (pc' := 294) rfl ?_
        refine wm_iload C dX12_waysFrom_294 0 rfl (pc' := 296) rfl ?_
        refine wm_ikonst (v := (-1)) C dX12_waysFrom_296 (by decide) (pc' := 297) rfl ?_
        obtain ⟨h44, hf⟩ := chk_s hf
        obtain ⟨s45, e46, hf⟩ := lets_s hf
        refine wm_iast (f := gA s42 26) (N := 7) (cA := τ.1) C dX12_waysFrom_297 18 mA_26 rfl h44 (Wd' := mW τ q s45) ((mS_26 _ _).trans (congrArg (mW τ q) e46.symm)) (pc' := 298) rfl ?_
        refine wm_aload_n C dX12_waysFrom_298 1 rfl (pc' := 299) rfl ?_
        refine m_get (v := .ref (q 27)) C dX12_waysFrom_299 in_X12_waysFrom 27 (by decide) (by decide +kernel) rfl rfl (pc' := 302) rfl ?_
        refine wm_iload C dX12_waysFrom_302 4 rfl (pc' := 304) rfl ?_
        refine wm_ikonst (v := 1) C dX12_waysFrom_304 (by decide) (pc' := 305) rfl ?_
        obtain ⟨h47, hf⟩ := chk_s hf
        obtain ⟨s48, e49, hf⟩ := lets_s hf
        refine wm_zast (f := gA s45 27) (N := 6) (cA := τ.2.2.1) C dX12_waysFrom_305 19 mA_27 rfl h47 (Wd' := mW τ q s48) ((mS_27 _ _).trans (congrArg (mW τ q) e49.symm)) (pc' := 306) rfl ?_
        refine wm_sub (lv' := [(0, .ref (q 0)), (2, .int x2), (3, .int x3), (4, .int (x4 + 1))]) [1, 2, 3, 0] rfl ?_
        exact wJ_306 x3 (x4 + 1) s48 _ _ hf hE
      refine wm_iload C dX12_waysFrom_53 3 rfl (pc' := 55) rfl ?_
      refine wm_if_lt C dX12_waysFrom_55 309 (by decide) (pc' := 58) rfl (fun h15 => ?_) (fun h15 => ?_)
      · have hf := ite_t h15 hf
        obtain ⟨rfl, rfl⟩ := leaf_s hf
        refine wm_sub (lv' := [(3, .int x3)]) [2] rfl ?_
        exact hE
      · have hf := ite_f h15 hf
        refine wm_aload_n C dX12_waysFrom_58 0 rfl (pc' := 59) rfl ?_
        refine m_get (v := .ref (q 25)) C dX12_waysFrom_59 in_X12_waysFrom 25 (by decide) (by decide +kernel) rfl rfl (pc' := 62) rfl ?_
        refine wm_iload C dX12_waysFrom_62 3 rfl (pc' := 64) rfl ?_
        obtain ⟨h16, hf⟩ := chk_s hf
        refine wm_iald (f := gA s 25) (N := 7) (cA := τ.1) C dX12_waysFrom_64 17 mA_25 rfl h16 (pc' := 65) rfl ?_
        refine wm_istore (lv' := [(5, .int (gA s 25 x4.toNatClampNeg)), (0, .ref (q 0)), (2, .int x2), (3, .int x3), (4, .int x4)]) C dX12_waysFrom_65 (by decide) rfl (pc' := 67) rfl ?_
        refine wm_aload_n C dX12_waysFrom_67 1 rfl (pc' := 68) rfl ?_
        refine m_get (v := .ref (q 26)) C dX12_waysFrom_68 in_X12_waysFrom 26 (by decide) (by decide +kernel) rfl rfl (pc' := 71) rfl ?_
        refine wm_iload C dX12_waysFrom_71 4 rfl (pc' := 73) rfl ?_
        obtain ⟨h17, hf⟩ := chk_s hf
        refine wm_iald (f := gA s 26) (N := 7) (cA := τ.1) C dX12_waysFrom_73 18 mA_26 rfl h17 (pc' := 74) rfl ?_
        refine wm_ikonst (v := 1) C dX12_waysFrom_74 (by decide) (pc' := 75) rfl ?_
        refine wm_iadd C dX12_waysFrom_75 (pc' := 76) rfl ?_
        refine wm_istore (lv' := [(6, .int ((gA s 26 x4.toNatClampNeg) + 1)), (5, .int (gA s 25 x4.toNatClampNeg)), (0, .ref (q 0)), (2, .int x2), (3, .int x3), (4, .int x4)]) C dX12_waysFrom_76 (by decide) rfl (pc' := 78) rfl ?_
        refine wm_ikonst (v := (-1)) C dX12_waysFrom_78 (by decide) (pc' := 79) rfl ?_
        refine wm_istore (lv' := [(7, .int (-1)), (6, .int ((gA s 26 x4.toNatClampNeg) + 1)), (5, .int (gA s 25 x4.toNatClampNeg)), (0, .ref (q 0)), (2, .int x2), (3, .int x3), (4, .int x4)]) C dX12_waysFrom_79 (by decide) rfl (pc' := 81) rfl ?_
        refine wm_sub (lv' := [(0, .ref (q 0)), (2, .int x2), (3, .int x3), (4, .int x4), (5, .int (gA s 25 x4.toNatClampNeg)), (6, .int ((gA s 26 x4.toNatClampNeg) + 1)), (7, .int (-1))]) [3, 4, 5, 6, 2, 1, 0] rfl ?_
        obtain ⟨v32, s33, h34, hf⟩ := bnd_s hf
        refine wL_81 x2 x3 x4 (gA s 25 x4.toNatClampNeg) FU ((gA s 26 x4.toNatClampNeg) + 1) (-1) s v32 s33 h34 ?_
        refine wm_aload_n C dX12_waysFrom_194 0 rfl (pc' := 195) rfl ?_
        refine m_get (v := .ref (q 26)) C dX12_waysFrom_195 in_X12_waysFrom 26 (by decide) (by decide +kernel) rfl rfl (pc' := 198) rfl ?_
        refine wm_iload C dX12_waysFrom_198 3 rfl (pc' := 200) rfl ?_
        refine wm_iload C dX12_waysFrom_200 5 rfl (pc' := 202) rfl ?_
        obtain ⟨h35, hf⟩ := chk_s hf
        obtain ⟨s36, e37, hf⟩ := lets_s hf
        refine wm_iast (f := gA s33 26) (N := 7) (cA := τ.1) C dX12_waysFrom_202 18 mA_26 rfl h35 (Wd' := mW τ q s36) ((mS_26 _ _).trans (congrArg (mW τ q) e37.symm)) (pc' := 203) rfl ?_
        refine wm_iload C dX12_waysFrom_203 6 rfl (pc' := 205) rfl ?_
        refine wm_if_ge C dX12_waysFrom_205 222 (by decide) (pc' := 208) rfl (fun h38 => ?_) (fun h38 => ?_)
        · have hf := ite_t h38 hf
          refine wm_aload_n C dX12_waysFrom_222 0 rfl (pc' := 223) rfl ?_
          refine m_get (v := .ref (q 2)) C dX12_waysFrom_223 in_X12_waysFrom 2 (by decide) (by decide +kernel) rfl rfl (pc' := 226) rfl ?_
          refine wm_iload C dX12_waysFrom_226 6 rfl (pc' := 228) rfl ?_
          obtain ⟨h39, hf⟩ := chk_s hf
          refine wm_zald (f := gA s36 2) (N := 6) (cA := τ.2.2.1) C dX12_waysFrom_228 1 mA_2 rfl h39 (pc' := 229) rfl ?_
          refine wm_if_eq C dX12_waysFrom_229 278 (by decide) (pc' := 232) rfl (fun h40 => ?_) (fun h40 => ?_)
          · have hf := ite_t h40 hf
            refine wm_sub (lv' := [(0, .ref (q 0)), (2, .int x2), (3, .int x3), (4, .int x4), (7, .int v32.2)]) [0, 1, 2, 3, 6] rfl ?_
            exact wJ_278 x3 x4 v32.2 s36 _ _ hf hE
          · have hf := ite_f h40 hf
            refine wm_aload_n C dX12_waysFrom_232 0 rfl (pc' := 233) rfl ?_
            refine m_get (v := .ref (q 3)) C dX12_waysFrom_233 in_X12_waysFrom 3 (by decide) (by decide +kernel) rfl rfl (pc' := 236) rfl ?_
            refine wm_iload C dX12_waysFrom_236 6 rfl (pc' := 238) rfl ?_
            obtain ⟨h50, hf⟩ := chk_s hf
            refine wm_iald (f := gA s36 3) (N := 6) (cA := τ.1) C dX12_waysFrom_238 2 mA_3 rfl h50 (pc' := 239) rfl ?_
            refine wm_aload_n C dX12_waysFrom_239 0 rfl (pc' := 240) rfl ?_
            refine m_get (v := .int (gI s36 24)) C dX12_waysFrom_240 in_X12_waysFrom 24 (by decide) (by decide +kernel) rfl rfl (pc' := 243) rfl ?_
            refine wm_icmp_ne C dX12_waysFrom_243 278 (by decide) (pc' := 246) rfl (fun h51 => ?_) (fun h51 => ?_)
            · have hf := ite_t h51 hf
              refine wm_sub (lv' := [(0, .ref (q 0)), (2, .int x2), (3, .int x3), (4, .int x4), (7, .int v32.2)]) [0, 1, 2, 3, 6] rfl ?_
              exact wJ_278 x3 x4 v32.2 s36 _ _ hf hE
            · have hf := ite_f (fun h => h h51) hf
              refine wm_iinc (v := x3 + 1) (lv' := [(3, .int (x3 + 1)), (0, .ref (q 0)), (2, .int x2), (4, .int x4), (5, .int (gA s 25 x4.toNatClampNeg)), (6, .int v32.1), (7, .int v32.2)]) C dX12_waysFrom_246 2 rfl rfl (by decide) rfl (pc' := 249) rfl ?_
              refine wm_ikonst (v := 0) C dX12_waysFrom_249 (by decide) (pc' := 250) rfl ?_
              refine wm_istore (lv' := [(8, .int 0), (3, .int (x3 + 1)), (0, .ref (q 0)), (2, .int x2), (4, .int x4), (5, .int (gA s 25 x4.toNatClampNeg)), (6, .int v32.1), (7, .int v32.2)]) C dX12_waysFrom_250 (by decide) rfl (pc' := 252) rfl ?_
              refine wm_sub (lv' := [(0, .ref (q 0)), (2, .int x2), (3, .int (x3 + 1)), (4, .int x4), (7, .int v32.2), (8, .int 0)]) [2, 3, 1, 4, 7, 0] rfl ?_
              obtain ⟨v57, s58, h59, hf⟩ := bnd_s hf
              refine wL_252 x2 (x3 + 1) x4 v32.2 FU 0 s36 v57 s58 h59 ?_
              exact wJ_278 (x3 + 1) x4 v32.2 s58 _ _ hf hE
        · have hf := ite_f h38 hf
          refine wm_aload_n C dX12_waysFrom_208 0 rfl (pc' := 209) rfl ?_
          refine m_get (v := .ref (q 27)) C dX12_waysFrom_209 in_X12_waysFrom 27 (by decide) (by decide +kernel) rfl rfl (pc' := 212) rfl ?_
          refine wm_iload C dX12_waysFrom_212 4 rfl (pc' := 214) rfl ?_
          refine wm_ikonst (v := 0) C dX12_waysFrom_214 (by decide) (pc' := 215) rfl ?_
          obtain ⟨h60, hf⟩ := chk_s hf
          obtain ⟨s61, e62, hf⟩ := lets_s hf
          refine wm_zast (f := gA s36 27) (N := 6) (cA := τ.2.2.1) C dX12_waysFrom_215 19 mA_27 rfl h60 (Wd' := mW τ q s61) ((mS_27 _ _).trans (congrArg (mW τ q) e62.symm)) (pc' := 216) rfl ?_
          refine wm_iinc (v := x4 + (-1)) (lv' := [(4, .int (x4 + (-1))), (0, .ref (q 0)), (2, .int x2), (3, .int x3), (5, .int (gA s 25 x4.toNatClampNeg)), (6, .int v32.1), (7, .int v32.2)]) C dX12_waysFrom_216 3 rfl rfl (by decide) rfl (pc' := 219) rfl ?_
          refine wm_goto C dX12_waysFrom_219 306 (by decide) ?_
          refine wm_sub (lv' := [(0, .ref (q 0)), (2, .int x2), (3, .int x3), (4, .int (x4 + (-1)))]) [1, 2, 3, 0] rfl ?_
          exact wJ_306 x3 (x4 + (-1)) s61 _ _ hf hE
  refine wm_ikonst (v := 0) C dX12_waysFrom_0 (by decide) (pc' := 1) rfl ?_
  refine wm_istore_n (lv' := [(3, .int 0), (0, .ref (q 0)), (1, .int x1), (2, .int x2)]) C dX12_waysFrom_1 (by decide) rfl (pc' := 2) rfl ?_
  refine wm_ikonst (v := 0) C dX12_waysFrom_2 (by decide) (pc' := 3) rfl ?_
  refine wm_istore (lv' := [(4, .int 0), (3, .int 0), (0, .ref (q 0)), (1, .int x1), (2, .int x2)]) C dX12_waysFrom_3 (by decide) rfl (pc' := 5) rfl ?_
  refine wm_aload_n C dX12_waysFrom_5 2 rfl (pc' := 6) rfl ?_
  refine m_get (v := .ref (q 25)) C dX12_waysFrom_6 in_X12_waysFrom 25 (by decide) (by decide +kernel) rfl rfl (pc' := 9) rfl ?_
  refine wm_ikonst (v := 0) C dX12_waysFrom_9 (by decide) (pc' := 10) rfl ?_
  refine wm_iload_n C dX12_waysFrom_10 3 rfl (pc' := 11) rfl ?_
  obtain ⟨h1, hf⟩ := chk_s hf
  obtain ⟨s2, e3, hf⟩ := lets_s hf
  refine wm_iast (f := gA σ 25) (N := 7) (cA := τ.1) C dX12_waysFrom_11 17 mA_25 rfl h1 (Wd' := mW τ q s2) ((mS_25 _ _).trans (congrArg (mW τ q) e3.symm)) (pc' := 12) rfl ?_
  refine wm_aload_n C dX12_waysFrom_12 2 rfl (pc' := 13) rfl ?_
  refine m_get (v := .ref (q 26)) C dX12_waysFrom_13 in_X12_waysFrom 26 (by decide) (by decide +kernel) rfl rfl (pc' := 16) rfl ?_
  refine wm_ikonst (v := 0) C dX12_waysFrom_16 (by decide) (pc' := 17) rfl ?_
  refine wm_ikonst (v := (-1)) C dX12_waysFrom_17 (by decide) (pc' := 18) rfl ?_
  obtain ⟨h4, hf⟩ := chk_s hf
  obtain ⟨s5, e6, hf⟩ := lets_s hf
  refine wm_iast (f := gA s2 26) (N := 7) (cA := τ.1) C dX12_waysFrom_18 18 mA_26 rfl h4 (Wd' := mW τ q s5) ((mS_26 _ _).trans (congrArg (mW τ q) e6.symm)) (pc' := 19) rfl ?_
  refine wm_ikonst (v := 0) C dX12_waysFrom_19 (by decide) (pc' := 20) rfl ?_
  refine wm_istore (lv' := [(5, .int 0), (4, .int 0), (3, .int 0), (0, .ref (q 0)), (1, .int x1), (2, .int x2)]) C dX12_waysFrom_20 (by decide) rfl (pc' := 22) rfl ?_
  refine wm_sub (lv' := [(0, .ref (q 0)), (1, .int x1), (2, .int x2), (3, .int 0), (4, .int 0), (5, .int 0)]) [3, 4, 5, 2, 1, 0] rfl ?_
  obtain ⟨v12, s13, h14, hf⟩ := bnd_s hf
  refine wL_22 x1 x2 0 0 FU 0 s5 v12 s13 h14 ?_
  obtain ⟨v63, s64, h65, hf⟩ := bnd_s hf
  refine wL_53 x2 FU 0 0 s13 v63 s64 h65 ?_
  refine wm_iload_n C dX12_waysFrom_309 0 rfl (pc' := 310) rfl ?_
  obtain ⟨rfl, rfl⟩ := leaf_s hf
  exact wm_iret C dX12_waysFrom_310 (Nat.zero_le _) (Nat.zero_le _) FD.rf
def fX12_countWays_L2 (x1 : Int32) : Nat → Int32 → MS → Option (Unit × MS)
  | 0, _, _ => none
  | fu + 1, x2, s => if 12 ≤ x2 then some ((), s) else if ¬ (x2 < 0 ∨ 12 ≤ x2.toNatClampNeg) then lets (sA s 28 x2.toNatClampNeg (vp_nar .boolean 0)) (fun s3 => fX12_countWays_L2 x1 fu (x2 + 1) s3) else none
theorem fX12_countWays_L2_s (x1 : Int32) (fu : Nat) (x2 : Int32) (s : MS) : fX12_countWays_L2 x1 (fu + 1) x2 s = (if 12 ≤ x2 then some ((), s) else if ¬ (x2 < 0 ∨ 12 ≤ x2.toNatClampNeg) then lets (sA s 28 x2.toNatClampNeg (vp_nar .boolean 0)) (fun s3 => fX12_countWays_L2 x1 fu (x2 + 1) s3) else none) := rfl
def fX12_countWays_J80 (rec : Int32 → Int32 → MS → Option (Int32 × MS)) (x1 : Int32) (x3 : Int32) (x4 : Int32) (t0 : Int32) (t1 : Int32) (s : MS) : Option (Int32 × MS) :=
  rec (t1 + t0) (x4 + 1) s
def fX12_countWays_J79 (rec : Int32 → Int32 → MS → Option (Int32 × MS)) (x1 : Int32) (x3 : Int32) (x4 : Int32) (t0 : Int32) (s : MS) : Option (Int32 × MS) :=
  fX12_countWays_J80 (rec) x1 x3 x4 0 t0 s
def fX12_countWays_L31 (x1 : Int32) (x3 : Int32) : Nat → Int32 → Int32 → MS → Option (Int32 × MS)
  | 0, _, _, _ => none
  | fu + 1, x2, x4, s => if (gI s 1) ≤ x4 then some (x2, s) else if x3 = 0 then some (x2, s) else if ¬ (x4 < 0 ∨ 6 ≤ x4.toNatClampNeg) then if (gA s 2 x4.toNatClampNeg) = 0 then fX12_countWays_J79 (fX12_countWays_L31 x1 x3 fu) x1 x3 x4 x2 s else if ¬ (x4 < 0 ∨ 6 ≤ x4.toNatClampNeg) then if ¬ (gA s 3 x4.toNatClampNeg) = (gI s 23) then fX12_countWays_J79 (fX12_countWays_L31 x1 x3 fu) x1 x3 x4 x2 s else bnd (fX12_waysFrom x4 x1 s) (fun r17 s18 => fX12_countWays_J80 (fX12_countWays_L31 x1 x3 fu) x1 x3 x4 r17 x2 s18) else none else none
theorem fX12_countWays_L31_s (x1 : Int32) (x3 : Int32) (fu : Nat) (x2 : Int32) (x4 : Int32) (s : MS) : fX12_countWays_L31 x1 x3 (fu + 1) x2 x4 s = (if (gI s 1) ≤ x4 then some (x2, s) else if x3 = 0 then some (x2, s) else if ¬ (x4 < 0 ∨ 6 ≤ x4.toNatClampNeg) then if (gA s 2 x4.toNatClampNeg) = 0 then fX12_countWays_J79 (fX12_countWays_L31 x1 x3 fu) x1 x3 x4 x2 s else if ¬ (x4 < 0 ∨ 6 ≤ x4.toNatClampNeg) then if ¬ (gA s 3 x4.toNatClampNeg) = (gI s 23) then fX12_countWays_J79 (fX12_countWays_L31 x1 x3 fu) x1 x3 x4 x2 s else bnd (fX12_waysFrom x4 x1 s) (fun r17 s18 => fX12_countWays_J80 (fX12_countWays_L31 x1 x3 fu) x1 x3 x4 r17 x2 s18) else none else none) := rfl
def fX12_countWays (x1 : Int32) (σ : MS) : Option (Int32 × MS) :=
  bnd (fX12_countWays_L2 x1 FU 0 σ) (fun v5 s6 => bnd (fX12_findEnds s6) (fun r8 s9 => bnd (fX12_countWays_L31 x1 r8 FU 0 0 s9) (fun v20 s21 => some (v20, s21))))
theorem in_X12_countWays : ∀ w ∈ u_ws RX12 TX12 39, w ∈ wsX12_countWays := by decide +kernel
set_option maxHeartbeats 4000000 in
set_option maxRecDepth 100000 in
theorem kX12_countWays (l : Launch) (D : va_G) (τ : CId) (q : Nat → Nat) (σ : MS) (x1 : Int32) (rE : Int32) (sE : MS) (hf : fX12_countWays x1 σ = some (rE, sE)) : Ct l D τ yX12_countWays wsX12_countWays { frames := 1, cells := 0, slots := 0, locals := 28 } [.ref (q 0), .int x1] (mW τ q σ) (FD (mW τ q sE) (some (.int rE))) := by
  unfold fX12_countWays at hf
  refine ct_of (cc := cX12_countWays) (maxL := 5) (ret := (some .int)) (by decide) rfl (Nat.le_of_ble_eq_true rfl) (fun Γ C => ?_)
  refine wm_lv (lv' := [(0, .ref (q 0)), (1, .int x1)]) rfl ?_
  have wL_2 : ∀ (x1 : Int32) (fu : Nat) (x2 : Int32) (s : MS) (v : Unit) (s' : MS), fX12_countWays_L2 x1 fu x2 s = some (v, s') → WM l D Γ 5 0 0 (mW τ q s') 21 [(0, .ref (q 0)), (1, .int x1)] [] → WM l D Γ 5 0 0 (mW τ q s) 2 [(0, .ref (q 0)), (1, .int x1), (2, .int x2)] [] := by
    intro x1
    intro fu
    induction fu with
    | zero => intro x2 s v s' hf hE; exact absurd hf (fun h => nomatch (show (none : Option _) = some _ from h))
    | succ fu ih =>
      intro x2 s v s' hf hE
      rw [fX12_countWays_L2_s] at hf
      refine wm_iload_n C dX12_countWays_2 2 rfl (pc' := 3) rfl ?_
      refine wm_bipush (v := 12) C dX12_countWays_3 (by decide) (pc' := 5) rfl ?_
      refine wm_icmp_ge C dX12_countWays_5 21 (by decide) (pc' := 8) rfl (fun h1 => ?_) (fun h1 => ?_)
      · have hf := ite_t h1 hf
        obtain ⟨rfl, rfl⟩ := leaf_s hf
        refine wm_sub (lv' := [(0, .ref (q 0)), (1, .int x1)]) [0, 1] rfl ?_
        exact hE
      · have hf := ite_f h1 hf
        refine wm_aload_n C dX12_countWays_8 0 rfl (pc' := 9) rfl ?_
        refine m_get (v := .ref (q 28)) C dX12_countWays_9 in_X12_countWays 28 (by decide) (by decide +kernel) rfl rfl (pc' := 12) rfl ?_
        refine wm_iload_n C dX12_countWays_12 2 rfl (pc' := 13) rfl ?_
        refine wm_ikonst (v := 0) C dX12_countWays_13 (by decide) (pc' := 14) rfl ?_
        obtain ⟨h2, hf⟩ := chk_s hf
        obtain ⟨s3, e4, hf⟩ := lets_s hf
        refine wm_zast (f := gA s 28) (N := 12) (cA := τ.2.2.1) C dX12_countWays_14 20 mA_28 rfl h2 (Wd' := mW τ q s3) ((mS_28 _ _).trans (congrArg (mW τ q) e4.symm)) (pc' := 15) rfl ?_
        refine wm_iinc (v := x2 + 1) (lv' := [(2, .int (x2 + 1)), (0, .ref (q 0)), (1, .int x1)]) C dX12_countWays_15 2 rfl rfl (by decide) rfl (pc' := 18) rfl ?_
        refine wm_goto C dX12_countWays_18 2 (by decide) ?_
        refine wm_sub (lv' := [(0, .ref (q 0)), (1, .int x1), (2, .int (x2 + 1))]) [1, 2, 0] rfl ?_
        exact ih (x2 + 1) s3 _ _ hf hE
  have wL_31 : ∀ (x1 : Int32) (x3 : Int32) (fu : Nat) (x2 : Int32) (x4 : Int32) (s : MS) (v : Int32) (s' : MS), fX12_countWays_L31 x1 x3 fu x2 x4 s = some (v, s') → WM l D Γ 5 0 0 (mW τ q s') 88 [(2, .int v)] [] → WM l D Γ 5 0 0 (mW τ q s) 31 [(0, .ref (q 0)), (1, .int x1), (2, .int x2), (3, .int x3), (4, .int x4)] [] := by
    intro x1 x3
    intro fu
    induction fu with
    | zero => intro x2 x4 s v s' hf hE; exact absurd hf (fun h => nomatch (show (none : Option _) = some _ from h))
    | succ fu ih =>
      intro x2 x4 s v s' hf hE
      rw [fX12_countWays_L31_s] at hf
      have wJ_80 : ∀ (x4 : Int32) (t0 : Int32) (t1 : Int32) (s : MS) (v : Int32) (s' : MS), fX12_countWays_J80 (fX12_countWays_L31 x1 x3 fu) x1 x3 x4 t0 t1 s = some (v, s') → WM l D Γ 5 0 0 (mW τ q s') 88 [(2, .int v)] [] → WM l D Γ 5 0 0 (mW τ q s) 80 [(0, .ref (q 0)), (1, .int x1), (3, .int x3), (4, .int x4)] [.int t0, .int t1] := by
        intro x4 t0 t1 s v s' hf hE
        unfold fX12_countWays_J80 at hf
        refine wm_iadd C dX12_countWays_80 (pc' := 81) rfl ?_
        refine wm_istore_n (lv' := [(2, .int (t1 + t0)), (0, .ref (q 0)), (1, .int x1), (3, .int x3), (4, .int x4)]) C dX12_countWays_81 (by decide) rfl (pc' := 82) rfl ?_
        refine wm_iinc (v := x4 + 1) (lv' := [(4, .int (x4 + 1)), (2, .int (t1 + t0)), (0, .ref (q 0)), (1, .int x1), (3, .int x3)]) C dX12_countWays_82 4 rfl rfl (by decide) rfl (pc' := 85) rfl ?_
        refine wm_goto C dX12_countWays_85 31 (by decide) ?_
        refine wm_sub (lv' := [(0, .ref (q 0)), (1, .int x1), (2, .int (t1 + t0)), (3, .int x3), (4, .int (x4 + 1))]) [2, 3, 1, 4, 0] rfl ?_
        exact ih (t1 + t0) (x4 + 1) s _ _ hf hE
      have wJ_79 : ∀ (x4 : Int32) (t0 : Int32) (s : MS) (v : Int32) (s' : MS), fX12_countWays_J79 (fX12_countWays_L31 x1 x3 fu) x1 x3 x4 t0 s = some (v, s') → WM l D Γ 5 0 0 (mW τ q s') 88 [(2, .int v)] [] → WM l D Γ 5 0 0 (mW τ q s) 79 [(0, .ref (q 0)), (1, .int x1), (3, .int x3), (4, .int x4)] [.int t0] := by
        intro x4 t0 s v s' hf hE
        unfold fX12_countWays_J79 at hf
        refine wm_ikonst (v := 0) C dX12_countWays_79 (by decide) (pc' := 80) rfl ?_
        exact wJ_80 x4 0 t0 s _ _ hf hE
      refine wm_iload C dX12_countWays_31 4 rfl (pc' := 33) rfl ?_
      refine wm_aload_n C dX12_countWays_33 0 rfl (pc' := 34) rfl ?_
      refine m_get (v := .int (gI s 1)) C dX12_countWays_34 in_X12_countWays 1 (by decide) (by decide +kernel) rfl rfl (pc' := 37) rfl ?_
      refine wm_icmp_ge C dX12_countWays_37 88 (by decide) (pc' := 40) rfl (fun h11 => ?_) (fun h11 => ?_)
      · have hf := ite_t h11 hf
        obtain ⟨rfl, rfl⟩ := leaf_s hf
        refine wm_sub (lv' := [(2, .int x2)]) [2] rfl ?_
        exact hE
      · have hf := ite_f h11 hf
        refine wm_iload_n C dX12_countWays_40 3 rfl (pc' := 41) rfl ?_
        refine wm_if_eq C dX12_countWays_41 88 (by decide) (pc' := 44) rfl (fun h12 => ?_) (fun h12 => ?_)
        · have hf := ite_t h12 hf
          obtain ⟨rfl, rfl⟩ := leaf_s hf
          refine wm_sub (lv' := [(2, .int x2)]) [2] rfl ?_
          exact hE
        · have hf := ite_f h12 hf
          refine wm_iload_n C dX12_countWays_44 2 rfl (pc' := 45) rfl ?_
          refine wm_aload_n C dX12_countWays_45 0 rfl (pc' := 46) rfl ?_
          refine m_get (v := .ref (q 2)) C dX12_countWays_46 in_X12_countWays 2 (by decide) (by decide +kernel) rfl rfl (pc' := 49) rfl ?_
          refine wm_iload C dX12_countWays_49 4 rfl (pc' := 51) rfl ?_
          obtain ⟨h13, hf⟩ := chk_s hf
          refine wm_zald (f := gA s 2) (N := 6) (cA := τ.2.2.1) C dX12_countWays_51 1 mA_2 rfl h13 (pc' := 52) rfl ?_
          refine wm_if_eq C dX12_countWays_52 79 (by decide) (pc' := 55) rfl (fun h14 => ?_) (fun h14 => ?_)
          · have hf := ite_t h14 hf
            refine wm_sub (lv' := [(0, .ref (q 0)), (1, .int x1), (3, .int x3), (4, .int x4)]) [0, 1, 3, 4] rfl ?_
            exact wJ_79 x4 x2 s _ _ hf hE
          · have hf := ite_f h14 hf
            refine wm_aload_n C dX12_countWays_55 0 rfl (pc' := 56) rfl ?_
            refine m_get (v := .ref (q 3)) C dX12_countWays_56 in_X12_countWays 3 (by decide) (by decide +kernel) rfl rfl (pc' := 59) rfl ?_
            refine wm_iload C dX12_countWays_59 4 rfl (pc' := 61) rfl ?_
            obtain ⟨h15, hf⟩ := chk_s hf
            refine wm_iald (f := gA s 3) (N := 6) (cA := τ.1) C dX12_countWays_61 2 mA_3 rfl h15 (pc' := 62) rfl ?_
            refine wm_aload_n C dX12_countWays_62 0 rfl (pc' := 63) rfl ?_
            refine m_get (v := .int (gI s 23)) C dX12_countWays_63 in_X12_countWays 23 (by decide) (by decide +kernel) rfl rfl (pc' := 66) rfl ?_
            refine wm_icmp_ne C dX12_countWays_66 79 (by decide) (pc' := 69) rfl (fun h16 => ?_) (fun h16 => ?_)
            · have hf := ite_t h16 hf
              refine wm_sub (lv' := [(0, .ref (q 0)), (1, .int x1), (3, .int x3), (4, .int x4)]) [0, 1, 3, 4] rfl ?_
              exact wJ_79 x4 x2 s _ _ hf hE
            · have hf := ite_f (fun h => h h16) hf
              refine wm_aload_n C dX12_countWays_69 0 rfl (pc' := 70) rfl ?_
              refine wm_iload C dX12_countWays_70 4 rfl (pc' := 72) rfl ?_
              refine wm_iload_n C dX12_countWays_72 1 rfl (pc' := 73) rfl ?_
              obtain ⟨r17, s18, h19, hf⟩ := bnd_s hf
              refine wm_callVd (nn := 2) (As := [.int x4, .int x1]) (rest := [.int x2]) (st' := [.int r17, .int x2]) C dX12_countWays_73 (kX12_waysFrom l D τ q s x4 x1 r17 s18 h19) gX12_countWays_X12_waysFrom rfl (by decide +kernel) ⟨Nat.le_of_ble_eq_true rfl, Nat.le_of_ble_eq_true rfl⟩ rfl rfl ⟨Nat.zero_le _, Nat.zero_le _⟩ 0 rfl rfl rfl rfl (Nat.le_of_ble_eq_true rfl) rfl (pc' := 76) rfl ?_
              refine wm_goto C dX12_countWays_76 80 (by decide) ?_
              refine wm_sub (lv' := [(0, .ref (q 0)), (1, .int x1), (3, .int x3), (4, .int x4)]) [0, 1, 3, 4] rfl ?_
              exact wJ_80 x4 r17 x2 s18 _ _ hf hE
  refine wm_ikonst (v := 0) C dX12_countWays_0 (by decide) (pc' := 1) rfl ?_
  refine wm_istore_n (lv' := [(2, .int 0), (0, .ref (q 0)), (1, .int x1)]) C dX12_countWays_1 (by decide) rfl (pc' := 2) rfl ?_
  refine wm_sub (lv' := [(0, .ref (q 0)), (1, .int x1), (2, .int 0)]) [1, 2, 0] rfl ?_
  obtain ⟨v5, s6, h7, hf⟩ := bnd_s hf
  refine wL_2 x1 FU 0 σ v5 s6 h7 ?_
  refine wm_ikonst (v := 0) C dX12_countWays_21 (by decide) (pc' := 22) rfl ?_
  refine wm_istore_n (lv' := [(2, .int 0), (0, .ref (q 0)), (1, .int x1)]) C dX12_countWays_22 (by decide) rfl (pc' := 23) rfl ?_
  refine wm_aload_n C dX12_countWays_23 1 rfl (pc' := 24) rfl ?_
  obtain ⟨r8, s9, h10, hf⟩ := bnd_s hf
  refine wm_callVd (nn := 0) (As := []) (rest := []) (st' := [.int r8]) C dX12_countWays_24 (kX12_findEnds l D τ q s6 r8 s9 h10) gX12_countWays_X12_findEnds rfl (by decide +kernel) ⟨Nat.le_of_ble_eq_true rfl, Nat.le_of_ble_eq_true rfl⟩ rfl rfl ⟨Nat.zero_le _, Nat.zero_le _⟩ 0 rfl rfl rfl rfl (Nat.le_of_ble_eq_true rfl) rfl (pc' := 27) rfl ?_
  refine wm_istore_n (lv' := [(3, .int r8), (2, .int 0), (0, .ref (q 0)), (1, .int x1)]) C dX12_countWays_27 (by decide) rfl (pc' := 28) rfl ?_
  refine wm_ikonst (v := 0) C dX12_countWays_28 (by decide) (pc' := 29) rfl ?_
  refine wm_istore (lv' := [(4, .int 0), (3, .int r8), (2, .int 0), (0, .ref (q 0)), (1, .int x1)]) C dX12_countWays_29 (by decide) rfl (pc' := 31) rfl ?_
  refine wm_sub (lv' := [(0, .ref (q 0)), (1, .int x1), (2, .int 0), (3, .int r8), (4, .int 0)]) [3, 4, 2, 1, 0] rfl ?_
  obtain ⟨v20, s21, h22, hf⟩ := bnd_s hf
  refine wL_31 x1 r8 FU 0 0 s9 v20 s21 h22 ?_
  refine wm_iload_n C dX12_countWays_88 0 rfl (pc' := 89) rfl ?_
  obtain ⟨rfl, rfl⟩ := leaf_s hf
  exact wm_iret C dX12_countWays_89 (Nat.zero_le _) (Nat.zero_le _) FD.rf
def fX12_ways (x1 : Int32) (σ : MS) : Option (Int32 × MS) :=
  bnd (fX12_among x1 1 12) (fun r1 u2 => if r1 = 0 then some ((-2), σ) else bnd (fX12_countWays x1 σ) (fun r5 s6 => some (r5, s6)))
set_option maxHeartbeats 4000000 in
set_option maxRecDepth 100000 in
theorem kX12_ways (l : Launch) (D : va_G) (τ : CId) (q : Nat → Nat) (σ : MS) (x1 : Int32) (rE : Int32) (sE : MS) (hf : fX12_ways x1 σ = some (rE, sE)) : Ct l D τ yX12_ways wsX12_ways { frames := 2, cells := 0, slots := 0, locals := 52 } [.ref (q 0), .int x1] (mW τ q σ) (FD (mW τ q sE) (some (.int rE))) := by
  unfold fX12_ways at hf
  refine ct_of (cc := cX12_ways) (maxL := 2) (ret := (some .int)) (by decide) rfl (Nat.le_of_ble_eq_true rfl) (fun Γ C => ?_)
  refine wm_lv (lv' := [(0, .ref (q 0)), (1, .int x1)]) rfl ?_
  refine wm_iload_n C dX12_ways_0 1 rfl (pc' := 1) rfl ?_
  refine wm_ikonst (v := 1) C dX12_ways_1 (by decide) (pc' := 2) rfl ?_
  refine wm_bipush (v := 12) C dX12_ways_2 (by decide) (pc' := 4) rfl ?_
  obtain ⟨r1, u2, h3, hf⟩ := bnd_s hf
  refine wm_callSd (nn := 3) (As := [.int x1, .int 1, .int 12]) (rest := []) (st' := [.int r1]) C dX12_ways_4 (kX12_among l D τ x1 1 12 r1 h3) gX12_ways_X12_among rfl (by decide +kernel) ⟨Nat.le_of_ble_eq_true rfl, Nat.le_of_ble_eq_true rfl⟩ rfl rfl ⟨Nat.zero_le _, Nat.zero_le _⟩ rfl rfl (Nat.le_of_ble_eq_true rfl) rfl (pc' := 7) rfl ?_
  refine wm_if_eq C dX12_ways_7 18 (by decide) (pc' := 10) rfl (fun h4 => ?_) (fun h4 => ?_)
  · have hf := ite_t h4 hf
    refine wm_bipush (v := (-2)) C dX12_ways_18 (by decide) (pc' := 20) rfl ?_
    obtain ⟨rfl, rfl⟩ := leaf_s hf
    exact wm_iret C dX12_ways_20 (Nat.zero_le _) (Nat.zero_le _) FD.rf
  · have hf := ite_f h4 hf
    refine wm_aload_n C dX12_ways_10 0 rfl (pc' := 11) rfl ?_
    refine wm_iload_n C dX12_ways_11 1 rfl (pc' := 12) rfl ?_
    obtain ⟨r5, s6, h7, hf⟩ := bnd_s hf
    refine wm_callVd (nn := 1) (As := [.int x1]) (rest := []) (st' := [.int r5]) C dX12_ways_12 (kX12_countWays l D τ q σ x1 r5 s6 h7) gX12_ways_X12_countWays rfl (by decide +kernel) ⟨Nat.le_of_ble_eq_true rfl, Nat.le_of_ble_eq_true rfl⟩ rfl rfl ⟨Nat.zero_le _, Nat.zero_le _⟩ 0 rfl rfl rfl rfl (Nat.le_of_ble_eq_true rfl) rfl (pc' := 15) rfl ?_
    refine wm_goto C dX12_ways_15 20 (by decide) ?_
    obtain ⟨rfl, rfl⟩ := leaf_s hf
    exact wm_iret C dX12_ways_20 (Nat.zero_le _) (Nat.zero_le _) FD.rf
def fX12_through (x1 : Int32) (x2 : Int32) (σ : MS) : Option (Int32 × MS) :=
  bnd (fX12_noCrack x1 σ) (fun r1 s2 => if r1 = 0 then bnd (fX12_among x2 1 12) (fun r5 u6 => if ¬ r5 = 0 then bnd (fX12_countWays x2 s2) (fun r9 s10 => if ¬ (x1 < 0 ∨ 12 ≤ x1.toNatClampNeg) then if (gA s10 28 x1.toNatClampNeg) = 0 then some (0, s10) else some (1, s10) else none) else some ((-2), s2)) else some ((-1), s2))
theorem in_X12_through : ∀ w ∈ u_ws RX12 TX12 39, w ∈ wsX12_through := by decide +kernel
set_option maxHeartbeats 4000000 in
set_option maxRecDepth 100000 in
theorem kX12_through (l : Launch) (D : va_G) (τ : CId) (q : Nat → Nat) (σ : MS) (x1 : Int32) (x2 : Int32) (rE : Int32) (sE : MS) (hf : fX12_through x1 x2 σ = some (rE, sE)) : Ct l D τ yX12_through wsX12_through { frames := 2, cells := 0, slots := 0, locals := 52 } [.ref (q 0), .int x1, .int x2] (mW τ q σ) (FD (mW τ q sE) (some (.int rE))) := by
  unfold fX12_through at hf
  refine ct_of (cc := cX12_through) (maxL := 4) (ret := (some .int)) (by decide) rfl (Nat.le_of_ble_eq_true rfl) (fun Γ C => ?_)
  refine wm_lv (lv' := [(0, .ref (q 0)), (1, .int x1), (2, .int x2)]) rfl ?_
  refine wm_aload_n C dX12_through_0 0 rfl (pc' := 1) rfl ?_
  refine wm_iload_n C dX12_through_1 1 rfl (pc' := 2) rfl ?_
  obtain ⟨r1, s2, h3, hf⟩ := bnd_s hf
  refine wm_callVd (nn := 1) (As := [.int x1]) (rest := []) (st' := [.int r1]) C dX12_through_2 (kX12_noCrack l D τ q σ x1 r1 s2 h3) gX12_through_X12_noCrack rfl (by decide +kernel) ⟨Nat.le_of_ble_eq_true rfl, Nat.le_of_ble_eq_true rfl⟩ rfl rfl ⟨Nat.zero_le _, Nat.zero_le _⟩ 0 rfl rfl rfl rfl (Nat.le_of_ble_eq_true rfl) rfl (pc' := 5) rfl ?_
  refine wm_if_eq C dX12_through_5 10 (by decide) (pc' := 8) rfl (fun h4 => ?_) (fun h4 => ?_)
  · have hf := ite_t h4 hf
    refine wm_iload_n C dX12_through_10 2 rfl (pc' := 11) rfl ?_
    refine wm_ikonst (v := 1) C dX12_through_11 (by decide) (pc' := 12) rfl ?_
    refine wm_bipush (v := 12) C dX12_through_12 (by decide) (pc' := 14) rfl ?_
    obtain ⟨r5, u6, h7, hf⟩ := bnd_s hf
    refine wm_callSd (nn := 3) (As := [.int x2, .int 1, .int 12]) (rest := []) (st' := [.int r5]) C dX12_through_14 (kX12_among l D τ x2 1 12 r5 h7) gX12_through_X12_among rfl (by decide +kernel) ⟨Nat.le_of_ble_eq_true rfl, Nat.le_of_ble_eq_true rfl⟩ rfl rfl ⟨Nat.zero_le _, Nat.zero_le _⟩ rfl rfl (Nat.le_of_ble_eq_true rfl) rfl (pc' := 17) rfl ?_
    refine wm_if_ne C dX12_through_17 23 (by decide) (pc' := 20) rfl (fun h8 => ?_) (fun h8 => ?_)
    · have hf := ite_t h8 hf
      refine wm_aload_n C dX12_through_23 0 rfl (pc' := 24) rfl ?_
      refine wm_iload_n C dX12_through_24 2 rfl (pc' := 25) rfl ?_
      obtain ⟨r9, s10, h11, hf⟩ := bnd_s hf
      refine wm_callVd (nn := 1) (As := [.int x2]) (rest := []) (st' := [.int r9]) C dX12_through_25 (kX12_countWays l D τ q s2 x2 r9 s10 h11) gX12_through_X12_countWays rfl (by decide +kernel) ⟨Nat.le_of_ble_eq_true rfl, Nat.le_of_ble_eq_true rfl⟩ rfl rfl ⟨Nat.zero_le _, Nat.zero_le _⟩ 0 rfl rfl rfl rfl (Nat.le_of_ble_eq_true rfl) rfl (pc' := 28) rfl ?_
      refine wm_istore_n (lv' := [(3, .int r9), (0, .ref (q 0)), (1, .int x1), (2, .int x2)]) C dX12_through_28 (by decide) rfl (pc' := 29) rfl ?_
      refine wm_aload_n C dX12_through_29 1 rfl (pc' := 30) rfl ?_
      refine m_get (v := .ref (q 28)) C dX12_through_30 in_X12_through 28 (by decide) (by decide +kernel) rfl rfl (pc' := 33) rfl ?_
      refine wm_iload_n C dX12_through_33 2 rfl (pc' := 34) rfl ?_
      obtain ⟨h12, hf⟩ := chk_s hf
      refine wm_zald (f := gA s10 28) (N := 12) (cA := τ.2.2.1) C dX12_through_34 20 mA_28 rfl h12 (pc' := 35) rfl ?_
      refine wm_if_eq C dX12_through_35 42 (by decide) (pc' := 38) rfl (fun h13 => ?_) (fun h13 => ?_)
      · have hf := ite_t h13 hf
        refine wm_ikonst (v := 0) C dX12_through_42 (by decide) (pc' := 43) rfl ?_
        obtain ⟨rfl, rfl⟩ := leaf_s hf
        exact wm_iret C dX12_through_43 (Nat.zero_le _) (Nat.zero_le _) FD.rf
      · have hf := ite_f h13 hf
        refine wm_ikonst (v := 1) C dX12_through_38 (by decide) (pc' := 39) rfl ?_
        refine wm_goto C dX12_through_39 43 (by decide) ?_
        obtain ⟨rfl, rfl⟩ := leaf_s hf
        exact wm_iret C dX12_through_43 (Nat.zero_le _) (Nat.zero_le _) FD.rf
    · have hf := ite_f (fun h => h h8) hf
      refine wm_bipush (v := (-2)) C dX12_through_20 (by decide) (pc' := 22) rfl ?_
      obtain ⟨rfl, rfl⟩ := leaf_s hf
      exact wm_iret C dX12_through_22 (Nat.zero_le _) (Nat.zero_le _) FD.rf
  · have hf := ite_f h4 hf
    refine wm_ikonst (v := (-1)) C dX12_through_8 (by decide) (pc' := 9) rfl ?_
    obtain ⟨rfl, rfl⟩ := leaf_s hf
    exact wm_iret C dX12_through_9 (Nat.zero_le _) (Nat.zero_le _) FD.rf
def fX12_open_L3 : Nat → Int32 → MS → Option (Int32 × MS)
  | 0, _, _ => none
  | fu + 1, x1, s => if x1 ≤ 0 then some (x1, s) else bnd (fX12_countWays x1 s) (fun r2 s3 => if ¬ r2 = 0 then some (x1, s3) else fX12_open_L3 fu (x1 + (-1)) s3)
theorem fX12_open_L3_s (fu : Nat) (x1 : Int32) (s : MS) : fX12_open_L3 (fu + 1) x1 s = (if x1 ≤ 0 then some (x1, s) else bnd (fX12_countWays x1 s) (fun r2 s3 => if ¬ r2 = 0 then some (x1, s3) else fX12_open_L3 fu (x1 + (-1)) s3)) := rfl
def fX12_open (σ : MS) : Option (Int32 × MS) :=
  bnd (fX12_open_L3 FU 12 σ) (fun v6 s7 => some (v6, s7))
set_option maxHeartbeats 4000000 in
set_option maxRecDepth 100000 in
theorem kX12_open (l : Launch) (D : va_G) (τ : CId) (q : Nat → Nat) (σ : MS) (rE : Int32) (sE : MS) (hf : fX12_open σ = some (rE, sE)) : Ct l D τ yX12_open wsX12_open { frames := 2, cells := 0, slots := 0, locals := 52 } [.ref (q 0)] (mW τ q σ) (FD (mW τ q sE) (some (.int rE))) := by
  unfold fX12_open at hf
  refine ct_of (cc := cX12_open) (maxL := 2) (ret := (some .int)) (by decide) rfl (Nat.le_of_ble_eq_true rfl) (fun Γ C => ?_)
  refine wm_lv (lv' := [(0, .ref (q 0))]) rfl ?_
  have wL_3 : ∀ (fu : Nat) (x1 : Int32) (s : MS) (v : Int32) (s' : MS), fX12_open_L3 fu x1 s = some (v, s') → WM l D Γ 2 0 0 (mW τ q s') 21 [(1, .int v)] [] → WM l D Γ 2 0 0 (mW τ q s) 3 [(0, .ref (q 0)), (1, .int x1)] [] := by
    intro fu
    induction fu with
    | zero => intro x1 s v s' hf hE; exact absurd hf (fun h => nomatch (show (none : Option _) = some _ from h))
    | succ fu ih =>
      intro x1 s v s' hf hE
      rw [fX12_open_L3_s] at hf
      refine wm_iload_n C dX12_open_3 1 rfl (pc' := 4) rfl ?_
      refine wm_if_le C dX12_open_4 21 (by decide) (pc' := 7) rfl (fun h1 => ?_) (fun h1 => ?_)
      · have hf := ite_t h1 hf
        obtain ⟨rfl, rfl⟩ := leaf_s hf
        refine wm_sub (lv' := [(1, .int x1)]) [1] rfl ?_
        exact hE
      · have hf := ite_f h1 hf
        refine wm_aload_n C dX12_open_7 0 rfl (pc' := 8) rfl ?_
        refine wm_iload_n C dX12_open_8 1 rfl (pc' := 9) rfl ?_
        obtain ⟨r2, s3, h4, hf⟩ := bnd_s hf
        refine wm_callVd (nn := 1) (As := [.int x1]) (rest := []) (st' := [.int r2]) C dX12_open_9 (kX12_countWays l D τ q s x1 r2 s3 h4) gX12_open_X12_countWays rfl (by decide +kernel) ⟨Nat.le_of_ble_eq_true rfl, Nat.le_of_ble_eq_true rfl⟩ rfl rfl ⟨Nat.zero_le _, Nat.zero_le _⟩ 0 rfl rfl rfl rfl (Nat.le_of_ble_eq_true rfl) rfl (pc' := 12) rfl ?_
        refine wm_if_ne C dX12_open_12 21 (by decide) (pc' := 15) rfl (fun h5 => ?_) (fun h5 => ?_)
        · have hf := ite_t h5 hf
          obtain ⟨rfl, rfl⟩ := leaf_s hf
          refine wm_sub (lv' := [(1, .int x1)]) [1] rfl ?_
          exact hE
        · have hf := ite_f (fun h => h h5) hf
          refine wm_iinc (v := x1 + (-1)) (lv' := [(1, .int (x1 + (-1))), (0, .ref (q 0))]) C dX12_open_15 1 rfl rfl (by decide) rfl (pc' := 18) rfl ?_
          refine wm_goto C dX12_open_18 3 (by decide) ?_
          refine wm_sub (lv' := [(0, .ref (q 0)), (1, .int (x1 + (-1)))]) [1, 0] rfl ?_
          exact ih (x1 + (-1)) s3 _ _ hf hE
  refine wm_bipush (v := 12) C dX12_open_0 (by decide) (pc' := 2) rfl ?_
  refine wm_istore_n (lv' := [(1, .int 12), (0, .ref (q 0))]) C dX12_open_2 (by decide) rfl (pc' := 3) rfl ?_
  refine wm_sub (lv' := [(0, .ref (q 0)), (1, .int 12)]) [1, 0] rfl ?_
  obtain ⟨v6, s7, h8, hf⟩ := bnd_s hf
  refine wL_3 FU 12 σ v6 s7 h8 ?_
  refine wm_iload_n C dX12_open_21 0 rfl (pc' := 22) rfl ?_
  obtain ⟨rfl, rfl⟩ := leaf_s hf
  exact wm_iret C dX12_open_22 (Nat.zero_le _) (Nat.zero_le _) FD.rf
def fX12_run_L15 (x1 : Int32) : Nat → Int32 → MS → Option (Int32 × MS)
  | 0, _, _ => none
  | fu + 1, x2, s => if 200 ≤ x2 then some (x2, s) else bnd (fX12_countWays x1 s) (fun r6 s7 => if ¬ r6 = 0 then some (x2, s7) else bnd (fX12_stepOnce s7) (fun r10 s11 => fX12_run_L15 x1 fu (x2 + 1) s11))
theorem fX12_run_L15_s (x1 : Int32) (fu : Nat) (x2 : Int32) (s : MS) : fX12_run_L15 x1 (fu + 1) x2 s = (if 200 ≤ x2 then some (x2, s) else bnd (fX12_countWays x1 s) (fun r6 s7 => if ¬ r6 = 0 then some (x2, s7) else bnd (fX12_stepOnce s7) (fun r10 s11 => fX12_run_L15 x1 fu (x2 + 1) s11))) := rfl
def fX12_run (x1 : Int32) (σ : MS) : Option (Int32 × MS) :=
  bnd (fX12_among x1 1 12) (fun r1 u2 => if ¬ r1 = 0 then bnd (fX12_run_L15 x1 FU 0 σ) (fun v13 s14 => bnd (fX12_countWays x1 s14) (fun r16 s17 => if r16 ≤ 0 then some ((-9), s17) else some (v13, s17))) else some ((-2), σ))
set_option maxHeartbeats 4000000 in
set_option maxRecDepth 100000 in
theorem kX12_run (l : Launch) (D : va_G) (τ : CId) (q : Nat → Nat) (σ : MS) (x1 : Int32) (rE : Int32) (sE : MS) (hf : fX12_run x1 σ = some (rE, sE)) : Ct l D τ yX12_run wsX12_run { frames := 4, cells := 0, slots := 0, locals := 93 } [.ref (q 0), .int x1] (mW τ q σ) (FD (mW τ q sE) (some (.int rE))) := by
  unfold fX12_run at hf
  refine ct_of (cc := cX12_run) (maxL := 4) (ret := (some .int)) (by decide) rfl (Nat.le_of_ble_eq_true rfl) (fun Γ C => ?_)
  refine wm_lv (lv' := [(0, .ref (q 0)), (1, .int x1)]) rfl ?_
  have wL_15 : ∀ (x1 : Int32) (fu : Nat) (x2 : Int32) (s : MS) (v : Int32) (s' : MS), fX12_run_L15 x1 fu x2 s = some (v, s') → WM l D Γ 4 0 0 (mW τ q s') 41 [(0, .ref (q 0)), (1, .int x1), (2, .int v)] [] → WM l D Γ 4 0 0 (mW τ q s) 15 [(0, .ref (q 0)), (1, .int x1), (2, .int x2)] [] := by
    intro x1
    intro fu
    induction fu with
    | zero => intro x2 s v s' hf hE; exact absurd hf (fun h => nomatch (show (none : Option _) = some _ from h))
    | succ fu ih =>
      intro x2 s v s' hf hE
      rw [fX12_run_L15_s] at hf
      refine wm_iload_n C dX12_run_15 2 rfl (pc' := 16) rfl ?_
      refine wm_sipush (v := 200) C dX12_run_16 (by decide) (pc' := 19) rfl ?_
      refine wm_icmp_ge C dX12_run_19 41 (by decide) (pc' := 22) rfl (fun h5 => ?_) (fun h5 => ?_)
      · have hf := ite_t h5 hf
        obtain ⟨rfl, rfl⟩ := leaf_s hf
        exact hE
      · have hf := ite_f h5 hf
        refine wm_aload_n C dX12_run_22 0 rfl (pc' := 23) rfl ?_
        refine wm_iload_n C dX12_run_23 1 rfl (pc' := 24) rfl ?_
        obtain ⟨r6, s7, h8, hf⟩ := bnd_s hf
        refine wm_callVd (nn := 1) (As := [.int x1]) (rest := []) (st' := [.int r6]) C dX12_run_24 (kX12_countWays l D τ q s x1 r6 s7 h8) gX12_run_X12_countWays rfl (by decide +kernel) ⟨Nat.le_of_ble_eq_true rfl, Nat.le_of_ble_eq_true rfl⟩ rfl rfl ⟨Nat.zero_le _, Nat.zero_le _⟩ 0 rfl rfl rfl rfl (Nat.le_of_ble_eq_true rfl) rfl (pc' := 27) rfl ?_
        refine wm_if_ne C dX12_run_27 41 (by decide) (pc' := 30) rfl (fun h9 => ?_) (fun h9 => ?_)
        · have hf := ite_t h9 hf
          obtain ⟨rfl, rfl⟩ := leaf_s hf
          exact hE
        · have hf := ite_f (fun h => h h9) hf
          refine wm_aload_n C dX12_run_30 0 rfl (pc' := 31) rfl ?_
          obtain ⟨r10, s11, h12, hf⟩ := bnd_s hf
          refine wm_callVd (nn := 0) (As := []) (rest := []) (st' := [.int r10]) C dX12_run_31 (kX12_stepOnce l D τ q s7 r10 s11 h12) gX12_run_X12_stepOnce rfl (by decide +kernel) ⟨Nat.le_of_ble_eq_true rfl, Nat.le_of_ble_eq_true rfl⟩ rfl rfl ⟨Nat.zero_le _, Nat.zero_le _⟩ 0 rfl rfl rfl rfl (Nat.le_of_ble_eq_true rfl) rfl (pc' := 34) rfl ?_
          refine wm_istore_n (lv' := [(3, .int r10), (0, .ref (q 0)), (1, .int x1), (2, .int x2)]) C dX12_run_34 (by decide) rfl (pc' := 35) rfl ?_
          refine wm_iinc (v := x2 + 1) (lv' := [(2, .int (x2 + 1)), (3, .int r10), (0, .ref (q 0)), (1, .int x1)]) C dX12_run_35 3 rfl rfl (by decide) rfl (pc' := 38) rfl ?_
          refine wm_goto C dX12_run_38 15 (by decide) ?_
          refine wm_sub (lv' := [(0, .ref (q 0)), (1, .int x1), (2, .int (x2 + 1))]) [2, 3, 0] rfl ?_
          exact ih (x2 + 1) s11 _ _ hf hE
  refine wm_iload_n C dX12_run_0 1 rfl (pc' := 1) rfl ?_
  refine wm_ikonst (v := 1) C dX12_run_1 (by decide) (pc' := 2) rfl ?_
  refine wm_bipush (v := 12) C dX12_run_2 (by decide) (pc' := 4) rfl ?_
  obtain ⟨r1, u2, h3, hf⟩ := bnd_s hf
  refine wm_callSd (nn := 3) (As := [.int x1, .int 1, .int 12]) (rest := []) (st' := [.int r1]) C dX12_run_4 (kX12_among l D τ x1 1 12 r1 h3) gX12_run_X12_among rfl (by decide +kernel) ⟨Nat.le_of_ble_eq_true rfl, Nat.le_of_ble_eq_true rfl⟩ rfl rfl ⟨Nat.zero_le _, Nat.zero_le _⟩ rfl rfl (Nat.le_of_ble_eq_true rfl) rfl (pc' := 7) rfl ?_
  refine wm_if_ne C dX12_run_7 13 (by decide) (pc' := 10) rfl (fun h4 => ?_) (fun h4 => ?_)
  · have hf := ite_t h4 hf
    refine wm_ikonst (v := 0) C dX12_run_13 (by decide) (pc' := 14) rfl ?_
    refine wm_istore_n (lv' := [(2, .int 0), (0, .ref (q 0)), (1, .int x1)]) C dX12_run_14 (by decide) rfl (pc' := 15) rfl ?_
    refine wm_sub (lv' := [(0, .ref (q 0)), (1, .int x1), (2, .int 0)]) [1, 2, 0] rfl ?_
    obtain ⟨v13, s14, h15, hf⟩ := bnd_s hf
    refine wL_15 x1 FU 0 σ v13 s14 h15 ?_
    refine wm_aload_n C dX12_run_41 0 rfl (pc' := 42) rfl ?_
    refine wm_iload_n C dX12_run_42 1 rfl (pc' := 43) rfl ?_
    obtain ⟨r16, s17, h18, hf⟩ := bnd_s hf
    refine wm_callVd (nn := 1) (As := [.int x1]) (rest := []) (st' := [.int r16]) C dX12_run_43 (kX12_countWays l D τ q s14 x1 r16 s17 h18) gX12_run_X12_countWays rfl (by decide +kernel) ⟨Nat.le_of_ble_eq_true rfl, Nat.le_of_ble_eq_true rfl⟩ rfl rfl ⟨Nat.zero_le _, Nat.zero_le _⟩ 0 rfl rfl rfl rfl (Nat.le_of_ble_eq_true rfl) rfl (pc' := 46) rfl ?_
    refine wm_if_le C dX12_run_46 53 (by decide) (pc' := 49) rfl (fun h19 => ?_) (fun h19 => ?_)
    · have hf := ite_t h19 hf
      refine wm_bipush (v := (-9)) C dX12_run_53 (by decide) (pc' := 55) rfl ?_
      obtain ⟨rfl, rfl⟩ := leaf_s hf
      exact wm_iret C dX12_run_55 (Nat.zero_le _) (Nat.zero_le _) FD.rf
    · have hf := ite_f h19 hf
      refine wm_iload_n C dX12_run_49 2 rfl (pc' := 50) rfl ?_
      refine wm_goto C dX12_run_50 55 (by decide) ?_
      obtain ⟨rfl, rfl⟩ := leaf_s hf
      exact wm_iret C dX12_run_55 (Nat.zero_le _) (Nat.zero_le _) FD.rf
  · have hf := ite_f (fun h => h h4) hf
    refine wm_bipush (v := (-2)) C dX12_run_10 (by decide) (pc' := 12) rfl ?_
    obtain ⟨rfl, rfl⟩ := leaf_s hf
    exact wm_iret C dX12_run_12 (Nat.zero_le _) (Nat.zero_le _) FD.rf
def fX12_told_J93 (rec : Int32 → Int32 → MS → Option (Int32 × MS)) (x3 : Int32) (t0 : Int32) (t1 : Int32) (s : MS) : Option (Int32 × MS) :=
  rec (t1 + t0) (x3 + 1) s
def fX12_told_L70 : Nat → Int32 → Int32 → MS → Option (Int32 × MS)
  | 0, _, _, _ => none
  | fu + 1, x2, x3, s => if (gI s 1) ≤ x3 then some (x2, s) else if ¬ (x3 < 0 ∨ 6 ≤ x3.toNatClampNeg) then if (gA s 2 x3.toNatClampNeg) = 0 then fX12_told_J93 (fX12_told_L70 fu) x3 0 x2 s else fX12_told_J93 (fX12_told_L70 fu) x3 1 x2 s else none
theorem fX12_told_L70_s (fu : Nat) (x2 : Int32) (x3 : Int32) (s : MS) : fX12_told_L70 (fu + 1) x2 x3 s = (if (gI s 1) ≤ x3 then some (x2, s) else if ¬ (x3 < 0 ∨ 6 ≤ x3.toNatClampNeg) then if (gA s 2 x3.toNatClampNeg) = 0 then fX12_told_J93 (fX12_told_L70 fu) x3 0 x2 s else fX12_told_J93 (fX12_told_L70 fu) x3 1 x2 s else none) := rfl
def fX12_told_J132 (rec : Int32 → Int32 → MS → Option (Int32 × MS)) (x3 : Int32) (t0 : Int32) (t1 : Int32) (s : MS) : Option (Int32 × MS) :=
  rec (t1 + t0) (x3 + 1) s
def fX12_told_L109 : Nat → Int32 → Int32 → MS → Option (Int32 × MS)
  | 0, _, _, _ => none
  | fu + 1, x2, x3, s => if (gI s 1) ≤ x3 then some (x2, s) else if ¬ (x3 < 0 ∨ 6 ≤ x3.toNatClampNeg) then if (gA s 13 x3.toNatClampNeg) = 0 then fX12_told_J132 (fX12_told_L109 fu) x3 1 x2 s else fX12_told_J132 (fX12_told_L109 fu) x3 0 x2 s else none
theorem fX12_told_L109_s (fu : Nat) (x2 : Int32) (x3 : Int32) (s : MS) : fX12_told_L109 (fu + 1) x2 x3 s = (if (gI s 1) ≤ x3 then some (x2, s) else if ¬ (x3 < 0 ∨ 6 ≤ x3.toNatClampNeg) then if (gA s 13 x3.toNatClampNeg) = 0 then fX12_told_J132 (fX12_told_L109 fu) x3 1 x2 s else fX12_told_J132 (fX12_told_L109 fu) x3 0 x2 s else none) := rfl
def fX12_told_J182 (rec : Int32 → Int32 → MS → Option (Int32 × MS)) (x1 : Int32) (x3 : Int32) (t0 : Int32) (t1 : Int32) (s : MS) : Option (Int32 × MS) :=
  rec (t1 + t0) (x3 + 1) s
def fX12_told_L144 (x1 : Int32) : Nat → Int32 → Int32 → MS → Option (Int32 × MS)
  | 0, _, _, _ => none
  | fu + 1, x2, x3, s => if (gI s 4) ≤ x3 then some (x2, s) else if ¬ x1 = 7 then if ¬ (x3 < 0 ∨ 12 ≤ x3.toNatClampNeg) then if (gA s 8 x3.toNatClampNeg) ≤ 0 then fX12_told_J182 (fX12_told_L144 x1 fu) x1 x3 0 x2 s else fX12_told_J182 (fX12_told_L144 x1 fu) x1 x3 1 x2 s else none else if ¬ (x3 < 0 ∨ 12 ≤ x3.toNatClampNeg) then fX12_told_J182 (fX12_told_L144 x1 fu) x1 x3 (gA s 8 x3.toNatClampNeg) x2 s else none
theorem fX12_told_L144_s (x1 : Int32) (fu : Nat) (x2 : Int32) (x3 : Int32) (s : MS) : fX12_told_L144 x1 (fu + 1) x2 x3 s = (if (gI s 4) ≤ x3 then some (x2, s) else if ¬ x1 = 7 then if ¬ (x3 < 0 ∨ 12 ≤ x3.toNatClampNeg) then if (gA s 8 x3.toNatClampNeg) ≤ 0 then fX12_told_J182 (fX12_told_L144 x1 fu) x1 x3 0 x2 s else fX12_told_J182 (fX12_told_L144 x1 fu) x1 x3 1 x2 s else none else if ¬ (x3 < 0 ∨ 12 ≤ x3.toNatClampNeg) then fX12_told_J182 (fX12_told_L144 x1 fu) x1 x3 (gA s 8 x3.toNatClampNeg) x2 s else none) := rfl
def fX12_told_J142 (x1 : Int32) (x2 : Int32) (s : MS) : Option (Int32 × MS) :=
  bnd (fX12_told_L144 x1 FU x2 0 s) (fun v28 s29 => some (v28, s29))
def fX12_told (x1 : Int32) (σ : MS) : Option (Int32 × MS) :=
  if x1 = 0 then some (gI σ 1, σ) else if x1 = 1 then some (gI σ 4, σ) else if x1 = 2 then some (gI σ 12, σ) else if x1 = 3 then some (gI σ 11, σ) else if x1 = 4 then bnd (fX12_told_L70 FU 0 0 σ) (fun v9 s10 => some (v9, s10)) else if x1 = 5 then bnd (fX12_findWet σ) (fun r13 s14 => bnd (fX12_told_L109 FU 0 0 s14) (fun v19 s20 => some (v19, s20))) else if x1 = 6 then fX12_told_J142 x1 0 σ else if x1 = 7 then fX12_told_J142 x1 0 σ else some ((-2), σ)
theorem in_X12_told : ∀ w ∈ u_ws RX12 TX12 39, w ∈ wsX12_told := by decide +kernel
set_option maxHeartbeats 4000000 in
set_option maxRecDepth 100000 in
theorem kX12_told (l : Launch) (D : va_G) (τ : CId) (q : Nat → Nat) (σ : MS) (x1 : Int32) (rE : Int32) (sE : MS) (hf : fX12_told x1 σ = some (rE, sE)) : Ct l D τ yX12_told wsX12_told { frames := 1, cells := 0, slots := 0, locals := 23 } [.ref (q 0), .int x1] (mW τ q σ) (FD (mW τ q sE) (some (.int rE))) := by
  unfold fX12_told at hf
  refine ct_of (cc := cX12_told) (maxL := 4) (ret := (some .int)) (by decide) rfl (Nat.le_of_ble_eq_true rfl) (fun Γ C => ?_)
  refine wm_lv (lv' := [(0, .ref (q 0)), (1, .int x1)]) rfl ?_
  have wL_70 : ∀ (fu : Nat) (x2 : Int32) (x3 : Int32) (s : MS) (v : Int32) (s' : MS), fX12_told_L70 fu x2 x3 s = some (v, s') → WM l D Γ 4 0 0 (mW τ q s') 101 [(2, .int v)] [] → WM l D Γ 4 0 0 (mW τ q s) 70 [(0, .ref (q 0)), (2, .int x2), (3, .int x3)] [] := by
    intro fu
    induction fu with
    | zero => intro x2 x3 s v s' hf hE; exact absurd hf (fun h => nomatch (show (none : Option _) = some _ from h))
    | succ fu ih =>
      intro x2 x3 s v s' hf hE
      rw [fX12_told_L70_s] at hf
      have wJ_93 : ∀ (x3 : Int32) (t0 : Int32) (t1 : Int32) (s : MS) (v : Int32) (s' : MS), fX12_told_J93 (fX12_told_L70 fu) x3 t0 t1 s = some (v, s') → WM l D Γ 4 0 0 (mW τ q s') 101 [(2, .int v)] [] → WM l D Γ 4 0 0 (mW τ q s) 93 [(0, .ref (q 0)), (3, .int x3)] [.int t0, .int t1] := by
        intro x3 t0 t1 s v s' hf hE
        unfold fX12_told_J93 at hf
        refine wm_iadd C dX12_told_93 (pc' := 94) rfl ?_
        refine wm_istore_n (lv' := [(2, .int (t1 + t0)), (0, .ref (q 0)), (3, .int x3)]) C dX12_told_94 (by decide) rfl (pc' := 95) rfl ?_
        refine wm_iinc (v := x3 + 1) (lv' := [(3, .int (x3 + 1)), (2, .int (t1 + t0)), (0, .ref (q 0))]) C dX12_told_95 2 rfl rfl (by decide) rfl (pc' := 98) rfl ?_
        refine wm_goto C dX12_told_98 70 (by decide) ?_
        refine wm_sub (lv' := [(0, .ref (q 0)), (2, .int (t1 + t0)), (3, .int (x3 + 1))]) [2, 1, 0] rfl ?_
        exact ih (t1 + t0) (x3 + 1) s _ _ hf hE
      refine wm_iload_n C dX12_told_70 2 rfl (pc' := 71) rfl ?_
      refine wm_aload_n C dX12_told_71 0 rfl (pc' := 72) rfl ?_
      refine m_get (v := .int (gI s 1)) C dX12_told_72 in_X12_told 1 (by decide) (by decide +kernel) rfl rfl (pc' := 75) rfl ?_
      refine wm_icmp_ge C dX12_told_75 101 (by decide) (pc' := 78) rfl (fun h6 => ?_) (fun h6 => ?_)
      · have hf := ite_t h6 hf
        obtain ⟨rfl, rfl⟩ := leaf_s hf
        refine wm_sub (lv' := [(2, .int x2)]) [1] rfl ?_
        exact hE
      · have hf := ite_f h6 hf
        refine wm_iload_n C dX12_told_78 1 rfl (pc' := 79) rfl ?_
        refine wm_aload_n C dX12_told_79 0 rfl (pc' := 80) rfl ?_
        refine m_get (v := .ref (q 2)) C dX12_told_80 in_X12_told 2 (by decide) (by decide +kernel) rfl rfl (pc' := 83) rfl ?_
        refine wm_iload_n C dX12_told_83 2 rfl (pc' := 84) rfl ?_
        obtain ⟨h7, hf⟩ := chk_s hf
        refine wm_zald (f := gA s 2) (N := 6) (cA := τ.2.2.1) C dX12_told_84 1 mA_2 rfl h7 (pc' := 85) rfl ?_
        refine wm_if_eq C dX12_told_85 92 (by decide) (pc' := 88) rfl (fun h8 => ?_) (fun h8 => ?_)
        · have hf := ite_t h8 hf
          refine wm_ikonst (v := 0) C dX12_told_92 (by decide) (pc' := 93) rfl ?_
          refine wm_sub (lv' := [(0, .ref (q 0)), (3, .int x3)]) [0, 2] rfl ?_
          exact wJ_93 x3 0 x2 s _ _ hf hE
        · have hf := ite_f h8 hf
          refine wm_ikonst (v := 1) C dX12_told_88 (by decide) (pc' := 89) rfl ?_
          refine wm_goto C dX12_told_89 93 (by decide) ?_
          refine wm_sub (lv' := [(0, .ref (q 0)), (3, .int x3)]) [0, 2] rfl ?_
          exact wJ_93 x3 1 x2 s _ _ hf hE
  have wL_109 : ∀ (fu : Nat) (x2 : Int32) (x3 : Int32) (s : MS) (v : Int32) (s' : MS), fX12_told_L109 fu x2 x3 s = some (v, s') → WM l D Γ 4 0 0 (mW τ q s') 140 [(2, .int v)] [] → WM l D Γ 4 0 0 (mW τ q s) 109 [(0, .ref (q 0)), (2, .int x2), (3, .int x3)] [] := by
    intro fu
    induction fu with
    | zero => intro x2 x3 s v s' hf hE; exact absurd hf (fun h => nomatch (show (none : Option _) = some _ from h))
    | succ fu ih =>
      intro x2 x3 s v s' hf hE
      rw [fX12_told_L109_s] at hf
      have wJ_132 : ∀ (x3 : Int32) (t0 : Int32) (t1 : Int32) (s : MS) (v : Int32) (s' : MS), fX12_told_J132 (fX12_told_L109 fu) x3 t0 t1 s = some (v, s') → WM l D Γ 4 0 0 (mW τ q s') 140 [(2, .int v)] [] → WM l D Γ 4 0 0 (mW τ q s) 132 [(0, .ref (q 0)), (3, .int x3)] [.int t0, .int t1] := by
        intro x3 t0 t1 s v s' hf hE
        unfold fX12_told_J132 at hf
        refine wm_iadd C dX12_told_132 (pc' := 133) rfl ?_
        refine wm_istore_n (lv' := [(2, .int (t1 + t0)), (0, .ref (q 0)), (3, .int x3)]) C dX12_told_133 (by decide) rfl (pc' := 134) rfl ?_
        refine wm_iinc (v := x3 + 1) (lv' := [(3, .int (x3 + 1)), (2, .int (t1 + t0)), (0, .ref (q 0))]) C dX12_told_134 2 rfl rfl (by decide) rfl (pc' := 137) rfl ?_
        refine wm_goto C dX12_told_137 109 (by decide) ?_
        refine wm_sub (lv' := [(0, .ref (q 0)), (2, .int (t1 + t0)), (3, .int (x3 + 1))]) [2, 1, 0] rfl ?_
        exact ih (t1 + t0) (x3 + 1) s _ _ hf hE
      refine wm_iload_n C dX12_told_109 2 rfl (pc' := 110) rfl ?_
      refine wm_aload_n C dX12_told_110 0 rfl (pc' := 111) rfl ?_
      refine m_get (v := .int (gI s 1)) C dX12_told_111 in_X12_told 1 (by decide) (by decide +kernel) rfl rfl (pc' := 114) rfl ?_
      refine wm_icmp_ge C dX12_told_114 140 (by decide) (pc' := 117) rfl (fun h16 => ?_) (fun h16 => ?_)
      · have hf := ite_t h16 hf
        obtain ⟨rfl, rfl⟩ := leaf_s hf
        refine wm_sub (lv' := [(2, .int x2)]) [1] rfl ?_
        exact hE
      · have hf := ite_f h16 hf
        refine wm_iload_n C dX12_told_117 1 rfl (pc' := 118) rfl ?_
        refine wm_aload_n C dX12_told_118 0 rfl (pc' := 119) rfl ?_
        refine m_get (v := .ref (q 13)) C dX12_told_119 in_X12_told 13 (by decide) (by decide +kernel) rfl rfl (pc' := 122) rfl ?_
        refine wm_iload_n C dX12_told_122 2 rfl (pc' := 123) rfl ?_
        obtain ⟨h17, hf⟩ := chk_s hf
        refine wm_zald (f := gA s 13) (N := 6) (cA := τ.2.2.1) C dX12_told_123 9 mA_13 rfl h17 (pc' := 124) rfl ?_
        refine wm_if_eq C dX12_told_124 131 (by decide) (pc' := 127) rfl (fun h18 => ?_) (fun h18 => ?_)
        · have hf := ite_t h18 hf
          refine wm_ikonst (v := 1) C dX12_told_131 (by decide) (pc' := 132) rfl ?_
          refine wm_sub (lv' := [(0, .ref (q 0)), (3, .int x3)]) [0, 2] rfl ?_
          exact wJ_132 x3 1 x2 s _ _ hf hE
        · have hf := ite_f h18 hf
          refine wm_ikonst (v := 0) C dX12_told_127 (by decide) (pc' := 128) rfl ?_
          refine wm_goto C dX12_told_128 132 (by decide) ?_
          refine wm_sub (lv' := [(0, .ref (q 0)), (3, .int x3)]) [0, 2] rfl ?_
          exact wJ_132 x3 0 x2 s _ _ hf hE
  have wL_144 : ∀ (x1 : Int32) (fu : Nat) (x2 : Int32) (x3 : Int32) (s : MS) (v : Int32) (s' : MS), fX12_told_L144 x1 fu x2 x3 s = some (v, s') → WM l D Γ 4 0 0 (mW τ q s') 190 [(2, .int v)] [] → WM l D Γ 4 0 0 (mW τ q s) 144 [(0, .ref (q 0)), (1, .int x1), (2, .int x2), (3, .int x3)] [] := by
    intro x1
    intro fu
    induction fu with
    | zero => intro x2 x3 s v s' hf hE; exact absurd hf (fun h => nomatch (show (none : Option _) = some _ from h))
    | succ fu ih =>
      intro x2 x3 s v s' hf hE
      rw [fX12_told_L144_s] at hf
      have wJ_182 : ∀ (x3 : Int32) (t0 : Int32) (t1 : Int32) (s : MS) (v : Int32) (s' : MS), fX12_told_J182 (fX12_told_L144 x1 fu) x1 x3 t0 t1 s = some (v, s') → WM l D Γ 4 0 0 (mW τ q s') 190 [(2, .int v)] [] → WM l D Γ 4 0 0 (mW τ q s) 182 [(0, .ref (q 0)), (1, .int x1), (3, .int x3)] [.int t0, .int t1] := by
        intro x3 t0 t1 s v s' hf hE
        unfold fX12_told_J182 at hf
        refine wm_iadd C dX12_told_182 (pc' := 183) rfl ?_
        refine wm_istore_n (lv' := [(2, .int (t1 + t0)), (0, .ref (q 0)), (1, .int x1), (3, .int x3)]) C dX12_told_183 (by decide) rfl (pc' := 184) rfl ?_
        refine wm_iinc (v := x3 + 1) (lv' := [(3, .int (x3 + 1)), (2, .int (t1 + t0)), (0, .ref (q 0)), (1, .int x1)]) C dX12_told_184 3 rfl rfl (by decide) rfl (pc' := 187) rfl ?_
        refine wm_goto C dX12_told_187 144 (by decide) ?_
        refine wm_sub (lv' := [(0, .ref (q 0)), (1, .int x1), (2, .int (t1 + t0)), (3, .int (x3 + 1))]) [2, 3, 1, 0] rfl ?_
        exact ih (t1 + t0) (x3 + 1) s _ _ hf hE
      refine wm_iload_n C dX12_told_144 3 rfl (pc' := 145) rfl ?_
      refine wm_aload_n C dX12_told_145 0 rfl (pc' := 146) rfl ?_
      refine m_get (v := .int (gI s 4)) C dX12_told_146 in_X12_told 4 (by decide) (by decide +kernel) rfl rfl (pc' := 149) rfl ?_
      refine wm_icmp_ge C dX12_told_149 190 (by decide) (pc' := 152) rfl (fun h23 => ?_) (fun h23 => ?_)
      · have hf := ite_t h23 hf
        obtain ⟨rfl, rfl⟩ := leaf_s hf
        refine wm_sub (lv' := [(2, .int x2)]) [2] rfl ?_
        exact hE
      · have hf := ite_f h23 hf
        refine wm_iload_n C dX12_told_152 2 rfl (pc' := 153) rfl ?_
        refine wm_iload_n C dX12_told_153 1 rfl (pc' := 154) rfl ?_
        refine wm_bipush (v := 7) C dX12_told_154 (by decide) (pc' := 156) rfl ?_
        refine wm_icmp_ne C dX12_told_156 168 (by decide) (pc' := 159) rfl (fun h24 => ?_) (fun h24 => ?_)
        · have hf := ite_t h24 hf
          refine wm_aload_n C dX12_told_168 0 rfl (pc' := 169) rfl ?_
          refine m_get (v := .ref (q 8)) C dX12_told_169 in_X12_told 8 (by decide) (by decide +kernel) rfl rfl (pc' := 172) rfl ?_
          refine wm_iload_n C dX12_told_172 3 rfl (pc' := 173) rfl ?_
          obtain ⟨h25, hf⟩ := chk_s hf
          refine wm_iald (f := gA s 8) (N := 12) (cA := τ.1) C dX12_told_173 6 mA_8 rfl h25 (pc' := 174) rfl ?_
          refine wm_if_le C dX12_told_174 181 (by decide) (pc' := 177) rfl (fun h26 => ?_) (fun h26 => ?_)
          · have hf := ite_t h26 hf
            refine wm_ikonst (v := 0) C dX12_told_181 (by decide) (pc' := 182) rfl ?_
            refine wm_sub (lv' := [(0, .ref (q 0)), (1, .int x1), (3, .int x3)]) [0, 1, 3] rfl ?_
            exact wJ_182 x3 0 x2 s _ _ hf hE
          · have hf := ite_f h26 hf
            refine wm_ikonst (v := 1) C dX12_told_177 (by decide) (pc' := 178) rfl ?_
            refine wm_goto C dX12_told_178 182 (by decide) ?_
            refine wm_sub (lv' := [(0, .ref (q 0)), (1, .int x1), (3, .int x3)]) [0, 1, 3] rfl ?_
            exact wJ_182 x3 1 x2 s _ _ hf hE
        · have hf := ite_f (fun h => h h24) hf
          refine wm_aload_n C dX12_told_159 0 rfl (pc' := 160) rfl ?_
          refine m_get (v := .ref (q 8)) C dX12_told_160 in_X12_told 8 (by decide) (by decide +kernel) rfl rfl (pc' := 163) rfl ?_
          refine wm_iload_n C dX12_told_163 3 rfl (pc' := 164) rfl ?_
          obtain ⟨h27, hf⟩ := chk_s hf
          refine wm_iald (f := gA s 8) (N := 12) (cA := τ.1) C dX12_told_164 6 mA_8 rfl h27 (pc' := 165) rfl ?_
          refine wm_goto C dX12_told_165 182 (by decide) ?_
          refine wm_sub (lv' := [(0, .ref (q 0)), (1, .int x1), (3, .int x3)]) [0, 1, 3] rfl ?_
          exact wJ_182 x3 (gA s 8 x3.toNatClampNeg) x2 s _ _ hf hE
  have wJ_142 : ∀ (x1 : Int32) (x2 : Int32) (s : MS), fX12_told_J142 x1 x2 s = some (rE, sE) → WM l D Γ 4 0 0 (mW τ q s) 142 [(0, .ref (q 0)), (1, .int x1), (2, .int x2)] [] := by
    intro x1 x2 s hf
    unfold fX12_told_J142 at hf
    refine wm_ikonst (v := 0) C dX12_told_142 (by decide) (pc' := 143) rfl ?_
    refine wm_istore_n (lv' := [(3, .int 0), (0, .ref (q 0)), (1, .int x1), (2, .int x2)]) C dX12_told_143 (by decide) rfl (pc' := 144) rfl ?_
    refine wm_sub (lv' := [(0, .ref (q 0)), (1, .int x1), (2, .int x2), (3, .int 0)]) [1, 2, 3, 0] rfl ?_
    obtain ⟨v28, s29, h30, hf⟩ := bnd_s hf
    refine wL_144 x1 FU x2 0 s v28 s29 h30 ?_
    refine wm_iload_n C dX12_told_190 0 rfl (pc' := 191) rfl ?_
    obtain ⟨rfl, rfl⟩ := leaf_s hf
    exact wm_iret C dX12_told_191 (Nat.zero_le _) (Nat.zero_le _) FD.rf
  refine wm_ikonst (v := 0) C dX12_told_0 (by decide) (pc' := 1) rfl ?_
  refine wm_istore_n (lv' := [(2, .int 0), (0, .ref (q 0)), (1, .int x1)]) C dX12_told_1 (by decide) rfl (pc' := 2) rfl ?_
  refine wm_iload_n C dX12_told_2 2 rfl (pc' := 3) rfl ?_
  by_cases h1 : x1 = 0
  · have hf := ite_t h1 hf
    refine wm_tableIn (off := 45) C dX12_told_3 (by rw [h1]; decide) (by rw [h1]; decide) (by rw [h1]; rfl) 48 (by decide) ?_
    refine wm_aload_n C dX12_told_48 1 rfl (pc' := 49) rfl ?_
    refine m_get (v := .int (gI σ 1)) C dX12_told_49 in_X12_told 1 (by decide) (by decide +kernel) rfl rfl (pc' := 52) rfl ?_
    obtain ⟨rfl, rfl⟩ := leaf_s hf
    exact wm_iret C dX12_told_52 (Nat.zero_le _) (Nat.zero_le _) FD.rf
  · have hf := ite_f h1 hf
    by_cases h2 : x1 = 1
    · have hf := ite_t h2 hf
      refine wm_tableIn (off := 50) C dX12_told_3 (by rw [h2]; decide) (by rw [h2]; decide) (by rw [h2]; rfl) 53 (by decide) ?_
      refine wm_aload_n C dX12_told_53 1 rfl (pc' := 54) rfl ?_
      refine m_get (v := .int (gI σ 4)) C dX12_told_54 in_X12_told 4 (by decide) (by decide +kernel) rfl rfl (pc' := 57) rfl ?_
      obtain ⟨rfl, rfl⟩ := leaf_s hf
      exact wm_iret C dX12_told_57 (Nat.zero_le _) (Nat.zero_le _) FD.rf
    · have hf := ite_f h2 hf
      by_cases h3 : x1 = 2
      · have hf := ite_t h3 hf
        refine wm_tableIn (off := 55) C dX12_told_3 (by rw [h3]; decide) (by rw [h3]; decide) (by rw [h3]; rfl) 58 (by decide) ?_
        refine wm_aload_n C dX12_told_58 1 rfl (pc' := 59) rfl ?_
        refine m_get (v := .int (gI σ 12)) C dX12_told_59 in_X12_told 12 (by decide) (by decide +kernel) rfl rfl (pc' := 62) rfl ?_
        obtain ⟨rfl, rfl⟩ := leaf_s hf
        exact wm_iret C dX12_told_62 (Nat.zero_le _) (Nat.zero_le _) FD.rf
      · have hf := ite_f h3 hf
        by_cases h4 : x1 = 3
        · have hf := ite_t h4 hf
          refine wm_tableIn (off := 60) C dX12_told_3 (by rw [h4]; decide) (by rw [h4]; decide) (by rw [h4]; rfl) 63 (by decide) ?_
          refine wm_aload_n C dX12_told_63 1 rfl (pc' := 64) rfl ?_
          refine m_get (v := .int (gI σ 11)) C dX12_told_64 in_X12_told 11 (by decide) (by decide +kernel) rfl rfl (pc' := 67) rfl ?_
          obtain ⟨rfl, rfl⟩ := leaf_s hf
          exact wm_iret C dX12_told_67 (Nat.zero_le _) (Nat.zero_le _) FD.rf
        · have hf := ite_f h4 hf
          by_cases h5 : x1 = 4
          · have hf := ite_t h5 hf
            refine wm_tableIn (off := 65) C dX12_told_3 (by rw [h5]; decide) (by rw [h5]; decide) (by rw [h5]; rfl) 68 (by decide) ?_
            refine wm_ikonst (v := 0) C dX12_told_68 (by decide) (pc' := 69) rfl ?_
            refine wm_istore_n (lv' := [(3, .int 0), (2, .int 0), (0, .ref (q 0)), (1, .int x1)]) C dX12_told_69 (by decide) rfl (pc' := 70) rfl ?_
            refine wm_sub (lv' := [(0, .ref (q 0)), (2, .int 0), (3, .int 0)]) [2, 1, 0] rfl ?_
            obtain ⟨v9, s10, h11, hf⟩ := bnd_s hf
            refine wL_70 FU 0 0 σ v9 s10 h11 ?_
            refine wm_iload_n C dX12_told_101 0 rfl (pc' := 102) rfl ?_
            obtain ⟨rfl, rfl⟩ := leaf_s hf
            exact wm_iret C dX12_told_102 (Nat.zero_le _) (Nat.zero_le _) FD.rf
          · have hf := ite_f h5 hf
            by_cases h12 : x1 = 5
            · have hf := ite_t h12 hf
              refine wm_tableIn (off := 100) C dX12_told_3 (by rw [h12]; decide) (by rw [h12]; decide) (by rw [h12]; rfl) 103 (by decide) ?_
              refine wm_aload_n C dX12_told_103 1 rfl (pc' := 104) rfl ?_
              obtain ⟨r13, s14, h15, hf⟩ := bnd_s hf
              refine wm_callVd (nn := 0) (As := []) (rest := []) (st' := []) C dX12_told_104 (kX12_findWet l D τ q σ s14 h15) gX12_told_X12_findWet rfl (by decide +kernel) ⟨Nat.le_of_ble_eq_true rfl, Nat.le_of_ble_eq_true rfl⟩ rfl rfl ⟨Nat.zero_le _, Nat.zero_le _⟩ 0 rfl rfl rfl rfl (Nat.le_of_ble_eq_true rfl) rfl (pc' := 107) rfl ?_
              refine wm_ikonst (v := 0) C dX12_told_107 (by decide) (pc' := 108) rfl ?_
              refine wm_istore_n (lv' := [(3, .int 0), (2, .int 0), (0, .ref (q 0)), (1, .int x1)]) C dX12_told_108 (by decide) rfl (pc' := 109) rfl ?_
              refine wm_sub (lv' := [(0, .ref (q 0)), (2, .int 0), (3, .int 0)]) [2, 1, 0] rfl ?_
              obtain ⟨v19, s20, h21, hf⟩ := bnd_s hf
              refine wL_109 FU 0 0 s14 v19 s20 h21 ?_
              refine wm_iload_n C dX12_told_140 0 rfl (pc' := 141) rfl ?_
              obtain ⟨rfl, rfl⟩ := leaf_s hf
              exact wm_iret C dX12_told_141 (Nat.zero_le _) (Nat.zero_le _) FD.rf
            · have hf := ite_f h12 hf
              by_cases h22 : x1 = 6
              · have hf := ite_t h22 hf
                refine wm_tableIn (off := 139) C dX12_told_3 (by rw [h22]; decide) (by rw [h22]; decide) (by rw [h22]; rfl) 142 (by decide) ?_
                refine wm_sub (lv' := [(0, .ref (q 0)), (1, .int x1), (2, .int 0)]) [1, 2, 0] rfl ?_
                exact wJ_142 x1 0 σ hf
              · have hf := ite_f h22 hf
                by_cases h31 : x1 = 7
                · have hf := ite_t h31 hf
                  refine wm_tableIn (off := 139) C dX12_told_3 (by rw [h31]; decide) (by rw [h31]; decide) (by rw [h31]; rfl) 142 (by decide) ?_
                  refine wm_sub (lv' := [(0, .ref (q 0)), (1, .int x1), (2, .int 0)]) [1, 2, 0] rfl ?_
                  exact wJ_142 x1 0 σ hf
                · have hf := ite_f h31 hf
                  refine wm_tableOut C dX12_told_3 (by have a0 := i32_ne (h1); have a1 := i32_ne (h2); have a2 := i32_ne (h3); have a3 := i32_ne (h4); have a4 := i32_ne (h5); have a5 := i32_ne (h12); have a6 := i32_ne (h22); have a7 := i32_ne (h31); rw [show (0 : Int32).toInt = 0 from by decide] at a0; rw [show (1 : Int32).toInt = 1 from by decide] at a1; rw [show (2 : Int32).toInt = 2 from by decide] at a2; rw [show (3 : Int32).toInt = 3 from by decide] at a3; rw [show (4 : Int32).toInt = 4 from by decide] at a4; rw [show (5 : Int32).toInt = 5 from by decide] at a5; rw [show (6 : Int32).toInt = 6 from by decide] at a6; rw [show (7 : Int32).toInt = 7 from by decide] at a7; omega) 192 (by decide) ?_
                  refine wm_bipush (v := (-2)) C dX12_told_192 (by decide) (pc' := 194) rfl ?_
                  obtain ⟨rfl, rfl⟩ := leaf_s hf
                  exact wm_iret C dX12_told_194 (Nat.zero_le _) (Nat.zero_le _) FD.rf
