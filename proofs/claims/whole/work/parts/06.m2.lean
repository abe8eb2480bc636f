def fX12_findWet_L2 : Nat → Int32 → MS → Option (Unit × MS)
  | 0, _, _ => none
  | fu + 1, x1, s => if (gI s 1) ≤ x1 then some ((), s) else if ¬ (x1 < 0 ∨ 6 ≤ x1.toNatClampNeg) then if ¬ (x1 < 0 ∨ 6 ≤ x1.toNatClampNeg) then lets (sA s 13 x1.toNatClampNeg (vp_nar .boolean (gA s 2 x1.toNatClampNeg))) (fun s4 => fX12_findWet_L2 fu (x1 + 1) s4) else none else none
theorem fX12_findWet_L2_s (fu : Nat) (x1 : Int32) (s : MS) : fX12_findWet_L2 (fu + 1) x1 s = (if (gI s 1) ≤ x1 then some ((), s) else if ¬ (x1 < 0 ∨ 6 ≤ x1.toNatClampNeg) then if ¬ (x1 < 0 ∨ 6 ≤ x1.toNatClampNeg) then lets (sA s 13 x1.toNatClampNeg (vp_nar .boolean (gA s 2 x1.toNatClampNeg))) (fun s4 => fX12_findWet_L2 fu (x1 + 1) s4) else none else none) := rfl
def fX12_findWet_J158 (rec : Int32 → MS → Option (Unit × MS)) (x1 : Int32) (x2 : Int32) (t0 : Int32) (t1 : Int32) (s : MS) : Option (Unit × MS) :=
  if ¬ (t1 < 0 ∨ 6 ≤ t1.toNatClampNeg) then lets (sA s 13 t1.toNatClampNeg (vp_nar .boolean t0)) (fun s25 => rec (x2 + 1) s25) else none
def fX12_findWet_J153 (rec : Int32 → MS → Option (Unit × MS)) (x1 : Int32) (x2 : Int32) (t0 : Int32) (s : MS) : Option (Unit × MS) :=
  fX12_findWet_J158 (rec) x1 x2 1 t0 s
def fX12_findWet_J124 (rec : Int32 → MS → Option (Unit × MS)) (x1 : Int32) (x2 : Int32) (x3 : Int32) (t0 : Int32) (t1 : Int32) (s : MS) : Option (Unit × MS) :=
  if ¬ (t1 < 0 ∨ 6 ≤ t1.toNatClampNeg) then lets (sA s 13 t1.toNatClampNeg (vp_nar .boolean t0)) (fun s18 => if ¬ (x2 < 0 ∨ 12 ≤ x2.toNatClampNeg) then if ¬ (x2 < 0 ∨ 12 ≤ x2.toNatClampNeg) then if ¬ ((gA s18 6 x2.toNatClampNeg) < 0 ∨ 6 ≤ (gA s18 6 x2.toNatClampNeg).toNatClampNeg) then if ¬ (gA s18 13 (gA s18 6 x2.toNatClampNeg).toNatClampNeg) = 0 then fX12_findWet_J153 (rec) x1 x2 (gA s18 6 x2.toNatClampNeg) s18 else if x3 = 0 then fX12_findWet_J158 (rec) x1 x2 0 (gA s18 6 x2.toNatClampNeg) s18 else fX12_findWet_J153 (rec) x1 x2 (gA s18 6 x2.toNatClampNeg) s18 else none else none else none) else none
def fX12_findWet_J119 (rec : Int32 → MS → Option (Unit × MS)) (x1 : Int32) (x2 : Int32) (x3 : Int32) (t0 : Int32) (s : MS) : Option (Unit × MS) :=
  fX12_findWet_J124 (rec) x1 x2 x3 1 t0 s
def fX12_findWet_J90 (rec : Int32 → MS → Option (Unit × MS)) (x1 : Int32) (x2 : Int32) (t0 : Int32) (s : MS) : Option (Unit × MS) :=
  if ¬ (x2 < 0 ∨ 12 ≤ x2.toNatClampNeg) then if ¬ (x2 < 0 ∨ 12 ≤ x2.toNatClampNeg) then if ¬ ((gA s 5 x2.toNatClampNeg) < 0 ∨ 6 ≤ (gA s 5 x2.toNatClampNeg).toNatClampNeg) then if ¬ (gA s 13 (gA s 5 x2.toNatClampNeg).toNatClampNeg) = 0 then fX12_findWet_J119 (rec) x1 x2 t0 (gA s 5 x2.toNatClampNeg) s else if t0 = 0 then fX12_findWet_J124 (rec) x1 x2 t0 0 (gA s 5 x2.toNatClampNeg) s else fX12_findWet_J119 (rec) x1 x2 t0 (gA s 5 x2.toNatClampNeg) s else none else none else none
def fX12_findWet_J89 (rec : Int32 → MS → Option (Unit × MS)) (x1 : Int32) (x2 : Int32) (s : MS) : Option (Unit × MS) :=
  fX12_findWet_J90 (rec) x1 x2 0 s
def fX12_findWet_J85 (rec : Int32 → MS → Option (Unit × MS)) (x1 : Int32) (x2 : Int32) (s : MS) : Option (Unit × MS) :=
  fX12_findWet_J90 (rec) x1 x2 1 s
def fX12_findWet_L40 (x1 : Int32) : Nat → Int32 → MS → Option (Unit × MS)
  | 0, _, _ => none
  | fu + 1, x2, s => if (gI s 4) ≤ x2 then some ((), s) else if ¬ (x2 < 0 ∨ 12 ≤ x2.toNatClampNeg) then if (gA s 8 x2.toNatClampNeg) ≤ 0 then fX12_findWet_J89 (fX12_findWet_L40 x1 fu) x1 x2 s else if ¬ (x2 < 0 ∨ 12 ≤ x2.toNatClampNeg) then if ¬ ((gA s 5 x2.toNatClampNeg) < 0 ∨ 6 ≤ (gA s 5 x2.toNatClampNeg).toNatClampNeg) then if ¬ (gA s 13 (gA s 5 x2.toNatClampNeg).toNatClampNeg) = 0 then fX12_findWet_J85 (fX12_findWet_L40 x1 fu) x1 x2 s else if ¬ (x2 < 0 ∨ 12 ≤ x2.toNatClampNeg) then if ¬ ((gA s 6 x2.toNatClampNeg) < 0 ∨ 6 ≤ (gA s 6 x2.toNatClampNeg).toNatClampNeg) then if (gA s 13 (gA s 6 x2.toNatClampNeg).toNatClampNeg) = 0 then fX12_findWet_J89 (fX12_findWet_L40 x1 fu) x1 x2 s else fX12_findWet_J85 (fX12_findWet_L40 x1 fu) x1 x2 s else none else none else none else none else none
theorem fX12_findWet_L40_s (x1 : Int32) (fu : Nat) (x2 : Int32) (s : MS) : fX12_findWet_L40 x1 (fu + 1) x2 s = (if (gI s 4) ≤ x2 then some ((), s) else if ¬ (x2 < 0 ∨ 12 ≤ x2.toNatClampNeg) then if (gA s 8 x2.toNatClampNeg) ≤ 0 then fX12_findWet_J89 (fX12_findWet_L40 x1 fu) x1 x2 s else if ¬ (x2 < 0 ∨ 12 ≤ x2.toNatClampNeg) then if ¬ ((gA s 5 x2.toNatClampNeg) < 0 ∨ 6 ≤ (gA s 5 x2.toNatClampNeg).toNatClampNeg) then if ¬ (gA s 13 (gA s 5 x2.toNatClampNeg).toNatClampNeg) = 0 then fX12_findWet_J85 (fX12_findWet_L40 x1 fu) x1 x2 s else if ¬ (x2 < 0 ∨ 12 ≤ x2.toNatClampNeg) then if ¬ ((gA s 6 x2.toNatClampNeg) < 0 ∨ 6 ≤ (gA s 6 x2.toNatClampNeg).toNatClampNeg) then if (gA s 13 (gA s 6 x2.toNatClampNeg).toNatClampNeg) = 0 then fX12_findWet_J89 (fX12_findWet_L40 x1 fu) x1 x2 s else fX12_findWet_J85 (fX12_findWet_L40 x1 fu) x1 x2 s else none else none else none else none else none) := rfl
def fX12_findWet_L30 : Nat → Int32 → MS → Option (Unit × MS)
  | 0, _, _ => none
  | fu + 1, x1, s => if (gI s 1) ≤ x1 then some ((), s) else bnd (fX12_findWet_L40 x1 FU 0 s) (fun v35 s36 => fX12_findWet_L30 fu (x1 + 1) s36)
theorem fX12_findWet_L30_s (fu : Nat) (x1 : Int32) (s : MS) : fX12_findWet_L30 (fu + 1) x1 s = (if (gI s 1) ≤ x1 then some ((), s) else bnd (fX12_findWet_L40 x1 FU 0 s) (fun v35 s36 => fX12_findWet_L30 fu (x1 + 1) s36)) := rfl
def fX12_findWet (σ : MS) : Option (Unit × MS) :=
  bnd (fX12_findWet_L2 FU 0 σ) (fun v6 s7 => bnd (fX12_findWet_L30 FU 0 s7) (fun v38 s39 => some ((), s39)))
theorem in_X12_findWet : ∀ w ∈ u_ws RX12 TX12 39, w ∈ wsX12_findWet := by decide +kernel
set_option maxHeartbeats 4000000 in
set_option maxRecDepth 100000 in
theorem kX12_findWet (l : Launch) (D : va_G) (τ : CId) (q : Nat → Nat) (σ : MS) (sE : MS) (hf : fX12_findWet σ = some ((), sE)) : Ct l D τ yX12_findWet wsX12_findWet { frames := 0, cells := 0, slots := 0, locals := 0 } [.ref (q 0)] (mW τ q σ) (FD (mW τ q sE) none) := by
  unfold fX12_findWet at hf
  refine ct_of (cc := cX12_findWet) (maxL := 4) (ret := none) (by decide) rfl (Nat.le_of_ble_eq_true rfl) (fun Γ C => ?_)
  refine wm_lv (lv' := [(0, .ref (q 0))]) rfl ?_
  have wL_2 : ∀ (fu : Nat) (x1 : Int32) (s : MS) (v : Unit) (s' : MS), fX12_findWet_L2 fu x1 s = some (v, s') → WM l D Γ 4 0 0 (mW τ q s') 28 [(0, .ref (q 0))] [] → WM l D Γ 4 0 0 (mW τ q s) 2 [(0, .ref (q 0)), (1, .int x1)] [] := by
    intro fu
    induction fu with
    | zero => intro x1 s v s' hf hE; exact absurd hf (fun h => nomatch (show (none : Option _) = some _ from h))
    | succ fu ih =>
      intro x1 s v s' hf hE
      rw [fX12_findWet_L2_s] at hf
      refine wm_iload_n C dX12_findWet_2 1 rfl (pc' := 3) rfl ?_
      refine wm_aload_n C dX12_findWet_3 0 rfl (pc' := 4) rfl ?_
      refine m_get (v := .int (gI s 1)) C dX12_findWet_4 in_X12_findWet 1 (by decide) (by decide +kernel) rfl rfl (pc' := 7) rfl ?_
      refine wm_icmp_ge C dX12_findWet_7 28 (by decide) (pc' := 10) rfl (fun h1 => ?_) (fun h1 => ?_)
      · have hf := ite_t h1 hf
        obtain ⟨rfl, rfl⟩ := leaf_s hf
        refine wm_sub (lv' := [(0, .ref (q 0))]) [0] rfl ?_
        exact hE
      · have hf := ite_f h1 hf
        refine wm_aload_n C dX12_findWet_10 0 rfl (pc' := 11) rfl ?_
        refine m_get (v := .ref (q 13)) C dX12_findWet_11 in_X12_findWet 13 (by decide) (by decide +kernel) rfl rfl (pc' := 14) rfl ?_
        refine wm_iload_n C dX12_findWet_14 1 rfl (pc' := 15) rfl ?_
        refine wm_aload_n C dX12_findWet_15 0 rfl (pc' := 16) rfl ?_
        refine m_get (v := .ref (q 2)) C dX12_findWet_16 in_X12_findWet 2 (by decide) (by decide +kernel) rfl rfl (pc' := 19) rfl ?_
        refine wm_iload_n C dX12_findWet_19 1 rfl (pc' := 20) rfl ?_
        obtain ⟨h2, hf⟩ := chk_s hf
        refine wm_zald (f := gA s 2) (N := 6) (cA := τ.2.2.1) C dX12_findWet_20 1 mA_2 rfl h2 (pc' := 21) rfl ?_
        obtain ⟨h3, hf⟩ := chk_s hf
        obtain ⟨s4, e5, hf⟩ := lets_s hf
        refine wm_zast (f := gA s 13) (N := 6) (cA := τ.2.2.1) C dX12_findWet_21 9 mA_13 rfl h3 (Wd' := mW τ q s4) ((mS_13 _ _).trans (congrArg (mW τ q) e5.symm)) (pc' := 22) rfl ?_
        refine wm_iinc (v := x1 + 1) (lv' := [(1, .int (x1 + 1)), (0, .ref (q 0))]) C dX12_findWet_22 1 rfl rfl (by decide) rfl (pc' := 25) rfl ?_
        refine wm_goto C dX12_findWet_25 2 (by decide) ?_
        refine wm_sub (lv' := [(0, .ref (q 0)), (1, .int (x1 + 1))]) [1, 0] rfl ?_
        exact ih (x1 + 1) s4 _ _ hf hE
  have wL_40 : ∀ (x1 : Int32) (fu : Nat) (x2 : Int32) (s : MS) (v : Unit) (s' : MS), fX12_findWet_L40 x1 fu x2 s = some (v, s') → WM l D Γ 4 0 0 (mW τ q s') 165 [(0, .ref (q 0)), (1, .int x1)] [] → WM l D Γ 4 0 0 (mW τ q s) 40 [(0, .ref (q 0)), (1, .int x1), (2, .int x2)] [] := by
    intro x1
    intro fu
    induction fu with
    | zero => intro x2 s v s' hf hE; exact absurd hf (fun h => nomatch (show (none : Option _) = some _ from h))
    | succ fu ih =>
      intro x2 s v s' hf hE
      rw [fX12_findWet_L40_s] at hf
      have wJ_158 : ∀ (x2 : Int32) (t0 : Int32) (t1 : Int32) (s : MS) (v : Unit) (s' : MS), fX12_findWet_J158 (fX12_findWet_L40 x1 fu) x1 x2 t0 t1 s = some (v, s') → WM l D Γ 4 0 0 (mW τ q s') 165 [(0, .ref (q 0)), (1, .int x1)] [] → WM l D Γ 4 0 0 (mW τ q s) 158 [(0, .ref (q 0)), (1, .int x1), (2, .int x2)] [.int t0, .int t1, .ref (q 13)] := by
        intro x2 t0 t1 s v s' hf hE
        unfold fX12_findWet_J158 at hf
        obtain ⟨h24, hf⟩ := chk_s hf
        obtain ⟨s25, e26, hf⟩ := lets_s hf
        refine wm_zast (f := gA s 13) (N := 6) (cA := τ.2.2.1) C dX12_findWet_158 9 mA_13 rfl h24 (Wd' := mW τ q s25) ((mS_13 _ _).trans (congrArg (mW τ q) e26.symm)) (pc' := 159) rfl ?_
        refine wm_iinc (v := x2 + 1) (lv' := [(2, .int (x2 + 1)), (0, .ref (q 0)), (1, .int x1)]) C dX12_findWet_159 2 rfl rfl (by decide) rfl (pc' := 162) rfl ?_
        refine wm_goto C dX12_findWet_162 40 (by decide) ?_
        refine wm_sub (lv' := [(0, .ref (q 0)), (1, .int x1), (2, .int (x2 + 1))]) [1, 2, 0] rfl ?_
        exact ih (x2 + 1) s25 _ _ hf hE
      have wJ_153 : ∀ (x2 : Int32) (t0 : Int32) (s : MS) (v : Unit) (s' : MS), fX12_findWet_J153 (fX12_findWet_L40 x1 fu) x1 x2 t0 s = some (v, s') → WM l D Γ 4 0 0 (mW τ q s') 165 [(0, .ref (q 0)), (1, .int x1)] [] → WM l D Γ 4 0 0 (mW τ q s) 153 [(0, .ref (q 0)), (1, .int x1), (2, .int x2)] [.int t0, .ref (q 13)] := by
        intro x2 t0 s v s' hf hE
        unfold fX12_findWet_J153 at hf
        refine wm_ikonst (v := 1) C dX12_findWet_153 (by decide) (pc' := 154) rfl ?_
        refine wm_goto C dX12_findWet_154 158 (by decide) ?_
        exact wJ_158 x2 1 t0 s _ _ hf hE
      have wJ_124 : ∀ (x2 : Int32) (x3 : Int32) (t0 : Int32) (t1 : Int32) (s : MS) (v : Unit) (s' : MS), fX12_findWet_J124 (fX12_findWet_L40 x1 fu) x1 x2 x3 t0 t1 s = some (v, s') → WM l D Γ 4 0 0 (mW τ q s') 165 [(0, .ref (q 0)), (1, .int x1)] [] → WM l D Γ 4 0 0 (mW τ q s) 124 [(0, .ref (q 0)), (1, .int x1), (2, .int x2), (3, .int x3)] [.int t0, .int t1, .ref (q 13)] := by
        intro x2 x3 t0 t1 s v s' hf hE
        unfold fX12_findWet_J124 at hf
        obtain ⟨h17, hf⟩ := chk_s hf
        obtain ⟨s18, e19, hf⟩ := lets_s hf
        refine wm_zast (f := gA s 13) (N := 6) (cA := τ.2.2.1) C dX12_findWet_124 9 mA_13 rfl h17 (Wd' := mW τ q s18) ((mS_13 _ _).trans (congrArg (mW τ q) e19.symm)) (pc' := 125) rfl ?_
        refine wm_aload_n C dX12_findWet_125 0 rfl (pc' := 126) rfl ?_
        refine m_get (v := .ref (q 13)) C dX12_findWet_126 in_X12_findWet 13 (by decide) (by decide +kernel) rfl rfl (pc' := 129) rfl ?_
        refine wm_aload_n C dX12_findWet_129 0 rfl (pc' := 130) rfl ?_
        refine m_get (v := .ref (q 6)) C dX12_findWet_130 in_X12_findWet 6 (by decide) (by decide +kernel) rfl rfl (pc' := 133) rfl ?_
        refine wm_iload_n C dX12_findWet_133 2 rfl (pc' := 134) rfl ?_
        obtain ⟨h20, hf⟩ := chk_s hf
        refine wm_iald (f := gA s18 6) (N := 12) (cA := τ.1) C dX12_findWet_134 4 mA_6 rfl h20 (pc' := 135) rfl ?_
        refine wm_aload_n C dX12_findWet_135 0 rfl (pc' := 136) rfl ?_
        refine m_get (v := .ref (q 13)) C dX12_findWet_136 in_X12_findWet 13 (by decide) (by decide +kernel) rfl rfl (pc' := 139) rfl ?_
        refine wm_aload_n C dX12_findWet_139 0 rfl (pc' := 140) rfl ?_
        refine m_get (v := .ref (q 6)) C dX12_findWet_140 in_X12_findWet 6 (by decide) (by decide +kernel) rfl rfl (pc' := 143) rfl ?_
        refine wm_iload_n C dX12_findWet_143 2 rfl (pc' := 144) rfl ?_
        obtain ⟨h21, hf⟩ := chk_s hf
        refine wm_iald (f := gA s18 6) (N := 12) (cA := τ.1) C dX12_findWet_144 4 mA_6 rfl h21 (pc' := 145) rfl ?_
        obtain ⟨h22, hf⟩ := chk_s hf
        refine wm_zald (f := gA s18 13) (N := 6) (cA := τ.2.2.1) C dX12_findWet_145 9 mA_13 rfl h22 (pc' := 146) rfl ?_
        refine wm_if_ne C dX12_findWet_146 153 (by decide) (pc' := 149) rfl (fun h23 => ?_) (fun h23 => ?_)
        · have hf := ite_t h23 hf
          refine wm_sub (lv' := [(0, .ref (q 0)), (1, .int x1), (2, .int x2)]) [0, 1, 2] rfl ?_
          exact wJ_153 x2 (gA s18 6 x2.toNatClampNeg) s18 _ _ hf hE
        · have hf := ite_f (fun h => h h23) hf
          refine wm_iload_n C dX12_findWet_149 3 rfl (pc' := 150) rfl ?_
          refine wm_if_eq C dX12_findWet_150 157 (by decide) (pc' := 153) rfl (fun h27 => ?_) (fun h27 => ?_)
          · have hf := ite_t h27 hf
            refine wm_ikonst (v := 0) C dX12_findWet_157 (by decide) (pc' := 158) rfl ?_
            refine wm_sub (lv' := [(0, .ref (q 0)), (1, .int x1), (2, .int x2)]) [0, 1, 2] rfl ?_
            exact wJ_158 x2 0 (gA s18 6 x2.toNatClampNeg) s18 _ _ hf hE
          · have hf := ite_f h27 hf
            refine wm_sub (lv' := [(0, .ref (q 0)), (1, .int x1), (2, .int x2)]) [0, 1, 2] rfl ?_
            exact wJ_153 x2 (gA s18 6 x2.toNatClampNeg) s18 _ _ hf hE
      have wJ_119 : ∀ (x2 : Int32) (x3 : Int32) (t0 : Int32) (s : MS) (v : Unit) (s' : MS), fX12_findWet_J119 (fX12_findWet_L40 x1 fu) x1 x2 x3 t0 s = some (v, s') → WM l D Γ 4 0 0 (mW τ q s') 165 [(0, .ref (q 0)), (1, .int x1)] [] → WM l D Γ 4 0 0 (mW τ q s) 119 [(0, .ref (q 0)), (1, .int x1), (2, .int x2), (3, .int x3)] [.int t0, .ref (q 13)] := by
        intro x2 x3 t0 s v s' hf hE
        unfold fX12_findWet_J119 at hf
        refine wm_ikonst (v := 1) C dX12_findWet_119 (by decide) (pc' := 120) rfl ?_
        refine wm_goto C dX12_findWet_120 124 (by decide) ?_
        exact wJ_124 x2 x3 1 t0 s _ _ hf hE
      have wJ_90 : ∀ (x2 : Int32) (t0 : Int32) (s : MS) (v : Unit) (s' : MS), fX12_findWet_J90 (fX12_findWet_L40 x1 fu) x1 x2 t0 s = some (v, s') → WM l D Γ 4 0 0 (mW τ q s') 165 [(0, .ref (q 0)), (1, .int x1)] [] → WM l D Γ 4 0 0 (mW τ q s) 90 [(0, .ref (q 0)), (1, .int x1), (2, .int x2)] [.int t0] := by
        intro x2 t0 s v s' hf hE
        unfold fX12_findWet_J90 at hf
        refine wm_istore_n (lv' := [(3, .int t0), (0, .ref (q 0)), (1, .int x1), (2, .int x2)]) C dX12_findWet_90 (by decide) rfl (pc' := 91) rfl ?_
        refine wm_aload_n C dX12_findWet_91 1 rfl (pc' := 92) rfl ?_
        refine m_get (v := .ref (q 13)) C dX12_findWet_92 in_X12_findWet 13 (by decide) (by decide +kernel) rfl rfl (pc' := 95) rfl ?_
        refine wm_aload_n C dX12_findWet_95 1 rfl (pc' := 96) rfl ?_
        refine m_get (v := .ref (q 5)) C dX12_findWet_96 in_X12_findWet 5 (by decide) (by decide +kernel) rfl rfl (pc' := 99) rfl ?_
        refine wm_iload_n C dX12_findWet_99 3 rfl (pc' := 100) rfl ?_
        obtain ⟨h13, hf⟩ := chk_s hf
        refine wm_iald (f := gA s 5) (N := 12) (cA := τ.1) C dX12_findWet_100 3 mA_5 rfl h13 (pc' := 101) rfl ?_
        refine wm_aload_n C dX12_findWet_101 1 rfl (pc' := 102) rfl ?_
        refine m_get (v := .ref (q 13)) C dX12_findWet_102 in_X12_findWet 13 (by decide) (by decide +kernel) rfl rfl (pc' := 105) rfl ?_
        refine wm_aload_n C dX12_findWet_105 1 rfl (pc' := 106) rfl ?_
        refine m_get (v := .ref (q 5)) C dX12_findWet_106 in_X12_findWet 5 (by decide) (by decide +kernel) rfl rfl (pc' := 109) rfl ?_
        refine wm_iload_n C dX12_findWet_109 3 rfl (pc' := 110) rfl ?_
        obtain ⟨h14, hf⟩ := chk_s hf
        refine wm_iald (f := gA s 5) (N := 12) (cA := τ.1) C dX12_findWet_110 3 mA_5 rfl h14 (pc' := 111) rfl ?_
        obtain ⟨h15, hf⟩ := chk_s hf
        refine wm_zald (f := gA s 13) (N := 6) (cA := τ.2.2.1) C dX12_findWet_111 9 mA_13 rfl h15 (pc' := 112) rfl ?_
        refine wm_if_ne C dX12_findWet_112 119 (by decide) (pc' := 115) rfl (fun h16 => ?_) (fun h16 => ?_)
        · have hf := ite_t h16 hf
          refine wm_sub (lv' := [(0, .ref (q 0)), (1, .int x1), (2, .int x2), (3, .int t0)]) [1, 2, 3, 0] rfl ?_
          exact wJ_119 x2 t0 (gA s 5 x2.toNatClampNeg) s _ _ hf hE
        · have hf := ite_f (fun h => h h16) hf
          refine wm_iload_n C dX12_findWet_115 0 rfl (pc' := 116) rfl ?_
          refine wm_if_eq C dX12_findWet_116 123 (by decide) (pc' := 119) rfl (fun h28 => ?_) (fun h28 => ?_)
          · have hf := ite_t h28 hf
            refine wm_ikonst (v := 0) C dX12_findWet_123 (by decide) (pc' := 124) rfl ?_
            refine wm_sub (lv' := [(0, .ref (q 0)), (1, .int x1), (2, .int x2), (3, .int t0)]) [1, 2, 3, 0] rfl ?_
            exact wJ_124 x2 t0 0 (gA s 5 x2.toNatClampNeg) s _ _ hf hE
          · have hf := ite_f h28 hf
            refine wm_sub (lv' := [(0, .ref (q 0)), (1, .int x1), (2, .int x2), (3, .int t0)]) [1, 2, 3, 0] rfl ?_
            exact wJ_119 x2 t0 (gA s 5 x2.toNatClampNeg) s _ _ hf hE
      have wJ_89 : ∀ (x2 : Int32) (s : MS) (v : Unit) (s' : MS), fX12_findWet_J89 (fX12_findWet_L40 x1 fu) x1 x2 s = some (v, s') → WM l D Γ 4 0 0 (mW τ q s') 165 [(0, .ref (q 0)), (1, .int x1)] [] → WM l D Γ 4 0 0 (mW τ q s) 89 [(0, .ref (q 0)), (1, .int x1), (2, .int x2)] [] := by
        intro x2 s v s' hf hE
        unfold fX12_findWet_J89 at hf
        refine wm_ikonst (v := 0) C dX12_findWet_89 (by decide) (pc' := 90) rfl ?_
        exact wJ_90 x2 0 s _ _ hf hE
      have wJ_85 : ∀ (x2 : Int32) (s : MS) (v : Unit) (s' : MS), fX12_findWet_J85 (fX12_findWet_L40 x1 fu) x1 x2 s = some (v, s') → WM l D Γ 4 0 0 (mW τ q s') 165 [(0, .ref (q 0)), (1, .int x1)] [] → WM l D Γ 4 0 0 (mW τ q s) 85 [(0, .ref (q 0)), (1, .int x1), (2, .int x2)] [] := by
        intro x2 s v s' hf hE
        unfold fX12_findWet_J85 at hf
        refine wm_ikonst (v := 1) C dX12_findWet_85 (by decide) (pc' := 86) rfl ?_
        refine wm_goto C dX12_findWet_86 90 (by decide) ?_
        exact wJ_90 x2 1 s _ _ hf hE
      refine wm_iload_n C dX12_findWet_40 2 rfl (pc' := 41) rfl ?_
      refine wm_aload_n C dX12_findWet_41 0 rfl (pc' := 42) rfl ?_
      refine m_get (v := .int (gI s 4)) C dX12_findWet_42 in_X12_findWet 4 (by decide) (by decide +kernel) rfl rfl (pc' := 45) rfl ?_
      refine wm_icmp_ge C dX12_findWet_45 165 (by decide) (pc' := 48) rfl (fun h10 => ?_) (fun h10 => ?_)
      · have hf := ite_t h10 hf
        obtain ⟨rfl, rfl⟩ := leaf_s hf
        refine wm_sub (lv' := [(0, .ref (q 0)), (1, .int x1)]) [0, 1] rfl ?_
        exact hE
      · have hf := ite_f h10 hf
        refine wm_aload_n C dX12_findWet_48 0 rfl (pc' := 49) rfl ?_
        refine m_get (v := .ref (q 8)) C dX12_findWet_49 in_X12_findWet 8 (by decide) (by decide +kernel) rfl rfl (pc' := 52) rfl ?_
        refine wm_iload_n C dX12_findWet_52 2 rfl (pc' := 53) rfl ?_
        obtain ⟨h11, hf⟩ := chk_s hf
        refine wm_iald (f := gA s 8) (N := 12) (cA := τ.1) C dX12_findWet_53 6 mA_8 rfl h11 (pc' := 54) rfl ?_
        refine wm_if_le C dX12_findWet_54 89 (by decide) (pc' := 57) rfl (fun h12 => ?_) (fun h12 => ?_)
        · have hf := ite_t h12 hf
          exact wJ_89 x2 s _ _ hf hE
        · have hf := ite_f h12 hf
          refine wm_aload_n C dX12_findWet_57 0 rfl (pc' := 58) rfl ?_
          refine m_get (v := .ref (q 13)) C dX12_findWet_58 in_X12_findWet 13 (by decide) (by decide +kernel) rfl rfl (pc' := 61) rfl ?_
          refine wm_aload_n C dX12_findWet_61 0 rfl (pc' := 62) rfl ?_
          refine m_get (v := .ref (q 5)) C dX12_findWet_62 in_X12_findWet 5 (by decide) (by decide +kernel) rfl rfl (pc' := 65) rfl ?_
          refine wm_iload_n C dX12_findWet_65 2 rfl (pc' := 66) rfl ?_
          obtain ⟨h29, hf⟩ := chk_s hf
          refine wm_iald (f := gA s 5) (N := 12) (cA := τ.1) C dX12_findWet_66 3 mA_5 rfl h29 (pc' := 67) rfl ?_
          obtain ⟨h30, hf⟩ := chk_s hf
          refine wm_zald (f := gA s 13) (N := 6) (cA := τ.2.2.1) C dX12_findWet_67 9 mA_13 rfl h30 (pc' := 68) rfl ?_
          refine wm_if_ne C dX12_findWet_68 85 (by decide) (pc' := 71) rfl (fun h31 => ?_) (fun h31 => ?_)
          · have hf := ite_t h31 hf
            exact wJ_85 x2 s _ _ hf hE
          · have hf := ite_f (fun h => h h31) hf
            refine wm_aload_n C dX12_findWet_71 0 rfl (pc' := 72) rfl ?_
            refine m_get (v := .ref (q 13)) C dX12_findWet_72 in_X12_findWet 13 (by decide) (by decide +kernel) rfl rfl (pc' := 75) rfl ?_
            refine wm_aload_n C dX12_findWet_75 0 rfl (pc' := 76) rfl ?_
            refine m_get (v := .ref (q 6)) C dX12_findWet_76 in_X12_findWet 6 (by decide) (by decide +kernel) rfl rfl (pc' := 79) rfl ?_
            refine wm_iload_n C dX12_findWet_79 2 rfl (pc' := 80) rfl ?_
            obtain ⟨h32, hf⟩ := chk_s hf
            refine wm_iald (f := gA s 6) (N := 12) (cA := τ.1) C dX12_findWet_80 4 mA_6 rfl h32 (pc' := 81) rfl ?_
            obtain ⟨h33, hf⟩ := chk_s hf
            refine wm_zald (f := gA s 13) (N := 6) (cA := τ.2.2.1) C dX12_findWet_81 9 mA_13 rfl h33 (pc' := 82) rfl ?_
            refine wm_if_eq C dX12_findWet_82 89 (by decide) (pc' := 85) rfl (fun h34 => ?_) (fun h34 => ?_)
            · have hf := ite_t h34 hf
              exact wJ_89 x2 s _ _ hf hE
            · have hf := ite_f h34 hf
              exact wJ_85 x2 s _ _ hf hE
  have wL_30 : ∀ (fu : Nat) (x1 : Int32) (s : MS) (v : Unit) (s' : MS), fX12_findWet_L30 fu x1 s = some (v, s') → WM l D Γ 4 0 0 (mW τ q s') 171 [] [] → WM l D Γ 4 0 0 (mW τ q s) 30 [(0, .ref (q 0)), (1, .int x1)] [] := by
    intro fu
    induction fu with
    | zero => intro x1 s v s' hf hE; exact absurd hf (fun h => nomatch (show (none : Option _) = some _ from h))
    | succ fu ih =>
      intro x1 s v s' hf hE
      rw [fX12_findWet_L30_s] at hf
      refine wm_iload_n C dX12_findWet_30 1 rfl (pc' := 31) rfl ?_
      refine wm_aload_n C dX12_findWet_31 0 rfl (pc' := 32) rfl ?_
      refine m_get (v := .int (gI s 1)) C dX12_findWet_32 in_X12_findWet 1 (by decide) (by decide +kernel) rfl rfl (pc' := 35) rfl ?_
      refine wm_icmp_ge C dX12_findWet_35 171 (by decide) (pc' := 38) rfl (fun h9 => ?_) (fun h9 => ?_)
      · have hf := ite_t h9 hf
        obtain ⟨rfl, rfl⟩ := leaf_s hf
        refine wm_sub (lv' := []) [] rfl ?_
        exact hE
      · have hf := ite_f h9 hf
        refine wm_ikonst (v := 0) C dX12_findWet_38 (by decide) (pc' := 39) rfl ?_
        refine wm_istore_n (lv' := [(2, .int 0), (0, .ref (q 0)), (1, .int x1)]) C dX12_findWet_39 (by decide) rfl (pc' := 40) rfl ?_
        refine wm_sub (lv' := [(0, .ref (q 0)), (1, .int x1), (2, .int 0)]) [1, 2, 0] rfl ?_
        obtain ⟨v35, s36, h37, hf⟩ := bnd_s hf
        refine wL_40 x1 FU 0 s v35 s36 h37 ?_
        refine wm_iinc (v := x1 + 1) (lv' := [(1, .int (x1 + 1)), (0, .ref (q 0))]) C dX12_findWet_165 1 rfl rfl (by decide) rfl (pc' := 168) rfl ?_
        refine wm_goto C dX12_findWet_168 30 (by decide) ?_
        refine wm_sub (lv' := [(0, .ref (q 0)), (1, .int (x1 + 1))]) [1, 0] rfl ?_
        exact ih (x1 + 1) s36 _ _ hf hE
  refine wm_ikonst (v := 0) C dX12_findWet_0 (by decide) (pc' := 1) rfl ?_
  refine wm_istore_n (lv' := [(1, .int 0), (0, .ref (q 0))]) C dX12_findWet_1 (by decide) rfl (pc' := 2) rfl ?_
  refine wm_sub (lv' := [(0, .ref (q 0)), (1, .int 0)]) [1, 0] rfl ?_
  obtain ⟨v6, s7, h8, hf⟩ := bnd_s hf
  refine wL_2 FU 0 σ v6 s7 h8 ?_
  refine wm_ikonst (v := 0) C dX12_findWet_28 (by decide) (pc' := 29) rfl ?_
  refine wm_istore_n (lv' := [(1, .int 0), (0, .ref (q 0))]) C dX12_findWet_29 (by decide) rfl (pc' := 30) rfl ?_
  refine wm_sub (lv' := [(0, .ref (q 0)), (1, .int 0)]) [1, 0] rfl ?_
  obtain ⟨v38, s39, h40, hf⟩ := bnd_s hf
  refine wL_30 FU 0 s7 v38 s39 h40 ?_
  obtain ⟨-, rfl⟩ := leaf_s hf
  exact wm_vret C dX12_findWet_171 (Nat.zero_le _) (Nat.zero_le _) FD.rf
def fX12_ask (x1 : Int32) (x2 : Int32) (x3 : Int32) (σ : MS) : Option (Unit × MS) :=
  if ¬ (x1 < 0 ∨ 6 ≤ x1.toNatClampNeg) then if ¬ (gA σ 2 x1.toNatClampNeg) = 0 then some ((), σ) else if ¬ (x1 < 0 ∨ 6 ≤ x1.toNatClampNeg) then if ¬ (gA σ 13 x1.toNatClampNeg) = 0 then if ¬ (x1 < 0 ∨ 6 ≤ x1.toNatClampNeg) then if ¬ (((6 * (gA σ 18 x1.toNatClampNeg)) + (gA σ 18 x1.toNatClampNeg)) < 0 ∨ 30 ≤ ((6 * (gA σ 18 x1.toNatClampNeg)) + (gA σ 18 x1.toNatClampNeg)).toNatClampNeg) then if ¬ (((6 * (gA σ 18 x1.toNatClampNeg)) + (gA σ 18 x1.toNatClampNeg)) < 0 ∨ 30 ≤ ((6 * (gA σ 18 x1.toNatClampNeg)) + (gA σ 18 x1.toNatClampNeg)).toNatClampNeg) then lets (sB σ 19 ((6 * (gA σ 18 x1.toNatClampNeg)) + (gA σ 18 x1.toNatClampNeg)).toNatClampNeg ((gB σ 19 ((6 * (gA σ 18 x1.toNatClampNeg)) + (gA σ 18 x1.toNatClampNeg)).toNatClampNeg) + x3.toInt64)) (fun s8 => if ¬ (x2 < 0 ∨ 6 ≤ x2.toNatClampNeg) then if (gA s8 2 x2.toNatClampNeg) = 0 then if ¬ (x2 < 0 ∨ 6 ≤ x2.toNatClampNeg) then if ¬ (((6 * (gA σ 18 x1.toNatClampNeg)) + (gA s8 18 x2.toNatClampNeg)) < 0 ∨ 30 ≤ ((6 * (gA σ 18 x1.toNatClampNeg)) + (gA s8 18 x2.toNatClampNeg)).toNatClampNeg) then if ¬ (((6 * (gA σ 18 x1.toNatClampNeg)) + (gA s8 18 x2.toNatClampNeg)) < 0 ∨ 30 ≤ ((6 * (gA σ 18 x1.toNatClampNeg)) + (gA s8 18 x2.toNatClampNeg)).toNatClampNeg) then lets (sB s8 19 ((6 * (gA σ 18 x1.toNatClampNeg)) + (gA s8 18 x2.toNatClampNeg)).toNatClampNeg ((gB s8 19 ((6 * (gA σ 18 x1.toNatClampNeg)) + (gA s8 18 x2.toNatClampNeg)).toNatClampNeg) - x3.toInt64)) (fun s15 => some ((), s15)) else none else none else none else if ¬ (((6 * (gA σ 18 x1.toNatClampNeg)) + 5) < 0 ∨ 30 ≤ ((6 * (gA σ 18 x1.toNatClampNeg)) + 5).toNatClampNeg) then if ¬ (x2 < 0 ∨ 6 ≤ x2.toNatClampNeg) then if ¬ (((6 * (gA σ 18 x1.toNatClampNeg)) + 5) < 0 ∨ 30 ≤ ((6 * (gA σ 18 x1.toNatClampNeg)) + 5).toNatClampNeg) then lets (sB s8 19 ((6 * (gA σ 18 x1.toNatClampNeg)) + 5).toNatClampNeg ((gB s8 19 ((6 * (gA σ 18 x1.toNatClampNeg)) + 5).toNatClampNeg) + (x3.toInt64 * ((gA s8 3 x2.toNatClampNeg).toInt64)))) (fun s20 => some ((), s20)) else none else none else none else none) else none else none else none else some ((), σ) else none else none
theorem in_X12_ask : ∀ w ∈ u_ws RX12 TX12 39, w ∈ wsX12_ask := by decide +kernel
set_option maxHeartbeats 4000000 in
set_option maxRecDepth 100000 in
theorem kX12_ask (l : Launch) (D : va_G) (τ : CId) (q : Nat → Nat) (σ : MS) (x1 : Int32) (x2 : Int32) (x3 : Int32) (sE : MS) (hf : fX12_ask x1 x2 x3 σ = some ((), sE)) : Ct l D τ yX12_ask wsX12_ask { frames := 0, cells := 0, slots := 0, locals := 0 } [.ref (q 0), .int x1, .int x2, .int x3] (mW τ q σ) (FD (mW τ q sE) none) := by
  unfold fX12_ask at hf
  refine ct_of (cc := cX12_ask) (maxL := 5) (ret := none) (by decide) rfl (Nat.le_of_ble_eq_true rfl) (fun Γ C => ?_)
  refine wm_lv (lv' := [(0, .ref (q 0)), (1, .int x1), (2, .int x2), (3, .int x3)]) rfl ?_
  refine wm_aload_n C dX12_ask_0 0 rfl (pc' := 1) rfl ?_
  refine m_get (v := .ref (q 2)) C dX12_ask_1 in_X12_ask 2 (by decide) (by decide +kernel) rfl rfl (pc' := 4) rfl ?_
  refine wm_iload_n C dX12_ask_4 1 rfl (pc' := 5) rfl ?_
  obtain ⟨h1, hf⟩ := chk_s hf
  refine wm_zald (f := gA σ 2) (N := 6) (cA := τ.2.2.1) C dX12_ask_5 1 mA_2 rfl h1 (pc' := 6) rfl ?_
  refine wm_if_ne C dX12_ask_6 18 (by decide) (pc' := 9) rfl (fun h2 => ?_) (fun h2 => ?_)
  · have hf := ite_t h2 hf
    obtain ⟨-, rfl⟩ := leaf_s hf
    exact wm_vret C dX12_ask_18 (Nat.zero_le _) (Nat.zero_le _) FD.rf
  · have hf := ite_f (fun h => h h2) hf
    refine wm_aload_n C dX12_ask_9 0 rfl (pc' := 10) rfl ?_
    refine m_get (v := .ref (q 13)) C dX12_ask_10 in_X12_ask 13 (by decide) (by decide +kernel) rfl rfl (pc' := 13) rfl ?_
    refine wm_iload_n C dX12_ask_13 1 rfl (pc' := 14) rfl ?_
    obtain ⟨h3, hf⟩ := chk_s hf
    refine wm_zald (f := gA σ 13) (N := 6) (cA := τ.2.2.1) C dX12_ask_14 9 mA_13 rfl h3 (pc' := 15) rfl ?_
    refine wm_if_ne C dX12_ask_15 19 (by decide) (pc' := 18) rfl (fun h4 => ?_) (fun h4 => ?_)
    · have hf := ite_t h4 hf
      refine wm_aload_n C dX12_ask_19 0 rfl (pc' := 20) rfl ?_
      refine m_get (v := .ref (q 18)) C dX12_ask_20 in_X12_ask 18 (by decide) (by decide +kernel) rfl rfl (pc' := 23) rfl ?_
      refine wm_iload_n C dX12_ask_23 1 rfl (pc' := 24) rfl ?_
      obtain ⟨h5, hf⟩ := chk_s hf
      refine wm_iald (f := gA σ 18) (N := 6) (cA := τ.1) C dX12_ask_24 12 mA_18 rfl h5 (pc' := 25) rfl ?_
      refine wm_istore (lv' := [(4, .int (gA σ 18 x1.toNatClampNeg)), (0, .ref (q 0)), (1, .int x1), (2, .int x2), (3, .int x3)]) C dX12_ask_25 (by decide) rfl (pc' := 27) rfl ?_
      refine wm_aload_n C dX12_ask_27 1 rfl (pc' := 28) rfl ?_
      refine m_get (v := .ref (q 19)) C dX12_ask_28 in_X12_ask 19 (by decide) (by decide +kernel) rfl rfl (pc' := 31) rfl ?_
      refine wm_bipush (v := 6) C dX12_ask_31 (by decide) (pc' := 33) rfl ?_
      refine wm_iload C dX12_ask_33 0 rfl (pc' := 35) rfl ?_
      refine wm_imul C dX12_ask_35 (pc' := 36) rfl ?_
      refine wm_iload C dX12_ask_36 0 rfl (pc' := 38) rfl ?_
      refine wm_iadd C dX12_ask_38 (pc' := 39) rfl ?_
      refine wm_dup2 C dX12_ask_39 rfl rfl (pc' := 40) rfl ?_
      obtain ⟨h6, hf⟩ := chk_s hf
      refine wm_lald (f := gB σ 19) (N := 30) (cA := τ.2.1) C dX12_ask_40 13 mA_19 rfl h6 (pc' := 41) rfl ?_
      refine wm_iload_n C dX12_ask_41 4 rfl (pc' := 42) rfl ?_
      refine wm_i2l C dX12_ask_42 (pc' := 43) rfl ?_
      refine wm_ladd C dX12_ask_43 (pc' := 44) rfl ?_
      obtain ⟨h7, hf⟩ := chk_s hf
      obtain ⟨s8, e9, hf⟩ := lets_s hf
      refine wm_last (f := gB σ 19) (N := 30) (cA := τ.2.1) C dX12_ask_44 13 mA_19 rfl h7 (Wd' := mW τ q s8) ((mS_19 _ _).trans (congrArg (mW τ q) e9.symm)) (pc' := 45) rfl ?_
      refine wm_aload_n C dX12_ask_45 1 rfl (pc' := 46) rfl ?_
      refine m_get (v := .ref (q 2)) C dX12_ask_46 in_X12_ask 2 (by decide) (by decide +kernel) rfl rfl (pc' := 49) rfl ?_
      refine wm_iload_n C dX12_ask_49 3 rfl (pc' := 50) rfl ?_
      obtain ⟨h10, hf⟩ := chk_s hf
      refine wm_zald (f := gA s8 2) (N := 6) (cA := τ.2.2.1) C dX12_ask_50 1 mA_2 rfl h10 (pc' := 51) rfl ?_
      refine wm_if_eq C dX12_ask_51 82 (by decide) (pc' := 54) rfl (fun h11 => ?_) (fun h11 => ?_)
      · have hf := ite_t h11 hf
        refine wm_aload_n C dX12_ask_82 1 rfl (pc' := 83) rfl ?_
        refine m_get (v := .ref (q 19)) C dX12_ask_83 in_X12_ask 19 (by decide) (by decide +kernel) rfl rfl (pc' := 86) rfl ?_
        refine wm_bipush (v := 6) C dX12_ask_86 (by decide) (pc' := 88) rfl ?_
        refine wm_iload C dX12_ask_88 0 rfl (pc' := 90) rfl ?_
        refine wm_imul C dX12_ask_90 (pc' := 91) rfl ?_
        refine wm_aload_n C dX12_ask_91 1 rfl (pc' := 92) rfl ?_
        refine m_get (v := .ref (q 18)) C dX12_ask_92 in_X12_ask 18 (by decide) (by decide +kernel) rfl rfl (pc' := 95) rfl ?_
        refine wm_iload_n C dX12_ask_95 3 rfl (pc' := 96) rfl ?_
        obtain ⟨h12, hf⟩ := chk_s hf
        refine wm_iald (f := gA s8 18) (N := 6) (cA := τ.1) C dX12_ask_96 12 mA_18 rfl h12 (pc' := 97) rfl ?_
        refine wm_iadd C dX12_ask_97 (pc' := 98) rfl ?_
        refine wm_dup2 C dX12_ask_98 rfl rfl (pc' := 99) rfl ?_
        obtain ⟨h13, hf⟩ := chk_s hf
        refine wm_lald (f := gB s8 19) (N := 30) (cA := τ.2.1) C dX12_ask_99 13 mA_19 rfl h13 (pc' := 100) rfl ?_
        refine wm_iload_n C dX12_ask_100 4 rfl (pc' := 101) rfl ?_
        refine wm_i2l C dX12_ask_101 (pc' := 102) rfl ?_
        refine wm_lsub C dX12_ask_102 (pc' := 103) rfl ?_
        obtain ⟨h14, hf⟩ := chk_s hf
        obtain ⟨s15, e16, hf⟩ := lets_s hf
        refine wm_last (f := gB s8 19) (N := 30) (cA := τ.2.1) C dX12_ask_103 13 mA_19 rfl h14 (Wd' := mW τ q s15) ((mS_19 _ _).trans (congrArg (mW τ q) e16.symm)) (pc' := 104) rfl ?_
        obtain ⟨-, rfl⟩ := leaf_s hf
        exact wm_vret C dX12_ask_104 (Nat.zero_le _) (Nat.zero_le _) FD.rf
      · have hf := ite_f h11 hf
        refine wm_aload_n C dX12_ask_54 1 rfl (pc' := 55) rfl ?_
        refine m_get (v := .ref (q 19)) C dX12_ask_55 in_X12_ask 19 (by decide) (by decide +kernel) rfl rfl (pc' := 58) rfl ?_
        refine wm_bipush (v := 6) C dX12_ask_58 (by decide) (pc' := 60) rfl ?_
        refine wm_iload C dX12_ask_60 0 rfl (pc' := 62) rfl ?_
        refine wm_imul C dX12_ask_62 (pc' := 63) rfl ?_
        refine wm_ikonst (v := 5) C dX12_ask_63 (by decide) (pc' := 64) rfl ?_
        refine wm_iadd C dX12_ask_64 (pc' := 65) rfl ?_
        refine wm_dup2 C dX12_ask_65 rfl rfl (pc' := 66) rfl ?_
        obtain ⟨h17, hf⟩ := chk_s hf
        refine wm_lald (f := gB s8 19) (N := 30) (cA := τ.2.1) C dX12_ask_66 13 mA_19 rfl h17 (pc' := 67) rfl ?_
        refine wm_iload_n C dX12_ask_67 4 rfl (pc' := 68) rfl ?_
        refine wm_i2l C dX12_ask_68 (pc' := 69) rfl ?_
        refine wm_aload_n C dX12_ask_69 1 rfl (pc' := 70) rfl ?_
        refine m_get (v := .ref (q 3)) C dX12_ask_70 in_X12_ask 3 (by decide) (by decide +kernel) rfl rfl (pc' := 73) rfl ?_
        refine wm_iload_n C dX12_ask_73 3 rfl (pc' := 74) rfl ?_
        obtain ⟨h18, hf⟩ := chk_s hf
        refine wm_iald (f := gA s8 3) (N := 6) (cA := τ.1) C dX12_ask_74 2 mA_3 rfl h18 (pc' := 75) rfl ?_
        refine wm_i2l C dX12_ask_75 (pc' := 76) rfl ?_
        refine wm_lmul C dX12_ask_76 (pc' := 77) rfl ?_
        refine wm_ladd C dX12_ask_77 (pc' := 78) rfl ?_
        obtain ⟨h19, hf⟩ := chk_s hf
        obtain ⟨s20, e21, hf⟩ := lets_s hf
        refine wm_last (f := gB s8 19) (N := 30) (cA := τ.2.1) C dX12_ask_78 13 mA_19 rfl h19 (Wd' := mW τ q s20) ((mS_19 _ _).trans (congrArg (mW τ q) e21.symm)) (pc' := 79) rfl ?_
        refine wm_goto C dX12_ask_79 104 (by decide) ?_
        obtain ⟨-, rfl⟩ := leaf_s hf
        exact wm_vret C dX12_ask_104 (Nat.zero_le _) (Nat.zero_le _) FD.rf
    · have hf := ite_f (fun h => h h4) hf
      obtain ⟨-, rfl⟩ := leaf_s hf
      exact wm_vret C dX12_ask_18 (Nat.zero_le _) (Nat.zero_le _) FD.rf
def fX12_product_J83 (rec : Int64 → Int32 → MS → Option (Int64 × MS)) (x1 : Int32) (x4 : Int32) (x5 : Int32) (t0 : Int64) (s : MS) : Option (Int64 × MS) :=
  rec t0 (x5 + 1) s
def fX12_product_L53 (x1 : Int32) (x4 : Int32) : Nat → Int64 → Int32 → MS → Option (Int64 × MS)
  | 0, _, _, _ => none
  | fu + 1, x2, x5, s => if x4 ≤ x5 then some (x2, s) else if ¬ (x5 < 0 ∨ 5 ≤ x5.toNatClampNeg) then if ¬ (x4 < 0 ∨ 5 ≤ x4.toNatClampNeg) then if (gA s 20 x5.toNatClampNeg) ≤ (gA s 20 x4.toNatClampNeg) then fX12_product_J83 (fX12_product_L53 x1 x4 fu) x1 x4 x5 x2 s else fX12_product_J83 (fX12_product_L53 x1 x4 fu) x1 x4 x5 (-x2) s else none else none
theorem fX12_product_L53_s (x1 : Int32) (x4 : Int32) (fu : Nat) (x2 : Int64) (x5 : Int32) (s : MS) : fX12_product_L53 x1 x4 (fu + 1) x2 x5 s = (if x4 ≤ x5 then some (x2, s) else if ¬ (x5 < 0 ∨ 5 ≤ x5.toNatClampNeg) then if ¬ (x4 < 0 ∨ 5 ≤ x4.toNatClampNeg) then if (gA s 20 x5.toNatClampNeg) ≤ (gA s 20 x4.toNatClampNeg) then fX12_product_J83 (fX12_product_L53 x1 x4 fu) x1 x4 x5 x2 s else fX12_product_J83 (fX12_product_L53 x1 x4 fu) x1 x4 x5 (-x2) s else none else none) := rfl
def fX12_product_J46 (rec : Int64 → Int32 → MS → Option (Int64 × MS)) (x1 : Int32) (x4 : Int32) (t0 : Int32) (t1 : Int32) (t3 : Int64) (s : MS) : Option (Int64 × MS) :=
  if ¬ ((t1 + t0) < 0 ∨ 30 ≤ (t1 + t0).toNatClampNeg) then bnd (fX12_product_L53 x1 x4 FU (t3 * (gB s 19 (t1 + t0).toNatClampNeg)) 0 s) (fun v10 s11 => rec v10 (x4 + 1) s11) else none
def fX12_product_L5 (x1 : Int32) : Nat → Int64 → Int32 → MS → Option (Int64 × MS)
  | 0, _, _, _ => none
  | fu + 1, x2, x4, s => if (gI s 16) ≤ x4 then some (x2, s) else if ¬ (x4 < 0 ∨ 5 ≤ x4.toNatClampNeg) then if ¬ (gA s 20 x4.toNatClampNeg) = x1 then if ¬ (x4 < 0 ∨ 5 ≤ x4.toNatClampNeg) then fX12_product_J46 (fX12_product_L5 x1 fu) x1 x4 (gA s 20 x4.toNatClampNeg) (6 * x4) x2 s else none else fX12_product_J46 (fX12_product_L5 x1 fu) x1 x4 5 (6 * x4) x2 s else none
theorem fX12_product_L5_s (x1 : Int32) (fu : Nat) (x2 : Int64) (x4 : Int32) (s : MS) : fX12_product_L5 x1 (fu + 1) x2 x4 s = (if (gI s 16) ≤ x4 then some (x2, s) else if ¬ (x4 < 0 ∨ 5 ≤ x4.toNatClampNeg) then if ¬ (gA s 20 x4.toNatClampNeg) = x1 then if ¬ (x4 < 0 ∨ 5 ≤ x4.toNatClampNeg) then fX12_product_J46 (fX12_product_L5 x1 fu) x1 x4 (gA s 20 x4.toNatClampNeg) (6 * x4) x2 s else none else fX12_product_J46 (fX12_product_L5 x1 fu) x1 x4 5 (6 * x4) x2 s else none) := rfl
def fX12_product (x1 : Int32) (σ : MS) : Option (Int64 × MS) :=
  bnd (fX12_product_L5 x1 FU 1 0 σ) (fun v13 s14 => some (v13, s14))
theorem in_X12_product : ∀ w ∈ u_ws RX12 TX12 39, w ∈ wsX12_product := by decide +kernel
set_option maxHeartbeats 4000000 in
set_option maxRecDepth 100000 in
theorem kX12_product (l : Launch) (D : va_G) (τ : CId) (q : Nat → Nat) (σ : MS) (x1 : Int32) (rE : Int64) (sE : MS) (hf : fX12_product x1 σ = some (rE, sE)) : Ct l D τ yX12_product wsX12_product { frames := 0, cells := 0, slots := 0, locals := 0 } [.ref (q 0), .int x1] (mW τ q σ) (FD (mW τ q sE) (some (.long rE))) := by
  unfold fX12_product at hf
  refine ct_of (cc := cX12_product) (maxL := 6) (ret := (some .long)) (by decide) rfl (Nat.le_of_ble_eq_true rfl) (fun Γ C => ?_)
  refine wm_lv (lv' := [(0, .ref (q 0)), (1, .int x1)]) rfl ?_
  have wL_53 : ∀ (x1 : Int32) (x4 : Int32) (fu : Nat) (x2 : Int64) (x5 : Int32) (s : MS) (v : Int64) (s' : MS), fX12_product_L53 x1 x4 fu x2 x5 s = some (v, s') → WM l D Γ 6 0 0 (mW τ q s') 90 [(0, .ref (q 0)), (1, .int x1), (2, .long v), (4, .int x4)] [] → WM l D Γ 6 0 0 (mW τ q s) 53 [(0, .ref (q 0)), (1, .int x1), (2, .long x2), (4, .int x4), (5, .int x5)] [] := by
    intro x1 x4
    intro fu
    induction fu with
    | zero => intro x2 x5 s v s' hf hE; exact absurd hf (fun h => nomatch (show (none : Option _) = some _ from h))
    | succ fu ih =>
      intro x2 x5 s v s' hf hE
      rw [fX12_product_L53_s] at hf
      have wJ_83 : ∀ (x5 : Int32) (t0 : Int64) (s : MS) (v : Int64) (s' : MS), fX12_product_J83 (fX12_product_L53 x1 x4 fu) x1 x4 x5 t0 s = some (v, s') → WM l D Γ 6 0 0 (mW τ q s') 90 [(0, .ref (q 0)), (1, .int x1), (2, .long v), (4, .int x4)] [] → WM l D Γ 6 0 0 (mW τ q s) 83 [(0, .ref (q 0)), (1, .int x1), (4, .int x4), (5, .int x5)] [.long t0] := by
        intro x5 t0 s v s' hf hE
        unfold fX12_product_J83 at hf
        refine wm_lstore_n (lv' := [(2, .long t0), (0, .ref (q 0)), (1, .int x1), (4, .int x4), (5, .int x5)]) C dX12_product_83 (by decide) rfl (pc' := 84) rfl ?_
        refine wm_iinc (v := x5 + 1) (lv' := [(5, .int (x5 + 1)), (2, .long t0), (0, .ref (q 0)), (1, .int x1), (4, .int x4)]) C dX12_product_84 4 rfl rfl (by decide) rfl (pc' := 87) rfl ?_
        refine wm_goto C dX12_product_87 53 (by decide) ?_
        refine wm_sub (lv' := [(0, .ref (q 0)), (1, .int x1), (2, .long t0), (4, .int x4), (5, .int (x5 + 1))]) [2, 3, 1, 4, 0] rfl ?_
        exact ih t0 (x5 + 1) s _ _ hf hE
      refine wm_iload C dX12_product_53 4 rfl (pc' := 55) rfl ?_
      refine wm_iload C dX12_product_55 3 rfl (pc' := 57) rfl ?_
      refine wm_icmp_ge C dX12_product_57 90 (by decide) (pc' := 60) rfl (fun h6 => ?_) (fun h6 => ?_)
      · have hf := ite_t h6 hf
        obtain ⟨rfl, rfl⟩ := leaf_s hf
        refine wm_sub (lv' := [(0, .ref (q 0)), (1, .int x1), (2, .long x2), (4, .int x4)]) [0, 1, 2, 3] rfl ?_
        exact hE
      · have hf := ite_f h6 hf
        refine wm_aload_n C dX12_product_60 0 rfl (pc' := 61) rfl ?_
        refine m_get (v := .ref (q 20)) C dX12_product_61 in_X12_product 20 (by decide) (by decide +kernel) rfl rfl (pc' := 64) rfl ?_
        refine wm_iload C dX12_product_64 4 rfl (pc' := 66) rfl ?_
        obtain ⟨h7, hf⟩ := chk_s hf
        refine wm_iald (f := gA s 20) (N := 5) (cA := τ.1) C dX12_product_66 14 mA_20 rfl h7 (pc' := 67) rfl ?_
        refine wm_aload_n C dX12_product_67 0 rfl (pc' := 68) rfl ?_
        refine m_get (v := .ref (q 20)) C dX12_product_68 in_X12_product 20 (by decide) (by decide +kernel) rfl rfl (pc' := 71) rfl ?_
        refine wm_iload C dX12_product_71 3 rfl (pc' := 73) rfl ?_
        obtain ⟨h8, hf⟩ := chk_s hf
        refine wm_iald (f := gA s 20) (N := 5) (cA := τ.1) C dX12_product_73 14 mA_20 rfl h8 (pc' := 74) rfl ?_
        refine wm_icmp_le C dX12_product_74 82 (by decide) (pc' := 77) rfl (fun h9 => ?_) (fun h9 => ?_)
        · have hf := ite_t h9 hf
          refine wm_lload_n C dX12_product_82 2 rfl (pc' := 83) rfl ?_
          refine wm_sub (lv' := [(0, .ref (q 0)), (1, .int x1), (4, .int x4), (5, .int x5)]) [0, 1, 3, 4] rfl ?_
          exact wJ_83 x5 x2 s _ _ hf hE
        · have hf := ite_f h9 hf
          refine wm_lload_n C dX12_product_77 2 rfl (pc' := 78) rfl ?_
          refine wm_lneg C dX12_product_78 (pc' := 79) rfl ?_
          refine wm_goto C dX12_product_79 83 (by decide) ?_
          refine wm_sub (lv' := [(0, .ref (q 0)), (1, .int x1), (4, .int x4), (5, .int x5)]) [0, 1, 3, 4] rfl ?_
          exact wJ_83 x5 (-x2) s _ _ hf hE
  have wL_5 : ∀ (x1 : Int32) (fu : Nat) (x2 : Int64) (x4 : Int32) (s : MS) (v : Int64) (s' : MS), fX12_product_L5 x1 fu x2 x4 s = some (v, s') → WM l D Γ 6 0 0 (mW τ q s') 96 [(2, .long v)] [] → WM l D Γ 6 0 0 (mW τ q s) 5 [(0, .ref (q 0)), (1, .int x1), (2, .long x2), (4, .int x4)] [] := by
    intro x1
    intro fu
    induction fu with
    | zero => intro x2 x4 s v s' hf hE; exact absurd hf (fun h => nomatch (show (none : Option _) = some _ from h))
    | succ fu ih =>
      intro x2 x4 s v s' hf hE
      rw [fX12_product_L5_s] at hf
      have wJ_46 : ∀ (x4 : Int32) (t0 : Int32) (t1 : Int32) (t3 : Int64) (s : MS) (v : Int64) (s' : MS), fX12_product_J46 (fX12_product_L5 x1 fu) x1 x4 t0 t1 t3 s = some (v, s') → WM l D Γ 6 0 0 (mW τ q s') 96 [(2, .long v)] [] → WM l D Γ 6 0 0 (mW τ q s) 46 [(0, .ref (q 0)), (1, .int x1), (4, .int x4)] [.int t0, .int t1, .ref (q 19), .long t3] := by
        intro x4 t0 t1 t3 s v s' hf hE
        unfold fX12_product_J46 at hf
        refine wm_iadd C dX12_product_46 (pc' := 47) rfl ?_
        obtain ⟨h5, hf⟩ := chk_s hf
        refine wm_lald (f := gB s 19) (N := 30) (cA := τ.2.1) C dX12_product_47 13 mA_19 rfl h5 (pc' := 48) rfl ?_
        refine wm_lmul C dX12_product_48 (pc' := 49) rfl ?_
        refine wm_lstore_n (lv' := [(2, .long (t3 * (gB s 19 (t1 + t0).toNatClampNeg))), (0, .ref (q 0)), (1, .int x1), (4, .int x4)]) C dX12_product_49 (by decide) rfl (pc' := 50) rfl ?_
        refine wm_ikonst (v := 0) C dX12_product_50 (by decide) (pc' := 51) rfl ?_
        refine wm_istore (lv' := [(5, .int 0), (2, .long (t3 * (gB s 19 (t1 + t0).toNatClampNeg))), (0, .ref (q 0)), (1, .int x1), (4, .int x4)]) C dX12_product_51 (by decide) rfl (pc' := 53) rfl ?_
        refine wm_sub (lv' := [(0, .ref (q 0)), (1, .int x1), (2, .long (t3 * (gB s 19 (t1 + t0).toNatClampNeg))), (4, .int x4), (5, .int 0)]) [2, 3, 1, 4, 0] rfl ?_
        obtain ⟨v10, s11, h12, hf⟩ := bnd_s hf
        refine wL_53 x1 x4 FU (t3 * (gB s 19 (t1 + t0).toNatClampNeg)) 0 s v10 s11 h12 ?_
        refine wm_iinc (v := x4 + 1) (lv' := [(4, .int (x4 + 1)), (0, .ref (q 0)), (1, .int x1), (2, .long v10)]) C dX12_product_90 3 rfl rfl (by decide) rfl (pc' := 93) rfl ?_
        refine wm_goto C dX12_product_93 5 (by decide) ?_
        refine wm_sub (lv' := [(0, .ref (q 0)), (1, .int x1), (2, .long v10), (4, .int (x4 + 1))]) [1, 2, 3, 0] rfl ?_
        exact ih v10 (x4 + 1) s11 _ _ hf hE
      refine wm_iload C dX12_product_5 3 rfl (pc' := 7) rfl ?_
      refine wm_aload_n C dX12_product_7 0 rfl (pc' := 8) rfl ?_
      refine m_get (v := .int (gI s 16)) C dX12_product_8 in_X12_product 16 (by decide) (by decide +kernel) rfl rfl (pc' := 11) rfl ?_
      refine wm_icmp_ge C dX12_product_11 96 (by decide) (pc' := 14) rfl (fun h1 => ?_) (fun h1 => ?_)
      · have hf := ite_t h1 hf
        obtain ⟨rfl, rfl⟩ := leaf_s hf
        refine wm_sub (lv' := [(2, .long x2)]) [2] rfl ?_
        exact hE
      · have hf := ite_f h1 hf
        refine wm_lload_n C dX12_product_14 2 rfl (pc' := 15) rfl ?_
        refine wm_aload_n C dX12_product_15 0 rfl (pc' := 16) rfl ?_
        refine m_get (v := .ref (q 19)) C dX12_product_16 in_X12_product 19 (by decide) (by decide +kernel) rfl rfl (pc' := 19) rfl ?_
        refine wm_bipush (v := 6) C dX12_product_19 (by decide) (pc' := 21) rfl ?_
        refine wm_iload C dX12_product_21 3 rfl (pc' := 23) rfl ?_
        refine wm_imul C dX12_product_23 (pc' := 24) rfl ?_
        refine wm_aload_n C dX12_product_24 0 rfl (pc' := 25) rfl ?_
        refine m_get (v := .ref (q 20)) C dX12_product_25 in_X12_product 20 (by decide) (by decide +kernel) rfl rfl (pc' := 28) rfl ?_
        refine wm_iload C dX12_product_28 3 rfl (pc' := 30) rfl ?_
        obtain ⟨h2, hf⟩ := chk_s hf
        refine wm_iald (f := gA s 20) (N := 5) (cA := τ.1) C dX12_product_30 14 mA_20 rfl h2 (pc' := 31) rfl ?_
        refine wm_iload_n C dX12_product_31 1 rfl (pc' := 32) rfl ?_
        refine wm_icmp_ne C dX12_product_32 39 (by decide) (pc' := 35) rfl (fun h3 => ?_) (fun h3 => ?_)
        · have hf := ite_t h3 hf
          refine wm_aload_n C dX12_product_39 0 rfl (pc' := 40) rfl ?_
          refine m_get (v := .ref (q 20)) C dX12_product_40 in_X12_product 20 (by decide) (by decide +kernel) rfl rfl (pc' := 43) rfl ?_
          refine wm_iload C dX12_product_43 3 rfl (pc' := 45) rfl ?_
          obtain ⟨h4, hf⟩ := chk_s hf
          refine wm_iald (f := gA s 20) (N := 5) (cA := τ.1) C dX12_product_45 14 mA_20 rfl h4 (pc' := 46) rfl ?_
          refine wm_sub (lv' := [(0, .ref (q 0)), (1, .int x1), (4, .int x4)]) [0, 1, 3] rfl ?_
          exact wJ_46 x4 (gA s 20 x4.toNatClampNeg) (6 * x4) x2 s _ _ hf hE
        · have hf := ite_f (fun h => h h3) hf
          refine wm_ikonst (v := 5) C dX12_product_35 (by decide) (pc' := 36) rfl ?_
          refine wm_goto C dX12_product_36 46 (by decide) ?_
          refine wm_sub (lv' := [(0, .ref (q 0)), (1, .int x1), (4, .int x4)]) [0, 1, 3] rfl ?_
          exact wJ_46 x4 5 (6 * x4) x2 s _ _ hf hE
  refine wm_lkonst (v := 1) C dX12_product_0 (by decide) (pc' := 1) rfl ?_
  refine wm_lstore_n (lv' := [(2, .long 1), (0, .ref (q 0)), (1, .int x1)]) C dX12_product_1 (by decide) rfl (pc' := 2) rfl ?_
  refine wm_ikonst (v := 0) C dX12_product_2 (by decide) (pc' := 3) rfl ?_
  refine wm_istore (lv' := [(4, .int 0), (2, .long 1), (0, .ref (q 0)), (1, .int x1)]) C dX12_product_3 (by decide) rfl (pc' := 5) rfl ?_
  refine wm_sub (lv' := [(0, .ref (q 0)), (1, .int x1), (2, .long 1), (4, .int 0)]) [2, 3, 1, 0] rfl ?_
  obtain ⟨v13, s14, h15, hf⟩ := bnd_s hf
  refine wL_5 x1 FU 1 0 σ v13 s14 h15 ?_
  refine wm_lload_n C dX12_product_96 0 rfl (pc' := 97) rfl ?_
  obtain ⟨rfl, rfl⟩ := leaf_s hf
  exact wm_lret C dX12_product_97 (Nat.zero_le _) (Nat.zero_le _) FD.rf
def fX12_determinant_L14 (x1 : Int32) (x2 : Int64) : Nat → Int32 → MS → Option (Unit × MS)
  | 0, _, _ => none
  | fu + 1, x4, s => if 5 ≤ x4 then some ((), s) else if ¬ (x4 < 0 ∨ 5 ≤ x4.toNatClampNeg) then lets (sA s 21 x4.toNatClampNeg (vp_nar .boolean 0)) (fun s4 => fX12_determinant_L14 x1 x2 fu (x4 + 1) s4) else none
theorem fX12_determinant_L14_s (x1 : Int32) (x2 : Int64) (fu : Nat) (x4 : Int32) (s : MS) : fX12_determinant_L14 x1 x2 (fu + 1) x4 s = (if 5 ≤ x4 then some ((), s) else if ¬ (x4 < 0 ∨ 5 ≤ x4.toNatClampNeg) then lets (sA s 21 x4.toNatClampNeg (vp_nar .boolean 0)) (fun s4 => fX12_determinant_L14 x1 x2 fu (x4 + 1) s4) else none) := rfl
def fX12_determinant_L74 (x1 : Int32) (x2 : Int64) (x4 : Int32) : Nat → Int32 → MS → Option (Int32 × MS)
  | 0, _, _ => none
  | fu + 1, x5, s => if (gI s 16) ≤ x5 then some (x5, s) else if ¬ (x5 < 0 ∨ 5 ≤ x5.toNatClampNeg) then if (gA s 21 x5.toNatClampNeg) = 0 then some (x5, s) else fX12_determinant_L74 x1 x2 x4 fu (x5 + 1) s else none
theorem fX12_determinant_L74_s (x1 : Int32) (x2 : Int64) (x4 : Int32) (fu : Nat) (x5 : Int32) (s : MS) : fX12_determinant_L74 x1 x2 x4 (fu + 1) x5 s = (if (gI s 16) ≤ x5 then some (x5, s) else if ¬ (x5 < 0 ∨ 5 ≤ x5.toNatClampNeg) then if (gA s 21 x5.toNatClampNeg) = 0 then some (x5, s) else fX12_determinant_L74 x1 x2 x4 fu (x5 + 1) s else none) := rfl
def fX12_determinant_J164 (rec : Int64 → Int32 → MS → Option (Int64 × MS)) (x1 : Int32) (x2 : Int64) (x4 : Int32) (s : MS) : Option (Int64 × MS) :=
  rec x2 x4 s
def fX12_determinant_J71 (rec : Int64 → Int32 → MS → Option (Int64 × MS)) (x1 : Int32) (x2 : Int64) (x4 : Int32) (x5 : Int32) (s : MS) : Option (Int64 × MS) :=
  bnd (fX12_determinant_L74 x1 x2 x4 FU (x5 + 1) s) (fun v18 s19 => if ¬ v18 = (gI s19 16) then if ¬ (x4 < 0 ∨ 5 ≤ x4.toNatClampNeg) then lets (sA s19 20 x4.toNatClampNeg v18) (fun s23 => if ¬ (v18 < 0 ∨ 5 ≤ v18.toNatClampNeg) then lets (sA s23 21 v18.toNatClampNeg (vp_nar .boolean 1)) (fun s26 => if (gI s26 16) ≤ (x4 + 1) then bnd (fX12_product x1 s26) (fun r29 s30 => fX12_determinant_J164 (rec) x1 (x2 + r29) x4 s30) else if ¬ ((x4 + 1) < 0 ∨ 5 ≤ (x4 + 1).toNatClampNeg) then lets (sA s26 20 (x4 + 1).toNatClampNeg (-1)) (fun s33 => fX12_determinant_J164 (rec) x1 x2 (x4 + 1) s33) else none) else none) else none else rec x2 (x4 + (-1)) s19)
def fX12_determinant_L44 (x1 : Int32) : Nat → Int64 → Int32 → MS → Option (Int64 × MS)
  | 0, _, _, _ => none
  | fu + 1, x2, x4, s => if x4 < 0 then some (x2, s) else if ¬ (x4 < 0 ∨ 5 ≤ x4.toNatClampNeg) then if (gA s 20 x4.toNatClampNeg) < 0 then fX12_determinant_J71 (fX12_determinant_L44 x1 fu) x1 x2 x4 (gA s 20 x4.toNatClampNeg) s else if ¬ ((gA s 20 x4.toNatClampNeg) < 0 ∨ 5 ≤ (gA s 20 x4.toNatClampNeg).toNatClampNeg) then lets (sA s 21 (gA s 20 x4.toNatClampNeg).toNatClampNeg (vp_nar .boolean 0)) (fun s36 => fX12_determinant_J71 (fX12_determinant_L44 x1 fu) x1 x2 x4 (gA s 20 x4.toNatClampNeg) s36) else none else none
theorem fX12_determinant_L44_s (x1 : Int32) (fu : Nat) (x2 : Int64) (x4 : Int32) (s : MS) : fX12_determinant_L44 x1 (fu + 1) x2 x4 s = (if x4 < 0 then some (x2, s) else if ¬ (x4 < 0 ∨ 5 ≤ x4.toNatClampNeg) then if (gA s 20 x4.toNatClampNeg) < 0 then fX12_determinant_J71 (fX12_determinant_L44 x1 fu) x1 x2 x4 (gA s 20 x4.toNatClampNeg) s else if ¬ ((gA s 20 x4.toNatClampNeg) < 0 ∨ 5 ≤ (gA s 20 x4.toNatClampNeg).toNatClampNeg) then lets (sA s 21 (gA s 20 x4.toNatClampNeg).toNatClampNeg (vp_nar .boolean 0)) (fun s36 => fX12_determinant_J71 (fX12_determinant_L44 x1 fu) x1 x2 x4 (gA s 20 x4.toNatClampNeg) s36) else none else none) := rfl
def fX12_determinant (x1 : Int32) (σ : MS) : Option (Int64 × MS) :=
  if ¬ (gI σ 16) = 0 then bnd (fX12_determinant_L14 x1 0 FU 0 σ) (fun v6 s7 => if ¬ ((0 : Int32) < 0 ∨ 5 ≤ (0 : Int32).toNatClampNeg) then lets (sA s7 20 (0 : Int32).toNatClampNeg (-1)) (fun s10 => bnd (fX12_determinant_L44 x1 FU 0 0 s10) (fun v38 s39 => some (v38, s39))) else none) else some (1, σ)
theorem in_X12_determinant : ∀ w ∈ u_ws RX12 TX12 39, w ∈ wsX12_determinant := by decide +kernel
set_option maxHeartbeats 4000000 in
set_option maxRecDepth 100000 in
theorem kX12_determinant (l : Launch) (D : va_G) (τ : CId) (q : Nat → Nat) (σ : MS) (x1 : Int32) (rE : Int64) (sE : MS) (hf : fX12_determinant x1 σ = some (rE, sE)) : Ct l D τ yX12_determinant wsX12_determinant { frames := 1, cells := 0, slots := 0, locals := 25 } [.ref (q 0), .int x1] (mW τ q σ) (FD (mW τ q sE) (some (.long rE))) := by
  unfold fX12_determinant at hf
  refine ct_of (cc := cX12_determinant) (maxL := 6) (ret := (some .long)) (by decide) rfl (Nat.le_of_ble_eq_true rfl) (fun Γ C => ?_)
  refine wm_lv (lv' := [(0, .ref (q 0)), (1, .int x1)]) rfl ?_
  have wL_14 : ∀ (x1 : Int32) (x2 : Int64) (fu : Nat) (x4 : Int32) (s : MS) (v : Unit) (s' : MS), fX12_determinant_L14 x1 x2 fu x4 s = some (v, s') → WM l D Γ 6 0 0 (mW τ q s') 34 [(0, .ref (q 0)), (1, .int x1), (2, .long x2)] [] → WM l D Γ 6 0 0 (mW τ q s) 14 [(0, .ref (q 0)), (1, .int x1), (2, .long x2), (4, .int x4)] [] := by
    intro x1 x2
    intro fu
    induction fu with
    | zero => intro x4 s v s' hf hE; exact absurd hf (fun h => nomatch (show (none : Option _) = some _ from h))
    | succ fu ih =>
      intro x4 s v s' hf hE
      rw [fX12_determinant_L14_s] at hf
      refine wm_iload C dX12_determinant_14 3 rfl (pc' := 16) rfl ?_
      refine wm_ikonst (v := 5) C dX12_determinant_16 (by decide) (pc' := 17) rfl ?_
      refine wm_icmp_ge C dX12_determinant_17 34 (by decide) (pc' := 20) rfl (fun h2 => ?_) (fun h2 => ?_)
      · have hf := ite_t h2 hf
        obtain ⟨rfl, rfl⟩ := leaf_s hf
        refine wm_sub (lv' := [(0, .ref (q 0)), (1, .int x1), (2, .long x2)]) [0, 1, 2] rfl ?_
        exact hE
      · have hf := ite_f h2 hf
        refine wm_aload_n C dX12_determinant_20 0 rfl (pc' := 21) rfl ?_
        refine m_get (v := .ref (q 21)) C dX12_determinant_21 in_X12_determinant 21 (by decide) (by decide +kernel) rfl rfl (pc' := 24) rfl ?_
        refine wm_iload C dX12_determinant_24 3 rfl (pc' := 26) rfl ?_
        refine wm_ikonst (v := 0) C dX12_determinant_26 (by decide) (pc' := 27) rfl ?_
        obtain ⟨h3, hf⟩ := chk_s hf
        obtain ⟨s4, e5, hf⟩ := lets_s hf
        refine wm_zast (f := gA s 21) (N := 5) (cA := τ.2.2.1) C dX12_determinant_27 15 mA_21 rfl h3 (Wd' := mW τ q s4) ((mS_21 _ _).trans (congrArg (mW τ q) e5.symm)) (pc' := 28) rfl ?_
        refine wm_iinc (v := x4 + 1) (lv' := [(4, .int (x4 + 1)), (0, .ref (q 0)), (1, .int x1), (2, .long x2)]) C dX12_determinant_28 3 rfl rfl (by decide) rfl (pc' := 31) rfl ?_
        refine wm_goto C dX12_determinant_31 14 (by decide) ?_
        refine wm_sub (lv' := [(0, .ref (q 0)), (1, .int x1), (2, .long x2), (4, .int (x4 + 1))]) [1, 2, 3, 0] rfl ?_
        exact ih (x4 + 1) s4 _ _ hf hE
  have wL_74 : ∀ (x1 : Int32) (x2 : Int64) (x4 : Int32) (fu : Nat) (x5 : Int32) (s : MS) (v : Int32) (s' : MS), fX12_determinant_L74 x1 x2 x4 fu x5 s = some (v, s') → WM l D Γ 6 0 0 (mW τ q s') 99 [(0, .ref (q 0)), (1, .int x1), (2, .long x2), (4, .int x4), (5, .int v)] [] → WM l D Γ 6 0 0 (mW τ q s) 74 [(0, .ref (q 0)), (1, .int x1), (2, .long x2), (4, .int x4), (5, .int x5)] [] := by
    intro x1 x2 x4
    intro fu
    induction fu with
    | zero => intro x5 s v s' hf hE; exact absurd hf (fun h => nomatch (show (none : Option _) = some _ from h))
    | succ fu ih =>
      intro x5 s v s' hf hE
      rw [fX12_determinant_L74_s] at hf
      refine wm_iload C dX12_determinant_74 4 rfl (pc' := 76) rfl ?_
      refine wm_aload_n C dX12_determinant_76 0 rfl (pc' := 77) rfl ?_
      refine m_get (v := .int (gI s 16)) C dX12_determinant_77 in_X12_determinant 16 (by decide) (by decide +kernel) rfl rfl (pc' := 80) rfl ?_
      refine wm_icmp_ge C dX12_determinant_80 99 (by decide) (pc' := 83) rfl (fun h15 => ?_) (fun h15 => ?_)
      · have hf := ite_t h15 hf
        obtain ⟨rfl, rfl⟩ := leaf_s hf
        exact hE
      · have hf := ite_f h15 hf
        refine wm_aload_n C dX12_determinant_83 0 rfl (pc' := 84) rfl ?_
        refine m_get (v := .ref (q 21)) C dX12_determinant_84 in_X12_determinant 21 (by decide) (by decide +kernel) rfl rfl (pc' := 87) rfl ?_
        refine wm_iload C dX12_determinant_87 4 rfl (pc' := 89) rfl ?_
        obtain ⟨h16, hf⟩ := chk_s hf
        refine wm_zald (f := gA s 21) (N := 5) (cA := τ.2.2.1) C dX12_determinant_89 15 mA_21 rfl h16 (pc' := 90) rfl ?_
        refine wm_if_eq C dX12_determinant_90 99 (by decide) (pc' := 93) rfl (fun h17 => ?_) (fun h17 => ?_)
        · have hf := ite_t h17 hf
          obtain ⟨rfl, rfl⟩ := leaf_s hf
          exact hE
        · have hf := ite_f h17 hf
          refine wm_iinc (v := x5 + 1) (lv' := [(5, .int (x5 + 1)), (0, .ref (q 0)), (1, .int x1), (2, .long x2), (4, .int x4)]) C dX12_determinant_93 4 rfl rfl (by decide) rfl (pc' := 96) rfl ?_
          refine wm_goto C dX12_determinant_96 74 (by decide) ?_
          refine wm_sub (lv' := [(0, .ref (q 0)), (1, .int x1), (2, .long x2), (4, .int x4), (5, .int (x5 + 1))]) [1, 2, 3, 4, 0] rfl ?_
          exact ih (x5 + 1) s _ _ hf hE
  have wL_44 : ∀ (x1 : Int32) (fu : Nat) (x2 : Int64) (x4 : Int32) (s : MS) (v : Int64) (s' : MS), fX12_determinant_L44 x1 fu x2 x4 s = some (v, s') → WM l D Γ 6 0 0 (mW τ q s') 167 [(2, .long v)] [] → WM l D Γ 6 0 0 (mW τ q s) 44 [(0, .ref (q 0)), (1, .int x1), (2, .long x2), (4, .int x4)] [] := by
    intro x1
    intro fu
    induction fu with
    | zero => intro x2 x4 s v s' hf hE; exact absurd hf (fun h => nomatch (show (none : Option _) = some _ from h))
    | succ fu ih =>
      intro x2 x4 s v s' hf hE
      rw [fX12_determinant_L44_s] at hf
      have wJ_164 : ∀ (x2 : Int64) (x4 : Int32) (s : MS) (v : Int64) (s' : MS), fX12_determinant_J164 (fX12_determinant_L44 x1 fu) x1 x2 x4 s = some (v, s') → WM l D Γ 6 0 0 (mW τ q s') 167 [(2, .long v)] [] → WM l D Γ 6 0 0 (mW τ q s) 164 [(0, .ref (q 0)), (1, .int x1), (2, .long x2), (4, .int x4)] [] := by
        intro x2 x4 s v s' hf hE
        unfold fX12_determinant_J164 at hf
        refine wm_goto C dX12_determinant_164 44 (by decide) ?_
        exact ih x2 x4 s _ _ hf hE
      have wJ_71 : ∀ (x2 : Int64) (x4 : Int32) (x5 : Int32) (s : MS) (v : Int64) (s' : MS), fX12_determinant_J71 (fX12_determinant_L44 x1 fu) x1 x2 x4 x5 s = some (v, s') → WM l D Γ 6 0 0 (mW τ q s') 167 [(2, .long v)] [] → WM l D Γ 6 0 0 (mW τ q s) 71 [(0, .ref (q 0)), (1, .int x1), (2, .long x2), (4, .int x4), (5, .int x5)] [] := by
        intro x2 x4 x5 s v s' hf hE
        unfold fX12_determinant_J71 at hf
        refine wm_iinc (v := x5 + 1) (lv' := [(5, .int (x5 + 1)), (0, .ref (q 0)), (1, .int x1), (2, .long x2), (4, .int x4)]) C dX12_determinant_71 4 rfl rfl (by decide) rfl (pc' := 74) rfl ?_
        refine wm_sub (lv' := [(0, .ref (q 0)), (1, .int x1), (2, .long x2), (4, .int x4), (5, .int (x5 + 1))]) [1, 2, 3, 4, 0] rfl ?_
        obtain ⟨v18, s19, h20, hf⟩ := bnd_s hf
        refine wL_74 x1 x2 x4 FU (x5 + 1) s v18 s19 h20 ?_
        refine wm_iload C dX12_determinant_99 4 rfl (pc' := 101) rfl ?_
        refine wm_aload_n C dX12_determinant_101 0 rfl (pc' := 102) rfl ?_
        refine m_get (v := .int (gI s19 16)) C dX12_determinant_102 in_X12_determinant 16 (by decide) (by decide +kernel) rfl rfl (pc' := 105) rfl ?_
        refine wm_icmp_ne C dX12_determinant_105 114 (by decide) (pc' := 108) rfl (fun h21 => ?_) (fun h21 => ?_)
        · have hf := ite_t h21 hf
          refine wm_aload_n C dX12_determinant_114 0 rfl (pc' := 115) rfl ?_
          refine m_get (v := .ref (q 20)) C dX12_determinant_115 in_X12_determinant 20 (by decide) (by decide +kernel) rfl rfl (pc' := 118) rfl ?_
          refine wm_iload C dX12_determinant_118 3 rfl (pc' := 120) rfl ?_
          refine wm_iload C dX12_determinant_120 4 rfl (pc' := 122) rfl ?_
          obtain ⟨h22, hf⟩ := chk_s hf
          obtain ⟨s23, e24, hf⟩ := lets_s hf
          refine wm_iast (f := gA s19 20) (N := 5) (cA := τ.1) C dX12_determinant_122 14 mA_20 rfl h22 (Wd' := mW τ q s23) ((mS_20 _ _).trans (congrArg (mW τ q) e24.symm)) (pc' := 123) rfl ?_
          refine wm_aload_n C dX12_determinant_123 0 rfl (pc' := 124) rfl ?_
          refine m_get (v := .ref (q 21)) C dX12_determinant_124 in_X12_determinant 21 (by decide) (by decide +kernel) rfl rfl (pc' := 127) rfl ?_
          refine wm_iload C dX12_determinant_127 4 rfl (pc' := 129) rfl ?_
          refine wm_ikonst (v := 1) C dX12_determinant_129 (by decide) (pc' := 130) rfl ?_
          obtain ⟨h25, hf⟩ := chk_s hf
          obtain ⟨s26, e27, hf⟩ := lets_s hf
          refine wm_zast (f := gA s23 21) (N := 5) (cA := τ.2.2.1) C dX12_determinant_130 15 mA_21 rfl h25 (Wd' := mW τ q s26) ((mS_21 _ _).trans (congrArg (mW τ q) e27.symm)) (pc' := 131) rfl ?_
          refine wm_iload C dX12_determinant_131 3 rfl (pc' := 133) rfl ?_
          refine wm_ikonst (v := 1) C dX12_determinant_133 (by decide) (pc' := 134) rfl ?_
          refine wm_iadd C dX12_determinant_134 (pc' := 135) rfl ?_
          refine wm_aload_n C dX12_determinant_135 0 rfl (pc' := 136) rfl ?_
          refine m_get (v := .int (gI s26 16)) C dX12_determinant_136 in_X12_determinant 16 (by decide) (by decide +kernel) rfl rfl (pc' := 139) rfl ?_
          refine wm_icmp_ge C dX12_determinant_139 156 (by decide) (pc' := 142) rfl (fun h28 => ?_) (fun h28 => ?_)
          · have hf := ite_t h28 hf
            refine wm_lload_n C dX12_determinant_156 2 rfl (pc' := 157) rfl ?_
            refine wm_aload_n C dX12_determinant_157 0 rfl (pc' := 158) rfl ?_
            refine wm_iload_n C dX12_determinant_158 1 rfl (pc' := 159) rfl ?_
            obtain ⟨r29, s30, h31, hf⟩ := bnd_s hf
            refine wm_callVd (nn := 1) (As := [.int x1]) (rest := [.long x2]) (st' := [.long r29, .long x2]) C dX12_determinant_159 (kX12_product l D τ q s26 x1 r29 s30 h31) gX12_determinant_X12_product rfl (by decide +kernel) ⟨Nat.le_of_ble_eq_true rfl, Nat.le_of_ble_eq_true rfl⟩ rfl rfl ⟨Nat.zero_le _, Nat.zero_le _⟩ 0 rfl rfl rfl rfl (Nat.le_of_ble_eq_true rfl) rfl (pc' := 162) rfl ?_
            refine wm_ladd C dX12_determinant_162 (pc' := 163) rfl ?_
            refine wm_lstore_n (lv' := [(2, .long (x2 + r29)), (0, .ref (q 0)), (1, .int x1), (4, .int x4), (5, .int v18)]) C dX12_determinant_163 (by decide) rfl (pc' := 164) rfl ?_
            refine wm_sub (lv' := [(0, .ref (q 0)), (1, .int x1), (2, .long (x2 + r29)), (4, .int x4)]) [1, 2, 0, 3] rfl ?_
            exact wJ_164 (x2 + r29) x4 s30 _ _ hf hE
          · have hf := ite_f h28 hf
            refine wm_iinc (v := x4 + 1) (lv' := [(4, .int (x4 + 1)), (0, .ref (q 0)), (1, .int x1), (2, .long x2), (5, .int v18)]) C dX12_determinant_142 3 rfl rfl (by decide) rfl (pc' := 145) rfl ?_
            refine wm_aload_n C dX12_determinant_145 1 rfl (pc' := 146) rfl ?_
            refine m_get (v := .ref (q 20)) C dX12_determinant_146 in_X12_determinant 20 (by decide) (by decide +kernel) rfl rfl (pc' := 149) rfl ?_
            refine wm_iload C dX12_determinant_149 0 rfl (pc' := 151) rfl ?_
            refine wm_ikonst (v := (-1)) C dX12_determinant_151 (by decide) (pc' := 152) rfl ?_
            obtain ⟨h32, hf⟩ := chk_s hf
            obtain ⟨s33, e34, hf⟩ := lets_s hf
            refine wm_iast (f := gA s26 20) (N := 5) (cA := τ.1) C dX12_determinant_152 14 mA_20 rfl h32 (Wd' := mW τ q s33) ((mS_20 _ _).trans (congrArg (mW τ q) e34.symm)) (pc' := 153) rfl ?_
            refine wm_goto C dX12_determinant_153 164 (by decide) ?_
            refine wm_sub (lv' := [(0, .ref (q 0)), (1, .int x1), (2, .long x2), (4, .int (x4 + 1))]) [1, 2, 3, 0] rfl ?_
            exact wJ_164 x2 (x4 + 1) s33 _ _ hf hE
        · have hf := ite_f (fun h => h h21) hf
          refine wm_iinc (v := x4 + (-1)) (lv' := [(4, .int (x4 + (-1))), (0, .ref (q 0)), (1, .int x1), (2, .long x2), (5, .int v18)]) C dX12_determinant_108 3 rfl rfl (by decide) rfl (pc' := 111) rfl ?_
          refine wm_goto C dX12_determinant_111 44 (by decide) ?_
          refine wm_sub (lv' := [(0, .ref (q 0)), (1, .int x1), (2, .long x2), (4, .int (x4 + (-1)))]) [1, 2, 3, 0] rfl ?_
          exact ih x2 (x4 + (-1)) s19 _ _ hf hE
      refine wm_iload C dX12_determinant_44 3 rfl (pc' := 46) rfl ?_
      refine wm_if_lt C dX12_determinant_46 167 (by decide) (pc' := 49) rfl (fun h12 => ?_) (fun h12 => ?_)
      · have hf := ite_t h12 hf
        obtain ⟨rfl, rfl⟩ := leaf_s hf
        refine wm_sub (lv' := [(2, .long x2)]) [2] rfl ?_
        exact hE
      · have hf := ite_f h12 hf
        refine wm_aload_n C dX12_determinant_49 0 rfl (pc' := 50) rfl ?_
        refine m_get (v := .ref (q 20)) C dX12_determinant_50 in_X12_determinant 20 (by decide) (by decide +kernel) rfl rfl (pc' := 53) rfl ?_
        refine wm_iload C dX12_determinant_53 3 rfl (pc' := 55) rfl ?_
        obtain ⟨h13, hf⟩ := chk_s hf
        refine wm_iald (f := gA s 20) (N := 5) (cA := τ.1) C dX12_determinant_55 14 mA_20 rfl h13 (pc' := 56) rfl ?_
        refine wm_istore (lv' := [(5, .int (gA s 20 x4.toNatClampNeg)), (0, .ref (q 0)), (1, .int x1), (2, .long x2), (4, .int x4)]) C dX12_determinant_56 (by decide) rfl (pc' := 58) rfl ?_
        refine wm_iload C dX12_determinant_58 0 rfl (pc' := 60) rfl ?_
        refine wm_if_lt C dX12_determinant_60 71 (by decide) (pc' := 63) rfl (fun h14 => ?_) (fun h14 => ?_)
        · have hf := ite_t h14 hf
          refine wm_sub (lv' := [(0, .ref (q 0)), (1, .int x1), (2, .long x2), (4, .int x4), (5, .int (gA s 20 x4.toNatClampNeg))]) [1, 2, 3, 4, 0] rfl ?_
          exact wJ_71 x2 x4 (gA s 20 x4.toNatClampNeg) s _ _ hf hE
        · have hf := ite_f h14 hf
          refine wm_aload_n C dX12_determinant_63 1 rfl (pc' := 64) rfl ?_
          refine m_get (v := .ref (q 21)) C dX12_determinant_64 in_X12_determinant 21 (by decide) (by decide +kernel) rfl rfl (pc' := 67) rfl ?_
          refine wm_iload C dX12_determinant_67 0 rfl (pc' := 69) rfl ?_
          refine wm_ikonst (v := 0) C dX12_determinant_69 (by decide) (pc' := 70) rfl ?_
          obtain ⟨h35, hf⟩ := chk_s hf
          obtain ⟨s36, e37, hf⟩ := lets_s hf
          refine wm_zast (f := gA s 21) (N := 5) (cA := τ.2.2.1) C dX12_determinant_70 15 mA_21 rfl h35 (Wd' := mW τ q s36) ((mS_21 _ _).trans (congrArg (mW τ q) e37.symm)) (pc' := 71) rfl ?_
          refine wm_sub (lv' := [(0, .ref (q 0)), (1, .int x1), (2, .long x2), (4, .int x4), (5, .int (gA s 20 x4.toNatClampNeg))]) [1, 2, 3, 4, 0] rfl ?_
          exact wJ_71 x2 x4 (gA s 20 x4.toNatClampNeg) s36 _ _ hf hE
  refine wm_aload_n C dX12_determinant_0 0 rfl (pc' := 1) rfl ?_
  refine m_get (v := .int (gI σ 16)) C dX12_determinant_1 in_X12_determinant 16 (by decide) (by decide +kernel) rfl rfl (pc' := 4) rfl ?_
  refine wm_if_ne C dX12_determinant_4 9 (by decide) (pc' := 7) rfl (fun h1 => ?_) (fun h1 => ?_)
  · have hf := ite_t h1 hf
    refine wm_lkonst (v := 0) C dX12_determinant_9 (by decide) (pc' := 10) rfl ?_
    refine wm_lstore_n (lv' := [(2, .long 0), (0, .ref (q 0)), (1, .int x1)]) C dX12_determinant_10 (by decide) rfl (pc' := 11) rfl ?_
    refine wm_ikonst (v := 0) C dX12_determinant_11 (by decide) (pc' := 12) rfl ?_
    refine wm_istore (lv' := [(4, .int 0), (2, .long 0), (0, .ref (q 0)), (1, .int x1)]) C dX12_determinant_12 (by decide) rfl (pc' := 14) rfl ?_
    refine wm_sub (lv' := [(0, .ref (q 0)), (1, .int x1), (2, .long 0), (4, .int 0)]) [2, 3, 1, 0] rfl ?_
    obtain ⟨v6, s7, h8, hf⟩ := bnd_s hf
    refine wL_14 x1 0 FU 0 σ v6 s7 h8 ?_
    refine wm_ikonst (v := 0) C dX12_determinant_34 (by decide) (pc' := 35) rfl ?_
    refine wm_istore (lv' := [(4, .int 0), (0, .ref (q 0)), (1, .int x1), (2, .long 0)]) C dX12_determinant_35 (by decide) rfl (pc' := 37) rfl ?_
    refine wm_aload_n C dX12_determinant_37 1 rfl (pc' := 38) rfl ?_
    refine m_get (v := .ref (q 20)) C dX12_determinant_38 in_X12_determinant 20 (by decide) (by decide +kernel) rfl rfl (pc' := 41) rfl ?_
    refine wm_ikonst (v := 0) C dX12_determinant_41 (by decide) (pc' := 42) rfl ?_
    refine wm_ikonst (v := (-1)) C dX12_determinant_42 (by decide) (pc' := 43) rfl ?_
    obtain ⟨h9, hf⟩ := chk_s hf
    obtain ⟨s10, e11, hf⟩ := lets_s hf
    refine wm_iast (f := gA s7 20) (N := 5) (cA := τ.1) C dX12_determinant_43 14 mA_20 rfl h9 (Wd' := mW τ q s10) ((mS_20 _ _).trans (congrArg (mW τ q) e11.symm)) (pc' := 44) rfl ?_
    refine wm_sub (lv' := [(0, .ref (q 0)), (1, .int x1), (2, .long 0), (4, .int 0)]) [1, 2, 3, 0] rfl ?_
    obtain ⟨v38, s39, h40, hf⟩ := bnd_s hf
    refine wL_44 x1 FU 0 0 s10 v38 s39 h40 ?_
    refine wm_lload_n C dX12_determinant_167 0 rfl (pc' := 168) rfl ?_
    obtain ⟨rfl, rfl⟩ := leaf_s hf
    exact wm_lret C dX12_determinant_168 (Nat.zero_le _) (Nat.zero_le _) FD.rf
  · have hf := ite_f (fun h => h h1) hf
    refine wm_lkonst (v := 1) C dX12_determinant_7 (by decide) (pc' := 8) rfl ?_
    obtain ⟨rfl, rfl⟩ := leaf_s hf
    exact wm_lret C dX12_determinant_8 (Nat.zero_le _) (Nat.zero_le _) FD.rf
