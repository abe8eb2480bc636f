def fJ6_bitCount_0f7a4 (x0 : Int32) : Option (Int32 × Unit) :=
  some ((((((((x0 - (((x0.toUInt32 >>> ((1 : Int32).toUInt32 &&& Int32.toUInt32 31)).toInt32) &&& 1431655765)) &&& 858993459) + ((((x0 - (((x0.toUInt32 >>> ((1 : Int32).toUInt32 &&& Int32.toUInt32 31)).toInt32) &&& 1431655765)).toUInt32 >>> ((2 : Int32).toUInt32 &&& Int32.toUInt32 31)).toInt32) &&& 858993459)) + (((((x0 - (((x0.toUInt32 >>> ((1 : Int32).toUInt32 &&& Int32.toUInt32 31)).toInt32) &&& 1431655765)) &&& 858993459) + ((((x0 - (((x0.toUInt32 >>> ((1 : Int32).toUInt32 &&& Int32.toUInt32 31)).toInt32) &&& 1431655765)).toUInt32 >>> ((2 : Int32).toUInt32 &&& Int32.toUInt32 31)).toInt32) &&& 858993459)).toUInt32 >>> ((4 : Int32).toUInt32 &&& Int32.toUInt32 31)).toInt32)) &&& 252645135) + (((((((x0 - (((x0.toUInt32 >>> ((1 : Int32).toUInt32 &&& Int32.toUInt32 31)).toInt32) &&& 1431655765)) &&& 858993459) + ((((x0 - (((x0.toUInt32 >>> ((1 : Int32).toUInt32 &&& Int32.toUInt32 31)).toInt32) &&& 1431655765)).toUInt32 >>> ((2 : Int32).toUInt32 &&& Int32.toUInt32 31)).toInt32) &&& 858993459)) + (((((x0 - (((x0.toUInt32 >>> ((1 : Int32).toUInt32 &&& Int32.toUInt32 31)).toInt32) &&& 1431655765)) &&& 858993459) + ((((x0 - (((x0.toUInt32 >>> ((1 : Int32).toUInt32 &&& Int32.toUInt32 31)).toInt32) &&& 1431655765)).toUInt32 >>> ((2 : Int32).toUInt32 &&& Int32.toUInt32 31)).toInt32) &&& 858993459)).toUInt32 >>> ((4 : Int32).toUInt32 &&& Int32.toUInt32 31)).toInt32)) &&& 252645135).toUInt32 >>> ((8 : Int32).toUInt32 &&& Int32.toUInt32 31)).toInt32)) + ((((((((x0 - (((x0.toUInt32 >>> ((1 : Int32).toUInt32 &&& Int32.toUInt32 31)).toInt32) &&& 1431655765)) &&& 858993459) + ((((x0 - (((x0.toUInt32 >>> ((1 : Int32).toUInt32 &&& Int32.toUInt32 31)).toInt32) &&& 1431655765)).toUInt32 >>> ((2 : Int32).toUInt32 &&& Int32.toUInt32 31)).toInt32) &&& 858993459)) + (((((x0 - (((x0.toUInt32 >>> ((1 : Int32).toUInt32 &&& Int32.toUInt32 31)).toInt32) &&& 1431655765)) &&& 858993459) + ((((x0 - (((x0.toUInt32 >>> ((1 : Int32).toUInt32 &&& Int32.toUInt32 31)).toInt32) &&& 1431655765)).toUInt32 >>> ((2 : Int32).toUInt32 &&& Int32.toUInt32 31)).toInt32) &&& 858993459)).toUInt32 >>> ((4 : Int32).toUInt32 &&& Int32.toUInt32 31)).toInt32)) &&& 252645135) + (((((((x0 - (((x0.toUInt32 >>> ((1 : Int32).toUInt32 &&& Int32.toUInt32 31)).toInt32) &&& 1431655765)) &&& 858993459) + ((((x0 - (((x0.toUInt32 >>> ((1 : Int32).toUInt32 &&& Int32.toUInt32 31)).toInt32) &&& 1431655765)).toUInt32 >>> ((2 : Int32).toUInt32 &&& Int32.toUInt32 31)).toInt32) &&& 858993459)) + (((((x0 - (((x0.toUInt32 >>> ((1 : Int32).toUInt32 &&& Int32.toUInt32 31)).toInt32) &&& 1431655765)) &&& 858993459) + ((((x0 - (((x0.toUInt32 >>> ((1 : Int32).toUInt32 &&& Int32.toUInt32 31)).toInt32) &&& 1431655765)).toUInt32 >>> ((2 : Int32).toUInt32 &&& Int32.toUInt32 31)).toInt32) &&& 858993459)).toUInt32 >>> ((4 : Int32).toUInt32 &&& Int32.toUInt32 31)).toInt32)) &&& 252645135).toUInt32 >>> ((8 : Int32).toUInt32 &&& Int32.toUInt32 31)).toInt32)).toUInt32 >>> ((16 : Int32).toUInt32 &&& Int32.toUInt32 31)).toInt32)) &&& 63, ())
set_option maxHeartbeats 4000000 in
set_option maxRecDepth 100000 in
theorem kJ6_bitCount_0f7a4 (l : Launch) (D : va_G) (τ : CId) (x0 : Int32) (rE : Int32) (hf : fJ6_bitCount_0f7a4 x0 = some (rE, ())) : Ct l D τ yJ6_bitCount_0f7a4 wsJ6_bitCount_0f7a4 { frames := 0, cells := 0, slots := 0, locals := 0 } [.int x0] [] (FD [] (some (.int rE))) := by
  unfold fJ6_bitCount_0f7a4 at hf
  refine ct_of (cc := cJ6_bitCount_0f7a4) (maxL := 1) (ret := (some .int)) (by decide) rfl (Nat.le_of_ble_eq_true rfl) (fun Γ C => ?_)
  refine wm_lv (lv' := [(0, .int x0)]) rfl ?_
  have s : Unit := ()
  refine wm_iload_n C dJ6_bitCount_0f7a4_0 0 rfl (pc' := 1) rfl ?_
  refine wm_iload_n C dJ6_bitCount_0f7a4_1 0 rfl (pc' := 2) rfl ?_
  refine wm_ikonst (v := 1) C dJ6_bitCount_0f7a4_2 (by decide) (pc' := 3) rfl ?_
  refine wm_iushr C dJ6_bitCount_0f7a4_3 (pc' := 4) rfl ?_
  refine wm_ldcw (v := 1431655765) C dJ6_bitCount_0f7a4_4 (by decide +kernel) (pc' := 7) rfl ?_
  refine wm_iand C dJ6_bitCount_0f7a4_7 (pc' := 8) rfl ?_
  refine wm_isub C dJ6_bitCount_0f7a4_8 (pc' := 9) rfl ?_
  refine wm_istore_n (lv' := [(0, .int (x0 - (((x0.toUInt32 >>> ((1 : Int32).toUInt32 &&& Int32.toUInt32 31)).toInt32) &&& 1431655765)))]) C dJ6_bitCount_0f7a4_9 (by decide) rfl (pc' := 10) rfl ?_
  refine wm_iload_n C dJ6_bitCount_0f7a4_10 0 rfl (pc' := 11) rfl ?_
  refine wm_ldcw (v := 858993459) C dJ6_bitCount_0f7a4_11 (by decide +kernel) (pc' := 14) rfl ?_
  refine wm_iand C dJ6_bitCount_0f7a4_14 (pc' := 15) rfl ?_
  refine wm_iload_n C dJ6_bitCount_0f7a4_15 0 rfl (pc' := 16) rfl ?_
  refine wm_ikonst (v := 2) C dJ6_bitCount_0f7a4_16 (by decide) (pc' := 17) rfl ?_
  refine wm_iushr C dJ6_bitCount_0f7a4_17 (pc' := 18) rfl ?_
  refine wm_ldcw (v := 858993459) C dJ6_bitCount_0f7a4_18 (by decide +kernel) (pc' := 21) rfl ?_
  refine wm_iand C dJ6_bitCount_0f7a4_21 (pc' := 22) rfl ?_
  refine wm_iadd C dJ6_bitCount_0f7a4_22 (pc' := 23) rfl ?_
  refine wm_istore_n (lv' := [(0, .int (((x0 - (((x0.toUInt32 >>> ((1 : Int32).toUInt32 &&& Int32.toUInt32 31)).toInt32) &&& 1431655765)) &&& 858993459) + ((((x0 - (((x0.toUInt32 >>> ((1 : Int32).toUInt32 &&& Int32.toUInt32 31)).toInt32) &&& 1431655765)).toUInt32 >>> ((2 : Int32).toUInt32 &&& Int32.toUInt32 31)).toInt32) &&& 858993459)))]) C dJ6_bitCount_0f7a4_23 (by decide) rfl (pc' := 24) rfl ?_
  refine wm_iload_n C dJ6_bitCount_0f7a4_24 0 rfl (pc' := 25) rfl ?_
  refine wm_iload_n C dJ6_bitCount_0f7a4_25 0 rfl (pc' := 26) rfl ?_
  refine wm_ikonst (v := 4) C dJ6_bitCount_0f7a4_26 (by decide) (pc' := 27) rfl ?_
  refine wm_iushr C dJ6_bitCount_0f7a4_27 (pc' := 28) rfl ?_
  refine wm_iadd C dJ6_bitCount_0f7a4_28 (pc' := 29) rfl ?_
  refine wm_ldcw (v := 252645135) C dJ6_bitCount_0f7a4_29 (by decide +kernel) (pc' := 32) rfl ?_
  refine wm_iand C dJ6_bitCount_0f7a4_32 (pc' := 33) rfl ?_
  refine wm_istore_n (lv' := [(0, .int (((((x0 - (((x0.toUInt32 >>> ((1 : Int32).toUInt32 &&& Int32.toUInt32 31)).toInt32) &&& 1431655765)) &&& 858993459) + ((((x0 - (((x0.toUInt32 >>> ((1 : Int32).toUInt32 &&& Int32.toUInt32 31)).toInt32) &&& 1431655765)).toUInt32 >>> ((2 : Int32).toUInt32 &&& Int32.toUInt32 31)).toInt32) &&& 858993459)) + (((((x0 - (((x0.toUInt32 >>> ((1 : Int32).toUInt32 &&& Int32.toUInt32 31)).toInt32) &&& 1431655765)) &&& 858993459) + ((((x0 - (((x0.toUInt32 >>> ((1 : Int32).toUInt32 &&& Int32.toUInt32 31)).toInt32) &&& 1431655765)).toUInt32 >>> ((2 : Int32).toUInt32 &&& Int32.toUInt32 31)).toInt32) &&& 858993459)).toUInt32 >>> ((4 : Int32).toUInt32 &&& Int32.toUInt32 31)).toInt32)) &&& 252645135))]) C dJ6_bitCount_0f7a4_33 (by decide) rfl (pc' := 34) rfl ?_
  refine wm_iload_n C dJ6_bitCount_0f7a4_34 0 rfl (pc' := 35) rfl ?_
  refine wm_iload_n C dJ6_bitCount_0f7a4_35 0 rfl (pc' := 36) rfl ?_
  refine wm_bipush (v := 8) C dJ6_bitCount_0f7a4_36 (by decide) (pc' := 38) rfl ?_
  refine wm_iushr C dJ6_bitCount_0f7a4_38 (pc' := 39) rfl ?_
  refine wm_iadd C dJ6_bitCount_0f7a4_39 (pc' := 40) rfl ?_
  refine wm_istore_n (lv' := [(0, .int ((((((x0 - (((x0.toUInt32 >>> ((1 : Int32).toUInt32 &&& Int32.toUInt32 31)).toInt32) &&& 1431655765)) &&& 858993459) + ((((x0 - (((x0.toUInt32 >>> ((1 : Int32).toUInt32 &&& Int32.toUInt32 31)).toInt32) &&& 1431655765)).toUInt32 >>> ((2 : Int32).toUInt32 &&& Int32.toUInt32 31)).toInt32) &&& 858993459)) + (((((x0 - (((x0.toUInt32 >>> ((1 : Int32).toUInt32 &&& Int32.toUInt32 31)).toInt32) &&& 1431655765)) &&& 858993459) + ((((x0 - (((x0.toUInt32 >>> ((1 : Int32).toUInt32 &&& Int32.toUInt32 31)).toInt32) &&& 1431655765)).toUInt32 >>> ((2 : Int32).toUInt32 &&& Int32.toUInt32 31)).toInt32) &&& 858993459)).toUInt32 >>> ((4 : Int32).toUInt32 &&& Int32.toUInt32 31)).toInt32)) &&& 252645135) + (((((((x0 - (((x0.toUInt32 >>> ((1 : Int32).toUInt32 &&& Int32.toUInt32 31)).toInt32) &&& 1431655765)) &&& 858993459) + ((((x0 - (((x0.toUInt32 >>> ((1 : Int32).toUInt32 &&& Int32.toUInt32 31)).toInt32) &&& 1431655765)).toUInt32 >>> ((2 : Int32).toUInt32 &&& Int32.toUInt32 31)).toInt32) &&& 858993459)) + (((((x0 - (((x0.toUInt32 >>> ((1 : Int32).toUInt32 &&& Int32.toUInt32 31)).toInt32) &&& 1431655765)) &&& 858993459) + ((((x0 - (((x0.toUInt32 >>> ((1 : Int32).toUInt32 &&& Int32.toUInt32 31)).toInt32) &&& 1431655765)).toUInt32 >>> ((2 : Int32).toUInt32 &&& Int32.toUInt32 31)).toInt32) &&& 858993459)).toUInt32 >>> ((4 : Int32).toUInt32 &&& Int32.toUInt32 31)).toInt32)) &&& 252645135).toUInt32 >>> ((8 : Int32).toUInt32 &&& Int32.toUInt32 31)).toInt32)))]) C dJ6_bitCount_0f7a4_40 (by decide) rfl (pc' := 41) rfl ?_
  refine wm_iload_n C dJ6_bitCount_0f7a4_41 0 rfl (pc' := 42) rfl ?_
  refine wm_iload_n C dJ6_bitCount_0f7a4_42 0 rfl (pc' := 43) rfl ?_
  refine wm_bipush (v := 16) C dJ6_bitCount_0f7a4_43 (by decide) (pc' := 45) rfl ?_
  refine wm_iushr C dJ6_bitCount_0f7a4_45 (pc' := 46) rfl ?_
  refine wm_iadd C dJ6_bitCount_0f7a4_46 (pc' := 47) rfl ?_
  refine wm_istore_n (lv' := [(0, .int (((((((x0 - (((x0.toUInt32 >>> ((1 : Int32).toUInt32 &&& Int32.toUInt32 31)).toInt32) &&& 1431655765)) &&& 858993459) + ((((x0 - (((x0.toUInt32 >>> ((1 : Int32).toUInt32 &&& Int32.toUInt32 31)).toInt32) &&& 1431655765)).toUInt32 >>> ((2 : Int32).toUInt32 &&& Int32.toUInt32 31)).toInt32) &&& 858993459)) + (((((x0 - (((x0.toUInt32 >>> ((1 : Int32).toUInt32 &&& Int32.toUInt32 31)).toInt32) &&& 1431655765)) &&& 858993459) + ((((x0 - (((x0.toUInt32 >>> ((1 : Int32).toUInt32 &&& Int32.toUInt32 31)).toInt32) &&& 1431655765)).toUInt32 >>> ((2 : Int32).toUInt32 &&& Int32.toUInt32 31)).toInt32) &&& 858993459)).toUInt32 >>> ((4 : Int32).toUInt32 &&& Int32.toUInt32 31)).toInt32)) &&& 252645135) + (((((((x0 - (((x0.toUInt32 >>> ((1 : Int32).toUInt32 &&& Int32.toUInt32 31)).toInt32) &&& 1431655765)) &&& 858993459) + ((((x0 - (((x0.toUInt32 >>> ((1 : Int32).toUInt32 &&& Int32.toUInt32 31)).toInt32) &&& 1431655765)).toUInt32 >>> ((2 : Int32).toUInt32 &&& Int32.toUInt32 31)).toInt32) &&& 858993459)) + (((((x0 - (((x0.toUInt32 >>> ((1 : Int32).toUInt32 &&& Int32.toUInt32 31)).toInt32) &&& 1431655765)) &&& 858993459) + ((((x0 - (((x0.toUInt32 >>> ((1 : Int32).toUInt32 &&& Int32.toUInt32 31)).toInt32) &&& 1431655765)).toUInt32 >>> ((2 : Int32).toUInt32 &&& Int32.toUInt32 31)).toInt32) &&& 858993459)).toUInt32 >>> ((4 : Int32).toUInt32 &&& Int32.toUInt32 31)).toInt32)) &&& 252645135).toUInt32 >>> ((8 : Int32).toUInt32 &&& Int32.toUInt32 31)).toInt32)) + ((((((((x0 - (((x0.toUInt32 >>> ((1 : Int32).toUInt32 &&& Int32.toUInt32 31)).toInt32) &&& 1431655765)) &&& 858993459) + ((((x0 - (((x0.toUInt32 >>> ((1 : Int32).toUInt32 &&& Int32.toUInt32 31)).toInt32) &&& 1431655765)).toUInt32 >>> ((2 : Int32).toUInt32 &&& Int32.toUInt32 31)).toInt32) &&& 858993459)) + (((((x0 - (((x0.toUInt32 >>> ((1 : Int32).toUInt32 &&& Int32.toUInt32 31)).toInt32) &&& 1431655765)) &&& 858993459) + ((((x0 - (((x0.toUInt32 >>> ((1 : Int32).toUInt32 &&& Int32.toUInt32 31)).toInt32) &&& 1431655765)).toUInt32 >>> ((2 : Int32).toUInt32 &&& Int32.toUInt32 31)).toInt32) &&& 858993459)).toUInt32 >>> ((4 : Int32).toUInt32 &&& Int32.toUInt32 31)).toInt32)) &&& 252645135) + (((((((x0 - (((x0.toUInt32 >>> ((1 : Int32).toUInt32 &&& Int32.toUInt32 31)).toInt32) &&& 1431655765)) &&& 858993459) + ((((x0 - (((x0.toUInt32 >>> ((1 : Int32).toUInt32 &&& Int32.toUInt32 31)).toInt32) &&& 1431655765)).toUInt32 >>> ((2 : Int32).toUInt32 &&& Int32.toUInt32 31)).toInt32) &&& 858993459)) + (((((x0 - (((x0.toUInt32 >>> ((1 : Int32).toUInt32 &&& Int32.toUInt32 31)).toInt32) &&& 1431655765)) &&& 858993459) + ((((x0 - (((x0.toUInt32 >>> ((1 : Int32).toUInt32 &&& Int32.toUInt32 31)).toInt32) &&& 1431655765)).toUInt32 >>> ((2 : Int32).toUInt32 &&& Int32.toUInt32 31)).toInt32) &&& 858993459)).toUInt32 >>> ((4 : Int32).toUInt32 &&& Int32.toUInt32 31)).toInt32)) &&& 252645135).toUInt32 >>> ((8 : Int32).toUInt32 &&& Int32.toUInt32 31)).toInt32)).toUInt32 >>> ((16 : Int32).toUInt32 &&& Int32.toUInt32 31)).toInt32)))]) C dJ6_bitCount_0f7a4_47 (by decide) rfl (pc' := 48) rfl ?_
  refine wm_iload_n C dJ6_bitCount_0f7a4_48 0 rfl (pc' := 49) rfl ?_
  refine wm_bipush (v := 63) C dJ6_bitCount_0f7a4_49 (by decide) (pc' := 51) rfl ?_
  refine wm_iand C dJ6_bitCount_0f7a4_51 (pc' := 52) rfl ?_
  obtain ⟨rfl, -⟩ := leaf_s hf
  exact wm_iret C dJ6_bitCount_0f7a4_52 (Nat.zero_le _) (Nat.zero_le _) FD.rf
def fJ7_fill_d0a16_c_L6 (nc : Nat) (x0 : Nat) (x1 : Int64) (x4 : Int32) : Nat → Int32 → MS → Option (Unit × MS)
  | 0, _, _ => none
  | fu + 1, x3, s => if x4 ≤ x3 then some ((), s) else if x0 < 4 then if ¬ (x3 < 0 ∨ 24 ≤ x3.toNatClampNeg) then lets (sB s (90 + x0) x3.toNatClampNeg x1) (fun s4 => fJ7_fill_d0a16_c_L6 nc x0 x1 x4 fu (x3 + 1) s4) else none else none
theorem fJ7_fill_d0a16_c_L6_s (nc : Nat) (x0 : Nat) (x1 : Int64) (x4 : Int32) (fu : Nat) (x3 : Int32) (s : MS) : fJ7_fill_d0a16_c_L6 nc x0 x1 x4 (fu + 1) x3 s = (if x4 ≤ x3 then some ((), s) else if x0 < 4 then if ¬ (x3 < 0 ∨ 24 ≤ x3.toNatClampNeg) then lets (sB s (90 + x0) x3.toNatClampNeg x1) (fun s4 => fJ7_fill_d0a16_c_L6 nc x0 x1 x4 fu (x3 + 1) s4) else none else none) := rfl
def fJ7_fill_d0a16_c (nc : Nat) (x0 : Nat) (x1 : Int64) (σ : MS) : Option (Unit × MS) :=
  if x0 < 4 then bnd (fJ7_fill_d0a16_c_L6 nc x0 x1 24 FU 0 σ) (fun v7 s8 => some ((), s8)) else none
set_option maxHeartbeats 4000000 in
set_option maxRecDepth 100000 in
theorem kJ7_fill_d0a16_c (l : Launch) (D : va_G) (τ : CId) (q : Nat → Nat) (nc : Nat) (σ : MS) (x0 : Nat) (x1 : Int64) (sE : MS) (hf : fJ7_fill_d0a16_c nc x0 x1 σ = some ((), sE)) : Ct l D τ yJ7_fill_d0a16 wsJ7_fill_d0a16 { frames := 0, cells := 0, slots := 0, locals := 0 } [.ref (q (90 + x0)), .long x1] (xW τ q nc σ) (FD (xW τ q nc sE) none) := by
  unfold fJ7_fill_d0a16_c at hf
  refine ct_of (cc := cJ7_fill_d0a16) (maxL := 5) (ret := none) (by decide) rfl (Nat.le_of_ble_eq_true rfl) (fun Γ C => ?_)
  refine wm_lv (lv' := [(0, .ref (q (90 + x0))), (1, .long x1)]) rfl ?_
  have wL_6 : ∀ (x0 : Nat) (x1 : Int64) (x4 : Int32) (fu : Nat) (x3 : Int32) (s : MS) (v : Unit) (s' : MS), fJ7_fill_d0a16_c_L6 nc x0 x1 x4 fu x3 s = some (v, s') → WM l D Γ 5 0 0 (xW τ q nc s') 22 [] [] → WM l D Γ 5 0 0 (xW τ q nc s) 6 [(0, .ref (q (90 + x0))), (1, .long x1), (3, .int x3), (4, .int x4)] [] := by
    intro x0 x1 x4
    intro fu
    induction fu with
    | zero => intro x3 s v s' hf hE; exact absurd hf (fun h => nomatch (show (none : Option _) = some _ from h))
    | succ fu ih =>
      intro x3 s v s' hf hE
      rw [fJ7_fill_d0a16_c_L6_s] at hf
      refine wm_iload_n C dJ7_fill_d0a16_6 2 rfl (pc' := 7) rfl ?_
      refine wm_iload C dJ7_fill_d0a16_7 3 rfl (pc' := 9) rfl ?_
      refine wm_icmp_ge C dJ7_fill_d0a16_9 22 (by decide) (pc' := 12) rfl (fun h2 => ?_) (fun h2 => ?_)
      · have hf := ite_t h2 hf
        obtain ⟨rfl, rfl⟩ := leaf_s hf
        refine wm_sub (lv' := []) [] rfl ?_
        exact hE
      · have hf := ite_f h2 hf
        refine wm_aload_n C dJ7_fill_d0a16_12 0 rfl (pc' := 13) rfl ?_
        refine wm_iload_n C dJ7_fill_d0a16_13 2 rfl (pc' := 14) rfl ?_
        refine wm_lload_n C dJ7_fill_d0a16_14 1 rfl (pc' := 15) rfl ?_
        obtain ⟨h6, hf⟩ := chk_s hf
        obtain ⟨h3, hf⟩ := chk_s hf
        obtain ⟨s4, e5, hf⟩ := lets_s hf
        refine wm_last (f := gB s (90 + x0)) (N := 24) (cA := τ.2.1) C dJ7_fill_d0a16_15 (23 + x0) (x_at (by omega) (xC_cells h6)) rfl h3 (Wd' := xW τ q nc s4) (xW_set (e5 ▸ (xC_Bcells h6)) (by rw [e5, xC_cells h6, gB_eq])) (pc' := 16) rfl ?_
        refine wm_iinc (v := x3 + 1) (lv' := [(3, .int (x3 + 1)), (0, .ref (q (90 + x0))), (1, .long x1), (4, .int x4)]) C dJ7_fill_d0a16_16 2 rfl rfl (by decide) rfl (pc' := 19) rfl ?_
        refine wm_goto C dJ7_fill_d0a16_19 6 (by decide) ?_
        refine wm_sub (lv' := [(0, .ref (q (90 + x0))), (1, .long x1), (3, .int (x3 + 1)), (4, .int x4)]) [1, 2, 0, 3] rfl ?_
        exact ih (x3 + 1) s4 _ _ hf hE
  refine wm_ikonst (v := 0) C dJ7_fill_d0a16_0 (by decide) (pc' := 1) rfl ?_
  refine wm_istore_n (lv' := [(3, .int 0), (0, .ref (q (90 + x0))), (1, .long x1)]) C dJ7_fill_d0a16_1 (by decide) rfl (pc' := 2) rfl ?_
  refine wm_aload_n C dJ7_fill_d0a16_2 1 rfl (pc' := 3) rfl ?_
  obtain ⟨h1, hf⟩ := chk_s hf
  refine wm_alen (v := 24) C dJ7_fill_d0a16_3 (23 + x0) (x_at (by omega) (xC_cells h1)) rfl (by decide) (pc' := 4) rfl ?_
  refine wm_istore (lv' := [(4, .int 24), (3, .int 0), (0, .ref (q (90 + x0))), (1, .long x1)]) C dJ7_fill_d0a16_4 (by decide) rfl (pc' := 6) rfl ?_
  refine wm_sub (lv' := [(0, .ref (q (90 + x0))), (1, .long x1), (3, .int 0), (4, .int 24)]) [2, 3, 1, 0] rfl ?_
  obtain ⟨v7, s8, h9, hf⟩ := bnd_s hf
  refine wL_6 x0 x1 24 FU 0 σ v7 s8 h9 ?_
  obtain ⟨-, rfl⟩ := leaf_s hf
  exact wm_vret C dJ7_fill_d0a16_22 (Nat.zero_le _) (Nat.zero_le _) FD.rf
def fJ7_fill_d0a16_r_L6 (nc : Nat) (x0 : Nat) (x1 : Int64) (x4 : Int32) : Nat → Int32 → MS → Option (Unit × MS)
  | 0, _, _ => none
  | fu + 1, x3, s => if x4 ≤ x3 then some ((), s) else if x0 < 6 then if ¬ (x3 < 0 ∨ 7 ≤ x3.toNatClampNeg) then lets (sB s (100 + x0) x3.toNatClampNeg x1) (fun s4 => fJ7_fill_d0a16_r_L6 nc x0 x1 x4 fu (x3 + 1) s4) else none else none
theorem fJ7_fill_d0a16_r_L6_s (nc : Nat) (x0 : Nat) (x1 : Int64) (x4 : Int32) (fu : Nat) (x3 : Int32) (s : MS) : fJ7_fill_d0a16_r_L6 nc x0 x1 x4 (fu + 1) x3 s = (if x4 ≤ x3 then some ((), s) else if x0 < 6 then if ¬ (x3 < 0 ∨ 7 ≤ x3.toNatClampNeg) then lets (sB s (100 + x0) x3.toNatClampNeg x1) (fun s4 => fJ7_fill_d0a16_r_L6 nc x0 x1 x4 fu (x3 + 1) s4) else none else none) := rfl
def fJ7_fill_d0a16_r (nc : Nat) (x0 : Nat) (x1 : Int64) (σ : MS) : Option (Unit × MS) :=
  if x0 < 6 then bnd (fJ7_fill_d0a16_r_L6 nc x0 x1 7 FU 0 σ) (fun v7 s8 => some ((), s8)) else none
set_option maxHeartbeats 4000000 in
set_option maxRecDepth 100000 in
theorem kJ7_fill_d0a16_r (l : Launch) (D : va_G) (τ : CId) (q : Nat → Nat) (nc : Nat) (σ : MS) (x0 : Nat) (x1 : Int64) (sE : MS) (hf : fJ7_fill_d0a16_r nc x0 x1 σ = some ((), sE)) : Ct l D τ yJ7_fill_d0a16 wsJ7_fill_d0a16 { frames := 0, cells := 0, slots := 0, locals := 0 } [.ref (q (100 + x0)), .long x1] (xW τ q nc σ) (FD (xW τ q nc sE) none) := by
  unfold fJ7_fill_d0a16_r at hf
  refine ct_of (cc := cJ7_fill_d0a16) (maxL := 5) (ret := none) (by decide) rfl (Nat.le_of_ble_eq_true rfl) (fun Γ C => ?_)
  refine wm_lv (lv' := [(0, .ref (q (100 + x0))), (1, .long x1)]) rfl ?_
  have wL_6 : ∀ (x0 : Nat) (x1 : Int64) (x4 : Int32) (fu : Nat) (x3 : Int32) (s : MS) (v : Unit) (s' : MS), fJ7_fill_d0a16_r_L6 nc x0 x1 x4 fu x3 s = some (v, s') → WM l D Γ 5 0 0 (xW τ q nc s') 22 [] [] → WM l D Γ 5 0 0 (xW τ q nc s) 6 [(0, .ref (q (100 + x0))), (1, .long x1), (3, .int x3), (4, .int x4)] [] := by
    intro x0 x1 x4
    intro fu
    induction fu with
    | zero => intro x3 s v s' hf hE; exact absurd hf (fun h => nomatch (show (none : Option _) = some _ from h))
    | succ fu ih =>
      intro x3 s v s' hf hE
      rw [fJ7_fill_d0a16_r_L6_s] at hf
      refine wm_iload_n C dJ7_fill_d0a16_6 2 rfl (pc' := 7) rfl ?_
      refine wm_iload C dJ7_fill_d0a16_7 3 rfl (pc' := 9) rfl ?_
      refine wm_icmp_ge C dJ7_fill_d0a16_9 22 (by decide) (pc' := 12) rfl (fun h2 => ?_) (fun h2 => ?_)
      · have hf := ite_t h2 hf
        obtain ⟨rfl, rfl⟩ := leaf_s hf
        refine wm_sub (lv' := []) [] rfl ?_
        exact hE
      · have hf := ite_f h2 hf
        refine wm_aload_n C dJ7_fill_d0a16_12 0 rfl (pc' := 13) rfl ?_
        refine wm_iload_n C dJ7_fill_d0a16_13 2 rfl (pc' := 14) rfl ?_
        refine wm_lload_n C dJ7_fill_d0a16_14 1 rfl (pc' := 15) rfl ?_
        obtain ⟨h6, hf⟩ := chk_s hf
        obtain ⟨h3, hf⟩ := chk_s hf
        obtain ⟨s4, e5, hf⟩ := lets_s hf
        refine wm_last (f := gB s (100 + x0)) (N := 7) (cA := τ.2.1) C dJ7_fill_d0a16_15 (27 + x0) (x_at (by omega) (xC_rows h6)) rfl h3 (Wd' := xW τ q nc s4) (xW_set (e5 ▸ (xC_Brows h6)) (by rw [e5, xC_rows h6, gB_eq])) (pc' := 16) rfl ?_
        refine wm_iinc (v := x3 + 1) (lv' := [(3, .int (x3 + 1)), (0, .ref (q (100 + x0))), (1, .long x1), (4, .int x4)]) C dJ7_fill_d0a16_16 2 rfl rfl (by decide) rfl (pc' := 19) rfl ?_
        refine wm_goto C dJ7_fill_d0a16_19 6 (by decide) ?_
        refine wm_sub (lv' := [(0, .ref (q (100 + x0))), (1, .long x1), (3, .int (x3 + 1)), (4, .int x4)]) [1, 2, 0, 3] rfl ?_
        exact ih (x3 + 1) s4 _ _ hf hE
  refine wm_ikonst (v := 0) C dJ7_fill_d0a16_0 (by decide) (pc' := 1) rfl ?_
  refine wm_istore_n (lv' := [(3, .int 0), (0, .ref (q (100 + x0))), (1, .long x1)]) C dJ7_fill_d0a16_1 (by decide) rfl (pc' := 2) rfl ?_
  refine wm_aload_n C dJ7_fill_d0a16_2 1 rfl (pc' := 3) rfl ?_
  obtain ⟨h1, hf⟩ := chk_s hf
  refine wm_alen (v := 7) C dJ7_fill_d0a16_3 (27 + x0) (x_at (by omega) (xC_rows h1)) rfl (by decide) (pc' := 4) rfl ?_
  refine wm_istore (lv' := [(4, .int 7), (3, .int 0), (0, .ref (q (100 + x0))), (1, .long x1)]) C dJ7_fill_d0a16_4 (by decide) rfl (pc' := 6) rfl ?_
  refine wm_sub (lv' := [(0, .ref (q (100 + x0))), (1, .long x1), (3, .int 0), (4, .int 7)]) [2, 3, 1, 0] rfl ?_
  obtain ⟨v7, s8, h9, hf⟩ := bnd_s hf
  refine wL_6 x0 x1 7 FU 0 σ v7 s8 h9 ?_
  obtain ⟨-, rfl⟩ := leaf_s hf
  exact wm_vret C dJ7_fill_d0a16_22 (Nat.zero_le _) (Nat.zero_le _) FD.rf
def fX11_isWithin (x0 : Int64) (x2 : Int32) (x3 : Int32) : Option (Int32 × Unit) :=
  if (lg_cmp x0 x2.toInt64) < 0 then some (0, ()) else if 0 < (lg_cmp x0 x3.toInt64) then some (0, ()) else some (1, ())
set_option maxHeartbeats 4000000 in
set_option maxRecDepth 100000 in
theorem kX11_isWithin (l : Launch) (D : va_G) (τ : CId) (x0 : Int64) (x2 : Int32) (x3 : Int32) (rE : Int32) (hf : fX11_isWithin x0 x2 x3 = some (rE, ())) : Ct l D τ yX11_isWithin wsX11_isWithin { frames := 0, cells := 0, slots := 0, locals := 0 } [.long x0, .int x2, .int x3] [] (FD [] (some (.int rE))) := by
  unfold fX11_isWithin at hf
  refine ct_of (cc := cX11_isWithin) (maxL := 4) (ret := (some .boolean)) (by decide) rfl (Nat.le_of_ble_eq_true rfl) (fun Γ C => ?_)
  refine wm_lv (lv' := [(0, .long x0), (2, .int x2), (3, .int x3)]) rfl ?_
  have s : Unit := ()
  refine wm_lload_n C dX11_isWithin_0 0 rfl (pc' := 1) rfl ?_
  refine wm_iload_n C dX11_isWithin_1 1 rfl (pc' := 2) rfl ?_
  refine wm_i2l C dX11_isWithin_2 (pc' := 3) rfl ?_
  refine wm_lcmp C dX11_isWithin_3 (pc' := 4) rfl ?_
  refine wm_if_lt C dX11_isWithin_4 18 (by decide) (pc' := 7) rfl (fun h1 => ?_) (fun h1 => ?_)
  · have hf := ite_t h1 hf
    refine wm_ikonst (v := 0) C dX11_isWithin_18 (by decide) (pc' := 19) rfl ?_
    obtain ⟨rfl, -⟩ := leaf_s hf
    exact wm_zret C dX11_isWithin_19 (by decide) (Nat.zero_le _) (Nat.zero_le _) FD.rf
  · have hf := ite_f h1 hf
    refine wm_lload_n C dX11_isWithin_7 0 rfl (pc' := 8) rfl ?_
    refine wm_iload_n C dX11_isWithin_8 2 rfl (pc' := 9) rfl ?_
    refine wm_i2l C dX11_isWithin_9 (pc' := 10) rfl ?_
    refine wm_lcmp C dX11_isWithin_10 (pc' := 11) rfl ?_
    refine wm_if_gt C dX11_isWithin_11 18 (by decide) (pc' := 14) rfl (fun h2 => ?_) (fun h2 => ?_)
    · have hf := ite_t h2 hf
      refine wm_ikonst (v := 0) C dX11_isWithin_18 (by decide) (pc' := 19) rfl ?_
      obtain ⟨rfl, -⟩ := leaf_s hf
      exact wm_zret C dX11_isWithin_19 (by decide) (Nat.zero_le _) (Nat.zero_le _) FD.rf
    · have hf := ite_f h2 hf
      refine wm_ikonst (v := 1) C dX11_isWithin_14 (by decide) (pc' := 15) rfl ?_
      refine wm_goto C dX11_isWithin_15 19 (by decide) ?_
      obtain ⟨rfl, -⟩ := leaf_s hf
      exact wm_zret C dX11_isWithin_19 (by decide) (Nat.zero_le _) (Nat.zero_le _) FD.rf
def fX11_isKind (x0 : Int32) : Option (Int32 × Unit) :=
  bnd (fX11_isWithin x0.toInt64 0 4) (fun r1 u2 => if r1 = 0 ∨ r1 = 1 then some (r1, ()) else none)
set_option maxHeartbeats 4000000 in
set_option maxRecDepth 100000 in
theorem kX11_isKind (l : Launch) (D : va_G) (τ : CId) (x0 : Int32) (rE : Int32) (hf : fX11_isKind x0 = some (rE, ())) : Ct l D τ yX11_isKind wsX11_isKind { frames := 1, cells := 0, slots := 0, locals := 23 } [.int x0] [] (FD [] (some (.int rE))) := by
  unfold fX11_isKind at hf
  refine ct_of (cc := cX11_isKind) (maxL := 1) (ret := (some .boolean)) (by decide) rfl (Nat.le_of_ble_eq_true rfl) (fun Γ C => ?_)
  refine wm_lv (lv' := [(0, .int x0)]) rfl ?_
  have s : Unit := ()
  refine wm_iload_n C dX11_isKind_0 0 rfl (pc' := 1) rfl ?_
  refine wm_i2l C dX11_isKind_1 (pc' := 2) rfl ?_
  refine wm_ikonst (v := 0) C dX11_isKind_2 (by decide) (pc' := 3) rfl ?_
  refine wm_ikonst (v := 4) C dX11_isKind_3 (by decide) (pc' := 4) rfl ?_
  obtain ⟨r1, u2, h3, hf⟩ := bnd_s hf
  refine wm_callSd (nn := 3) (As := [.long x0.toInt64, .int 0, .int 4]) (rest := []) (st' := [.int r1]) C dX11_isKind_4 (kX11_isWithin l D τ x0.toInt64 0 4 r1 h3) gX11_isKind_X11_isWithin rfl (by decide +kernel) ⟨Nat.le_of_ble_eq_true rfl, Nat.le_of_ble_eq_true rfl⟩ rfl rfl ⟨Nat.zero_le _, Nat.zero_le _⟩ rfl rfl (Nat.le_of_ble_eq_true rfl) rfl (pc' := 7) rfl ?_
  obtain ⟨h4, hf⟩ := chk_s hf
  obtain ⟨rfl, -⟩ := leaf_s hf
  exact wm_zret C dX11_isKind_7 (nar_b h4) (Nat.zero_le _) (Nat.zero_le _) FD.rf
def fX11_isLane (x0 : Int32) : Option (Int32 × Unit) :=
  bnd (fX11_isWithin x0.toInt64 0 3) (fun r1 u2 => if r1 = 0 ∨ r1 = 1 then some (r1, ()) else none)
set_option maxHeartbeats 4000000 in
set_option maxRecDepth 100000 in
theorem kX11_isLane (l : Launch) (D : va_G) (τ : CId) (x0 : Int32) (rE : Int32) (hf : fX11_isLane x0 = some (rE, ())) : Ct l D τ yX11_isLane wsX11_isLane { frames := 1, cells := 0, slots := 0, locals := 23 } [.int x0] [] (FD [] (some (.int rE))) := by
  unfold fX11_isLane at hf
  refine ct_of (cc := cX11_isLane) (maxL := 1) (ret := (some .boolean)) (by decide) rfl (Nat.le_of_ble_eq_true rfl) (fun Γ C => ?_)
  refine wm_lv (lv' := [(0, .int x0)]) rfl ?_
  have s : Unit := ()
  refine wm_iload_n C dX11_isLane_0 0 rfl (pc' := 1) rfl ?_
  refine wm_i2l C dX11_isLane_1 (pc' := 2) rfl ?_
  refine wm_ikonst (v := 0) C dX11_isLane_2 (by decide) (pc' := 3) rfl ?_
  refine wm_ikonst (v := 3) C dX11_isLane_3 (by decide) (pc' := 4) rfl ?_
  obtain ⟨r1, u2, h3, hf⟩ := bnd_s hf
  refine wm_callSd (nn := 3) (As := [.long x0.toInt64, .int 0, .int 3]) (rest := []) (st' := [.int r1]) C dX11_isLane_4 (kX11_isWithin l D τ x0.toInt64 0 3 r1 h3) gX11_isLane_X11_isWithin rfl (by decide +kernel) ⟨Nat.le_of_ble_eq_true rfl, Nat.le_of_ble_eq_true rfl⟩ rfl rfl ⟨Nat.zero_le _, Nat.zero_le _⟩ rfl rfl (Nat.le_of_ble_eq_true rfl) rfl (pc' := 7) rfl ?_
  obtain ⟨h4, hf⟩ := chk_s hf
  obtain ⟨rfl, -⟩ := leaf_s hf
  exact wm_zret C dX11_isLane_7 (nar_b h4) (Nat.zero_le _) (Nat.zero_le _) FD.rf
def fX11_isCore (x0 : Int32) : Option (Int32 × Unit) :=
  bnd (fX11_isWithin x0.toInt64 0 3) (fun r1 u2 => if r1 = 0 ∨ r1 = 1 then some (r1, ()) else none)
set_option maxHeartbeats 4000000 in
set_option maxRecDepth 100000 in
theorem kX11_isCore (l : Launch) (D : va_G) (τ : CId) (x0 : Int32) (rE : Int32) (hf : fX11_isCore x0 = some (rE, ())) : Ct l D τ yX11_isCore wsX11_isCore { frames := 1, cells := 0, slots := 0, locals := 23 } [.int x0] [] (FD [] (some (.int rE))) := by
  unfold fX11_isCore at hf
  refine ct_of (cc := cX11_isCore) (maxL := 1) (ret := (some .boolean)) (by decide) rfl (Nat.le_of_ble_eq_true rfl) (fun Γ C => ?_)
  refine wm_lv (lv' := [(0, .int x0)]) rfl ?_
  have s : Unit := ()
  refine wm_iload_n C dX11_isCore_0 0 rfl (pc' := 1) rfl ?_
  refine wm_i2l C dX11_isCore_1 (pc' := 2) rfl ?_
  refine wm_ikonst (v := 0) C dX11_isCore_2 (by decide) (pc' := 3) rfl ?_
  refine wm_ikonst (v := 3) C dX11_isCore_3 (by decide) (pc' := 4) rfl ?_
  obtain ⟨r1, u2, h3, hf⟩ := bnd_s hf
  refine wm_callSd (nn := 3) (As := [.long x0.toInt64, .int 0, .int 3]) (rest := []) (st' := [.int r1]) C dX11_isCore_4 (kX11_isWithin l D τ x0.toInt64 0 3 r1 h3) gX11_isCore_X11_isWithin rfl (by decide +kernel) ⟨Nat.le_of_ble_eq_true rfl, Nat.le_of_ble_eq_true rfl⟩ rfl rfl ⟨Nat.zero_le _, Nat.zero_le _⟩ rfl rfl (Nat.le_of_ble_eq_true rfl) rfl (pc' := 7) rfl ?_
  obtain ⟨h4, hf⟩ := chk_s hf
  obtain ⟨rfl, -⟩ := leaf_s hf
  exact wm_zret C dX11_isCore_7 (nar_b h4) (Nat.zero_le _) (Nat.zero_le _) FD.rf
def fX11_isPart (x0 : Int32) : Option (Int32 × Unit) :=
  bnd (fX11_isWithin x0.toInt64 0 1) (fun r1 u2 => if r1 = 0 ∨ r1 = 1 then some (r1, ()) else none)
set_option maxHeartbeats 4000000 in
set_option maxRecDepth 100000 in
theorem kX11_isPart (l : Launch) (D : va_G) (τ : CId) (x0 : Int32) (rE : Int32) (hf : fX11_isPart x0 = some (rE, ())) : Ct l D τ yX11_isPart wsX11_isPart { frames := 1, cells := 0, slots := 0, locals := 23 } [.int x0] [] (FD [] (some (.int rE))) := by
  unfold fX11_isPart at hf
  refine ct_of (cc := cX11_isPart) (maxL := 1) (ret := (some .boolean)) (by decide) rfl (Nat.le_of_ble_eq_true rfl) (fun Γ C => ?_)
  refine wm_lv (lv' := [(0, .int x0)]) rfl ?_
  have s : Unit := ()
  refine wm_iload_n C dX11_isPart_0 0 rfl (pc' := 1) rfl ?_
  refine wm_i2l C dX11_isPart_1 (pc' := 2) rfl ?_
  refine wm_ikonst (v := 0) C dX11_isPart_2 (by decide) (pc' := 3) rfl ?_
  refine wm_ikonst (v := 1) C dX11_isPart_3 (by decide) (pc' := 4) rfl ?_
  obtain ⟨r1, u2, h3, hf⟩ := bnd_s hf
  refine wm_callSd (nn := 3) (As := [.long x0.toInt64, .int 0, .int 1]) (rest := []) (st' := [.int r1]) C dX11_isPart_4 (kX11_isWithin l D τ x0.toInt64 0 1 r1 h3) gX11_isPart_X11_isWithin rfl (by decide +kernel) ⟨Nat.le_of_ble_eq_true rfl, Nat.le_of_ble_eq_true rfl⟩ rfl rfl ⟨Nat.zero_le _, Nat.zero_le _⟩ rfl rfl (Nat.le_of_ble_eq_true rfl) rfl (pc' := 7) rfl ?_
  obtain ⟨h4, hf⟩ := chk_s hf
  obtain ⟨rfl, -⟩ := leaf_s hf
  exact wm_zret C dX11_isPart_7 (nar_b h4) (Nat.zero_le _) (Nat.zero_le _) FD.rf
def fX11_isLeastWidth (x0 : Int32) : Option (Int32 × Unit) :=
  bnd (fX11_isWithin x0.toInt64 1 12) (fun r1 u2 => if r1 = 0 ∨ r1 = 1 then some (r1, ()) else none)
set_option maxHeartbeats 4000000 in
set_option maxRecDepth 100000 in
theorem kX11_isLeastWidth (l : Launch) (D : va_G) (τ : CId) (x0 : Int32) (rE : Int32) (hf : fX11_isLeastWidth x0 = some (rE, ())) : Ct l D τ yX11_isLeastWidth wsX11_isLeastWidth { frames := 1, cells := 0, slots := 0, locals := 23 } [.int x0] [] (FD [] (some (.int rE))) := by
  unfold fX11_isLeastWidth at hf
  refine ct_of (cc := cX11_isLeastWidth) (maxL := 1) (ret := (some .boolean)) (by decide) rfl (Nat.le_of_ble_eq_true rfl) (fun Γ C => ?_)
  refine wm_lv (lv' := [(0, .int x0)]) rfl ?_
  have s : Unit := ()
  refine wm_iload_n C dX11_isLeastWidth_0 0 rfl (pc' := 1) rfl ?_
  refine wm_i2l C dX11_isLeastWidth_1 (pc' := 2) rfl ?_
  refine wm_ikonst (v := 1) C dX11_isLeastWidth_2 (by decide) (pc' := 3) rfl ?_
  refine wm_bipush (v := 12) C dX11_isLeastWidth_3 (by decide) (pc' := 5) rfl ?_
  obtain ⟨r1, u2, h3, hf⟩ := bnd_s hf
  refine wm_callSd (nn := 3) (As := [.long x0.toInt64, .int 1, .int 12]) (rest := []) (st' := [.int r1]) C dX11_isLeastWidth_5 (kX11_isWithin l D τ x0.toInt64 1 12 r1 h3) gX11_isLeastWidth_X11_isWithin rfl (by decide +kernel) ⟨Nat.le_of_ble_eq_true rfl, Nat.le_of_ble_eq_true rfl⟩ rfl rfl ⟨Nat.zero_le _, Nat.zero_le _⟩ rfl rfl (Nat.le_of_ble_eq_true rfl) rfl (pc' := 8) rfl ?_
  obtain ⟨h4, hf⟩ := chk_s hf
  obtain ⟨rfl, -⟩ := leaf_s hf
  exact wm_zret C dX11_isLeastWidth_8 (nar_b h4) (Nat.zero_le _) (Nat.zero_le _) FD.rf
def fX11_greatestDivisor_L3 : Nat → Int64 → Int64 → Int32 → Unit → Option (Int64 × Unit)
  | 0, _, _, _, _ => none
  | fu + 1, x0, x2, x4, s => if (lg_cmp x2 0) = 0 then some (x0, s) else if 100 ≤ x4 then some (x0, s) else if ¬ x2 = 0 then fX11_greatestDivisor_L3 fu x2 (x0 - x0 / x2 * x2) (x4 + 1) s else none
theorem fX11_greatestDivisor_L3_s (fu : Nat) (x0 : Int64) (x2 : Int64) (x4 : Int32) (s : Unit) : fX11_greatestDivisor_L3 (fu + 1) x0 x2 x4 s = (if (lg_cmp x2 0) = 0 then some (x0, s) else if 100 ≤ x4 then some (x0, s) else if ¬ x2 = 0 then fX11_greatestDivisor_L3 fu x2 (x0 - x0 / x2 * x2) (x4 + 1) s else none) := rfl
def fX11_greatestDivisor (x0 : Int64) (x2 : Int64) : Option (Int64 × Unit) :=
  bnd (fX11_greatestDivisor_L3 FU x0 x2 0 ()) (fun v4 s5 => some (v4, ()))
set_option maxHeartbeats 4000000 in
set_option maxRecDepth 100000 in
theorem kX11_greatestDivisor (l : Launch) (D : va_G) (τ : CId) (x0 : Int64) (x2 : Int64) (rE : Int64) (hf : fX11_greatestDivisor x0 x2 = some (rE, ())) : Ct l D τ yX11_greatestDivisor wsX11_greatestDivisor { frames := 0, cells := 0, slots := 0, locals := 0 } [.long x0, .long x2] [] (FD [] (some (.long rE))) := by
  unfold fX11_greatestDivisor at hf
  refine ct_of (cc := cX11_greatestDivisor) (maxL := 7) (ret := (some .long)) (by decide) rfl (Nat.le_of_ble_eq_true rfl) (fun Γ C => ?_)
  refine wm_lv (lv' := [(0, .long x0), (2, .long x2)]) rfl ?_
  have s : Unit := ()
  have wL_3 : ∀ (fu : Nat) (x0 : Int64) (x2 : Int64) (x4 : Int32) (s : Unit) (v : Int64) (s' : Unit), fX11_greatestDivisor_L3 fu x0 x2 x4 s = some (v, s') → WM l D Γ 7 0 0 ([]) 32 [(0, .long v)] [] → WM l D Γ 7 0 0 ([]) 3 [(0, .long x0), (2, .long x2), (4, .int x4)] [] := by
    intro fu
    induction fu with
    | zero => intro x0 x2 x4 s v s' hf hE; exact absurd hf (fun h => nomatch (show (none : Option _) = some _ from h))
    | succ fu ih =>
      intro x0 x2 x4 s v s' hf hE
      rw [fX11_greatestDivisor_L3_s] at hf
      refine wm_lload_n C dX11_greatestDivisor_3 1 rfl (pc' := 4) rfl ?_
      refine wm_lkonst (v := 0) C dX11_greatestDivisor_4 (by decide) (pc' := 5) rfl ?_
      refine wm_lcmp C dX11_greatestDivisor_5 (pc' := 6) rfl ?_
      refine wm_if_eq C dX11_greatestDivisor_6 32 (by decide) (pc' := 9) rfl (fun h1 => ?_) (fun h1 => ?_)
      · have hf := ite_t h1 hf
        obtain ⟨rfl, rfl⟩ := leaf_s hf
        refine wm_sub (lv' := [(0, .long x0)]) [0] rfl ?_
        exact hE
      · have hf := ite_f h1 hf
        refine wm_iload C dX11_greatestDivisor_9 2 rfl (pc' := 11) rfl ?_
        refine wm_bipush (v := 100) C dX11_greatestDivisor_11 (by decide) (pc' := 13) rfl ?_
        refine wm_icmp_ge C dX11_greatestDivisor_13 32 (by decide) (pc' := 16) rfl (fun h2 => ?_) (fun h2 => ?_)
        · have hf := ite_t h2 hf
          obtain ⟨rfl, rfl⟩ := leaf_s hf
          refine wm_sub (lv' := [(0, .long x0)]) [0] rfl ?_
          exact hE
        · have hf := ite_f h2 hf
          refine wm_lload_n C dX11_greatestDivisor_16 0 rfl (pc' := 17) rfl ?_
          refine wm_lload_n C dX11_greatestDivisor_17 1 rfl (pc' := 18) rfl ?_
          obtain ⟨h3, hf⟩ := chk_s hf
          refine wm_lrem C dX11_greatestDivisor_18 h3 (pc' := 19) rfl ?_
          refine wm_lstore (lv' := [(5, .long (x0 - x0 / x2 * x2)), (0, .long x0), (2, .long x2), (4, .int x4)]) C dX11_greatestDivisor_19 (by decide) rfl (pc' := 21) rfl ?_
          refine wm_lload_n C dX11_greatestDivisor_21 2 rfl (pc' := 22) rfl ?_
          refine wm_lstore_n (lv' := [(0, .long x2), (5, .long (x0 - x0 / x2 * x2)), (2, .long x2), (4, .int x4)]) C dX11_greatestDivisor_22 (by decide) rfl (pc' := 23) rfl ?_
          refine wm_lload C dX11_greatestDivisor_23 1 rfl (pc' := 25) rfl ?_
          refine wm_lstore_n (lv' := [(2, .long (x0 - x0 / x2 * x2)), (0, .long x2), (5, .long (x0 - x0 / x2 * x2)), (4, .int x4)]) C dX11_greatestDivisor_25 (by decide) rfl (pc' := 26) rfl ?_
          refine wm_iinc (v := x4 + 1) (lv' := [(4, .int (x4 + 1)), (2, .long (x0 - x0 / x2 * x2)), (0, .long x2), (5, .long (x0 - x0 / x2 * x2))]) C dX11_greatestDivisor_26 3 rfl rfl (by decide) rfl (pc' := 29) rfl ?_
          refine wm_goto C dX11_greatestDivisor_29 3 (by decide) ?_
          refine wm_sub (lv' := [(0, .long x2), (2, .long (x0 - x0 / x2 * x2)), (4, .int (x4 + 1))]) [2, 1, 0] rfl ?_
          exact ih x2 (x0 - x0 / x2 * x2) (x4 + 1) s _ _ hf hE
  refine wm_ikonst (v := 0) C dX11_greatestDivisor_0 (by decide) (pc' := 1) rfl ?_
  refine wm_istore (lv' := [(4, .int 0), (0, .long x0), (2, .long x2)]) C dX11_greatestDivisor_1 (by decide) rfl (pc' := 3) rfl ?_
  refine wm_sub (lv' := [(0, .long x0), (2, .long x2), (4, .int 0)]) [1, 2, 0] rfl ?_
  obtain ⟨v4, s5, h6, hf⟩ := bnd_s hf
  refine wL_3 FU x0 x2 0 () v4 s5 h6 ?_
  refine wm_lload_n C dX11_greatestDivisor_32 0 rfl (pc' := 33) rfl ?_
  obtain ⟨rfl, -⟩ := leaf_s hf
  exact wm_lret C dX11_greatestDivisor_33 (Nat.zero_le _) (Nat.zero_le _) FD.rf
def fX11_partOf (x0 : Int64) (x2 : Int64) (x4 : Int32) : Option (Int64 × Unit) :=
  bnd (fX11_greatestDivisor (if 0 < x0 then x0 else -x0) x2) (fun r1 u2 => if 0 ≤ (lg_cmp r1 1) then if ¬ x4 = 0 then if ¬ r1 = 0 then some (x2 / r1, ()) else none else if ¬ r1 = 0 then some (x0 / r1, ()) else none else some ((-9223372036854775808), ()))
set_option maxHeartbeats 4000000 in
set_option maxRecDepth 100000 in
theorem kX11_partOf (l : Launch) (D : va_G) (τ : CId) (x0 : Int64) (x2 : Int64) (x4 : Int32) (rE : Int64) (hf : fX11_partOf x0 x2 x4 = some (rE, ())) : Ct l D τ yX11_partOf wsX11_partOf { frames := 1, cells := 0, slots := 0, locals := 26 } [.long x0, .long x2, .int x4] [] (FD [] (some (.long rE))) := by
  unfold fX11_partOf at hf
  refine ct_of (cc := cX11_partOf) (maxL := 7) (ret := (some .long)) (by decide) rfl (Nat.le_of_ble_eq_true rfl) (fun Γ C => ?_)
  refine wm_lv (lv' := [(0, .long x0), (2, .long x2), (4, .int x4)]) rfl ?_
  have s : Unit := ()
  refine wm_lload_n C dX11_partOf_0 0 rfl (pc' := 1) rfl ?_
  refine wm_absL C dX11_partOf_1 (by decide +kernel) (by decide +kernel) (by decide +kernel) (by decide +kernel) ⟨Nat.le_of_ble_eq_true rfl, Nat.le_of_ble_eq_true rfl⟩ ⟨Nat.zero_le _, Nat.zero_le _⟩ (pc' := 4) rfl ?_
  refine wm_lload_n C dX11_partOf_4 1 rfl (pc' := 5) rfl ?_
  obtain ⟨r1, u2, h3, hf⟩ := bnd_s hf
  refine wm_callSd (nn := 2) (As := [.long (if 0 < x0 then x0 else -x0), .long x2]) (rest := []) (st' := [.long r1]) C dX11_partOf_5 (kX11_greatestDivisor l D τ (if 0 < x0 then x0 else -x0) x2 r1 h3) gX11_partOf_X11_greatestDivisor rfl (by decide +kernel) ⟨Nat.le_of_ble_eq_true rfl, Nat.le_of_ble_eq_true rfl⟩ rfl rfl ⟨Nat.zero_le _, Nat.zero_le _⟩ rfl rfl (Nat.le_of_ble_eq_true rfl) rfl (pc' := 8) rfl ?_
  refine wm_lstore (lv' := [(5, .long r1), (0, .long x0), (2, .long x2), (4, .int x4)]) C dX11_partOf_8 (by decide) rfl (pc' := 10) rfl ?_
  refine wm_lload C dX11_partOf_10 0 rfl (pc' := 12) rfl ?_
  refine wm_lkonst (v := 1) C dX11_partOf_12 (by decide) (pc' := 13) rfl ?_
  refine wm_lcmp C dX11_partOf_13 (pc' := 14) rfl ?_
  refine wm_if_ge C dX11_partOf_14 21 (by decide) (pc' := 17) rfl (fun h4 => ?_) (fun h4 => ?_)
  · have hf := ite_t h4 hf
    refine wm_iload C dX11_partOf_21 3 rfl (pc' := 23) rfl ?_
    refine wm_if_ne C dX11_partOf_23 30 (by decide) (pc' := 26) rfl (fun h5 => ?_) (fun h5 => ?_)
    · have hf := ite_t h5 hf
      refine wm_lload_n C dX11_partOf_30 2 rfl (pc' := 31) rfl ?_
      refine wm_lload C dX11_partOf_31 0 rfl (pc' := 33) rfl ?_
      obtain ⟨h6, hf⟩ := chk_s hf
      refine wm_ldiv C dX11_partOf_33 h6 (pc' := 34) rfl ?_
      obtain ⟨rfl, -⟩ := leaf_s hf
      exact wm_lret C dX11_partOf_34 (Nat.zero_le _) (Nat.zero_le _) FD.rf
    · have hf := ite_f (fun h => h h5) hf
      refine wm_lload_n C dX11_partOf_26 1 rfl (pc' := 27) rfl ?_
      refine wm_goto C dX11_partOf_27 31 (by decide) ?_
      refine wm_lload C dX11_partOf_31 0 rfl (pc' := 33) rfl ?_
      obtain ⟨h7, hf⟩ := chk_s hf
      refine wm_ldiv C dX11_partOf_33 h7 (pc' := 34) rfl ?_
      obtain ⟨rfl, -⟩ := leaf_s hf
      exact wm_lret C dX11_partOf_34 (Nat.zero_le _) (Nat.zero_le _) FD.rf
  · have hf := ite_f h4 hf
    refine wm_ldc2 (v := (-9223372036854775808)) C dX11_partOf_17 (by decide +kernel) (pc' := 20) rfl ?_
    obtain ⟨rfl, -⟩ := leaf_s hf
    exact wm_lret C dX11_partOf_20 (Nat.zero_le _) (Nat.zero_le _) FD.rf
def fX6_leave (nc : Nat) (x1 : Int32) (σ : MS) : Option (Unit × MS) :=
  lets (sI σ 38 ((31 * (gI σ 38)) + x1)) (fun s1 => some ((), s1))
theorem inX6_X6_leave : ∀ w ∈ wsX60, w ∈ wsX6_leave := by decide +kernel
set_option maxHeartbeats 4000000 in
set_option maxRecDepth 100000 in
theorem kX6_leave (l : Launch) (D : va_G) (τ : CId) (q : Nat → Nat) (nc : Nat) (σ : MS) (x1 : Int32) (sE : MS) (hf : fX6_leave nc x1 σ = some ((), sE)) : Ct l D τ yX6_leave wsX6_leave { frames := 0, cells := 0, slots := 0, locals := 0 } [.ref (q 65), .int x1] (xW τ q nc σ) (FD (xW τ q nc sE) none) := by
  unfold fX6_leave at hf
  refine ct_of (cc := cX6_leave) (maxL := 2) (ret := none) (by decide) rfl (Nat.le_of_ble_eq_true rfl) (fun Γ C => ?_)
  refine wm_lv (lv' := [(0, .ref (q 65)), (1, .int x1)]) rfl ?_
  refine wm_aload_n C dX6_leave_0 0 rfl (pc' := 1) rfl ?_
  refine wm_bipush (v := 31) C dX6_leave_1 (by decide) (pc' := 3) rfl ?_
  refine wm_aload_n C dX6_leave_3 0 rfl (pc' := 4) rfl ?_
  refine x_get (v := .int (gI σ 38)) C dX6_leave_4 inX6_X6_leave 5 (by omega) rfl rfl 0 (by decide) (by decide +kernel) (Or.inl rfl) rfl (pc' := 7) rfl ?_
  refine wm_imul C dX6_leave_7 (pc' := 8) rfl ?_
  refine wm_iload_n C dX6_leave_8 1 rfl (pc' := 9) rfl ?_
  refine wm_iadd C dX6_leave_9 (pc' := 10) rfl ?_
  obtain ⟨s1, e2, hf⟩ := lets_s hf
  refine x_put (σ' := s1) C dX6_leave_10 inX6_X6_leave tyX6 tyX6_ok nmX6 5 (by omega) rfl rfl 0 (by decide) (by decide +kernel) (Or.inl rfl) rfl rfl rfl rfl (Nat.le_of_ble_eq_true rfl) (e2 ▸ xC_I38) (e2 ▸ rfl) (pc' := 13) rfl ?_
  obtain ⟨-, rfl⟩ := leaf_s hf
  exact wm_vret C dX6_leave_13 (Nat.zero_le _) (Nat.zero_le _) FD.rf
def fX2_kind (nc : Nat) (x0 : Nat) (σ : MS) : Option (Int32 × MS) :=
  some (0, σ)
set_option maxHeartbeats 4000000 in
set_option maxRecDepth 100000 in
theorem kX2_kind (l : Launch) (D : va_G) (τ : CId) (q : Nat → Nat) (nc : Nat) (x0 : Nat) (σ : MS) (rE : Int32) (sE : MS) (hf : fX2_kind nc x0 σ = some (rE, sE)) : Ct l D τ yX2_kind wsX2_kind { frames := 0, cells := 0, slots := 0, locals := 0 } [.ref (q (200 + x0))] (xW τ q nc σ) (FD (xW τ q nc sE) (some (.int rE))) := by
  unfold fX2_kind at hf
  refine ct_of (cc := cX2_kind) (maxL := 1) (ret := (some .int)) (by decide) rfl (Nat.le_of_ble_eq_true rfl) (fun Γ C => ?_)
  refine wm_lv (lv' := [(0, .ref (q (200 + x0)))]) rfl ?_
  refine wm_ikonst (v := 0) C dX2_kind_0 (by decide) (pc' := 1) rfl ?_
  obtain ⟨rfl, rfl⟩ := leaf_s hf
  exact wm_iret C dX2_kind_1 (Nat.zero_le _) (Nat.zero_le _) FD.rf
def fX10_kind (nc : Nat) (x0 : Nat) (σ : MS) : Option (Int32 × MS) :=
  some (1, σ)
set_option maxHeartbeats 4000000 in
set_option maxRecDepth 100000 in
theorem kX10_kind (l : Launch) (D : va_G) (τ : CId) (q : Nat → Nat) (nc : Nat) (x0 : Nat) (σ : MS) (rE : Int32) (sE : MS) (hf : fX10_kind nc x0 σ = some (rE, sE)) : Ct l D τ yX10_kind wsX10_kind { frames := 0, cells := 0, slots := 0, locals := 0 } [.ref (q (200 + x0))] (xW τ q nc σ) (FD (xW τ q nc sE) (some (.int rE))) := by
  unfold fX10_kind at hf
  refine ct_of (cc := cX10_kind) (maxL := 1) (ret := (some .int)) (by decide) rfl (Nat.le_of_ble_eq_true rfl) (fun Γ C => ?_)
  refine wm_lv (lv' := [(0, .ref (q (200 + x0)))]) rfl ?_
  refine wm_ikonst (v := 1) C dX10_kind_0 (by decide) (pc' := 1) rfl ?_
  obtain ⟨rfl, rfl⟩ := leaf_s hf
  exact wm_iret C dX10_kind_1 (Nat.zero_le _) (Nat.zero_le _) FD.rf
def fX0_kind (nc : Nat) (x0 : Nat) (σ : MS) : Option (Int32 × MS) :=
  some (2, σ)
set_option maxHeartbeats 4000000 in
set_option maxRecDepth 100000 in
theorem kX0_kind (l : Launch) (D : va_G) (τ : CId) (q : Nat → Nat) (nc : Nat) (x0 : Nat) (σ : MS) (rE : Int32) (sE : MS) (hf : fX0_kind nc x0 σ = some (rE, sE)) : Ct l D τ yX0_kind wsX0_kind { frames := 0, cells := 0, slots := 0, locals := 0 } [.ref (q (200 + x0))] (xW τ q nc σ) (FD (xW τ q nc sE) (some (.int rE))) := by
  unfold fX0_kind at hf
  refine ct_of (cc := cX0_kind) (maxL := 1) (ret := (some .int)) (by decide) rfl (Nat.le_of_ble_eq_true rfl) (fun Γ C => ?_)
  refine wm_lv (lv' := [(0, .ref (q (200 + x0)))]) rfl ?_
  refine wm_ikonst (v := 2) C dX0_kind_0 (by decide) (pc' := 1) rfl ?_
  obtain ⟨rfl, rfl⟩ := leaf_s hf
  exact wm_iret C dX0_kind_1 (Nat.zero_le _) (Nat.zero_le _) FD.rf
def fX3_kind (nc : Nat) (x0 : Nat) (σ : MS) : Option (Int32 × MS) :=
  some (3, σ)
set_option maxHeartbeats 4000000 in
set_option maxRecDepth 100000 in
theorem kX3_kind (l : Launch) (D : va_G) (τ : CId) (q : Nat → Nat) (nc : Nat) (x0 : Nat) (σ : MS) (rE : Int32) (sE : MS) (hf : fX3_kind nc x0 σ = some (rE, sE)) : Ct l D τ yX3_kind wsX3_kind { frames := 0, cells := 0, slots := 0, locals := 0 } [.ref (q (200 + x0))] (xW τ q nc σ) (FD (xW τ q nc sE) (some (.int rE))) := by
  unfold fX3_kind at hf
  refine ct_of (cc := cX3_kind) (maxL := 1) (ret := (some .int)) (by decide) rfl (Nat.le_of_ble_eq_true rfl) (fun Γ C => ?_)
  refine wm_lv (lv' := [(0, .ref (q (200 + x0)))]) rfl ?_
  refine wm_ikonst (v := 3) C dX3_kind_0 (by decide) (pc' := 1) rfl ?_
  obtain ⟨rfl, rfl⟩ := leaf_s hf
  exact wm_iret C dX3_kind_1 (Nat.zero_le _) (Nat.zero_le _) FD.rf
def fX7_kind (nc : Nat) (x0 : Nat) (σ : MS) : Option (Int32 × MS) :=
  some (4, σ)
set_option maxHeartbeats 4000000 in
set_option maxRecDepth 100000 in
theorem kX7_kind (l : Launch) (D : va_G) (τ : CId) (q : Nat → Nat) (nc : Nat) (x0 : Nat) (σ : MS) (rE : Int32) (sE : MS) (hf : fX7_kind nc x0 σ = some (rE, sE)) : Ct l D τ yX7_kind wsX7_kind { frames := 0, cells := 0, slots := 0, locals := 0 } [.ref (q (200 + x0))] (xW τ q nc σ) (FD (xW τ q nc sE) (some (.int rE))) := by
  unfold fX7_kind at hf
  refine ct_of (cc := cX7_kind) (maxL := 1) (ret := (some .int)) (by decide) rfl (Nat.le_of_ble_eq_true rfl) (fun Γ C => ?_)
  refine wm_lv (lv' := [(0, .ref (q (200 + x0)))]) rfl ?_
  refine wm_ikonst (v := 4) C dX7_kind_0 (by decide) (pc' := 1) rfl ?_
  obtain ⟨rfl, rfl⟩ := leaf_s hf
  exact wm_iret C dX7_kind_1 (Nat.zero_le _) (Nat.zero_le _) FD.rf
def vX_kind (nc : Nat) (x0 : Nat) (σ : MS) : Option (Int32 × MS) := if gA σ 7 x0 = 1 then fX10_kind nc x0 σ else if gA σ 7 x0 = 2 then fX0_kind nc x0 σ else if gA σ 7 x0 = 3 then fX3_kind nc x0 σ else if gA σ 7 x0 = 4 then fX7_kind nc x0 σ else fX2_kind nc x0 σ
def fX2_lets (nc : Nat) (x0 : Nat) (σ : MS) : Option (Int32 × MS) :=
  if x0 < nc then some (gA σ 8 x0, σ) else none
theorem in5_X2_lets : In5 wsX2_lets := ⟨by decide +kernel, by decide +kernel, by decide +kernel, by decide +kernel, by decide +kernel⟩
set_option maxHeartbeats 4000000 in
set_option maxRecDepth 100000 in
theorem kX2_lets (l : Launch) (D : va_G) (τ : CId) (q : Nat → Nat) (nc : Nat) (x0 : Nat) (σ : MS) (rE : Int32) (sE : MS) (hf : fX2_lets nc x0 σ = some (rE, sE)) : Ct l D τ yX2_lets wsX2_lets { frames := 0, cells := 0, slots := 0, locals := 0 } [.ref (q (200 + x0))] (xW τ q nc σ) (FD (xW τ q nc sE) (some (.int rE))) := by
  unfold fX2_lets at hf
  refine ct_of (cc := cX2_lets) (maxL := 1) (ret := (some .int)) (by decide) rfl (Nat.le_of_ble_eq_true rfl) (fun Γ C => ?_)
  refine wm_lv (lv' := [(0, .ref (q (200 + x0)))]) rfl ?_
  refine wm_aload_n C dX2_lets_0 0 rfl (pc' := 1) rfl ?_
  obtain ⟨h1, hf⟩ := chk_s hf
  refine x_getC (ref := "WideningCracks$Crack") (v := .int (gA σ 8 x0)) C dX2_lets_1 in5_X2_lets h1 3 (by decide) (by decide +kernel) (Or.inl rfl) rfl (pc' := 4) rfl ?_
  obtain ⟨rfl, rfl⟩ := leaf_s hf
  exact wm_iret C dX2_lets_4 (Nat.zero_le _) (Nat.zero_le _) FD.rf
def fX10_lets (nc : Nat) (x0 : Nat) (σ : MS) : Option (Int32 × MS) :=
  if x0 < nc then if x0 < nc then some ((gA σ 8 x0) * (gA σ 8 x0), σ) else none else none
theorem in5_X10_lets : In5 wsX10_lets := ⟨by decide +kernel, by decide +kernel, by decide +kernel, by decide +kernel, by decide +kernel⟩
set_option maxHeartbeats 4000000 in
set_option maxRecDepth 100000 in
theorem kX10_lets (l : Launch) (D : va_G) (τ : CId) (q : Nat → Nat) (nc : Nat) (x0 : Nat) (σ : MS) (rE : Int32) (sE : MS) (hf : fX10_lets nc x0 σ = some (rE, sE)) : Ct l D τ yX10_lets wsX10_lets { frames := 0, cells := 0, slots := 0, locals := 0 } [.ref (q (200 + x0))] (xW τ q nc σ) (FD (xW τ q nc sE) (some (.int rE))) := by
  unfold fX10_lets at hf
  refine ct_of (cc := cX10_lets) (maxL := 1) (ret := (some .int)) (by decide) rfl (Nat.le_of_ble_eq_true rfl) (fun Γ C => ?_)
  refine wm_lv (lv' := [(0, .ref (q (200 + x0)))]) rfl ?_
  refine wm_aload_n C dX10_lets_0 0 rfl (pc' := 1) rfl ?_
  obtain ⟨h1, hf⟩ := chk_s hf
  refine x_getC (ref := "WideningCracks$Wide") (v := .int (gA σ 8 x0)) C dX10_lets_1 in5_X10_lets h1 3 (by decide) (by decide +kernel) (Or.inr (by decide +kernel)) rfl (pc' := 4) rfl ?_
  refine wm_aload_n C dX10_lets_4 0 rfl (pc' := 5) rfl ?_
  obtain ⟨h2, hf⟩ := chk_s hf
  refine x_getC (ref := "WideningCracks$Wide") (v := .int (gA σ 8 x0)) C dX10_lets_5 in5_X10_lets h2 3 (by decide) (by decide +kernel) (Or.inr (by decide +kernel)) rfl (pc' := 8) rfl ?_
  refine wm_imul C dX10_lets_8 (pc' := 9) rfl ?_
  obtain ⟨rfl, rfl⟩ := leaf_s hf
  exact wm_iret C dX10_lets_9 (Nat.zero_le _) (Nat.zero_le _) FD.rf
def vX_lets (nc : Nat) (x0 : Nat) (σ : MS) : Option (Int32 × MS) := if gA σ 7 x0 = 1 then fX10_lets nc x0 σ else if gA σ 7 x0 = 2 then fX2_lets nc x0 σ else if gA σ 7 x0 = 3 then fX10_lets nc x0 σ else if gA σ 7 x0 = 4 then fX10_lets nc x0 σ else fX2_lets nc x0 σ
def fX2_eatsIn (nc : Nat) (x0 : Nat) (x1 : Int32) (σ : MS) : Option (Int32 × MS) :=
  some (1, σ)
set_option maxHeartbeats 4000000 in
set_option maxRecDepth 100000 in
theorem kX2_eatsIn (l : Launch) (D : va_G) (τ : CId) (q : Nat → Nat) (nc : Nat) (x0 : Nat) (σ : MS) (x1 : Int32) (rE : Int32) (sE : MS) (hf : fX2_eatsIn nc x0 x1 σ = some (rE, sE)) : Ct l D τ yX2_eatsIn wsX2_eatsIn { frames := 0, cells := 0, slots := 0, locals := 0 } [.ref (q (200 + x0)), .int x1] (xW τ q nc σ) (FD (xW τ q nc sE) (some (.int rE))) := by
  unfold fX2_eatsIn at hf
  refine ct_of (cc := cX2_eatsIn) (maxL := 2) (ret := (some .boolean)) (by decide) rfl (Nat.le_of_ble_eq_true rfl) (fun Γ C => ?_)
  refine wm_lv (lv' := [(0, .ref (q (200 + x0))), (1, .int x1)]) rfl ?_
  refine wm_ikonst (v := 1) C dX2_eatsIn_0 (by decide) (pc' := 1) rfl ?_
  obtain ⟨rfl, rfl⟩ := leaf_s hf
  exact wm_zret C dX2_eatsIn_1 (by decide) (Nat.zero_le _) (Nat.zero_le _) FD.rf
def fX3_eatsIn (nc : Nat) (x0 : Nat) (x1 : Int32) (σ : MS) : Option (Int32 × MS) :=
  if x0 < nc then if (gA σ 9 x0) ≤ 0 then some (0, σ) else if x0 < nc then if ¬ (gA σ 9 x0) = 0 then if ¬ (x1 - x1 / (gA σ 9 x0) * (gA σ 9 x0)) = 0 then some (0, σ) else some (1, σ) else none else none else none
theorem in5_X3_eatsIn : In5 wsX3_eatsIn := ⟨by decide +kernel, by decide +kernel, by decide +kernel, by decide +kernel, by decide +kernel⟩
set_option maxHeartbeats 4000000 in
set_option maxRecDepth 100000 in
theorem kX3_eatsIn (l : Launch) (D : va_G) (τ : CId) (q : Nat → Nat) (nc : Nat) (x0 : Nat) (σ : MS) (x1 : Int32) (rE : Int32) (sE : MS) (hf : fX3_eatsIn nc x0 x1 σ = some (rE, sE)) : Ct l D τ yX3_eatsIn wsX3_eatsIn { frames := 0, cells := 0, slots := 0, locals := 0 } [.ref (q (200 + x0)), .int x1] (xW τ q nc σ) (FD (xW τ q nc sE) (some (.int rE))) := by
  unfold fX3_eatsIn at hf
  refine ct_of (cc := cX3_eatsIn) (maxL := 2) (ret := (some .boolean)) (by decide) rfl (Nat.le_of_ble_eq_true rfl) (fun Γ C => ?_)
  refine wm_lv (lv' := [(0, .ref (q (200 + x0))), (1, .int x1)]) rfl ?_
  refine wm_aload_n C dX3_eatsIn_0 0 rfl (pc' := 1) rfl ?_
  obtain ⟨h1, hf⟩ := chk_s hf
  refine x_getC (ref := "WideningCracks$Hard") (v := .int (gA σ 9 x0)) C dX3_eatsIn_1 in5_X3_eatsIn h1 2 (by decide) (by decide +kernel) (Or.inr (by decide +kernel)) rfl (pc' := 4) rfl ?_
  refine wm_if_le C dX3_eatsIn_4 20 (by decide) (pc' := 7) rfl (fun h2 => ?_) (fun h2 => ?_)
  · have hf := ite_t h2 hf
    refine wm_ikonst (v := 0) C dX3_eatsIn_20 (by decide) (pc' := 21) rfl ?_
    obtain ⟨rfl, rfl⟩ := leaf_s hf
    exact wm_zret C dX3_eatsIn_21 (by decide) (Nat.zero_le _) (Nat.zero_le _) FD.rf
  · have hf := ite_f h2 hf
    refine wm_iload_n C dX3_eatsIn_7 1 rfl (pc' := 8) rfl ?_
    refine wm_aload_n C dX3_eatsIn_8 0 rfl (pc' := 9) rfl ?_
    obtain ⟨h3, hf⟩ := chk_s hf
    refine x_getC (ref := "WideningCracks$Hard") (v := .int (gA σ 9 x0)) C dX3_eatsIn_9 in5_X3_eatsIn h3 2 (by decide) (by decide +kernel) (Or.inr (by decide +kernel)) rfl (pc' := 12) rfl ?_
    obtain ⟨h4, hf⟩ := chk_s hf
    refine wm_irem C dX3_eatsIn_12 h4 (pc' := 13) rfl ?_
    refine wm_if_ne C dX3_eatsIn_13 20 (by decide) (pc' := 16) rfl (fun h5 => ?_) (fun h5 => ?_)
    · have hf := ite_t h5 hf
      refine wm_ikonst (v := 0) C dX3_eatsIn_20 (by decide) (pc' := 21) rfl ?_
      obtain ⟨rfl, rfl⟩ := leaf_s hf
      exact wm_zret C dX3_eatsIn_21 (by decide) (Nat.zero_le _) (Nat.zero_le _) FD.rf
    · have hf := ite_f (fun h => h h5) hf
      refine wm_ikonst (v := 1) C dX3_eatsIn_16 (by decide) (pc' := 17) rfl ?_
      refine wm_goto C dX3_eatsIn_17 21 (by decide) ?_
      obtain ⟨rfl, rfl⟩ := leaf_s hf
      exact wm_zret C dX3_eatsIn_21 (by decide) (Nat.zero_le _) (Nat.zero_le _) FD.rf
def vX_eatsIn (nc : Nat) (x0 : Nat) (x1 : Int32) (σ : MS) : Option (Int32 × MS) := if gA σ 7 x0 = 1 then fX2_eatsIn nc x0 x1 σ else if gA σ 7 x0 = 2 then fX2_eatsIn nc x0 x1 σ else if gA σ 7 x0 = 3 then fX3_eatsIn nc x0 x1 σ else if gA σ 7 x0 = 4 then fX3_eatsIn nc x0 x1 σ else fX2_eatsIn nc x0 x1 σ
def fX2_room (nc : Nat) (x0 : Nat) (σ : MS) : Option (Int32 × MS) :=
  if x0 < nc then some (12 - (gA σ 8 x0), σ) else none
theorem in5_X2_room : In5 wsX2_room := ⟨by decide +kernel, by decide +kernel, by decide +kernel, by decide +kernel, by decide +kernel⟩
set_option maxHeartbeats 4000000 in
set_option maxRecDepth 100000 in
theorem kX2_room (l : Launch) (D : va_G) (τ : CId) (q : Nat → Nat) (nc : Nat) (x0 : Nat) (σ : MS) (rE : Int32) (sE : MS) (hf : fX2_room nc x0 σ = some (rE, sE)) : Ct l D τ yX2_room wsX2_room { frames := 0, cells := 0, slots := 0, locals := 0 } [.ref (q (200 + x0))] (xW τ q nc σ) (FD (xW τ q nc sE) (some (.int rE))) := by
  unfold fX2_room at hf
  refine ct_of (cc := cX2_room) (maxL := 1) (ret := (some .int)) (by decide) rfl (Nat.le_of_ble_eq_true rfl) (fun Γ C => ?_)
  refine wm_lv (lv' := [(0, .ref (q (200 + x0)))]) rfl ?_
  refine wm_bipush (v := 12) C dX2_room_0 (by decide) (pc' := 2) rfl ?_
  refine wm_aload_n C dX2_room_2 0 rfl (pc' := 3) rfl ?_
  obtain ⟨h1, hf⟩ := chk_s hf
  refine x_getC (ref := "WideningCracks$Crack") (v := .int (gA σ 8 x0)) C dX2_room_3 in5_X2_room h1 3 (by decide) (by decide +kernel) (Or.inl rfl) rfl (pc' := 6) rfl ?_
  refine wm_isub C dX2_room_6 (pc' := 7) rfl ?_
  obtain ⟨rfl, rfl⟩ := leaf_s hf
  exact wm_iret C dX2_room_7 (Nat.zero_le _) (Nat.zero_le _) FD.rf
def fX0_room (nc : Nat) (x0 : Nat) (σ : MS) : Option (Int32 × MS) :=
  if x0 < nc then some (gA σ 8 x0, σ) else none
theorem in5_X0_room : In5 wsX0_room := ⟨by decide +kernel, by decide +kernel, by decide +kernel, by decide +kernel, by decide +kernel⟩
set_option maxHeartbeats 4000000 in
set_option maxRecDepth 100000 in
theorem kX0_room (l : Launch) (D : va_G) (τ : CId) (q : Nat → Nat) (nc : Nat) (x0 : Nat) (σ : MS) (rE : Int32) (sE : MS) (hf : fX0_room nc x0 σ = some (rE, sE)) : Ct l D τ yX0_room wsX0_room { frames := 0, cells := 0, slots := 0, locals := 0 } [.ref (q (200 + x0))] (xW τ q nc σ) (FD (xW τ q nc sE) (some (.int rE))) := by
  unfold fX0_room at hf
  refine ct_of (cc := cX0_room) (maxL := 1) (ret := (some .int)) (by decide) rfl (Nat.le_of_ble_eq_true rfl) (fun Γ C => ?_)
  refine wm_lv (lv' := [(0, .ref (q (200 + x0)))]) rfl ?_
  refine wm_aload_n C dX0_room_0 0 rfl (pc' := 1) rfl ?_
  obtain ⟨h1, hf⟩ := chk_s hf
  refine x_getC (ref := "WideningCracks$Clogging") (v := .int (gA σ 8 x0)) C dX0_room_1 in5_X0_room h1 3 (by decide) (by decide +kernel) (Or.inr (by decide +kernel)) rfl (pc' := 4) rfl ?_
  obtain ⟨rfl, rfl⟩ := leaf_s hf
  exact wm_iret C dX0_room_4 (Nat.zero_le _) (Nat.zero_le _) FD.rf
def fX7_room (nc : Nat) (x0 : Nat) (σ : MS) : Option (Int32 × MS) :=
  if x0 < nc then if x0 < nc then some ((if 0 < ((gA σ 9 x0) - (gA σ 8 x0)) then ((gA σ 9 x0) - (gA σ 8 x0)) else 0), σ) else none else none
theorem in5_X7_room : In5 wsX7_room := ⟨by decide +kernel, by decide +kernel, by decide +kernel, by decide +kernel, by decide +kernel⟩
set_option maxHeartbeats 4000000 in
set_option maxRecDepth 100000 in
theorem kX7_room (l : Launch) (D : va_G) (τ : CId) (q : Nat → Nat) (nc : Nat) (x0 : Nat) (σ : MS) (rE : Int32) (sE : MS) (hf : fX7_room nc x0 σ = some (rE, sE)) : Ct l D τ yX7_room wsX7_room { frames := 1, cells := 0, slots := 0, locals := 23 } [.ref (q (200 + x0))] (xW τ q nc σ) (FD (xW τ q nc sE) (some (.int rE))) := by
  unfold fX7_room at hf
  refine ct_of (cc := cX7_room) (maxL := 1) (ret := (some .int)) (by decide) rfl (Nat.le_of_ble_eq_true rfl) (fun Γ C => ?_)
  refine wm_lv (lv' := [(0, .ref (q (200 + x0)))]) rfl ?_
  refine wm_ikonst (v := 0) C dX7_room_0 (by decide) (pc' := 1) rfl ?_
  refine wm_aload_n C dX7_room_1 0 rfl (pc' := 2) rfl ?_
  obtain ⟨h1, hf⟩ := chk_s hf
  refine x_getC (ref := "WideningCracks$Tube") (v := .int (gA σ 9 x0)) C dX7_room_2 in5_X7_room h1 2 (by decide) (by decide +kernel) (Or.inr (by decide +kernel)) rfl (pc' := 5) rfl ?_
  refine wm_aload_n C dX7_room_5 0 rfl (pc' := 6) rfl ?_
  obtain ⟨h2, hf⟩ := chk_s hf
  refine x_getC (ref := "WideningCracks$Tube") (v := .int (gA σ 8 x0)) C dX7_room_6 in5_X7_room h2 3 (by decide) (by decide +kernel) (Or.inr (by decide +kernel)) rfl (pc' := 9) rfl ?_
  refine wm_isub C dX7_room_9 (pc' := 10) rfl ?_
  refine wm_maxI C dX7_room_10 (by decide +kernel) (by decide +kernel) (by decide +kernel) (by decide +kernel) ⟨Nat.le_of_ble_eq_true rfl, Nat.le_of_ble_eq_true rfl⟩ ⟨Nat.zero_le _, Nat.zero_le _⟩ (pc' := 13) rfl ?_
  obtain ⟨rfl, rfl⟩ := leaf_s hf
  exact wm_iret C dX7_room_13 (Nat.zero_le _) (Nat.zero_le _) FD.rf
def vX_room (nc : Nat) (x0 : Nat) (σ : MS) : Option (Int32 × MS) := if gA σ 7 x0 = 1 then fX2_room nc x0 σ else if gA σ 7 x0 = 2 then fX0_room nc x0 σ else if gA σ 7 x0 = 3 then fX2_room nc x0 σ else if gA σ 7 x0 = 4 then fX7_room nc x0 σ else fX2_room nc x0 σ
def fX2_widthAfter (nc : Nat) (x0 : Nat) (x1 : Int32) (σ : MS) : Option (Int32 × MS) :=
  if x0 < nc then some ((gA σ 8 x0) + x1, σ) else none
theorem in5_X2_widthAfter : In5 wsX2_widthAfter := ⟨by decide +kernel, by decide +kernel, by decide +kernel, by decide +kernel, by decide +kernel⟩
set_option maxHeartbeats 4000000 in
set_option maxRecDepth 100000 in
theorem kX2_widthAfter (l : Launch) (D : va_G) (τ : CId) (q : Nat → Nat) (nc : Nat) (x0 : Nat) (σ : MS) (x1 : Int32) (rE : Int32) (sE : MS) (hf : fX2_widthAfter nc x0 x1 σ = some (rE, sE)) : Ct l D τ yX2_widthAfter wsX2_widthAfter { frames := 0, cells := 0, slots := 0, locals := 0 } [.ref (q (200 + x0)), .int x1] (xW τ q nc σ) (FD (xW τ q nc sE) (some (.int rE))) := by
  unfold fX2_widthAfter at hf
  refine ct_of (cc := cX2_widthAfter) (maxL := 2) (ret := (some .int)) (by decide) rfl (Nat.le_of_ble_eq_true rfl) (fun Γ C => ?_)
  refine wm_lv (lv' := [(0, .ref (q (200 + x0))), (1, .int x1)]) rfl ?_
  refine wm_aload_n C dX2_widthAfter_0 0 rfl (pc' := 1) rfl ?_
  obtain ⟨h1, hf⟩ := chk_s hf
  refine x_getC (ref := "WideningCracks$Crack") (v := .int (gA σ 8 x0)) C dX2_widthAfter_1 in5_X2_widthAfter h1 3 (by decide) (by decide +kernel) (Or.inl rfl) rfl (pc' := 4) rfl ?_
  refine wm_iload_n C dX2_widthAfter_4 1 rfl (pc' := 5) rfl ?_
  refine wm_iadd C dX2_widthAfter_5 (pc' := 6) rfl ?_
  obtain ⟨rfl, rfl⟩ := leaf_s hf
  exact wm_iret C dX2_widthAfter_6 (Nat.zero_le _) (Nat.zero_le _) FD.rf
def fX0_widthAfter (nc : Nat) (x0 : Nat) (x1 : Int32) (σ : MS) : Option (Int32 × MS) :=
  if x0 < nc then some ((gA σ 8 x0) - x1, σ) else none
theorem in5_X0_widthAfter : In5 wsX0_widthAfter := ⟨by decide +kernel, by decide +kernel, by decide +kernel, by decide +kernel, by decide +kernel⟩
set_option maxHeartbeats 4000000 in
set_option maxRecDepth 100000 in
theorem kX0_widthAfter (l : Launch) (D : va_G) (τ : CId) (q : Nat → Nat) (nc : Nat) (x0 : Nat) (σ : MS) (x1 : Int32) (rE : Int32) (sE : MS) (hf : fX0_widthAfter nc x0 x1 σ = some (rE, sE)) : Ct l D τ yX0_widthAfter wsX0_widthAfter { frames := 0, cells := 0, slots := 0, locals := 0 } [.ref (q (200 + x0)), .int x1] (xW τ q nc σ) (FD (xW τ q nc sE) (some (.int rE))) := by
  unfold fX0_widthAfter at hf
  refine ct_of (cc := cX0_widthAfter) (maxL := 2) (ret := (some .int)) (by decide) rfl (Nat.le_of_ble_eq_true rfl) (fun Γ C => ?_)
  refine wm_lv (lv' := [(0, .ref (q (200 + x0))), (1, .int x1)]) rfl ?_
  refine wm_aload_n C dX0_widthAfter_0 0 rfl (pc' := 1) rfl ?_
  obtain ⟨h1, hf⟩ := chk_s hf
  refine x_getC (ref := "WideningCracks$Clogging") (v := .int (gA σ 8 x0)) C dX0_widthAfter_1 in5_X0_widthAfter h1 3 (by decide) (by decide +kernel) (Or.inr (by decide +kernel)) rfl (pc' := 4) rfl ?_
  refine wm_iload_n C dX0_widthAfter_4 1 rfl (pc' := 5) rfl ?_
  refine wm_isub C dX0_widthAfter_5 (pc' := 6) rfl ?_
  obtain ⟨rfl, rfl⟩ := leaf_s hf
  exact wm_iret C dX0_widthAfter_6 (Nat.zero_le _) (Nat.zero_le _) FD.rf
def vX_widthAfter (nc : Nat) (x0 : Nat) (x1 : Int32) (σ : MS) : Option (Int32 × MS) := if gA σ 7 x0 = 1 then fX2_widthAfter nc x0 x1 σ else if gA σ 7 x0 = 2 then fX0_widthAfter nc x0 x1 σ else if gA σ 7 x0 = 3 then fX2_widthAfter nc x0 x1 σ else if gA σ 7 x0 = 4 then fX2_widthAfter nc x0 x1 σ else fX2_widthAfter nc x0 x1 σ
def fX2_plainTelling (nc : Nat) (x0 : Nat) (σ : MS) : Option (Int32 × MS) :=
  bnd (fX6_leave nc 1 σ) (fun r1 s2 => if x0 < nc then some (gA s2 8 x0, s2) else none)
theorem in5_X2_plainTelling : In5 wsX2_plainTelling := ⟨by decide +kernel, by decide +kernel, by decide +kernel, by decide +kernel, by decide +kernel⟩
set_option maxHeartbeats 4000000 in
set_option maxRecDepth 100000 in
theorem kX2_plainTelling (l : Launch) (D : va_G) (τ : CId) (q : Nat → Nat) (nc : Nat) (x0 : Nat) (σ : MS) (rE : Int32) (sE : MS) (hf : fX2_plainTelling nc x0 σ = some (rE, sE)) : Ct l D τ yX2_plainTelling wsX2_plainTelling { frames := 1, cells := 0, slots := 0, locals := 21 } [.ref (q (200 + x0)), .ref (q 65)] (xW τ q nc σ) (FD (xW τ q nc sE) (some (.int rE))) := by
  unfold fX2_plainTelling at hf
  refine ct_of (cc := cX2_plainTelling) (maxL := 2) (ret := (some .int)) (by decide) rfl (Nat.le_of_ble_eq_true rfl) (fun Γ C => ?_)
  refine wm_lv (lv' := [(0, .ref (q (200 + x0))), (1, .ref (q 65))]) rfl ?_
  refine wm_aload_n C dX2_plainTelling_0 1 rfl (pc' := 1) rfl ?_
  refine wm_ikonst (v := 1) C dX2_plainTelling_1 (by decide) (pc' := 2) rfl ?_
  obtain ⟨r1, s2, h3, hf⟩ := bnd_s hf
  refine wm_callVd (nn := 1) (As := [.int 1]) (rest := []) (st' := []) C dX2_plainTelling_2 (kX6_leave l D τ q nc σ 1 s2 h3) gX2_plainTelling_X6_leave rfl (by decide +kernel) ⟨Nat.le_of_ble_eq_true rfl, Nat.le_of_ble_eq_true rfl⟩ rfl rfl ⟨Nat.zero_le _, Nat.zero_le _⟩ 5 (x_at (by omega) rfl) rfl rfl rfl (Nat.le_of_ble_eq_true rfl) rfl (pc' := 5) rfl ?_
  refine wm_aload_n C dX2_plainTelling_5 0 rfl (pc' := 6) rfl ?_
  obtain ⟨h4, hf⟩ := chk_s hf
  refine x_getC (ref := "WideningCracks$Crack") (v := .int (gA s2 8 x0)) C dX2_plainTelling_6 in5_X2_plainTelling h4 3 (by decide) (by decide +kernel) (Or.inl rfl) rfl (pc' := 9) rfl ?_
  obtain ⟨rfl, rfl⟩ := leaf_s hf
  exact wm_iret C dX2_plainTelling_9 (Nat.zero_le _) (Nat.zero_le _) FD.rf
def fX2_telling (nc : Nat) (x0 : Nat) (σ : MS) : Option (Int32 × MS) :=
  if x0 < nc then bnd (fX2_plainTelling nc x0 σ) (fun r1 s2 => some (r1, s2)) else none
set_option maxHeartbeats 4000000 in
set_option maxRecDepth 100000 in
theorem kX2_telling (l : Launch) (D : va_G) (τ : CId) (q : Nat → Nat) (nc : Nat) (x0 : Nat) (σ : MS) (rE : Int32) (sE : MS) (hf : fX2_telling nc x0 σ = some (rE, sE)) : Ct l D τ yX2_telling wsX2_telling { frames := 2, cells := 0, slots := 0, locals := 42 } [.ref (q (200 + x0)), .ref (q 65)] (xW τ q nc σ) (FD (xW τ q nc sE) (some (.int rE))) := by
  unfold fX2_telling at hf
  refine ct_of (cc := cX2_telling) (maxL := 2) (ret := (some .int)) (by decide) rfl (Nat.le_of_ble_eq_true rfl) (fun Γ C => ?_)
  refine wm_lv (lv' := [(0, .ref (q (200 + x0))), (1, .ref (q 65))]) rfl ?_
  refine wm_aload_n C dX2_telling_0 0 rfl (pc' := 1) rfl ?_
  refine wm_aload_n C dX2_telling_1 1 rfl (pc' := 2) rfl ?_
  obtain ⟨h4, hf⟩ := chk_s hf
  obtain ⟨r1, s2, h3, hf⟩ := bnd_s hf
  have K5 : WM l D Γ 2 0 0 (xW τ q nc s2) 5 [(0, .ref (q (200 + x0))), (1, .ref (q 65))] [.int r1] := by
    obtain ⟨rfl, rfl⟩ := leaf_s hf
    exact wm_iret C dX2_telling_5 (Nat.zero_le _) (Nat.zero_le _) FD.rf
  rcases kci5 (gA σ 7 x0) with ⟨k1, kk⟩ | ⟨n1, k2, kk⟩ | ⟨n1, n2, k3, kk⟩ | ⟨n1, n2, n3, k4, kk⟩ | ⟨n1, n2, n3, n4, kk⟩
  · exact wm_callC (nn := 1) (As := [.ref (q 65)]) (rest := []) (st' := [.int r1]) C dX2_telling_2 (kX2_plainTelling l D τ q nc x0 σ r1 s2 h3) (cw_U gX2_telling_X2_plainTelling_u24X10 rfl rfl (by decide +kernel) ⟨Nat.le_of_ble_eq_true rfl, Nat.le_of_ble_eq_true rfl⟩) rfl rfl ⟨Nat.zero_le _, Nat.zero_le _⟩ (49 + x0) (x_crackAt h4 kk) rfl rfl rfl (Nat.le_of_ble_eq_true rfl) rfl (pc' := 5) rfl K5
  · exact wm_callC (nn := 1) (As := [.ref (q 65)]) (rest := []) (st' := [.int r1]) C dX2_telling_2 (kX2_plainTelling l D τ q nc x0 σ r1 s2 h3) (cw_U gX2_telling_X2_plainTelling_u24X0 rfl rfl (by decide +kernel) ⟨Nat.le_of_ble_eq_true rfl, Nat.le_of_ble_eq_true rfl⟩) rfl rfl ⟨Nat.zero_le _, Nat.zero_le _⟩ (49 + x0) (x_crackAt h4 kk) rfl rfl rfl (Nat.le_of_ble_eq_true rfl) rfl (pc' := 5) rfl K5
  · exact wm_callC (nn := 1) (As := [.ref (q 65)]) (rest := []) (st' := [.int r1]) C dX2_telling_2 (kX2_plainTelling l D τ q nc x0 σ r1 s2 h3) (cw_U gX2_telling_X2_plainTelling_u24X3 rfl rfl (by decide +kernel) ⟨Nat.le_of_ble_eq_true rfl, Nat.le_of_ble_eq_true rfl⟩) rfl rfl ⟨Nat.zero_le _, Nat.zero_le _⟩ (49 + x0) (x_crackAt h4 kk) rfl rfl rfl (Nat.le_of_ble_eq_true rfl) rfl (pc' := 5) rfl K5
  · exact wm_callC (nn := 1) (As := [.ref (q 65)]) (rest := []) (st' := [.int r1]) C dX2_telling_2 (kX2_plainTelling l D τ q nc x0 σ r1 s2 h3) (cw_U gX2_telling_X2_plainTelling_u24X7 rfl rfl (by decide +kernel) ⟨Nat.le_of_ble_eq_true rfl, Nat.le_of_ble_eq_true rfl⟩) rfl rfl ⟨Nat.zero_le _, Nat.zero_le _⟩ (49 + x0) (x_crackAt h4 kk) rfl rfl rfl (Nat.le_of_ble_eq_true rfl) rfl (pc' := 5) rfl K5
  · exact wm_callVd (nn := 1) (As := [.ref (q 65)]) (rest := []) (st' := [.int r1]) C dX2_telling_2 (kX2_plainTelling l D τ q nc x0 σ r1 s2 h3) gX2_telling_X2_plainTelling rfl (by decide +kernel) ⟨Nat.le_of_ble_eq_true rfl, Nat.le_of_ble_eq_true rfl⟩ rfl rfl ⟨Nat.zero_le _, Nat.zero_le _⟩ (49 + x0) (x_crackAt h4 kk) rfl rfl rfl (Nat.le_of_ble_eq_true rfl) rfl (pc' := 5) rfl K5
def fX10_telling (nc : Nat) (x0 : Nat) (σ : MS) : Option (Int32 × MS) :=
  bnd (fX6_leave nc 2 σ) (fun r1 s2 => if x0 < nc then if gA s2 7 x0 = 1 ∨ gA s2 7 x0 = 3 ∨ gA s2 7 x0 = 4 then bnd (fX2_plainTelling nc x0 s2) (fun r4 s5 => some (10 * r4, s5)) else none else none)
set_option maxHeartbeats 4000000 in
set_option maxRecDepth 100000 in
theorem kX10_telling (l : Launch) (D : va_G) (τ : CId) (q : Nat → Nat) (nc : Nat) (x0 : Nat) (σ : MS) (rE : Int32) (sE : MS) (hf : fX10_telling nc x0 σ = some (rE, sE)) : Ct l D τ yX10_telling wsX10_telling { frames := 2, cells := 0, slots := 0, locals := 42 } [.ref (q (200 + x0)), .ref (q 65)] (xW τ q nc σ) (FD (xW τ q nc sE) (some (.int rE))) := by
  unfold fX10_telling at hf
  refine ct_of (cc := cX10_telling) (maxL := 2) (ret := (some .int)) (by decide) rfl (Nat.le_of_ble_eq_true rfl) (fun Γ C => ?_)
  refine wm_lv (lv' := [(0, .ref (q (200 + x0))), (1, .ref (q 65))]) rfl ?_
  refine wm_aload_n C dX10_telling_0 1 rfl (pc' := 1) rfl ?_
  refine wm_ikonst (v := 2) C dX10_telling_1 (by decide) (pc' := 2) rfl ?_
  obtain ⟨r1, s2, h3, hf⟩ := bnd_s hf
  refine wm_callVd (nn := 1) (As := [.int 2]) (rest := []) (st' := []) C dX10_telling_2 (kX6_leave l D τ q nc σ 2 s2 h3) gX10_telling_X6_leave rfl (by decide +kernel) ⟨Nat.le_of_ble_eq_true rfl, Nat.le_of_ble_eq_true rfl⟩ rfl rfl ⟨Nat.zero_le _, Nat.zero_le _⟩ 5 (x_at (by omega) rfl) rfl rfl rfl (Nat.le_of_ble_eq_true rfl) rfl (pc' := 5) rfl ?_
  refine wm_bipush (v := 10) C dX10_telling_5 (by decide) (pc' := 7) rfl ?_
  refine wm_aload_n C dX10_telling_7 0 rfl (pc' := 8) rfl ?_
  refine wm_aload_n C dX10_telling_8 1 rfl (pc' := 9) rfl ?_
  obtain ⟨h7, hf⟩ := chk_s hf
  obtain ⟨h9, hf⟩ := chk_s hf
  obtain ⟨r4, s5, h6, hf⟩ := bnd_s hf
  have K8 : WM l D Γ 2 0 0 (xW τ q nc s5) 12 [(0, .ref (q (200 + x0))), (1, .ref (q 65))] [.int r4, .int 10] := by
    refine wm_imul C dX10_telling_12 (pc' := 13) rfl ?_
    obtain ⟨rfl, rfl⟩ := leaf_s hf
    exact wm_iret C dX10_telling_13 (Nat.zero_le _) (Nat.zero_le _) FD.rf
  rcases kci5 (gA s2 7 x0) with ⟨k1, kk⟩ | ⟨n1, k2, kk⟩ | ⟨n1, n2, k3, kk⟩ | ⟨n1, n2, n3, k4, kk⟩ | ⟨n1, n2, n3, n4, kk⟩
  · exact wm_callC (nn := 1) (As := [.ref (q 65)]) (rest := [.int 10]) (st' := [.int r4, .int 10]) C dX10_telling_9 (kX2_plainTelling l D τ q nc x0 s2 r4 s5 h6) (cw_U gX10_telling_X2_plainTelling_u21X10 rfl rfl (by decide +kernel) ⟨Nat.le_of_ble_eq_true rfl, Nat.le_of_ble_eq_true rfl⟩) rfl rfl ⟨Nat.zero_le _, Nat.zero_le _⟩ (49 + x0) (x_crackAt h7 kk) rfl rfl rfl (Nat.le_of_ble_eq_true rfl) rfl (pc' := 12) rfl K8
  · exact absurd h9 (by rw [k2]; decide)
  · exact wm_callC (nn := 1) (As := [.ref (q 65)]) (rest := [.int 10]) (st' := [.int r4, .int 10]) C dX10_telling_9 (kX2_plainTelling l D τ q nc x0 s2 r4 s5 h6) (cw_U gX10_telling_X2_plainTelling_u21X3 rfl rfl (by decide +kernel) ⟨Nat.le_of_ble_eq_true rfl, Nat.le_of_ble_eq_true rfl⟩) rfl rfl ⟨Nat.zero_le _, Nat.zero_le _⟩ (49 + x0) (x_crackAt h7 kk) rfl rfl rfl (Nat.le_of_ble_eq_true rfl) rfl (pc' := 12) rfl K8
  · exact wm_callC (nn := 1) (As := [.ref (q 65)]) (rest := [.int 10]) (st' := [.int r4, .int 10]) C dX10_telling_9 (kX2_plainTelling l D τ q nc x0 s2 r4 s5 h6) (cw_U gX10_telling_X2_plainTelling_u21X7 rfl rfl (by decide +kernel) ⟨Nat.le_of_ble_eq_true rfl, Nat.le_of_ble_eq_true rfl⟩) rfl rfl ⟨Nat.zero_le _, Nat.zero_le _⟩ (49 + x0) (x_crackAt h7 kk) rfl rfl rfl (Nat.le_of_ble_eq_true rfl) rfl (pc' := 12) rfl K8
  · exact absurd h9 (fun z => by rcases z with z | z | z <;> contradiction)
def fX0_telling (nc : Nat) (x0 : Nat) (σ : MS) : Option (Int32 × MS) :=
  bnd (fX6_leave nc 3 σ) (fun r1 s2 => if x0 < nc then if gA s2 7 x0 = 2 then bnd (fX2_plainTelling nc x0 s2) (fun r4 s5 => some (r4 - 20, s5)) else none else none)
set_option maxHeartbeats 4000000 in
set_option maxRecDepth 100000 in
theorem kX0_telling (l : Launch) (D : va_G) (τ : CId) (q : Nat → Nat) (nc : Nat) (x0 : Nat) (σ : MS) (rE : Int32) (sE : MS) (hf : fX0_telling nc x0 σ = some (rE, sE)) : Ct l D τ yX0_telling wsX0_telling { frames := 2, cells := 0, slots := 0, locals := 42 } [.ref (q (200 + x0)), .ref (q 65)] (xW τ q nc σ) (FD (xW τ q nc sE) (some (.int rE))) := by
  unfold fX0_telling at hf
  refine ct_of (cc := cX0_telling) (maxL := 2) (ret := (some .int)) (by decide) rfl (Nat.le_of_ble_eq_true rfl) (fun Γ C => ?_)
  refine wm_lv (lv' := [(0, .ref (q (200 + x0))), (1, .ref (q 65))]) rfl ?_
  refine wm_aload_n C dX0_telling_0 1 rfl (pc' := 1) rfl ?_
  refine wm_ikonst (v := 3) C dX0_telling_1 (by decide) (pc' := 2) rfl ?_
  obtain ⟨r1, s2, h3, hf⟩ := bnd_s hf
  refine wm_callVd (nn := 1) (As := [.int 3]) (rest := []) (st' := []) C dX0_telling_2 (kX6_leave l D τ q nc σ 3 s2 h3) gX0_telling_X6_leave rfl (by decide +kernel) ⟨Nat.le_of_ble_eq_true rfl, Nat.le_of_ble_eq_true rfl⟩ rfl rfl ⟨Nat.zero_le _, Nat.zero_le _⟩ 5 (x_at (by omega) rfl) rfl rfl rfl (Nat.le_of_ble_eq_true rfl) rfl (pc' := 5) rfl ?_
  refine wm_aload_n C dX0_telling_5 0 rfl (pc' := 6) rfl ?_
  refine wm_aload_n C dX0_telling_6 1 rfl (pc' := 7) rfl ?_
  obtain ⟨h7, hf⟩ := chk_s hf
  obtain ⟨h9, hf⟩ := chk_s hf
  obtain ⟨r4, s5, h6, hf⟩ := bnd_s hf
  have K8 : WM l D Γ 2 0 0 (xW τ q nc s5) 10 [(0, .ref (q (200 + x0))), (1, .ref (q 65))] [.int r4] := by
    refine wm_bipush (v := 20) C dX0_telling_10 (by decide) (pc' := 12) rfl ?_
    refine wm_isub C dX0_telling_12 (pc' := 13) rfl ?_
    obtain ⟨rfl, rfl⟩ := leaf_s hf
    exact wm_iret C dX0_telling_13 (Nat.zero_le _) (Nat.zero_le _) FD.rf
  rcases kci5 (gA s2 7 x0) with ⟨k1, kk⟩ | ⟨n1, k2, kk⟩ | ⟨n1, n2, k3, kk⟩ | ⟨n1, n2, n3, k4, kk⟩ | ⟨n1, n2, n3, n4, kk⟩
  · exact absurd h9 (by rw [k1]; decide)
  · exact wm_callC (nn := 1) (As := [.ref (q 65)]) (rest := []) (st' := [.int r4]) C dX0_telling_7 (kX2_plainTelling l D τ q nc x0 s2 r4 s5 h6) (cw_U gX0_telling_X2_plainTelling_u21X0 rfl rfl (by decide +kernel) ⟨Nat.le_of_ble_eq_true rfl, Nat.le_of_ble_eq_true rfl⟩) rfl rfl ⟨Nat.zero_le _, Nat.zero_le _⟩ (49 + x0) (x_crackAt h7 kk) rfl rfl rfl (Nat.le_of_ble_eq_true rfl) rfl (pc' := 10) rfl K8
  · exact absurd h9 (by rw [k3]; decide)
  · exact absurd h9 (by rw [k4]; decide)
  · exact absurd h9 (fun z => by contradiction)
def fX7_telling (nc : Nat) (x0 : Nat) (σ : MS) : Option (Int32 × MS) :=
  bnd (fX6_leave nc 4 σ) (fun r1 s2 => if x0 < nc then if gA s2 7 x0 = 4 then bnd (fX2_plainTelling nc x0 s2) (fun r4 s5 => if x0 < nc then some (r4 + (gA s5 9 x0), s5) else none) else none else none)
theorem in5_X7_telling : In5 wsX7_telling := ⟨by decide +kernel, by decide +kernel, by decide +kernel, by decide +kernel, by decide +kernel⟩
set_option maxHeartbeats 4000000 in
set_option maxRecDepth 100000 in
theorem kX7_telling (l : Launch) (D : va_G) (τ : CId) (q : Nat → Nat) (nc : Nat) (x0 : Nat) (σ : MS) (rE : Int32) (sE : MS) (hf : fX7_telling nc x0 σ = some (rE, sE)) : Ct l D τ yX7_telling wsX7_telling { frames := 2, cells := 0, slots := 0, locals := 42 } [.ref (q (200 + x0)), .ref (q 65)] (xW τ q nc σ) (FD (xW τ q nc sE) (some (.int rE))) := by
  unfold fX7_telling at hf
  refine ct_of (cc := cX7_telling) (maxL := 2) (ret := (some .int)) (by decide) rfl (Nat.le_of_ble_eq_true rfl) (fun Γ C => ?_)
  refine wm_lv (lv' := [(0, .ref (q (200 + x0))), (1, .ref (q 65))]) rfl ?_
  refine wm_aload_n C dX7_telling_0 1 rfl (pc' := 1) rfl ?_
  refine wm_ikonst (v := 4) C dX7_telling_1 (by decide) (pc' := 2) rfl ?_
  obtain ⟨r1, s2, h3, hf⟩ := bnd_s hf
  refine wm_callVd (nn := 1) (As := [.int 4]) (rest := []) (st' := []) C dX7_telling_2 (kX6_leave l D τ q nc σ 4 s2 h3) gX7_telling_X6_leave rfl (by decide +kernel) ⟨Nat.le_of_ble_eq_true rfl, Nat.le_of_ble_eq_true rfl⟩ rfl rfl ⟨Nat.zero_le _, Nat.zero_le _⟩ 5 (x_at (by omega) rfl) rfl rfl rfl (Nat.le_of_ble_eq_true rfl) rfl (pc' := 5) rfl ?_
  refine wm_aload_n C dX7_telling_5 0 rfl (pc' := 6) rfl ?_
  refine wm_aload_n C dX7_telling_6 1 rfl (pc' := 7) rfl ?_
  obtain ⟨h7, hf⟩ := chk_s hf
  obtain ⟨h10, hf⟩ := chk_s hf
  obtain ⟨r4, s5, h6, hf⟩ := bnd_s hf
  have K8 : WM l D Γ 2 0 0 (xW τ q nc s5) 10 [(0, .ref (q (200 + x0))), (1, .ref (q 65))] [.int r4] := by
    refine wm_aload_n C dX7_telling_10 0 rfl (pc' := 11) rfl ?_
    obtain ⟨h9, hf⟩ := chk_s hf
    refine x_getC (ref := "WideningCracks$Tube") (v := .int (gA s5 9 x0)) C dX7_telling_11 in5_X7_telling h9 2 (by decide) (by decide +kernel) (Or.inr (by decide +kernel)) rfl (pc' := 14) rfl ?_
    refine wm_iadd C dX7_telling_14 (pc' := 15) rfl ?_
    obtain ⟨rfl, rfl⟩ := leaf_s hf
    exact wm_iret C dX7_telling_15 (Nat.zero_le _) (Nat.zero_le _) FD.rf
  rcases kci5 (gA s2 7 x0) with ⟨k1, kk⟩ | ⟨n1, k2, kk⟩ | ⟨n1, n2, k3, kk⟩ | ⟨n1, n2, n3, k4, kk⟩ | ⟨n1, n2, n3, n4, kk⟩
  · exact absurd h10 (by rw [k1]; decide)
  · exact absurd h10 (by rw [k2]; decide)
  · exact absurd h10 (by rw [k3]; decide)
  · exact wm_callC (nn := 1) (As := [.ref (q 65)]) (rest := []) (st' := [.int r4]) C dX7_telling_7 (kX2_plainTelling l D τ q nc x0 s2 r4 s5 h6) (cw_U gX7_telling_X2_plainTelling_u30X7 rfl rfl (by decide +kernel) ⟨Nat.le_of_ble_eq_true rfl, Nat.le_of_ble_eq_true rfl⟩) rfl rfl ⟨Nat.zero_le _, Nat.zero_le _⟩ (49 + x0) (x_crackAt h7 kk) rfl rfl rfl (Nat.le_of_ble_eq_true rfl) rfl (pc' := 10) rfl K8
  · exact absurd h10 (fun z => by contradiction)
def vX_telling (nc : Nat) (x0 : Nat) (σ : MS) : Option (Int32 × MS) := if gA σ 7 x0 = 1 then fX10_telling nc x0 σ else if gA σ 7 x0 = 2 then fX0_telling nc x0 σ else if gA σ 7 x0 = 3 then fX10_telling nc x0 σ else if gA σ 7 x0 = 4 then fX7_telling nc x0 σ else fX2_telling nc x0 σ
def fX2_judgement (nc : Nat) (x0 : Nat) (σ : MS) : Option (Int32 × MS) :=
  bnd (fX6_leave nc 5 σ) (fun r1 s2 => if x0 < nc then bnd (vX_kind nc x0 s2) (fun r4 s5 => some (100 + r4, s5)) else none)
set_option maxHeartbeats 4000000 in
set_option maxRecDepth 100000 in
theorem kX2_judgement (l : Launch) (D : va_G) (τ : CId) (q : Nat → Nat) (nc : Nat) (x0 : Nat) (σ : MS) (rE : Int32) (sE : MS) (hf : fX2_judgement nc x0 σ = some (rE, sE)) : Ct l D τ yX2_judgement wsX2_judgement { frames := 1, cells := 0, slots := 0, locals := 21 } [.ref (q (200 + x0)), .ref (q 65)] (xW τ q nc σ) (FD (xW τ q nc sE) (some (.int rE))) := by
  unfold fX2_judgement at hf
  refine ct_of (cc := cX2_judgement) (maxL := 2) (ret := (some .int)) (by decide) rfl (Nat.le_of_ble_eq_true rfl) (fun Γ C => ?_)
  refine wm_lv (lv' := [(0, .ref (q (200 + x0))), (1, .ref (q 65))]) rfl ?_
  refine wm_aload_n C dX2_judgement_0 1 rfl (pc' := 1) rfl ?_
  refine wm_ikonst (v := 5) C dX2_judgement_1 (by decide) (pc' := 2) rfl ?_
  obtain ⟨r1, s2, h3, hf⟩ := bnd_s hf
  refine wm_callVd (nn := 1) (As := [.int 5]) (rest := []) (st' := []) C dX2_judgement_2 (kX6_leave l D τ q nc σ 5 s2 h3) gX2_judgement_X6_leave rfl (by decide +kernel) ⟨Nat.le_of_ble_eq_true rfl, Nat.le_of_ble_eq_true rfl⟩ rfl rfl ⟨Nat.zero_le _, Nat.zero_le _⟩ 5 (x_at (by omega) rfl) rfl rfl rfl (Nat.le_of_ble_eq_true rfl) rfl (pc' := 5) rfl ?_
  refine wm_bipush (v := 100) C dX2_judgement_5 (by decide) (pc' := 7) rfl ?_
  refine wm_aload_n C dX2_judgement_7 0 rfl (pc' := 8) rfl ?_
  obtain ⟨h7, hf⟩ := chk_s hf
  obtain ⟨r4, s5, h6, hf⟩ := bnd_s hf
  have K8 : WM l D Γ 2 0 0 (xW τ q nc s5) 11 [(0, .ref (q (200 + x0))), (1, .ref (q 65))] [.int r4, .int 100] := by
    refine wm_iadd C dX2_judgement_11 (pc' := 12) rfl ?_
    obtain ⟨rfl, rfl⟩ := leaf_s hf
    exact wm_iret C dX2_judgement_12 (Nat.zero_le _) (Nat.zero_le _) FD.rf
  unfold vX_kind at h6
  rcases kci5 (gA s2 7 x0) with ⟨k1, kk⟩ | ⟨n1, k2, kk⟩ | ⟨n1, n2, k3, kk⟩ | ⟨n1, n2, n3, k4, kk⟩ | ⟨n1, n2, n3, n4, kk⟩
  · exact wm_callC (nn := 0) (As := []) (rest := [.int 100]) (st' := [.int r4, .int 100]) C dX2_judgement_8 (kX10_kind l D τ q nc x0 s2 r4 s5 (ite_t k1 h6)) (cw_O gX2_judgement_X10_kind_u34X10 rfl (b0 := cX2_kind) (m0 := 1) (r0 := (some .int)) (by decide +kernel) (by decide +kernel) ⟨Nat.le_of_ble_eq_true rfl, Nat.le_of_ble_eq_true rfl⟩) rfl rfl ⟨Nat.zero_le _, Nat.zero_le _⟩ (49 + x0) (x_crackAt h7 kk) rfl rfl rfl (Nat.le_of_ble_eq_true rfl) rfl (pc' := 11) rfl K8
  · exact wm_callC (nn := 0) (As := []) (rest := [.int 100]) (st' := [.int r4, .int 100]) C dX2_judgement_8 (kX0_kind l D τ q nc x0 s2 r4 s5 (ite_t k2 (ite_f n1 h6))) (cw_O gX2_judgement_X0_kind_u34X0 rfl (b0 := cX2_kind) (m0 := 1) (r0 := (some .int)) (by decide +kernel) (by decide +kernel) ⟨Nat.le_of_ble_eq_true rfl, Nat.le_of_ble_eq_true rfl⟩) rfl rfl ⟨Nat.zero_le _, Nat.zero_le _⟩ (49 + x0) (x_crackAt h7 kk) rfl rfl rfl (Nat.le_of_ble_eq_true rfl) rfl (pc' := 11) rfl K8
  · exact wm_callC (nn := 0) (As := []) (rest := [.int 100]) (st' := [.int r4, .int 100]) C dX2_judgement_8 (kX3_kind l D τ q nc x0 s2 r4 s5 (ite_t k3 (ite_f n2 (ite_f n1 h6)))) (cw_O gX2_judgement_X3_kind_u34X3 rfl (b0 := cX2_kind) (m0 := 1) (r0 := (some .int)) (by decide +kernel) (by decide +kernel) ⟨Nat.le_of_ble_eq_true rfl, Nat.le_of_ble_eq_true rfl⟩) rfl rfl ⟨Nat.zero_le _, Nat.zero_le _⟩ (49 + x0) (x_crackAt h7 kk) rfl rfl rfl (Nat.le_of_ble_eq_true rfl) rfl (pc' := 11) rfl K8
  · exact wm_callC (nn := 0) (As := []) (rest := [.int 100]) (st' := [.int r4, .int 100]) C dX2_judgement_8 (kX7_kind l D τ q nc x0 s2 r4 s5 (ite_t k4 (ite_f n3 (ite_f n2 (ite_f n1 h6))))) (cw_O gX2_judgement_X7_kind_u34X7 rfl (b0 := cX2_kind) (m0 := 1) (r0 := (some .int)) (by decide +kernel) (by decide +kernel) ⟨Nat.le_of_ble_eq_true rfl, Nat.le_of_ble_eq_true rfl⟩) rfl rfl ⟨Nat.zero_le _, Nat.zero_le _⟩ (49 + x0) (x_crackAt h7 kk) rfl rfl rfl (Nat.le_of_ble_eq_true rfl) rfl (pc' := 11) rfl K8
  · exact wm_callVd (nn := 0) (As := []) (rest := [.int 100]) (st' := [.int r4, .int 100]) C dX2_judgement_8 (kX2_kind l D τ q nc x0 s2 r4 s5 (ite_f n4 (ite_f n3 (ite_f n2 (ite_f n1 h6))))) gX2_judgement_X2_kind rfl (by decide +kernel) ⟨Nat.le_of_ble_eq_true rfl, Nat.le_of_ble_eq_true rfl⟩ rfl rfl ⟨Nat.zero_le _, Nat.zero_le _⟩ (49 + x0) (x_crackAt h7 kk) rfl rfl rfl (Nat.le_of_ble_eq_true rfl) rfl (pc' := 11) rfl K8
def fX3_judgement (nc : Nat) (x0 : Nat) (σ : MS) : Option (Int32 × MS) :=
  bnd (fX6_leave nc 6 σ) (fun r1 s2 => if x0 < nc then some (gA s2 9 x0, s2) else none)
theorem in5_X3_judgement : In5 wsX3_judgement := ⟨by decide +kernel, by decide +kernel, by decide +kernel, by decide +kernel, by decide +kernel⟩
set_option maxHeartbeats 4000000 in
set_option maxRecDepth 100000 in
theorem kX3_judgement (l : Launch) (D : va_G) (τ : CId) (q : Nat → Nat) (nc : Nat) (x0 : Nat) (σ : MS) (rE : Int32) (sE : MS) (hf : fX3_judgement nc x0 σ = some (rE, sE)) : Ct l D τ yX3_judgement wsX3_judgement { frames := 1, cells := 0, slots := 0, locals := 21 } [.ref (q (200 + x0)), .ref (q 65)] (xW τ q nc σ) (FD (xW τ q nc sE) (some (.int rE))) := by
  unfold fX3_judgement at hf
  refine ct_of (cc := cX3_judgement) (maxL := 2) (ret := (some .int)) (by decide) rfl (Nat.le_of_ble_eq_true rfl) (fun Γ C => ?_)
  refine wm_lv (lv' := [(0, .ref (q (200 + x0))), (1, .ref (q 65))]) rfl ?_
  refine wm_aload_n C dX3_judgement_0 1 rfl (pc' := 1) rfl ?_
  refine wm_bipush (v := 6) C dX3_judgement_1 (by decide) (pc' := 3) rfl ?_
  obtain ⟨r1, s2, h3, hf⟩ := bnd_s hf
  refine wm_callVd (nn := 1) (As := [.int 6]) (rest := []) (st' := []) C dX3_judgement_3 (kX6_leave l D τ q nc σ 6 s2 h3) gX3_judgement_X6_leave rfl (by decide +kernel) ⟨Nat.le_of_ble_eq_true rfl, Nat.le_of_ble_eq_true rfl⟩ rfl rfl ⟨Nat.zero_le _, Nat.zero_le _⟩ 5 (x_at (by omega) rfl) rfl rfl rfl (Nat.le_of_ble_eq_true rfl) rfl (pc' := 6) rfl ?_
  refine wm_aload_n C dX3_judgement_6 0 rfl (pc' := 7) rfl ?_
  obtain ⟨h4, hf⟩ := chk_s hf
  refine x_getC (ref := "WideningCracks$Hard") (v := .int (gA s2 9 x0)) C dX3_judgement_7 in5_X3_judgement h4 2 (by decide) (by decide +kernel) (Or.inr (by decide +kernel)) rfl (pc' := 10) rfl ?_
  obtain ⟨rfl, rfl⟩ := leaf_s hf
  exact wm_iret C dX3_judgement_10 (Nat.zero_le _) (Nat.zero_le _) FD.rf
def vX_judgement (nc : Nat) (x0 : Nat) (σ : MS) : Option (Int32 × MS) := if gA σ 7 x0 = 1 then fX2_judgement nc x0 σ else if gA σ 7 x0 = 2 then fX2_judgement nc x0 σ else if gA σ 7 x0 = 3 then fX3_judgement nc x0 σ else if gA σ 7 x0 = 4 then fX3_judgement nc x0 σ else fX2_judgement nc x0 σ
def fX2_isAt (nc : Nat) (x0 : Nat) (x1 : Int32) (σ : MS) : Option (Int32 × MS) :=
  if x0 < nc then if (gA σ 5 x0) = x1 then some (1, σ) else if x0 < nc then if ¬ (gA σ 6 x0) = x1 then some (0, σ) else some (1, σ) else none else none
theorem in5_X2_isAt : In5 wsX2_isAt := ⟨by decide +kernel, by decide +kernel, by decide +kernel, by decide +kernel, by decide +kernel⟩
set_option maxHeartbeats 4000000 in
set_option maxRecDepth 100000 in
theorem kX2_isAt (l : Launch) (D : va_G) (τ : CId) (q : Nat → Nat) (nc : Nat) (x0 : Nat) (σ : MS) (x1 : Int32) (rE : Int32) (sE : MS) (hf : fX2_isAt nc x0 x1 σ = some (rE, sE)) : Ct l D τ yX2_isAt wsX2_isAt { frames := 0, cells := 0, slots := 0, locals := 0 } [.ref (q (200 + x0)), .int x1] (xW τ q nc σ) (FD (xW τ q nc sE) (some (.int rE))) := by
  unfold fX2_isAt at hf
  refine ct_of (cc := cX2_isAt) (maxL := 2) (ret := (some .boolean)) (by decide) rfl (Nat.le_of_ble_eq_true rfl) (fun Γ C => ?_)
  refine wm_lv (lv' := [(0, .ref (q (200 + x0))), (1, .int x1)]) rfl ?_
  refine wm_aload_n C dX2_isAt_0 0 rfl (pc' := 1) rfl ?_
  obtain ⟨h1, hf⟩ := chk_s hf
  refine x_getC (ref := "WideningCracks$Crack") (v := .int (gA σ 5 x0)) C dX2_isAt_1 in5_X2_isAt h1 0 (by decide) (by decide +kernel) (Or.inl rfl) rfl (pc' := 4) rfl ?_
  refine wm_iload_n C dX2_isAt_4 1 rfl (pc' := 5) rfl ?_
  refine wm_icmp_eq C dX2_isAt_5 16 (by decide) (pc' := 8) rfl (fun h2 => ?_) (fun h2 => ?_)
  · have hf := ite_t h2 hf
    refine wm_ikonst (v := 1) C dX2_isAt_16 (by decide) (pc' := 17) rfl ?_
    refine wm_goto C dX2_isAt_17 21 (by decide) ?_
    obtain ⟨rfl, rfl⟩ := leaf_s hf
    exact wm_zret C dX2_isAt_21 (by decide) (Nat.zero_le _) (Nat.zero_le _) FD.rf
  · have hf := ite_f h2 hf
    refine wm_aload_n C dX2_isAt_8 0 rfl (pc' := 9) rfl ?_
    obtain ⟨h3, hf⟩ := chk_s hf
    refine x_getC (ref := "WideningCracks$Crack") (v := .int (gA σ 6 x0)) C dX2_isAt_9 in5_X2_isAt h3 1 (by decide) (by decide +kernel) (Or.inl rfl) rfl (pc' := 12) rfl ?_
    refine wm_iload_n C dX2_isAt_12 1 rfl (pc' := 13) rfl ?_
    refine wm_icmp_ne C dX2_isAt_13 20 (by decide) (pc' := 16) rfl (fun h4 => ?_) (fun h4 => ?_)
    · have hf := ite_t h4 hf
      refine wm_ikonst (v := 0) C dX2_isAt_20 (by decide) (pc' := 21) rfl ?_
      obtain ⟨rfl, rfl⟩ := leaf_s hf
      exact wm_zret C dX2_isAt_21 (by decide) (Nat.zero_le _) (Nat.zero_le _) FD.rf
    · have hf := ite_f (fun h => h h4) hf
      refine wm_ikonst (v := 1) C dX2_isAt_16 (by decide) (pc' := 17) rfl ?_
      refine wm_goto C dX2_isAt_17 21 (by decide) ?_
      obtain ⟨rfl, rfl⟩ := leaf_s hf
      exact wm_zret C dX2_isAt_21 (by decide) (Nat.zero_le _) (Nat.zero_le _) FD.rf
def fX2_otherEnd (nc : Nat) (x0 : Nat) (x1 : Int32) (σ : MS) : Option (Int32 × MS) :=
  if x0 < nc then if ¬ (gA σ 5 x0) = x1 then if x0 < nc then some (gA σ 5 x0, σ) else none else if x0 < nc then some (gA σ 6 x0, σ) else none else none
theorem in5_X2_otherEnd : In5 wsX2_otherEnd := ⟨by decide +kernel, by decide +kernel, by decide +kernel, by decide +kernel, by decide +kernel⟩
set_option maxHeartbeats 4000000 in
set_option maxRecDepth 100000 in
theorem kX2_otherEnd (l : Launch) (D : va_G) (τ : CId) (q : Nat → Nat) (nc : Nat) (x0 : Nat) (σ : MS) (x1 : Int32) (rE : Int32) (sE : MS) (hf : fX2_otherEnd nc x0 x1 σ = some (rE, sE)) : Ct l D τ yX2_otherEnd wsX2_otherEnd { frames := 0, cells := 0, slots := 0, locals := 0 } [.ref (q (200 + x0)), .int x1] (xW τ q nc σ) (FD (xW τ q nc sE) (some (.int rE))) := by
  unfold fX2_otherEnd at hf
  refine ct_of (cc := cX2_otherEnd) (maxL := 2) (ret := (some .int)) (by decide) rfl (Nat.le_of_ble_eq_true rfl) (fun Γ C => ?_)
  refine wm_lv (lv' := [(0, .ref (q (200 + x0))), (1, .int x1)]) rfl ?_
  refine wm_aload_n C dX2_otherEnd_0 0 rfl (pc' := 1) rfl ?_
  obtain ⟨h1, hf⟩ := chk_s hf
  refine x_getC (ref := "WideningCracks$Crack") (v := .int (gA σ 5 x0)) C dX2_otherEnd_1 in5_X2_otherEnd h1 0 (by decide) (by decide +kernel) (Or.inl rfl) rfl (pc' := 4) rfl ?_
  refine wm_iload_n C dX2_otherEnd_4 1 rfl (pc' := 5) rfl ?_
  refine wm_icmp_ne C dX2_otherEnd_5 15 (by decide) (pc' := 8) rfl (fun h2 => ?_) (fun h2 => ?_)
  · have hf := ite_t h2 hf
    refine wm_aload_n C dX2_otherEnd_15 0 rfl (pc' := 16) rfl ?_
    obtain ⟨h3, hf⟩ := chk_s hf
    refine x_getC (ref := "WideningCracks$Crack") (v := .int (gA σ 5 x0)) C dX2_otherEnd_16 in5_X2_otherEnd h3 0 (by decide) (by decide +kernel) (Or.inl rfl) rfl (pc' := 19) rfl ?_
    obtain ⟨rfl, rfl⟩ := leaf_s hf
    exact wm_iret C dX2_otherEnd_19 (Nat.zero_le _) (Nat.zero_le _) FD.rf
  · have hf := ite_f (fun h => h h2) hf
    refine wm_aload_n C dX2_otherEnd_8 0 rfl (pc' := 9) rfl ?_
    obtain ⟨h4, hf⟩ := chk_s hf
    refine x_getC (ref := "WideningCracks$Crack") (v := .int (gA σ 6 x0)) C dX2_otherEnd_9 in5_X2_otherEnd h4 1 (by decide) (by decide +kernel) (Or.inl rfl) rfl (pc' := 12) rfl ?_
    refine wm_goto C dX2_otherEnd_12 19 (by decide) ?_
    obtain ⟨rfl, rfl⟩ := leaf_s hf
    exact wm_iret C dX2_otherEnd_19 (Nat.zero_le _) (Nat.zero_le _) FD.rf
def fX2_takeIn_J52 (nc : Nat) (x0 : Nat) (x5 : Int32) (t0 : Int32) (s : MS) : Option (Int32 × MS) :=
  if x0 < nc then lets (sA s 10 x0 t0) (fun s23 => if x5 ≤ 0 then some (0, s23) else some (1, s23)) else none
def fX2_takeIn (nc : Nat) (x0 : Nat) (x1 : Int64) (σ : MS) : Option (Int32 × MS) :=
  if x0 < nc then if x0 < nc then bnd (vX_room nc x0 σ) (fun r3 s4 => if x0 < nc then bnd (vX_widthAfter nc x0 ((if r3.toInt64 < ((((gA σ 10 x0).toInt64) + x1) / (1000)) then r3.toInt64 else ((((gA σ 10 x0).toInt64) + x1) / (1000))).toInt32) s4) (fun r8 s9 => if x0 < nc then lets (sA s9 8 x0 r8) (fun s13 => if x0 < nc then bnd (vX_room nc x0 s13) (fun r16 s17 => if ¬ r16 = 0 then fX2_takeIn_J52 nc x0 ((if r3.toInt64 < ((((gA σ 10 x0).toInt64) + x1) / (1000)) then r3.toInt64 else ((((gA σ 10 x0).toInt64) + x1) / (1000))).toInt32) (((((gA σ 10 x0).toInt64) + x1) - (((gA σ 10 x0).toInt64) + x1) / (1000) * (1000)).toInt32) s17 else fX2_takeIn_J52 nc x0 ((if r3.toInt64 < ((((gA σ 10 x0).toInt64) + x1) / (1000)) then r3.toInt64 else ((((gA σ 10 x0).toInt64) + x1) / (1000))).toInt32) 0 s17) else none) else none) else none) else none else none
theorem in5_X2_takeIn : In5 wsX2_takeIn := ⟨by decide +kernel, by decide +kernel, by decide +kernel, by decide +kernel, by decide +kernel⟩
set_option maxHeartbeats 4000000 in
set_option maxRecDepth 100000 in
theorem kX2_takeIn (l : Launch) (D : va_G) (τ : CId) (q : Nat → Nat) (nc : Nat) (x0 : Nat) (σ : MS) (x1 : Int64) (rE : Int32) (sE : MS) (hf : fX2_takeIn nc x0 x1 σ = some (rE, sE)) : Ct l D τ yX2_takeIn wsX2_takeIn { frames := 2, cells := 0, slots := 0, locals := 43 } [.ref (q (200 + x0)), .long x1] (xW τ q nc σ) (FD (xW τ q nc sE) (some (.int rE))) := by
  unfold fX2_takeIn at hf
  refine ct_of (cc := cX2_takeIn) (maxL := 6) (ret := (some .boolean)) (by decide) rfl (Nat.le_of_ble_eq_true rfl) (fun Γ C => ?_)
  refine wm_lv (lv' := [(0, .ref (q (200 + x0))), (1, .long x1)]) rfl ?_
  have wJ_52 : ∀ (x5 : Int32) (t0 : Int32) (s : MS), fX2_takeIn_J52 nc x0 x5 t0 s = some (rE, sE) → WM l D Γ 6 0 0 (xW τ q nc s) 52 [(5, .int x5)] [.int t0, .ref (q (200 + x0))] := by
    intro x5 t0 s hf
    unfold fX2_takeIn_J52 at hf
    obtain ⟨h25, hf⟩ := chk_s hf
    obtain ⟨s23, e24, hf⟩ := lets_s hf
    refine x_putCs C dX2_takeIn_52 in5_X2_takeIn h25 (by decide +kernel) (pc' := 55) rfl ?_
    rw [← e24]
    refine wm_iload C dX2_takeIn_55 0 rfl (pc' := 57) rfl ?_
    refine wm_if_le C dX2_takeIn_57 64 (by decide) (pc' := 60) rfl (fun h26 => ?_) (fun h26 => ?_)
    · have hf := ite_t h26 hf
      refine wm_ikonst (v := 0) C dX2_takeIn_64 (by decide) (pc' := 65) rfl ?_
      obtain ⟨rfl, rfl⟩ := leaf_s hf
      exact wm_zret C dX2_takeIn_65 (by decide) (Nat.zero_le _) (Nat.zero_le _) FD.rf
    · have hf := ite_f h26 hf
      refine wm_ikonst (v := 1) C dX2_takeIn_60 (by decide) (pc' := 61) rfl ?_
      refine wm_goto C dX2_takeIn_61 65 (by decide) ?_
      obtain ⟨rfl, rfl⟩ := leaf_s hf
      exact wm_zret C dX2_takeIn_65 (by decide) (Nat.zero_le _) (Nat.zero_le _) FD.rf
  refine wm_aload_n C dX2_takeIn_0 0 rfl (pc' := 1) rfl ?_
  obtain ⟨h1, hf⟩ := chk_s hf
  refine x_getC (ref := "WideningCracks$Crack") (v := .int (gA σ 10 x0)) C dX2_takeIn_1 in5_X2_takeIn h1 4 (by decide) (by decide +kernel) (Or.inl rfl) rfl (pc' := 4) rfl ?_
  refine wm_i2l C dX2_takeIn_4 (pc' := 5) rfl ?_
  refine wm_lload_n C dX2_takeIn_5 1 rfl (pc' := 6) rfl ?_
  refine wm_ladd C dX2_takeIn_6 (pc' := 7) rfl ?_
  refine wm_lstore_n (lv' := [(3, .long (((gA σ 10 x0).toInt64) + x1)), (0, .ref (q (200 + x0))), (1, .long x1)]) C dX2_takeIn_7 (by decide) rfl (pc' := 8) rfl ?_
  refine wm_lload_n C dX2_takeIn_8 0 rfl (pc' := 9) rfl ?_
  refine wm_ldc2 (v := (1000)) C dX2_takeIn_9 (by decide +kernel) (pc' := 12) rfl ?_
  refine wm_ldiv C dX2_takeIn_12 (by decide) (pc' := 13) rfl ?_
  refine wm_aload_n C dX2_takeIn_13 1 rfl (pc' := 14) rfl ?_
  obtain ⟨h6, hf⟩ := chk_s hf
  obtain ⟨r3, s4, h5, hf⟩ := bnd_s hf
  have K7 : WM l D Γ 6 0 0 (xW τ q nc s4) 17 [(3, .long (((gA σ 10 x0).toInt64) + x1)), (0, .ref (q (200 + x0))), (1, .long x1)] [.int r3, .long ((((gA σ 10 x0).toInt64) + x1) / (1000))] := by
    refine wm_i2l C dX2_takeIn_17 (pc' := 18) rfl ?_
    refine wm_minL C dX2_takeIn_18 (by decide +kernel) (by decide +kernel) (by decide +kernel) (by decide +kernel) ⟨Nat.le_of_ble_eq_true rfl, Nat.le_of_ble_eq_true rfl⟩ ⟨Nat.zero_le _, Nat.zero_le _⟩ (pc' := 21) rfl ?_
    refine wm_l2i C dX2_takeIn_21 (pc' := 22) rfl ?_
    refine wm_istore (lv' := [(5, .int ((if r3.toInt64 < ((((gA σ 10 x0).toInt64) + x1) / (1000)) then r3.toInt64 else ((((gA σ 10 x0).toInt64) + x1) / (1000))).toInt32)), (3, .long (((gA σ 10 x0).toInt64) + x1)), (0, .ref (q (200 + x0))), (1, .long x1)]) C dX2_takeIn_22 (by decide) rfl (pc' := 24) rfl ?_
    refine wm_aload_n C dX2_takeIn_24 2 rfl (pc' := 25) rfl ?_
    refine wm_aload_n C dX2_takeIn_25 2 rfl (pc' := 26) rfl ?_
    refine wm_iload C dX2_takeIn_26 0 rfl (pc' := 28) rfl ?_
    obtain ⟨h11, hf⟩ := chk_s hf
    obtain ⟨r8, s9, h10, hf⟩ := bnd_s hf
    have K12 : WM l D Γ 6 0 0 (xW τ q nc s9) 31 [(5, .int ((if r3.toInt64 < ((((gA σ 10 x0).toInt64) + x1) / (1000)) then r3.toInt64 else ((((gA σ 10 x0).toInt64) + x1) / (1000))).toInt32)), (3, .long (((gA σ 10 x0).toInt64) + x1)), (0, .ref (q (200 + x0))), (1, .long x1)] [.int r8, .ref (q (200 + x0))] := by
      obtain ⟨h15, hf⟩ := chk_s hf
      obtain ⟨s13, e14, hf⟩ := lets_s hf
      refine x_putCw C dX2_takeIn_31 in5_X2_takeIn h15 (by decide +kernel) (pc' := 34) rfl ?_
      rw [← e14]
      refine wm_aload_n C dX2_takeIn_34 2 rfl (pc' := 35) rfl ?_
      refine wm_aload_n C dX2_takeIn_35 2 rfl (pc' := 36) rfl ?_
      obtain ⟨h19, hf⟩ := chk_s hf
      obtain ⟨r16, s17, h18, hf⟩ := bnd_s hf
      have K20 : WM l D Γ 6 0 0 (xW τ q nc s17) 39 [(5, .int ((if r3.toInt64 < ((((gA σ 10 x0).toInt64) + x1) / (1000)) then r3.toInt64 else ((((gA σ 10 x0).toInt64) + x1) / (1000))).toInt32)), (3, .long (((gA σ 10 x0).toInt64) + x1)), (0, .ref (q (200 + x0))), (1, .long x1)] [.int r16, .ref (q (200 + x0))] := by
        refine wm_if_ne C dX2_takeIn_39 46 (by decide) (pc' := 42) rfl (fun h21 => ?_) (fun h21 => ?_)
        · have hf := ite_t h21 hf
          refine wm_lload_n C dX2_takeIn_46 1 rfl (pc' := 47) rfl ?_
          refine wm_ldc2 (v := (1000)) C dX2_takeIn_47 (by decide +kernel) (pc' := 50) rfl ?_
          refine wm_lrem C dX2_takeIn_50 (by decide) (pc' := 51) rfl ?_
          refine wm_l2i C dX2_takeIn_51 (pc' := 52) rfl ?_
          refine wm_sub (lv' := [(5, .int ((if r3.toInt64 < ((((gA σ 10 x0).toInt64) + x1) / (1000)) then r3.toInt64 else ((((gA σ 10 x0).toInt64) + x1) / (1000))).toInt32))]) [0] rfl ?_
          exact wJ_52 ((if r3.toInt64 < ((((gA σ 10 x0).toInt64) + x1) / (1000)) then r3.toInt64 else ((((gA σ 10 x0).toInt64) + x1) / (1000))).toInt32) (((((gA σ 10 x0).toInt64) + x1) - (((gA σ 10 x0).toInt64) + x1) / (1000) * (1000)).toInt32) s17 hf
        · have hf := ite_f (fun h => h h21) hf
          refine wm_ikonst (v := 0) C dX2_takeIn_42 (by decide) (pc' := 43) rfl ?_
          refine wm_goto C dX2_takeIn_43 52 (by decide) ?_
          refine wm_sub (lv' := [(5, .int ((if r3.toInt64 < ((((gA σ 10 x0).toInt64) + x1) / (1000)) then r3.toInt64 else ((((gA σ 10 x0).toInt64) + x1) / (1000))).toInt32))]) [0] rfl ?_
          exact wJ_52 ((if r3.toInt64 < ((((gA σ 10 x0).toInt64) + x1) / (1000)) then r3.toInt64 else ((((gA σ 10 x0).toInt64) + x1) / (1000))).toInt32) 0 s17 hf
      unfold vX_room at h18
      rcases kci5 (gA s13 7 x0) with ⟨k1, kk⟩ | ⟨n1, k2, kk⟩ | ⟨n1, n2, k3, kk⟩ | ⟨n1, n2, n3, k4, kk⟩ | ⟨n1, n2, n3, n4, kk⟩
      · exact wm_callC (nn := 0) (As := []) (rest := [.ref (q (200 + x0))]) (st' := [.int r16, .ref (q (200 + x0))]) C dX2_takeIn_36 (kX2_room l D τ q nc x0 s13 r16 s17 (ite_t k1 h18)) (cw_U gX2_takeIn_X2_room_u43X10 rfl rfl (by decide +kernel) ⟨Nat.le_of_ble_eq_true rfl, Nat.le_of_ble_eq_true rfl⟩) rfl rfl ⟨Nat.zero_le _, Nat.zero_le _⟩ (49 + x0) (x_crackAt h19 kk) rfl rfl rfl (Nat.le_of_ble_eq_true rfl) rfl (pc' := 39) rfl K20
      · exact wm_callC (nn := 0) (As := []) (rest := [.ref (q (200 + x0))]) (st' := [.int r16, .ref (q (200 + x0))]) C dX2_takeIn_36 (kX0_room l D τ q nc x0 s13 r16 s17 (ite_t k2 (ite_f n1 h18))) (cw_O gX2_takeIn_X0_room_u43X0 rfl (b0 := cX2_room) (m0 := 1) (r0 := (some .int)) (by decide +kernel) (by decide +kernel) ⟨Nat.le_of_ble_eq_true rfl, Nat.le_of_ble_eq_true rfl⟩) rfl rfl ⟨Nat.zero_le _, Nat.zero_le _⟩ (49 + x0) (x_crackAt h19 kk) rfl rfl rfl (Nat.le_of_ble_eq_true rfl) rfl (pc' := 39) rfl K20
      · exact wm_callC (nn := 0) (As := []) (rest := [.ref (q (200 + x0))]) (st' := [.int r16, .ref (q (200 + x0))]) C dX2_takeIn_36 (kX2_room l D τ q nc x0 s13 r16 s17 (ite_t k3 (ite_f n2 (ite_f n1 h18)))) (cw_U gX2_takeIn_X2_room_u43X3 rfl rfl (by decide +kernel) ⟨Nat.le_of_ble_eq_true rfl, Nat.le_of_ble_eq_true rfl⟩) rfl rfl ⟨Nat.zero_le _, Nat.zero_le _⟩ (49 + x0) (x_crackAt h19 kk) rfl rfl rfl (Nat.le_of_ble_eq_true rfl) rfl (pc' := 39) rfl K20
      · exact wm_callC (nn := 0) (As := []) (rest := [.ref (q (200 + x0))]) (st' := [.int r16, .ref (q (200 + x0))]) C dX2_takeIn_36 (kX7_room l D τ q nc x0 s13 r16 s17 (ite_t k4 (ite_f n3 (ite_f n2 (ite_f n1 h18))))) (cw_O gX2_takeIn_X7_room_u43X7 rfl (b0 := cX2_room) (m0 := 1) (r0 := (some .int)) (by decide +kernel) (by decide +kernel) ⟨Nat.le_of_ble_eq_true rfl, Nat.le_of_ble_eq_true rfl⟩) rfl rfl ⟨Nat.zero_le _, Nat.zero_le _⟩ (49 + x0) (x_crackAt h19 kk) rfl rfl rfl (Nat.le_of_ble_eq_true rfl) rfl (pc' := 39) rfl K20
      · exact wm_callVd (nn := 0) (As := []) (rest := [.ref (q (200 + x0))]) (st' := [.int r16, .ref (q (200 + x0))]) C dX2_takeIn_36 (kX2_room l D τ q nc x0 s13 r16 s17 (ite_f n4 (ite_f n3 (ite_f n2 (ite_f n1 h18))))) gX2_takeIn_X2_room rfl (by decide +kernel) ⟨Nat.le_of_ble_eq_true rfl, Nat.le_of_ble_eq_true rfl⟩ rfl rfl ⟨Nat.zero_le _, Nat.zero_le _⟩ (49 + x0) (x_crackAt h19 kk) rfl rfl rfl (Nat.le_of_ble_eq_true rfl) rfl (pc' := 39) rfl K20
    unfold vX_widthAfter at h10
    rcases kci5 (gA s4 7 x0) with ⟨k1, kk⟩ | ⟨n1, k2, kk⟩ | ⟨n1, n2, k3, kk⟩ | ⟨n1, n2, n3, k4, kk⟩ | ⟨n1, n2, n3, n4, kk⟩
    · exact wm_callC (nn := 1) (As := [.int ((if r3.toInt64 < ((((gA σ 10 x0).toInt64) + x1) / (1000)) then r3.toInt64 else ((((gA σ 10 x0).toInt64) + x1) / (1000))).toInt32)]) (rest := [.ref (q (200 + x0))]) (st' := [.int r8, .ref (q (200 + x0))]) C dX2_takeIn_28 (kX2_widthAfter l D τ q nc x0 s4 ((if r3.toInt64 < ((((gA σ 10 x0).toInt64) + x1) / (1000)) then r3.toInt64 else ((((gA σ 10 x0).toInt64) + x1) / (1000))).toInt32) r8 s9 (ite_t k1 h10)) (cw_U gX2_takeIn_X2_widthAfter_u52X10 rfl rfl (by decide +kernel) ⟨Nat.le_of_ble_eq_true rfl, Nat.le_of_ble_eq_true rfl⟩) rfl rfl ⟨Nat.zero_le _, Nat.zero_le _⟩ (49 + x0) (x_crackAt h11 kk) rfl rfl rfl (Nat.le_of_ble_eq_true rfl) rfl (pc' := 31) rfl K12
    · exact wm_callC (nn := 1) (As := [.int ((if r3.toInt64 < ((((gA σ 10 x0).toInt64) + x1) / (1000)) then r3.toInt64 else ((((gA σ 10 x0).toInt64) + x1) / (1000))).toInt32)]) (rest := [.ref (q (200 + x0))]) (st' := [.int r8, .ref (q (200 + x0))]) C dX2_takeIn_28 (kX0_widthAfter l D τ q nc x0 s4 ((if r3.toInt64 < ((((gA σ 10 x0).toInt64) + x1) / (1000)) then r3.toInt64 else ((((gA σ 10 x0).toInt64) + x1) / (1000))).toInt32) r8 s9 (ite_t k2 (ite_f n1 h10))) (cw_O gX2_takeIn_X0_widthAfter_u52X0 rfl (b0 := cX2_widthAfter) (m0 := 2) (r0 := (some .int)) (by decide +kernel) (by decide +kernel) ⟨Nat.le_of_ble_eq_true rfl, Nat.le_of_ble_eq_true rfl⟩) rfl rfl ⟨Nat.zero_le _, Nat.zero_le _⟩ (49 + x0) (x_crackAt h11 kk) rfl rfl rfl (Nat.le_of_ble_eq_true rfl) rfl (pc' := 31) rfl K12
    · exact wm_callC (nn := 1) (As := [.int ((if r3.toInt64 < ((((gA σ 10 x0).toInt64) + x1) / (1000)) then r3.toInt64 else ((((gA σ 10 x0).toInt64) + x1) / (1000))).toInt32)]) (rest := [.ref (q (200 + x0))]) (st' := [.int r8, .ref (q (200 + x0))]) C dX2_takeIn_28 (kX2_widthAfter l D τ q nc x0 s4 ((if r3.toInt64 < ((((gA σ 10 x0).toInt64) + x1) / (1000)) then r3.toInt64 else ((((gA σ 10 x0).toInt64) + x1) / (1000))).toInt32) r8 s9 (ite_t k3 (ite_f n2 (ite_f n1 h10)))) (cw_U gX2_takeIn_X2_widthAfter_u52X3 rfl rfl (by decide +kernel) ⟨Nat.le_of_ble_eq_true rfl, Nat.le_of_ble_eq_true rfl⟩) rfl rfl ⟨Nat.zero_le _, Nat.zero_le _⟩ (49 + x0) (x_crackAt h11 kk) rfl rfl rfl (Nat.le_of_ble_eq_true rfl) rfl (pc' := 31) rfl K12
    · exact wm_callC (nn := 1) (As := [.int ((if r3.toInt64 < ((((gA σ 10 x0).toInt64) + x1) / (1000)) then r3.toInt64 else ((((gA σ 10 x0).toInt64) + x1) / (1000))).toInt32)]) (rest := [.ref (q (200 + x0))]) (st' := [.int r8, .ref (q (200 + x0))]) C dX2_takeIn_28 (kX2_widthAfter l D τ q nc x0 s4 ((if r3.toInt64 < ((((gA σ 10 x0).toInt64) + x1) / (1000)) then r3.toInt64 else ((((gA σ 10 x0).toInt64) + x1) / (1000))).toInt32) r8 s9 (ite_t k4 (ite_f n3 (ite_f n2 (ite_f n1 h10))))) (cw_U gX2_takeIn_X2_widthAfter_u52X7 rfl rfl (by decide +kernel) ⟨Nat.le_of_ble_eq_true rfl, Nat.le_of_ble_eq_true rfl⟩) rfl rfl ⟨Nat.zero_le _, Nat.zero_le _⟩ (49 + x0) (x_crackAt h11 kk) rfl rfl rfl (Nat.le_of_ble_eq_true rfl) rfl (pc' := 31) rfl K12
    · exact wm_callVd (nn := 1) (As := [.int ((if r3.toInt64 < ((((gA σ 10 x0).toInt64) + x1) / (1000)) then r3.toInt64 else ((((gA σ 10 x0).toInt64) + x1) / (1000))).toInt32)]) (rest := [.ref (q (200 + x0))]) (st' := [.int r8, .ref (q (200 + x0))]) C dX2_takeIn_28 (kX2_widthAfter l D τ q nc x0 s4 ((if r3.toInt64 < ((((gA σ 10 x0).toInt64) + x1) / (1000)) then r3.toInt64 else ((((gA σ 10 x0).toInt64) + x1) / (1000))).toInt32) r8 s9 (ite_f n4 (ite_f n3 (ite_f n2 (ite_f n1 h10))))) gX2_takeIn_X2_widthAfter rfl (by decide +kernel) ⟨Nat.le_of_ble_eq_true rfl, Nat.le_of_ble_eq_true rfl⟩ rfl rfl ⟨Nat.zero_le _, Nat.zero_le _⟩ (49 + x0) (x_crackAt h11 kk) rfl rfl rfl (Nat.le_of_ble_eq_true rfl) rfl (pc' := 31) rfl K12
  unfold vX_room at h5
  rcases kci5 (gA σ 7 x0) with ⟨k1, kk⟩ | ⟨n1, k2, kk⟩ | ⟨n1, n2, k3, kk⟩ | ⟨n1, n2, n3, k4, kk⟩ | ⟨n1, n2, n3, n4, kk⟩
  · exact wm_callC (nn := 0) (As := []) (rest := [.long ((((gA σ 10 x0).toInt64) + x1) / (1000))]) (st' := [.int r3, .long ((((gA σ 10 x0).toInt64) + x1) / (1000))]) C dX2_takeIn_14 (kX2_room l D τ q nc x0 σ r3 s4 (ite_t k1 h5)) (cw_U gX2_takeIn_X2_room_u43X10 rfl rfl (by decide +kernel) ⟨Nat.le_of_ble_eq_true rfl, Nat.le_of_ble_eq_true rfl⟩) rfl rfl ⟨Nat.zero_le _, Nat.zero_le _⟩ (49 + x0) (x_crackAt h6 kk) rfl rfl rfl (Nat.le_of_ble_eq_true rfl) rfl (pc' := 17) rfl K7
  · exact wm_callC (nn := 0) (As := []) (rest := [.long ((((gA σ 10 x0).toInt64) + x1) / (1000))]) (st' := [.int r3, .long ((((gA σ 10 x0).toInt64) + x1) / (1000))]) C dX2_takeIn_14 (kX0_room l D τ q nc x0 σ r3 s4 (ite_t k2 (ite_f n1 h5))) (cw_O gX2_takeIn_X0_room_u43X0 rfl (b0 := cX2_room) (m0 := 1) (r0 := (some .int)) (by decide +kernel) (by decide +kernel) ⟨Nat.le_of_ble_eq_true rfl, Nat.le_of_ble_eq_true rfl⟩) rfl rfl ⟨Nat.zero_le _, Nat.zero_le _⟩ (49 + x0) (x_crackAt h6 kk) rfl rfl rfl (Nat.le_of_ble_eq_true rfl) rfl (pc' := 17) rfl K7
  · exact wm_callC (nn := 0) (As := []) (rest := [.long ((((gA σ 10 x0).toInt64) + x1) / (1000))]) (st' := [.int r3, .long ((((gA σ 10 x0).toInt64) + x1) / (1000))]) C dX2_takeIn_14 (kX2_room l D τ q nc x0 σ r3 s4 (ite_t k3 (ite_f n2 (ite_f n1 h5)))) (cw_U gX2_takeIn_X2_room_u43X3 rfl rfl (by decide +kernel) ⟨Nat.le_of_ble_eq_true rfl, Nat.le_of_ble_eq_true rfl⟩) rfl rfl ⟨Nat.zero_le _, Nat.zero_le _⟩ (49 + x0) (x_crackAt h6 kk) rfl rfl rfl (Nat.le_of_ble_eq_true rfl) rfl (pc' := 17) rfl K7
  · exact wm_callC (nn := 0) (As := []) (rest := [.long ((((gA σ 10 x0).toInt64) + x1) / (1000))]) (st' := [.int r3, .long ((((gA σ 10 x0).toInt64) + x1) / (1000))]) C dX2_takeIn_14 (kX7_room l D τ q nc x0 σ r3 s4 (ite_t k4 (ite_f n3 (ite_f n2 (ite_f n1 h5))))) (cw_O gX2_takeIn_X7_room_u43X7 rfl (b0 := cX2_room) (m0 := 1) (r0 := (some .int)) (by decide +kernel) (by decide +kernel) ⟨Nat.le_of_ble_eq_true rfl, Nat.le_of_ble_eq_true rfl⟩) rfl rfl ⟨Nat.zero_le _, Nat.zero_le _⟩ (49 + x0) (x_crackAt h6 kk) rfl rfl rfl (Nat.le_of_ble_eq_true rfl) rfl (pc' := 17) rfl K7
  · exact wm_callVd (nn := 0) (As := []) (rest := [.long ((((gA σ 10 x0).toInt64) + x1) / (1000))]) (st' := [.int r3, .long ((((gA σ 10 x0).toInt64) + x1) / (1000))]) C dX2_takeIn_14 (kX2_room l D τ q nc x0 σ r3 s4 (ite_f n4 (ite_f n3 (ite_f n2 (ite_f n1 h5))))) gX2_takeIn_X2_room rfl (by decide +kernel) ⟨Nat.le_of_ble_eq_true rfl, Nat.le_of_ble_eq_true rfl⟩ rfl rfl ⟨Nat.zero_le _, Nat.zero_le _⟩ (49 + x0) (x_crackAt h6 kk) rfl rfl rfl (Nat.le_of_ble_eq_true rfl) rfl (pc' := 17) rfl K7
