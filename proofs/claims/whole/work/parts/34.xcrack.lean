def fX11_crack (nc : Nat) (x1 : Int32) (x2 : Int32) (x3 : Int32) (x4 : Int32) (x5 : Int32) (σ : MS) : Option (Int32 × (Nat × MS)) :=
  bnd (fX5_hasJoint nc x1 σ) (fun r1 s2 => if r1 = 0 then some ((-1), (nc, s2)) else bnd (fX5_hasJoint nc x2 s2) (fun r5 s6 => if ¬ r5 = 0 then if x1 = x2 then some ((-2), (nc, s6)) else bnd (fX11_isKind x3) (fun r10 u11 => if r10 = 0 then some ((-2), (nc, s6)) else bnd (fX11_isWithin x4.toInt64 0 12) (fun r14 u15 => if r14 = 0 then some ((-2), (nc, s6)) else bnd (fX11_isWithin x5.toInt64 1 12) (fun r18 u19 => if ¬ r18 = 0 then if (gI s6 4) < 12 then if (gI s6 4).toNatClampNeg = nc ∧ ¬ (gI s6 4 < 0 ∨ 12 ≤ (gI s6 4).toNatClampNeg) then some ((gI (sI (sI (growS s6 nc x1 x2 x3 x4 x5) 50 (gI (growS s6 nc x1 x2 x3 x4 x5) 50 + 1)) 4 (gI (sI (growS s6 nc x1 x2 x3 x4 x5) 50 (gI (growS s6 nc x1 x2 x3 x4 x5) 50 + 1)) 4 + 1)) 4) - 1, (nc + 1, (sI (sI (growS s6 nc x1 x2 x3 x4 x5) 50 (gI (growS s6 nc x1 x2 x3 x4 x5) 50 + 1)) 4 (gI (sI (growS s6 nc x1 x2 x3 x4 x5) 50 (gI (growS s6 nc x1 x2 x3 x4 x5) 50 + 1)) 4 + 1)))) else none else some ((-4), (nc, s6)) else some ((-2), (nc, s6))))) else some ((-1), (nc, s6))))
theorem inX11_X11_crack : ∀ w ∈ wsX110, w ∈ wsX11_crack := by decide +kernel
theorem inX5_X11_crack : ∀ w ∈ wsX50, w ∈ wsX11_crack := by decide +kernel
set_option maxHeartbeats 4000000 in
set_option maxRecDepth 100000 in
theorem kX11_crack (l : Launch) (D : va_G) (τ : CId) (q : Nat → Nat) (nc : Nat) (σ : MS) (x1 x2 x3 x4 x5 : Int32) (rE : Int32) (sE : Nat × MS) (hf : fX11_crack nc x1 x2 x3 x4 x5 σ = some (rE, sE)) : Ct l D τ yX11_crack wsX11_crack { frames := 6, cells := 1, slots := 5, locals := 140 } [.ref (q 0), .int x1, .int x2, .int x3, .int x4, .int x5] (xW τ q nc σ) (fun W' v => v = some (.int rE) ∧ ∃ q' : Nat → Nat, q' 0 = q 0 ∧ W' = xW τ q' sE.1 sE.2) := by
  unfold fX11_crack at hf
  refine ct_of (cc := cX11_crack) (maxL := 6) (ret := (some .int)) (by decide) rfl (Nat.le_of_ble_eq_true rfl) (fun Γ C => ?_)
  refine wm_lv (lv' := [(0, .ref (q 0)), (1, .int x1), (2, .int x2), (3, .int x3), (4, .int x4), (5, .int x5)]) rfl ?_
  refine wm_aload_n C dX11_crack_0 0 rfl (pc' := 1) rfl ?_
  refine x_get (v := .ref (q 60)) C dX11_crack_1 inX11_X11_crack 0 (by omega) rfl rfl 0 (by decide) (by decide +kernel) (Or.inl rfl) rfl (pc' := 4) rfl ?_
  refine wm_iload_n C dX11_crack_4 1 rfl (pc' := 5) rfl ?_
  obtain ⟨r1, s2, h3, hf⟩ := bnd_s hf
  refine wm_callVd (nn := 1) (As := [.int x1]) (rest := []) (st' := [.int r1]) C dX11_crack_5 (kX5_hasJoint l D τ q nc σ x1 r1 s2 h3) gX11_crack_X5_hasJoint rfl (by decide +kernel) ⟨Nat.le_of_ble_eq_true rfl, Nat.le_of_ble_eq_true rfl⟩ rfl rfl ⟨Nat.zero_le _, Nat.zero_le _⟩ 1 (x_at (by omega) rfl) rfl rfl rfl (Nat.le_of_ble_eq_true rfl) rfl (pc' := 8) rfl ?_
  refine wm_if_eq C dX11_crack_8 22 (by decide) (pc' := 11) rfl (fun h4 => ?_) (fun h4 => ?_)
  · have hf := ite_t h4 hf
    refine wm_ikonst (v := (-1)) C dX11_crack_22 (by decide) (pc' := 23) rfl ?_
    obtain ⟨rfl, rfl⟩ := leaf_s hf
    exact wm_iret C dX11_crack_23 (Nat.zero_le _) (Nat.zero_le _) ⟨rfl, q, rfl, rfl⟩
  · have hf := ite_f h4 hf
    refine wm_aload_n C dX11_crack_11 0 rfl (pc' := 12) rfl ?_
    refine x_get (v := .ref (q 60)) C dX11_crack_12 inX11_X11_crack 0 (by omega) rfl rfl 0 (by decide) (by decide +kernel) (Or.inl rfl) rfl (pc' := 15) rfl ?_
    refine wm_iload_n C dX11_crack_15 2 rfl (pc' := 16) rfl ?_
    obtain ⟨r5, s6, h7, hf⟩ := bnd_s hf
    refine wm_callVd (nn := 1) (As := [.int x2]) (rest := []) (st' := [.int r5]) C dX11_crack_16 (kX5_hasJoint l D τ q nc s2 x2 r5 s6 h7) gX11_crack_X5_hasJoint rfl (by decide +kernel) ⟨Nat.le_of_ble_eq_true rfl, Nat.le_of_ble_eq_true rfl⟩ rfl rfl ⟨Nat.zero_le _, Nat.zero_le _⟩ 1 (x_at (by omega) rfl) rfl rfl rfl (Nat.le_of_ble_eq_true rfl) rfl (pc' := 19) rfl ?_
    refine wm_if_ne C dX11_crack_19 24 (by decide) (pc' := 22) rfl (fun h8 => ?_) (fun h8 => ?_)
    · have hf := ite_t h8 hf
      refine wm_iload_n C dX11_crack_24 1 rfl (pc' := 25) rfl ?_
      refine wm_iload_n C dX11_crack_25 2 rfl (pc' := 26) rfl ?_
      refine wm_icmp_eq C dX11_crack_26 60 (by decide) (pc' := 29) rfl (fun h9 => ?_) (fun h9 => ?_)
      · have hf := ite_t h9 hf
        refine wm_bipush (v := (-2)) C dX11_crack_60 (by decide) (pc' := 62) rfl ?_
        obtain ⟨rfl, rfl⟩ := leaf_s hf
        exact wm_iret C dX11_crack_62 (Nat.zero_le _) (Nat.zero_le _) ⟨rfl, q, rfl, rfl⟩
      · have hf := ite_f h9 hf
        refine wm_iload_n C dX11_crack_29 3 rfl (pc' := 30) rfl ?_
        obtain ⟨r10, u11, h12, hf⟩ := bnd_s hf
        refine wm_callSd (nn := 1) (As := [.int x3]) (rest := []) (st' := [.int r10]) C dX11_crack_30 (kX11_isKind l D τ x3 r10 h12) gX11_crack_X11_isKind rfl (by decide +kernel) ⟨Nat.le_of_ble_eq_true rfl, Nat.le_of_ble_eq_true rfl⟩ rfl rfl ⟨Nat.zero_le _, Nat.zero_le _⟩ rfl rfl (Nat.le_of_ble_eq_true rfl) rfl (pc' := 33) rfl ?_
        refine wm_if_eq C dX11_crack_33 60 (by decide) (pc' := 36) rfl (fun h13 => ?_) (fun h13 => ?_)
        · have hf := ite_t h13 hf
          refine wm_bipush (v := (-2)) C dX11_crack_60 (by decide) (pc' := 62) rfl ?_
          obtain ⟨rfl, rfl⟩ := leaf_s hf
          exact wm_iret C dX11_crack_62 (Nat.zero_le _) (Nat.zero_le _) ⟨rfl, q, rfl, rfl⟩
        · have hf := ite_f h13 hf
          refine wm_iload C dX11_crack_36 4 rfl (pc' := 38) rfl ?_
          refine wm_i2l C dX11_crack_38 (pc' := 39) rfl ?_
          refine wm_ikonst (v := 0) C dX11_crack_39 (by decide) (pc' := 40) rfl ?_
          refine wm_bipush (v := 12) C dX11_crack_40 (by decide) (pc' := 42) rfl ?_
          obtain ⟨r14, u15, h16, hf⟩ := bnd_s hf
          refine wm_callSd (nn := 3) (As := [.long x4.toInt64, .int 0, .int 12]) (rest := []) (st' := [.int r14]) C dX11_crack_42 (kX11_isWithin l D τ x4.toInt64 0 12 r14 h16) gX11_crack_X11_isWithin rfl (by decide +kernel) ⟨Nat.le_of_ble_eq_true rfl, Nat.le_of_ble_eq_true rfl⟩ rfl rfl ⟨Nat.zero_le _, Nat.zero_le _⟩ rfl rfl (Nat.le_of_ble_eq_true rfl) rfl (pc' := 45) rfl ?_
          refine wm_if_eq C dX11_crack_45 60 (by decide) (pc' := 48) rfl (fun h17 => ?_) (fun h17 => ?_)
          · have hf := ite_t h17 hf
            refine wm_bipush (v := (-2)) C dX11_crack_60 (by decide) (pc' := 62) rfl ?_
            obtain ⟨rfl, rfl⟩ := leaf_s hf
            exact wm_iret C dX11_crack_62 (Nat.zero_le _) (Nat.zero_le _) ⟨rfl, q, rfl, rfl⟩
          · have hf := ite_f h17 hf
            refine wm_iload C dX11_crack_48 5 rfl (pc' := 50) rfl ?_
            refine wm_i2l C dX11_crack_50 (pc' := 51) rfl ?_
            refine wm_ikonst (v := 1) C dX11_crack_51 (by decide) (pc' := 52) rfl ?_
            refine wm_bipush (v := 12) C dX11_crack_52 (by decide) (pc' := 54) rfl ?_
            obtain ⟨r18, u19, h20, hf⟩ := bnd_s hf
            refine wm_callSd (nn := 3) (As := [.long x5.toInt64, .int 1, .int 12]) (rest := []) (st' := [.int r18]) C dX11_crack_54 (kX11_isWithin l D τ x5.toInt64 1 12 r18 h20) gX11_crack_X11_isWithin rfl (by decide +kernel) ⟨Nat.le_of_ble_eq_true rfl, Nat.le_of_ble_eq_true rfl⟩ rfl rfl ⟨Nat.zero_le _, Nat.zero_le _⟩ rfl rfl (Nat.le_of_ble_eq_true rfl) rfl (pc' := 57) rfl ?_
            refine wm_if_ne C dX11_crack_57 63 (by decide) (pc' := 60) rfl (fun h21 => ?_) (fun h21 => ?_)
            · have hf := ite_t h21 hf
              refine wm_aload_n C dX11_crack_63 0 rfl (pc' := 64) rfl ?_
              refine x_get (v := .ref (q 60)) C dX11_crack_64 inX11_X11_crack 0 (by omega) rfl rfl 0 (by decide) (by decide +kernel) (Or.inl rfl) rfl (pc' := 67) rfl ?_
              refine x_get (v := .int (gI s6 4)) C dX11_crack_67 inX5_X11_crack 1 (by omega) rfl rfl 4 (by decide) (by decide +kernel) (Or.inl rfl) rfl (pc' := 70) rfl ?_
              refine wm_bipush (v := 12) C dX11_crack_70 (by decide) (pc' := 72) rfl ?_
              refine wm_icmp_lt C dX11_crack_72 78 (by decide) (pc' := 75) rfl (fun h22 => ?_) (fun h22 => ?_)
              · have hf := ite_t h22 hf
                refine wm_aload_n C dX11_crack_78 0 rfl (pc' := 79) rfl ?_
                refine x_get (v := .ref (q 60)) C dX11_crack_79 inX11_X11_crack 0 (by omega) rfl rfl 0 (by decide) (by decide +kernel) (Or.inl rfl) rfl (pc' := 82) rfl ?_
                refine wm_iload_n C dX11_crack_82 1 rfl (pc' := 83) rfl ?_
                refine wm_iload_n C dX11_crack_83 2 rfl (pc' := 84) rfl ?_
                refine wm_iload_n C dX11_crack_84 3 rfl (pc' := 85) rfl ?_
                refine wm_iload C dX11_crack_85 4 rfl (pc' := 87) rfl ?_
                refine wm_iload C dX11_crack_87 5 rfl (pc' := 89) rfl ?_
                obtain ⟨h23, hf⟩ := chk_s hf
                refine wm_callS (nn := 5) (As := [.int x1, .int x2, .int x3, .int x4, .int x5]) (rest := [.ref (q 60)]) (Wc := []) (Wr := xW τ q nc s6) C dX11_crack_89 (kX11_newCrack l D τ x1 x2 x3 x4 x5) gX11_crack_X11_newCrack rfl (by decide +kernel) ⟨Nat.le_of_ble_eq_true rfl, Nat.le_of_ble_eq_true rfl⟩ ⟨Nat.le_of_ble_eq_true rfl, Nat.le_of_ble_eq_true rfl⟩ rfl rfl rfl (Nat.le_of_ble_eq_true rfl) (pc' := 92) rfl (fun v w hF => ?_)
                obtain ⟨a, rfl, rfl⟩ := hF
                refine wm_st (st' := [.ref a, .ref (q 60)]) rfl ?_
                refine wm_swap (Wa := ([(a, .inr (kci x3, [.int x1, .int x2, .int x5, .int x4, .int 0]))] : va_W)) (Wb := xW τ q nc s6) ?_
                have hlen : (xW τ q nc s6).length = 49 + nc := by simp [xW]
                have hA1 : (xW τ q nc s6 ++ ([(a, .inr (kci x3, [.int x1, .int x2, .int x5, .int x4, .int 0]))] : va_W))[1]? = some (xC τ q nc s6 1) := by rw [List.getElem?_append_left (by rw [hlen]; omega)]; exact xW_at (by omega)
                refine wm_callV (nn := 1) (As := [.ref a]) (rest := []) (Wc := xW τ q nc s6 ++ ([(a, .inr (kci x3, [.int x1, .int x2, .int x5, .int x4, .int 0]))] : va_W)) (Wr := []) C dX11_crack_92 (kX5_addCrack l D τ q nc s6 a x1 x2 x3 x4 x5 h23) gX11_crack_X5_addCrack rfl (by decide +kernel) ⟨Nat.le_of_ble_eq_true rfl, Nat.le_of_ble_eq_true rfl⟩ ⟨Nat.le_of_ble_eq_true rfl, Nat.le_of_ble_eq_true rfl⟩ (List.append_nil _).symm 1 hA1 rfl rfl rfl (Nat.le_of_ble_eq_true rfl) (pc' := 95) rfl (fun v w hF => ?_)
                obtain ⟨rfl, rfl⟩ := hF
                rw [List.append_nil]
                obtain ⟨rfl, rfl⟩ := leaf_s hf
                exact wm_iret C dX11_crack_95 (Nat.le_of_ble_eq_true rfl) (Nat.le_of_ble_eq_true rfl) ⟨rfl, va_up q (200 + nc) a, if_neg (by omega), rfl⟩
              · have hf := ite_f h22 hf
                refine wm_bipush (v := (-4)) C dX11_crack_75 (by decide) (pc' := 77) rfl ?_
                obtain ⟨rfl, rfl⟩ := leaf_s hf
                exact wm_iret C dX11_crack_77 (Nat.zero_le _) (Nat.zero_le _) ⟨rfl, q, rfl, rfl⟩
            · have hf := ite_f (fun h => h h21) hf
              refine wm_bipush (v := (-2)) C dX11_crack_60 (by decide) (pc' := 62) rfl ?_
              obtain ⟨rfl, rfl⟩ := leaf_s hf
              exact wm_iret C dX11_crack_62 (Nat.zero_le _) (Nat.zero_le _) ⟨rfl, q, rfl, rfl⟩
    · have hf := ite_f (fun h => h h8) hf
      refine wm_ikonst (v := (-1)) C dX11_crack_22 (by decide) (pc' := 23) rfl ?_
      obtain ⟨rfl, rfl⟩ := leaf_s hf
      exact wm_iret C dX11_crack_23 (Nat.zero_le _) (Nat.zero_le _) ⟨rfl, q, rfl, rfl⟩
