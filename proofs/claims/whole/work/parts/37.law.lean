set_option maxHeartbeats 8000000 in
set_option maxRecDepth 100000 in
/-- THE LAW'S LOOP, over what the operations owe -/
theorem law_loop {l : Launch} {D : va_G} {τ : CId} {Γ : CT} {b L : Nat} {xs : Nat → Int32} {Rel : Nat → Nat → MS → MS → Prop} (C : CX D τ Γ cL_law x 4 wsL_law (some .boolean) room_1 (fun _ _ => False)) (X : LX Γ b L xs) (hL : L ≤ 3072)
    (hend : ∀ (k n : Nat) (Wd : va_W) (lv : List (Nat × Value)), k ≤ 672204 → n ≤ 7085637 → WM l D Γ 4 k n Wd 1165 lv [.int 1])
    (h_joint : OpI Rel (fun nc σ => fX11_joint nc σ) (fun σ => fX12_joint σ))
    (h_hold : ∀ (y1 : Int32) (y2 : Int32), OpI Rel (fun nc σ => fX11_hold nc y1 y2 σ) (fun σ => fX12_hold y1 y2 σ))
    (h_free : ∀ (y1 : Int32), OpI Rel (fun nc σ => fX11_free nc y1 σ) (fun σ => fX12_free y1 σ))
    (h_crack : ∀ (y1 : Int32) (y2 : Int32) (y3 : Int32) (y4 : Int32) (y5 : Int32), OpC Rel (fun nc σ => fX11_crack nc y1 y2 y3 y4 y5 σ) (fun σ => fX12_crack y1 y2 y3 y4 y5 σ))
    (h_widths : ∀ (y1 : Int32) (y2 : Int32) (y3 : Int32) (y4 : Int32) (y5 : Int32), OpI Rel (fun nc σ => fX11_widths nc y1 y2 y3 y4 y5 σ) (fun σ => fX12_widths y1 y2 y3 y4 y5 σ))
    (h_width : ∀ (y1 : Int32) (y2 : Int32), OpI Rel (fun nc σ => fX11_width nc y1 y2 σ) (fun σ => fX12_width y1 y2 σ))
    (h_about : ∀ (y1 : Int32) (y2 : Int32), OpI Rel (fun nc σ => fX11_about nc y1 y2 σ) (fun σ => fX12_about y1 y2 σ))
    (h_at : ∀ (y1 : Int32) (y2 : Int32), OpI Rel (fun nc σ => fX11_at nc y1 y2 σ) (fun σ => fX12_at y1 y2 σ))
    (h_head : ∀ (y1 : Int32) (y2 : Int32), OpL Rel (fun nc σ => fX11_head nc y1 y2 σ) (fun σ => fX12_head y1 y2 σ))
    (h_flow : ∀ (y1 : Int32) (y2 : Int32), OpL Rel (fun nc σ => fX11_flow nc y1 y2 σ) (fun σ => fX12_flow y1 y2 σ))
    (h_in : ∀ (y1 : Int32) (y2 : Int32), OpL Rel (fun nc σ => fX11_in nc y1 y2 σ) (fun σ => fX12_in y1 y2 σ))
    (h_work : ∀ (y1 : Int32), OpL Rel (fun nc σ => fX11_work nc y1 σ) (fun σ => fX12_work y1 σ))
    (h_rate : ∀ (y1 : Int32), OpI Rel (fun nc σ => fX11_rate nc y1 σ) (fun σ => fX12_rate y1 σ))
    (h_step : ∀ (y1 : Int32), OpI Rel (fun nc σ => fX11_step nc y1 σ) (fun σ => fX12_step y1 σ))
    (h_run : ∀ (y1 : Int32), OpI Rel (fun nc σ => fX11_run nc y1 σ) (fun σ => fX12_run y1 σ))
    (h_ways : ∀ (y1 : Int32), OpI Rel (fun nc σ => fX11_ways nc y1 σ) (fun σ => fX12_ways y1 σ))
    (h_through : ∀ (y1 : Int32) (y2 : Int32), OpI Rel (fun nc σ => fX11_through nc y1 y2 σ) (fun σ => fX12_through y1 y2 σ))
    (h_open : OpI Rel (fun nc σ => fX11_open nc σ) (fun σ => fX12_open σ))
    (h_eats : ∀ (y1 : Int32), OpL Rel (fun nc σ => fX11_eats nc y1 σ) (fun σ => fX12_eats y1 σ))
    (h_told : ∀ (y1 : Int32), OpI Rel (fun nc σ => fX11_told nc y1 σ) (fun σ => fX12_told y1 σ))
    (h_keep : OpI Rel (fun nc σ => fX11_keep nc σ) (fun σ => fX12_keep σ))
    (h_back : OpI Rel (fun nc σ => fX11_back nc σ) (fun σ => fX12_back σ))
    (h_core : ∀ (y1 : Int32) (y2 : Int32) (y3 : Int32), OpI Rel (fun nc σ => fX11_core nc y1 y2 y3 σ) (fun σ => fX12_core y1 y2 y3 σ))
    (h_lose : ∀ (y1 : Int32), OpI Rel (fun nc σ => fX11_lose nc y1 σ) (fun σ => fX12_lose y1 σ))
    (h_put : ∀ (y1 : Int32) (y2 : Int32) (y3 : Int64), OpI Rel (fun nc σ => fX11_put nc y1 y2 y3 σ) (fun σ => fX12_put y1 y2 y3 σ))
    (h_cell : ∀ (y1 : Int32) (y2 : Int32) (y3 : Int32), OpL Rel (fun nc σ => fX11_cell nc y1 y2 y3 σ) (fun σ => fX12_cell y1 y2 y3 σ))
    (h_copy : ∀ (y1 : Int32) (y2 : Int32) (y3 : Int32) (y4 : Int32) (y5 : Int32), OpI Rel (fun nc σ => fX11_copy nc y1 y2 y3 y4 y5 σ) (fun σ => fX12_copy y1 y2 y3 y4 y5 σ))
    (h_tell : ∀ (y1 : Int32), OpI Rel (fun nc σ => fX11_tell nc y1 σ) (fun σ => fX12_tell y1 σ))
    (h_judge : ∀ (y1 : Int32), OpI Rel (fun nc σ => fX11_judge nc y1 σ) (fun σ => fX12_judge y1 σ))
    (h_as : ∀ (y1 : Int32) (y2 : Int32), OpI Rel (fun nc σ => fX11_as nc y1 y2 σ) (fun σ => fX12_as y1 y2 σ))
    (h_trace : OpI Rel (fun nc σ => fX11_trace nc σ) (fun σ => fX12_trace σ))
    (h_fault : OpI Rel (fun nc σ => fX11_fault nc σ) (fun σ => fX12_fault σ)) :
    ∀ (f j k n : Nat) (q q2 : Nat → Nat) (nc : Nat) (σx σm : MS) (ax am : Nat), 514 ≤ j + f → 6 * j ≤ 3078 → k ≤ 100 + j → n ≤ 2000 + 5 * j → q 0 = ax → q2 0 = am → Rel j nc σx σm → WM l D Γ 4 k n (xW τ q nc σx ++ mW τ q2 σm) 18 [(3, .int (nI (6 * j))), (0, .ref b), (1, .ref ax), (2, .ref am)] [] := by
  intro f
  induction f with
  | zero => intro j k n q q2 nc σx σm ax am h1 h2; exact absurd h2 (by omega)
  | succ f ih =>
    intro j k n q q2 nc σx σm ax am hf h6 hk hn hqa hma hR
    subst hqa
    subst hma
    refine wm_iload_n C dL_law_18 0 rfl (pc' := 19) rfl ?_
    refine wm_aload_n C dL_law_19 1 rfl (pc' := 20) rfl ?_
    refine wm_slen C X dL_law_20 (pc' := 21) rfl ?_
    refine wm_bipush (v := 6) C dL_law_21 (by decide) (pc' := 23) rfl ?_
    refine wm_isub C dL_law_23 (pc' := 24) rfl ?_
    have hsub : (nI L - 6).toInt = (L : Int) - 6 := pk_sub_toInt (a := L) (b := 6) (by omega) (by omega)
    have h6i : (nI (6 * j)).toInt = ((6 * j : Nat) : Int) := nI_toInt (by omega)
    refine wm_icmp_gt C dL_law_24 1164 (by decide) (pc' := 27) rfl (fun h => ?_) (fun h => ?_)
    · refine wm_ikonst (v := 1) C dL_law_1164 (by decide) (pc' := 1165) rfl ?_
      exact hend k n _ _ (by omega) (by omega)
    · have hlen : 6 * j + 6 ≤ L := by
        rw [Int32.lt_iff_toInt_lt, hsub, h6i] at h
        omega
      have hj : j < 512 := by omega
      have hin : ∀ (t : Nat) (u : Int32), u = nI t → t < 6 → vp_in (nI (6 * j) + u) L := fun t u hu ht => by rw [hu, nI_add]; exact vp_in_nI (by omega) (by omega)
      have hnext : ∀ (k' n' : Nat) (q' : Nat → Nat) (nc' : Nat) (sx sm : MS), k' ≤ 100 + (j + 1) → n' ≤ 2000 + 5 * (j + 1) → q' 0 = q 0 → Rel (j + 1) nc' sx sm → WM l D Γ 4 k' n' (xW τ q' nc' sx ++ mW τ q2 sm) 1158 [(3, .int (nI (6 * j))), (0, .ref b), (1, .ref (q 0)), (2, .ref (q2 0))] [] := by
        intro k' n' q' nc' sx sm hk' hn' hq' hR'
        refine wm_iinc (v := nI (6 * (j + 1))) (lv' := [(3, .int (nI (6 * (j + 1)))), (0, .ref b), (1, .ref (q 0)), (2, .ref (q2 0))]) C dL_law_1158 0 rfl (by rw [show Int32.ofInt 6 = nI 6 from rfl, nI_add]; rfl) (by decide) rfl (pc' := 1161) rfl ?_
        refine wm_goto C dL_law_1161 18 (by decide) ?_
        exact ih (j + 1) k' n' q' q2 nc' sx sm (q 0) (q2 0) (by omega) (by omega) hk' hn' hq' rfl hR'
      refine wm_aload_n C dL_law_27 1 rfl (pc' := 28) rfl ?_
      refine wm_iload_n C dL_law_28 0 rfl (pc' := 29) rfl ?_
      refine wm_sld C X dL_law_29 (vp_in_nI (by omega) (by omega)) (pc' := 30) rfl ?_
      refine wm_bipush (v := 31) C dL_law_30 (by decide) (pc' := 32) rfl ?_
      refine wm_iand C dL_law_32 (pc' := 33) rfl ?_
      obtain ⟨z, hz, ez⟩ := pk_andE (xs (nI (6 * j)).toNatClampNeg) (m := 31) 5 (by decide)
      rw [ez]
      have hz : z < 32 := hz
      clear ez
      rcases (show z = 0 ∨ z = 1 ∨ z = 2 ∨ z = 3 ∨ z = 4 ∨ z = 5 ∨ z = 6 ∨ z = 7 ∨ z = 8 ∨ z = 9 ∨ z = 10 ∨ z = 11 ∨ z = 12 ∨ z = 13 ∨ z = 14 ∨ z = 15 ∨ z = 16 ∨ z = 17 ∨ z = 18 ∨ z = 19 ∨ z = 20 ∨ z = 21 ∨ z = 22 ∨ z = 23 ∨ z = 24 ∨ z = 25 ∨ z = 26 ∨ z = 27 ∨ z = 28 ∨ z = 29 ∨ z = 30 ∨ z = 31 by omega) with rfl | rfl | rfl | rfl | rfl | rfl | rfl | rfl | rfl | rfl | rfl | rfl | rfl | rfl | rfl | rfl | rfl | rfl | rfl | rfl | rfl | rfl | rfl | rfl | rfl | rfl | rfl | rfl | rfl | rfl | rfl | rfl
      · refine wm_tableIn (x := nI 0) (off := 143) C dL_law_33 (by decide) (by decide) (by decide) 176 (by decide) ?_
        refine wm_aload_n C dL_law_176 2 rfl (pc' := 177) rfl ?_
        obtain ⟨r, sx, sm, hx1, hm1, hR1⟩ := h_joint j nc σx σm hj hR
        refine wm_callVf (nn := 0) (As := []) (rest := []) (st' := [.int r]) C dL_law_177 (kX11_joint l D τ q nc σx r sx hx1) gL_law_X11_joint rfl (by decide +kernel) ⟨Nat.le_of_ble_eq_true rfl, Nat.le_of_ble_eq_true rfl⟩ rfl rfl ⟨by show k ≤ 672204; omega, by show n ≤ 7085637; omega⟩ 0 (x_at (by omega) rfl) rfl rfl rfl (Nat.le_of_ble_eq_true rfl) rfl (pc' := 180) rfl ?_
        refine wm_aload_n C dL_law_180 3 rfl (pc' := 181) rfl ?_
        refine wm_callVr (nn := 0) (As := []) (rest := [.int r]) (st' := [.int r, .int r]) C dL_law_181 (kX12_joint l D τ q2 σm r sm hm1) gL_law_X12_joint rfl (by decide +kernel) ⟨Nat.le_of_ble_eq_true rfl, Nat.le_of_ble_eq_true rfl⟩ rfl rfl ⟨by show k ≤ 672204; omega, by show n ≤ 7085637; omega⟩ 0 rfl rfl rfl rfl (Nat.le_of_ble_eq_true rfl) rfl (pc' := 184) rfl ?_
        refine wm_icmp_eq C dL_law_184 1158 (by decide) (pc' := 187) rfl (fun _ => ?_) (fun h => absurd rfl h)
        exact hnext k n q nc sx sm (by omega) (by omega) rfl hR1
      · refine wm_tableIn (x := nI 1) (off := 156) C dL_law_33 (by decide) (by decide) (by decide) 189 (by decide) ?_
        refine wm_aload_n C dL_law_189 2 rfl (pc' := 190) rfl ?_
        refine wm_aload_n C dL_law_190 1 rfl (pc' := 191) rfl ?_
        refine wm_iload_n C dL_law_191 0 rfl (pc' := 192) rfl ?_
        refine wm_ikonst (v := 1) C dL_law_192 (by decide) (pc' := 193) rfl ?_
        refine wm_iadd C dL_law_193 (pc' := 194) rfl ?_
        refine wm_sld C X dL_law_194 (hin 1 (nI 1) rfl (by omega)) (pc' := 195) rfl ?_
        refine wm_aload_n C dL_law_195 1 rfl (pc' := 196) rfl ?_
        refine wm_iload_n C dL_law_196 0 rfl (pc' := 197) rfl ?_
        refine wm_ikonst (v := 2) C dL_law_197 (by decide) (pc' := 198) rfl ?_
        refine wm_iadd C dL_law_198 (pc' := 199) rfl ?_
        refine wm_sld C X dL_law_199 (hin 2 (nI 2) rfl (by omega)) (pc' := 200) rfl ?_
        obtain ⟨r, sx, sm, hx1, hm1, hR1⟩ := h_hold (xs (nI (6 * j) + 1).toNatClampNeg) (xs (nI (6 * j) + 2).toNatClampNeg) j nc σx σm hj hR
        refine wm_callVf (nn := 2) (As := [.int (xs (nI (6 * j) + 1).toNatClampNeg), .int (xs (nI (6 * j) + 2).toNatClampNeg)]) (rest := []) (st' := [.int r]) C dL_law_200 (kX11_hold l D τ q nc σx (xs (nI (6 * j) + 1).toNatClampNeg) (xs (nI (6 * j) + 2).toNatClampNeg) r sx hx1) gL_law_X11_hold rfl (by decide +kernel) ⟨Nat.le_of_ble_eq_true rfl, Nat.le_of_ble_eq_true rfl⟩ rfl rfl ⟨by show k ≤ 672204; omega, by show n ≤ 7085637; omega⟩ 0 (x_at (by omega) rfl) rfl rfl rfl (Nat.le_of_ble_eq_true rfl) rfl (pc' := 203) rfl ?_
        refine wm_aload_n C dL_law_203 3 rfl (pc' := 204) rfl ?_
        refine wm_aload_n C dL_law_204 1 rfl (pc' := 205) rfl ?_
        refine wm_iload_n C dL_law_205 0 rfl (pc' := 206) rfl ?_
        refine wm_ikonst (v := 1) C dL_law_206 (by decide) (pc' := 207) rfl ?_
        refine wm_iadd C dL_law_207 (pc' := 208) rfl ?_
        refine wm_sld C X dL_law_208 (hin 1 (nI 1) rfl (by omega)) (pc' := 209) rfl ?_
        refine wm_aload_n C dL_law_209 1 rfl (pc' := 210) rfl ?_
        refine wm_iload_n C dL_law_210 0 rfl (pc' := 211) rfl ?_
        refine wm_ikonst (v := 2) C dL_law_211 (by decide) (pc' := 212) rfl ?_
        refine wm_iadd C dL_law_212 (pc' := 213) rfl ?_
        refine wm_sld C X dL_law_213 (hin 2 (nI 2) rfl (by omega)) (pc' := 214) rfl ?_
        refine wm_callVr (nn := 2) (As := [.int (xs (nI (6 * j) + 1).toNatClampNeg), .int (xs (nI (6 * j) + 2).toNatClampNeg)]) (rest := [.int r]) (st' := [.int r, .int r]) C dL_law_214 (kX12_hold l D τ q2 σm (xs (nI (6 * j) + 1).toNatClampNeg) (xs (nI (6 * j) + 2).toNatClampNeg) r sm hm1) gL_law_X12_hold rfl (by decide +kernel) ⟨Nat.le_of_ble_eq_true rfl, Nat.le_of_ble_eq_true rfl⟩ rfl rfl ⟨by show k ≤ 672204; omega, by show n ≤ 7085637; omega⟩ 0 rfl rfl rfl rfl (Nat.le_of_ble_eq_true rfl) rfl (pc' := 217) rfl ?_
        refine wm_icmp_eq C dL_law_217 1158 (by decide) (pc' := 220) rfl (fun _ => ?_) (fun h => absurd rfl h)
        exact hnext k n q nc sx sm (by omega) (by omega) rfl hR1
      · refine wm_tableIn (x := nI 2) (off := 189) C dL_law_33 (by decide) (by decide) (by decide) 222 (by decide) ?_
        refine wm_aload_n C dL_law_222 2 rfl (pc' := 223) rfl ?_
        refine wm_aload_n C dL_law_223 1 rfl (pc' := 224) rfl ?_
        refine wm_iload_n C dL_law_224 0 rfl (pc' := 225) rfl ?_
        refine wm_ikonst (v := 1) C dL_law_225 (by decide) (pc' := 226) rfl ?_
        refine wm_iadd C dL_law_226 (pc' := 227) rfl ?_
        refine wm_sld C X dL_law_227 (hin 1 (nI 1) rfl (by omega)) (pc' := 228) rfl ?_
        obtain ⟨r, sx, sm, hx1, hm1, hR1⟩ := h_free (xs (nI (6 * j) + 1).toNatClampNeg) j nc σx σm hj hR
        refine wm_callVf (nn := 1) (As := [.int (xs (nI (6 * j) + 1).toNatClampNeg)]) (rest := []) (st' := [.int r]) C dL_law_228 (kX11_free l D τ q nc σx (xs (nI (6 * j) + 1).toNatClampNeg) r sx hx1) gL_law_X11_free rfl (by decide +kernel) ⟨Nat.le_of_ble_eq_true rfl, Nat.le_of_ble_eq_true rfl⟩ rfl rfl ⟨by show k ≤ 672204; omega, by show n ≤ 7085637; omega⟩ 0 (x_at (by omega) rfl) rfl rfl rfl (Nat.le_of_ble_eq_true rfl) rfl (pc' := 231) rfl ?_
        refine wm_aload_n C dL_law_231 3 rfl (pc' := 232) rfl ?_
        refine wm_aload_n C dL_law_232 1 rfl (pc' := 233) rfl ?_
        refine wm_iload_n C dL_law_233 0 rfl (pc' := 234) rfl ?_
        refine wm_ikonst (v := 1) C dL_law_234 (by decide) (pc' := 235) rfl ?_
        refine wm_iadd C dL_law_235 (pc' := 236) rfl ?_
        refine wm_sld C X dL_law_236 (hin 1 (nI 1) rfl (by omega)) (pc' := 237) rfl ?_
        refine wm_callVr (nn := 1) (As := [.int (xs (nI (6 * j) + 1).toNatClampNeg)]) (rest := [.int r]) (st' := [.int r, .int r]) C dL_law_237 (kX12_free l D τ q2 σm (xs (nI (6 * j) + 1).toNatClampNeg) r sm hm1) gL_law_X12_free rfl (by decide +kernel) ⟨Nat.le_of_ble_eq_true rfl, Nat.le_of_ble_eq_true rfl⟩ rfl rfl ⟨by show k ≤ 672204; omega, by show n ≤ 7085637; omega⟩ 0 rfl rfl rfl rfl (Nat.le_of_ble_eq_true rfl) rfl (pc' := 240) rfl ?_
        refine wm_icmp_eq C dL_law_240 1158 (by decide) (pc' := 243) rfl (fun _ => ?_) (fun h => absurd rfl h)
        exact hnext k n q nc sx sm (by omega) (by omega) rfl hR1
      · refine wm_tableIn (x := nI 3) (off := 212) C dL_law_33 (by decide) (by decide) (by decide) 245 (by decide) ?_
        refine wm_aload_n C dL_law_245 2 rfl (pc' := 246) rfl ?_
        refine wm_aload_n C dL_law_246 1 rfl (pc' := 247) rfl ?_
        refine wm_iload_n C dL_law_247 0 rfl (pc' := 248) rfl ?_
        refine wm_ikonst (v := 1) C dL_law_248 (by decide) (pc' := 249) rfl ?_
        refine wm_iadd C dL_law_249 (pc' := 250) rfl ?_
        refine wm_sld C X dL_law_250 (hin 1 (nI 1) rfl (by omega)) (pc' := 251) rfl ?_
        refine wm_aload_n C dL_law_251 1 rfl (pc' := 252) rfl ?_
        refine wm_iload_n C dL_law_252 0 rfl (pc' := 253) rfl ?_
        refine wm_ikonst (v := 2) C dL_law_253 (by decide) (pc' := 254) rfl ?_
        refine wm_iadd C dL_law_254 (pc' := 255) rfl ?_
        refine wm_sld C X dL_law_255 (hin 2 (nI 2) rfl (by omega)) (pc' := 256) rfl ?_
        refine wm_aload_n C dL_law_256 1 rfl (pc' := 257) rfl ?_
        refine wm_iload_n C dL_law_257 0 rfl (pc' := 258) rfl ?_
        refine wm_ikonst (v := 3) C dL_law_258 (by decide) (pc' := 259) rfl ?_
        refine wm_iadd C dL_law_259 (pc' := 260) rfl ?_
        refine wm_sld C X dL_law_260 (hin 3 (nI 3) rfl (by omega)) (pc' := 261) rfl ?_
        refine wm_aload_n C dL_law_261 1 rfl (pc' := 262) rfl ?_
        refine wm_iload_n C dL_law_262 0 rfl (pc' := 263) rfl ?_
        refine wm_ikonst (v := 4) C dL_law_263 (by decide) (pc' := 264) rfl ?_
        refine wm_iadd C dL_law_264 (pc' := 265) rfl ?_
        refine wm_sld C X dL_law_265 (hin 4 (nI 4) rfl (by omega)) (pc' := 266) rfl ?_
        refine wm_aload_n C dL_law_266 1 rfl (pc' := 267) rfl ?_
        refine wm_iload_n C dL_law_267 0 rfl (pc' := 268) rfl ?_
        refine wm_ikonst (v := 5) C dL_law_268 (by decide) (pc' := 269) rfl ?_
        refine wm_iadd C dL_law_269 (pc' := 270) rfl ?_
        refine wm_sld C X dL_law_270 (hin 5 (nI 5) rfl (by omega)) (pc' := 271) rfl ?_
        obtain ⟨r, nc', sx, sm, hx1, hm1, hR1⟩ := h_crack (xs (nI (6 * j) + 1).toNatClampNeg) (xs (nI (6 * j) + 2).toNatClampNeg) (xs (nI (6 * j) + 3).toNatClampNeg) (xs (nI (6 * j) + 4).toNatClampNeg) (xs (nI (6 * j) + 5).toNatClampNeg) j nc σx σm hj hR
        refine wm_callV (nn := 5) (As := [.int (xs (nI (6 * j) + 1).toNatClampNeg), .int (xs (nI (6 * j) + 2).toNatClampNeg), .int (xs (nI (6 * j) + 3).toNatClampNeg), .int (xs (nI (6 * j) + 4).toNatClampNeg), .int (xs (nI (6 * j) + 5).toNatClampNeg)]) (rest := []) (Wc := xW τ q nc σx) (Wr := mW τ q2 σm) C dL_law_271 (kX11_crack l D τ q nc σx (xs (nI (6 * j) + 1).toNatClampNeg) (xs (nI (6 * j) + 2).toNatClampNeg) (xs (nI (6 * j) + 3).toNatClampNeg) (xs (nI (6 * j) + 4).toNatClampNeg) (xs (nI (6 * j) + 5).toNatClampNeg) r (nc', sx) hx1) gL_law_X11_crack rfl (by decide +kernel) ⟨Nat.le_of_ble_eq_true rfl, Nat.le_of_ble_eq_true rfl⟩ ⟨by show k + 1 ≤ 672204; omega, by show n + 5 ≤ 7085637; omega⟩ rfl 0 (x_at (by omega) rfl) rfl rfl rfl (Nat.le_of_ble_eq_true rfl) (pc' := 274) rfl (fun v w hF => ?_)
        obtain ⟨rfl, q', hq', rfl⟩ := hF
        refine wm_st (st' := [.int r]) rfl ?_
        refine wm_aload_n C dL_law_274 3 rfl (pc' := 275) rfl ?_
        refine wm_aload_n C dL_law_275 1 rfl (pc' := 276) rfl ?_
        refine wm_iload_n C dL_law_276 0 rfl (pc' := 277) rfl ?_
        refine wm_ikonst (v := 1) C dL_law_277 (by decide) (pc' := 278) rfl ?_
        refine wm_iadd C dL_law_278 (pc' := 279) rfl ?_
        refine wm_sld C X dL_law_279 (hin 1 (nI 1) rfl (by omega)) (pc' := 280) rfl ?_
        refine wm_aload_n C dL_law_280 1 rfl (pc' := 281) rfl ?_
        refine wm_iload_n C dL_law_281 0 rfl (pc' := 282) rfl ?_
        refine wm_ikonst (v := 2) C dL_law_282 (by decide) (pc' := 283) rfl ?_
        refine wm_iadd C dL_law_283 (pc' := 284) rfl ?_
        refine wm_sld C X dL_law_284 (hin 2 (nI 2) rfl (by omega)) (pc' := 285) rfl ?_
        refine wm_aload_n C dL_law_285 1 rfl (pc' := 286) rfl ?_
        refine wm_iload_n C dL_law_286 0 rfl (pc' := 287) rfl ?_
        refine wm_ikonst (v := 3) C dL_law_287 (by decide) (pc' := 288) rfl ?_
        refine wm_iadd C dL_law_288 (pc' := 289) rfl ?_
        refine wm_sld C X dL_law_289 (hin 3 (nI 3) rfl (by omega)) (pc' := 290) rfl ?_
        refine wm_aload_n C dL_law_290 1 rfl (pc' := 291) rfl ?_
        refine wm_iload_n C dL_law_291 0 rfl (pc' := 292) rfl ?_
        refine wm_ikonst (v := 4) C dL_law_292 (by decide) (pc' := 293) rfl ?_
        refine wm_iadd C dL_law_293 (pc' := 294) rfl ?_
        refine wm_sld C X dL_law_294 (hin 4 (nI 4) rfl (by omega)) (pc' := 295) rfl ?_
        refine wm_aload_n C dL_law_295 1 rfl (pc' := 296) rfl ?_
        refine wm_iload_n C dL_law_296 0 rfl (pc' := 297) rfl ?_
        refine wm_ikonst (v := 5) C dL_law_297 (by decide) (pc' := 298) rfl ?_
        refine wm_iadd C dL_law_298 (pc' := 299) rfl ?_
        refine wm_sld C X dL_law_299 (hin 5 (nI 5) rfl (by omega)) (pc' := 300) rfl ?_
        refine wm_callVr (nn := 5) (As := [.int (xs (nI (6 * j) + 1).toNatClampNeg), .int (xs (nI (6 * j) + 2).toNatClampNeg), .int (xs (nI (6 * j) + 3).toNatClampNeg), .int (xs (nI (6 * j) + 4).toNatClampNeg), .int (xs (nI (6 * j) + 5).toNatClampNeg)]) (rest := [.int r]) (st' := [.int r, .int r]) C dL_law_300 (kX12_crack l D τ q2 σm (xs (nI (6 * j) + 1).toNatClampNeg) (xs (nI (6 * j) + 2).toNatClampNeg) (xs (nI (6 * j) + 3).toNatClampNeg) (xs (nI (6 * j) + 4).toNatClampNeg) (xs (nI (6 * j) + 5).toNatClampNeg) r sm hm1) gL_law_X12_crack rfl (by decide +kernel) ⟨Nat.le_of_ble_eq_true rfl, Nat.le_of_ble_eq_true rfl⟩ rfl rfl ⟨by show k + 1 ≤ 672204; omega, by show n + 5 ≤ 7085637; omega⟩ 0 rfl rfl rfl rfl (Nat.le_of_ble_eq_true rfl) rfl (pc' := 303) rfl ?_
        refine wm_icmp_eq C dL_law_303 1158 (by decide) (pc' := 306) rfl (fun _ => ?_) (fun h => absurd rfl h)
        exact hnext (k + 1) (n + 5) q' nc' sx sm (by omega) (by omega) hq' hR1
      · refine wm_tableIn (x := nI 4) (off := 275) C dL_law_33 (by decide) (by decide) (by decide) 308 (by decide) ?_
        refine wm_aload_n C dL_law_308 2 rfl (pc' := 309) rfl ?_
        refine wm_aload_n C dL_law_309 1 rfl (pc' := 310) rfl ?_
        refine wm_iload_n C dL_law_310 0 rfl (pc' := 311) rfl ?_
        refine wm_ikonst (v := 1) C dL_law_311 (by decide) (pc' := 312) rfl ?_
        refine wm_iadd C dL_law_312 (pc' := 313) rfl ?_
        refine wm_sld C X dL_law_313 (hin 1 (nI 1) rfl (by omega)) (pc' := 314) rfl ?_
        refine wm_aload_n C dL_law_314 1 rfl (pc' := 315) rfl ?_
        refine wm_iload_n C dL_law_315 0 rfl (pc' := 316) rfl ?_
        refine wm_ikonst (v := 2) C dL_law_316 (by decide) (pc' := 317) rfl ?_
        refine wm_iadd C dL_law_317 (pc' := 318) rfl ?_
        refine wm_sld C X dL_law_318 (hin 2 (nI 2) rfl (by omega)) (pc' := 319) rfl ?_
        refine wm_aload_n C dL_law_319 1 rfl (pc' := 320) rfl ?_
        refine wm_iload_n C dL_law_320 0 rfl (pc' := 321) rfl ?_
        refine wm_ikonst (v := 3) C dL_law_321 (by decide) (pc' := 322) rfl ?_
        refine wm_iadd C dL_law_322 (pc' := 323) rfl ?_
        refine wm_sld C X dL_law_323 (hin 3 (nI 3) rfl (by omega)) (pc' := 324) rfl ?_
        refine wm_aload_n C dL_law_324 1 rfl (pc' := 325) rfl ?_
        refine wm_iload_n C dL_law_325 0 rfl (pc' := 326) rfl ?_
        refine wm_ikonst (v := 4) C dL_law_326 (by decide) (pc' := 327) rfl ?_
        refine wm_iadd C dL_law_327 (pc' := 328) rfl ?_
        refine wm_sld C X dL_law_328 (hin 4 (nI 4) rfl (by omega)) (pc' := 329) rfl ?_
        refine wm_aload_n C dL_law_329 1 rfl (pc' := 330) rfl ?_
        refine wm_iload_n C dL_law_330 0 rfl (pc' := 331) rfl ?_
        refine wm_ikonst (v := 5) C dL_law_331 (by decide) (pc' := 332) rfl ?_
        refine wm_iadd C dL_law_332 (pc' := 333) rfl ?_
        refine wm_sld C X dL_law_333 (hin 5 (nI 5) rfl (by omega)) (pc' := 334) rfl ?_
        obtain ⟨r, sx, sm, hx1, hm1, hR1⟩ := h_widths (xs (nI (6 * j) + 1).toNatClampNeg) (xs (nI (6 * j) + 2).toNatClampNeg) (xs (nI (6 * j) + 3).toNatClampNeg) (xs (nI (6 * j) + 4).toNatClampNeg) (xs (nI (6 * j) + 5).toNatClampNeg) j nc σx σm hj hR
        refine wm_callVf (nn := 5) (As := [.int (xs (nI (6 * j) + 1).toNatClampNeg), .int (xs (nI (6 * j) + 2).toNatClampNeg), .int (xs (nI (6 * j) + 3).toNatClampNeg), .int (xs (nI (6 * j) + 4).toNatClampNeg), .int (xs (nI (6 * j) + 5).toNatClampNeg)]) (rest := []) (st' := [.int r]) C dL_law_334 (kX11_widths l D τ q nc σx (xs (nI (6 * j) + 1).toNatClampNeg) (xs (nI (6 * j) + 2).toNatClampNeg) (xs (nI (6 * j) + 3).toNatClampNeg) (xs (nI (6 * j) + 4).toNatClampNeg) (xs (nI (6 * j) + 5).toNatClampNeg) r sx hx1) gL_law_X11_widths rfl (by decide +kernel) ⟨Nat.le_of_ble_eq_true rfl, Nat.le_of_ble_eq_true rfl⟩ rfl rfl ⟨by show k ≤ 672204; omega, by show n ≤ 7085637; omega⟩ 0 (x_at (by omega) rfl) rfl rfl rfl (Nat.le_of_ble_eq_true rfl) rfl (pc' := 337) rfl ?_
        refine wm_aload_n C dL_law_337 3 rfl (pc' := 338) rfl ?_
        refine wm_aload_n C dL_law_338 1 rfl (pc' := 339) rfl ?_
        refine wm_iload_n C dL_law_339 0 rfl (pc' := 340) rfl ?_
        refine wm_ikonst (v := 1) C dL_law_340 (by decide) (pc' := 341) rfl ?_
        refine wm_iadd C dL_law_341 (pc' := 342) rfl ?_
        refine wm_sld C X dL_law_342 (hin 1 (nI 1) rfl (by omega)) (pc' := 343) rfl ?_
        refine wm_aload_n C dL_law_343 1 rfl (pc' := 344) rfl ?_
        refine wm_iload_n C dL_law_344 0 rfl (pc' := 345) rfl ?_
        refine wm_ikonst (v := 2) C dL_law_345 (by decide) (pc' := 346) rfl ?_
        refine wm_iadd C dL_law_346 (pc' := 347) rfl ?_
        refine wm_sld C X dL_law_347 (hin 2 (nI 2) rfl (by omega)) (pc' := 348) rfl ?_
        refine wm_aload_n C dL_law_348 1 rfl (pc' := 349) rfl ?_
        refine wm_iload_n C dL_law_349 0 rfl (pc' := 350) rfl ?_
        refine wm_ikonst (v := 3) C dL_law_350 (by decide) (pc' := 351) rfl ?_
        refine wm_iadd C dL_law_351 (pc' := 352) rfl ?_
        refine wm_sld C X dL_law_352 (hin 3 (nI 3) rfl (by omega)) (pc' := 353) rfl ?_
        refine wm_aload_n C dL_law_353 1 rfl (pc' := 354) rfl ?_
        refine wm_iload_n C dL_law_354 0 rfl (pc' := 355) rfl ?_
        refine wm_ikonst (v := 4) C dL_law_355 (by decide) (pc' := 356) rfl ?_
        refine wm_iadd C dL_law_356 (pc' := 357) rfl ?_
        refine wm_sld C X dL_law_357 (hin 4 (nI 4) rfl (by omega)) (pc' := 358) rfl ?_
        refine wm_aload_n C dL_law_358 1 rfl (pc' := 359) rfl ?_
        refine wm_iload_n C dL_law_359 0 rfl (pc' := 360) rfl ?_
        refine wm_ikonst (v := 5) C dL_law_360 (by decide) (pc' := 361) rfl ?_
        refine wm_iadd C dL_law_361 (pc' := 362) rfl ?_
        refine wm_sld C X dL_law_362 (hin 5 (nI 5) rfl (by omega)) (pc' := 363) rfl ?_
        refine wm_callVr (nn := 5) (As := [.int (xs (nI (6 * j) + 1).toNatClampNeg), .int (xs (nI (6 * j) + 2).toNatClampNeg), .int (xs (nI (6 * j) + 3).toNatClampNeg), .int (xs (nI (6 * j) + 4).toNatClampNeg), .int (xs (nI (6 * j) + 5).toNatClampNeg)]) (rest := [.int r]) (st' := [.int r, .int r]) C dL_law_363 (kX12_widths l D τ q2 σm (xs (nI (6 * j) + 1).toNatClampNeg) (xs (nI (6 * j) + 2).toNatClampNeg) (xs (nI (6 * j) + 3).toNatClampNeg) (xs (nI (6 * j) + 4).toNatClampNeg) (xs (nI (6 * j) + 5).toNatClampNeg) r sm hm1) gL_law_X12_widths rfl (by decide +kernel) ⟨Nat.le_of_ble_eq_true rfl, Nat.le_of_ble_eq_true rfl⟩ rfl rfl ⟨by show k ≤ 672204; omega, by show n ≤ 7085637; omega⟩ 0 rfl rfl rfl rfl (Nat.le_of_ble_eq_true rfl) rfl (pc' := 366) rfl ?_
        refine wm_icmp_eq C dL_law_366 1158 (by decide) (pc' := 369) rfl (fun _ => ?_) (fun h => absurd rfl h)
        exact hnext k n q nc sx sm (by omega) (by omega) rfl hR1
      · refine wm_tableIn (x := nI 5) (off := 338) C dL_law_33 (by decide) (by decide) (by decide) 371 (by decide) ?_
        refine wm_aload_n C dL_law_371 2 rfl (pc' := 372) rfl ?_
        refine wm_aload_n C dL_law_372 1 rfl (pc' := 373) rfl ?_
        refine wm_iload_n C dL_law_373 0 rfl (pc' := 374) rfl ?_
        refine wm_ikonst (v := 1) C dL_law_374 (by decide) (pc' := 375) rfl ?_
        refine wm_iadd C dL_law_375 (pc' := 376) rfl ?_
        refine wm_sld C X dL_law_376 (hin 1 (nI 1) rfl (by omega)) (pc' := 377) rfl ?_
        refine wm_aload_n C dL_law_377 1 rfl (pc' := 378) rfl ?_
        refine wm_iload_n C dL_law_378 0 rfl (pc' := 379) rfl ?_
        refine wm_ikonst (v := 2) C dL_law_379 (by decide) (pc' := 380) rfl ?_
        refine wm_iadd C dL_law_380 (pc' := 381) rfl ?_
        refine wm_sld C X dL_law_381 (hin 2 (nI 2) rfl (by omega)) (pc' := 382) rfl ?_
        obtain ⟨r, sx, sm, hx1, hm1, hR1⟩ := h_width (xs (nI (6 * j) + 1).toNatClampNeg) (xs (nI (6 * j) + 2).toNatClampNeg) j nc σx σm hj hR
        refine wm_callVf (nn := 2) (As := [.int (xs (nI (6 * j) + 1).toNatClampNeg), .int (xs (nI (6 * j) + 2).toNatClampNeg)]) (rest := []) (st' := [.int r]) C dL_law_382 (kX11_width l D τ q nc σx (xs (nI (6 * j) + 1).toNatClampNeg) (xs (nI (6 * j) + 2).toNatClampNeg) r sx hx1) gL_law_X11_width rfl (by decide +kernel) ⟨Nat.le_of_ble_eq_true rfl, Nat.le_of_ble_eq_true rfl⟩ rfl rfl ⟨by show k ≤ 672204; omega, by show n ≤ 7085637; omega⟩ 0 (x_at (by omega) rfl) rfl rfl rfl (Nat.le_of_ble_eq_true rfl) rfl (pc' := 385) rfl ?_
        refine wm_aload_n C dL_law_385 3 rfl (pc' := 386) rfl ?_
        refine wm_aload_n C dL_law_386 1 rfl (pc' := 387) rfl ?_
        refine wm_iload_n C dL_law_387 0 rfl (pc' := 388) rfl ?_
        refine wm_ikonst (v := 1) C dL_law_388 (by decide) (pc' := 389) rfl ?_
        refine wm_iadd C dL_law_389 (pc' := 390) rfl ?_
        refine wm_sld C X dL_law_390 (hin 1 (nI 1) rfl (by omega)) (pc' := 391) rfl ?_
        refine wm_aload_n C dL_law_391 1 rfl (pc' := 392) rfl ?_
        refine wm_iload_n C dL_law_392 0 rfl (pc' := 393) rfl ?_
        refine wm_ikonst (v := 2) C dL_law_393 (by decide) (pc' := 394) rfl ?_
        refine wm_iadd C dL_law_394 (pc' := 395) rfl ?_
        refine wm_sld C X dL_law_395 (hin 2 (nI 2) rfl (by omega)) (pc' := 396) rfl ?_
        refine wm_callVr (nn := 2) (As := [.int (xs (nI (6 * j) + 1).toNatClampNeg), .int (xs (nI (6 * j) + 2).toNatClampNeg)]) (rest := [.int r]) (st' := [.int r, .int r]) C dL_law_396 (kX12_width l D τ q2 σm (xs (nI (6 * j) + 1).toNatClampNeg) (xs (nI (6 * j) + 2).toNatClampNeg) r sm hm1) gL_law_X12_width rfl (by decide +kernel) ⟨Nat.le_of_ble_eq_true rfl, Nat.le_of_ble_eq_true rfl⟩ rfl rfl ⟨by show k ≤ 672204; omega, by show n ≤ 7085637; omega⟩ 0 rfl rfl rfl rfl (Nat.le_of_ble_eq_true rfl) rfl (pc' := 399) rfl ?_
        refine wm_icmp_eq C dL_law_399 1158 (by decide) (pc' := 402) rfl (fun _ => ?_) (fun h => absurd rfl h)
        exact hnext k n q nc sx sm (by omega) (by omega) rfl hR1
      · refine wm_tableIn (x := nI 6) (off := 371) C dL_law_33 (by decide) (by decide) (by decide) 404 (by decide) ?_
        refine wm_aload_n C dL_law_404 2 rfl (pc' := 405) rfl ?_
        refine wm_aload_n C dL_law_405 1 rfl (pc' := 406) rfl ?_
        refine wm_iload_n C dL_law_406 0 rfl (pc' := 407) rfl ?_
        refine wm_ikonst (v := 1) C dL_law_407 (by decide) (pc' := 408) rfl ?_
        refine wm_iadd C dL_law_408 (pc' := 409) rfl ?_
        refine wm_sld C X dL_law_409 (hin 1 (nI 1) rfl (by omega)) (pc' := 410) rfl ?_
        refine wm_aload_n C dL_law_410 1 rfl (pc' := 411) rfl ?_
        refine wm_iload_n C dL_law_411 0 rfl (pc' := 412) rfl ?_
        refine wm_ikonst (v := 2) C dL_law_412 (by decide) (pc' := 413) rfl ?_
        refine wm_iadd C dL_law_413 (pc' := 414) rfl ?_
        refine wm_sld C X dL_law_414 (hin 2 (nI 2) rfl (by omega)) (pc' := 415) rfl ?_
        obtain ⟨r, sx, sm, hx1, hm1, hR1⟩ := h_about (xs (nI (6 * j) + 1).toNatClampNeg) (xs (nI (6 * j) + 2).toNatClampNeg) j nc σx σm hj hR
        refine wm_callVf (nn := 2) (As := [.int (xs (nI (6 * j) + 1).toNatClampNeg), .int (xs (nI (6 * j) + 2).toNatClampNeg)]) (rest := []) (st' := [.int r]) C dL_law_415 (kX11_about l D τ q nc σx (xs (nI (6 * j) + 1).toNatClampNeg) (xs (nI (6 * j) + 2).toNatClampNeg) r sx hx1) gL_law_X11_about rfl (by decide +kernel) ⟨Nat.le_of_ble_eq_true rfl, Nat.le_of_ble_eq_true rfl⟩ rfl rfl ⟨by show k ≤ 672204; omega, by show n ≤ 7085637; omega⟩ 0 (x_at (by omega) rfl) rfl rfl rfl (Nat.le_of_ble_eq_true rfl) rfl (pc' := 418) rfl ?_
        refine wm_aload_n C dL_law_418 3 rfl (pc' := 419) rfl ?_
        refine wm_aload_n C dL_law_419 1 rfl (pc' := 420) rfl ?_
        refine wm_iload_n C dL_law_420 0 rfl (pc' := 421) rfl ?_
        refine wm_ikonst (v := 1) C dL_law_421 (by decide) (pc' := 422) rfl ?_
        refine wm_iadd C dL_law_422 (pc' := 423) rfl ?_
        refine wm_sld C X dL_law_423 (hin 1 (nI 1) rfl (by omega)) (pc' := 424) rfl ?_
        refine wm_aload_n C dL_law_424 1 rfl (pc' := 425) rfl ?_
        refine wm_iload_n C dL_law_425 0 rfl (pc' := 426) rfl ?_
        refine wm_ikonst (v := 2) C dL_law_426 (by decide) (pc' := 427) rfl ?_
        refine wm_iadd C dL_law_427 (pc' := 428) rfl ?_
        refine wm_sld C X dL_law_428 (hin 2 (nI 2) rfl (by omega)) (pc' := 429) rfl ?_
        refine wm_callVr (nn := 2) (As := [.int (xs (nI (6 * j) + 1).toNatClampNeg), .int (xs (nI (6 * j) + 2).toNatClampNeg)]) (rest := [.int r]) (st' := [.int r, .int r]) C dL_law_429 (kX12_about l D τ q2 σm (xs (nI (6 * j) + 1).toNatClampNeg) (xs (nI (6 * j) + 2).toNatClampNeg) r sm hm1) gL_law_X12_about rfl (by decide +kernel) ⟨Nat.le_of_ble_eq_true rfl, Nat.le_of_ble_eq_true rfl⟩ rfl rfl ⟨by show k ≤ 672204; omega, by show n ≤ 7085637; omega⟩ 0 rfl rfl rfl rfl (Nat.le_of_ble_eq_true rfl) rfl (pc' := 432) rfl ?_
        refine wm_icmp_eq C dL_law_432 1158 (by decide) (pc' := 435) rfl (fun _ => ?_) (fun h => absurd rfl h)
        exact hnext k n q nc sx sm (by omega) (by omega) rfl hR1
      · refine wm_tableIn (x := nI 7) (off := 404) C dL_law_33 (by decide) (by decide) (by decide) 437 (by decide) ?_
        refine wm_aload_n C dL_law_437 2 rfl (pc' := 438) rfl ?_
        refine wm_aload_n C dL_law_438 1 rfl (pc' := 439) rfl ?_
        refine wm_iload_n C dL_law_439 0 rfl (pc' := 440) rfl ?_
        refine wm_ikonst (v := 1) C dL_law_440 (by decide) (pc' := 441) rfl ?_
        refine wm_iadd C dL_law_441 (pc' := 442) rfl ?_
        refine wm_sld C X dL_law_442 (hin 1 (nI 1) rfl (by omega)) (pc' := 443) rfl ?_
        refine wm_aload_n C dL_law_443 1 rfl (pc' := 444) rfl ?_
        refine wm_iload_n C dL_law_444 0 rfl (pc' := 445) rfl ?_
        refine wm_ikonst (v := 2) C dL_law_445 (by decide) (pc' := 446) rfl ?_
        refine wm_iadd C dL_law_446 (pc' := 447) rfl ?_
        refine wm_sld C X dL_law_447 (hin 2 (nI 2) rfl (by omega)) (pc' := 448) rfl ?_
        obtain ⟨r, sx, sm, hx1, hm1, hR1⟩ := h_at (xs (nI (6 * j) + 1).toNatClampNeg) (xs (nI (6 * j) + 2).toNatClampNeg) j nc σx σm hj hR
        refine wm_callVf (nn := 2) (As := [.int (xs (nI (6 * j) + 1).toNatClampNeg), .int (xs (nI (6 * j) + 2).toNatClampNeg)]) (rest := []) (st' := [.int r]) C dL_law_448 (kX11_at l D τ q nc σx (xs (nI (6 * j) + 1).toNatClampNeg) (xs (nI (6 * j) + 2).toNatClampNeg) r sx hx1) gL_law_X11_at rfl (by decide +kernel) ⟨Nat.le_of_ble_eq_true rfl, Nat.le_of_ble_eq_true rfl⟩ rfl rfl ⟨by show k ≤ 672204; omega, by show n ≤ 7085637; omega⟩ 0 (x_at (by omega) rfl) rfl rfl rfl (Nat.le_of_ble_eq_true rfl) rfl (pc' := 451) rfl ?_
        refine wm_aload_n C dL_law_451 3 rfl (pc' := 452) rfl ?_
        refine wm_aload_n C dL_law_452 1 rfl (pc' := 453) rfl ?_
        refine wm_iload_n C dL_law_453 0 rfl (pc' := 454) rfl ?_
        refine wm_ikonst (v := 1) C dL_law_454 (by decide) (pc' := 455) rfl ?_
        refine wm_iadd C dL_law_455 (pc' := 456) rfl ?_
        refine wm_sld C X dL_law_456 (hin 1 (nI 1) rfl (by omega)) (pc' := 457) rfl ?_
        refine wm_aload_n C dL_law_457 1 rfl (pc' := 458) rfl ?_
        refine wm_iload_n C dL_law_458 0 rfl (pc' := 459) rfl ?_
        refine wm_ikonst (v := 2) C dL_law_459 (by decide) (pc' := 460) rfl ?_
        refine wm_iadd C dL_law_460 (pc' := 461) rfl ?_
        refine wm_sld C X dL_law_461 (hin 2 (nI 2) rfl (by omega)) (pc' := 462) rfl ?_
        refine wm_callVr (nn := 2) (As := [.int (xs (nI (6 * j) + 1).toNatClampNeg), .int (xs (nI (6 * j) + 2).toNatClampNeg)]) (rest := [.int r]) (st' := [.int r, .int r]) C dL_law_462 (kX12_at l D τ q2 σm (xs (nI (6 * j) + 1).toNatClampNeg) (xs (nI (6 * j) + 2).toNatClampNeg) r sm hm1) gL_law_X12_at rfl (by decide +kernel) ⟨Nat.le_of_ble_eq_true rfl, Nat.le_of_ble_eq_true rfl⟩ rfl rfl ⟨by show k ≤ 672204; omega, by show n ≤ 7085637; omega⟩ 0 rfl rfl rfl rfl (Nat.le_of_ble_eq_true rfl) rfl (pc' := 465) rfl ?_
        refine wm_icmp_eq C dL_law_465 1158 (by decide) (pc' := 468) rfl (fun _ => ?_) (fun h => absurd rfl h)
        exact hnext k n q nc sx sm (by omega) (by omega) rfl hR1
      · refine wm_tableIn (x := nI 8) (off := 437) C dL_law_33 (by decide) (by decide) (by decide) 470 (by decide) ?_
        refine wm_aload_n C dL_law_470 2 rfl (pc' := 471) rfl ?_
        refine wm_aload_n C dL_law_471 1 rfl (pc' := 472) rfl ?_
        refine wm_iload_n C dL_law_472 0 rfl (pc' := 473) rfl ?_
        refine wm_ikonst (v := 1) C dL_law_473 (by decide) (pc' := 474) rfl ?_
        refine wm_iadd C dL_law_474 (pc' := 475) rfl ?_
        refine wm_sld C X dL_law_475 (hin 1 (nI 1) rfl (by omega)) (pc' := 476) rfl ?_
        refine wm_aload_n C dL_law_476 1 rfl (pc' := 477) rfl ?_
        refine wm_iload_n C dL_law_477 0 rfl (pc' := 478) rfl ?_
        refine wm_ikonst (v := 2) C dL_law_478 (by decide) (pc' := 479) rfl ?_
        refine wm_iadd C dL_law_479 (pc' := 480) rfl ?_
        refine wm_sld C X dL_law_480 (hin 2 (nI 2) rfl (by omega)) (pc' := 481) rfl ?_
        obtain ⟨r, sx, sm, hx1, hm1, hR1⟩ := h_head (xs (nI (6 * j) + 1).toNatClampNeg) (xs (nI (6 * j) + 2).toNatClampNeg) j nc σx σm hj hR
        refine wm_callVf (nn := 2) (As := [.int (xs (nI (6 * j) + 1).toNatClampNeg), .int (xs (nI (6 * j) + 2).toNatClampNeg)]) (rest := []) (st' := [.long r]) C dL_law_481 (kX11_head l D τ q nc σx (xs (nI (6 * j) + 1).toNatClampNeg) (xs (nI (6 * j) + 2).toNatClampNeg) r sx hx1) gL_law_X11_head rfl (by decide +kernel) ⟨Nat.le_of_ble_eq_true rfl, Nat.le_of_ble_eq_true rfl⟩ rfl rfl ⟨by show k ≤ 672204; omega, by show n ≤ 7085637; omega⟩ 0 (x_at (by omega) rfl) rfl rfl rfl (Nat.le_of_ble_eq_true rfl) rfl (pc' := 484) rfl ?_
        refine wm_aload_n C dL_law_484 3 rfl (pc' := 485) rfl ?_
        refine wm_aload_n C dL_law_485 1 rfl (pc' := 486) rfl ?_
        refine wm_iload_n C dL_law_486 0 rfl (pc' := 487) rfl ?_
        refine wm_ikonst (v := 1) C dL_law_487 (by decide) (pc' := 488) rfl ?_
        refine wm_iadd C dL_law_488 (pc' := 489) rfl ?_
        refine wm_sld C X dL_law_489 (hin 1 (nI 1) rfl (by omega)) (pc' := 490) rfl ?_
        refine wm_aload_n C dL_law_490 1 rfl (pc' := 491) rfl ?_
        refine wm_iload_n C dL_law_491 0 rfl (pc' := 492) rfl ?_
        refine wm_ikonst (v := 2) C dL_law_492 (by decide) (pc' := 493) rfl ?_
        refine wm_iadd C dL_law_493 (pc' := 494) rfl ?_
        refine wm_sld C X dL_law_494 (hin 2 (nI 2) rfl (by omega)) (pc' := 495) rfl ?_
        refine wm_callVr (nn := 2) (As := [.int (xs (nI (6 * j) + 1).toNatClampNeg), .int (xs (nI (6 * j) + 2).toNatClampNeg)]) (rest := [.long r]) (st' := [.long r, .long r]) C dL_law_495 (kX12_head l D τ q2 σm (xs (nI (6 * j) + 1).toNatClampNeg) (xs (nI (6 * j) + 2).toNatClampNeg) r sm hm1) gL_law_X12_head rfl (by decide +kernel) ⟨Nat.le_of_ble_eq_true rfl, Nat.le_of_ble_eq_true rfl⟩ rfl rfl ⟨by show k ≤ 672204; omega, by show n ≤ 7085637; omega⟩ 0 rfl rfl rfl rfl (Nat.le_of_ble_eq_true rfl) rfl (pc' := 498) rfl ?_
        refine wm_lcmp C dL_law_498 (pc' := 499) rfl ?_
        refine wm_if_eq C dL_law_499 1158 (by decide) (pc' := 502) rfl (fun _ => ?_) (fun h => absurd (lg_cmp_self r) h)
        exact hnext k n q nc sx sm (by omega) (by omega) rfl hR1
      · refine wm_tableIn (x := nI 9) (off := 471) C dL_law_33 (by decide) (by decide) (by decide) 504 (by decide) ?_
        refine wm_aload_n C dL_law_504 2 rfl (pc' := 505) rfl ?_
        refine wm_aload_n C dL_law_505 1 rfl (pc' := 506) rfl ?_
        refine wm_iload_n C dL_law_506 0 rfl (pc' := 507) rfl ?_
        refine wm_ikonst (v := 1) C dL_law_507 (by decide) (pc' := 508) rfl ?_
        refine wm_iadd C dL_law_508 (pc' := 509) rfl ?_
        refine wm_sld C X dL_law_509 (hin 1 (nI 1) rfl (by omega)) (pc' := 510) rfl ?_
        refine wm_aload_n C dL_law_510 1 rfl (pc' := 511) rfl ?_
        refine wm_iload_n C dL_law_511 0 rfl (pc' := 512) rfl ?_
        refine wm_ikonst (v := 2) C dL_law_512 (by decide) (pc' := 513) rfl ?_
        refine wm_iadd C dL_law_513 (pc' := 514) rfl ?_
        refine wm_sld C X dL_law_514 (hin 2 (nI 2) rfl (by omega)) (pc' := 515) rfl ?_
        obtain ⟨r, sx, sm, hx1, hm1, hR1⟩ := h_flow (xs (nI (6 * j) + 1).toNatClampNeg) (xs (nI (6 * j) + 2).toNatClampNeg) j nc σx σm hj hR
        refine wm_callVf (nn := 2) (As := [.int (xs (nI (6 * j) + 1).toNatClampNeg), .int (xs (nI (6 * j) + 2).toNatClampNeg)]) (rest := []) (st' := [.long r]) C dL_law_515 (kX11_flow l D τ q nc σx (xs (nI (6 * j) + 1).toNatClampNeg) (xs (nI (6 * j) + 2).toNatClampNeg) r sx hx1) gL_law_X11_flow rfl (by decide +kernel) ⟨Nat.le_of_ble_eq_true rfl, Nat.le_of_ble_eq_true rfl⟩ rfl rfl ⟨by show k ≤ 672204; omega, by show n ≤ 7085637; omega⟩ 0 (x_at (by omega) rfl) rfl rfl rfl (Nat.le_of_ble_eq_true rfl) rfl (pc' := 518) rfl ?_
        refine wm_aload_n C dL_law_518 3 rfl (pc' := 519) rfl ?_
        refine wm_aload_n C dL_law_519 1 rfl (pc' := 520) rfl ?_
        refine wm_iload_n C dL_law_520 0 rfl (pc' := 521) rfl ?_
        refine wm_ikonst (v := 1) C dL_law_521 (by decide) (pc' := 522) rfl ?_
        refine wm_iadd C dL_law_522 (pc' := 523) rfl ?_
        refine wm_sld C X dL_law_523 (hin 1 (nI 1) rfl (by omega)) (pc' := 524) rfl ?_
        refine wm_aload_n C dL_law_524 1 rfl (pc' := 525) rfl ?_
        refine wm_iload_n C dL_law_525 0 rfl (pc' := 526) rfl ?_
        refine wm_ikonst (v := 2) C dL_law_526 (by decide) (pc' := 527) rfl ?_
        refine wm_iadd C dL_law_527 (pc' := 528) rfl ?_
        refine wm_sld C X dL_law_528 (hin 2 (nI 2) rfl (by omega)) (pc' := 529) rfl ?_
        refine wm_callVr (nn := 2) (As := [.int (xs (nI (6 * j) + 1).toNatClampNeg), .int (xs (nI (6 * j) + 2).toNatClampNeg)]) (rest := [.long r]) (st' := [.long r, .long r]) C dL_law_529 (kX12_flow l D τ q2 σm (xs (nI (6 * j) + 1).toNatClampNeg) (xs (nI (6 * j) + 2).toNatClampNeg) r sm hm1) gL_law_X12_flow rfl (by decide +kernel) ⟨Nat.le_of_ble_eq_true rfl, Nat.le_of_ble_eq_true rfl⟩ rfl rfl ⟨by show k ≤ 672204; omega, by show n ≤ 7085637; omega⟩ 0 rfl rfl rfl rfl (Nat.le_of_ble_eq_true rfl) rfl (pc' := 532) rfl ?_
        refine wm_lcmp C dL_law_532 (pc' := 533) rfl ?_
        refine wm_if_eq C dL_law_533 1158 (by decide) (pc' := 536) rfl (fun _ => ?_) (fun h => absurd (lg_cmp_self r) h)
        exact hnext k n q nc sx sm (by omega) (by omega) rfl hR1
      · refine wm_tableIn (x := nI 10) (off := 505) C dL_law_33 (by decide) (by decide) (by decide) 538 (by decide) ?_
        refine wm_aload_n C dL_law_538 2 rfl (pc' := 539) rfl ?_
        refine wm_aload_n C dL_law_539 1 rfl (pc' := 540) rfl ?_
        refine wm_iload_n C dL_law_540 0 rfl (pc' := 541) rfl ?_
        refine wm_ikonst (v := 1) C dL_law_541 (by decide) (pc' := 542) rfl ?_
        refine wm_iadd C dL_law_542 (pc' := 543) rfl ?_
        refine wm_sld C X dL_law_543 (hin 1 (nI 1) rfl (by omega)) (pc' := 544) rfl ?_
        refine wm_aload_n C dL_law_544 1 rfl (pc' := 545) rfl ?_
        refine wm_iload_n C dL_law_545 0 rfl (pc' := 546) rfl ?_
        refine wm_ikonst (v := 2) C dL_law_546 (by decide) (pc' := 547) rfl ?_
        refine wm_iadd C dL_law_547 (pc' := 548) rfl ?_
        refine wm_sld C X dL_law_548 (hin 2 (nI 2) rfl (by omega)) (pc' := 549) rfl ?_
        obtain ⟨r, sx, sm, hx1, hm1, hR1⟩ := h_in (xs (nI (6 * j) + 1).toNatClampNeg) (xs (nI (6 * j) + 2).toNatClampNeg) j nc σx σm hj hR
        refine wm_callVf (nn := 2) (As := [.int (xs (nI (6 * j) + 1).toNatClampNeg), .int (xs (nI (6 * j) + 2).toNatClampNeg)]) (rest := []) (st' := [.long r]) C dL_law_549 (kX11_in l D τ q nc σx (xs (nI (6 * j) + 1).toNatClampNeg) (xs (nI (6 * j) + 2).toNatClampNeg) r sx hx1) gL_law_X11_in rfl (by decide +kernel) ⟨Nat.le_of_ble_eq_true rfl, Nat.le_of_ble_eq_true rfl⟩ rfl rfl ⟨by show k ≤ 672204; omega, by show n ≤ 7085637; omega⟩ 0 (x_at (by omega) rfl) rfl rfl rfl (Nat.le_of_ble_eq_true rfl) rfl (pc' := 552) rfl ?_
        refine wm_aload_n C dL_law_552 3 rfl (pc' := 553) rfl ?_
        refine wm_aload_n C dL_law_553 1 rfl (pc' := 554) rfl ?_
        refine wm_iload_n C dL_law_554 0 rfl (pc' := 555) rfl ?_
        refine wm_ikonst (v := 1) C dL_law_555 (by decide) (pc' := 556) rfl ?_
        refine wm_iadd C dL_law_556 (pc' := 557) rfl ?_
        refine wm_sld C X dL_law_557 (hin 1 (nI 1) rfl (by omega)) (pc' := 558) rfl ?_
        refine wm_aload_n C dL_law_558 1 rfl (pc' := 559) rfl ?_
        refine wm_iload_n C dL_law_559 0 rfl (pc' := 560) rfl ?_
        refine wm_ikonst (v := 2) C dL_law_560 (by decide) (pc' := 561) rfl ?_
        refine wm_iadd C dL_law_561 (pc' := 562) rfl ?_
        refine wm_sld C X dL_law_562 (hin 2 (nI 2) rfl (by omega)) (pc' := 563) rfl ?_
        refine wm_callVr (nn := 2) (As := [.int (xs (nI (6 * j) + 1).toNatClampNeg), .int (xs (nI (6 * j) + 2).toNatClampNeg)]) (rest := [.long r]) (st' := [.long r, .long r]) C dL_law_563 (kX12_in l D τ q2 σm (xs (nI (6 * j) + 1).toNatClampNeg) (xs (nI (6 * j) + 2).toNatClampNeg) r sm hm1) gL_law_X12_in rfl (by decide +kernel) ⟨Nat.le_of_ble_eq_true rfl, Nat.le_of_ble_eq_true rfl⟩ rfl rfl ⟨by show k ≤ 672204; omega, by show n ≤ 7085637; omega⟩ 0 rfl rfl rfl rfl (Nat.le_of_ble_eq_true rfl) rfl (pc' := 566) rfl ?_
        refine wm_lcmp C dL_law_566 (pc' := 567) rfl ?_
        refine wm_if_eq C dL_law_567 1158 (by decide) (pc' := 570) rfl (fun _ => ?_) (fun h => absurd (lg_cmp_self r) h)
        exact hnext k n q nc sx sm (by omega) (by omega) rfl hR1
      · refine wm_tableIn (x := nI 11) (off := 539) C dL_law_33 (by decide) (by decide) (by decide) 572 (by decide) ?_
        refine wm_aload_n C dL_law_572 2 rfl (pc' := 573) rfl ?_
        refine wm_aload_n C dL_law_573 1 rfl (pc' := 574) rfl ?_
        refine wm_iload_n C dL_law_574 0 rfl (pc' := 575) rfl ?_
        refine wm_ikonst (v := 1) C dL_law_575 (by decide) (pc' := 576) rfl ?_
        refine wm_iadd C dL_law_576 (pc' := 577) rfl ?_
        refine wm_sld C X dL_law_577 (hin 1 (nI 1) rfl (by omega)) (pc' := 578) rfl ?_
        obtain ⟨r, sx, sm, hx1, hm1, hR1⟩ := h_work (xs (nI (6 * j) + 1).toNatClampNeg) j nc σx σm hj hR
        refine wm_callVf (nn := 1) (As := [.int (xs (nI (6 * j) + 1).toNatClampNeg)]) (rest := []) (st' := [.long r]) C dL_law_578 (kX11_work l D τ q nc σx (xs (nI (6 * j) + 1).toNatClampNeg) r sx hx1) gL_law_X11_work rfl (by decide +kernel) ⟨Nat.le_of_ble_eq_true rfl, Nat.le_of_ble_eq_true rfl⟩ rfl rfl ⟨by show k ≤ 672204; omega, by show n ≤ 7085637; omega⟩ 0 (x_at (by omega) rfl) rfl rfl rfl (Nat.le_of_ble_eq_true rfl) rfl (pc' := 581) rfl ?_
        refine wm_aload_n C dL_law_581 3 rfl (pc' := 582) rfl ?_
        refine wm_aload_n C dL_law_582 1 rfl (pc' := 583) rfl ?_
        refine wm_iload_n C dL_law_583 0 rfl (pc' := 584) rfl ?_
        refine wm_ikonst (v := 1) C dL_law_584 (by decide) (pc' := 585) rfl ?_
        refine wm_iadd C dL_law_585 (pc' := 586) rfl ?_
        refine wm_sld C X dL_law_586 (hin 1 (nI 1) rfl (by omega)) (pc' := 587) rfl ?_
        refine wm_callVr (nn := 1) (As := [.int (xs (nI (6 * j) + 1).toNatClampNeg)]) (rest := [.long r]) (st' := [.long r, .long r]) C dL_law_587 (kX12_work l D τ q2 σm (xs (nI (6 * j) + 1).toNatClampNeg) r sm hm1) gL_law_X12_work rfl (by decide +kernel) ⟨Nat.le_of_ble_eq_true rfl, Nat.le_of_ble_eq_true rfl⟩ rfl rfl ⟨by show k ≤ 672204; omega, by show n ≤ 7085637; omega⟩ 0 rfl rfl rfl rfl (Nat.le_of_ble_eq_true rfl) rfl (pc' := 590) rfl ?_
        refine wm_lcmp C dL_law_590 (pc' := 591) rfl ?_
        refine wm_if_eq C dL_law_591 1158 (by decide) (pc' := 594) rfl (fun _ => ?_) (fun h => absurd (lg_cmp_self r) h)
        exact hnext k n q nc sx sm (by omega) (by omega) rfl hR1
      · refine wm_tableIn (x := nI 12) (off := 563) C dL_law_33 (by decide) (by decide) (by decide) 596 (by decide) ?_
        refine wm_aload_n C dL_law_596 2 rfl (pc' := 597) rfl ?_
        refine wm_aload_n C dL_law_597 1 rfl (pc' := 598) rfl ?_
        refine wm_iload_n C dL_law_598 0 rfl (pc' := 599) rfl ?_
        refine wm_ikonst (v := 1) C dL_law_599 (by decide) (pc' := 600) rfl ?_
        refine wm_iadd C dL_law_600 (pc' := 601) rfl ?_
        refine wm_sld C X dL_law_601 (hin 1 (nI 1) rfl (by omega)) (pc' := 602) rfl ?_
        obtain ⟨r, sx, sm, hx1, hm1, hR1⟩ := h_rate (xs (nI (6 * j) + 1).toNatClampNeg) j nc σx σm hj hR
        refine wm_callVf (nn := 1) (As := [.int (xs (nI (6 * j) + 1).toNatClampNeg)]) (rest := []) (st' := [.int r]) C dL_law_602 (kX11_rate l D τ q nc σx (xs (nI (6 * j) + 1).toNatClampNeg) r sx hx1) gL_law_X11_rate rfl (by decide +kernel) ⟨Nat.le_of_ble_eq_true rfl, Nat.le_of_ble_eq_true rfl⟩ rfl rfl ⟨by show k ≤ 672204; omega, by show n ≤ 7085637; omega⟩ 0 (x_at (by omega) rfl) rfl rfl rfl (Nat.le_of_ble_eq_true rfl) rfl (pc' := 605) rfl ?_
        refine wm_aload_n C dL_law_605 3 rfl (pc' := 606) rfl ?_
        refine wm_aload_n C dL_law_606 1 rfl (pc' := 607) rfl ?_
        refine wm_iload_n C dL_law_607 0 rfl (pc' := 608) rfl ?_
        refine wm_ikonst (v := 1) C dL_law_608 (by decide) (pc' := 609) rfl ?_
        refine wm_iadd C dL_law_609 (pc' := 610) rfl ?_
        refine wm_sld C X dL_law_610 (hin 1 (nI 1) rfl (by omega)) (pc' := 611) rfl ?_
        refine wm_callVr (nn := 1) (As := [.int (xs (nI (6 * j) + 1).toNatClampNeg)]) (rest := [.int r]) (st' := [.int r, .int r]) C dL_law_611 (kX12_rate l D τ q2 σm (xs (nI (6 * j) + 1).toNatClampNeg) r sm hm1) gL_law_X12_rate rfl (by decide +kernel) ⟨Nat.le_of_ble_eq_true rfl, Nat.le_of_ble_eq_true rfl⟩ rfl rfl ⟨by show k ≤ 672204; omega, by show n ≤ 7085637; omega⟩ 0 rfl rfl rfl rfl (Nat.le_of_ble_eq_true rfl) rfl (pc' := 614) rfl ?_
        refine wm_icmp_eq C dL_law_614 1158 (by decide) (pc' := 617) rfl (fun _ => ?_) (fun h => absurd rfl h)
        exact hnext k n q nc sx sm (by omega) (by omega) rfl hR1
      · refine wm_tableIn (x := nI 13) (off := 586) C dL_law_33 (by decide) (by decide) (by decide) 619 (by decide) ?_
        refine wm_aload_n C dL_law_619 2 rfl (pc' := 620) rfl ?_
        refine wm_aload_n C dL_law_620 1 rfl (pc' := 621) rfl ?_
        refine wm_iload_n C dL_law_621 0 rfl (pc' := 622) rfl ?_
        refine wm_ikonst (v := 1) C dL_law_622 (by decide) (pc' := 623) rfl ?_
        refine wm_iadd C dL_law_623 (pc' := 624) rfl ?_
        refine wm_sld C X dL_law_624 (hin 1 (nI 1) rfl (by omega)) (pc' := 625) rfl ?_
        obtain ⟨r, sx, sm, hx1, hm1, hR1⟩ := h_step (xs (nI (6 * j) + 1).toNatClampNeg) j nc σx σm hj hR
        refine wm_callVf (nn := 1) (As := [.int (xs (nI (6 * j) + 1).toNatClampNeg)]) (rest := []) (st' := [.int r]) C dL_law_625 (kX11_step l D τ q nc σx (xs (nI (6 * j) + 1).toNatClampNeg) r sx hx1) gL_law_X11_step rfl (by decide +kernel) ⟨Nat.le_of_ble_eq_true rfl, Nat.le_of_ble_eq_true rfl⟩ rfl rfl ⟨by show k ≤ 672204; omega, by show n ≤ 7085637; omega⟩ 0 (x_at (by omega) rfl) rfl rfl rfl (Nat.le_of_ble_eq_true rfl) rfl (pc' := 628) rfl ?_
        refine wm_aload_n C dL_law_628 3 rfl (pc' := 629) rfl ?_
        refine wm_aload_n C dL_law_629 1 rfl (pc' := 630) rfl ?_
        refine wm_iload_n C dL_law_630 0 rfl (pc' := 631) rfl ?_
        refine wm_ikonst (v := 1) C dL_law_631 (by decide) (pc' := 632) rfl ?_
        refine wm_iadd C dL_law_632 (pc' := 633) rfl ?_
        refine wm_sld C X dL_law_633 (hin 1 (nI 1) rfl (by omega)) (pc' := 634) rfl ?_
        refine wm_callVr (nn := 1) (As := [.int (xs (nI (6 * j) + 1).toNatClampNeg)]) (rest := [.int r]) (st' := [.int r, .int r]) C dL_law_634 (kX12_step l D τ q2 σm (xs (nI (6 * j) + 1).toNatClampNeg) r sm hm1) gL_law_X12_step rfl (by decide +kernel) ⟨Nat.le_of_ble_eq_true rfl, Nat.le_of_ble_eq_true rfl⟩ rfl rfl ⟨by show k ≤ 672204; omega, by show n ≤ 7085637; omega⟩ 0 rfl rfl rfl rfl (Nat.le_of_ble_eq_true rfl) rfl (pc' := 637) rfl ?_
        refine wm_icmp_eq C dL_law_637 1158 (by decide) (pc' := 640) rfl (fun _ => ?_) (fun h => absurd rfl h)
        exact hnext k n q nc sx sm (by omega) (by omega) rfl hR1
      · refine wm_tableIn (x := nI 14) (off := 609) C dL_law_33 (by decide) (by decide) (by decide) 642 (by decide) ?_
        refine wm_aload_n C dL_law_642 2 rfl (pc' := 643) rfl ?_
        refine wm_aload_n C dL_law_643 1 rfl (pc' := 644) rfl ?_
        refine wm_iload_n C dL_law_644 0 rfl (pc' := 645) rfl ?_
        refine wm_ikonst (v := 1) C dL_law_645 (by decide) (pc' := 646) rfl ?_
        refine wm_iadd C dL_law_646 (pc' := 647) rfl ?_
        refine wm_sld C X dL_law_647 (hin 1 (nI 1) rfl (by omega)) (pc' := 648) rfl ?_
        obtain ⟨r, sx, sm, hx1, hm1, hR1⟩ := h_run (xs (nI (6 * j) + 1).toNatClampNeg) j nc σx σm hj hR
        refine wm_callVf (nn := 1) (As := [.int (xs (nI (6 * j) + 1).toNatClampNeg)]) (rest := []) (st' := [.int r]) C dL_law_648 (kX11_run l D τ q nc σx (xs (nI (6 * j) + 1).toNatClampNeg) r sx hx1) gL_law_X11_run rfl (by decide +kernel) ⟨Nat.le_of_ble_eq_true rfl, Nat.le_of_ble_eq_true rfl⟩ rfl rfl ⟨by show k ≤ 672204; omega, by show n ≤ 7085637; omega⟩ 0 (x_at (by omega) rfl) rfl rfl rfl (Nat.le_of_ble_eq_true rfl) rfl (pc' := 651) rfl ?_
        refine wm_aload_n C dL_law_651 3 rfl (pc' := 652) rfl ?_
        refine wm_aload_n C dL_law_652 1 rfl (pc' := 653) rfl ?_
        refine wm_iload_n C dL_law_653 0 rfl (pc' := 654) rfl ?_
        refine wm_ikonst (v := 1) C dL_law_654 (by decide) (pc' := 655) rfl ?_
        refine wm_iadd C dL_law_655 (pc' := 656) rfl ?_
        refine wm_sld C X dL_law_656 (hin 1 (nI 1) rfl (by omega)) (pc' := 657) rfl ?_
        refine wm_callVr (nn := 1) (As := [.int (xs (nI (6 * j) + 1).toNatClampNeg)]) (rest := [.int r]) (st' := [.int r, .int r]) C dL_law_657 (kX12_run l D τ q2 σm (xs (nI (6 * j) + 1).toNatClampNeg) r sm hm1) gL_law_X12_run rfl (by decide +kernel) ⟨Nat.le_of_ble_eq_true rfl, Nat.le_of_ble_eq_true rfl⟩ rfl rfl ⟨by show k ≤ 672204; omega, by show n ≤ 7085637; omega⟩ 0 rfl rfl rfl rfl (Nat.le_of_ble_eq_true rfl) rfl (pc' := 660) rfl ?_
        refine wm_icmp_eq C dL_law_660 1158 (by decide) (pc' := 663) rfl (fun _ => ?_) (fun h => absurd rfl h)
        exact hnext k n q nc sx sm (by omega) (by omega) rfl hR1
      · refine wm_tableIn (x := nI 15) (off := 632) C dL_law_33 (by decide) (by decide) (by decide) 665 (by decide) ?_
        refine wm_aload_n C dL_law_665 2 rfl (pc' := 666) rfl ?_
        refine wm_aload_n C dL_law_666 1 rfl (pc' := 667) rfl ?_
        refine wm_iload_n C dL_law_667 0 rfl (pc' := 668) rfl ?_
        refine wm_ikonst (v := 1) C dL_law_668 (by decide) (pc' := 669) rfl ?_
        refine wm_iadd C dL_law_669 (pc' := 670) rfl ?_
        refine wm_sld C X dL_law_670 (hin 1 (nI 1) rfl (by omega)) (pc' := 671) rfl ?_
        obtain ⟨r, sx, sm, hx1, hm1, hR1⟩ := h_ways (xs (nI (6 * j) + 1).toNatClampNeg) j nc σx σm hj hR
        refine wm_callVf (nn := 1) (As := [.int (xs (nI (6 * j) + 1).toNatClampNeg)]) (rest := []) (st' := [.int r]) C dL_law_671 (kX11_ways l D τ q nc σx (xs (nI (6 * j) + 1).toNatClampNeg) r sx hx1) gL_law_X11_ways rfl (by decide +kernel) ⟨Nat.le_of_ble_eq_true rfl, Nat.le_of_ble_eq_true rfl⟩ rfl rfl ⟨by show k ≤ 672204; omega, by show n ≤ 7085637; omega⟩ 0 (x_at (by omega) rfl) rfl rfl rfl (Nat.le_of_ble_eq_true rfl) rfl (pc' := 674) rfl ?_
        refine wm_aload_n C dL_law_674 3 rfl (pc' := 675) rfl ?_
        refine wm_aload_n C dL_law_675 1 rfl (pc' := 676) rfl ?_
        refine wm_iload_n C dL_law_676 0 rfl (pc' := 677) rfl ?_
        refine wm_ikonst (v := 1) C dL_law_677 (by decide) (pc' := 678) rfl ?_
        refine wm_iadd C dL_law_678 (pc' := 679) rfl ?_
        refine wm_sld C X dL_law_679 (hin 1 (nI 1) rfl (by omega)) (pc' := 680) rfl ?_
        refine wm_callVr (nn := 1) (As := [.int (xs (nI (6 * j) + 1).toNatClampNeg)]) (rest := [.int r]) (st' := [.int r, .int r]) C dL_law_680 (kX12_ways l D τ q2 σm (xs (nI (6 * j) + 1).toNatClampNeg) r sm hm1) gL_law_X12_ways rfl (by decide +kernel) ⟨Nat.le_of_ble_eq_true rfl, Nat.le_of_ble_eq_true rfl⟩ rfl rfl ⟨by show k ≤ 672204; omega, by show n ≤ 7085637; omega⟩ 0 rfl rfl rfl rfl (Nat.le_of_ble_eq_true rfl) rfl (pc' := 683) rfl ?_
        refine wm_icmp_eq C dL_law_683 1158 (by decide) (pc' := 686) rfl (fun _ => ?_) (fun h => absurd rfl h)
        exact hnext k n q nc sx sm (by omega) (by omega) rfl hR1
      · refine wm_tableIn (x := nI 16) (off := 655) C dL_law_33 (by decide) (by decide) (by decide) 688 (by decide) ?_
        refine wm_aload_n C dL_law_688 2 rfl (pc' := 689) rfl ?_
        refine wm_aload_n C dL_law_689 1 rfl (pc' := 690) rfl ?_
        refine wm_iload_n C dL_law_690 0 rfl (pc' := 691) rfl ?_
        refine wm_ikonst (v := 1) C dL_law_691 (by decide) (pc' := 692) rfl ?_
        refine wm_iadd C dL_law_692 (pc' := 693) rfl ?_
        refine wm_sld C X dL_law_693 (hin 1 (nI 1) rfl (by omega)) (pc' := 694) rfl ?_
        refine wm_aload_n C dL_law_694 1 rfl (pc' := 695) rfl ?_
        refine wm_iload_n C dL_law_695 0 rfl (pc' := 696) rfl ?_
        refine wm_ikonst (v := 2) C dL_law_696 (by decide) (pc' := 697) rfl ?_
        refine wm_iadd C dL_law_697 (pc' := 698) rfl ?_
        refine wm_sld C X dL_law_698 (hin 2 (nI 2) rfl (by omega)) (pc' := 699) rfl ?_
        obtain ⟨r, sx, sm, hx1, hm1, hR1⟩ := h_through (xs (nI (6 * j) + 1).toNatClampNeg) (xs (nI (6 * j) + 2).toNatClampNeg) j nc σx σm hj hR
        refine wm_callVf (nn := 2) (As := [.int (xs (nI (6 * j) + 1).toNatClampNeg), .int (xs (nI (6 * j) + 2).toNatClampNeg)]) (rest := []) (st' := [.int r]) C dL_law_699 (kX11_through l D τ q nc σx (xs (nI (6 * j) + 1).toNatClampNeg) (xs (nI (6 * j) + 2).toNatClampNeg) r sx hx1) gL_law_X11_through rfl (by decide +kernel) ⟨Nat.le_of_ble_eq_true rfl, Nat.le_of_ble_eq_true rfl⟩ rfl rfl ⟨by show k ≤ 672204; omega, by show n ≤ 7085637; omega⟩ 0 (x_at (by omega) rfl) rfl rfl rfl (Nat.le_of_ble_eq_true rfl) rfl (pc' := 702) rfl ?_
        refine wm_aload_n C dL_law_702 3 rfl (pc' := 703) rfl ?_
        refine wm_aload_n C dL_law_703 1 rfl (pc' := 704) rfl ?_
        refine wm_iload_n C dL_law_704 0 rfl (pc' := 705) rfl ?_
        refine wm_ikonst (v := 1) C dL_law_705 (by decide) (pc' := 706) rfl ?_
        refine wm_iadd C dL_law_706 (pc' := 707) rfl ?_
        refine wm_sld C X dL_law_707 (hin 1 (nI 1) rfl (by omega)) (pc' := 708) rfl ?_
        refine wm_aload_n C dL_law_708 1 rfl (pc' := 709) rfl ?_
        refine wm_iload_n C dL_law_709 0 rfl (pc' := 710) rfl ?_
        refine wm_ikonst (v := 2) C dL_law_710 (by decide) (pc' := 711) rfl ?_
        refine wm_iadd C dL_law_711 (pc' := 712) rfl ?_
        refine wm_sld C X dL_law_712 (hin 2 (nI 2) rfl (by omega)) (pc' := 713) rfl ?_
        refine wm_callVr (nn := 2) (As := [.int (xs (nI (6 * j) + 1).toNatClampNeg), .int (xs (nI (6 * j) + 2).toNatClampNeg)]) (rest := [.int r]) (st' := [.int r, .int r]) C dL_law_713 (kX12_through l D τ q2 σm (xs (nI (6 * j) + 1).toNatClampNeg) (xs (nI (6 * j) + 2).toNatClampNeg) r sm hm1) gL_law_X12_through rfl (by decide +kernel) ⟨Nat.le_of_ble_eq_true rfl, Nat.le_of_ble_eq_true rfl⟩ rfl rfl ⟨by show k ≤ 672204; omega, by show n ≤ 7085637; omega⟩ 0 rfl rfl rfl rfl (Nat.le_of_ble_eq_true rfl) rfl (pc' := 716) rfl ?_
        refine wm_icmp_eq C dL_law_716 1158 (by decide) (pc' := 719) rfl (fun _ => ?_) (fun h => absurd rfl h)
        exact hnext k n q nc sx sm (by omega) (by omega) rfl hR1
      · refine wm_tableIn (x := nI 17) (off := 688) C dL_law_33 (by decide) (by decide) (by decide) 721 (by decide) ?_
        refine wm_aload_n C dL_law_721 2 rfl (pc' := 722) rfl ?_
        obtain ⟨r, sx, sm, hx1, hm1, hR1⟩ := h_open j nc σx σm hj hR
        refine wm_callVf (nn := 0) (As := []) (rest := []) (st' := [.int r]) C dL_law_722 (kX11_open l D τ q nc σx r sx hx1) gL_law_X11_open rfl (by decide +kernel) ⟨Nat.le_of_ble_eq_true rfl, Nat.le_of_ble_eq_true rfl⟩ rfl rfl ⟨by show k ≤ 672204; omega, by show n ≤ 7085637; omega⟩ 0 (x_at (by omega) rfl) rfl rfl rfl (Nat.le_of_ble_eq_true rfl) rfl (pc' := 725) rfl ?_
        refine wm_aload_n C dL_law_725 3 rfl (pc' := 726) rfl ?_
        refine wm_callVr (nn := 0) (As := []) (rest := [.int r]) (st' := [.int r, .int r]) C dL_law_726 (kX12_open l D τ q2 σm r sm hm1) gL_law_X12_open rfl (by decide +kernel) ⟨Nat.le_of_ble_eq_true rfl, Nat.le_of_ble_eq_true rfl⟩ rfl rfl ⟨by show k ≤ 672204; omega, by show n ≤ 7085637; omega⟩ 0 rfl rfl rfl rfl (Nat.le_of_ble_eq_true rfl) rfl (pc' := 729) rfl ?_
        refine wm_icmp_eq C dL_law_729 1158 (by decide) (pc' := 732) rfl (fun _ => ?_) (fun h => absurd rfl h)
        exact hnext k n q nc sx sm (by omega) (by omega) rfl hR1
      · refine wm_tableIn (x := nI 18) (off := 701) C dL_law_33 (by decide) (by decide) (by decide) 734 (by decide) ?_
        refine wm_aload_n C dL_law_734 2 rfl (pc' := 735) rfl ?_
        refine wm_aload_n C dL_law_735 1 rfl (pc' := 736) rfl ?_
        refine wm_iload_n C dL_law_736 0 rfl (pc' := 737) rfl ?_
        refine wm_ikonst (v := 1) C dL_law_737 (by decide) (pc' := 738) rfl ?_
        refine wm_iadd C dL_law_738 (pc' := 739) rfl ?_
        refine wm_sld C X dL_law_739 (hin 1 (nI 1) rfl (by omega)) (pc' := 740) rfl ?_
        obtain ⟨r, sx, sm, hx1, hm1, hR1⟩ := h_eats (xs (nI (6 * j) + 1).toNatClampNeg) j nc σx σm hj hR
        refine wm_callVf (nn := 1) (As := [.int (xs (nI (6 * j) + 1).toNatClampNeg)]) (rest := []) (st' := [.long r]) C dL_law_740 (kX11_eats l D τ q nc σx (xs (nI (6 * j) + 1).toNatClampNeg) r sx hx1) gL_law_X11_eats rfl (by decide +kernel) ⟨Nat.le_of_ble_eq_true rfl, Nat.le_of_ble_eq_true rfl⟩ rfl rfl ⟨by show k ≤ 672204; omega, by show n ≤ 7085637; omega⟩ 0 (x_at (by omega) rfl) rfl rfl rfl (Nat.le_of_ble_eq_true rfl) rfl (pc' := 743) rfl ?_
        refine wm_aload_n C dL_law_743 3 rfl (pc' := 744) rfl ?_
        refine wm_aload_n C dL_law_744 1 rfl (pc' := 745) rfl ?_
        refine wm_iload_n C dL_law_745 0 rfl (pc' := 746) rfl ?_
        refine wm_ikonst (v := 1) C dL_law_746 (by decide) (pc' := 747) rfl ?_
        refine wm_iadd C dL_law_747 (pc' := 748) rfl ?_
        refine wm_sld C X dL_law_748 (hin 1 (nI 1) rfl (by omega)) (pc' := 749) rfl ?_
        refine wm_callVr (nn := 1) (As := [.int (xs (nI (6 * j) + 1).toNatClampNeg)]) (rest := [.long r]) (st' := [.long r, .long r]) C dL_law_749 (kX12_eats l D τ q2 σm (xs (nI (6 * j) + 1).toNatClampNeg) r sm hm1) gL_law_X12_eats rfl (by decide +kernel) ⟨Nat.le_of_ble_eq_true rfl, Nat.le_of_ble_eq_true rfl⟩ rfl rfl ⟨by show k ≤ 672204; omega, by show n ≤ 7085637; omega⟩ 0 rfl rfl rfl rfl (Nat.le_of_ble_eq_true rfl) rfl (pc' := 752) rfl ?_
        refine wm_lcmp C dL_law_752 (pc' := 753) rfl ?_
        refine wm_if_eq C dL_law_753 1158 (by decide) (pc' := 756) rfl (fun _ => ?_) (fun h => absurd (lg_cmp_self r) h)
        exact hnext k n q nc sx sm (by omega) (by omega) rfl hR1
      · refine wm_tableIn (x := nI 19) (off := 725) C dL_law_33 (by decide) (by decide) (by decide) 758 (by decide) ?_
        refine wm_aload_n C dL_law_758 2 rfl (pc' := 759) rfl ?_
        refine wm_aload_n C dL_law_759 1 rfl (pc' := 760) rfl ?_
        refine wm_iload_n C dL_law_760 0 rfl (pc' := 761) rfl ?_
        refine wm_ikonst (v := 1) C dL_law_761 (by decide) (pc' := 762) rfl ?_
        refine wm_iadd C dL_law_762 (pc' := 763) rfl ?_
        refine wm_sld C X dL_law_763 (hin 1 (nI 1) rfl (by omega)) (pc' := 764) rfl ?_
        obtain ⟨r, sx, sm, hx1, hm1, hR1⟩ := h_told (xs (nI (6 * j) + 1).toNatClampNeg) j nc σx σm hj hR
        refine wm_callVf (nn := 1) (As := [.int (xs (nI (6 * j) + 1).toNatClampNeg)]) (rest := []) (st' := [.int r]) C dL_law_764 (kX11_told l D τ q nc σx (xs (nI (6 * j) + 1).toNatClampNeg) r sx hx1) gL_law_X11_told rfl (by decide +kernel) ⟨Nat.le_of_ble_eq_true rfl, Nat.le_of_ble_eq_true rfl⟩ rfl rfl ⟨by show k ≤ 672204; omega, by show n ≤ 7085637; omega⟩ 0 (x_at (by omega) rfl) rfl rfl rfl (Nat.le_of_ble_eq_true rfl) rfl (pc' := 767) rfl ?_
        refine wm_aload_n C dL_law_767 3 rfl (pc' := 768) rfl ?_
        refine wm_aload_n C dL_law_768 1 rfl (pc' := 769) rfl ?_
        refine wm_iload_n C dL_law_769 0 rfl (pc' := 770) rfl ?_
        refine wm_ikonst (v := 1) C dL_law_770 (by decide) (pc' := 771) rfl ?_
        refine wm_iadd C dL_law_771 (pc' := 772) rfl ?_
        refine wm_sld C X dL_law_772 (hin 1 (nI 1) rfl (by omega)) (pc' := 773) rfl ?_
        refine wm_callVr (nn := 1) (As := [.int (xs (nI (6 * j) + 1).toNatClampNeg)]) (rest := [.int r]) (st' := [.int r, .int r]) C dL_law_773 (kX12_told l D τ q2 σm (xs (nI (6 * j) + 1).toNatClampNeg) r sm hm1) gL_law_X12_told rfl (by decide +kernel) ⟨Nat.le_of_ble_eq_true rfl, Nat.le_of_ble_eq_true rfl⟩ rfl rfl ⟨by show k ≤ 672204; omega, by show n ≤ 7085637; omega⟩ 0 rfl rfl rfl rfl (Nat.le_of_ble_eq_true rfl) rfl (pc' := 776) rfl ?_
        refine wm_icmp_eq C dL_law_776 1158 (by decide) (pc' := 779) rfl (fun _ => ?_) (fun h => absurd rfl h)
        exact hnext k n q nc sx sm (by omega) (by omega) rfl hR1
      · refine wm_tableIn (x := nI 20) (off := 748) C dL_law_33 (by decide) (by decide) (by decide) 781 (by decide) ?_
        refine wm_aload_n C dL_law_781 2 rfl (pc' := 782) rfl ?_
        obtain ⟨r, sx, sm, hx1, hm1, hR1⟩ := h_keep j nc σx σm hj hR
        refine wm_callVf (nn := 0) (As := []) (rest := []) (st' := [.int r]) C dL_law_782 (kX11_keep l D τ q nc σx r sx hx1) gL_law_X11_keep rfl (by decide +kernel) ⟨Nat.le_of_ble_eq_true rfl, Nat.le_of_ble_eq_true rfl⟩ rfl rfl ⟨by show k ≤ 672204; omega, by show n ≤ 7085637; omega⟩ 0 (x_at (by omega) rfl) rfl rfl rfl (Nat.le_of_ble_eq_true rfl) rfl (pc' := 785) rfl ?_
        refine wm_aload_n C dL_law_785 3 rfl (pc' := 786) rfl ?_
        refine wm_callVr (nn := 0) (As := []) (rest := [.int r]) (st' := [.int r, .int r]) C dL_law_786 (kX12_keep l D τ q2 σm r sm hm1) gL_law_X12_keep rfl (by decide +kernel) ⟨Nat.le_of_ble_eq_true rfl, Nat.le_of_ble_eq_true rfl⟩ rfl rfl ⟨by show k ≤ 672204; omega, by show n ≤ 7085637; omega⟩ 0 rfl rfl rfl rfl (Nat.le_of_ble_eq_true rfl) rfl (pc' := 789) rfl ?_
        refine wm_icmp_eq C dL_law_789 1158 (by decide) (pc' := 792) rfl (fun _ => ?_) (fun h => absurd rfl h)
        exact hnext k n q nc sx sm (by omega) (by omega) rfl hR1
      · refine wm_tableIn (x := nI 21) (off := 761) C dL_law_33 (by decide) (by decide) (by decide) 794 (by decide) ?_
        refine wm_aload_n C dL_law_794 2 rfl (pc' := 795) rfl ?_
        obtain ⟨r, sx, sm, hx1, hm1, hR1⟩ := h_back j nc σx σm hj hR
        refine wm_callVf (nn := 0) (As := []) (rest := []) (st' := [.int r]) C dL_law_795 (kX11_back l D τ q nc σx r sx hx1) gL_law_X11_back rfl (by decide +kernel) ⟨Nat.le_of_ble_eq_true rfl, Nat.le_of_ble_eq_true rfl⟩ rfl rfl ⟨by show k ≤ 672204; omega, by show n ≤ 7085637; omega⟩ 0 (x_at (by omega) rfl) rfl rfl rfl (Nat.le_of_ble_eq_true rfl) rfl (pc' := 798) rfl ?_
        refine wm_aload_n C dL_law_798 3 rfl (pc' := 799) rfl ?_
        refine wm_callVr (nn := 0) (As := []) (rest := [.int r]) (st' := [.int r, .int r]) C dL_law_799 (kX12_back l D τ q2 σm r sm hm1) gL_law_X12_back rfl (by decide +kernel) ⟨Nat.le_of_ble_eq_true rfl, Nat.le_of_ble_eq_true rfl⟩ rfl rfl ⟨by show k ≤ 672204; omega, by show n ≤ 7085637; omega⟩ 0 rfl rfl rfl rfl (Nat.le_of_ble_eq_true rfl) rfl (pc' := 802) rfl ?_
        refine wm_icmp_eq C dL_law_802 1158 (by decide) (pc' := 805) rfl (fun _ => ?_) (fun h => absurd rfl h)
        exact hnext k n q nc sx sm (by omega) (by omega) rfl hR1
      · refine wm_tableIn (x := nI 22) (off := 774) C dL_law_33 (by decide) (by decide) (by decide) 807 (by decide) ?_
        refine wm_aload_n C dL_law_807 2 rfl (pc' := 808) rfl ?_
        refine wm_aload_n C dL_law_808 1 rfl (pc' := 809) rfl ?_
        refine wm_iload_n C dL_law_809 0 rfl (pc' := 810) rfl ?_
        refine wm_ikonst (v := 1) C dL_law_810 (by decide) (pc' := 811) rfl ?_
        refine wm_iadd C dL_law_811 (pc' := 812) rfl ?_
        refine wm_sld C X dL_law_812 (hin 1 (nI 1) rfl (by omega)) (pc' := 813) rfl ?_
        refine wm_aload_n C dL_law_813 1 rfl (pc' := 814) rfl ?_
        refine wm_iload_n C dL_law_814 0 rfl (pc' := 815) rfl ?_
        refine wm_ikonst (v := 2) C dL_law_815 (by decide) (pc' := 816) rfl ?_
        refine wm_iadd C dL_law_816 (pc' := 817) rfl ?_
        refine wm_sld C X dL_law_817 (hin 2 (nI 2) rfl (by omega)) (pc' := 818) rfl ?_
        refine wm_aload_n C dL_law_818 1 rfl (pc' := 819) rfl ?_
        refine wm_iload_n C dL_law_819 0 rfl (pc' := 820) rfl ?_
        refine wm_ikonst (v := 3) C dL_law_820 (by decide) (pc' := 821) rfl ?_
        refine wm_iadd C dL_law_821 (pc' := 822) rfl ?_
        refine wm_sld C X dL_law_822 (hin 3 (nI 3) rfl (by omega)) (pc' := 823) rfl ?_
        obtain ⟨r, sx, sm, hx1, hm1, hR1⟩ := h_core (xs (nI (6 * j) + 1).toNatClampNeg) (xs (nI (6 * j) + 2).toNatClampNeg) (xs (nI (6 * j) + 3).toNatClampNeg) j nc σx σm hj hR
        refine wm_callVf (nn := 3) (As := [.int (xs (nI (6 * j) + 1).toNatClampNeg), .int (xs (nI (6 * j) + 2).toNatClampNeg), .int (xs (nI (6 * j) + 3).toNatClampNeg)]) (rest := []) (st' := [.int r]) C dL_law_823 (kX11_core l D τ q nc σx (xs (nI (6 * j) + 1).toNatClampNeg) (xs (nI (6 * j) + 2).toNatClampNeg) (xs (nI (6 * j) + 3).toNatClampNeg) r sx hx1) gL_law_X11_core rfl (by decide +kernel) ⟨Nat.le_of_ble_eq_true rfl, Nat.le_of_ble_eq_true rfl⟩ rfl rfl ⟨by show k ≤ 672204; omega, by show n ≤ 7085637; omega⟩ 0 (x_at (by omega) rfl) rfl rfl rfl (Nat.le_of_ble_eq_true rfl) rfl (pc' := 826) rfl ?_
        refine wm_aload_n C dL_law_826 3 rfl (pc' := 827) rfl ?_
        refine wm_aload_n C dL_law_827 1 rfl (pc' := 828) rfl ?_
        refine wm_iload_n C dL_law_828 0 rfl (pc' := 829) rfl ?_
        refine wm_ikonst (v := 1) C dL_law_829 (by decide) (pc' := 830) rfl ?_
        refine wm_iadd C dL_law_830 (pc' := 831) rfl ?_
        refine wm_sld C X dL_law_831 (hin 1 (nI 1) rfl (by omega)) (pc' := 832) rfl ?_
        refine wm_aload_n C dL_law_832 1 rfl (pc' := 833) rfl ?_
        refine wm_iload_n C dL_law_833 0 rfl (pc' := 834) rfl ?_
        refine wm_ikonst (v := 2) C dL_law_834 (by decide) (pc' := 835) rfl ?_
        refine wm_iadd C dL_law_835 (pc' := 836) rfl ?_
        refine wm_sld C X dL_law_836 (hin 2 (nI 2) rfl (by omega)) (pc' := 837) rfl ?_
        refine wm_aload_n C dL_law_837 1 rfl (pc' := 838) rfl ?_
        refine wm_iload_n C dL_law_838 0 rfl (pc' := 839) rfl ?_
        refine wm_ikonst (v := 3) C dL_law_839 (by decide) (pc' := 840) rfl ?_
        refine wm_iadd C dL_law_840 (pc' := 841) rfl ?_
        refine wm_sld C X dL_law_841 (hin 3 (nI 3) rfl (by omega)) (pc' := 842) rfl ?_
        refine wm_callVr (nn := 3) (As := [.int (xs (nI (6 * j) + 1).toNatClampNeg), .int (xs (nI (6 * j) + 2).toNatClampNeg), .int (xs (nI (6 * j) + 3).toNatClampNeg)]) (rest := [.int r]) (st' := [.int r, .int r]) C dL_law_842 (kX12_core l D τ q2 σm (xs (nI (6 * j) + 1).toNatClampNeg) (xs (nI (6 * j) + 2).toNatClampNeg) (xs (nI (6 * j) + 3).toNatClampNeg) r sm hm1) gL_law_X12_core rfl (by decide +kernel) ⟨Nat.le_of_ble_eq_true rfl, Nat.le_of_ble_eq_true rfl⟩ rfl rfl ⟨by show k ≤ 672204; omega, by show n ≤ 7085637; omega⟩ 0 rfl rfl rfl rfl (Nat.le_of_ble_eq_true rfl) rfl (pc' := 845) rfl ?_
        refine wm_icmp_eq C dL_law_845 1158 (by decide) (pc' := 848) rfl (fun _ => ?_) (fun h => absurd rfl h)
        exact hnext k n q nc sx sm (by omega) (by omega) rfl hR1
      · refine wm_tableIn (x := nI 23) (off := 817) C dL_law_33 (by decide) (by decide) (by decide) 850 (by decide) ?_
        refine wm_aload_n C dL_law_850 2 rfl (pc' := 851) rfl ?_
        refine wm_aload_n C dL_law_851 1 rfl (pc' := 852) rfl ?_
        refine wm_iload_n C dL_law_852 0 rfl (pc' := 853) rfl ?_
        refine wm_ikonst (v := 1) C dL_law_853 (by decide) (pc' := 854) rfl ?_
        refine wm_iadd C dL_law_854 (pc' := 855) rfl ?_
        refine wm_sld C X dL_law_855 (hin 1 (nI 1) rfl (by omega)) (pc' := 856) rfl ?_
        obtain ⟨r, sx, sm, hx1, hm1, hR1⟩ := h_lose (xs (nI (6 * j) + 1).toNatClampNeg) j nc σx σm hj hR
        refine wm_callVf (nn := 1) (As := [.int (xs (nI (6 * j) + 1).toNatClampNeg)]) (rest := []) (st' := [.int r]) C dL_law_856 (kX11_lose l D τ q nc σx (xs (nI (6 * j) + 1).toNatClampNeg) r sx hx1) gL_law_X11_lose rfl (by decide +kernel) ⟨Nat.le_of_ble_eq_true rfl, Nat.le_of_ble_eq_true rfl⟩ rfl rfl ⟨by show k ≤ 672204; omega, by show n ≤ 7085637; omega⟩ 0 (x_at (by omega) rfl) rfl rfl rfl (Nat.le_of_ble_eq_true rfl) rfl (pc' := 859) rfl ?_
        refine wm_aload_n C dL_law_859 3 rfl (pc' := 860) rfl ?_
        refine wm_aload_n C dL_law_860 1 rfl (pc' := 861) rfl ?_
        refine wm_iload_n C dL_law_861 0 rfl (pc' := 862) rfl ?_
        refine wm_ikonst (v := 1) C dL_law_862 (by decide) (pc' := 863) rfl ?_
        refine wm_iadd C dL_law_863 (pc' := 864) rfl ?_
        refine wm_sld C X dL_law_864 (hin 1 (nI 1) rfl (by omega)) (pc' := 865) rfl ?_
        refine wm_callVr (nn := 1) (As := [.int (xs (nI (6 * j) + 1).toNatClampNeg)]) (rest := [.int r]) (st' := [.int r, .int r]) C dL_law_865 (kX12_lose l D τ q2 σm (xs (nI (6 * j) + 1).toNatClampNeg) r sm hm1) gL_law_X12_lose rfl (by decide +kernel) ⟨Nat.le_of_ble_eq_true rfl, Nat.le_of_ble_eq_true rfl⟩ rfl rfl ⟨by show k ≤ 672204; omega, by show n ≤ 7085637; omega⟩ 0 rfl rfl rfl rfl (Nat.le_of_ble_eq_true rfl) rfl (pc' := 868) rfl ?_
        refine wm_icmp_eq C dL_law_868 1158 (by decide) (pc' := 871) rfl (fun _ => ?_) (fun h => absurd rfl h)
        exact hnext k n q nc sx sm (by omega) (by omega) rfl hR1
      · refine wm_tableIn (x := nI 24) (off := 840) C dL_law_33 (by decide) (by decide) (by decide) 873 (by decide) ?_
        refine wm_aload_n C dL_law_873 2 rfl (pc' := 874) rfl ?_
        refine wm_aload_n C dL_law_874 1 rfl (pc' := 875) rfl ?_
        refine wm_iload_n C dL_law_875 0 rfl (pc' := 876) rfl ?_
        refine wm_ikonst (v := 1) C dL_law_876 (by decide) (pc' := 877) rfl ?_
        refine wm_iadd C dL_law_877 (pc' := 878) rfl ?_
        refine wm_sld C X dL_law_878 (hin 1 (nI 1) rfl (by omega)) (pc' := 879) rfl ?_
        refine wm_aload_n C dL_law_879 1 rfl (pc' := 880) rfl ?_
        refine wm_iload_n C dL_law_880 0 rfl (pc' := 881) rfl ?_
        refine wm_ikonst (v := 2) C dL_law_881 (by decide) (pc' := 882) rfl ?_
        refine wm_iadd C dL_law_882 (pc' := 883) rfl ?_
        refine wm_sld C X dL_law_883 (hin 2 (nI 2) rfl (by omega)) (pc' := 884) rfl ?_
        refine wm_aload_n C dL_law_884 1 rfl (pc' := 885) rfl ?_
        refine wm_iload_n C dL_law_885 0 rfl (pc' := 886) rfl ?_
        refine wm_ikonst (v := 3) C dL_law_886 (by decide) (pc' := 887) rfl ?_
        refine wm_iadd C dL_law_887 (pc' := 888) rfl ?_
        refine wm_sld C X dL_law_888 (hin 3 (nI 3) rfl (by omega)) (pc' := 889) rfl ?_
        refine wm_i2l C dL_law_889 (pc' := 890) rfl ?_
        refine wm_bipush (v := 32) C dL_law_890 (by decide) (pc' := 892) rfl ?_
        refine wm_lshl C dL_law_892 (pc' := 893) rfl ?_
        refine wm_aload_n C dL_law_893 1 rfl (pc' := 894) rfl ?_
        refine wm_iload_n C dL_law_894 0 rfl (pc' := 895) rfl ?_
        refine wm_ikonst (v := 4) C dL_law_895 (by decide) (pc' := 896) rfl ?_
        refine wm_iadd C dL_law_896 (pc' := 897) rfl ?_
        refine wm_sld C X dL_law_897 (hin 4 (nI 4) rfl (by omega)) (pc' := 898) rfl ?_
        refine wm_i2l C dL_law_898 (pc' := 899) rfl ?_
        refine wm_ldc2 (v := (4294967295)) C dL_law_899 (by decide +kernel) (pc' := 902) rfl ?_
        refine wm_land C dL_law_902 (pc' := 903) rfl ?_
        refine wm_lor C dL_law_903 (pc' := 904) rfl ?_
        obtain ⟨r, sx, sm, hx1, hm1, hR1⟩ := h_put (xs (nI (6 * j) + 1).toNatClampNeg) (xs (nI (6 * j) + 2).toNatClampNeg) (((xs (nI (6 * j) + 3).toNatClampNeg).toInt64 <<< ((32 : Int32).toInt64 &&& 63)) ||| ((xs (nI (6 * j) + 4).toNatClampNeg).toInt64 &&& (4294967295))) j nc σx σm hj hR
        refine wm_callVf (nn := 3) (As := [.int (xs (nI (6 * j) + 1).toNatClampNeg), .int (xs (nI (6 * j) + 2).toNatClampNeg), .long (((xs (nI (6 * j) + 3).toNatClampNeg).toInt64 <<< ((32 : Int32).toInt64 &&& 63)) ||| ((xs (nI (6 * j) + 4).toNatClampNeg).toInt64 &&& (4294967295)))]) (rest := []) (st' := [.int r]) C dL_law_904 (kX11_put l D τ q nc σx (xs (nI (6 * j) + 1).toNatClampNeg) (xs (nI (6 * j) + 2).toNatClampNeg) (((xs (nI (6 * j) + 3).toNatClampNeg).toInt64 <<< ((32 : Int32).toInt64 &&& 63)) ||| ((xs (nI (6 * j) + 4).toNatClampNeg).toInt64 &&& (4294967295))) r sx hx1) gL_law_X11_put rfl (by decide +kernel) ⟨Nat.le_of_ble_eq_true rfl, Nat.le_of_ble_eq_true rfl⟩ rfl rfl ⟨by show k ≤ 672204; omega, by show n ≤ 7085637; omega⟩ 0 (x_at (by omega) rfl) rfl rfl rfl (Nat.le_of_ble_eq_true rfl) rfl (pc' := 907) rfl ?_
        refine wm_aload_n C dL_law_907 3 rfl (pc' := 908) rfl ?_
        refine wm_aload_n C dL_law_908 1 rfl (pc' := 909) rfl ?_
        refine wm_iload_n C dL_law_909 0 rfl (pc' := 910) rfl ?_
        refine wm_ikonst (v := 1) C dL_law_910 (by decide) (pc' := 911) rfl ?_
        refine wm_iadd C dL_law_911 (pc' := 912) rfl ?_
        refine wm_sld C X dL_law_912 (hin 1 (nI 1) rfl (by omega)) (pc' := 913) rfl ?_
        refine wm_aload_n C dL_law_913 1 rfl (pc' := 914) rfl ?_
        refine wm_iload_n C dL_law_914 0 rfl (pc' := 915) rfl ?_
        refine wm_ikonst (v := 2) C dL_law_915 (by decide) (pc' := 916) rfl ?_
        refine wm_iadd C dL_law_916 (pc' := 917) rfl ?_
        refine wm_sld C X dL_law_917 (hin 2 (nI 2) rfl (by omega)) (pc' := 918) rfl ?_
        refine wm_aload_n C dL_law_918 1 rfl (pc' := 919) rfl ?_
        refine wm_iload_n C dL_law_919 0 rfl (pc' := 920) rfl ?_
        refine wm_ikonst (v := 3) C dL_law_920 (by decide) (pc' := 921) rfl ?_
        refine wm_iadd C dL_law_921 (pc' := 922) rfl ?_
        refine wm_sld C X dL_law_922 (hin 3 (nI 3) rfl (by omega)) (pc' := 923) rfl ?_
        refine wm_i2l C dL_law_923 (pc' := 924) rfl ?_
        refine wm_bipush (v := 32) C dL_law_924 (by decide) (pc' := 926) rfl ?_
        refine wm_lshl C dL_law_926 (pc' := 927) rfl ?_
        refine wm_aload_n C dL_law_927 1 rfl (pc' := 928) rfl ?_
        refine wm_iload_n C dL_law_928 0 rfl (pc' := 929) rfl ?_
        refine wm_ikonst (v := 4) C dL_law_929 (by decide) (pc' := 930) rfl ?_
        refine wm_iadd C dL_law_930 (pc' := 931) rfl ?_
        refine wm_sld C X dL_law_931 (hin 4 (nI 4) rfl (by omega)) (pc' := 932) rfl ?_
        refine wm_i2l C dL_law_932 (pc' := 933) rfl ?_
        refine wm_ldc2 (v := (4294967295)) C dL_law_933 (by decide +kernel) (pc' := 936) rfl ?_
        refine wm_land C dL_law_936 (pc' := 937) rfl ?_
        refine wm_lor C dL_law_937 (pc' := 938) rfl ?_
        refine wm_callVr (nn := 3) (As := [.int (xs (nI (6 * j) + 1).toNatClampNeg), .int (xs (nI (6 * j) + 2).toNatClampNeg), .long (((xs (nI (6 * j) + 3).toNatClampNeg).toInt64 <<< ((32 : Int32).toInt64 &&& 63)) ||| ((xs (nI (6 * j) + 4).toNatClampNeg).toInt64 &&& (4294967295)))]) (rest := [.int r]) (st' := [.int r, .int r]) C dL_law_938 (kX12_put l D τ q2 σm (xs (nI (6 * j) + 1).toNatClampNeg) (xs (nI (6 * j) + 2).toNatClampNeg) (((xs (nI (6 * j) + 3).toNatClampNeg).toInt64 <<< ((32 : Int32).toInt64 &&& 63)) ||| ((xs (nI (6 * j) + 4).toNatClampNeg).toInt64 &&& (4294967295))) r sm hm1) gL_law_X12_put rfl (by decide +kernel) ⟨Nat.le_of_ble_eq_true rfl, Nat.le_of_ble_eq_true rfl⟩ rfl rfl ⟨by show k ≤ 672204; omega, by show n ≤ 7085637; omega⟩ 0 rfl rfl rfl rfl (Nat.le_of_ble_eq_true rfl) rfl (pc' := 941) rfl ?_
        refine wm_icmp_eq C dL_law_941 1158 (by decide) (pc' := 944) rfl (fun _ => ?_) (fun h => absurd rfl h)
        exact hnext k n q nc sx sm (by omega) (by omega) rfl hR1
      · refine wm_tableIn (x := nI 25) (off := 913) C dL_law_33 (by decide) (by decide) (by decide) 946 (by decide) ?_
        refine wm_aload_n C dL_law_946 2 rfl (pc' := 947) rfl ?_
        refine wm_aload_n C dL_law_947 1 rfl (pc' := 948) rfl ?_
        refine wm_iload_n C dL_law_948 0 rfl (pc' := 949) rfl ?_
        refine wm_ikonst (v := 1) C dL_law_949 (by decide) (pc' := 950) rfl ?_
        refine wm_iadd C dL_law_950 (pc' := 951) rfl ?_
        refine wm_sld C X dL_law_951 (hin 1 (nI 1) rfl (by omega)) (pc' := 952) rfl ?_
        refine wm_aload_n C dL_law_952 1 rfl (pc' := 953) rfl ?_
        refine wm_iload_n C dL_law_953 0 rfl (pc' := 954) rfl ?_
        refine wm_ikonst (v := 2) C dL_law_954 (by decide) (pc' := 955) rfl ?_
        refine wm_iadd C dL_law_955 (pc' := 956) rfl ?_
        refine wm_sld C X dL_law_956 (hin 2 (nI 2) rfl (by omega)) (pc' := 957) rfl ?_
        refine wm_aload_n C dL_law_957 1 rfl (pc' := 958) rfl ?_
        refine wm_iload_n C dL_law_958 0 rfl (pc' := 959) rfl ?_
        refine wm_ikonst (v := 3) C dL_law_959 (by decide) (pc' := 960) rfl ?_
        refine wm_iadd C dL_law_960 (pc' := 961) rfl ?_
        refine wm_sld C X dL_law_961 (hin 3 (nI 3) rfl (by omega)) (pc' := 962) rfl ?_
        obtain ⟨r, sx, sm, hx1, hm1, hR1⟩ := h_cell (xs (nI (6 * j) + 1).toNatClampNeg) (xs (nI (6 * j) + 2).toNatClampNeg) (xs (nI (6 * j) + 3).toNatClampNeg) j nc σx σm hj hR
        refine wm_callVf (nn := 3) (As := [.int (xs (nI (6 * j) + 1).toNatClampNeg), .int (xs (nI (6 * j) + 2).toNatClampNeg), .int (xs (nI (6 * j) + 3).toNatClampNeg)]) (rest := []) (st' := [.long r]) C dL_law_962 (kX11_cell l D τ q nc σx (xs (nI (6 * j) + 1).toNatClampNeg) (xs (nI (6 * j) + 2).toNatClampNeg) (xs (nI (6 * j) + 3).toNatClampNeg) r sx hx1) gL_law_X11_cell rfl (by decide +kernel) ⟨Nat.le_of_ble_eq_true rfl, Nat.le_of_ble_eq_true rfl⟩ rfl rfl ⟨by show k ≤ 672204; omega, by show n ≤ 7085637; omega⟩ 0 (x_at (by omega) rfl) rfl rfl rfl (Nat.le_of_ble_eq_true rfl) rfl (pc' := 965) rfl ?_
        refine wm_aload_n C dL_law_965 3 rfl (pc' := 966) rfl ?_
        refine wm_aload_n C dL_law_966 1 rfl (pc' := 967) rfl ?_
        refine wm_iload_n C dL_law_967 0 rfl (pc' := 968) rfl ?_
        refine wm_ikonst (v := 1) C dL_law_968 (by decide) (pc' := 969) rfl ?_
        refine wm_iadd C dL_law_969 (pc' := 970) rfl ?_
        refine wm_sld C X dL_law_970 (hin 1 (nI 1) rfl (by omega)) (pc' := 971) rfl ?_
        refine wm_aload_n C dL_law_971 1 rfl (pc' := 972) rfl ?_
        refine wm_iload_n C dL_law_972 0 rfl (pc' := 973) rfl ?_
        refine wm_ikonst (v := 2) C dL_law_973 (by decide) (pc' := 974) rfl ?_
        refine wm_iadd C dL_law_974 (pc' := 975) rfl ?_
        refine wm_sld C X dL_law_975 (hin 2 (nI 2) rfl (by omega)) (pc' := 976) rfl ?_
        refine wm_aload_n C dL_law_976 1 rfl (pc' := 977) rfl ?_
        refine wm_iload_n C dL_law_977 0 rfl (pc' := 978) rfl ?_
        refine wm_ikonst (v := 3) C dL_law_978 (by decide) (pc' := 979) rfl ?_
        refine wm_iadd C dL_law_979 (pc' := 980) rfl ?_
        refine wm_sld C X dL_law_980 (hin 3 (nI 3) rfl (by omega)) (pc' := 981) rfl ?_
        refine wm_callVr (nn := 3) (As := [.int (xs (nI (6 * j) + 1).toNatClampNeg), .int (xs (nI (6 * j) + 2).toNatClampNeg), .int (xs (nI (6 * j) + 3).toNatClampNeg)]) (rest := [.long r]) (st' := [.long r, .long r]) C dL_law_981 (kX12_cell l D τ q2 σm (xs (nI (6 * j) + 1).toNatClampNeg) (xs (nI (6 * j) + 2).toNatClampNeg) (xs (nI (6 * j) + 3).toNatClampNeg) r sm hm1) gL_law_X12_cell rfl (by decide +kernel) ⟨Nat.le_of_ble_eq_true rfl, Nat.le_of_ble_eq_true rfl⟩ rfl rfl ⟨by show k ≤ 672204; omega, by show n ≤ 7085637; omega⟩ 0 rfl rfl rfl rfl (Nat.le_of_ble_eq_true rfl) rfl (pc' := 984) rfl ?_
        refine wm_lcmp C dL_law_984 (pc' := 985) rfl ?_
        refine wm_if_eq C dL_law_985 1158 (by decide) (pc' := 988) rfl (fun _ => ?_) (fun h => absurd (lg_cmp_self r) h)
        exact hnext k n q nc sx sm (by omega) (by omega) rfl hR1
      · refine wm_tableIn (x := nI 26) (off := 957) C dL_law_33 (by decide) (by decide) (by decide) 990 (by decide) ?_
        refine wm_aload_n C dL_law_990 2 rfl (pc' := 991) rfl ?_
        refine wm_aload_n C dL_law_991 1 rfl (pc' := 992) rfl ?_
        refine wm_iload_n C dL_law_992 0 rfl (pc' := 993) rfl ?_
        refine wm_ikonst (v := 1) C dL_law_993 (by decide) (pc' := 994) rfl ?_
        refine wm_iadd C dL_law_994 (pc' := 995) rfl ?_
        refine wm_sld C X dL_law_995 (hin 1 (nI 1) rfl (by omega)) (pc' := 996) rfl ?_
        refine wm_aload_n C dL_law_996 1 rfl (pc' := 997) rfl ?_
        refine wm_iload_n C dL_law_997 0 rfl (pc' := 998) rfl ?_
        refine wm_ikonst (v := 2) C dL_law_998 (by decide) (pc' := 999) rfl ?_
        refine wm_iadd C dL_law_999 (pc' := 1000) rfl ?_
        refine wm_sld C X dL_law_1000 (hin 2 (nI 2) rfl (by omega)) (pc' := 1001) rfl ?_
        refine wm_aload_n C dL_law_1001 1 rfl (pc' := 1002) rfl ?_
        refine wm_iload_n C dL_law_1002 0 rfl (pc' := 1003) rfl ?_
        refine wm_ikonst (v := 3) C dL_law_1003 (by decide) (pc' := 1004) rfl ?_
        refine wm_iadd C dL_law_1004 (pc' := 1005) rfl ?_
        refine wm_sld C X dL_law_1005 (hin 3 (nI 3) rfl (by omega)) (pc' := 1006) rfl ?_
        refine wm_aload_n C dL_law_1006 1 rfl (pc' := 1007) rfl ?_
        refine wm_iload_n C dL_law_1007 0 rfl (pc' := 1008) rfl ?_
        refine wm_ikonst (v := 4) C dL_law_1008 (by decide) (pc' := 1009) rfl ?_
        refine wm_iadd C dL_law_1009 (pc' := 1010) rfl ?_
        refine wm_sld C X dL_law_1010 (hin 4 (nI 4) rfl (by omega)) (pc' := 1011) rfl ?_
        refine wm_aload_n C dL_law_1011 1 rfl (pc' := 1012) rfl ?_
        refine wm_iload_n C dL_law_1012 0 rfl (pc' := 1013) rfl ?_
        refine wm_ikonst (v := 5) C dL_law_1013 (by decide) (pc' := 1014) rfl ?_
        refine wm_iadd C dL_law_1014 (pc' := 1015) rfl ?_
        refine wm_sld C X dL_law_1015 (hin 5 (nI 5) rfl (by omega)) (pc' := 1016) rfl ?_
        obtain ⟨r, sx, sm, hx1, hm1, hR1⟩ := h_copy (xs (nI (6 * j) + 1).toNatClampNeg) (xs (nI (6 * j) + 2).toNatClampNeg) (xs (nI (6 * j) + 3).toNatClampNeg) (xs (nI (6 * j) + 4).toNatClampNeg) (xs (nI (6 * j) + 5).toNatClampNeg) j nc σx σm hj hR
        refine wm_callVf (nn := 5) (As := [.int (xs (nI (6 * j) + 1).toNatClampNeg), .int (xs (nI (6 * j) + 2).toNatClampNeg), .int (xs (nI (6 * j) + 3).toNatClampNeg), .int (xs (nI (6 * j) + 4).toNatClampNeg), .int (xs (nI (6 * j) + 5).toNatClampNeg)]) (rest := []) (st' := [.int r]) C dL_law_1016 (kX11_copy l D τ q nc σx (xs (nI (6 * j) + 1).toNatClampNeg) (xs (nI (6 * j) + 2).toNatClampNeg) (xs (nI (6 * j) + 3).toNatClampNeg) (xs (nI (6 * j) + 4).toNatClampNeg) (xs (nI (6 * j) + 5).toNatClampNeg) r sx hx1) gL_law_X11_copy rfl (by decide +kernel) ⟨Nat.le_of_ble_eq_true rfl, Nat.le_of_ble_eq_true rfl⟩ rfl rfl ⟨by show k ≤ 672204; omega, by show n ≤ 7085637; omega⟩ 0 (x_at (by omega) rfl) rfl rfl rfl (Nat.le_of_ble_eq_true rfl) rfl (pc' := 1019) rfl ?_
        refine wm_aload_n C dL_law_1019 3 rfl (pc' := 1020) rfl ?_
        refine wm_aload_n C dL_law_1020 1 rfl (pc' := 1021) rfl ?_
        refine wm_iload_n C dL_law_1021 0 rfl (pc' := 1022) rfl ?_
        refine wm_ikonst (v := 1) C dL_law_1022 (by decide) (pc' := 1023) rfl ?_
        refine wm_iadd C dL_law_1023 (pc' := 1024) rfl ?_
        refine wm_sld C X dL_law_1024 (hin 1 (nI 1) rfl (by omega)) (pc' := 1025) rfl ?_
        refine wm_aload_n C dL_law_1025 1 rfl (pc' := 1026) rfl ?_
        refine wm_iload_n C dL_law_1026 0 rfl (pc' := 1027) rfl ?_
        refine wm_ikonst (v := 2) C dL_law_1027 (by decide) (pc' := 1028) rfl ?_
        refine wm_iadd C dL_law_1028 (pc' := 1029) rfl ?_
        refine wm_sld C X dL_law_1029 (hin 2 (nI 2) rfl (by omega)) (pc' := 1030) rfl ?_
        refine wm_aload_n C dL_law_1030 1 rfl (pc' := 1031) rfl ?_
        refine wm_iload_n C dL_law_1031 0 rfl (pc' := 1032) rfl ?_
        refine wm_ikonst (v := 3) C dL_law_1032 (by decide) (pc' := 1033) rfl ?_
        refine wm_iadd C dL_law_1033 (pc' := 1034) rfl ?_
        refine wm_sld C X dL_law_1034 (hin 3 (nI 3) rfl (by omega)) (pc' := 1035) rfl ?_
        refine wm_aload_n C dL_law_1035 1 rfl (pc' := 1036) rfl ?_
        refine wm_iload_n C dL_law_1036 0 rfl (pc' := 1037) rfl ?_
        refine wm_ikonst (v := 4) C dL_law_1037 (by decide) (pc' := 1038) rfl ?_
        refine wm_iadd C dL_law_1038 (pc' := 1039) rfl ?_
        refine wm_sld C X dL_law_1039 (hin 4 (nI 4) rfl (by omega)) (pc' := 1040) rfl ?_
        refine wm_aload_n C dL_law_1040 1 rfl (pc' := 1041) rfl ?_
        refine wm_iload_n C dL_law_1041 0 rfl (pc' := 1042) rfl ?_
        refine wm_ikonst (v := 5) C dL_law_1042 (by decide) (pc' := 1043) rfl ?_
        refine wm_iadd C dL_law_1043 (pc' := 1044) rfl ?_
        refine wm_sld C X dL_law_1044 (hin 5 (nI 5) rfl (by omega)) (pc' := 1045) rfl ?_
        refine wm_callVr (nn := 5) (As := [.int (xs (nI (6 * j) + 1).toNatClampNeg), .int (xs (nI (6 * j) + 2).toNatClampNeg), .int (xs (nI (6 * j) + 3).toNatClampNeg), .int (xs (nI (6 * j) + 4).toNatClampNeg), .int (xs (nI (6 * j) + 5).toNatClampNeg)]) (rest := [.int r]) (st' := [.int r, .int r]) C dL_law_1045 (kX12_copy l D τ q2 σm (xs (nI (6 * j) + 1).toNatClampNeg) (xs (nI (6 * j) + 2).toNatClampNeg) (xs (nI (6 * j) + 3).toNatClampNeg) (xs (nI (6 * j) + 4).toNatClampNeg) (xs (nI (6 * j) + 5).toNatClampNeg) r sm hm1) gL_law_X12_copy rfl (by decide +kernel) ⟨Nat.le_of_ble_eq_true rfl, Nat.le_of_ble_eq_true rfl⟩ rfl rfl ⟨by show k ≤ 672204; omega, by show n ≤ 7085637; omega⟩ 0 rfl rfl rfl rfl (Nat.le_of_ble_eq_true rfl) rfl (pc' := 1048) rfl ?_
        refine wm_icmp_eq C dL_law_1048 1158 (by decide) (pc' := 1051) rfl (fun _ => ?_) (fun h => absurd rfl h)
        exact hnext k n q nc sx sm (by omega) (by omega) rfl hR1
      · refine wm_tableIn (x := nI 27) (off := 1020) C dL_law_33 (by decide) (by decide) (by decide) 1053 (by decide) ?_
        refine wm_aload_n C dL_law_1053 2 rfl (pc' := 1054) rfl ?_
        refine wm_aload_n C dL_law_1054 1 rfl (pc' := 1055) rfl ?_
        refine wm_iload_n C dL_law_1055 0 rfl (pc' := 1056) rfl ?_
        refine wm_ikonst (v := 1) C dL_law_1056 (by decide) (pc' := 1057) rfl ?_
        refine wm_iadd C dL_law_1057 (pc' := 1058) rfl ?_
        refine wm_sld C X dL_law_1058 (hin 1 (nI 1) rfl (by omega)) (pc' := 1059) rfl ?_
        obtain ⟨r, sx, sm, hx1, hm1, hR1⟩ := h_tell (xs (nI (6 * j) + 1).toNatClampNeg) j nc σx σm hj hR
        refine wm_callVf (nn := 1) (As := [.int (xs (nI (6 * j) + 1).toNatClampNeg)]) (rest := []) (st' := [.int r]) C dL_law_1059 (kX11_tell l D τ q nc σx (xs (nI (6 * j) + 1).toNatClampNeg) r sx hx1) gL_law_X11_tell rfl (by decide +kernel) ⟨Nat.le_of_ble_eq_true rfl, Nat.le_of_ble_eq_true rfl⟩ rfl rfl ⟨by show k ≤ 672204; omega, by show n ≤ 7085637; omega⟩ 0 (x_at (by omega) rfl) rfl rfl rfl (Nat.le_of_ble_eq_true rfl) rfl (pc' := 1062) rfl ?_
        refine wm_aload_n C dL_law_1062 3 rfl (pc' := 1063) rfl ?_
        refine wm_aload_n C dL_law_1063 1 rfl (pc' := 1064) rfl ?_
        refine wm_iload_n C dL_law_1064 0 rfl (pc' := 1065) rfl ?_
        refine wm_ikonst (v := 1) C dL_law_1065 (by decide) (pc' := 1066) rfl ?_
        refine wm_iadd C dL_law_1066 (pc' := 1067) rfl ?_
        refine wm_sld C X dL_law_1067 (hin 1 (nI 1) rfl (by omega)) (pc' := 1068) rfl ?_
        refine wm_callVr (nn := 1) (As := [.int (xs (nI (6 * j) + 1).toNatClampNeg)]) (rest := [.int r]) (st' := [.int r, .int r]) C dL_law_1068 (kX12_tell l D τ q2 σm (xs (nI (6 * j) + 1).toNatClampNeg) r sm hm1) gL_law_X12_tell rfl (by decide +kernel) ⟨Nat.le_of_ble_eq_true rfl, Nat.le_of_ble_eq_true rfl⟩ rfl rfl ⟨by show k ≤ 672204; omega, by show n ≤ 7085637; omega⟩ 0 rfl rfl rfl rfl (Nat.le_of_ble_eq_true rfl) rfl (pc' := 1071) rfl ?_
        refine wm_icmp_eq C dL_law_1071 1158 (by decide) (pc' := 1074) rfl (fun _ => ?_) (fun h => absurd rfl h)
        exact hnext k n q nc sx sm (by omega) (by omega) rfl hR1
      · refine wm_tableIn (x := nI 28) (off := 1043) C dL_law_33 (by decide) (by decide) (by decide) 1076 (by decide) ?_
        refine wm_aload_n C dL_law_1076 2 rfl (pc' := 1077) rfl ?_
        refine wm_aload_n C dL_law_1077 1 rfl (pc' := 1078) rfl ?_
        refine wm_iload_n C dL_law_1078 0 rfl (pc' := 1079) rfl ?_
        refine wm_ikonst (v := 1) C dL_law_1079 (by decide) (pc' := 1080) rfl ?_
        refine wm_iadd C dL_law_1080 (pc' := 1081) rfl ?_
        refine wm_sld C X dL_law_1081 (hin 1 (nI 1) rfl (by omega)) (pc' := 1082) rfl ?_
        obtain ⟨r, sx, sm, hx1, hm1, hR1⟩ := h_judge (xs (nI (6 * j) + 1).toNatClampNeg) j nc σx σm hj hR
        refine wm_callVf (nn := 1) (As := [.int (xs (nI (6 * j) + 1).toNatClampNeg)]) (rest := []) (st' := [.int r]) C dL_law_1082 (kX11_judge l D τ q nc σx (xs (nI (6 * j) + 1).toNatClampNeg) r sx hx1) gL_law_X11_judge rfl (by decide +kernel) ⟨Nat.le_of_ble_eq_true rfl, Nat.le_of_ble_eq_true rfl⟩ rfl rfl ⟨by show k ≤ 672204; omega, by show n ≤ 7085637; omega⟩ 0 (x_at (by omega) rfl) rfl rfl rfl (Nat.le_of_ble_eq_true rfl) rfl (pc' := 1085) rfl ?_
        refine wm_aload_n C dL_law_1085 3 rfl (pc' := 1086) rfl ?_
        refine wm_aload_n C dL_law_1086 1 rfl (pc' := 1087) rfl ?_
        refine wm_iload_n C dL_law_1087 0 rfl (pc' := 1088) rfl ?_
        refine wm_ikonst (v := 1) C dL_law_1088 (by decide) (pc' := 1089) rfl ?_
        refine wm_iadd C dL_law_1089 (pc' := 1090) rfl ?_
        refine wm_sld C X dL_law_1090 (hin 1 (nI 1) rfl (by omega)) (pc' := 1091) rfl ?_
        refine wm_callVr (nn := 1) (As := [.int (xs (nI (6 * j) + 1).toNatClampNeg)]) (rest := [.int r]) (st' := [.int r, .int r]) C dL_law_1091 (kX12_judge l D τ q2 σm (xs (nI (6 * j) + 1).toNatClampNeg) r sm hm1) gL_law_X12_judge rfl (by decide +kernel) ⟨Nat.le_of_ble_eq_true rfl, Nat.le_of_ble_eq_true rfl⟩ rfl rfl ⟨by show k ≤ 672204; omega, by show n ≤ 7085637; omega⟩ 0 rfl rfl rfl rfl (Nat.le_of_ble_eq_true rfl) rfl (pc' := 1094) rfl ?_
        refine wm_icmp_eq C dL_law_1094 1158 (by decide) (pc' := 1097) rfl (fun _ => ?_) (fun h => absurd rfl h)
        exact hnext k n q nc sx sm (by omega) (by omega) rfl hR1
      · refine wm_tableIn (x := nI 29) (off := 1066) C dL_law_33 (by decide) (by decide) (by decide) 1099 (by decide) ?_
        refine wm_aload_n C dL_law_1099 2 rfl (pc' := 1100) rfl ?_
        refine wm_aload_n C dL_law_1100 1 rfl (pc' := 1101) rfl ?_
        refine wm_iload_n C dL_law_1101 0 rfl (pc' := 1102) rfl ?_
        refine wm_ikonst (v := 1) C dL_law_1102 (by decide) (pc' := 1103) rfl ?_
        refine wm_iadd C dL_law_1103 (pc' := 1104) rfl ?_
        refine wm_sld C X dL_law_1104 (hin 1 (nI 1) rfl (by omega)) (pc' := 1105) rfl ?_
        refine wm_aload_n C dL_law_1105 1 rfl (pc' := 1106) rfl ?_
        refine wm_iload_n C dL_law_1106 0 rfl (pc' := 1107) rfl ?_
        refine wm_ikonst (v := 2) C dL_law_1107 (by decide) (pc' := 1108) rfl ?_
        refine wm_iadd C dL_law_1108 (pc' := 1109) rfl ?_
        refine wm_sld C X dL_law_1109 (hin 2 (nI 2) rfl (by omega)) (pc' := 1110) rfl ?_
        obtain ⟨r, sx, sm, hx1, hm1, hR1⟩ := h_as (xs (nI (6 * j) + 1).toNatClampNeg) (xs (nI (6 * j) + 2).toNatClampNeg) j nc σx σm hj hR
        refine wm_callVf (nn := 2) (As := [.int (xs (nI (6 * j) + 1).toNatClampNeg), .int (xs (nI (6 * j) + 2).toNatClampNeg)]) (rest := []) (st' := [.int r]) C dL_law_1110 (kX11_as l D τ q nc σx (xs (nI (6 * j) + 1).toNatClampNeg) (xs (nI (6 * j) + 2).toNatClampNeg) r sx hx1) gL_law_X11_as rfl (by decide +kernel) ⟨Nat.le_of_ble_eq_true rfl, Nat.le_of_ble_eq_true rfl⟩ rfl rfl ⟨by show k ≤ 672204; omega, by show n ≤ 7085637; omega⟩ 0 (x_at (by omega) rfl) rfl rfl rfl (Nat.le_of_ble_eq_true rfl) rfl (pc' := 1113) rfl ?_
        refine wm_aload_n C dL_law_1113 3 rfl (pc' := 1114) rfl ?_
        refine wm_aload_n C dL_law_1114 1 rfl (pc' := 1115) rfl ?_
        refine wm_iload_n C dL_law_1115 0 rfl (pc' := 1116) rfl ?_
        refine wm_ikonst (v := 1) C dL_law_1116 (by decide) (pc' := 1117) rfl ?_
        refine wm_iadd C dL_law_1117 (pc' := 1118) rfl ?_
        refine wm_sld C X dL_law_1118 (hin 1 (nI 1) rfl (by omega)) (pc' := 1119) rfl ?_
        refine wm_aload_n C dL_law_1119 1 rfl (pc' := 1120) rfl ?_
        refine wm_iload_n C dL_law_1120 0 rfl (pc' := 1121) rfl ?_
        refine wm_ikonst (v := 2) C dL_law_1121 (by decide) (pc' := 1122) rfl ?_
        refine wm_iadd C dL_law_1122 (pc' := 1123) rfl ?_
        refine wm_sld C X dL_law_1123 (hin 2 (nI 2) rfl (by omega)) (pc' := 1124) rfl ?_
        refine wm_callVr (nn := 2) (As := [.int (xs (nI (6 * j) + 1).toNatClampNeg), .int (xs (nI (6 * j) + 2).toNatClampNeg)]) (rest := [.int r]) (st' := [.int r, .int r]) C dL_law_1124 (kX12_as l D τ q2 σm (xs (nI (6 * j) + 1).toNatClampNeg) (xs (nI (6 * j) + 2).toNatClampNeg) r sm hm1) gL_law_X12_as rfl (by decide +kernel) ⟨Nat.le_of_ble_eq_true rfl, Nat.le_of_ble_eq_true rfl⟩ rfl rfl ⟨by show k ≤ 672204; omega, by show n ≤ 7085637; omega⟩ 0 rfl rfl rfl rfl (Nat.le_of_ble_eq_true rfl) rfl (pc' := 1127) rfl ?_
        refine wm_icmp_eq C dL_law_1127 1158 (by decide) (pc' := 1130) rfl (fun _ => ?_) (fun h => absurd rfl h)
        exact hnext k n q nc sx sm (by omega) (by omega) rfl hR1
      · refine wm_tableIn (x := nI 30) (off := 1099) C dL_law_33 (by decide) (by decide) (by decide) 1132 (by decide) ?_
        refine wm_aload_n C dL_law_1132 2 rfl (pc' := 1133) rfl ?_
        obtain ⟨r, sx, sm, hx1, hm1, hR1⟩ := h_trace j nc σx σm hj hR
        refine wm_callVf (nn := 0) (As := []) (rest := []) (st' := [.int r]) C dL_law_1133 (kX11_trace l D τ q nc σx r sx hx1) gL_law_X11_trace rfl (by decide +kernel) ⟨Nat.le_of_ble_eq_true rfl, Nat.le_of_ble_eq_true rfl⟩ rfl rfl ⟨by show k ≤ 672204; omega, by show n ≤ 7085637; omega⟩ 0 (x_at (by omega) rfl) rfl rfl rfl (Nat.le_of_ble_eq_true rfl) rfl (pc' := 1136) rfl ?_
        refine wm_aload_n C dL_law_1136 3 rfl (pc' := 1137) rfl ?_
        refine wm_callVr (nn := 0) (As := []) (rest := [.int r]) (st' := [.int r, .int r]) C dL_law_1137 (kX12_trace l D τ q2 σm r sm hm1) gL_law_X12_trace rfl (by decide +kernel) ⟨Nat.le_of_ble_eq_true rfl, Nat.le_of_ble_eq_true rfl⟩ rfl rfl ⟨by show k ≤ 672204; omega, by show n ≤ 7085637; omega⟩ 0 rfl rfl rfl rfl (Nat.le_of_ble_eq_true rfl) rfl (pc' := 1140) rfl ?_
        refine wm_icmp_eq C dL_law_1140 1158 (by decide) (pc' := 1143) rfl (fun _ => ?_) (fun h => absurd rfl h)
        exact hnext k n q nc sx sm (by omega) (by omega) rfl hR1
      · refine wm_tableIn (x := nI 31) (off := 1112) C dL_law_33 (by decide) (by decide) (by decide) 1145 (by decide) ?_
        refine wm_aload_n C dL_law_1145 2 rfl (pc' := 1146) rfl ?_
        obtain ⟨r, sx, sm, hx1, hm1, hR1⟩ := h_fault j nc σx σm hj hR
        refine wm_callVf (nn := 0) (As := []) (rest := []) (st' := [.int r]) C dL_law_1146 (kX11_fault l D τ q nc σx r sx hx1) gL_law_X11_fault rfl (by decide +kernel) ⟨Nat.le_of_ble_eq_true rfl, Nat.le_of_ble_eq_true rfl⟩ rfl rfl ⟨by show k ≤ 672204; omega, by show n ≤ 7085637; omega⟩ 0 (x_at (by omega) rfl) rfl rfl rfl (Nat.le_of_ble_eq_true rfl) rfl (pc' := 1149) rfl ?_
        refine wm_aload_n C dL_law_1149 3 rfl (pc' := 1150) rfl ?_
        refine wm_callVr (nn := 0) (As := []) (rest := [.int r]) (st' := [.int r, .int r]) C dL_law_1150 (kX12_fault l D τ q2 σm r sm hm1) gL_law_X12_fault rfl (by decide +kernel) ⟨Nat.le_of_ble_eq_true rfl, Nat.le_of_ble_eq_true rfl⟩ rfl rfl ⟨by show k ≤ 672204; omega, by show n ≤ 7085637; omega⟩ 0 rfl rfl rfl rfl (Nat.le_of_ble_eq_true rfl) rfl (pc' := 1153) rfl ?_
        refine wm_icmp_eq C dL_law_1153 1158 (by decide) (pc' := 1156) rfl (fun _ => ?_) (fun h => absurd rfl h)
        exact hnext k n q nc sx sm (by omega) (by omega) rfl hR1

