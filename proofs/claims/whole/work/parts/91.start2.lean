set_option maxHeartbeats 8000000 in
set_option maxRecDepth 100000 in
/-- THE LAW, from its first instruction: the two desks are made, then the loop -/
theorem law_start {l : Launch} {D : va_G} {τ : CId} {Γ : CT} {b L : Nat} {xs : Nat → Int32} (C : CX D τ Γ cL_law x 4 wsL_law (some .boolean) room_1 (fun _ _ => False)) (X : LX Γ b L xs) (hL : L ≤ 3072)
    (hend : ∀ (k n : Nat) (Wd : va_W) (lv : List (Nat × Value)), k ≤ 672204 → n ≤ 7085637 → WM l D Γ 4 k n Wd 1165 lv [.int 1]) : WM l D Γ 4 0 0 [] 0 [(0, .ref b)] [] := by
  refine wm_new (ci := 11) C dL_law_0 inlX11 tyX11 tyX11_ok (by decide +kernel) (by decide +kernel) (by decide +kernel) rfl [.null, .null, .null, .null, .null, .null, .null, .int 0, .int 0] (fun j hj => by rcases (show j = 0 ∨ j = 1 ∨ j = 2 ∨ j = 3 ∨ j = 4 ∨ j = 5 ∨ j = 6 ∨ j = 7 ∨ j = 8 by omega) with rfl | rfl | rfl | rfl | rfl | rfl | rfl | rfl | rfl <;> rfl) ⟨Nat.le_of_ble_eq_true rfl, Nat.le_of_ble_eq_true rfl⟩ (pc' := 3) rfl (fun a1 => ?_)
  refine wm_kn (k' := 1) (n' := 9) rfl rfl ?_
  refine wm_W (Wd' := [(a1, .inr (11, [.null, .null, .null, .null, .null, .null, .null, .int 0, .int 0]))]) rfl ?_
  refine wm_dup C dL_law_3 rfl (pc' := 4) rfl ?_
  refine wm_callI (nn := 0) (As := []) (rest := [.ref a1]) (Wc := [(a1, .inr (11, [.null, .null, .null, .null, .null, .null, .null, .int 0, .int 0]))]) (Wr := []) C dL_law_4 (kX11_init l D τ a1) gL_law_X11_init rfl (by decide +kernel) (by decide +kernel) (by decide +kernel) rfl (by decide +kernel) ⟨Nat.le_of_ble_eq_true rfl, Nat.le_of_ble_eq_true rfl⟩ ⟨Nat.le_of_ble_eq_true rfl, Nat.le_of_ble_eq_true rfl⟩ rfl rfl rfl (Nat.le_of_ble_eq_true rfl) (pc' := 7) rfl (fun v w hF => ?_)
  obtain ⟨rfl, q, hq, rfl⟩ := hF
  refine wm_kn (k' := 49) (n' := 607) rfl rfl ?_
  refine wm_st (st' := [.ref a1]) rfl ?_
  refine wm_W (Wd' := xW τ q 0 xInit) (List.append_nil _) ?_
  refine wm_astore_n (lv' := [(1, .ref a1), (0, .ref b)]) C dL_law_7 (by decide) rfl (pc' := 8) rfl ?_
  refine wm_new (ci := 12) C dL_law_8 inlX12 tyX12 tyX12_ok (by decide +kernel) (by decide +kernel) (by decide +kernel) rfl [.int 0, .int 0, .null, .null, .int 0, .null, .null, .null, .null, .null, .null, .int 0, .int 0, .null, .null, .long 0, .int 0, .null, .null, .null, .null, .null, .null, .int 0, .int 0, .null, .null, .null, .null, .int 0, .null, .null, .null, .null, .null, .null, .null, .null, .int 0] (fun j hj => by rcases (show j = 0 ∨ j = 1 ∨ j = 2 ∨ j = 3 ∨ j = 4 ∨ j = 5 ∨ j = 6 ∨ j = 7 ∨ j = 8 ∨ j = 9 ∨ j = 10 ∨ j = 11 ∨ j = 12 ∨ j = 13 ∨ j = 14 ∨ j = 15 ∨ j = 16 ∨ j = 17 ∨ j = 18 ∨ j = 19 ∨ j = 20 ∨ j = 21 ∨ j = 22 ∨ j = 23 ∨ j = 24 ∨ j = 25 ∨ j = 26 ∨ j = 27 ∨ j = 28 ∨ j = 29 ∨ j = 30 ∨ j = 31 ∨ j = 32 ∨ j = 33 ∨ j = 34 ∨ j = 35 ∨ j = 36 ∨ j = 37 ∨ j = 38 by omega) with rfl | rfl | rfl | rfl | rfl | rfl | rfl | rfl | rfl | rfl | rfl | rfl | rfl | rfl | rfl | rfl | rfl | rfl | rfl | rfl | rfl | rfl | rfl | rfl | rfl | rfl | rfl | rfl | rfl | rfl | rfl | rfl | rfl | rfl | rfl | rfl | rfl | rfl | rfl <;> rfl) ⟨Nat.le_of_ble_eq_true rfl, Nat.le_of_ble_eq_true rfl⟩ (pc' := 11) rfl (fun a2 => ?_)
  refine wm_kn (k' := 50) (n' := 646) rfl rfl ?_
  refine wm_dup C dL_law_11 rfl (pc' := 12) rfl ?_
  refine wm_swap ?_
  refine wm_callI (nn := 0) (As := []) (rest := [.ref a2]) (Wc := [(a2, .inr (12, [.int 0, .int 0, .null, .null, .int 0, .null, .null, .null, .null, .null, .null, .int 0, .int 0, .null, .null, .long 0, .int 0, .null, .null, .null, .null, .null, .null, .int 0, .int 0, .null, .null, .null, .null, .int 0, .null, .null, .null, .null, .null, .null, .null, .null, .int 0]))]) (Wr := xW τ q 0 xInit) C dL_law_12 (kX12_init l D τ a2) gL_law_X12_init rfl (by decide +kernel) (by decide +kernel) (by decide +kernel) rfl (by decide +kernel) ⟨Nat.le_of_ble_eq_true rfl, Nat.le_of_ble_eq_true rfl⟩ ⟨Nat.le_of_ble_eq_true rfl, Nat.le_of_ble_eq_true rfl⟩ rfl rfl rfl (Nat.le_of_ble_eq_true rfl) (pc' := 15) rfl (fun v w hF => ?_)
  obtain ⟨rfl, q2, hq2, rfl⟩ := hF
  refine wm_kn (k' := 78) (n' := 1174) rfl rfl ?_
  refine wm_st (st' := [.ref a2]) rfl ?_
  refine wm_swap ?_
  refine wm_astore_n (lv' := [(2, .ref a2), (1, .ref a1), (0, .ref b)]) C dL_law_15 (by decide) rfl (pc' := 16) rfl ?_
  refine wm_ikonst (v := nI (6 * 0)) C dL_law_16 (by decide) (pc' := 17) rfl ?_
  refine wm_istore_n (lv' := [(3, .int (nI (6 * 0))), (2, .ref a2), (1, .ref a1), (0, .ref b)]) C dL_law_17 (by decide) rfl (pc' := 18) rfl ?_
  refine wm_sub (lv' := [(3, .int (nI (6 * 0))), (0, .ref b), (1, .ref a1), (2, .ref a2)]) [0, 3, 2, 1] rfl ?_
  exact law_loop (Rel := RelV Vq) C X hL hend op_joint op_hold op_free op_crack (op_widths keeps_Vq) op_width op_about op_at op_head op_flow op_in op_work (op_rate keeps_Vq) op_step op_run op_ways op_through op_open op_eats op_told (op_keep keeps_Vq) (op_back keeps_Vq) (op_core keeps_Vq) (op_lose keeps_Vq) (op_put keeps_Vq) (op_cell keeps_Vq) (op_copy keeps_Vq) (op_tell keeps_Vq) (op_judge keeps_Vq) (op_as keeps_Vq) op_trace op_fault 514 0 78 1174 q q2 0 xInit mInit a1 a2 (by omega) (by omega) (by omega) (by omega) hq hq2 rel0
/-- from the entry, for every script of at most 3072 ints, the law comes to its end with true -/
theorem whole_start {p : Program} {e : Env} {s : State} {m : MethodId} {below : List Frame} {meth : Method} {c : Code} (l : Launch) {b L : Nat} {xs : Nat → Int32} (hL : L ≤ 3072) (hnm : meth.name = x.name) (C0 : lw_At p s m meth c b L xs) : W p l e room_1 s m #[Value.ref b] below meth c s.heap [] 0 0 (lw_Z below #[Value.ref b] s) (entryFrame m ([Value.ref b] : List Value).toArray 4) := by
  obtain ⟨hx, hb, hr, hml, hown, hts, hX, hbl, hlocks, hgv⟩ := C0
  obtain ⟨D, τ, hK⟩ := kk_start hts hgv
  have hP : va_P D vwCl [] s.heap := fun k q h => by simp at h
  have hD : va_D (fun q : Nat => s.heap.size ≤ q) [] := ⟨fun i j p q h => by simp at h, fun k q h => by simp at h⟩
  have hl := lv_entry ([.ref b]) (n := 4) (Nat.le_of_ble_eq_true rfl)
  rw [lg_entry_eq]
  exact law_start (l := l) (D := D) (τ := τ) (Γ := (p, e, room_1, s, m, #[Value.ref b], below, meth, c, (fun q : Nat => s.heap.size ≤ q), lw_Z below #[Value.ref b] s)) (b := b) (L := L) (xs := xs)
    ⟨hx, hb, hr, hml, hown, fun w hw => hts w (wsL_law_in w hw), hlocks, hK, fun q h => h, rfl, hnm, fun _ _ _ _ => True, fun _ _ h => h.elim, fun _ _ _ _ h => h.elim⟩
    ⟨hX, hbl, Nat.not_le.mpr hbl⟩ hL
    (fun k n Wd lv hk hn H locs ls hP hD hS hl => va_forget (fun q hq => hS.2.2 q hq) (W.widen hk hn (lw_ret hx hb hr hlocks dL_law_1165)))
    s.heap [] _ hP hD va_S.rf hl
