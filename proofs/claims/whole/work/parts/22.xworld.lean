/-! THE CLASS'S WORLD: 19 fixed cells, then families: 4 cores, their 4 rows of cells, 6 rows of the water, 8 and 8 rows of keeps, nc cracks. The state is again an MS: ints, the long, int arrays, long arrays by numbers (those that the reference has too bear its numbers) -/
def kci (k : Int32) : Nat := if k = 1 then 10 else if k = 2 then 0 else if k = 3 then 3 else if k = 4 then 7 else 2
/-- a long array as a whole -/
def sBR (σ : MS) (k : Nat) (f : Nat → Int64) : MS := (σ.1, σ.2.1, σ.2.2.1, (fun a => if a = k then f else σ.2.2.2 a))
def refs (q : Nat → Nat) (b n : Nat) : Nat → Option Nat := fun i => if i < n then some (q (b + i)) else none
def xK (q : Nat → Nat) (σ : MS) (c : Nat) : Nat × va_E := (q (200 + c), .inr (kci (gA σ 7 c), [.int (gA σ 5 c), .int (gA σ 6 c), .int (gA σ 9 c), .int (gA σ 8 c), .int (gA σ 10 c)]))
def xCore (q : Nat → Nat) (σ : MS) (i : Nat) : Nat × va_E := (q (80 + i), .inr (1, [.ref (q (90 + i)), .int (gA σ 40 i), .int (gA σ 41 i), .int (gA σ 42 i)]))
def xR (τ : CId) (q : Nat → Nat) (σ : MS) (p : Nat) : Nat × va_E := if p < 4 then xCore q σ p else if p < 8 then (q (90 + (p - 4)), .inl (τ.2.1, 24, .inr (.inl (gB σ (90 + (p - 4)))))) else if p < 14 then (q (100 + (p - 8)), .inl (τ.2.1, 7, .inr (.inl (gB σ (100 + (p - 8)))))) else if p < 22 then (q (110 + (p - 14)), .inl (τ.1, 12, .inl (gA σ (110 + (p - 14))))) else if p < 30 then (q (120 + (p - 22)), .inl (τ.1, 12, .inl (gA σ (120 + (p - 22))))) else xK q σ (p - 30)
def xC (τ : CId) (q : Nat → Nat) (nc : Nat) (σ : MS) : Nat → Nat × va_E
  | 0 => (q 0, .inr (11, [.ref (q 60), .ref (q 61), .ref (q 62), .ref (q 63), .ref (q 64), .ref (q 65), .ref (q 22), .int (gI σ 11), .int (gI σ 0)]))
  | 1 => (q 60, .inr (5, [.ref (q 2), .ref (q 3), .ref (q 66), .int (gI σ 1), .int (gI σ 4), .int (gI σ 12), .int (gI σ 50)]))
  | 2 => (q 61, .inr (8, [.ref (q 60), .ref (q 67), .ref (q 68), .ref (q 69), .ref (q 70), .long (gL σ), .int (gI σ 51), .int (gI σ 52), .int (gI σ 53)]))
  | 3 => (q 62, .inr (9, [.ref (q 60), .int (gI σ 54), .int (gI σ 55), .int (gI σ 56), .int (gI σ 57)]))
  | 4 => (q 63, .inr (4, [.ref (q 71), .ref (q 72), .ref (q 73), .ref (q 74), .int (gI σ 58), .int (gI σ 29)]))
  | 5 => (q 65, .inr (6, [.int (gI σ 38)]))
  | 6 => (q 64, .inl (τ.2.2.2.1, 4, .inr (.inr (.inr (.inr (refs q 80 4))))))
  | 7 => (q 22, .inl (τ.2.1, 12, .inr (.inl (gB σ 22))))
  | 8 => (q 2, .inl (τ.2.2.1, 6, .inl (gA σ 2)))
  | 9 => (q 3, .inl (τ.1, 6, .inl (gA σ 3)))
  | 10 => (q 66, .inl (τ.2.2.2.2.1, 12, .inr (.inr (.inr (.inr (refs q 200 nc))))))
  | 11 => (q 67, .inl (τ.2.2.2.2.2.2, 6, .inr (.inr (.inr (.inr (refs q 100 6))))))
  | 12 => (q 68, .inl (τ.2.1, 128, .inr (.inl (gB σ 68))))
  | 13 => (q 69, .inl (τ.2.1, 6, .inr (.inl (gB σ 69))))
  | 14 => (q 70, .inl (τ.2.1, 12, .inr (.inl (gB σ 70))))
  | 15 => (q 71, .inl (τ.2.2.2.2.2.1, 8, .inr (.inr (.inr (.inr (refs q 110 8))))))
  | 16 => (q 72, .inl (τ.2.2.2.2.2.1, 8, .inr (.inr (.inr (.inr (refs q 120 8))))))
  | 17 => (q 73, .inl (τ.1, 8, .inl (gA σ 73)))
  | 18 => (q 74, .inl (τ.1, 8, .inl (gA σ 74)))
  | p + 19 => xR τ q σ p
def xW (τ : CId) (q : Nat → Nat) (nc : Nat) (σ : MS) : va_W := (List.range (49 + nc)).map (xC τ q nc σ)
section XWS
variable {τ : CId} {q : Nat → Nat} {nc : Nat} {σ σ' : MS}
theorem xW_at {k : Nat} (hk : k < 49 + nc) : (xW τ q nc σ)[k]? = some (xC τ q nc σ k) := by
  unfold xW
  rw [List.getElem?_map, List.getElem?_range hk]
  rfl
theorem xW_set {k : Nat} {e : Nat × va_E} (h1 : ∀ j, j ≠ k → xC τ q nc σ' j = xC τ q nc σ j) (h2 : xC τ q nc σ' k = e) : (xW τ q nc σ).set k e = xW τ q nc σ' := by
  apply List.ext_getElem?
  intro j
  rw [List.getElem?_set]
  have hlen : (xW τ q nc σ).length = 49 + nc := by simp [xW]
  have hlen' : (xW τ q nc σ').length = 49 + nc := by simp [xW]
  by_cases hj : k = j
  · subst hj
    rw [if_pos rfl]
    by_cases hk : k < 49 + nc
    · rw [if_pos (by rw [hlen]; exact hk), xW_at hk, h2]
    · rw [if_neg (by rw [hlen]; exact hk), List.getElem?_eq_none (by rw [hlen']; omega)]
  · rw [if_neg hj]
    by_cases hj2 : j < 49 + nc
    · rw [xW_at hj2, xW_at hj2, h1 j (fun h => hj h.symm)]
    · rw [List.getElem?_eq_none (by rw [hlen]; omega), List.getElem?_eq_none (by rw [hlen']; omega)]
theorem gA_ne {k i a : Nat} {v : Int32} (h : a ≠ k) : gA (sA σ k i v) a = gA σ a := if_neg h
theorem gA_eq {k i : Nat} {v : Int32} : gA (sA σ k i v) k = upd (gA σ k) i v := if_pos rfl
theorem gBR_ne {k a : Nat} {f : Nat → Int64} (h : a ≠ k) : gB (sBR σ k f) a = gB σ a := if_neg h
theorem gBR_eq {k : Nat} {f : Nat → Int64} : gB (sBR σ k f) k = f := if_pos rfl
theorem gB_ne {k i a : Nat} {v : Int64} (h : a ≠ k) : gB (sB σ k i v) a = gB σ a := if_neg h
theorem gB_eq {k i : Nat} {v : Int64} : gB (sB σ k i v) k = vp_updL (gB σ k) i v := if_pos rfl
theorem xC_core {i : Nat} (h : i < 4) : xC τ q nc σ (19 + i) = xCore q σ i := by
  rw [Nat.add_comm]; show xR τ q σ i = _; unfold xR; rw [if_pos h]
theorem xC_cells {i : Nat} (h : i < 4) : xC τ q nc σ (23 + i) = (q (90 + i), .inl (τ.2.1, 24, .inr (.inl (gB σ (90 + i))))) := by
  rw [show 23 + i = (4 + i) + 19 by omega]; show xR τ q σ (4 + i) = _; unfold xR; rw [if_neg (by omega), if_pos (by omega), Nat.add_sub_cancel_left]
theorem xC_rows {i : Nat} (h : i < 6) : xC τ q nc σ (27 + i) = (q (100 + i), .inl (τ.2.1, 7, .inr (.inl (gB σ (100 + i))))) := by
  rw [show 27 + i = (8 + i) + 19 by omega]; show xR τ q σ (8 + i) = _; unfold xR; rw [if_neg (by omega), if_neg (by omega), if_pos (by omega), Nat.add_sub_cancel_left]
theorem xC_kw {i : Nat} (h : i < 8) : xC τ q nc σ (33 + i) = (q (110 + i), .inl (τ.1, 12, .inl (gA σ (110 + i)))) := by
  rw [show 33 + i = (14 + i) + 19 by omega]; show xR τ q σ (14 + i) = _; unfold xR; rw [if_neg (by omega), if_neg (by omega), if_neg (by omega), if_pos (by omega), Nat.add_sub_cancel_left]
theorem xC_ks {i : Nat} (h : i < 8) : xC τ q nc σ (41 + i) = (q (120 + i), .inl (τ.1, 12, .inl (gA σ (120 + i)))) := by
  rw [show 41 + i = (22 + i) + 19 by omega]; show xR τ q σ (22 + i) = _; unfold xR; rw [if_neg (by omega), if_neg (by omega), if_neg (by omega), if_neg (by omega), if_pos (by omega), Nat.add_sub_cancel_left]
theorem xC_crack {i : Nat} : xC τ q nc σ (49 + i) = xK q σ i := by
  rw [show 49 + i = (30 + i) + 19 by omega]; show xR τ q σ (30 + i) = _; unfold xR; rw [if_neg (by omega), if_neg (by omega), if_neg (by omega), if_neg (by omega), if_neg (by omega), Nat.add_sub_cancel_left]

theorem xC_I11 {v : Int32} : ∀ j, j ≠ 0 → xC τ q nc (sI σ 11 v) j = xC τ q nc σ j
  | 0, h => absurd rfl h
  | 1, _ => rfl
  | 2, _ => rfl
  | 3, _ => rfl
  | 4, _ => rfl
  | 5, _ => rfl
  | 6, _ => rfl
  | 7, _ => rfl
  | 8, _ => rfl
  | 9, _ => rfl
  | 10, _ => rfl
  | 11, _ => rfl
  | 12, _ => rfl
  | 13, _ => rfl
  | 14, _ => rfl
  | 15, _ => rfl
  | 16, _ => rfl
  | 17, _ => rfl
  | 18, _ => rfl
  | p + 19, _ => rfl
theorem xC_I0 {v : Int32} : ∀ j, j ≠ 0 → xC τ q nc (sI σ 0 v) j = xC τ q nc σ j
  | 0, h => absurd rfl h
  | 1, _ => rfl
  | 2, _ => rfl
  | 3, _ => rfl
  | 4, _ => rfl
  | 5, _ => rfl
  | 6, _ => rfl
  | 7, _ => rfl
  | 8, _ => rfl
  | 9, _ => rfl
  | 10, _ => rfl
  | 11, _ => rfl
  | 12, _ => rfl
  | 13, _ => rfl
  | 14, _ => rfl
  | 15, _ => rfl
  | 16, _ => rfl
  | 17, _ => rfl
  | 18, _ => rfl
  | p + 19, _ => rfl
theorem xC_I1 {v : Int32} : ∀ j, j ≠ 1 → xC τ q nc (sI σ 1 v) j = xC τ q nc σ j
  | 0, _ => rfl
  | 1, h => absurd rfl h
  | 2, _ => rfl
  | 3, _ => rfl
  | 4, _ => rfl
  | 5, _ => rfl
  | 6, _ => rfl
  | 7, _ => rfl
  | 8, _ => rfl
  | 9, _ => rfl
  | 10, _ => rfl
  | 11, _ => rfl
  | 12, _ => rfl
  | 13, _ => rfl
  | 14, _ => rfl
  | 15, _ => rfl
  | 16, _ => rfl
  | 17, _ => rfl
  | 18, _ => rfl
  | p + 19, _ => rfl
theorem xC_I4 {v : Int32} : ∀ j, j ≠ 1 → xC τ q nc (sI σ 4 v) j = xC τ q nc σ j
  | 0, _ => rfl
  | 1, h => absurd rfl h
  | 2, _ => rfl
  | 3, _ => rfl
  | 4, _ => rfl
  | 5, _ => rfl
  | 6, _ => rfl
  | 7, _ => rfl
  | 8, _ => rfl
  | 9, _ => rfl
  | 10, _ => rfl
  | 11, _ => rfl
  | 12, _ => rfl
  | 13, _ => rfl
  | 14, _ => rfl
  | 15, _ => rfl
  | 16, _ => rfl
  | 17, _ => rfl
  | 18, _ => rfl
  | p + 19, _ => rfl
theorem xC_I12 {v : Int32} : ∀ j, j ≠ 1 → xC τ q nc (sI σ 12 v) j = xC τ q nc σ j
  | 0, _ => rfl
  | 1, h => absurd rfl h
  | 2, _ => rfl
  | 3, _ => rfl
  | 4, _ => rfl
  | 5, _ => rfl
  | 6, _ => rfl
  | 7, _ => rfl
  | 8, _ => rfl
  | 9, _ => rfl
  | 10, _ => rfl
  | 11, _ => rfl
  | 12, _ => rfl
  | 13, _ => rfl
  | 14, _ => rfl
  | 15, _ => rfl
  | 16, _ => rfl
  | 17, _ => rfl
  | 18, _ => rfl
  | p + 19, _ => rfl
theorem xC_I50 {v : Int32} : ∀ j, j ≠ 1 → xC τ q nc (sI σ 50 v) j = xC τ q nc σ j
  | 0, _ => rfl
  | 1, h => absurd rfl h
  | 2, _ => rfl
  | 3, _ => rfl
  | 4, _ => rfl
  | 5, _ => rfl
  | 6, _ => rfl
  | 7, _ => rfl
  | 8, _ => rfl
  | 9, _ => rfl
  | 10, _ => rfl
  | 11, _ => rfl
  | 12, _ => rfl
  | 13, _ => rfl
  | 14, _ => rfl
  | 15, _ => rfl
  | 16, _ => rfl
  | 17, _ => rfl
  | 18, _ => rfl
  | p + 19, _ => rfl
theorem xC_I51 {v : Int32} : ∀ j, j ≠ 2 → xC τ q nc (sI σ 51 v) j = xC τ q nc σ j
  | 0, _ => rfl
  | 1, _ => rfl
  | 2, h => absurd rfl h
  | 3, _ => rfl
  | 4, _ => rfl
  | 5, _ => rfl
  | 6, _ => rfl
  | 7, _ => rfl
  | 8, _ => rfl
  | 9, _ => rfl
  | 10, _ => rfl
  | 11, _ => rfl
  | 12, _ => rfl
  | 13, _ => rfl
  | 14, _ => rfl
  | 15, _ => rfl
  | 16, _ => rfl
  | 17, _ => rfl
  | 18, _ => rfl
  | p + 19, _ => rfl
theorem xC_I52 {v : Int32} : ∀ j, j ≠ 2 → xC τ q nc (sI σ 52 v) j = xC τ q nc σ j
  | 0, _ => rfl
  | 1, _ => rfl
  | 2, h => absurd rfl h
  | 3, _ => rfl
  | 4, _ => rfl
  | 5, _ => rfl
  | 6, _ => rfl
  | 7, _ => rfl
  | 8, _ => rfl
  | 9, _ => rfl
  | 10, _ => rfl
  | 11, _ => rfl
  | 12, _ => rfl
  | 13, _ => rfl
  | 14, _ => rfl
  | 15, _ => rfl
  | 16, _ => rfl
  | 17, _ => rfl
  | 18, _ => rfl
  | p + 19, _ => rfl
theorem xC_I53 {v : Int32} : ∀ j, j ≠ 2 → xC τ q nc (sI σ 53 v) j = xC τ q nc σ j
  | 0, _ => rfl
  | 1, _ => rfl
  | 2, h => absurd rfl h
  | 3, _ => rfl
  | 4, _ => rfl
  | 5, _ => rfl
  | 6, _ => rfl
  | 7, _ => rfl
  | 8, _ => rfl
  | 9, _ => rfl
  | 10, _ => rfl
  | 11, _ => rfl
  | 12, _ => rfl
  | 13, _ => rfl
  | 14, _ => rfl
  | 15, _ => rfl
  | 16, _ => rfl
  | 17, _ => rfl
  | 18, _ => rfl
  | p + 19, _ => rfl
theorem xC_I54 {v : Int32} : ∀ j, j ≠ 3 → xC τ q nc (sI σ 54 v) j = xC τ q nc σ j
  | 0, _ => rfl
  | 1, _ => rfl
  | 2, _ => rfl
  | 3, h => absurd rfl h
  | 4, _ => rfl
  | 5, _ => rfl
  | 6, _ => rfl
  | 7, _ => rfl
  | 8, _ => rfl
  | 9, _ => rfl
  | 10, _ => rfl
  | 11, _ => rfl
  | 12, _ => rfl
  | 13, _ => rfl
  | 14, _ => rfl
  | 15, _ => rfl
  | 16, _ => rfl
  | 17, _ => rfl
  | 18, _ => rfl
  | p + 19, _ => rfl
theorem xC_I55 {v : Int32} : ∀ j, j ≠ 3 → xC τ q nc (sI σ 55 v) j = xC τ q nc σ j
  | 0, _ => rfl
  | 1, _ => rfl
  | 2, _ => rfl
  | 3, h => absurd rfl h
  | 4, _ => rfl
  | 5, _ => rfl
  | 6, _ => rfl
  | 7, _ => rfl
  | 8, _ => rfl
  | 9, _ => rfl
  | 10, _ => rfl
  | 11, _ => rfl
  | 12, _ => rfl
  | 13, _ => rfl
  | 14, _ => rfl
  | 15, _ => rfl
  | 16, _ => rfl
  | 17, _ => rfl
  | 18, _ => rfl
  | p + 19, _ => rfl
theorem xC_I56 {v : Int32} : ∀ j, j ≠ 3 → xC τ q nc (sI σ 56 v) j = xC τ q nc σ j
  | 0, _ => rfl
  | 1, _ => rfl
  | 2, _ => rfl
  | 3, h => absurd rfl h
  | 4, _ => rfl
  | 5, _ => rfl
  | 6, _ => rfl
  | 7, _ => rfl
  | 8, _ => rfl
  | 9, _ => rfl
  | 10, _ => rfl
  | 11, _ => rfl
  | 12, _ => rfl
  | 13, _ => rfl
  | 14, _ => rfl
  | 15, _ => rfl
  | 16, _ => rfl
  | 17, _ => rfl
  | 18, _ => rfl
  | p + 19, _ => rfl
theorem xC_I57 {v : Int32} : ∀ j, j ≠ 3 → xC τ q nc (sI σ 57 v) j = xC τ q nc σ j
  | 0, _ => rfl
  | 1, _ => rfl
  | 2, _ => rfl
  | 3, h => absurd rfl h
  | 4, _ => rfl
  | 5, _ => rfl
  | 6, _ => rfl
  | 7, _ => rfl
  | 8, _ => rfl
  | 9, _ => rfl
  | 10, _ => rfl
  | 11, _ => rfl
  | 12, _ => rfl
  | 13, _ => rfl
  | 14, _ => rfl
  | 15, _ => rfl
  | 16, _ => rfl
  | 17, _ => rfl
  | 18, _ => rfl
  | p + 19, _ => rfl
theorem xC_I58 {v : Int32} : ∀ j, j ≠ 4 → xC τ q nc (sI σ 58 v) j = xC τ q nc σ j
  | 0, _ => rfl
  | 1, _ => rfl
  | 2, _ => rfl
  | 3, _ => rfl
  | 4, h => absurd rfl h
  | 5, _ => rfl
  | 6, _ => rfl
  | 7, _ => rfl
  | 8, _ => rfl
  | 9, _ => rfl
  | 10, _ => rfl
  | 11, _ => rfl
  | 12, _ => rfl
  | 13, _ => rfl
  | 14, _ => rfl
  | 15, _ => rfl
  | 16, _ => rfl
  | 17, _ => rfl
  | 18, _ => rfl
  | p + 19, _ => rfl
theorem xC_I29 {v : Int32} : ∀ j, j ≠ 4 → xC τ q nc (sI σ 29 v) j = xC τ q nc σ j
  | 0, _ => rfl
  | 1, _ => rfl
  | 2, _ => rfl
  | 3, _ => rfl
  | 4, h => absurd rfl h
  | 5, _ => rfl
  | 6, _ => rfl
  | 7, _ => rfl
  | 8, _ => rfl
  | 9, _ => rfl
  | 10, _ => rfl
  | 11, _ => rfl
  | 12, _ => rfl
  | 13, _ => rfl
  | 14, _ => rfl
  | 15, _ => rfl
  | 16, _ => rfl
  | 17, _ => rfl
  | 18, _ => rfl
  | p + 19, _ => rfl
theorem xC_I38 {v : Int32} : ∀ j, j ≠ 5 → xC τ q nc (sI σ 38 v) j = xC τ q nc σ j
  | 0, _ => rfl
  | 1, _ => rfl
  | 2, _ => rfl
  | 3, _ => rfl
  | 4, _ => rfl
  | 5, h => absurd rfl h
  | 6, _ => rfl
  | 7, _ => rfl
  | 8, _ => rfl
  | 9, _ => rfl
  | 10, _ => rfl
  | 11, _ => rfl
  | 12, _ => rfl
  | 13, _ => rfl
  | 14, _ => rfl
  | 15, _ => rfl
  | 16, _ => rfl
  | 17, _ => rfl
  | 18, _ => rfl
  | p + 19, _ => rfl
theorem xC_L {v : Int64} : ∀ j, j ≠ 2 → xC τ q nc (sL σ v) j = xC τ q nc σ j
  | 0, _ => rfl
  | 1, _ => rfl
  | 2, h => absurd rfl h
  | 3, _ => rfl
  | 4, _ => rfl
  | 5, _ => rfl
  | 6, _ => rfl
  | 7, _ => rfl
  | 8, _ => rfl
  | 9, _ => rfl
  | 10, _ => rfl
  | 11, _ => rfl
  | 12, _ => rfl
  | 13, _ => rfl
  | 14, _ => rfl
  | 15, _ => rfl
  | 16, _ => rfl
  | 17, _ => rfl
  | 18, _ => rfl
  | p + 19, _ => rfl
theorem xC_A2 {i : Nat} {v : Int32} : ∀ j, j ≠ 8 → xC τ q nc (sA σ 2 i v) j = xC τ q nc σ j
  | 0, _ => rfl
  | 1, _ => rfl
  | 2, _ => rfl
  | 3, _ => rfl
  | 4, _ => rfl
  | 5, _ => rfl
  | 6, _ => rfl
  | 7, _ => rfl
  | 8, h => absurd rfl h
  | 9, _ => rfl
  | 10, _ => rfl
  | 11, _ => rfl
  | 12, _ => rfl
  | 13, _ => rfl
  | 14, _ => rfl
  | 15, _ => rfl
  | 16, _ => rfl
  | 17, _ => rfl
  | 18, _ => rfl
  | p + 19, _ => by
    have e : ∀ a, a ≠ 2 → gA (sA σ 2 i v) a = gA σ a := fun a h => gA_ne h
    have eb : ∀ a, gB (sA σ 2 i v) a = gB σ a := fun a => rfl
    show xR τ q (sA σ 2 i v) p = xR τ q σ p
    unfold xR xCore xK
    rw [e 5 (by decide), e 6 (by decide), e 7 (by decide), e 8 (by decide), e 9 (by decide), e 10 (by decide), e 40 (by decide), e 41 (by decide), e 42 (by decide), e (110 + (p - 14)) (by omega), e (120 + (p - 22)) (by omega), eb, eb]
theorem xC_A3 {i : Nat} {v : Int32} : ∀ j, j ≠ 9 → xC τ q nc (sA σ 3 i v) j = xC τ q nc σ j
  | 0, _ => rfl
  | 1, _ => rfl
  | 2, _ => rfl
  | 3, _ => rfl
  | 4, _ => rfl
  | 5, _ => rfl
  | 6, _ => rfl
  | 7, _ => rfl
  | 8, _ => rfl
  | 9, h => absurd rfl h
  | 10, _ => rfl
  | 11, _ => rfl
  | 12, _ => rfl
  | 13, _ => rfl
  | 14, _ => rfl
  | 15, _ => rfl
  | 16, _ => rfl
  | 17, _ => rfl
  | 18, _ => rfl
  | p + 19, _ => by
    have e : ∀ a, a ≠ 3 → gA (sA σ 3 i v) a = gA σ a := fun a h => gA_ne h
    have eb : ∀ a, gB (sA σ 3 i v) a = gB σ a := fun a => rfl
    show xR τ q (sA σ 3 i v) p = xR τ q σ p
    unfold xR xCore xK
    rw [e 5 (by decide), e 6 (by decide), e 7 (by decide), e 8 (by decide), e 9 (by decide), e 10 (by decide), e 40 (by decide), e 41 (by decide), e 42 (by decide), e (110 + (p - 14)) (by omega), e (120 + (p - 22)) (by omega), eb, eb]
theorem xC_A73 {i : Nat} {v : Int32} : ∀ j, j ≠ 17 → xC τ q nc (sA σ 73 i v) j = xC τ q nc σ j
  | 0, _ => rfl
  | 1, _ => rfl
  | 2, _ => rfl
  | 3, _ => rfl
  | 4, _ => rfl
  | 5, _ => rfl
  | 6, _ => rfl
  | 7, _ => rfl
  | 8, _ => rfl
  | 9, _ => rfl
  | 10, _ => rfl
  | 11, _ => rfl
  | 12, _ => rfl
  | 13, _ => rfl
  | 14, _ => rfl
  | 15, _ => rfl
  | 16, _ => rfl
  | 17, h => absurd rfl h
  | 18, _ => rfl
  | p + 19, _ => by
    have e : ∀ a, a ≠ 73 → gA (sA σ 73 i v) a = gA σ a := fun a h => gA_ne h
    have eb : ∀ a, gB (sA σ 73 i v) a = gB σ a := fun a => rfl
    show xR τ q (sA σ 73 i v) p = xR τ q σ p
    unfold xR xCore xK
    rw [e 5 (by decide), e 6 (by decide), e 7 (by decide), e 8 (by decide), e 9 (by decide), e 10 (by decide), e 40 (by decide), e 41 (by decide), e 42 (by decide), e (110 + (p - 14)) (by omega), e (120 + (p - 22)) (by omega), eb, eb]
theorem xC_A74 {i : Nat} {v : Int32} : ∀ j, j ≠ 18 → xC τ q nc (sA σ 74 i v) j = xC τ q nc σ j
  | 0, _ => rfl
  | 1, _ => rfl
  | 2, _ => rfl
  | 3, _ => rfl
  | 4, _ => rfl
  | 5, _ => rfl
  | 6, _ => rfl
  | 7, _ => rfl
  | 8, _ => rfl
  | 9, _ => rfl
  | 10, _ => rfl
  | 11, _ => rfl
  | 12, _ => rfl
  | 13, _ => rfl
  | 14, _ => rfl
  | 15, _ => rfl
  | 16, _ => rfl
  | 17, _ => rfl
  | 18, h => absurd rfl h
  | p + 19, _ => by
    have e : ∀ a, a ≠ 74 → gA (sA σ 74 i v) a = gA σ a := fun a h => gA_ne h
    have eb : ∀ a, gB (sA σ 74 i v) a = gB σ a := fun a => rfl
    show xR τ q (sA σ 74 i v) p = xR τ q σ p
    unfold xR xCore xK
    rw [e 5 (by decide), e 6 (by decide), e 7 (by decide), e 8 (by decide), e 9 (by decide), e 10 (by decide), e 40 (by decide), e 41 (by decide), e 42 (by decide), e (110 + (p - 14)) (by omega), e (120 + (p - 22)) (by omega), eb, eb]
theorem xC_B22 {i : Nat} {v : Int64} : ∀ j, j ≠ 7 → xC τ q nc (sB σ 22 i v) j = xC τ q nc σ j
  | 0, _ => rfl
  | 1, _ => rfl
  | 2, _ => rfl
  | 3, _ => rfl
  | 4, _ => rfl
  | 5, _ => rfl
  | 6, _ => rfl
  | 7, h => absurd rfl h
  | 8, _ => rfl
  | 9, _ => rfl
  | 10, _ => rfl
  | 11, _ => rfl
  | 12, _ => rfl
  | 13, _ => rfl
  | 14, _ => rfl
  | 15, _ => rfl
  | 16, _ => rfl
  | 17, _ => rfl
  | 18, _ => rfl
  | p + 19, _ => by
    have e : ∀ a, a ≠ 22 → gB (sB σ 22 i v) a = gB σ a := fun a h => gB_ne h
    have ea : ∀ a, gA (sB σ 22 i v) a = gA σ a := fun a => rfl
    show xR τ q (sB σ 22 i v) p = xR τ q σ p
    unfold xR xCore xK
    rw [e (90 + (p - 4)) (by omega), e (100 + (p - 8)) (by omega)]
    try rfl
theorem xC_B68 {i : Nat} {v : Int64} : ∀ j, j ≠ 12 → xC τ q nc (sB σ 68 i v) j = xC τ q nc σ j
  | 0, _ => rfl
  | 1, _ => rfl
  | 2, _ => rfl
  | 3, _ => rfl
  | 4, _ => rfl
  | 5, _ => rfl
  | 6, _ => rfl
  | 7, _ => rfl
  | 8, _ => rfl
  | 9, _ => rfl
  | 10, _ => rfl
  | 11, _ => rfl
  | 12, h => absurd rfl h
  | 13, _ => rfl
  | 14, _ => rfl
  | 15, _ => rfl
  | 16, _ => rfl
  | 17, _ => rfl
  | 18, _ => rfl
  | p + 19, _ => by
    have e : ∀ a, a ≠ 68 → gB (sB σ 68 i v) a = gB σ a := fun a h => gB_ne h
    have ea : ∀ a, gA (sB σ 68 i v) a = gA σ a := fun a => rfl
    show xR τ q (sB σ 68 i v) p = xR τ q σ p
    unfold xR xCore xK
    rw [e (90 + (p - 4)) (by omega), e (100 + (p - 8)) (by omega)]
    try rfl
theorem xC_B69 {i : Nat} {v : Int64} : ∀ j, j ≠ 13 → xC τ q nc (sB σ 69 i v) j = xC τ q nc σ j
  | 0, _ => rfl
  | 1, _ => rfl
  | 2, _ => rfl
  | 3, _ => rfl
  | 4, _ => rfl
  | 5, _ => rfl
  | 6, _ => rfl
  | 7, _ => rfl
  | 8, _ => rfl
  | 9, _ => rfl
  | 10, _ => rfl
  | 11, _ => rfl
  | 12, _ => rfl
  | 13, h => absurd rfl h
  | 14, _ => rfl
  | 15, _ => rfl
  | 16, _ => rfl
  | 17, _ => rfl
  | 18, _ => rfl
  | p + 19, _ => by
    have e : ∀ a, a ≠ 69 → gB (sB σ 69 i v) a = gB σ a := fun a h => gB_ne h
    have ea : ∀ a, gA (sB σ 69 i v) a = gA σ a := fun a => rfl
    show xR τ q (sB σ 69 i v) p = xR τ q σ p
    unfold xR xCore xK
    rw [e (90 + (p - 4)) (by omega), e (100 + (p - 8)) (by omega)]
    try rfl
theorem xC_B70 {i : Nat} {v : Int64} : ∀ j, j ≠ 14 → xC τ q nc (sB σ 70 i v) j = xC τ q nc σ j
  | 0, _ => rfl
  | 1, _ => rfl
  | 2, _ => rfl
  | 3, _ => rfl
  | 4, _ => rfl
  | 5, _ => rfl
  | 6, _ => rfl
  | 7, _ => rfl
  | 8, _ => rfl
  | 9, _ => rfl
  | 10, _ => rfl
  | 11, _ => rfl
  | 12, _ => rfl
  | 13, _ => rfl
  | 14, h => absurd rfl h
  | 15, _ => rfl
  | 16, _ => rfl
  | 17, _ => rfl
  | 18, _ => rfl
  | p + 19, _ => by
    have e : ∀ a, a ≠ 70 → gB (sB σ 70 i v) a = gB σ a := fun a h => gB_ne h
    have ea : ∀ a, gA (sB σ 70 i v) a = gA σ a := fun a => rfl
    show xR τ q (sB σ 70 i v) p = xR τ q σ p
    unfold xR xCore xK
    rw [e (90 + (p - 4)) (by omega), e (100 + (p - 8)) (by omega)]
    try rfl
theorem xC_A40 {i : Nat} {v : Int32} : ∀ j, j ≠ 19 + i → xC τ q nc (sA σ 40 i v) j = xC τ q nc σ j
  | 0, _ => rfl
  | 1, _ => rfl
  | 2, _ => rfl
  | 3, _ => rfl
  | 4, _ => rfl
  | 5, _ => rfl
  | 6, _ => rfl
  | 7, _ => rfl
  | 8, _ => rfl
  | 9, _ => rfl
  | 10, _ => rfl
  | 11, _ => rfl
  | 12, _ => rfl
  | 13, _ => rfl
  | 14, _ => rfl
  | 15, _ => rfl
  | 16, _ => rfl
  | 17, _ => rfl
  | 18, _ => rfl
  | p + 19, h => by
    have e : ∀ a, a ≠ 40 → gA (sA σ 40 i v) a = gA σ a := fun a h => gA_ne h
    have e2 : p ≠ i → gA (sA σ 40 i v) 40 p = gA σ 40 p := fun h => by rw [gA_eq]; exact if_neg h
    have eb : ∀ a, gB (sA σ 40 i v) a = gB σ a := fun a => rfl
    show xR τ q (sA σ 40 i v) p = xR τ q σ p
    unfold xR xCore xK
    rw [e 5 (by decide), e 6 (by decide), e 7 (by decide), e 8 (by decide), e 9 (by decide), e 10 (by decide), e 41 (by decide), e 42 (by decide), e2 (by omega), e (110 + (p - 14)) (by omega), e (120 + (p - 22)) (by omega), eb, eb]
theorem xC_A41 {i : Nat} {v : Int32} : ∀ j, j ≠ 19 + i → xC τ q nc (sA σ 41 i v) j = xC τ q nc σ j
  | 0, _ => rfl
  | 1, _ => rfl
  | 2, _ => rfl
  | 3, _ => rfl
  | 4, _ => rfl
  | 5, _ => rfl
  | 6, _ => rfl
  | 7, _ => rfl
  | 8, _ => rfl
  | 9, _ => rfl
  | 10, _ => rfl
  | 11, _ => rfl
  | 12, _ => rfl
  | 13, _ => rfl
  | 14, _ => rfl
  | 15, _ => rfl
  | 16, _ => rfl
  | 17, _ => rfl
  | 18, _ => rfl
  | p + 19, h => by
    have e : ∀ a, a ≠ 41 → gA (sA σ 41 i v) a = gA σ a := fun a h => gA_ne h
    have e2 : p ≠ i → gA (sA σ 41 i v) 41 p = gA σ 41 p := fun h => by rw [gA_eq]; exact if_neg h
    have eb : ∀ a, gB (sA σ 41 i v) a = gB σ a := fun a => rfl
    show xR τ q (sA σ 41 i v) p = xR τ q σ p
    unfold xR xCore xK
    rw [e 5 (by decide), e 6 (by decide), e 7 (by decide), e 8 (by decide), e 9 (by decide), e 10 (by decide), e 40 (by decide), e 42 (by decide), e2 (by omega), e (110 + (p - 14)) (by omega), e (120 + (p - 22)) (by omega), eb, eb]
theorem xC_A42 {i : Nat} {v : Int32} : ∀ j, j ≠ 19 + i → xC τ q nc (sA σ 42 i v) j = xC τ q nc σ j
  | 0, _ => rfl
  | 1, _ => rfl
  | 2, _ => rfl
  | 3, _ => rfl
  | 4, _ => rfl
  | 5, _ => rfl
  | 6, _ => rfl
  | 7, _ => rfl
  | 8, _ => rfl
  | 9, _ => rfl
  | 10, _ => rfl
  | 11, _ => rfl
  | 12, _ => rfl
  | 13, _ => rfl
  | 14, _ => rfl
  | 15, _ => rfl
  | 16, _ => rfl
  | 17, _ => rfl
  | 18, _ => rfl
  | p + 19, h => by
    have e : ∀ a, a ≠ 42 → gA (sA σ 42 i v) a = gA σ a := fun a h => gA_ne h
    have e2 : p ≠ i → gA (sA σ 42 i v) 42 p = gA σ 42 p := fun h => by rw [gA_eq]; exact if_neg h
    have eb : ∀ a, gB (sA σ 42 i v) a = gB σ a := fun a => rfl
    show xR τ q (sA σ 42 i v) p = xR τ q σ p
    unfold xR xCore xK
    rw [e 5 (by decide), e 6 (by decide), e 7 (by decide), e 8 (by decide), e 9 (by decide), e 10 (by decide), e 40 (by decide), e 41 (by decide), e2 (by omega), e (110 + (p - 14)) (by omega), e (120 + (p - 22)) (by omega), eb, eb]
theorem xC_A8 {i : Nat} {v : Int32} : ∀ j, j ≠ 49 + i → xC τ q nc (sA σ 8 i v) j = xC τ q nc σ j
  | 0, _ => rfl
  | 1, _ => rfl
  | 2, _ => rfl
  | 3, _ => rfl
  | 4, _ => rfl
  | 5, _ => rfl
  | 6, _ => rfl
  | 7, _ => rfl
  | 8, _ => rfl
  | 9, _ => rfl
  | 10, _ => rfl
  | 11, _ => rfl
  | 12, _ => rfl
  | 13, _ => rfl
  | 14, _ => rfl
  | 15, _ => rfl
  | 16, _ => rfl
  | 17, _ => rfl
  | 18, _ => rfl
  | p + 19, h => by
    have e : ∀ a, a ≠ 8 → gA (sA σ 8 i v) a = gA σ a := fun a h => gA_ne h
    have eb : ∀ a, gB (sA σ 8 i v) a = gB σ a := fun a => rfl
    show xR τ q (sA σ 8 i v) p = xR τ q σ p
    unfold xR
    by_cases hp : p < 30
    · unfold xCore
      rw [e 40 (by decide), e 41 (by decide), e 42 (by decide), e (110 + (p - 14)) (by omega), e (120 + (p - 22)) (by omega), eb, eb]
      by_cases h1 : p < 4
      · rw [if_pos h1, if_pos h1]
      · rw [if_neg h1, if_neg h1]
        by_cases h2 : p < 8
        · rw [if_pos h2, if_pos h2]
        · rw [if_neg h2, if_neg h2]
          by_cases h3 : p < 14
          · rw [if_pos h3, if_pos h3]
          · rw [if_neg h3, if_neg h3]
            by_cases h4 : p < 22
            · rw [if_pos h4, if_pos h4]
            · rw [if_neg h4, if_neg h4, if_pos hp, if_pos hp]
    · rw [if_neg (by omega), if_neg (by omega), if_neg (by omega), if_neg (by omega), if_neg hp, if_neg (by omega), if_neg (by omega), if_neg (by omega), if_neg (by omega), if_neg hp]
      have e2 : gA (sA σ 8 i v) 8 (p - 30) = gA σ 8 (p - 30) := by rw [gA_eq]; exact if_neg (by omega)
      unfold xK
      rw [e 5 (by decide), e 6 (by decide), e 7 (by decide), e 9 (by decide), e 10 (by decide), e2]
theorem xC_A10 {i : Nat} {v : Int32} : ∀ j, j ≠ 49 + i → xC τ q nc (sA σ 10 i v) j = xC τ q nc σ j
  | 0, _ => rfl
  | 1, _ => rfl
  | 2, _ => rfl
  | 3, _ => rfl
  | 4, _ => rfl
  | 5, _ => rfl
  | 6, _ => rfl
  | 7, _ => rfl
  | 8, _ => rfl
  | 9, _ => rfl
  | 10, _ => rfl
  | 11, _ => rfl
  | 12, _ => rfl
  | 13, _ => rfl
  | 14, _ => rfl
  | 15, _ => rfl
  | 16, _ => rfl
  | 17, _ => rfl
  | 18, _ => rfl
  | p + 19, h => by
    have e : ∀ a, a ≠ 10 → gA (sA σ 10 i v) a = gA σ a := fun a h => gA_ne h
    have eb : ∀ a, gB (sA σ 10 i v) a = gB σ a := fun a => rfl
    show xR τ q (sA σ 10 i v) p = xR τ q σ p
    unfold xR
    by_cases hp : p < 30
    · unfold xCore
      rw [e 40 (by decide), e 41 (by decide), e 42 (by decide), e (110 + (p - 14)) (by omega), e (120 + (p - 22)) (by omega), eb, eb]
      by_cases h1 : p < 4
      · rw [if_pos h1, if_pos h1]
      · rw [if_neg h1, if_neg h1]
        by_cases h2 : p < 8
        · rw [if_pos h2, if_pos h2]
        · rw [if_neg h2, if_neg h2]
          by_cases h3 : p < 14
          · rw [if_pos h3, if_pos h3]
          · rw [if_neg h3, if_neg h3]
            by_cases h4 : p < 22
            · rw [if_pos h4, if_pos h4]
            · rw [if_neg h4, if_neg h4, if_pos hp, if_pos hp]
    · rw [if_neg (by omega), if_neg (by omega), if_neg (by omega), if_neg (by omega), if_neg hp, if_neg (by omega), if_neg (by omega), if_neg (by omega), if_neg (by omega), if_neg hp]
      have e2 : gA (sA σ 10 i v) 10 (p - 30) = gA σ 10 (p - 30) := by rw [gA_eq]; exact if_neg (by omega)
      unfold xK
      rw [e 5 (by decide), e 6 (by decide), e 7 (by decide), e 8 (by decide), e 9 (by decide), e2]
theorem xC_BRcells {i : Nat} {f : Nat → Int64} (hi : i < 4) : ∀ j, j ≠ 23 + i → xC τ q nc (sBR σ (90 + i) f) j = xC τ q nc σ j
  | 0, _ => rfl
  | 1, _ => rfl
  | 2, _ => rfl
  | 3, _ => rfl
  | 4, _ => rfl
  | 5, _ => rfl
  | 6, _ => rfl
  | 7, _ => congrArg (fun f : Nat → Int64 => ((q 22, .inl (τ.2.1, 12, .inr (.inl f))) : Nat × va_E)) (gBR_ne (by omega))
  | 8, _ => rfl
  | 9, _ => rfl
  | 10, _ => rfl
  | 11, _ => rfl
  | 12, _ => congrArg (fun f : Nat → Int64 => ((q 68, .inl (τ.2.1, 128, .inr (.inl f))) : Nat × va_E)) (gBR_ne (by omega))
  | 13, _ => congrArg (fun f : Nat → Int64 => ((q 69, .inl (τ.2.1, 6, .inr (.inl f))) : Nat × va_E)) (gBR_ne (by omega))
  | 14, _ => congrArg (fun f : Nat → Int64 => ((q 70, .inl (τ.2.1, 12, .inr (.inl f))) : Nat × va_E)) (gBR_ne (by omega))
  | 15, _ => rfl
  | 16, _ => rfl
  | 17, _ => rfl
  | 18, _ => rfl
  | p + 19, h => by
    have ea : ∀ a, gA (sBR σ (90 + i) f) a = gA σ a := fun a => rfl
    show xR τ q (sBR σ (90 + i) f) p = xR τ q σ p
    unfold xR xCore xK
    by_cases h1 : p < 4
    · rw [if_pos h1, if_pos h1]; try rfl
    · rw [if_neg h1, if_neg h1]
      by_cases h2 : p < 8
      · rw [if_pos h2, if_pos h2, gBR_ne (by omega)]; try rfl
      · rw [if_neg h2, if_neg h2]
        by_cases h3 : p < 14
        · rw [if_pos h3, if_pos h3, gBR_ne (by omega)]; try rfl
        · rw [if_neg h3, if_neg h3]; try rfl
theorem xC_BRrows {i : Nat} {f : Nat → Int64} (hi : i < 6) : ∀ j, j ≠ 27 + i → xC τ q nc (sBR σ (100 + i) f) j = xC τ q nc σ j
  | 0, _ => rfl
  | 1, _ => rfl
  | 2, _ => rfl
  | 3, _ => rfl
  | 4, _ => rfl
  | 5, _ => rfl
  | 6, _ => rfl
  | 7, _ => congrArg (fun f : Nat → Int64 => ((q 22, .inl (τ.2.1, 12, .inr (.inl f))) : Nat × va_E)) (gBR_ne (by omega))
  | 8, _ => rfl
  | 9, _ => rfl
  | 10, _ => rfl
  | 11, _ => rfl
  | 12, _ => congrArg (fun f : Nat → Int64 => ((q 68, .inl (τ.2.1, 128, .inr (.inl f))) : Nat × va_E)) (gBR_ne (by omega))
  | 13, _ => congrArg (fun f : Nat → Int64 => ((q 69, .inl (τ.2.1, 6, .inr (.inl f))) : Nat × va_E)) (gBR_ne (by omega))
  | 14, _ => congrArg (fun f : Nat → Int64 => ((q 70, .inl (τ.2.1, 12, .inr (.inl f))) : Nat × va_E)) (gBR_ne (by omega))
  | 15, _ => rfl
  | 16, _ => rfl
  | 17, _ => rfl
  | 18, _ => rfl
  | p + 19, h => by
    have ea : ∀ a, gA (sBR σ (100 + i) f) a = gA σ a := fun a => rfl
    show xR τ q (sBR σ (100 + i) f) p = xR τ q σ p
    unfold xR xCore xK
    by_cases h1 : p < 4
    · rw [if_pos h1, if_pos h1]; try rfl
    · rw [if_neg h1, if_neg h1]
      by_cases h2 : p < 8
      · rw [if_pos h2, if_pos h2, gBR_ne (by omega)]; try rfl
      · rw [if_neg h2, if_neg h2]
        by_cases h3 : p < 14
        · rw [if_pos h3, if_pos h3, gBR_ne (by omega)]; try rfl
        · rw [if_neg h3, if_neg h3]; try rfl
theorem xC_Bcells {i n : Nat} {v : Int64} (hi : i < 4) : ∀ j, j ≠ 23 + i → xC τ q nc (sB σ (90 + i) n v) j = xC τ q nc σ j := xC_BRcells hi
theorem xC_Brows {i n : Nat} {v : Int64} (hi : i < 6) : ∀ j, j ≠ 27 + i → xC τ q nc (sB σ (100 + i) n v) j = xC τ q nc σ j := xC_BRrows hi
theorem xC_Akw {i n : Nat} {v : Int32} (hi : i < 8) : ∀ j, j ≠ 33 + i → xC τ q nc (sA σ (110 + i) n v) j = xC τ q nc σ j
  | 0, _ => rfl
  | 1, _ => rfl
  | 2, _ => rfl
  | 3, _ => rfl
  | 4, _ => rfl
  | 5, _ => rfl
  | 6, _ => rfl
  | 7, _ => rfl
  | 8, _ => congrArg (fun f : Nat → Int32 => ((q 2, .inl (τ.2.2.1, 6, .inl f)) : Nat × va_E)) (gA_ne (by omega))
  | 9, _ => congrArg (fun f : Nat → Int32 => ((q 3, .inl (τ.1, 6, .inl f)) : Nat × va_E)) (gA_ne (by omega))
  | 10, _ => rfl
  | 11, _ => rfl
  | 12, _ => rfl
  | 13, _ => rfl
  | 14, _ => rfl
  | 15, _ => rfl
  | 16, _ => rfl
  | 17, _ => congrArg (fun f : Nat → Int32 => ((q 73, .inl (τ.1, 8, .inl f)) : Nat × va_E)) (gA_ne (by omega))
  | 18, _ => congrArg (fun f : Nat → Int32 => ((q 74, .inl (τ.1, 8, .inl f)) : Nat × va_E)) (gA_ne (by omega))
  | p + 19, h => by
    have e : ∀ a, a ≠ 110 + i → gA (sA σ (110 + i) n v) a = gA σ a := fun a h => gA_ne h
    have eb : ∀ a, gB (sA σ (110 + i) n v) a = gB σ a := fun a => rfl
    show xR τ q (sA σ (110 + i) n v) p = xR τ q σ p
    unfold xR xCore xK
    rw [e 5 (by omega), e 6 (by omega), e 7 (by omega), e 8 (by omega), e 9 (by omega), e 10 (by omega), e 40 (by omega), e 41 (by omega), e 42 (by omega), eb, eb]
    by_cases h1 : p < 4
    · rw [if_pos h1, if_pos h1]
    · rw [if_neg h1, if_neg h1]
      by_cases h2 : p < 8
      · rw [if_pos h2, if_pos h2]
      · rw [if_neg h2, if_neg h2]
        by_cases h3 : p < 14
        · rw [if_pos h3, if_pos h3]
        · rw [if_neg h3, if_neg h3]
          by_cases h4 : p < 22
          · rw [if_pos h4, if_pos h4, e (110 + (p - 14)) (by omega)]
          · rw [if_neg h4, if_neg h4]
            by_cases h5 : p < 30
            · rw [if_pos h5, if_pos h5, e (120 + (p - 22)) (by omega)]
            · rw [if_neg h5, if_neg h5]
theorem xC_Aks {i n : Nat} {v : Int32} (hi : i < 8) : ∀ j, j ≠ 41 + i → xC τ q nc (sA σ (120 + i) n v) j = xC τ q nc σ j
  | 0, _ => rfl
  | 1, _ => rfl
  | 2, _ => rfl
  | 3, _ => rfl
  | 4, _ => rfl
  | 5, _ => rfl
  | 6, _ => rfl
  | 7, _ => rfl
  | 8, _ => congrArg (fun f : Nat → Int32 => ((q 2, .inl (τ.2.2.1, 6, .inl f)) : Nat × va_E)) (gA_ne (by omega))
  | 9, _ => congrArg (fun f : Nat → Int32 => ((q 3, .inl (τ.1, 6, .inl f)) : Nat × va_E)) (gA_ne (by omega))
  | 10, _ => rfl
  | 11, _ => rfl
  | 12, _ => rfl
  | 13, _ => rfl
  | 14, _ => rfl
  | 15, _ => rfl
  | 16, _ => rfl
  | 17, _ => congrArg (fun f : Nat → Int32 => ((q 73, .inl (τ.1, 8, .inl f)) : Nat × va_E)) (gA_ne (by omega))
  | 18, _ => congrArg (fun f : Nat → Int32 => ((q 74, .inl (τ.1, 8, .inl f)) : Nat × va_E)) (gA_ne (by omega))
  | p + 19, h => by
    have e : ∀ a, a ≠ 120 + i → gA (sA σ (120 + i) n v) a = gA σ a := fun a h => gA_ne h
    have eb : ∀ a, gB (sA σ (120 + i) n v) a = gB σ a := fun a => rfl
    show xR τ q (sA σ (120 + i) n v) p = xR τ q σ p
    unfold xR xCore xK
    rw [e 5 (by omega), e 6 (by omega), e 7 (by omega), e 8 (by omega), e 9 (by omega), e 10 (by omega), e 40 (by omega), e 41 (by omega), e 42 (by omega), eb, eb]
    by_cases h1 : p < 4
    · rw [if_pos h1, if_pos h1]
    · rw [if_neg h1, if_neg h1]
      by_cases h2 : p < 8
      · rw [if_pos h2, if_pos h2]
      · rw [if_neg h2, if_neg h2]
        by_cases h3 : p < 14
        · rw [if_pos h3, if_pos h3]
        · rw [if_neg h3, if_neg h3]
          by_cases h4 : p < 22
          · rw [if_pos h4, if_pos h4, e (110 + (p - 14)) (by omega)]
          · rw [if_neg h4, if_neg h4]
            by_cases h5 : p < 30
            · rw [if_pos h5, if_pos h5, e (120 + (p - 22)) (by omega)]
            · rw [if_neg h5, if_neg h5]
end XWS
