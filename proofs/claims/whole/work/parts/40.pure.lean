/-! PURE: small things -/
theorem nI_tl {n : Nat} (h : n < 2 ^ 31) : (nI n).toInt = (n : Int) := nI_toInt h
theorem sub1_tl {n : Nat} (h : n < 2 ^ 30) : (nI n - 1).toInt = (n : Int) - 1 := pk_sub_toInt (a := n) (b := 1) h (by decide)
theorem ixc (x : Int32) {n : Nat} (hn : n < 2 ^ 31) : (x < 0 ∨ nI n ≤ x) ∨ ∃ j : Nat, j < n ∧ x = nI j := by
  rcases pk_ix x hn with h | h | h
  · exact Or.inl (Or.inl h)
  · exact Or.inl (Or.inr h)
  · exact Or.inr h
theorem inR {i N : Nat} (h : i < N) (hN : N < 2 ^ 31) : ¬ (nI i < 0 ∨ N ≤ (nI i).toNatClampNeg) := nI_in h hN
theorem inR' {i N : Nat} (h : i < N) (hN : N < 2 ^ 31) : ¬ (nI i < 0 ∨ N ≤ i) := fun z => z.elim (nI_pos (by omega)) (by omega)
theorem pr1 {α : Type} {a b : α} {s : MS} (h : a = b) : some (a, s) = some (b, s) := by rw [h]
theorem among_in {x lo hi : Int32} (h1 : ¬ x < lo) (h2 : ¬ hi < x) : fX12_among x lo hi = some (1, ()) := by
  unfold fX12_among; rw [if_neg h1, if_neg h2]
theorem among_out {x lo hi : Int32} (h : x < lo ∨ hi < x) : fX12_among x lo hi = some (0, ()) := by
  unfold fX12_among
  by_cases h1 : x < lo
  · rw [if_pos h1]
  · rw [if_neg h1, if_pos (h.resolve_left h1)]
theorem cmp_lt (a b : Int64) : lg_cmp a b < 0 ↔ a < b := by
  unfold lg_cmp
  by_cases h1 : a > b
  · rw [if_pos h1]
    have h2 : ¬ a < b := by
      have h3 : b < a := h1
      rw [Int64.lt_iff_toInt_lt] at h3 ⊢; omega
    simp [h2]
  · rw [if_neg h1]
    by_cases h2 : a = b
    · subst h2; rw [if_pos rfl]; simp [Int64.lt_iff_toInt_lt]
    · rw [if_neg h2]
      have h3 : a < b := by
        have h4 : ¬ a.toInt = b.toInt := fun e => h2 (Int64.toInt_inj.mp e)
        rw [gt_iff_lt, Int64.lt_iff_toInt_lt] at h1
        rw [Int64.lt_iff_toInt_lt]; omega
      simp [h3]
theorem cmp_gt (a b : Int64) : 0 < lg_cmp a b ↔ b < a := by
  unfold lg_cmp
  by_cases h1 : a > b
  · rw [if_pos h1]
    simp [gt_iff_lt.mp h1]
  · rw [if_neg h1]
    have h2 : ¬ b < a := h1
    by_cases h3 : a = b
    · rw [if_pos h3]; simp [h2]
    · rw [if_neg h3]; simp [h2]
theorem i64_lt (x z : Int32) : x.toInt64 < z.toInt64 ↔ x < z := by
  rw [Int64.lt_iff_toInt_lt, Int32.lt_iff_toInt_lt, Int32.toInt_toInt64, Int32.toInt_toInt64]
theorem within_eq (x lo hi : Int32) : fX11_isWithin x.toInt64 lo hi = fX12_among x lo hi := by
  unfold fX11_isWithin fX12_among
  simp only [cmp_lt, cmp_gt, i64_lt]
theorem am01 (x lo hi : Int32) : (fX12_among x lo hi = some (0, ()) ∧ (x < lo ∨ hi < x)) ∨ (fX12_among x lo hi = some (1, ()) ∧ ¬ x < lo ∧ ¬ hi < x) := by
  by_cases h1 : x < lo
  · exact Or.inl ⟨among_out (Or.inl h1), Or.inl h1⟩
  · by_cases h2 : hi < x
    · exact Or.inl ⟨among_out (Or.inr h2), Or.inr h2⟩
    · exact Or.inr ⟨among_in h1 h2, h1, h2⟩
theorem range_of {x : Int32} {n : Nat} (hn : n < 2 ^ 31) (h1 : ¬ x < 0) (h2 : ¬ nI n < x) : ∃ k : Nat, k ≤ n ∧ x = nI k := by
  refine nI_of2 (M := nI n) (nI_toInt hn) h1 ?_
  rw [Int32.lt_iff_toInt_lt] at h2
  rw [Int32.le_iff_toInt_le]; omega
theorem range_of1 {x : Int32} {n : Nat} (hn : n < 2 ^ 31) (h1 : ¬ x < 1) (h2 : ¬ nI n < x) : ∃ k : Nat, 1 ≤ k ∧ k ≤ n ∧ x = nI k := by
  have h0 : ¬ x < 0 := by
    rw [Int32.lt_iff_toInt_lt] at h1 ⊢
    have e1 : (1 : Int32).toInt = 1 := by decide
    have e0 : (0 : Int32).toInt = 0 := by decide
    rw [e1] at h1; rw [e0]; omega
  obtain ⟨k, hk, e⟩ := range_of hn h0 h2
  refine ⟨k, ?_, hk, e⟩
  rcases Nat.eq_zero_or_pos k with h | h
  · subst h; subst e; exact absurd (show nI 0 < 1 by decide) h1
  · exact h
/-! the tests of an index, both sides -/
theorem am_idx_in {i n : Nat} (h : i < n) (hn : n < 2 ^ 30) : fX12_among (nI i) 0 (nI n - 1) = some (1, ()) := by
  refine among_in (nI_pos (by omega)) ?_
  rw [Int32.lt_iff_toInt_lt, sub1_tl hn, nI_tl (by omega)]; omega
theorem am_idx_out {x : Int32} {n : Nat} (hn : n < 2 ^ 30) (h : x < 0 ∨ nI n ≤ x) : fX12_among x 0 (nI n - 1) = some (0, ()) := by
  refine among_out (h.imp id fun h => ?_)
  rw [Int32.le_iff_toInt_le, nI_tl (by omega)] at h
  rw [Int32.lt_iff_toInt_lt, sub1_tl hn]; omega
section PJ
variable {σ : MS} {n i nc : Nat} {x : Int32}
theorem m_noJoint_in (h : gI σ 1 = nI n) (hn : n < 2 ^ 30) (hi : i < n) : fX12_noJoint (nI i) σ = some (0, σ) := by
  unfold fX12_noJoint; rw [h, am_idx_in hi hn]; rfl
theorem m_noJoint_out (h : gI σ 1 = nI n) (hn : n < 2 ^ 30) (hx : x < 0 ∨ nI n ≤ x) : fX12_noJoint x σ = some (1, σ) := by
  unfold fX12_noJoint; rw [h, am_idx_out hn hx]; rfl
theorem m_noCrack_in (h : gI σ 4 = nI n) (hn : n < 2 ^ 30) (hi : i < n) : fX12_noCrack (nI i) σ = some (0, σ) := by
  unfold fX12_noCrack; rw [h, am_idx_in hi hn]; rfl
theorem m_noCrack_out (h : gI σ 4 = nI n) (hn : n < 2 ^ 30) (hx : x < 0 ∨ nI n ≤ x) : fX12_noCrack x σ = some (1, σ) := by
  unfold fX12_noCrack; rw [h, am_idx_out hn hx]; rfl
theorem x_hasJoint_in (h : gI σ 1 = nI n) (hn : n < 2 ^ 30) (hi : i < n) : fX5_hasJoint nc (nI i) σ = some (1, σ) := by
  unfold fX5_hasJoint; rw [h, if_neg (nI_pos (by omega)), if_neg (nI_ge hi (by omega))]
theorem x_hasJoint_out (h : gI σ 1 = nI n) (hx : x < 0 ∨ nI n ≤ x) : fX5_hasJoint nc x σ = some (0, σ) := by
  unfold fX5_hasJoint; rw [h]
  by_cases h1 : x < 0
  · rw [if_pos h1]
  · rw [if_neg h1, if_pos (hx.resolve_left h1)]
theorem x_hasCrack_in (h : gI σ 4 = nI n) (hn : n < 2 ^ 30) (hi : i < n) : fX5_hasCrack nc (nI i) σ = some (1, σ) := by
  unfold fX5_hasCrack; rw [h, if_neg (nI_pos (by omega)), if_neg (nI_ge hi (by omega))]
theorem x_hasCrack_out (h : gI σ 4 = nI n) (hx : x < 0 ∨ nI n ≤ x) : fX5_hasCrack nc x σ = some (0, σ) := by
  unfold fX5_hasCrack; rw [h]
  by_cases h1 : x < 0
  · rw [if_pos h1]
  · rw [if_neg h1, if_pos (hx.resolve_left h1)]
end PJ
theorem b01 {r : Int32} (h : r = 0 ∨ r = 1) {α : Type} {a b : Option α} : (if r = 0 ∨ r = 1 then a else b) = a := if_pos h
theorem x_isKind (x : Int32) : fX11_isKind x = fX12_among x 0 4 := by
  unfold fX11_isKind; rw [within_eq]
  rcases am01 x 0 4 with ⟨h, -⟩ | ⟨h, -⟩ <;> rw [h] <;> rfl
theorem x_isLane (x : Int32) : fX11_isLane x = fX12_among x 0 3 := by
  unfold fX11_isLane; rw [within_eq]
  rcases am01 x 0 3 with ⟨h, -⟩ | ⟨h, -⟩ <;> rw [h] <;> rfl
theorem x_isCore (x : Int32) : fX11_isCore x = fX12_among x 0 3 := by
  unfold fX11_isCore; rw [within_eq]
  rcases am01 x 0 3 with ⟨h, -⟩ | ⟨h, -⟩ <;> rw [h] <;> rfl
theorem x_isPart (x : Int32) : fX11_isPart x = fX12_among x 0 1 := by
  unfold fX11_isPart; rw [within_eq]
  rcases am01 x 0 1 with ⟨h, -⟩ | ⟨h, -⟩ <;> rw [h] <;> rfl
theorem x_isLeastWidth (x : Int32) : fX11_isLeastWidth x = fX12_among x 1 12 := by
  unfold fX11_isLeastWidth; rw [within_eq]
  rcases am01 x 1 12 with ⟨h, -⟩ | ⟨h, -⟩ <;> rw [h] <;> rfl
/-! THE RELATION between the two states, piece by piece -/
/-- joints and what is held -/
def RJ (J : Nat) (x m : MS) : Prop := J ≤ 6 ∧ gI x 1 = nI J ∧ gI m 1 = nI J ∧ (∀ i, i < J → gA x 2 i = gA m 2 i ∧ (gA m 2 i = 0 ∨ (gA m 2 i = 1 ∧ ∃ h : Nat, h ≤ 100 ∧ gA x 3 i = nI h ∧ gA m 3 i = nI h))) ∧ (∀ i, J ≤ i → gA x 2 i = 0)
/-- a crack's fields are in their ranges -/
def CK (J : Nat) (m : MS) (c : Nat) : Prop := ∃ a b k w u s : Nat, a < J ∧ b < J ∧ a ≠ b ∧ k ≤ 4 ∧ w ≤ 12 ∧ 1 ≤ u ∧ u ≤ 12 ∧ s ≤ 999 ∧ gA m 5 c = nI a ∧ gA m 6 c = nI b ∧ gA m 7 c = nI k ∧ gA m 8 c = nI w ∧ gA m 9 c = nI u ∧ gA m 10 c = nI s
/-- cracks -/
def RC (J nc : Nat) (x m : MS) : Prop := nc ≤ 12 ∧ gI x 4 = nI nc ∧ gI m 4 = nI nc ∧ ∀ c, c < nc → (gA x 5 c = gA m 5 c ∧ gA x 6 c = gA m 6 c ∧ gA x 7 c = gA m 7 c ∧ gA x 8 c = gA m 8 c ∧ gA x 9 c = gA m 9 c ∧ gA x 10 c = gA m 10 c) ∧ CK J m c
/-- rate, steps, fault, trace -/
def RS (j : Nat) (x m : MS) : Prop := (∃ r : Nat, 1 ≤ r ∧ r ≤ 100 ∧ gI x 11 = nI r ∧ gI m 11 = nI r) ∧ (∃ s : Nat, s ≤ 256 * j ∧ gI x 12 = nI s ∧ gI m 12 = nI s) ∧ gI x 0 = gI m 0 ∧ gI x 38 = gI m 38
/-- what was kept: the reference's slot t is the class's slot (p + 8 - K + t) % 8 -/
def RK (j nc : Nat) (x m : MS) : Prop := ∃ K p : Nat, K ≤ 8 ∧ p < 8 ∧ gI x 29 = nI K ∧ gI m 29 = nI K ∧ gI x 58 = nI p ∧ ∀ t, t < K → ∃ n s : Nat, n ≤ nc ∧ s ≤ 256 * j ∧ gA x 73 ((p + 8 - K + t) % 8) = nI n ∧ gA m 30 t = nI n ∧ gA x 74 ((p + 8 - K + t) % 8) = nI s ∧ gA m 31 t = nI s ∧ ∀ c, c < n → ∃ w z : Nat, w ≤ 12 ∧ z ≤ 999 ∧ gA x (110 + (p + 8 - K + t) % 8) c = nI w ∧ gA m 32 (12 * t + c) = nI w ∧ gA x (120 + (p + 8 - K + t) % 8) c = nI z ∧ gA m 33 (12 * t + c) = nI z
/-- cores -/
def RO (x m : MS) : Prop := ∀ k, k < 4 → (gA x 40 k = 0 ∧ gA m 34 k = -1) ∨ (gA x 40 k = 1 ∧ ∃ n l : Nat, n ≤ 24 ∧ l ≤ 3 ∧ gA x 42 k = nI n ∧ gA m 34 k = nI n ∧ gA x 41 k = nI l ∧ gA m 35 k = nI l ∧ ∀ i, i < n → gB x (90 + k) i = gB m 36 (24 * k + i))
/-- the water's cache: if it is said to be of now, it is (V) -/
def RW (V : MS → Prop) (j : Nat) (x : MS) : Prop := ∃ c : Nat, c ≤ 256 * j ∧ gI x 50 = nI c ∧ (gI x 53 = -1 ∨ ∃ d : Nat, d ≤ c ∧ gI x 53 = nI d ∧ (d = c → V x))
def RelV (V : Nat → MS → Prop) (j nc : Nat) (x m : MS) : Prop := ∃ J : Nat, RJ J x m ∧ RC J nc x m ∧ RS j x m ∧ RK j nc x m ∧ RO x m ∧ RW (V nc) j x
theorem RS.next {j : Nat} {x m : MS} (h : RS j x m) : RS (j + 1) x m := ⟨h.1, h.2.1.imp fun _ z => ⟨by omega, z.2⟩, h.2.2⟩
theorem RK.next {j nc : Nat} {x m : MS} (h : RK j nc x m) : RK (j + 1) nc x m := by
  obtain ⟨K, p, h1, h2, h3, h4, h5, h6⟩ := h
  exact ⟨K, p, h1, h2, h3, h4, h5, fun t ht => by obtain ⟨n, s, a, b, c⟩ := h6 t ht; exact ⟨n, s, a, by omega, c⟩⟩
theorem RK.keep {j nc : Nat} {x m x' m' : MS} (h : RK j nc x m) (e1 : gI x' 29 = gI x 29) (e2 : gI m' 29 = gI m 29) (e3 : gI x' 58 = gI x 58) (e4 : gA x' 73 = gA x 73) (e5 : gA x' 74 = gA x 74) (e6 : ∀ a, 110 ≤ a → gA x' a = gA x a) (f1 : gA m' 30 = gA m 30) (f2 : gA m' 31 = gA m 31) (f3 : gA m' 32 = gA m 32) (f4 : gA m' 33 = gA m 33) : RK (j + 1) nc x' m' := by
  obtain ⟨K, p, h1, h2, h3, h4, h5, h6⟩ := h
  refine ⟨K, p, h1, h2, by rw [e1]; exact h3, by rw [e2]; exact h4, by rw [e3]; exact h5, fun t ht => ?_⟩
  obtain ⟨n, s, a, b, c1, c2, c3, c4, c5⟩ := h6 t ht
  refine ⟨n, s, a, by omega, by rw [e4]; exact c1, by rw [f1]; exact c2, by rw [e5]; exact c3, by rw [f2]; exact c4, fun c hc => ?_⟩
  rw [e6 _ (by omega), e6 _ (by omega), f3, f4]
  exact c5 c hc
theorem RW.next {V : MS → Prop} {j : Nat} {x : MS} (h : RW V j x) : RW V (j + 1) x := h.imp fun _ z => ⟨by omega, z.2⟩
theorem RelV.next {V : Nat → MS → Prop} {j nc : Nat} {x m : MS} (h : RelV V j nc x m) : RelV V (j + 1) nc x m := by
  obtain ⟨J, a, b, c, d, e, f⟩ := h
  exact ⟨J, a, b, c.next, d.next, e, f.next⟩
/-- the rock has changed: the cache isn't said to be of now any more -/
theorem RW.step {V V' : MS → Prop} {j : Nat} {x x' : MS} (h : RW V j x) (hj : j < 512) (h1 : gI x' 50 = gI x 50 + 1) (h2 : gI x' 53 = gI x 53) : RW V' (j + 1) x' := by
  obtain ⟨c, hc, e, r⟩ := h
  refine ⟨c + 1, by omega, by rw [h1, e]; exact nI_1 c, ?_⟩
  rw [h2]
  rcases r with r | ⟨d, hd, ed, -⟩
  · exact Or.inl r
  · exact Or.inr ⟨d, by omega, ed, fun h => absurd h (by omega)⟩
