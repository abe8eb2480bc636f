/-! where ways begin and end -/
def mkp (p : Nat → Bool) : Nat → Nat
  | 0 => 0
  | k + 1 => if p k then mkp p k ||| 2 ^ k else mkp p k
theorem mkp_bit {p : Nat → Bool} {j : Nat} : ∀ k, (mkp p k).testBit j = (decide (j < k) && p j) := by
  intro k
  induction k with
  | zero => simp [mkp]
  | succ k ih =>
    simp only [mkp]
    by_cases e : j = k
    · subst e
      cases h : p j with
      | true => rw [if_pos rfl, Nat.testBit_or, Nat.testBit_two_pow]; simp
      | false => rw [if_neg Bool.noConfusion, ih]; simp [h]
    · have : (2 ^ k).testBit j = false := by rw [Nat.testBit_two_pow]; exact decide_eq_false (fun z => e z.symm)
      have e2 : decide (j < k + 1) = decide (j < k) := by
        by_cases z : j < k
        · rw [decide_eq_true z, decide_eq_true (by omega)]
        · rw [decide_eq_false z, decide_eq_false (by omega)]
      cases h : p k with
      | true => rw [if_pos rfl, Nat.testBit_or, this, Bool.or_false, ih, e2]
      | false => rw [if_neg Bool.noConfusion, ih, e2]
theorem mkp_lt {p : Nat → Bool} : ∀ k, mkp p k < 2 ^ k := by
  intro k
  induction k with
  | zero => exact (show (0 : Nat) < 1 by decide)
  | succ k ih =>
    simp only [mkp]
    have h1 : 2 ^ k < 2 ^ (k + 1) := Nat.pow_lt_pow_right (by decide) (by omega)
    cases p k with
    | true => rw [if_pos rfl]; exact Nat.or_lt_two_pow (by omega) h1
    | false => rw [if_neg Bool.noConfusion]; omega
/-- held, and of the first k held ones none is higher -/
def tp (G : GD) (v : Nat → Int) (k j : Nat) : Bool := qH G j && decide (∀ i, i < k → qH G i = true → v i ≤ v j)
section ENDS
variable {G : GD} {s s' x x' m m' : MS} {nc : Nat}
theorem tp_n {v : Nat → Int} {k j : Nat} (h : qH G k = false) : tp G v (k + 1) j = tp G v k j := by
  unfold tp
  congr 1
  have : (∀ i, i < k + 1 → qH G i = true → v i ≤ v j) ↔ (∀ i, i < k → qH G i = true → v i ≤ v j) := by
    constructor
    · intro z i hi; exact z i (by omega)
    · intro z i hi hH
      by_cases e : i = k
      · subst e; rw [h] at hH; exact Bool.noConfusion hH
      · exact z i (by omega) hH
  by_cases z : ∀ i, i < k → qH G i = true → v i ≤ v j
  · rw [decide_eq_true z, decide_eq_true (this.mpr z)]
  · rw [decide_eq_false z, decide_eq_false (fun y => z (this.mp y))]
theorem tp_t {v : Nat → Int} {k j : Nat} : tp G v k j = true ↔ qH G j = true ∧ ∀ i, i < k → qH G i = true → v i ≤ v j := by
  unfold tp; rw [Bool.and_eq_true, decide_eq_true_eq]
theorem bool_eq {a b : Bool} (h : a = true ↔ b = true) : a = b := by
  cases a <;> cases b <;> simp at h ⊢
/-- the masks while joints are gone through -/
theorem mk_step {v : Nat → Int} {k : Nat} {M : Int} (hM1 : ∀ i, i < k → qH G i = true → v i ≤ M) (hM2 : M = -101 ∨ ∃ i, i < k ∧ qH G i = true ∧ v i = M) (hv : ∀ i, -100 ≤ v i) :
    (qH G k = false → mkp (tp G v (k + 1)) (k + 1) = mkp (tp G v k) k) ∧ (qH G k = true → M < v k → mkp (tp G v (k + 1)) (k + 1) = 0 ||| 2 ^ k) ∧ (qH G k = true → v k = M → mkp (tp G v (k + 1)) (k + 1) = mkp (tp G v k) k ||| 2 ^ k) ∧ (qH G k = true → v k < M → mkp (tp G v (k + 1)) (k + 1) = mkp (tp G v k) k) := by
  have dk : ∀ j, j ≠ k → decide (j < k + 1) = decide (j < k) := fun j e => by
    by_cases z : j < k
    · rw [decide_eq_true z, decide_eq_true (by omega)]
    · rw [decide_eq_false z, decide_eq_false (by omega)]
  refine ⟨fun h => ?_, fun h hlt => ?_, fun h he => ?_, fun h hlt => ?_⟩
  · refine Nat.eq_of_testBit_eq fun j => ?_
    rw [mkp_bit, mkp_bit, tp_n h]
    by_cases e : j = k
    · subst e
      have : tp G v j j = false := by unfold tp; rw [h]; rfl
      rw [this]; simp
    · rw [dk j e]
  · refine Nat.eq_of_testBit_eq fun j => ?_
    rw [mkp_bit, Nat.zero_or, Nat.testBit_two_pow]
    by_cases e : j = k
    · subst e
      have : tp G v (j + 1) j = true := tp_t.mpr ⟨h, fun i hi hH => by
        by_cases z : i = j
        · rw [z]; exact Int.le_refl _
        · have := hM1 i (by omega) hH; omega⟩
      rw [this]; simp
    · rw [decide_eq_false (show ¬ k = j from fun z => e z.symm), dk j e]
      by_cases z : j < k
      · have : tp G v (k + 1) j = false := by
          cases y : tp G v (k + 1) j with
          | false => rfl
          | true =>
            obtain ⟨a, b⟩ := tp_t.mp y
            have h1 := b k (by omega) h
            have h2 := hM1 j z a
            omega
        rw [this]; simp
      · rw [decide_eq_false z]; rfl
  · refine Nat.eq_of_testBit_eq fun j => ?_
    rw [mkp_bit, Nat.testBit_or, mkp_bit, Nat.testBit_two_pow]
    by_cases e : j = k
    · subst e
      have : tp G v (j + 1) j = true := tp_t.mpr ⟨h, fun i hi hH => by
        by_cases z : i = j
        · rw [z]; exact Int.le_refl _
        · have := hM1 i (by omega) hH; omega⟩
      rw [this]; simp
    · rw [decide_eq_false (show ¬ k = j from fun z => e z.symm), dk j e, Bool.or_false]
      by_cases z : j < k
      · congr 1
        refine bool_eq ?_
        rw [tp_t, tp_t]
        constructor
        · rintro ⟨a, b⟩; exact ⟨a, fun i hi => b i (by omega)⟩
        · rintro ⟨a, b⟩
          refine ⟨a, fun i hi hH => ?_⟩
          by_cases y : i = k
          · subst y
            rcases hM2 with hm | ⟨i', h1, h2, h3⟩
            · have := hv i; omega
            · have := b i' h1 h2; omega
          · exact b i (by omega) hH
      · rw [decide_eq_false z]; rfl
  · refine Nat.eq_of_testBit_eq fun j => ?_
    rw [mkp_bit, mkp_bit]
    have hex : ∃ i, i < k ∧ qH G i = true ∧ v i = M := by
      rcases hM2 with hm | h'
      · have := hv k; omega
      · exact h'
    obtain ⟨i', h1, h2, h3⟩ := hex
    by_cases e : j = k
    · subst e
      have : tp G v (j + 1) j = false := by
        cases y : tp G v (j + 1) j with
        | false => rfl
        | true =>
          have := (tp_t.mp y).2 i' (by omega) h2
          omega
      rw [this]; simp
    · rw [dk j e]
      by_cases z : j < k
      · congr 1
        refine bool_eq ?_
        rw [tp_t, tp_t]
        constructor
        · rintro ⟨a, b⟩; exact ⟨a, fun i hi => b i (by omega)⟩
        · rintro ⟨a, b⟩
          refine ⟨a, fun i hi hH => ?_⟩
          by_cases y : i = k
          · subst y; have := b i' h1 h2; omega
          · exact b i (by omega) hH
      · rw [decide_eq_false z]; rfl
theorem most_L (hw : Wf G) (hp : Pc G x) {sg : Int32} {v : Nat → Int} (hv : ∀ i, -100 ≤ v i) (hval : ∀ i, i < qJ G → qH G i = true → (sg * gA x 3 i).toInt = v i) : ∀ (d k fu : Nat) (mo : Int32) (M : Int), k + d = qJ G → d < fu → mo.toInt = M → (∀ i, i < k → qH G i = true → v i ≤ M) → (M = -101 ∨ ∃ i, i < k ∧ qH G i = true ∧ v i = M) → fX5_heldMost_L8 nc sg fu mo (nI (mkp (tp G v k) k)) (nI k) x = some (nI (mkp (tp G v (qJ G)) (qJ G)), x) := by
  intro d
  have hJ := hw.1
  induction d with
  | zero =>
    intro k fu mo M hk hf _ _ _
    obtain ⟨f, rfl⟩ : ∃ f, fu = f + 1 := ⟨fu - 1, by omega⟩
    obtain rfl : k = qJ G := by omega
    rw [fX5_heldMost_L8_s, hp.1, if_pos (nI_le (Nat.le_refl _) (by omega))]
  | succ d ih =>
    intro k fu mo M hk hf hmo hM1 hM2
    obtain ⟨f, rfl⟩ : ∃ f, fu = f + 1 := ⟨fu - 1, by omega⟩
    have hci : (nI k).toNatClampNeg = k := nI_clamp (by omega)
    have c2 : ¬ (nI k < 0 ∨ 6 ≤ k) := inR' (by omega) (by decide)
    obtain ⟨s1, s2, s3, s4⟩ := mk_step hM1 hM2 hv
    have h64 : mkp (tp G v k) k < 64 := Nat.lt_of_lt_of_le (mkp_lt k) (Nat.pow_le_pow_right (n := 2) (j := 6) (by decide) (by omega))
    have go : ∀ ones : Int32, fX5_heldMost_L8 nc sg (f + 1) mo ones (nI k) x = if gA x 2 k = 0 then fX5_heldMost_L8 nc sg f mo ones (nI (k + 1)) x else if sg * gA x 3 k ≤ mo then (if ¬ sg * gA x 3 k = mo then fX5_heldMost_L8 nc sg f mo ones (nI (k + 1)) x else fX5_heldMost_L8 nc sg f mo (ones ||| (1 <<< (nI k &&& 31))) (nI (k + 1)) x) else fX5_heldMost_L8 nc sg f (sg * gA x 3 k) ((0 : Int32) ||| (1 <<< (nI k &&& 31))) (nI (k + 1)) x := by
      intro ones
      rw [fX5_heldMost_L8_s]
      unfold fX5_heldMost_J49 fX5_heldMost_J72
      simp only [hp.1, hci, if_neg (nI_ge (show k < qJ G by omega) (by omega)), if_pos c2, nI_1]
      by_cases h2 : gA x 2 k = 0
      · rw [if_pos h2, if_pos h2, if_pos h2]
      · by_cases h3 : sg * gA x 3 k ≤ mo
        · simp only [h2, h3, if_true, if_false]
        · simp only [h2, h3, if_true, if_false, not_true_eq_false]
    rw [go, hp.2.2.1 k (by omega)]
    cases hH : qH G k with
    | false =>
      rw [if_pos bv0]
      have := ih (k + 1) f mo M (by omega) (by omega) hmo (fun i hi hHi => by
        by_cases e : i = k
        · subst e; rw [hH] at hHi; exact Bool.noConfusion hHi
        · exact hM1 i (by omega) hHi) (hM2.imp id fun ⟨i, a, b⟩ => ⟨i, by omega, b⟩)
      rw [s1 hH] at this; exact this
    | true =>
      have hval' := hval k (by omega) hH
      rw [if_neg (by decide)]
      by_cases hgt : M < v k
      · have e1 : ¬ sg * gA x 3 k ≤ mo := by rw [Int32.le_iff_toInt_le, hval', hmo]; omega
        rw [if_neg e1, show (0 : Int32) ||| (1 <<< (nI k &&& 31)) = nI (0 ||| 2 ^ k) from w_or1 0 (by decide) k (by omega)]
        have := ih (k + 1) f (sg * gA x 3 k) (v k) (by omega) (by omega) hval' (fun i hi hHi => by
          by_cases e : i = k
          · rw [e]; exact Int.le_refl _
          · have := hM1 i (by omega) hHi; omega) (Or.inr ⟨k, by omega, hH, rfl⟩)
        rw [s2 hH hgt] at this; exact this
      · have e1 : sg * gA x 3 k ≤ mo := by rw [Int32.le_iff_toInt_le, hval', hmo]; omega
        rw [if_pos e1]
        have keep1 : ∀ i, i < k + 1 → qH G i = true → v i ≤ M := fun i hi hHi => by
          by_cases e : i = k
          · rw [e]; omega
          · exact hM1 i (by omega) hHi
        have keep2 : M = -101 ∨ ∃ i, i < k + 1 ∧ qH G i = true ∧ v i = M := hM2.imp id fun ⟨i, a, b⟩ => ⟨i, by omega, b⟩
        have := ih (k + 1) f mo M (by omega) (by omega) hmo keep1 keep2
        by_cases he : v k = M
        · have e2 : sg * gA x 3 k = mo := Int32.toInt_inj.mp (by rw [hval', hmo, he])
          rw [if_neg (fun z => z e2), w_or1 _ h64 k (by omega)]
          rw [s3 hH he] at this; exact this
        · have e2 : ¬ sg * gA x 3 k = mo := fun z => he (by rw [← hval', z, hmo])
          rw [if_pos e2]
          rw [s4 hH (by omega)] at this; exact this
def hv1 (G : GD) (i : Nat) : Int := (qh G i : Int)
def hv2 (G : GD) (i : Nat) : Int := -(qh G i : Int)
def sT (G : GD) : Nat := mkp (tp G (hv1 G) (qJ G)) (qJ G)
def eB (G : GD) : Nat := mkp (tp G (hv2 G) (qJ G)) (qJ G)
def stq (G : GD) : Nat := if sT G &&& eB G = 0 then sT G else 0
def enq (G : GD) : Nat := if sT G &&& eB G = 0 then eB G else 0
theorem neg_tl : ∀ h, h < 101 → ((-1 : Int32) * nI h).toInt = -(h : Int) := by decide +kernel
theorem x_most1 (hw : Wf G) (hp : Pc G x) : fX5_heldMost nc 1 x = some (nI (sT G), x) := by
  have hJ := hw.1
  unfold fX5_heldMost
  have := most_L (nc := nc) hw hp (sg := 1) (v := hv1 G) (fun i => by unfold hv1; omega) (fun i hi hH => by
    have := hw.2.2.2.1 i
    rw [hp.2.2.2.1 i hi hH, Int32.one_mul, nI_toInt (by omega)]; rfl) (qJ G) 0 FU (-101) (-101) (by omega) (by show qJ G < 1000000; omega) (by decide) (fun i hi => absurd hi (by omega)) (Or.inl rfl)
  rw [show fX5_heldMost_L8 nc 1 FU (-101) 0 0 x = some (nI (sT G), x) from this]; rfl
theorem x_most2 (hw : Wf G) (hp : Pc G x) : fX5_heldMost nc (-1) x = some (nI (eB G), x) := by
  have hJ := hw.1
  unfold fX5_heldMost
  have := most_L (nc := nc) hw hp (sg := -1) (v := hv2 G) (fun i => by unfold hv2; have := hw.2.2.2.1 i; omega) (fun i hi hH => by
    have := hw.2.2.2.1 i
    rw [hp.2.2.2.1 i hi hH, neg_tl _ (by omega)]; rfl) (qJ G) 0 FU (-101) (-101) (by omega) (by show qJ G < 1000000; omega) (by decide) (fun i hi => absurd hi (by omega)) (Or.inl rfl)
  rw [show fX5_heldMost_L8 nc (-1) FU (-101) 0 0 x = some (nI (eB G), x) from this]; rfl
theorem sT64 (hw : Wf G) : sT G < 2 ^ qJ G ∧ sT G < 64 := ⟨mkp_lt _, Nat.lt_of_lt_of_le (mkp_lt _) (pow6 hw)⟩
theorem eB64 (hw : Wf G) : eB G < 2 ^ qJ G ∧ eB G < 64 := ⟨mkp_lt _, Nat.lt_of_lt_of_le (mkp_lt _) (pow6 hw)⟩
theorem stq64 (hw : Wf G) : stq G < 2 ^ qJ G ∧ stq G < 64 := by
  unfold stq
  by_cases h : sT G &&& eB G = 0
  · rw [if_pos h]; exact sT64 hw
  · rw [if_neg h]; exact ⟨Nat.two_pow_pos _, by decide⟩
theorem enq64 (hw : Wf G) : enq G < 2 ^ qJ G ∧ enq G < 64 := by
  unfold enq
  by_cases h : sT G &&& eB G = 0
  · rw [if_pos h]; exact eB64 hw
  · rw [if_neg h]; exact ⟨Nat.two_pow_pos _, by decide⟩
theorem se_disj (G : GD) : stq G &&& enq G = 0 := by
  unfold stq enq
  by_cases h : sT G &&& eB G = 0
  · rw [if_pos h, if_pos h]; exact h
  · rw [if_neg h, if_neg h]; rfl
/-- the class knows the ends -/
theorem x_findEnds (hw : Wf G) (hp : Pc G x) : ∃ x', fX9_findEnds nc x = some ((), x') ∧ gI x' 54 = nI (stq G) ∧ gI x' 55 = nI (enq G) ∧ (∀ k, k ≠ 54 → k ≠ 55 → gI x' k = gI x k) ∧ x'.2 = x.2 := by
  have p1 : Pc G (sI x 54 (nI (sT G))) := hp.frame rfl rfl (fun _ _ => rfl)
  have base : fX9_findEnds nc x = if nI (sT G) &&& nI (eB G) = 0 then some ((), sI (sI x 54 (nI (sT G))) 55 (nI (eB G))) else some ((), sI (sI (sI (sI x 54 (nI (sT G))) 55 (nI (eB G))) 54 0) 55 0) := by
    unfold fX9_findEnds
    rw [x_most1 hw hp]
    try rw [bnd_k]
    try simp only [lets]
    show bnd (fX5_heldMost nc (-1) (sI x 54 (nI (sT G)))) _ = _
    rw [x_most2 hw p1]; rfl
  rw [base, w_and _ (sT64 hw).2 _ (eB64 hw).2]
  have hlt : sT G &&& eB G < 2 ^ 31 := Nat.lt_of_le_of_lt Nat.and_le_left (by have := (sT64 hw).2; omega)
  by_cases h : sT G &&& eB G = 0
  · rw [if_pos (by rw [h]; rfl)]
    refine ⟨_, rfl, ?_, ?_, fun k h1 h2 => by rw [gI_ne h2, gI_ne h1], rfl⟩
    · unfold stq; rw [if_pos h]; rfl
    · unfold enq; rw [if_pos h]; rfl
  · rw [if_neg (nI_ne0 (by omega) hlt)]
    refine ⟨_, rfl, ?_, ?_, fun k h1 h2 => by rw [gI_ne h2, gI_ne h1, gI_ne h2, gI_ne h1], rfl⟩
    · unfold stq; rw [if_neg h]; rfl
    · unfold enq; rw [if_neg h]; rfl
/-! the reference knows the ends -/
theorem ends_L13 (hw : Wf G) : ∀ (d k fu : Nat) (m : MS) (a b : Int), k + d = qJ G → d < fu → Pc G m → (gI m 23).toInt = a → (gI m 24).toInt = b → (∀ i, i < k → qH G i = true → (qh G i : Int) ≤ a ∧ b ≤ (qh G i : Int)) → (a = -1 ∧ b = 101 ∧ (∀ i, i < k → qH G i = false) ∨ (∃ i, i < k ∧ qH G i = true ∧ (qh G i : Int) = a) ∧ ∃ i, i < k ∧ qH G i = true ∧ (qh G i : Int) = b) → ∃ (m' : MS) (a b : Int), fX12_findEnds_L13 fu (nI k) m = some ((), m') ∧ (∀ k, k ≠ 23 → k ≠ 24 → gI m' k = gI m k) ∧ m'.2 = m.2 ∧ (gI m' 23).toInt = a ∧ (gI m' 24).toInt = b ∧ (∀ i, i < qJ G → qH G i = true → (qh G i : Int) ≤ a ∧ b ≤ (qh G i : Int)) ∧ (a = -1 ∧ b = 101 ∧ (∀ i, i < qJ G → qH G i = false) ∨ (∃ i, i < qJ G ∧ qH G i = true ∧ (qh G i : Int) = a) ∧ ∃ i, i < qJ G ∧ qH G i = true ∧ (qh G i : Int) = b) := by
  intro d
  have hJ := hw.1
  induction d with
  | zero =>
    intro k fu m a b hk hf hp ha hb h1 h2
    obtain ⟨f, rfl⟩ : ∃ f, fu = f + 1 := ⟨fu - 1, by omega⟩
    obtain rfl : k = qJ G := by omega
    exact ⟨m, a, b, by rw [fX12_findEnds_L13_s, hp.1, if_pos (nI_le (Nat.le_refl _) (by omega))], fun _ _ _ => rfl, rfl, ha, hb, h1, h2⟩
  | succ d ih =>
    intro k fu m a b hk hf hp ha hb h1 h2
    obtain ⟨f, rfl⟩ : ∃ f, fu = f + 1 := ⟨fu - 1, by omega⟩
    have hci : (nI k).toNatClampNeg = k := nI_clamp (by omega)
    have c2 : ¬ (nI k < 0 ∨ 6 ≤ k) := inR' (by omega) (by decide)
    have e2 : gA m 2 k = bv (qH G k) := hp.2.2.1 k (by omega)
    cases hH : qH G k with
    | false =>
      rw [hH] at e2
      have e20 : gA m 2 k = 0 := e2
      obtain ⟨m', a', b', e, q1, q2, q3⟩ := ih (k + 1) f (sI (sI m 23 (gI m 23)) 24 (gI m 24)) a b (by omega) (by omega) (hp.frame rfl rfl (fun _ _ => rfl)) ha hb (fun i hi hHi => by
        by_cases z : i = k
        · subst z; rw [hH] at hHi; exact Bool.noConfusion hHi
        · exact h1 i (by omega) hHi) (h2.imp (fun ⟨u, v, w⟩ => ⟨u, v, fun i hi => by
          by_cases z : i = k
          · subst z; exact hH
          · exact w i (by omega)⟩) (fun ⟨⟨i, u⟩, ⟨i', u'⟩⟩ => ⟨⟨i, by omega, u.2⟩, ⟨i', by omega, u'.2⟩⟩))
      refine ⟨m', a', b', ?_, fun k h1 h2 => by rw [q1 k h1 h2, gI_ne h2, gI_ne h1], q2, q3⟩
      rw [fX12_findEnds_L13_s]
      unfold fX12_findEnds_J53 fX12_findEnds_J57 fX12_findEnds_J92 fX12_findEnds_J96
      have e20' : gA (sI m 23 (gI m 23)) 2 k = 0 := e20
      simp only [hp.1, hci, if_neg (nI_ge (show k < qJ G by omega) (by omega)), if_pos c2, e20, lets, e20', nI_1]
      exact e
    | true =>
      rw [hH] at e2
      have e21 : gA m 2 k = 1 := e2
      have hh := hw.2.2.2.1 k
      have e3 : gA m 3 k = nI (qh G k) := hp.2.2.2.1 k (by omega) hH
      have t3 : (gA m 3 k).toInt = (qh G k : Int) := by rw [e3, nI_toInt (by omega)]
      -- the new highest and lowest
      have main : ∀ (v w : Int32), (v.toInt = if a < (qh G k : Int) then (qh G k : Int) else a) → (w.toInt = if (qh G k : Int) < b then (qh G k : Int) else b) → fX12_findEnds_L13 (f + 1) (nI k) m = fX12_findEnds_L13 f (nI (k + 1)) (sI (sI m 23 v) 24 w) → ∃ (m' : MS) (a b : Int), fX12_findEnds_L13 (f + 1) (nI k) m = some ((), m') ∧ (∀ k, k ≠ 23 → k ≠ 24 → gI m' k = gI m k) ∧ m'.2 = m.2 ∧ (gI m' 23).toInt = a ∧ (gI m' 24).toInt = b ∧ (∀ i, i < qJ G → qH G i = true → (qh G i : Int) ≤ a ∧ b ≤ (qh G i : Int)) ∧ (a = -1 ∧ b = 101 ∧ (∀ i, i < qJ G → qH G i = false) ∨ (∃ i, i < qJ G ∧ qH G i = true ∧ (qh G i : Int) = a) ∧ ∃ i, i < qJ G ∧ qH G i = true ∧ (qh G i : Int) = b) := by
        intro v w hv hw' hgo
        obtain ⟨m', a', b', e, q1, q2, q3⟩ := ih (k + 1) f (sI (sI m 23 v) 24 w) _ _ (by omega) (by omega) (hp.frame rfl rfl (fun _ _ => rfl)) hv hw' (fun i hi hHi => by
          by_cases z : i = k
          · subst z
            constructor
            · by_cases y : a < (qh G i : Int)
              · rw [if_pos y]; exact Int.le_refl _
              · rw [if_neg y]; omega
            · by_cases y : (qh G i : Int) < b
              · rw [if_pos y]; exact Int.le_refl _
              · rw [if_neg y]; omega
          · obtain ⟨u1, u2⟩ := h1 i (by omega) hHi
            constructor
            · by_cases y : a < (qh G k : Int)
              · rw [if_pos y]; omega
              · rw [if_neg y]; exact u1
            · by_cases y : (qh G k : Int) < b
              · rw [if_pos y]; omega
              · rw [if_neg y]; exact u2) (Or.inr ⟨by
          by_cases y : a < (qh G k : Int)
          · exact ⟨k, by omega, hH, (if_pos y).symm⟩
          · rw [if_neg y]
            rcases h2 with ⟨u, -, -⟩ | ⟨⟨i, u⟩, -⟩
            · omega
            · exact ⟨i, by omega, u.2⟩, by
          by_cases y : (qh G k : Int) < b
          · exact ⟨k, by omega, hH, (if_pos y).symm⟩
          · rw [if_neg y]
            rcases h2 with ⟨-, u, -⟩ | ⟨-, ⟨i, u⟩⟩
            · omega
            · exact ⟨i, by omega, u.2⟩⟩)
        exact ⟨m', a', b', by rw [hgo]; exact e, fun k h1 h2 => by rw [q1 k h1 h2, gI_ne h2, gI_ne h1], q2, q3⟩
      have ne10 : ¬ (1 : Int32) = 0 := by decide
      by_cases y1 : a < (qh G k : Int)
      · have c23 : ¬ gA m 3 k ≤ gI m 23 := by rw [Int32.le_iff_toInt_le, t3, ha]; omega
        have e20' : gA (sI m 23 (gA m 3 k)) 2 k = 1 := e21
        by_cases y2 : (qh G k : Int) < b
        · have c24 : ¬ gI (sI m 23 (gA m 3 k)) 24 ≤ gA (sI m 23 (gA m 3 k)) 3 k := by
            show ¬ gI m 24 ≤ gA m 3 k
            rw [Int32.le_iff_toInt_le, t3, hb]; omega
          refine main (gA m 3 k) (gA m 3 k) (by rw [if_pos y1]; exact t3) (by rw [if_pos y2]; exact t3) ?_
          rw [fX12_findEnds_L13_s]
          unfold fX12_findEnds_J57 fX12_findEnds_J96
          simp only [hp.1, hci, if_neg (nI_ge (show k < qJ G by omega) (by omega)), if_pos c2, e21, if_neg ne10, if_neg c23, lets, e20', if_neg c24, nI_1]; rfl
        · have c24 : gI (sI m 23 (gA m 3 k)) 24 ≤ gA (sI m 23 (gA m 3 k)) 3 k := by
            show gI m 24 ≤ gA m 3 k
            rw [Int32.le_iff_toInt_le, t3, hb]; omega
          refine main (gA m 3 k) (gI m 24) (by rw [if_pos y1]; exact t3) (by rw [if_neg y2]; exact hb) ?_
          rw [fX12_findEnds_L13_s]
          unfold fX12_findEnds_J57 fX12_findEnds_J92 fX12_findEnds_J96
          simp only [hp.1, hci, if_neg (nI_ge (show k < qJ G by omega) (by omega)), if_pos c2, e21, if_neg ne10, if_neg c23, lets, e20', if_pos c24, nI_1]; rfl
      · have c23 : gA m 3 k ≤ gI m 23 := by rw [Int32.le_iff_toInt_le, t3, ha]; omega
        have e20' : gA (sI m 23 (gI m 23)) 2 k = 1 := e21
        by_cases y2 : (qh G k : Int) < b
        · have c24 : ¬ gI (sI m 23 (gI m 23)) 24 ≤ gA (sI m 23 (gI m 23)) 3 k := by
            show ¬ gI m 24 ≤ gA m 3 k
            rw [Int32.le_iff_toInt_le, t3, hb]; omega
          refine main (gI m 23) (gA m 3 k) (by rw [if_neg y1]; exact ha) (by rw [if_pos y2]; exact t3) ?_
          rw [fX12_findEnds_L13_s]
          unfold fX12_findEnds_J53 fX12_findEnds_J57 fX12_findEnds_J96
          simp only [hp.1, hci, if_neg (nI_ge (show k < qJ G by omega) (by omega)), if_pos c2, e21, if_neg ne10, if_pos c23, lets, e20', if_neg c24, nI_1]; rfl
        · have c24 : gI (sI m 23 (gI m 23)) 24 ≤ gA (sI m 23 (gI m 23)) 3 k := by
            show gI m 24 ≤ gA m 3 k
            rw [Int32.le_iff_toInt_le, t3, hb]; omega
          refine main (gI m 23) (gI m 24) (by rw [if_neg y1]; exact ha) (by rw [if_neg y2]; exact hb) ?_
          rw [fX12_findEnds_L13_s]
          unfold fX12_findEnds_J53 fX12_findEnds_J57 fX12_findEnds_J92 fX12_findEnds_J96
          simp only [hp.1, hci, if_neg (nI_ge (show k < qJ G by omega) (by omega)), if_pos c2, e21, if_neg ne10, if_pos c23, lets, e20', if_pos c24, nI_1]; rfl
theorem m_findEnds (hw : Wf G) (hp : Pc G m) : ∃ (m' : MS) (fl' : Bool), fX12_findEnds m = some (bv fl', m') ∧ (∀ k, k ≠ 23 → k ≠ 24 → gI m' k = gI m k) ∧ m'.2 = m.2 ∧ (fl' = false → stq G = 0) ∧ (fl' = true → ∀ i, i < qJ G → (stq G).testBit i = (qH G i && decide (gA m 3 i = gI m' 23)) ∧ (enq G).testBit i = (qH G i && decide (gA m 3 i = gI m' 24))) := by
  have hJ := hw.1
  obtain ⟨m', a, b, e, q1, q2, ha, hb, h1, h2⟩ := ends_L13 hw (qJ G) 0 FU (sI (sI m 23 (-1)) 24 101) (-1) 101 (by omega) (by show qJ G < 1000000; omega) (hp.frame rfl rfl (fun _ _ => rfl)) (show (-1 : Int32).toInt = -1 by decide) (show (101 : Int32).toInt = 101 by decide) (fun i hi => absurd hi (by omega)) (Or.inl ⟨rfl, rfl, fun i hi => absurd hi (by omega)⟩)
  have go : fX12_findEnds m = if gI m' 23 ≤ gI m' 24 then some (0, m') else some (1, m') := by
    unfold fX12_findEnds
    try rw [bnd_k]
    try simp only [lets]
    show bnd (fX12_findEnds_L13 FU 0 (sI (sI m 23 (-1)) 24 101)) _ = _
    rw [show fX12_findEnds_L13 FU 0 (sI (sI m 23 (-1)) 24 101) = some ((), m') from e]; rfl
  have i1 : ∀ k, k ≠ 23 → k ≠ 24 → gI m' k = gI m k := fun k h1 h2 => by rw [q1 k h1 h2, gI_ne h2, gI_ne h1]
  -- bits of the ends
  have bT : ∀ i, (sT G).testBit i = (decide (i < qJ G) && tp G (hv1 G) (qJ G) i) := fun i => mkp_bit _
  have bE : ∀ i, (eB G).testBit i = (decide (i < qJ G) && tp G (hv2 G) (qJ G) i) := fun i => mkp_bit _
  by_cases h : a ≤ b
  · refine ⟨m', false, ?_, i1, q2, fun _ => ?_, fun z => Bool.noConfusion z⟩
    · rw [go, if_pos (by rw [Int32.le_iff_toInt_le, ha, hb]; exact h)]; rfl
    · rcases h2 with ⟨-, -, hn⟩ | ⟨⟨i, hi, hH, hi2⟩, ⟨i', hi', hH', hi2'⟩⟩
      · have : sT G = 0 := by
          refine Nat.eq_of_testBit_eq fun i => ?_
          rw [bT, Nat.zero_testBit]
          by_cases z : i < qJ G
          · unfold tp; rw [hn i z]; simp
          · rw [decide_eq_false z]; rfl
        unfold stq; rw [this]; simp
      · unfold stq
        rw [if_neg]
        intro z
        have t1 : (sT G).testBit i = true := by
          rw [bT, decide_eq_true hi, Bool.true_and]
          exact tp_t.mpr ⟨hH, fun k hk hHk => by have := (h1 k hk hHk).1; unfold hv1; omega⟩
        have t2 : (eB G).testBit i = true := by
          rw [bE, decide_eq_true hi, Bool.true_and]
          exact tp_t.mpr ⟨hH, fun k hk hHk => by have := (h1 k hk hHk).2; have := (h1 i hi hH).2; unfold hv2; omega⟩
        have : (sT G &&& eB G).testBit i = true := by rw [Nat.testBit_and, t1, t2]; rfl
        rw [z, Nat.zero_testBit] at this; exact Bool.noConfusion this
  · refine ⟨m', true, ?_, i1, q2, fun z => Bool.noConfusion z, fun _ => ?_⟩
    · rw [go, if_neg (by rw [Int32.le_iff_toInt_le, ha, hb]; exact h)]; rfl
    · rcases h2 with ⟨u, v, -⟩ | ⟨⟨i0, hi0, hH0, e0⟩, ⟨i1', hi1, hH1, e1⟩⟩
      · omega
      · have disj : sT G &&& eB G = 0 := by
          refine Nat.eq_of_testBit_eq fun i => ?_
          rw [Nat.testBit_and, bT, bE, Nat.zero_testBit]
          cases z1 : tp G (hv1 G) (qJ G) i with
          | false => simp
          | true =>
            cases z2 : tp G (hv2 G) (qJ G) i with
            | false => simp
            | true =>
              have u1 := (tp_t.mp z1).2 i0 hi0 hH0
              have u2 := (tp_t.mp z2).2 i1' hi1 hH1
              unfold hv1 at u1
              unfold hv2 at u2
              omega
        intro i hi
        unfold stq enq
        rw [if_pos disj, if_pos disj, bT, bE, decide_eq_true hi, Bool.true_and, Bool.true_and]
        have hh := hw.2.2.2.1 i
        constructor
        · refine bool_eq ?_
          rw [tp_t, Bool.and_eq_true, decide_eq_true_eq]
          constructor
          · rintro ⟨u, v⟩
            refine ⟨u, Int32.toInt_inj.mp ?_⟩
            rw [hp.2.2.2.1 i hi u, nI_toInt (by omega), ha]
            have := v i0 hi0 hH0
            have := (h1 i hi u).1
            unfold hv1 at *
            omega
          · rintro ⟨u, v⟩
            refine ⟨u, fun k hk hHk => ?_⟩
            have w : (qh G i : Int) = a := by rw [← ha, ← v, hp.2.2.2.1 i hi u, nI_toInt (by omega)]
            have := (h1 k hk hHk).1
            unfold hv1; omega
        · refine bool_eq ?_
          rw [tp_t, Bool.and_eq_true, decide_eq_true_eq]
          constructor
          · rintro ⟨u, v⟩
            refine ⟨u, Int32.toInt_inj.mp ?_⟩
            rw [hp.2.2.2.1 i hi u, nI_toInt (by omega), hb]
            have := v i1' hi1 hH1
            have := (h1 i hi u).2
            unfold hv2 at *
            omega
          · rintro ⟨u, v⟩
            refine ⟨u, fun k hk hHk => ?_⟩
            have w : (qh G i : Int) = b := by rw [← hb, ← v, hp.2.2.2.1 i hi u, nI_toInt (by omega)]
            have := (h1 k hk hHk).2
            unfold hv2; omega
end ENDS
