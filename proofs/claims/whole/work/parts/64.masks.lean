/-! THE ROCK, as numbers; sets of joints as masks -/
def bv (b : Bool) : Int32 := if b then 1 else 0
theorem bv1 : bv true = 1 := rfl
theorem bv0 : bv false = 0 := rfl
theorem bv_ne {b : Bool} : (¬ bv b = 0) ↔ b = true := by cases b <;> decide
theorem bv_eq {b : Bool} : bv b = 0 ↔ b = false := by cases b <;> decide
theorem bv_nar {b : Bool} : vp_nar .boolean (bv b) = bv b := by cases b <;> rfl
abbrev GD : Type := Nat × Nat × (Nat → Bool) × (Nat → Nat) × (Nat → Nat) × (Nat → Nat) × (Nat → Nat) × (Nat → Nat)
def qJ (G : GD) : Nat := G.1
def qN (G : GD) : Nat := G.2.1
def qH (G : GD) : Nat → Bool := G.2.2.1
def qh (G : GD) : Nat → Nat := G.2.2.2.1
def qa (G : GD) : Nat → Nat := G.2.2.2.2.1
def qb (G : GD) : Nat → Nat := G.2.2.2.2.2.1
def qk (G : GD) : Nat → Nat := G.2.2.2.2.2.2.1
def qw (G : GD) : Nat → Nat := G.2.2.2.2.2.2.2
def Wf (G : GD) : Prop := qJ G ≤ 6 ∧ qN G ≤ 12 ∧ (∀ j, qJ G ≤ j → qH G j = false) ∧ (∀ j, qh G j ≤ 100) ∧ ∀ c, c < qN G → qa G c < qJ G ∧ qb G c < qJ G ∧ qa G c ≠ qb G c ∧ qk G c ≤ 4 ∧ qw G c ≤ 12
def Pc (G : GD) (s : MS) : Prop := gI s 1 = nI (qJ G) ∧ gI s 4 = nI (qN G) ∧ (∀ j, j < qJ G → gA s 2 j = bv (qH G j)) ∧ (∀ j, j < qJ G → qH G j = true → gA s 3 j = nI (qh G j)) ∧ ∀ c, c < qN G → gA s 5 c = nI (qa G c) ∧ gA s 6 c = nI (qb G c) ∧ gA s 7 c = nI (qk G c) ∧ gA s 8 c = nI (qw G c)
def PX (G : GD) (s : MS) : Prop := Pc G s ∧ ∀ j, qJ G ≤ j → gA s 2 j = 0
theorem clampE {x : Int32} {k : Nat} (h : x = nI k) (hk : k < 2 ^ 31) : x = nI x.toNatClampNeg := by
  rw [h, nI_clamp hk]
theorem rel_G {J nc : Nat} {x m : MS} (hJ : RJ J x m) (hC : RC J nc x m) : ∃ G : GD, Wf G ∧ qJ G = J ∧ qN G = nc ∧ PX G x ∧ Pc G m := by
  obtain ⟨hJ6, hx, hm, hh, hh0⟩ := hJ
  obtain ⟨h12, hx4, hm4, hcr⟩ := hC
  have heads : ∀ j, j < J → gA m 2 j = 1 → ∃ h : Nat, h ≤ 100 ∧ gA x 3 j = nI h ∧ gA m 3 j = nI h := by
    intro j hj e
    rcases (hh j hj).2 with h0 | ⟨-, h⟩
    · rw [e] at h0; exact absurd h0 (by decide)
    · exact h
  refine ⟨(J, nc, (fun j => decide (j < J) && decide (gA m 2 j = 1)), (fun j => if j < J ∧ gA m 2 j = 1 then (gA m 3 j).toNatClampNeg else 0), (fun c => (gA m 5 c).toNatClampNeg), (fun c => (gA m 6 c).toNatClampNeg), (fun c => (gA m 7 c).toNatClampNeg), (fun c => (gA m 8 c).toNatClampNeg)), ⟨hJ6, h12, ?_, ?_, ?_⟩, rfl, rfl, ⟨⟨hx, hx4, ?_, ?_, ?_⟩, hh0⟩, hm, hm4, ?_, ?_, ?_⟩
  · intro j hj
    show (decide (j < J) && _) = false
    rw [decide_eq_false (show ¬ j < J from Nat.not_lt.mpr hj)]; rfl
  · intro j
    show (if j < J ∧ gA m 2 j = 1 then (gA m 3 j).toNatClampNeg else 0) ≤ 100
    by_cases h : j < J ∧ gA m 2 j = 1
    · obtain ⟨u, hu, -, e⟩ := heads j h.1 h.2
      rw [if_pos h, e, nI_clamp (by omega)]; exact hu
    · rw [if_neg h]; omega
  · intro c hc
    obtain ⟨-, a, b, k, w, u, s, q1, q2, q3, q4, q5, -, -, -, z5, z6, z7, z8, -, -⟩ := hcr c hc
    show (gA m 5 c).toNatClampNeg < J ∧ (gA m 6 c).toNatClampNeg < J ∧ (gA m 5 c).toNatClampNeg ≠ (gA m 6 c).toNatClampNeg ∧ (gA m 7 c).toNatClampNeg ≤ 4 ∧ (gA m 8 c).toNatClampNeg ≤ 12
    rw [z5, z6, z7, z8, nI_clamp (by omega), nI_clamp (by omega), nI_clamp (by omega), nI_clamp (by omega)]
    exact ⟨q1, q2, q3, q4, q5⟩
  · intro j hj
    have hj : j < J := hj
    show gA x 2 j = if (decide (j < J) && decide (gA m 2 j = 1)) = true then 1 else 0
    rw [(hh j hj).1, decide_eq_true hj]
    rcases (hh j hj).2 with h0 | ⟨h1, -⟩
    · rw [h0]; rfl
    · rw [h1]; rfl
  · intro j hj e
    have hj : j < J := hj
    have e1 : gA m 2 j = 1 := by
      have e : (decide (j < J) && decide (gA m 2 j = 1)) = true := e
      rw [decide_eq_true hj, Bool.true_and] at e; exact of_decide_eq_true e
    show gA x 3 j = nI (if j < J ∧ gA m 2 j = 1 then (gA m 3 j).toNatClampNeg else 0)
    obtain ⟨u, hu, ex, em⟩ := heads j hj e1
    rw [if_pos ⟨hj, e1⟩, ex, em, nI_clamp (by omega)]
  · intro c hc
    obtain ⟨⟨e5, e6, e7, e8, -, -⟩, a, b, k, w, u, s, q1, q2, q3, q4, q5, -, -, -, z5, z6, z7, z8, -, -⟩ := hcr c hc
    rw [e5, e6, e7, e8]
    exact ⟨clampE z5 (by omega), clampE z6 (by omega), clampE z7 (by omega), clampE z8 (by omega)⟩
  · intro j hj
    have hj : j < J := hj
    show gA m 2 j = if (decide (j < J) && decide (gA m 2 j = 1)) = true then 1 else 0
    rw [decide_eq_true hj]
    rcases (hh j hj).2 with h0 | ⟨h1, -⟩
    · rw [h0]; rfl
    · rw [h1]; rfl
  · intro j hj e
    have hj : j < J := hj
    have e1 : gA m 2 j = 1 := by
      have e : (decide (j < J) && decide (gA m 2 j = 1)) = true := e
      rw [decide_eq_true hj, Bool.true_and] at e; exact of_decide_eq_true e
    show gA m 3 j = nI (if j < J ∧ gA m 2 j = 1 then (gA m 3 j).toNatClampNeg else 0)
    obtain ⟨u, hu, ex, em⟩ := heads j hj e1
    rw [if_pos ⟨hj, e1⟩, em, nI_clamp (by omega)]
  · intro c hc
    obtain ⟨-, a, b, k, w, u, s, q1, q2, q3, q4, q5, -, -, -, z5, z6, z7, z8, -, -⟩ := hcr c hc
    exact ⟨clampE z5 (by omega), clampE z6 (by omega), clampE z7 (by omega), clampE z8 (by omega)⟩
/-! passes over the cracks -/
def adc (G : GD) (t c n : Nat) : Nat := if t ≤ qw G c ∧ (n.testBit (qa G c) || n.testBit (qb G c)) = true then n ||| (2 ^ qa G c ||| 2 ^ qb G c) else n
def pas (G : GD) (t : Nat) : Nat → Nat → Nat
  | 0, n => n
  | k + 1, n => adc G t k (pas G t k n)
def its (G : GD) (t : Nat) : Nat → Nat → Nat
  | 0, n => n
  | k + 1, n => its G t k (pas G t (qN G) n)
def hmask (G : GD) : Nat → Nat
  | 0 => 0
  | k + 1 => if qH G k then hmask G k ||| 2 ^ k else hmask G k
def wet (G : GD) : Nat := its G 1 6 (hmask G (qJ G))
section MASKS
variable {G : GD} {t : Nat}
theorem adc_bit {c n j : Nat} : (adc G t c n).testBit j = (n.testBit j || (decide (t ≤ qw G c) && (n.testBit (qa G c) || n.testBit (qb G c)) && (decide (qa G c = j) || decide (qb G c = j)))) := by
  unfold adc
  by_cases h1 : t ≤ qw G c
  · cases h2 : (n.testBit (qa G c) || n.testBit (qb G c)) with
    | true =>
      rw [if_pos ⟨h1, rfl⟩, Nat.testBit_or, Nat.testBit_or, Nat.testBit_two_pow, Nat.testBit_two_pow, decide_eq_true h1]; rfl
    | false =>
      rw [if_neg (fun z => Bool.noConfusion z.2)]; simp
  · rw [if_neg (fun z => h1 z.1), decide_eq_false h1]; simp
theorem adc_mono {c n j : Nat} (h : n.testBit j = true) : (adc G t c n).testBit j = true := by
  rw [adc_bit, h]; rfl
theorem pas_mono {n j : Nat} (h : n.testBit j = true) : ∀ k, (pas G t k n).testBit j = true := by
  intro k
  induction k with
  | zero => exact h
  | succ k ih => exact adc_mono ih
theorem its_mono {j : Nat} : ∀ (k n : Nat), n.testBit j = true → (its G t k n).testBit j = true := by
  intro k
  induction k with
  | zero => intro n h; exact h
  | succ k ih => intro n h; exact ih _ (pas_mono h _)
/-- a set that is closed -/
def Cl (G : GD) (t : Nat) (T : Nat → Bool) : Prop := ∀ c, c < qN G → t ≤ qw G c → T (qa G c) = T (qb G c)
theorem adc_least {T : Nat → Bool} {c n : Nat} (hT : Cl G t T) (hc : c < qN G) (h : ∀ j, n.testBit j = true → T j = true) : ∀ j, (adc G t c n).testBit j = true → T j = true := by
  intro j hj
  rw [adc_bit] at hj
  rcases (Bool.or_eq_true _ _).mp hj with h1 | h1
  · exact h j h1
  · obtain ⟨h2, h3⟩ := (Bool.and_eq_true _ _).mp h1
    obtain ⟨h4, h5⟩ := (Bool.and_eq_true _ _).mp h2
    have e := hT c hc (of_decide_eq_true h4)
    have hab : T (qa G c) = true ∧ T (qb G c) = true := by
      rcases (Bool.or_eq_true _ _).mp h5 with z | z
      · have := h _ z; exact ⟨this, by rw [← e]; exact this⟩
      · have := h _ z; exact ⟨by rw [e]; exact this, this⟩
    rcases (Bool.or_eq_true _ _).mp h3 with z | z
    · rw [← of_decide_eq_true z]; exact hab.1
    · rw [← of_decide_eq_true z]; exact hab.2
theorem pas_least {T : Nat → Bool} {n : Nat} (hT : Cl G t T) (h : ∀ j, n.testBit j = true → T j = true) : ∀ k, k ≤ qN G → ∀ j, (pas G t k n).testBit j = true → T j = true := by
  intro k
  induction k with
  | zero => intro _; exact h
  | succ k ih => intro hk; exact adc_least hT (by omega) (ih (by omega))
theorem its_least {T : Nat → Bool} (hT : Cl G t T) : ∀ (k n : Nat), (∀ j, n.testBit j = true → T j = true) → ∀ j, (its G t k n).testBit j = true → T j = true := by
  intro k
  induction k with
  | zero => intro n h; exact h
  | succ k ih => intro n h; exact ih _ (pas_least hT h _ (Nat.le_refl _))
theorem adc_lt (hw : Wf G) {c n : Nat} (hc : c < qN G) (h : n < 2 ^ qJ G) : adc G t c n < 2 ^ qJ G := by
  unfold adc
  obtain ⟨h1, h2, -⟩ := hw.2.2.2.2 c hc
  by_cases z : t ≤ qw G c ∧ (n.testBit (qa G c) || n.testBit (qb G c)) = true
  · rw [if_pos z]
    exact Nat.or_lt_two_pow h (Nat.or_lt_two_pow (Nat.pow_lt_pow_right (by decide) h1) (Nat.pow_lt_pow_right (by decide) h2))
  · rw [if_neg z]; exact h
theorem pas_lt (hw : Wf G) {n : Nat} (h : n < 2 ^ qJ G) : ∀ k, k ≤ qN G → pas G t k n < 2 ^ qJ G := by
  intro k
  induction k with
  | zero => intro _; exact h
  | succ k ih => intro hk; exact adc_lt hw (by omega) (ih (by omega))
theorem its_lt (hw : Wf G) : ∀ (k n : Nat), n < 2 ^ qJ G → its G t k n < 2 ^ qJ G := by
  intro k
  induction k with
  | zero => intro n h; exact h
  | succ k ih => intro n h; exact ih _ (pas_lt hw h _ (Nat.le_refl _))
theorem pow6 (hw : Wf G) : 2 ^ qJ G ≤ 64 := Nat.pow_le_pow_right (n := 2) (by decide) hw.1
theorem hmask_bit {j : Nat} : ∀ k, (hmask G k).testBit j = (decide (j < k) && qH G j) := by
  intro k
  induction k with
  | zero => simp [hmask]
  | succ k ih =>
    simp only [hmask]
    by_cases e : j = k
    · subst e
      cases h : qH G j with
      | true => rw [if_pos rfl, Nat.testBit_or, Nat.testBit_two_pow]; simp
      | false => rw [if_neg Bool.noConfusion, ih]; simp [h]
    · have : (2 ^ k).testBit j = false := by rw [Nat.testBit_two_pow]; exact decide_eq_false (fun z => e z.symm)
      have e2 : decide (j < k + 1) = decide (j < k) := by
        by_cases z : j < k
        · rw [decide_eq_true z, decide_eq_true (by omega)]
        · rw [decide_eq_false z, decide_eq_false (by omega)]
      cases h : qH G k with
      | true => rw [if_pos rfl, Nat.testBit_or, this, Bool.or_false, ih, e2]
      | false => rw [if_neg Bool.noConfusion, ih, e2]
theorem hmask_lt : ∀ k, hmask G k < 2 ^ k := by
  intro k
  induction k with
  | zero => exact (show (0 : Nat) < 1 by decide)
  | succ k ih =>
    simp only [hmask]
    have h1 : 2 ^ k < 2 ^ (k + 1) := Nat.pow_lt_pow_right (by decide) (by omega)
    cases qH G k with
    | true => rw [if_pos rfl]; exact Nat.or_lt_two_pow (by omega) h1
    | false => rw [if_neg Bool.noConfusion]; omega
/-- a pass that adds nothing: the set is closed -/
theorem pas_fix {n : Nat} (h : pas G t (qN G) n = n) : Cl G t (fun j => n.testBit j) := by
  have mid : ∀ d k, k + d = qN G → ∀ j, (pas G t k n).testBit j = true → n.testBit j = true := by
    intro d
    induction d with
    | zero => intro k hk j hj; rw [show k = qN G by omega, h] at hj; exact hj
    | succ d ih => intro k hk j hj; exact ih (k + 1) (by omega) j (adc_mono hj)
  intro c hc hw
  have up : ∀ j, (adc G t c (pas G t c n)).testBit j = true → n.testBit j = true := fun j hj => mid (qN G - (c + 1)) (c + 1) (by omega) j hj
  show n.testBit (qa G c) = n.testBit (qb G c)
  have key : (n.testBit (qa G c) || n.testBit (qb G c)) = true → n.testBit (qa G c) = true ∧ n.testBit (qb G c) = true := by
    intro z
    have z' : ((pas G t c n).testBit (qa G c) || (pas G t c n).testBit (qb G c)) = true := by
      rcases (Bool.or_eq_true _ _).mp z with y | y
      · rw [pas_mono y]; rfl
      · rw [pas_mono y]; simp
    refine ⟨up _ ?_, up _ ?_⟩
    · rw [adc_bit, z', decide_eq_true hw]; simp
    · rw [adc_bit, z', decide_eq_true hw]; simp
  cases h1 : n.testBit (qa G c) with
  | true => exact (key (by rw [h1]; rfl)).2.symm
  | false =>
    cases h2 : n.testBit (qb G c) with
    | false => rfl
    | true => have := (key (by rw [h2]; simp)).1; rw [h1] at this; exact Bool.noConfusion this
def cn (n : Nat) : Nat := (n.testBit 0).toNat + (n.testBit 1).toNat + (n.testBit 2).toNat + (n.testBit 3).toNat + (n.testBit 4).toNat + (n.testBit 5).toNat
theorem cn_lt : ∀ n, n < 64 → ∀ n', n' < 64 → n ||| n' = n' → n ≠ n' → cn n < cn n' := by decide +kernel
theorem cn_le : ∀ J, J < 7 → ∀ n, n < 2 ^ J → cn n ≤ J := by decide +kernel
theorem cn_0 : ∀ n, n < 64 → cn n = 0 → n = 0 := by decide +kernel
theorem or_of_sub {n n' : Nat} (h : ∀ j, n.testBit j = true → n'.testBit j = true) : n ||| n' = n' := by
  refine Nat.eq_of_testBit_eq fun j => ?_
  rw [Nat.testBit_or]
  cases z : n.testBit j with
  | true => rw [h j z]; rfl
  | false => rfl
theorem its_fix {n : Nat} (h : pas G t (qN G) n = n) : ∀ k, its G t k n = n := by
  intro k
  induction k with
  | zero => rfl
  | succ k ih => simp only [its]; rw [h]; exact ih
theorem its_grow (hw : Wf G) : ∀ (k n : Nat), n < 2 ^ qJ G → pas G t (qN G) (its G t k n) = its G t k n ∨ cn n + k ≤ cn (its G t k n) := by
  intro k
  induction k with
  | zero => intro n _; exact Or.inr (Nat.le_refl _)
  | succ k ih =>
    intro n hn
    have h6 := pow6 hw
    have hp := pas_lt (t := t) hw hn (qN G) (Nat.le_refl _)
    by_cases e : pas G t (qN G) n = n
    · left; rw [its_fix e]; exact e
    · rcases ih _ hp with h | h
      · exact Or.inl h
      · have := cn_lt n (by omega) (pas G t (qN G) n) (by omega) (or_of_sub fun j hj => pas_mono hj _) (fun z => e z.symm)
        right; simp only [its]; omega
theorem pas_0 : ∀ k, pas G t k 0 = 0 := by
  intro k
  induction k with
  | zero => rfl
  | succ k ih => simp only [pas]; rw [ih]; unfold adc; rw [if_neg (fun z => by simp at z)]
/-- as many passes as there are joints are enough -/
theorem its_done (hw : Wf G) {n : Nat} (hn : n < 2 ^ qJ G) : pas G t (qN G) (its G t (qJ G) n) = its G t (qJ G) n := by
  rcases its_grow (t := t) hw (qJ G) n hn with h | h
  · exact h
  · have h6 := pow6 hw
    have h1 := its_lt (t := t) hw (qJ G) n hn
    have h2 := cn_le (qJ G) (by have := hw.1; omega) _ h1
    have h0 : n = 0 := cn_0 n (by omega) (by omega)
    subst h0
    rw [its_fix (pas_0 _)]; exact pas_0 _
theorem its_add : ∀ (a b n : Nat), its G t (a + b) n = its G t b (its G t a n) := by
  intro a
  induction a with
  | zero => intro b n; rw [Nat.zero_add]; rfl
  | succ a ih => intro b n; rw [show a + 1 + b = (a + b) + 1 by omega]; simp only [its]; exact ih b _
theorem its_six (hw : Wf G) {n : Nat} (hn : n < 2 ^ qJ G) : its G t 6 n = its G t (qJ G) n := by
  have h6 := hw.1
  rw [show (6 : Nat) = qJ G + (6 - qJ G) by omega, its_add, its_fix (its_done hw hn)]
theorem its_closed (hw : Wf G) {n : Nat} (hn : n < 2 ^ qJ G) : Cl G t (fun j => (its G t 6 n).testBit j) := by
  rw [its_six hw hn]; exact pas_fix (its_done hw hn)
theorem wet_closed (hw : Wf G) : Cl G 1 (fun j => (wet G).testBit j) := its_closed hw (hmask_lt _)
theorem wet_lt (hw : Wf G) : wet G < 2 ^ qJ G := its_lt hw _ _ (hmask_lt _)
theorem wet_held (hw : Wf G) {j : Nat} (h : qH G j = true) : (wet G).testBit j = true := by
  refine its_mono _ _ ?_
  rw [hmask_bit, h, decide_eq_true]; rfl
  rcases Nat.lt_or_ge j (qJ G) with h1 | h1
  · exact h1
  · rw [hw.2.2.1 j h1] at h; exact Bool.noConfusion h
theorem wet_j (hw : Wf G) {j : Nat} (h : (wet G).testBit j = true) : j < qJ G := by
  rcases Nat.lt_or_ge j (qJ G) with h1 | h1
  · exact h1
  · rw [Nat.testBit_lt_two_pow (Nat.lt_of_lt_of_le (wet_lt hw) (Nat.pow_le_pow_right (by decide) h1))] at h; exact Bool.noConfusion h
end MASKS
