/-! how large the water's numbers are -/
section BOUND
variable {G : GD}
theorem Wk_nn : ∀ (k r d : Nat), 0 ≤ Wk G k r d := by
  intro k
  induction k with
  | zero => intro r d; exact Int.le_refl _
  | succ k ih =>
    intro r d
    simp only [Wk]
    have := ih r d
    by_cases h : (qa G k = r ∧ qb G k = d) ∨ (qb G k = r ∧ qa G k = d)
    · rw [if_pos h]; omega
    · rw [if_neg h]; omega
theorem Wk_ge {c r d : Nat} (h : (qa G c = r ∧ qb G c = d) ∨ (qb G c = r ∧ qa G c = d)) : ∀ k, c < k → (lq G c : Int) ≤ Wk G k r d := by
  intro k
  induction k with
  | zero => intro h; omega
  | succ k ih =>
    intro hc
    simp only [Wk]
    by_cases e : c = k
    · subst e; rw [if_pos h]; have := Wk_nn (G := G) c r d; omega
    · have := ih (by omega)
      by_cases h' : (qa G k = r ∧ qb G k = d) ∨ (qb G k = r ∧ qa G k = d)
      · rw [if_pos h']; omega
      · rw [if_neg h']; omega
theorem Wk_pos {r d : Nat} : ∀ k, 0 < Wk G k r d → ∃ c, c < k ∧ 1 ≤ qw G c ∧ ((qa G c = r ∧ qb G c = d) ∨ (qb G c = r ∧ qa G c = d)) := by
  intro k
  induction k with
  | zero => intro h; exact absurd h (by simp [Wk])
  | succ k ih =>
    intro h
    simp only [Wk] at h
    by_cases h' : (qa G k = r ∧ qb G k = d) ∨ (qb G k = r ∧ qa G k = d)
    · by_cases h0 : qw G k = 0
      · rw [lq_0 h0] at h
        obtain ⟨c, h1, h2, h3⟩ := ih (by rw [if_pos h'] at h; omega)
        exact ⟨c, by omega, h2, h3⟩
      · exact ⟨k, by omega, by omega, h'⟩
    · rw [if_neg h'] at h
      obtain ⟨c, h1, h2, h3⟩ := ih (by omega)
      exact ⟨c, by omega, h2, h3⟩
/-- a row's sum -/
theorem D_step (hw : Wf G) {k : Nat} (hk : k < qN G) (r : Nat) : sumN (Wk G (k + 1) r) 6 = sumN (Wk G k r) 6 + (if qa G k = r then (lq G k : Int) else 0) + (if qb G k = r then (lq G k : Int) else 0) := by
  obtain ⟨ha, hb, hab, -, -⟩ := hw.2.2.2.2 k hk
  have hJ := hw.1
  have e1 : Wk G (k + 1) r = (fun d => Wk G k r d + (if (qa G k = r ∧ qb G k = d) ∨ (qb G k = r ∧ qa G k = d) then (lq G k : Int) else 0)) := by
    funext d; simp only [Wk]
  rw [e1, sumN_add, Int.add_assoc]
  congr 1
  by_cases h1 : qa G k = r
  · have h2 : ¬ qb G k = r := fun z => hab (h1.trans z.symm)
    rw [if_pos h1, if_neg h2, Int.add_zero]
    refine (sumN_congr (g := fun d => if d = qb G k then (lq G k : Int) else 0) fun d _ => ?_).trans (sumN_if (f := fun _ => (lq G k : Int)) (n := 6) (b := qb G k) (by omega))
    by_cases h3 : d = qb G k
    · rw [if_pos h3, if_pos (Or.inl ⟨h1, h3.symm⟩)]
    · rw [if_neg h3, if_neg (fun z => z.elim (fun y => h3 y.2.symm) (fun y => h2 y.1))]
  · rw [if_neg h1, Int.zero_add]
    by_cases h2 : qb G k = r
    · rw [if_pos h2]
      refine (sumN_congr (g := fun d => if d = qa G k then (lq G k : Int) else 0) fun d _ => ?_).trans (sumN_if (f := fun _ => (lq G k : Int)) (n := 6) (b := qa G k) (by omega))
      by_cases h3 : d = qa G k
      · rw [if_pos h3, if_pos (Or.inr ⟨h2, h3.symm⟩)]
      · rw [if_neg h3, if_neg (fun z => z.elim (fun y => h1 y.1) (fun y => h3 y.2.symm))]
    · rw [if_neg h2]
      have e0 : (fun d => (if (qa G k = r ∧ qb G k = d) ∨ (qb G k = r ∧ qa G k = d) then (lq G k : Int) else 0)) = (fun _ => 0 * (0 : Int)) := by
        funext d; rw [if_neg (fun z => z.elim (fun y => h1 y.1) (fun y => h2 y.1))]; omega
      rw [e0, sumN_mul]; omega
theorem D_le (hw : Wf G) (r : Nat) : ∀ k, k ≤ qN G → sumN (Wk G k r) 6 ≤ 144 * k := by
  intro k
  induction k with
  | zero => intro _; simp [sumN, Wk]
  | succ k ih =>
    intro hk
    obtain ⟨ha, hb, hab, -, -⟩ := hw.2.2.2.2 k (by omega)
    have h1 := ih (by omega)
    have h2 := lq_le hw (c := k) (by omega)
    rw [D_step hw (by omega)]
    by_cases e1 : qa G k = r
    · rw [if_pos e1, if_neg (fun z => hab (e1.trans z.symm))]; omega
    · rw [if_neg e1]
      by_cases e2 : qb G k = r
      · rw [if_pos e2]; omega
      · rw [if_neg e2]; omega
theorem D_1728 (hw : Wf G) (r : Nat) : sumN (Wq G r) 6 ≤ 1728 := by
  have := D_le hw r (qN G) (Nat.le_refl _)
  have := hw.2.1
  unfold Wq; omega
theorem D_nn (r : Nat) : 0 ≤ sumN (Wq G r) 6 := sumN_nonneg fun d _ => Wk_nn _ _ _
theorem prod_le (hw : Wf G) : ∀ ps : List Nat, prodL (Wq G) ps ≤ (1728 : Int) ^ ps.length := by
  intro ps
  induction ps with
  | nil => exact Int.le_refl _
  | cons r ps ih =>
    simp only [prodL, List.length_cons]
    rw [Int.pow_succ, Int.mul_comm ((1728 : Int) ^ ps.length)]
    exact Int.mul_le_mul (D_1728 hw r) ih (prodL_nonneg (fun r d => Wk_nn _ _ _) ps) (by decide)
theorem psq_len : (psq G).length = cn (bal G) := by
  unfold psq; rw [List.length_map]; exact List.length_range
/-- how far a joint is from held ones -/
def lev (G : GD) : Nat → Nat → Prop
  | 0, j => qH G j = true
  | m + 1, j => lev G m j ∨ ∃ c, c < qN G ∧ 1 ≤ qw G c ∧ ((qa G c = j ∧ lev G m (qb G c)) ∨ (qb G c = j ∧ lev G m (qa G c)))
theorem wet_lev (hw : Wf G) {j : Nat} (h : (wet G).testBit j = true) : ∃ m, lev G m j := by
  classical
  have hcl : Cl G 1 (fun j => decide (∃ m, lev G m j)) := by
    intro c hc hq
    have e : (∃ m, lev G m (qa G c)) ↔ (∃ m, lev G m (qb G c)) := by
      constructor
      · rintro ⟨m, hm⟩; exact ⟨m + 1, Or.inr ⟨c, hc, hq, Or.inr ⟨rfl, hm⟩⟩⟩
      · rintro ⟨m, hm⟩; exact ⟨m + 1, Or.inr ⟨c, hc, hq, Or.inl ⟨rfl, hm⟩⟩⟩
    show decide _ = decide _
    by_cases z : ∃ m, lev G m (qa G c)
    · rw [decide_eq_true z, decide_eq_true (e.mp z)]
    · rw [decide_eq_false z, decide_eq_false (fun y => z (e.mpr y))]
  have := its_least hcl 6 (hmask G (qJ G)) (fun j hj => decide_eq_true ⟨0, by rw [hq_bit hw] at hj; exact hj⟩) j h
  exact of_decide_eq_true this
theorem rank (hw : Wf G) : ∃ ρ : Nat → Nat, ∀ r, r < 6 → Bq G r = true → ∃ d, d < 6 ∧ 0 < Wq G r d ∧ ρ d < ρ r := by
  classical
  refine ⟨fun j => if h : ∃ m, lev G m j then Classical.choose (pk_least _ h) else 0, fun r hr hB => ?_⟩
  have spec : ∀ j, (h : ∃ m, lev G m j) → lev G (if h : ∃ m, lev G m j then Classical.choose (pk_least _ h) else 0) j ∧ ∀ i, i < (if h : ∃ m, lev G m j then Classical.choose (pk_least _ h) else 0) → ¬ lev G i j := by
    intro j h
    rw [dif_pos h]; exact Classical.choose_spec (pk_least _ h)
  have hwet := ((Bool.and_eq_true _ _).mp hB).1
  have hex := wet_lev hw hwet
  obtain ⟨s1, s2⟩ := spec r hex
  generalize hm : (if h : ∃ m, lev G m r then Classical.choose (pk_least _ h) else 0) = m at s1 s2
  show ∃ d, d < 6 ∧ 0 < Wq G r d ∧ (if h : ∃ m, lev G m d then Classical.choose (pk_least _ h) else 0) < (if h : ∃ m, lev G m r then Classical.choose (pk_least _ h) else 0)
  rw [hm]
  cases m with
  | zero =>
    have : qH G r = true := s1
    rw [Bq_nH hB] at this; exact Bool.noConfusion this
  | succ m =>
    have hno := s2 m (by omega)
    rcases s1 with h | ⟨c, hc, hq, h⟩
    · exact absurd h hno
    · obtain ⟨ha, hb, hab, -, -⟩ := hw.2.2.2.2 c hc
      have hJ := hw.1
      have hl := lq_pos (G := G) hq
      have key : ∀ d, lev G m d → (if h : ∃ m, lev G m d then Classical.choose (pk_least _ h) else 0) < m + 1 := by
        intro d hd
        obtain ⟨t1, t2⟩ := spec d ⟨m, hd⟩
        rcases Nat.lt_or_ge m (if h : ∃ m, lev G m d then Classical.choose (pk_least _ h) else 0) with z | z
        · exact absurd hd (t2 m z)
        · omega
      rcases h with ⟨e, h⟩ | ⟨e, h⟩
      · refine ⟨qb G c, by omega, ?_, key _ h⟩
        have := Wk_ge (G := G) (c := c) (r := r) (d := qb G c) (Or.inl ⟨e, rfl⟩) (qN G) hc
        unfold Wq; omega
      · refine ⟨qa G c, by omega, ?_, key _ h⟩
        have := Wk_ge (G := G) (c := c) (r := r) (d := qa G c) (Or.inr ⟨e, rfl⟩) (qN G) hc
        unfold Wq; omega
theorem Lo_le (hw : Wf G) : Lo G ≤ prodL (Wq G) (psq G) := (spec_bnd (fun r d => Wk_nn _ _ _) _ _).2
theorem Lo_1 (hw : Wf G) : 1 ≤ Lo G := by
  obtain ⟨ρ, hρ⟩ := rank hw
  exact spec_pos (fun r d => Wk_nn _ _ _) hρ _ _ (num_q hw).inv (fun _ => Nat.le_refl _)
theorem pow_1728 : ∀ n, n < 6 → (1728 : Int) ^ n ≤ 15407021574586368 := by decide +kernel
theorem Lo_bnd (hw : Wf G) : 1 ≤ Lo G ∧ Lo G < 2 ^ 63 := by
  refine ⟨Lo_1 hw, ?_⟩
  have h1 := Lo_le hw
  have h2 := prod_le hw (psq G)
  have h3 := pow_1728 (psq G).length (by rw [psq_len]; exact cn_bal hw)
  have : (2 : Int) ^ 63 = 9223372036854775808 := by decide
  omega
theorem spec_const {W : Nat → Nat → Int} (a : Int) : ∀ (ps : List Nat) (p : Nat → Nat), spec W (fun _ => a) ps p = a * spec W (fun _ => 1) ps p := by
  intro ps
  induction ps with
  | nil => intro p; simp [spec]
  | cons r ps ih =>
    intro p
    simp only [spec]
    rw [← sumN_mul']
    refine sumN_congr fun d _ => ?_
    by_cases e : p d = r
    · rw [if_pos e, if_pos e]; simp
    · rw [if_neg e, if_neg e, ih, Int.mul_left_comm]
theorem Up_fix (hw : Wf G) {j : Nat} (h : Bq G j = false) : Up G j = bq G j * Lo G := by
  unfold Up Lo
  rw [← spec_const]
  refine spec_val (B := Bq G) _ _ (num_q hw).inv fun p' hi => ?_
  rw [hi.2.2.1 j h]
theorem Up_dry (hw : Wf G) {j : Nat} (h : (wet G).testBit j = false) : Up G j = 0 := by
  have hB : Bq G j = false := by unfold Bq; rw [h]; rfl
  have hH : qH G j = false := by
    cases e : qH G j with
    | false => rfl
    | true => rw [wet_held hw e] at h; exact Bool.noConfusion h
  rw [Up_fix hw hB]; unfold bq; rw [hH]; simp
theorem Up_mid (hw : Wf G) {lo hi : Int} (hb : ∀ c, c < 6 → qH G c = true → lo ≤ (qh G c : Int) ∧ (qh G c : Int) ≤ hi) {j : Nat} (hj : (wet G).testBit j = true) : lo * Lo G ≤ Up G j ∧ Up G j ≤ hi * Lo G := by
  have hJ := hw.1
  have hj6 : j < 6 := by have := wet_j hw hj; omega
  refine spec_mid (B := Bq G) (fun r d => Wk_nn _ _ _) (G := fun j => (wet G).testBit j = true) (fun r d hr hd hB hpos => ?_) (fun c hc hB hg => ?_) hj6 _ _ (num_q hw).inv (fun _ h => h) hj
  · obtain ⟨c, hc, hq, h⟩ := Wk_pos _ hpos
    have e := wet_closed hw c hc hq
    have hr' := ((Bool.and_eq_true _ _).mp hB).1
    rcases h with ⟨h1, h2⟩ | ⟨h1, h2⟩
    · rw [← h2]; show (fun j => (wet G).testBit j) (qb G c) = true; rw [← e]; show (wet G).testBit (qa G c) = true; rw [h1]; exact hr'
    · rw [← h2]; show (fun j => (wet G).testBit j) (qa G c) = true; rw [e]; show (wet G).testBit (qb G c) = true; rw [h1]; exact hr'
  · have hH : qH G c = true := by
      unfold Bq at hB
      rw [hg] at hB
      cases e : qH G c with
      | true => rfl
      | false => rw [e] at hB; exact Bool.noConfusion hB
    unfold bq
    rw [hH, if_pos rfl]; exact hb c hc hH
/-- a crack's flow, over the lower number -/
def fl (G : GD) (c : Nat) : Int := (lq G c : Int) * (Up G (qa G c) - Up G (qb G c))
theorem cn_5 : ∀ b, b < 64 → ∀ i, i < 6 → ∀ j, j < 6 → (cn b = 5 ∧ b.testBit i = false ∧ b.testBit j = false → i = j) := by decide +kernel
theorem fl_5 (hw : Wf G) (h5 : cn (bal G) = 5) {c : Nat} (hc : c < qN G) : fl G c = 0 := by
  obtain ⟨ha, hb, hab, -, -⟩ := hw.2.2.2.2 c hc
  have hJ := hw.1
  unfold fl
  by_cases h0 : qw G c = 0
  · rw [lq_0 h0]; simp
  · have e := wet_closed hw c hc (by omega)
    have e : (wet G).testBit (qa G c) = (wet G).testBit (qb G c) := e
    cases hwa : (wet G).testBit (qa G c) with
    | false => rw [Up_dry hw hwa, Up_dry hw (e ▸ hwa)]; simp
    | true =>
      obtain ⟨i, hi, hH⟩ := some_held hw hwa
      have uni : ∀ c, c < 6 → qH G c = true → (qh G i : Int) ≤ (qh G c : Int) ∧ (qh G c : Int) ≤ (qh G i : Int) := by
        intro c hc hHc
        have nb : ∀ k, k < 6 → qH G k = true → (bal G).testBit k = false := fun k hk hh => by rw [bal_bit hw hk]; unfold Bq; rw [hh]; simp
        have := cn_5 _ (bal64 hw) c hc i (by omega) ⟨h5, nb c hc hHc, nb i (by omega) hH⟩
        subst this; exact ⟨Int.le_refl _, Int.le_refl _⟩
      have m1 := Up_mid hw uni hwa
      have m2 := Up_mid hw uni (e ▸ hwa : (wet G).testBit (qb G c) = true)
      have : Up G (qa G c) = Up G (qb G c) := by omega
      rw [this]; simp
theorem h100 (hw : Wf G) : ∀ c, c < 6 → qH G c = true → (0 : Int) ≤ (qh G c : Int) ∧ (qh G c : Int) ≤ 100 := fun c _ _ => by have := hw.2.2.2.1 c; omega
theorem Up_bnd (hw : Wf G) (j : Nat) : 0 ≤ Up G j ∧ Up G j ≤ 100 * Lo G := by
  cases h : (wet G).testBit j with
  | true => have := Up_mid hw (h100 hw) h; rw [Int.zero_mul] at this; exact this
  | false => rw [Up_dry hw h]; have := Lo_1 hw; omega
theorem fl_bnd (hw : Wf G) (c : Nat) : -((lq G c : Int) * (100 * Lo G)) ≤ fl G c ∧ fl G c ≤ (lq G c : Int) * (100 * Lo G) := by
  obtain ⟨a1, a2⟩ := Up_bnd hw (qa G c)
  obtain ⟨b1, b2⟩ := Up_bnd hw (qb G c)
  unfold fl
  rw [← Int.mul_neg]
  exact ⟨Int.mul_le_mul_of_nonneg_left (by omega) (by omega), Int.mul_le_mul_of_nonneg_left (by omega) (by omega)⟩
/-! sums over cracks: what all let through, what those at held joints do -/
def hel (G : GD) (c : Nat) : Bool := qH G (qa G c) || qH G (qb G c)
def LT (G : GD) : Nat → Int
  | 0 => 0
  | k + 1 => LT G k + (lq G k : Int)
def LH (G : GD) : Nat → Int
  | 0 => 0
  | k + 1 => LH G k + (if hel G k then (lq G k : Int) else 0)
theorem LT_le (hw : Wf G) : ∀ k, k ≤ qN G → 0 ≤ LH G k ∧ LH G k ≤ LT G k ∧ LT G k ≤ 144 * k := by
  intro k
  induction k with
  | zero => intro _; simp [LH, LT]
  | succ k ih =>
    intro hk
    obtain ⟨h1, h2, h3⟩ := ih (by omega)
    have := lq_le hw (c := k) (by omega)
    simp only [LH, LT]
    by_cases e : hel G k = true
    · rw [if_pos e]; omega
    · rw [if_neg e]; omega
/-- the rows' sums together -/
theorem DS (hw : Wf G) : ∀ k, k ≤ qN G → sumN (fun r => if Bq G r then sumN (Wk G k r) 6 else 0) 6 ≤ 2 * LT G k - LH G k := by
  intro k
  induction k with
  | zero => intro _; simp [sumN, Wk, LT, LH]
  | succ k ih =>
    intro hk
    obtain ⟨ha, hb, hab, -, -⟩ := hw.2.2.2.2 k (by omega)
    have hJ := hw.1
    have h1 := ih (by omega)
    have e1 : (fun r => if Bq G r then sumN (Wk G (k + 1) r) 6 else 0) = (fun r => (if Bq G r then sumN (Wk G k r) 6 else 0) + ((if r = qa G k then (if Bq G r then (lq G k : Int) else 0) else 0) + (if r = qb G k then (if Bq G r then (lq G k : Int) else 0) else 0))) := by
      funext r
      rw [D_step hw (by omega)]
      by_cases hB : Bq G r = true
      · rw [if_pos hB, if_pos hB, if_pos hB, Int.add_assoc]
        congr 2
        · by_cases z : qa G k = r
          · rw [if_pos z, if_pos z.symm]
          · rw [if_neg z, if_neg (fun y => z y.symm)]
        · by_cases z : qb G k = r
          · rw [if_pos z, if_pos z.symm]
          · rw [if_neg z, if_neg (fun y => z y.symm)]
      · rw [if_neg hB, if_neg hB, if_neg hB]; simp
    rw [e1, sumN_add, sumN_add, sumN_if (f := fun r => if Bq G r then (lq G k : Int) else 0) (by omega), sumN_if (f := fun r => if Bq G r then (lq G k : Int) else 0) (by omega)]
    simp only [LT, LH]
    have z : ∀ j, (if Bq G j = true then (lq G k : Int) else 0) ≤ (if qH G j = true then 0 else (lq G k : Int)) := by
      intro j
      cases hH : qH G j with
      | true =>
        have : Bq G j = false := by unfold Bq; rw [hH]; simp
        rw [this, if_neg Bool.noConfusion, if_pos rfl]; exact Int.le_refl _
      | false =>
        show (if Bq G j = true then (lq G k : Int) else 0) ≤ (lq G k : Int)
        by_cases hB : Bq G j = true
        · rw [if_pos hB]; exact Int.le_refl _
        · rw [if_neg hB]; omega
    have za := z (qa G k)
    have zb := z (qb G k)
    unfold hel
    cases hHa : qH G (qa G k) <;> cases hHb : qH G (qb G k) <;> rw [hHa] at za <;> rw [hHb] at zb <;> simp at za zb ⊢ <;> omega
def sumL (f : Nat → Int) : List Nat → Int
  | [] => 0
  | r :: ps => f r + sumL f ps
theorem sumL_eq {f : Nat → Int} {n : Nat} : ∀ ps : List Nat, ps.Nodup → (∀ r ∈ ps, r < n) → sumL f ps = sumN (fun r => if r ∈ ps then f r else 0) n := by
  intro ps
  induction ps with
  | nil =>
    intro _ _
    have : (fun r => if r ∈ ([] : List Nat) then f r else 0) = (fun _ => 0 * (0 : Int)) := by funext r; simp
    rw [this, sumN_mul]; simp [sumL]
  | cons r ps ih =>
    intro hn h
    obtain ⟨n1, n2⟩ := List.nodup_cons.mp hn
    simp only [sumL]
    rw [ih n2 (fun x hx => h x (List.mem_cons_of_mem _ hx)), ← sumN_if (f := f) (n := n) (b := r) (h r List.mem_cons_self), ← sumN_add]
    refine sumN_congr fun d _ => ?_
    by_cases e : d = r
    · subst e; rw [if_pos rfl, if_neg n1, if_pos List.mem_cons_self]; omega
    · rw [if_neg e]
      by_cases z : d ∈ ps
      · rw [if_pos z, if_pos (List.mem_cons_of_mem _ z)]; omega
      · rw [if_neg z, if_neg (fun y => (List.mem_cons.mp y).elim e z)]; rfl
theorem DL (hw : Wf G) : sumL (fun r => sumN (Wq G r) 6) (psq G) ≤ 2 * LT G (qN G) - LH G (qN G) := by
  have hi : Inv (Bq G) (psq G) id := (num_q hw).inv
  rw [sumL_eq (n := 6) _ hi.1 (fun r hr => (hi.2.1 r hr).2.1)]
  refine Int.le_trans ?_ (DS hw (qN G) (Nat.le_refl _))
  refine sumN_le fun r _ => ?_
  by_cases h : r ∈ psq G
  · rw [if_pos h, if_pos ((mem_psq hw).mp h)]; exact Int.le_refl _
  · rw [if_neg h, if_neg (fun z => h ((mem_psq hw).mpr z))]; exact Int.le_refl _
theorem sq4 (x y : Int) : 4 * (x * y) ≤ (x + y) * (x + y) := by
  have h : 0 ≤ (x - y) * (x - y) := by
    rcases Int.le_total 0 (x - y) with h | h
    · exact Int.mul_nonneg h h
    · have := Int.mul_nonneg (show 0 ≤ -(x - y) by omega) (show 0 ≤ -(x - y) by omega)
      rwa [Int.neg_mul_neg] at this
  have e1 : (x - y) * (x - y) = x * x - 2 * (x * y) + y * y := by
    rw [Int.sub_mul, Int.mul_sub, Int.mul_sub, Int.mul_comm y x]; omega
  have e2 : (x + y) * (x + y) = x * x + 2 * (x * y) + y * y := by
    rw [Int.add_mul, Int.mul_add, Int.mul_add, Int.mul_comm y x]; omega
  omega
theorem am4 {x y z w S : Int} (hx : 0 ≤ x) (hy : 0 ≤ y) (hz : 0 ≤ z) (hw : 0 ≤ w) (h : x + y + (z + w) ≤ S) : 256 * (x * y * (z * w)) ≤ S * S * (S * S) := by
  have h1 := sq4 x y
  have h2 := sq4 z w
  have h3 := sq4 (x + y) (z + w)
  have hS : (x + y + (z + w)) * (x + y + (z + w)) ≤ S * S := Int.mul_le_mul h h (by omega) (by omega)
  have h4 : 4 * ((x + y) * (z + w)) ≤ S * S := Int.le_trans h3 hS
  have p0 : 0 ≤ (x + y) * (z + w) := Int.mul_nonneg (by omega) (by omega)
  have h5 : (4 * ((x + y) * (z + w))) * (4 * ((x + y) * (z + w))) ≤ S * S * (S * S) := Int.mul_le_mul h4 h4 (by omega) (by omega)
  have xy0 : 0 ≤ x * y := Int.mul_nonneg hx hy
  have zw0 : 0 ≤ z * w := Int.mul_nonneg hz hw
  have h6 : (4 * (x * y)) * (4 * (z * w)) ≤ ((x + y) * (x + y)) * ((z + w) * (z + w)) := Int.mul_le_mul h1 h2 (by omega) (by have := Int.mul_nonneg (show 0 ≤ x + y by omega) (show 0 ≤ x + y by omega); omega)
  have e6 : (4 * (x * y)) * (4 * (z * w)) = 16 * (x * y * (z * w)) := by
    rw [Int.mul_assoc 4, Int.mul_left_comm (x * y) 4]; omega
  have e7 : ((x + y) * (x + y)) * ((z + w) * (z + w)) = ((x + y) * (z + w)) * ((x + y) * (z + w)) := by
    rw [Int.mul_assoc, Int.mul_assoc, Int.mul_left_comm (x + y) (z + w) (z + w)]
  have e5 : (4 * ((x + y) * (z + w))) * (4 * ((x + y) * (z + w))) = 16 * (((x + y) * (z + w)) * ((x + y) * (z + w))) := by
    rw [Int.mul_assoc 4, Int.mul_left_comm ((x + y) * (z + w)) 4]; omega
  rw [e6, e7] at h6
  rw [e5] at h5
  omega
theorem dn4 (q : Nat → Nat) : (dn 4).map q = [q 0, q 1, q 2, q 3] := rfl
theorem Lo_4 (hw : Wf G) (h4 : cn (bal G) = 4) : 256 * Lo G ≤ (2 * LT G (qN G) - LH G (qN G)) * (2 * LT G (qN G) - LH G (qN G)) * ((2 * LT G (qN G) - LH G (qN G)) * (2 * LT G (qN G) - LH G (qN G))) := by
  have h1 := Lo_le hw
  have h2 := DL hw
  have e : psq G = [qm (bal G) 0, qm (bal G) 1, qm (bal G) 2, qm (bal G) 3] := by unfold psq; rw [h4]; exact dn4 _
  rw [e] at h1 h2
  simp only [prodL, sumL] at h1 h2
  have := am4 (D_nn (G := G) (qm (bal G) 0)) (D_nn (G := G) (qm (bal G) 1)) (D_nn (G := G) (qm (bal G) 2)) (D_nn (G := G) (qm (bal G) 3)) (S := 2 * LT G (qN G) - LH G (qN G)) (by omega)
  rw [Int.mul_one, ← Int.mul_assoc] at h1
  omega
theorem Lo_3 (hw : Wf G) (h3 : cn (bal G) ≤ 3) : Lo G ≤ 5159780352 := by
  have h1 := Lo_le hw
  have h2 := prod_le hw (psq G)
  rw [psq_len] at h2
  have h3 : ∀ n, n ≤ 3 → (1728 : Int) ^ n ≤ 5159780352 := by decide +kernel
  have := h3 _ ‹_›
  omega
theorem fit_w : ∀ L, L < 1729 → L * ((3456 - L) * (3456 - L) * ((3456 - L) * (3456 - L))) * 10000 < 256 * 4611686018427387904 := by decide +kernel
/-- what the lower number, with what comes with it, comes to -/
theorem Lo_LH (hw : Wf G) (h5 : cn (bal G) ≠ 5) : LH G (qN G) * Lo G * 10000 < 4611686018427387904 ∧ Lo G ≤ 600000000000 := by
  obtain ⟨a0, a1, a2⟩ := LT_le hw (qN G) (Nat.le_refl _)
  have h12 := hw.2.1
  have hLo := Lo_1 hw
  have h6 := cn_bal hw
  rcases (show cn (bal G) = 4 ∨ cn (bal G) ≤ 3 by omega) with h4 | h3
  · have h := Lo_4 hw h4
    generalize LT G (qN G) = T at *
    generalize LH G (qN G) = H at *
    obtain ⟨L, rfl⟩ := Int.eq_ofNat_of_zero_le a0
    have hS : (2 * T - (L : Int)) ≤ 3456 - L := by omega
    have hS0 : 0 ≤ 2 * T - (L : Int) := by omega
    have hm := Int.mul_le_mul hS hS hS0 (by omega)
    have hm2 := Int.mul_le_mul hm hm (Int.mul_nonneg hS0 hS0) (Int.mul_nonneg (by omega) (by omega))
    have hf := fit_w L (by omega)
    have hf' : (L : Int) * ((3456 - (L : Int)) * (3456 - (L : Int)) * ((3456 - (L : Int)) * (3456 - (L : Int)))) * 10000 < 256 * 4611686018427387904 := by
      have e : ((3456 - L : Nat) : Int) = 3456 - (L : Int) := by omega
      rw [← e]
      generalize 3456 - L = D at hf
      have h1 := Int.ofNat_lt.mpr hf
      have h2 : ((L * (D * D * (D * D)) * 10000 : Nat) : Int) = (L : Int) * ((D : Int) * (D : Int) * ((D : Int) * (D : Int))) * 10000 := by
        rw [Int.natCast_mul, Int.natCast_mul, Int.natCast_mul, Int.natCast_mul]; rfl
      rw [h2] at h1
      exact h1
    have hb : 256 * Lo G ≤ (3456 - (L : Int)) * (3456 - (L : Int)) * ((3456 - (L : Int)) * (3456 - (L : Int))) := Int.le_trans h hm2
    have hc := Int.mul_le_mul_of_nonneg_left hb a0
    have e1 : (L : Int) * (256 * Lo G) = 256 * ((L : Int) * Lo G) := Int.mul_left_comm _ _ _
    rw [e1] at hc
    refine ⟨by omega, ?_⟩
    have hq : (3456 - (L : Int)) ≤ 3456 := by omega
    have hq0 : 0 ≤ 3456 - (L : Int) := by omega
    have m1 := Int.mul_le_mul hq hq hq0 (by decide)
    have m2 := Int.mul_le_mul m1 m1 (Int.mul_nonneg hq0 hq0) (by decide)
    have : (3456 : Int) * 3456 * (3456 * 3456) = 142657607172096 := by decide
    omega
  · have h := Lo_3 hw h3
    refine ⟨?_, by omega⟩
    have : LH G (qN G) * Lo G ≤ 1728 * 5159780352 := Int.mul_le_mul (by omega) h (by omega) (by decide)
    omega
/-- a sum over cracks of flows -/
theorem in_bnd (hw : Wf G) {e : Nat → Int} (he : ∀ c, c < qN G → e c = fl G c ∨ e c = - fl G c ∨ e c = 0) : ∀ k, k ≤ qN G → -(LT G k * (100 * Lo G)) ≤ sumN e k ∧ sumN e k ≤ LT G k * (100 * Lo G) := by
  intro k
  induction k with
  | zero => intro _; simp [sumN, LT]
  | succ k ih =>
    intro hk
    obtain ⟨h1, h2⟩ := ih (by omega)
    obtain ⟨f1, f2⟩ := fl_bnd hw k
    have hl : 0 ≤ (lq G k : Int) * (100 * Lo G) := Int.mul_nonneg (by omega) (by have := Lo_1 hw; omega)
    simp only [sumN, LT]
    rw [Int.add_mul]
    rcases he k (by omega) with z | z | z <;> rw [z] <;> omega
/-- the work's upper number, crack by crack -/
theorem wo_bnd (hw : Wf G) : ∀ k, k ≤ qN G → -(LH G k * Lo G * 10000) ≤ sumN (fun c => fl G c * (bq G (qa G c) - bq G (qb G c))) k ∧ sumN (fun c => fl G c * (bq G (qa G c) - bq G (qb G c))) k ≤ LH G k * Lo G * 10000 := by
  intro k
  induction k with
  | zero => intro _; simp [sumN, LH]
  | succ k ih =>
    intro hk
    obtain ⟨h1, h2⟩ := ih (by omega)
    obtain ⟨f1, f2⟩ := fl_bnd hw k
    have hLo := Lo_1 hw
    have hl : 0 ≤ (lq G k : Int) * Lo G := Int.mul_nonneg (by omega) (by omega)
    have eb : ∀ j, 0 ≤ bq G j ∧ bq G j ≤ 100 ∧ (qH G j = false → bq G j = 0) := by
      intro j
      unfold bq
      cases h : qH G j with
      | true => rw [if_pos rfl]; have := hw.2.2.2.1 j; exact ⟨by omega, by omega, fun z => Bool.noConfusion z⟩
      | false => rw [if_neg Bool.noConfusion]; exact ⟨by omega, by omega, fun _ => rfl⟩
    obtain ⟨a1, a2, a3⟩ := eb (qa G k)
    obtain ⟨b1, b2, b3⟩ := eb (qb G k)
    have e100 : (lq G k : Int) * (100 * Lo G) = 100 * ((lq G k : Int) * Lo G) := Int.mul_left_comm _ _ _
    rw [e100] at f1 f2
    simp only [sumN, LH]
    cases hh : hel G k with
    | true =>
      rw [if_pos rfl, Int.add_mul, Int.add_mul]
      have key : -(10000 * ((lq G k : Int) * Lo G)) ≤ fl G k * (bq G (qa G k) - bq G (qb G k)) ∧ fl G k * (bq G (qa G k) - bq G (qb G k)) ≤ 10000 * ((lq G k : Int) * Lo G) := by
        generalize fl G k = f at *
        generalize (lq G k : Int) * Lo G = X at *
        generalize hD : bq G (qa G k) - bq G (qb G k) = Dd
        have d1 : -100 ≤ Dd := by omega
        have d2 : Dd ≤ 100 := by omega
        have u1 : 0 ≤ (100 * X - f) * (100 + Dd) := Int.mul_nonneg (by omega) (by omega)
        have u2 : 0 ≤ (100 * X + f) * (100 - Dd) := Int.mul_nonneg (by omega) (by omega)
        have u3 : 0 ≤ (100 * X - f) * (100 - Dd) := Int.mul_nonneg (by omega) (by omega)
        have u4 : 0 ≤ (100 * X + f) * (100 + Dd) := Int.mul_nonneg (by omega) (by omega)
        have g1 : (100 * X - f) * (100 + Dd) = 10000 * X + 100 * (X * Dd) - 100 * f - f * Dd := by
          rw [Int.sub_mul, Int.mul_add, Int.mul_add, Int.mul_assoc 100 X Dd]; omega
        have g2 : (100 * X + f) * (100 - Dd) = 10000 * X - 100 * (X * Dd) + 100 * f - f * Dd := by
          rw [Int.add_mul, Int.mul_sub, Int.mul_sub, Int.mul_assoc 100 X Dd]; omega
        have g3 : (100 * X - f) * (100 - Dd) = 10000 * X - 100 * (X * Dd) - 100 * f + f * Dd := by
          rw [Int.sub_mul, Int.mul_sub, Int.mul_sub, Int.mul_assoc 100 X Dd]; omega
        have g4 : (100 * X + f) * (100 + Dd) = 10000 * X + 100 * (X * Dd) + 100 * f + f * Dd := by
          rw [Int.add_mul, Int.mul_add, Int.mul_add, Int.mul_assoc 100 X Dd]; omega
        omega
      omega
    | false =>
      unfold hel at hh
      have ha := a3 (by cases e : qH G (qa G k) with | false => rfl | true => rw [e] at hh; exact Bool.noConfusion hh)
      have hb := b3 (by cases e : qH G (qb G k) with | false => rfl | true => rw [e] at hh; simp at hh)
      rw [if_neg Bool.noConfusion, Int.add_zero, ha, hb]; simp; exact ⟨h1, h2⟩
end BOUND
section SETTLE2
variable {G : GD} {s s' x x' : MS} {nc : Nat}
def RWB (V : MS → Prop) (B : Nat) (x : MS) : Prop := ∃ c : Nat, c ≤ B ∧ gI x 50 = nI c ∧ (gI x 53 = -1 ∨ ∃ d : Nat, d ≤ c ∧ gI x 53 = nI d ∧ (d = c → V x))
/-- the water is as the rock says, whatever was known before -/
theorem x_settleB {B : Nat} (hw : Wf G) (hn : qN G = nc) (hp : PX G s) (hB : B < 2 ^ 30) (hW : RWB (Vq nc) B s) : ∃ s', fX8_settle nc s = some ((), s') ∧ FrX s s' ∧ Vals G s' ∧ RWB (Vq nc) B s' := by
  obtain ⟨c, hc, e50, r⟩ := hW
  subst hn
  by_cases h : gI s 53 = gI s 50
  · refine ⟨s, by unfold fX8_settle; rw [if_neg (fun z => z h)], ⟨fun _ _ _ _ => rfl, fun _ => rfl, fun _ _ => rfl⟩, ?_, c, hc, e50, r⟩
    rcases r with r | ⟨d, hd, ed', hv⟩
    · rw [r, e50] at h
      have : (nI c).toInt = (-1 : Int32).toInt := by rw [← h]
      rw [nI_toInt (by omega)] at this
      have e1 : (-1 : Int32).toInt = -1 := by decide
      omega
    · rw [ed', e50] at h
      exact hv ((nI_eq (by omega) (by omega)).mp h) G hw rfl hp
  · obtain ⟨s', e, fr, e53, v⟩ := x_settle1 hw hp (Lo_bnd hw) h
    refine ⟨s', e, fr, v, c, hc, (fr.1 50 (by decide) (by decide) (by decide)).trans e50, Or.inr ⟨c, Nat.le_refl _, e53.trans e50, fun _ G' hw' hn' hp' => ?_⟩⟩
    obtain ⟨s'', e', -, -, v'⟩ := x_settle1 hw' (hp'.unfr fr) (Lo_bnd hw') h
    rw [hn', e] at e'
    have : s' = s'' := congrArg Prod.snd (Option.some.inj e')
    rw [this]; exact v'
theorem x_settle {j : Nat} (hw : Wf G) (hn : qN G = nc) (hp : PX G s) (hj : j ≤ 512) (hW : RW (Vq nc) j s) : ∃ s', fX8_settle nc s = some ((), s') ∧ FrX s s' ∧ Vals G s' ∧ RW (Vq nc) j s' := x_settleB (B := 256 * j) hw hn hp (by omega) hW
end SETTLE2
