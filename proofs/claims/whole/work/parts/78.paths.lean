/-! ways, counted -/
def oth (G : GD) (c j : Nat) : Nat := if qa G c = j then qb G c else qa G c
def vld (G : GD) (t seen j c : Nat) : Bool := (decide (qa G c = j) || decide (qb G c = j)) && decide (t ≤ qw G c) && !seen.testBit (oth G c j)
def cf (G : GD) (t en wt : Nat) : Nat → Nat → Nat → Bool → Nat
  | 0, _, _, _ => 0
  | d + 1, j, seen, has => (has && en.testBit j).toNat + ct (fun c => if vld G t seen j c then cf G t en wt d (oth G c j) (seen ||| 2 ^ oth G c j) (has || decide (c = wt)) else 0) (qN G)
def cfs (G : GD) (t en wt d j seen : Nat) (has : Bool) (c : Nat) : Nat := if vld G t seen j c then cf G t en wt d (oth G c j) (seen ||| 2 ^ oth G c j) (has || decide (c = wt)) else 0
def Wy (G : GD) (t wt : Nat) (h0 : Bool) : Nat := ct (fun j => if (stq G).testBit j then cf G t (enq G) wt 6 j (2 ^ j) h0 else 0) (qJ G)
def PB : Nat → Nat
  | 0 => 0
  | d + 1 => 1 + 12 * PB d
theorem ct_bnd {p : Nat → Nat} {b : Nat} : ∀ k, (∀ i, i < k → p i ≤ b) → ct p k ≤ k * b := by
  intro k
  induction k with
  | zero => intro _; simp [ct]
  | succ k ih =>
    intro h
    simp only [ct]
    have h1 := ih (fun i hi => h i (by omega))
    have h2 := h k (by omega)
    rw [Nat.succ_mul]; omega
theorem ct_pos {p : Nat → Nat} : ∀ k, 0 < ct p k → ∃ i, i < k ∧ 0 < p i := by
  intro k
  induction k with
  | zero => intro h; simp [ct] at h
  | succ k ih =>
    intro h
    simp only [ct] at h
    by_cases e : 0 < p k
    · exact ⟨k, by omega, e⟩
    · obtain ⟨i, h1, h2⟩ := ih (by omega)
      exact ⟨i, by omega, h2⟩
theorem ct_ge {p : Nat → Nat} {i : Nat} : ∀ k, i < k → p i ≤ ct p k := by
  intro k
  induction k with
  | zero => intro h; omega
  | succ k ih =>
    intro h
    simp only [ct]
    by_cases e : i = k
    · subst e; omega
    · have := ih (by omega); omega
section PATHS
variable {G : GD} {s s' x x' m m' : MS} {t en wt : Nat}
theorem cf_bnd (hw : Wf G) : ∀ (d j seen : Nat) (has : Bool), cf G t en wt d j seen has ≤ PB d := by
  intro d
  induction d with
  | zero => intro j seen has; exact Nat.le_refl _
  | succ d ih =>
    intro j seen has
    simp only [cf, PB]
    have h1 : (has && en.testBit j).toNat ≤ 1 := by cases (has && en.testBit j) <;> decide
    have h2 := ct_bnd (p := fun c => if vld G t seen j c then cf G t en wt d (oth G c j) (seen ||| 2 ^ oth G c j) (has || decide (c = wt)) else 0) (b := PB d) (qN G) (fun c _ => by
      show (if vld G t seen j c then _ else _) ≤ _
      by_cases z : vld G t seen j c = true
      · rw [if_pos z]; exact ih _ _ _
      · rw [if_neg z]; exact Nat.zero_le _)
    have h3 : qN G * PB d ≤ 12 * PB d := Nat.mul_le_mul_right _ hw.2.1
    omega
theorem Wy_bnd (hw : Wf G) {h0 : Bool} : Wy G t wt h0 ≤ 6 * 271453 := by
  unfold Wy
  have h2 := ct_bnd (p := fun j => if (stq G).testBit j then cf G t (enq G) wt 6 j (2 ^ j) h0 else 0) (b := 271453) (qJ G) (fun j _ => by
    show (if (stq G).testBit j then _ else _) ≤ _
    by_cases z : (stq G).testBit j = true
    · rw [if_pos z]; exact Nat.le_trans (cf_bnd hw 6 _ _ _) (show PB 6 ≤ 271453 by decide)
    · rw [if_neg z]; exact Nat.zero_le _)
  exact Nat.le_trans h2 (Nat.mul_le_mul_right 271453 hw.1)
theorem oth_lt (hw : Wf G) {c j : Nat} (hc : c < qN G) : oth G c j < qJ G := by
  obtain ⟨ha, hb, -⟩ := hw.2.2.2.2 c hc
  unfold oth
  by_cases z : qa G c = j
  · rw [if_pos z]; exact hb
  · rw [if_neg z]; exact ha
/-! a way is there just where the ends are reached -/
theorem cf_reach (hw : Wf G) {T : Nat → Bool} (hT : Cl G t T) : ∀ (d j seen : Nat) (has : Bool), T j = true → 0 < cf G t en wt d j seen has → ∃ e, T e = true ∧ en.testBit e = true := by
  intro d
  induction d with
  | zero => intro j seen has _ h; simp [cf] at h
  | succ d ih =>
    intro j seen has hj h
    simp only [cf] at h
    by_cases z : en.testBit j = true
    · exact ⟨j, hj, z⟩
    · have e0 : (has && en.testBit j).toNat = 0 := by
        cases y : en.testBit j with
        | false => cases has <;> rfl
        | true => exact absurd y z
      rw [e0, Nat.zero_add] at h
      obtain ⟨c, hc, hpos⟩ := ct_pos _ h
      by_cases hv : vld G t seen j c = true
      · rw [if_pos hv] at hpos
        unfold vld at hv
        obtain ⟨h1, -⟩ := (Bool.and_eq_true _ _).mp hv
        obtain ⟨h2, h3⟩ := (Bool.and_eq_true _ _).mp h1
        have hcl := hT c hc (of_decide_eq_true h3)
        refine ih _ _ _ ?_ hpos
        unfold oth
        by_cases y : qa G c = j
        · rw [if_pos y, ← hcl, y]; exact hj
        · rw [if_neg y, hcl]
          rcases (Bool.or_eq_true _ _).mp h2 with u | u
          · exact absurd (of_decide_eq_true u) y
          · rw [of_decide_eq_true u]; exact hj
      · rw [if_neg hv] at hpos; omega
/-- joints to which a way without a joint twice leads -/
def sp (G : GD) (t : Nat) : Nat → Nat → Nat → Nat → Prop
  | 0, _, _, _ => False
  | d + 1, j, seen, y => y = j ∨ ∃ c, c < qN G ∧ vld G t seen j c = true ∧ sp G t d (oth G c j) (seen ||| 2 ^ oth G c j) y
theorem sp_cf : ∀ (d j seen y : Nat), sp G t d j seen y → en.testBit y = true → 0 < cf G t en wt d j seen true := by
  intro d
  induction d with
  | zero => intro j seen y h; exact h.elim
  | succ d ih =>
    intro j seen y h he
    simp only [cf]
    rcases h with h | ⟨c, hc, hv, h⟩
    · subst h; rw [he]; simp only [Bool.and_self]; show 0 < 1 + _; omega
    · have h1 := ih _ _ _ h he
      have h2 := ct_ge (p := fun c => if vld G t seen j c then cf G t en wt d (oth G c j) (seen ||| 2 ^ oth G c j) (true || decide (c = wt)) else 0) (qN G) hc
      have h2 : (if vld G t seen j c then cf G t en wt d (oth G c j) (seen ||| 2 ^ oth G c j) true else 0) ≤ _ := h2
      rw [if_pos hv] at h2
      omega
theorem cn_add : ∀ n, n < 64 → ∀ j, j < 6 → n.testBit j = false → cn (n ||| 2 ^ j) = cn n + 1 ∧ n ||| 2 ^ j < 64 ∧ cn n < 6 := by decide +kernel
theorem oth_sym {c j : Nat} (hab : qa G c ≠ qb G c) (h : qa G c = j ∨ qb G c = j) : (qa G c = oth G c j ∨ qb G c = oth G c j) ∧ oth G c (oth G c j) = j := by
  unfold oth
  by_cases y : qa G c = j
  · rw [if_pos y, if_neg (fun z => hab z)]; exact ⟨Or.inr rfl, y⟩
  · rw [if_neg y, if_pos rfl]; exact ⟨Or.inl rfl, h.resolve_left y⟩
/-- what lies beside a joint that is reached is reached, or was passed -/
theorem sp_next (hw : Wf G) : ∀ (d j seen y c : Nat), seen < 64 → cn seen + d = 6 → sp G t (d + 1) j seen y → c < qN G → t ≤ qw G c → (qa G c = y ∨ qb G c = y) → sp G t (d + 1) j seen (oth G c y) ∨ seen.testBit (oth G c y) = true := by
  intro d
  induction d with
  | zero =>
    intro j seen y c hs hd h hc hq hy
    by_cases hb : seen.testBit (oth G c y) = true
    · exact Or.inr hb
    · have := oth_lt hw (j := y) hc
      have := (cn_add seen hs (oth G c y) (by have := hw.1; omega) (by cases z : seen.testBit (oth G c y) with | false => rfl | true => exact absurd z hb)).2.2
      omega
  | succ d ih =>
    intro j seen y c hs hd h hc hq hy
    have ho6 : oth G c y < 6 := by have := oth_lt hw (j := y) hc; have := hw.1; omega
    rcases h with h | ⟨c', hc', hv, h⟩
    · subst h
      cases hb : seen.testBit (oth G c y) with
      | true => exact Or.inr rfl
      | false =>
        left
        refine Or.inr ⟨c, hc, ?_, Or.inl rfl⟩
        unfold vld
        rw [hb, decide_eq_true hq]
        rcases hy with u | u
        · rw [decide_eq_true u]; rfl
        · rw [decide_eq_true u]; simp
    · have ho : oth G c' j < 6 := by have := oth_lt hw (j := j) hc'; have := hw.1; omega
      have hnb : seen.testBit (oth G c' j) = false := by
        unfold vld at hv
        have := ((Bool.and_eq_true _ _).mp hv).2
        cases z : seen.testBit (oth G c' j) with
        | false => rfl
        | true => rw [z] at this; exact Bool.noConfusion this
      obtain ⟨p1, p2, p3⟩ := cn_add seen hs _ ho hnb
      rcases ih (oth G c' j) (seen ||| 2 ^ oth G c' j) y c p2 (by omega) h hc hq hy with u | u
      · exact Or.inl (Or.inr ⟨c', hc', hv, u⟩)
      · rw [Nat.testBit_or, Nat.testBit_two_pow] at u
        rcases (Bool.or_eq_true _ _).mp u with w | w
        · exact Or.inr w
        · left
          rw [← of_decide_eq_true w]
          exact Or.inr ⟨c', hc', hv, Or.inl rfl⟩
theorem cn_one : ∀ j, j < 6 → cn (2 ^ j) = 1 ∧ 2 ^ j < 64 := by decide +kernel
theorem way_iff (hw : Wf G) : 0 < Wy G t wt true ↔ its G t 6 (stq G) &&& enq G ≠ 0 := by
  have hJ := hw.1
  constructor
  · intro h
    obtain ⟨j, hj, hpos⟩ := ct_pos _ h
    by_cases z : (stq G).testBit j = true
    · rw [if_pos z] at hpos
      obtain ⟨e, h1, h2⟩ := cf_reach hw (its_closed (t := t) hw (stq64 hw).1) 6 j (2 ^ j) true (its_mono 6 _ z) hpos
      intro y
      have : (its G t 6 (stq G) &&& enq G).testBit e = true := by rw [Nat.testBit_and, h2]; show ((its G t 6 (stq G)).testBit e && true) = true; rw [Bool.and_true]; exact h1
      rw [y, Nat.zero_testBit] at this; exact Bool.noConfusion this
    · rw [if_neg z] at hpos; omega
  · intro h
    have hex : ∃ e, (its G t 6 (stq G)).testBit e = true ∧ (enq G).testBit e = true := by
      refine Classical.byContradiction fun hno => h (Nat.eq_of_testBit_eq fun e => ?_)
      rw [Nat.testBit_and, Nat.zero_testBit]
      cases z1 : (its G t 6 (stq G)).testBit e with
      | false => rfl
      | true =>
        cases z2 : (enq G).testBit e with
        | false => rfl
        | true => exact absurd ⟨e, z1, z2⟩ hno
    obtain ⟨e, he1, he2⟩ := hex
    classical
    have hcl : Cl G t (fun y => decide (∃ j, j < qJ G ∧ (stq G).testBit j = true ∧ sp G t 6 j (2 ^ j) y)) := by
      intro c hc hq
      obtain ⟨ha, hb, hab, -⟩ := hw.2.2.2.2 c hc
      have half : ∀ y, (qa G c = y ∨ qb G c = y) → (∃ j, j < qJ G ∧ (stq G).testBit j = true ∧ sp G t 6 j (2 ^ j) y) → ∃ j, j < qJ G ∧ (stq G).testBit j = true ∧ sp G t 6 j (2 ^ j) (oth G c y) := by
        rintro y hy ⟨j, hj, hs, h⟩
        obtain ⟨o1, o2⟩ := cn_one j (by omega)
        refine ⟨j, hj, hs, ?_⟩
        rcases sp_next hw 5 j (2 ^ j) y c o2 (by omega) h hc hq hy with u | u
        · exact u
        · rw [Nat.testBit_two_pow] at u
          exact Or.inl (of_decide_eq_true u).symm
      have ea : oth G c (qa G c) = qb G c := by unfold oth; rw [if_pos rfl]
      have eb' : oth G c (qb G c) = qa G c := by unfold oth; rw [if_neg hab]
      have iff : (∃ j, j < qJ G ∧ (stq G).testBit j = true ∧ sp G t 6 j (2 ^ j) (qa G c)) ↔ (∃ j, j < qJ G ∧ (stq G).testBit j = true ∧ sp G t 6 j (2 ^ j) (qb G c)) := by
        constructor
        · intro z; have := half (qa G c) (Or.inl rfl) z; rw [ea] at this; exact this
        · intro z; have := half (qb G c) (Or.inr rfl) z; rw [eb'] at this; exact this
      show decide _ = decide _
      by_cases z : ∃ j, j < qJ G ∧ (stq G).testBit j = true ∧ sp G t 6 j (2 ^ j) (qa G c)
      · rw [decide_eq_true z, decide_eq_true (iff.mp z)]
      · rw [decide_eq_false z, decide_eq_false (fun y => z (iff.mpr y))]
    have hj0 : ∀ j, (stq G).testBit j = true → j < qJ G := fun j hj => by
      rcases Nat.lt_or_ge j (qJ G) with h1 | h1
      · exact h1
      · rw [Nat.testBit_lt_two_pow (Nat.lt_of_lt_of_le (stq64 hw).1 (Nat.pow_le_pow_right (by decide) h1))] at hj; exact Bool.noConfusion hj
    have := its_least hcl 6 (stq G) (fun j hj => decide_eq_true ⟨j, hj0 j hj, hj, Or.inl rfl⟩) e he1
    obtain ⟨j, hj, hs, h⟩ := of_decide_eq_true this
    have h1 := sp_cf (wt := wt) _ _ _ _ h he2
    have h2 := ct_ge (p := fun j => if (stq G).testBit j then cf G t (enq G) wt 6 j (2 ^ j) true else 0) (qJ G) hj
    have h2 : (if (stq G).testBit j then cf G t (enq G) wt 6 j (2 ^ j) true else 0) ≤ _ := h2
    rw [if_pos hs] at h2
    unfold Wy; omega
/-! the class counts so -/
theorem x_cf (hw : Wf G) (hp : Pc G x) {wi : Int32} (ht : t ≤ 12) (hen : en < 64) (h55 : gI x 55 = nI en) (h56 : gI x 56 = nI t) (h57 : gI x 57 = wi) (hwi : ∀ c, c < qN G → (nI c = wi ↔ c = wt)) : ∀ (d f dep j seen : Nat) (has : Bool), dep + d = 7 → 1 ≤ dep → d < f → j < qJ G → seen < 64 → fX9_countFromR (qN G) f (nI j) (nI seen) (bv has) (nI dep) x = some (nI (cf G t en wt d j seen has), x) := by
  intro d
  have hJ := hw.1
  have h12 := hw.2.1
  induction d with
  | zero =>
    intro f dep j seen has hd h1 hf hj hs
    obtain ⟨f, rfl⟩ : ∃ g, f = g + 1 := ⟨f - 1, by omega⟩
    obtain rfl : dep = 7 := by omega
    show fX9_countFrom_B (qN G) (fX9_countFromR (qN G) f) (nI j) (nI seen) (bv has) (nI 7) x = _
    unfold fX9_countFrom_B
    rw [if_neg (by decide)]; rfl
  | succ d ih =>
    intro f dep j seen has hd h1 hf hj hs
    obtain ⟨f, rfl⟩ : ∃ g, f = g + 1 := ⟨f - 1, by omega⟩
    have loop : ∀ (a e c fu : Nat), c + e = qN G → e < fu → fX9_countFrom_B_L35 (qN G) (fX9_countFromR (qN G) f) (nI j) (nI seen) (bv has) (nI dep) fu (nI (a + ct (cfs G t en wt d j seen has) c)) (nI c) x = some (nI (a + ct (cfs G t en wt d j seen has) (qN G)), x) := by
      intro a e
      induction e with
      | zero =>
        intro c fu hc hfu
        obtain ⟨g, rfl⟩ : ∃ g, fu = g + 1 := ⟨fu - 1, by omega⟩
        obtain rfl : c = qN G := by omega
        rw [fX9_countFrom_B_L35_s, hp.2.1, if_pos (nI_le (Nat.le_refl _) (by omega))]
      | succ e ihe =>
        intro c fu hc hfu
        obtain ⟨g, rfl⟩ : ∃ g, fu = g + 1 := ⟨fu - 1, by omega⟩
        have c3 : c < qN G := by omega
        obtain ⟨e5, e6, e7, e8⟩ := hp.2.2.2.2 c c3
        obtain ⟨ha, hb, hab, hk, hww⟩ := hw.2.2.2.2 c c3
        have hci : (nI c).toNatClampNeg = c := nI_clamp (by omega)
        have c2 : ¬ (nI c < 0 ∨ 12 ≤ c) := inR' (by omega) (by decide)
        have ea : ∀ k, k < 6 → (nI k = nI j ↔ k = j) := fun k hk => nI_eq (by omega) (by omega)
        have ho := oth_lt hw (j := j) c3
        have hoth : fX2_otherEnd (qN G) c (nI j) x = some (nI (oth G c j), x) := by
          unfold fX2_otherEnd oth
          simp only [if_pos c3, e5, e6]
          by_cases z : qa G c = j
          · rw [if_neg (fun y => y ((ea _ (by omega)).mpr z)), if_pos z]
          · rw [if_pos (fun y => z ((ea _ (by omega)).mp y)), if_neg z]
        have hat : fX2_isAt (qN G) c (nI j) x = some (bv (decide (qa G c = j) || decide (qb G c = j)), x) := by
          unfold fX2_isAt
          simp only [if_pos c3, e5, e6]
          by_cases z : qa G c = j
          · rw [if_pos ((ea _ (by omega)).mpr z), decide_eq_true z]; rfl
          · rw [if_neg (fun y => z ((ea _ (by omega)).mp y)), decide_eq_false z]
            by_cases z2 : qb G c = j
            · rw [if_neg (fun y => y ((ea _ (by omega)).mpr z2)), decide_eq_true z2]; rfl
            · rw [if_pos (fun y => z2 ((ea _ (by omega)).mp y)), decide_eq_false z2]; rfl
        have ihh := ihe (c + 1) g (by omega) (by omega)
        have hct : ct (cfs G t en wt d j seen has) (c + 1) = ct (cfs G t en wt d j seen has) c + cfs G t en wt d j seen has c := rfl
        have bit := w_bit seen (by omega) (oth G c j) (by omega)
        have skip : vld G t seen j c = false → fX9_countFrom_B_L35 (qN G) (fX9_countFromR (qN G) f) (nI j) (nI seen) (bv has) (nI dep) g (nI (a + ct (cfs G t en wt d j seen has) c)) (nI (c + 1)) x = some (nI (a + ct (cfs G t en wt d j seen has) (qN G)), x) := by
          intro hv
          have : cfs G t en wt d j seen has c = 0 := by unfold cfs; rw [hv]; rfl
          rw [hct, this, Nat.add_zero] at ihh; exact ihh
        rw [fX9_countFrom_B_L35_s]
        unfold fX9_countFrom_B_J121 fX9_countFrom_B_J126 fX9_countFrom_B_J136
        simp only [hp.2.1, hci, if_neg (nI_ge c3 (by omega)), if_pos c2, if_pos c3, hoth, hat, bnd, e8, h56, h57, bit, nI_1]
        cases hA : (decide (qa G c = j) || decide (qb G c = j)) with
        | false => rw [if_pos (by decide)]; exact skip (by unfold vld; rw [hA]; rfl)
        | true =>
          rw [if_neg (by decide)]
          by_cases hlt : qw G c < t
          · rw [if_pos (nI_lt hlt (by omega))]
            exact skip (by unfold vld; rw [decide_eq_false (show ¬ t ≤ qw G c by omega)]; simp)
          · rw [if_neg (nI_nlt (by omega) (by omega))]
            cases hsn : seen.testBit (oth G c j) with
            | true =>
              rw [if_pos (by decide)]
              exact skip (by unfold vld; rw [hsn]; simp)
            | false =>
              have hv : vld G t seen j c = true := by unfold vld; rw [hA, decide_eq_true (show t ≤ qw G c by omega), hsn]; rfl
              have hcs : cfs G t en wt d j seen has c = cf G t en wt d (oth G c j) (seen ||| 2 ^ oth G c j) (has || decide (c = wt)) := by unfold cfs; rw [hv]; rfl
              have hrec := ih f (dep + 1) (oth G c j) (seen ||| 2 ^ oth G c j) (has || decide (c = wt)) (by omega) (by omega) (by omega) ho (Nat.or_lt_two_pow (n := 6) hs (Nat.pow_lt_pow_right (n := 6) (by decide) (by omega)))
              rw [if_neg (by decide), w_or1 seen hs (oth G c j) (by omega)]
              rw [hct, hcs, ← Nat.add_assoc] at ihh
              cases has with
              | true =>
                rw [if_pos (by decide)]
                have hrec : fX9_countFromR (qN G) f (nI (oth G c j)) (nI (seen ||| 2 ^ oth G c j)) 1 (nI (dep + 1)) x = _ := hrec
                rw [hrec]
                show fX9_countFrom_B_L35 (qN G) (fX9_countFromR (qN G) f) (nI j) (nI seen) (bv true) (nI dep) g (_ + nI _) (nI (c + 1)) x = _
                rw [nI_add]; exact ihh
              | false =>
                rw [if_neg (by decide)]
                by_cases hcw : c = wt
                · rw [if_neg (fun z => z ((hwi c c3).mpr hcw))]
                  rw [decide_eq_true hcw] at hrec ihh
                  have hrec : fX9_countFromR (qN G) f (nI (oth G c j)) (nI (seen ||| 2 ^ oth G c j)) 1 (nI (dep + 1)) x = _ := hrec
                  rw [hrec]
                  show fX9_countFrom_B_L35 (qN G) (fX9_countFromR (qN G) f) (nI j) (nI seen) (bv false) (nI dep) g (_ + nI _) (nI (c + 1)) x = _
                  rw [nI_add]; exact ihh
                · rw [if_pos (fun z => hcw ((hwi c c3).mp z))]
                  rw [decide_eq_false hcw] at hrec ihh
                  have hrec : fX9_countFromR (qN G) f (nI (oth G c j)) (nI (seen ||| 2 ^ oth G c j)) 0 (nI (dep + 1)) x = _ := hrec
                  rw [hrec]
                  show fX9_countFrom_B_L35 (qN G) (fX9_countFromR (qN G) f) (nI j) (nI seen) (bv false) (nI dep) g (_ + nI _) (nI (c + 1)) x = _
                  rw [nI_add]; exact ihh
    have fin : ∀ a : Nat, fX9_countFrom_B_J30 (qN G) (fX9_countFromR (qN G) f) (nI j) (nI seen) (bv has) (nI dep) (nI a) x = some (nI (a + ct (cfs G t en wt d j seen has) (qN G)), x) := by
      intro a
      unfold fX9_countFrom_B_J30
      have := loop a (qN G) 0 FU (by omega) (by show qN G < 1000000; omega)
      rw [show (0 : Int32) = nI 0 from rfl, show nI a = nI (a + ct (cfs G t en wt d j seen has) 0) from rfl, this]; rfl
    show fX9_countFrom_B (qN G) (fX9_countFromR (qN G) f) (nI j) (nI seen) (bv has) (nI dep) x = _
    unfold fX9_countFrom_B fX9_countFrom_B_J29
    rw [if_pos (show nI dep ≤ 6 from nI_le (b := 6) (by omega) (by decide)), h55, w_bit en (by omega) j (by omega)]
    have hcf : cf G t en wt (d + 1) j seen has = (has && en.testBit j).toNat + ct (cfs G t en wt d j seen has) (qN G) := rfl
    rw [hcf]
    cases has with
    | false => rw [if_pos (by decide)]; exact fin 0
    | true =>
      rw [if_neg (by decide)]
      cases hb : en.testBit j with
      | false => rw [if_pos (by decide)]; exact fin 0
      | true => rw [if_neg (by decide)]; exact fin 1
theorem over_L (hw : Wf G) (hp : Pc G x) {wi : Int32} {h0 : Bool} (ht : t ≤ 12) (h54 : gI x 54 = nI (stq G)) (h55 : gI x 55 = nI (enq G)) (h56 : gI x 56 = nI t) (h57 : gI x 57 = wi) (hwi : ∀ c, c < qN G → (nI c = wi ↔ c = wt)) (hh : (wi = -9 → h0 = true) ∧ (¬ wi = -9 → h0 = false)) : ∀ (d i fu : Nat), i + d = qJ G → d < fu → fX9_countOver_L19 (qN G) wi fu (nI (ct (fun j => if (stq G).testBit j then cf G t (enq G) wt 6 j (2 ^ j) h0 else 0) i)) (nI i) x = some (nI (Wy G t wt h0), x) := by
  intro d
  have hJ := hw.1
  have s64 := (stq64 hw).2
  induction d with
  | zero =>
    intro i fu hi hf
    obtain ⟨f, rfl⟩ : ∃ f, fu = f + 1 := ⟨fu - 1, by omega⟩
    obtain rfl : i = qJ G := by omega
    rw [fX9_countOver_L19_s, hp.1, if_pos (nI_le (Nat.le_refl _) (by omega))]; rfl
  | succ d ih =>
    intro i fu hi hf
    obtain ⟨f, rfl⟩ : ∃ f, fu = f + 1 := ⟨fu - 1, by omega⟩
    have ihh := ih (i + 1) f (by omega) (by omega)
    simp only [ct] at ihh
    have hrec := x_cf hw hp ht (enq64 hw).2 h55 h56 h57 hwi 6 8 1 i (2 ^ i) h0 (by omega) (by omega) (by omega) (by omega) (cn_one i (by omega)).2
    rw [fX9_countOver_L19_s]
    unfold fX9_countOver_J63 fX9_countOver_J69
    rw [hp.1, if_neg (nI_ge (show i < qJ G by omega) (by omega)), h54, w_bit (stq G) (by omega) i (by omega)]
    simp only [w_shl i (show i < 7 by omega), nI_1]
    cases hb : (stq G).testBit i with
    | false =>
      rw [if_pos (by decide)]
      rw [hb] at ihh; exact ihh
    | true =>
      rw [hb, if_pos rfl] at ihh
      rw [if_neg (by decide)]
      by_cases hw9 : wi = -9
      · have := hh.1 hw9
        subst this
        rw [if_neg (fun z => z hw9)]
        rw [show fX9_countFrom (qN G) (nI i) (nI (2 ^ i)) 1 1 x = _ from hrec]
        show fX9_countOver_L19 (qN G) wi f (_ + nI _) (nI (i + 1)) x = _
        rw [nI_add]; exact ihh
      · have := hh.2 hw9
        subst this
        rw [if_pos hw9]
        rw [show fX9_countFrom (qN G) (nI i) (nI (2 ^ i)) 0 1 x = _ from hrec]
        show fX9_countOver_L19 (qN G) wi f (_ + nI _) (nI (i + 1)) x = _
        rw [nI_add]; exact ihh
/-- what looking for ways leaves as it was -/
def FrP (x x' : MS) : Prop := (∀ k, k ≠ 54 → k ≠ 55 → k ≠ 56 → k ≠ 57 → gI x' k = gI x k) ∧ x'.2 = x.2
theorem x_countOver (hw : Wf G) (hp : Pc G x) {wi : Int32} {h0 : Bool} (ht : t ≤ 12) (hwi : ∀ c, c < qN G → (nI c = wi ↔ c = wt)) (hh : (wi = -9 → h0 = true) ∧ (¬ wi = -9 → h0 = false)) : ∃ x', fX9_countOver (qN G) wi (nI t) x = some (nI (Wy G t wt h0), x') ∧ FrP x x' := by
  have hJ := hw.1
  obtain ⟨x1, e1, a54, a55, i1, r1⟩ := x_findEnds (nc := qN G) hw hp
  have p1 : Pc G (sI (sI x1 56 (nI t)) 57 wi) := hp.frame (i1 1 (by decide) (by decide)) (i1 4 (by decide) (by decide)) (fun a _ => by show x1.2.2.1 a = x.2.2.1 a; rw [r1])
  have := over_L hw p1 (t := t) (wt := wt) (wi := wi) (h0 := h0) ht a54 a55 rfl rfl hwi hh (qJ G) 0 FU (by omega) (by show qJ G < 1000000; omega)
  refine ⟨sI (sI x1 56 (nI t)) 57 wi, ?_, fun k h1 h2 h3 h4 => by rw [gI_ne h4, gI_ne h3]; exact i1 k h1 h2, r1⟩
  unfold fX9_countOver
  rw [e1]
  try rw [bnd_k]
  try simp only [lets]
  show bnd (fX9_countOver_L19 (qN G) wi FU 0 0 (sI (sI x1 56 (nI t)) 57 wi)) _ = _
  rw [show fX9_countOver_L19 (qN G) wi FU 0 0 (sI (sI x1 56 (nI t)) 57 wi) = some (nI (Wy G t wt h0), _) from this]; rfl
theorem x_isOne (hw : Wf G) (hp : Pc G x) (ht : t ≤ 12) : ∃ x', fX9_isOne (qN G) (nI t) x = some (bv (decide (0 < Wy G t 99 true)), x') ∧ FrP x x' := by
  obtain ⟨x1, e1, a54, a55, i1, r1⟩ := x_findEnds (nc := qN G) hw hp
  have p1 : Pc G x1 := hp.frame (i1 1 (by decide) (by decide)) (i1 4 (by decide) (by decide)) (fun a _ => by show x1.2.2.1 a = x.2.2.1 a; rw [r1])
  refine ⟨x1, ?_, fun k h1 h2 h3 h4 => i1 k h1 h2, r1⟩
  unfold fX9_isOne
  rw [e1]
  try rw [bnd_k]
  try simp only [lets]
  show bnd (fX5_reachedFrom (qN G) (gI x1 54) (nI t) x1) _ = _
  rw [a54, x_reached hw p1 ht (stq64 hw).1]
  show (if nI (its G t 6 (stq G)) &&& gI x1 55 = 0 then some (0, x1) else some (1, x1)) = _
  have hl := its_lt (t := t) hw 6 _ (stq64 hw).1
  have h64 := pow6 hw
  rw [a55, w_and _ (by omega) _ (enq64 hw).2]
  have hlt : its G t 6 (stq G) &&& enq G < 2 ^ 31 := Nat.lt_of_le_of_lt Nat.and_le_left (by omega)
  by_cases z : its G t 6 (stq G) &&& enq G = 0
  · rw [if_pos (by rw [z]; rfl), decide_eq_false (fun y => (way_iff hw).mp y z)]; rfl
  · rw [if_neg (nI_ne0 (by omega) hlt), decide_eq_true ((way_iff hw).mpr z)]; rfl
end PATHS
