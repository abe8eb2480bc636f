section CWAYS
variable {G : GD} {s s' s'' m m' x x' : MS} {t en : Nat}
theorem ways_L22 {x1 x2 : Int32} {st : Nat} (hst : st < 6) : ∀ (d i fu : Nat) (s : MS), i + d = 6 → d < fu → (∀ k, k < i → gA s 27 k = bv (decide (k = st))) → ∃ s', fX12_waysFrom_L22 (nI st) x2 0 0 fu (nI i) s = some ((), s') ∧ FrW s s' ∧ (∀ a, a ≠ 27 → gA s' a = gA s a) ∧ ∀ k, k < 6 → gA s' 27 k = bv (decide (k = st)) := by
  intro d
  induction d with
  | zero =>
    intro i fu s hi hf h27
    obtain ⟨f, rfl⟩ : ∃ f, fu = f + 1 := ⟨fu - 1, by omega⟩
    obtain rfl : i = 6 := by omega
    exact ⟨s, by rw [fX12_waysFrom_L22_s, if_pos (by decide)], FrW.rfl', fun _ _ => rfl, h27⟩
  | succ d ih =>
    intro i fu s hi hf h27
    obtain ⟨f, rfl⟩ : ∃ f, fu = f + 1 := ⟨fu - 1, by omega⟩
    have hci : (nI i).toNatClampNeg = i := nI_clamp (by omega)
    have c2 : ¬ (nI i < 0 ∨ 6 ≤ i) := inR' (by omega) (by decide)
    obtain ⟨s', e, q1, q2, q3⟩ := ih (i + 1) f (sA s 27 i (bv (decide (i = st)))) (by omega) (by omega) (by
      intro k hk
      rw [gA_eq]
      by_cases z : k = i
      · subst z; exact upd_s
      · rw [upd_n z]; exact h27 k (by omega))
    refine ⟨s', ?_, (FrW.put (by omega) (by omega)).trans q1, fun a ha => (q2 a ha).trans (gA_ne ha), q3⟩
    rw [fX12_waysFrom_L22_s, if_neg (show ¬ (6 : Int32) ≤ nI i from nI_ge (b := 6) (by omega) (by decide))]
    unfold fX12_waysFrom_J46
    simp only [hci, if_pos c2, lets, nI_1]
    by_cases z : i = st
    · rw [if_neg (fun y => y (by rw [z]))]
      rw [decide_eq_true z] at e
      exact e
    · rw [if_pos (fun y => z ((nI_eq (by omega) (by omega)).mp y))]
      rw [decide_eq_false z] at e
      exact e
theorem pow_bit : ∀ st, st < 6 → ∀ i, i < 6 → (0 ||| 2 ^ st).testBit i = decide (i = st) := by decide +kernel
theorem cn_or0 : ∀ st, st < 6 → cn (0 ||| 2 ^ st) = 0 + 1 := by decide +kernel
theorem m_waysFrom (hw : Wf G) (hp : Pc G s) (hE : EN G en s) (ht : t ≤ 12) {st : Nat} (hst : st < qJ G) {th : Nat → Bool} (h28 : ∀ c, c < 12 → gA s 28 c = bv (th c)) : ∃ s', fX12_waysFrom (nI st) (nI t) s = some (nI (ct (cfs G t en 99 5 st (2 ^ st) true) (qN G)), s') ∧ FrW s s' ∧ ∀ c, c < 12 → gA s' 28 c = bv (th c || decide (0 < ct (cfs G t en c 5 st (2 ^ st) false) (qN G))) := by
  have hJ := hw.1
  have h12 := hw.2.1
  obtain ⟨s1, e1, f1, a1, b1⟩ := ways_L22 (x1 := nI st) (x2 := nI t) (st := st) (by omega) 6 0 FU (sA (sA s 25 0 (nI st)) 26 0 (-1)) (by omega) (by show 6 < 1000000; omega) (fun k hk => absurd hk (by omega))
  have F : FrW s s1 := ((FrW.put (by omega) (by omega)).trans (FrW.put (by omega) (by omega))).trans f1
  have hSW : SW G 0 (fun _ => st) (fun _ => 0) (0 ||| 2 ^ (fun _ => st) 0) th s1 := by
    refine ⟨fun r hr => ?_, fun r hr => absurd hr (by omega), fun i hi => ?_, fun c hc => ?_⟩
    · obtain rfl : r = 0 := by omega
      rw [a1 25 (by decide), gA_ne (by decide), gA_eq, upd_s]
    · rw [b1 i hi]
      show _ = bv ((0 ||| 2 ^ st).testBit i)
      rw [pow_bit st (by omega) i hi]
    · rw [a1 28 (by decide), gA_ne (by decide), gA_ne (by decide)]; exact h28 c hc
  obtain ⟨K, hK, s2, F2, -, -, -, c28, e2⟩ := ways_lv hw (en := en) ht 5 0 (by omega) (qN G) 0 (by omega) (fun _ => st) (fun _ => 0) 0 th s1 0 (hp.fw F) (hE.fw F) (by decide) hst (Nat.zero_testBit _) (cn_or0 st (by omega)) hSW (by rw [a1 26 (by decide), gA_eq, upd_s]; rfl)
  refine ⟨s2, ?_, F.trans F2, fun c hc => ?_⟩
  · have hK' : K ≤ 600000 := by
      have h1 : qN G * (1 + CB 4) ≤ 12 * (1 + CB 4) := Nat.mul_le_mul_right _ h12
      have h2 : CB 4 = 45241 := by decide
      rw [if_neg (by decide)] at hK
      have hK : K ≤ 1 + qN G * (1 + CB 4) := hK
      omega
    unfold fX12_waysFrom
    have hL : fX12_waysFrom_L53 (nI t) FU 0 0 s1 = some (nI (ct (cfs G t en 99 5 st (2 ^ st) true) (qN G)), s2) := by
      have e3 := e2 (1000000 - K - 1 + 1)
      rw [show FU = 1000000 - K - 1 + 1 + K by show 1000000 = _; omega]
      have e3 : fX12_waysFrom_L53 (nI t) (1000000 - K - 1 + 1 + K) 0 0 s1 = fX12_waysFrom_L53 (nI t) (1000000 - K - 1 + 1) (0 + nI (ct (cfs G t en 99 5 st (0 ||| 2 ^ st) true) (qN G) - ct (cfs G t en 99 5 st (0 ||| 2 ^ st) true) 0)) (nI 0 + (-1)) s2 := e3
      rw [e3, fX12_waysFrom_L53_s, if_pos co_m1, Nat.zero_or]
      congr 2
      rw [Int32.zero_add]; rfl
    rw [show (0 : Int32).toNatClampNeg = 0 from by decide, if_pos (by decide)]
    dsimp only [lets]
    rw [if_pos (by decide), show fX12_waysFrom_L22 (nI st) (nI t) 0 0 FU 0 (sA (sA s 25 0 (nI st)) 26 0 (-1)) = some ((), s1) from e1, bnd_k, hL]; rfl
  · rw [c28 c hc]
    congr 1
    unfold thN
    show (th c || decide (ct (cfs G t en c 5 st (0 ||| 2 ^ st) false) 0 < _)) = _
    rw [Nat.zero_or]; rfl
theorem ways_L2 {x1 : Int32} : ∀ (d i fu : Nat) (s : MS), i + d = 12 → d < fu → (∀ c, c < i → gA s 28 c = 0) → ∃ s', fX12_countWays_L2 x1 fu (nI i) s = some ((), s') ∧ FrW s s' ∧ ∀ c, c < 12 → gA s' 28 c = 0 := by
  intro d
  induction d with
  | zero =>
    intro i fu s hi hf h
    obtain ⟨f, rfl⟩ : ∃ f, fu = f + 1 := ⟨fu - 1, by omega⟩
    obtain rfl : i = 12 := by omega
    exact ⟨s, by rw [fX12_countWays_L2_s, if_pos (by decide)], FrW.rfl', h⟩
  | succ d ih =>
    intro i fu s hi hf h
    obtain ⟨f, rfl⟩ : ∃ f, fu = f + 1 := ⟨fu - 1, by omega⟩
    have hci : (nI i).toNatClampNeg = i := nI_clamp (by omega)
    have c2 : ¬ (nI i < 0 ∨ 12 ≤ i) := inR' (by omega) (by decide)
    obtain ⟨s', e, q1, q2⟩ := ih (i + 1) f (sA s 28 i 0) (by omega) (by omega) (by
      intro c hc
      rw [gA_eq]
      by_cases z : c = i
      · subst z; exact upd_s
      · rw [upd_n z]; exact h c (by omega))
    refine ⟨s', ?_, (FrW.put (by omega) (by omega)).trans q1, q2⟩
    rw [fX12_countWays_L2_s, if_neg (show ¬ (12 : Int32) ≤ nI i from nI_ge (b := 12) (by omega) (by decide))]
    simp only [hci, if_pos c2, lets, nI_1, show vp_nar .boolean 0 = (0 : Int32) from rfl]
    exact e
def wyf (G : GD) (t wt : Nat) (h0 : Bool) (j : Nat) : Nat := if (stq G).testBit j then cf G t (enq G) wt 6 j (2 ^ j) h0 else 0
theorem cf6 (hw : Wf G) {j : Nat} (hj : (stq G).testBit j = true) (wt : Nat) (has : Bool) : cf G t (enq G) wt 6 j (2 ^ j) has = ct (cfs G t (enq G) wt 5 j (2 ^ j) has) (qN G) := by
  have he : (enq G).testBit j = false := by
    cases z : (enq G).testBit j with
    | false => rfl
    | true =>
      have : (stq G &&& enq G).testBit j = true := by rw [Nat.testBit_and, hj, z]; rfl
      rw [se_disj, Nat.zero_testBit] at this; exact Bool.noConfusion this
  show (has && (enq G).testBit j).toNat + _ = _
  rw [he, Bool.and_false]
  show 0 + ct (cfs G t (enq G) wt 5 j (2 ^ j) has) (qN G) = _
  rw [Nat.zero_add]
theorem ways_L31 (hw : Wf G) (ht : t ≤ 12) : ∀ (d i fu : Nat) (s : MS), i + d = qJ G → d < fu → Pc G s → EN G (enq G) s → (∀ k, k < qJ G → (stq G).testBit k = (qH G k && decide (gA s 3 k = gI s 23))) → (∀ c, c < 12 → gA s 28 c = bv (decide (0 < ct (wyf G t c false) i))) → ∃ s', fX12_countWays_L31 (nI t) 1 fu (nI (ct (wyf G t 99 true) i)) (nI i) s = some (nI (ct (wyf G t 99 true) (qJ G)), s') ∧ FrW s s' ∧ ∀ c, c < 12 → gA s' 28 c = bv (decide (0 < ct (wyf G t c false) (qJ G))) := by
  intro d
  have hJ := hw.1
  induction d with
  | zero =>
    intro i fu s hi hf hp hE hS h28
    obtain ⟨f, rfl⟩ : ∃ f, fu = f + 1 := ⟨fu - 1, by omega⟩
    obtain rfl : i = qJ G := by omega
    exact ⟨s, by rw [fX12_countWays_L31_s, hp.1, if_pos (nI_le (Nat.le_refl _) (by omega))], FrW.rfl', h28⟩
  | succ d ih =>
    intro i fu s hi hf hp hE hS h28
    obtain ⟨f, rfl⟩ : ∃ f, fu = f + 1 := ⟨fu - 1, by omega⟩
    have hci : (nI i).toNatClampNeg = i := nI_clamp (by omega)
    have c2 : ¬ (nI i < 0 ∨ 6 ≤ i) := inR' (by omega) (by decide)
    have hct : ∀ wt h0, ct (wyf G t wt h0) (i + 1) = ct (wyf G t wt h0) i + wyf G t wt h0 i := fun _ _ => rfl
    have go : fX12_countWays_L31 (nI t) 1 (f + 1) (nI (ct (wyf G t 99 true) i)) (nI i) s = if gA s 2 i = 0 then fX12_countWays_L31 (nI t) 1 f (nI (ct (wyf G t 99 true) i)) (nI (i + 1)) s else if ¬ gA s 3 i = gI s 23 then fX12_countWays_L31 (nI t) 1 f (nI (ct (wyf G t 99 true) i)) (nI (i + 1)) s else bnd (fX12_waysFrom (nI i) (nI t) s) (fun r17 s18 => fX12_countWays_L31 (nI t) 1 f (nI (ct (wyf G t 99 true) i) + r17) (nI (i + 1)) s18) := by
      rw [fX12_countWays_L31_s]
      unfold fX12_countWays_J79 fX12_countWays_J80
      simp only [hp.1, hci, if_neg (nI_ge (show i < qJ G by omega) (by omega)), if_pos c2, nI_1, Int32.add_zero]
      rw [if_neg (by decide)]
    have skip : (stq G).testBit i = false → ∃ s', fX12_countWays_L31 (nI t) 1 f (nI (ct (wyf G t 99 true) i)) (nI (i + 1)) s = some (nI (ct (wyf G t 99 true) (qJ G)), s') ∧ FrW s s' ∧ ∀ c, c < 12 → gA s' 28 c = bv (decide (0 < ct (wyf G t c false) (qJ G))) := by
      intro hb
      have z : ∀ wt h0, wyf G t wt h0 i = 0 := fun wt h0 => by unfold wyf; rw [hb]; rfl
      have := ih (i + 1) f s (by omega) (by omega) hp hE hS (fun c hc => by rw [hct, z, Nat.add_zero]; exact h28 c hc)
      rw [hct, z, Nat.add_zero] at this; exact this
    rw [go, hp.2.2.1 i (by omega)]
    have hb := hS i (by omega)
    cases hH : qH G i with
    | false =>
      rw [hH] at hb
      rw [if_pos bv0]; exact skip hb
    | true =>
      rw [hH] at hb
      rw [if_neg (by decide)]
      by_cases h3 : gA s 3 i = gI s 23
      · rw [decide_eq_true h3] at hb
        have hb : (stq G).testBit i = true := hb
        obtain ⟨s1, e1, f1, q1⟩ := m_waysFrom hw hp hE ht (st := i) (by omega) h28
        have z : ∀ wt h0, wyf G t wt h0 i = ct (cfs G t (enq G) wt 5 i (2 ^ i) h0) (qN G) := fun wt h0 => by unfold wyf; rw [hb, if_pos rfl, cf6 hw hb]
        obtain ⟨s2, e2, f2, q2⟩ := ih (i + 1) f s1 (by omega) (by omega) (hp.fw f1) (hE.fw f1) (fun k hk => by rw [f1.2 3 (by omega), f1.1.1 23]; exact hS k hk) (fun c hc => by
          rw [q1 c hc, hct, z]
          congr 1
          refine bool_eq ?_
          rw [Bool.or_eq_true, decide_eq_true_eq, decide_eq_true_eq, decide_eq_true_eq]; omega)
        refine ⟨s2, ?_, f1.trans f2, q2⟩
        rw [if_neg (fun y => y h3), e1]
        show fX12_countWays_L31 (nI t) 1 f (nI (ct (wyf G t 99 true) i) + nI _) (nI (i + 1)) s1 = _
        rw [nI_add, ← z 99 true, ← hct]; exact e2
      · rw [decide_eq_false h3] at hb
        rw [if_pos h3]; exact skip hb
/-- what looking for ways leaves of the reference -/
def FrQ (m m' : MS) : Prop := (∀ k, k ≠ 23 → k ≠ 24 → gI m' k = gI m k) ∧ gL m' = gL m ∧ (∀ k, gB m' k = gB m k) ∧ ∀ a, a < 25 ∨ 28 < a → gA m' a = gA m a
theorem m_countWays (hw : Wf G) (hp : Pc G m) (ht : t ≤ 12) : ∃ m', fX12_countWays (nI t) m = some (nI (Wy G t 99 true), m') ∧ FrQ m m' ∧ ∀ c, c < 12 → gA m' 28 c = bv (decide (0 < Wy G t c false)) := by
  have hJ := hw.1
  obtain ⟨m1, e1, f1, z1⟩ := ways_L2 (x1 := nI t) 12 0 FU m (by omega) (by show 12 < 1000000; omega) (fun c hc => absurd hc (by omega))
  obtain ⟨m2, fl', e2, i2, r2, ff, ft⟩ := m_findEnds hw (hp.fw f1)
  have a2 : ∀ a, gA m2 a = gA m1 a := fun a => by show m2.2.2.1 a = m1.2.2.1 a; rw [r2]
  have p2 : Pc G m2 := (hp.fw f1).frame (i2 1 (by decide) (by decide)) (i2 4 (by decide) (by decide)) (fun a _ => a2 a)
  have b2 : ∀ k, gB m2 k = gB m1 k := fun k => by show m2.2.2.2 k = m1.2.2.2 k; rw [r2]
  have l2 : gL m2 = gL m1 := by show m2.2.1 = m1.2.1; rw [r2]
  have base : fX12_countWays (nI t) m = bnd (fX12_countWays_L31 (nI t) (bv fl') FU 0 0 m2) (fun v20 s21 => some (v20, s21)) := by
    unfold fX12_countWays
    rw [show fX12_countWays_L2 (nI t) FU 0 m = some ((), m1) from e1]
    try rw [bnd_k]
    try simp only [lets]
    show bnd (fX12_findEnds m1) _ = _
    rw [e2]; rfl
  cases fl' with
  | false =>
    have h0 := ff rfl
    have W0 : ∀ wt h, Wy G t wt h = 0 := by
      intro wt h
      unfold Wy
      have := ct_bnd (p := fun j => if (stq G).testBit j then cf G t (enq G) wt 6 j (2 ^ j) h else 0) (b := 0) (qJ G) (fun i _ => by show (if (stq G).testBit i then _ else _) ≤ 0; rw [h0, Nat.zero_testBit]; exact Nat.le_refl _)
      omega
    refine ⟨m2, ?_, ⟨fun k h1 h2 => (i2 k h1 h2).trans (f1.1.1 k), l2.trans f1.1.2.1, fun k => (b2 k).trans (f1.1.2.2 k), fun a ha => (a2 a).trans (f1.2 a ha)⟩, fun c hc => ?_⟩
    · rw [base, W0, show FU = 999999 + 1 from rfl, fX12_countWays_L31_s]
      by_cases z : gI m2 1 ≤ 0
      · rw [if_pos z]; rfl
      · rw [if_neg z, if_pos (by decide)]; rfl
    · rw [a2, z1 c hc, W0]; rfl
  | true =>
    have hft := ft rfl
    obtain ⟨m3, e3, f3, q3⟩ := ways_L31 hw ht (qJ G) 0 FU m2 (by omega) (by show qJ G < 1000000; omega) p2 (fun i hi => by rw [a2 3]; exact (hft i hi).2) (fun i hi => by rw [a2 3]; exact (hft i hi).1) (fun c hc => by rw [a2, z1 c hc]; simp [ct, bv])
    refine ⟨m3, ?_, ⟨fun k h1 h2 => (f3.1.1 k).trans ((i2 k h1 h2).trans (f1.1.1 k)), f3.1.2.1.trans (l2.trans f1.1.2.1), fun k => (f3.1.2.2 k).trans ((b2 k).trans (f1.1.2.2 k)), fun a ha => (f3.2 a ha).trans ((a2 a).trans (f1.2 a ha))⟩, q3⟩
    rw [base]
    try rw [bnd_k]
    try simp only [lets]
    show bnd (fX12_countWays_L31 (nI t) 1 FU 0 0 m2) _ = _
    rw [show fX12_countWays_L31 (nI t) 1 FU 0 0 m2 = some (nI (ct (wyf G t 99 true) (qJ G)), m3) from e3]; rfl
theorem Pc.fq (hp : Pc G m) (h : FrQ m m') : Pc G m' := hp.frame (h.1 1 (by decide) (by decide)) (h.1 4 (by decide) (by decide)) (fun a ha => h.2.2.2 a (by omega))
theorem PX.fp (hp : PX G x) (h : FrP x x') : PX G x' := ⟨hp.1.frame (h.1 1 (by decide) (by decide) (by decide) (by decide)) (h.1 4 (by decide) (by decide) (by decide) (by decide)) (fun a _ => by show x'.2.2.1 a = x.2.2.1 a; rw [h.2]), fun j hj => by show x'.2.2.1 2 j = 0; rw [h.2]; exact hp.2 j hj⟩
end CWAYS
section WAYOPS
variable {G : GD} {s s' x x' x'' m m' : MS} {nc j J B t : Nat}
/-- ways were looked for, nothing else -/
theorem rel_ways (h : RelB j B nc x m) (fx : FrP x x') (fm : FrQ m m') : RelB j B nc x' m' := by
  obtain ⟨J, hJ, hC, hS, hK, hO, hW⟩ := h
  have iX : ∀ k, k < 54 ∨ 57 < k → gI x' k = gI x k := fun k hk => fx.1 k (by omega) (by omega) (by omega) (by omega)
  have aX : ∀ a, gA x' a = gA x a := fun a => by show x'.2.2.1 a = x.2.2.1 a; rw [fx.2]
  have bX : ∀ a, gB x' a = gB x a := fun a => by show x'.2.2.2 a = x.2.2.2 a; rw [fx.2]
  have iM : ∀ k, k ≠ 23 → k ≠ 24 → gI m' k = gI m k := fm.1
  have aM : ∀ a, a < 25 ∨ 28 < a → gA m' a = gA m a := fm.2.2.2
  refine ⟨J, ?_, ?_, ?_, ?_, ?_, ?_⟩
  · exact hJ.keep (iX 1 (by decide)) (iM 1 (by decide) (by decide)) (aX 2) (aX 3) (aM 2 (by decide)) (aM 3 (by decide))
  · exact hC.keep (iX 4 (by decide)) (iM 4 (by decide) (by decide)) (aX 5) (aX 6) (aX 7) (aX 8) (aX 9) (aX 10) (aM 5 (by decide)) (aM 6 (by decide)) (aM 7 (by decide)) (aM 8 (by decide)) (aM 9 (by decide)) (aM 10 (by decide))
  · obtain ⟨⟨r, r1, r2, r3, r4⟩, ⟨S, S1, S2, S3⟩, hf, htr⟩ := hS
    refine ⟨⟨r, r1, r2, (iX 11 (by decide)).trans r3, (iM 11 (by decide) (by decide)).trans r4⟩, ⟨S, S1, (iX 12 (by decide)).trans S2, (iM 12 (by decide) (by decide)).trans S3⟩, ?_, ?_⟩
    · rw [iX 0 (by decide), iM 0 (by decide) (by decide)]; exact hf
    · rw [iX 38 (by decide), iM 38 (by decide) (by decide)]; exact htr
  · obtain ⟨K, p, k1, k2, k3, k4, k5, k6⟩ := hK
    refine ⟨K, p, k1, k2, (iX 29 (by decide)).trans k3, (iM 29 (by decide) (by decide)).trans k4, (iX 58 (by decide)).trans k5, fun t ht => ?_⟩
    obtain ⟨n, s, a, b, c1, c2, c3, c4, c5⟩ := k6 t ht
    refine ⟨n, s, a, b, by rw [aX 73]; exact c1, by rw [aM 30 (by decide)]; exact c2, by rw [aX 74]; exact c3, by rw [aM 31 (by decide)]; exact c4, fun c hc => ?_⟩
    rw [aX, aX, aM 32 (by decide), aM 33 (by decide)]
    exact c5 c hc
  · exact hO.keep (aX 40) (aX 41) (aX 42) (aM 34 (by decide)) (aM 35 (by decide)) (fun k _ _ => bX k) (fm.2.2.1 36)
  · exact hW.keep keeps_Vq ⟨iX 1 (by decide), iX 4 (by decide), aX 2, aX 3, aX 5, aX 6, aX 7, aX 8, by show x'.2.1 = x.2.1; rw [fx.2], iX 51 (by decide), bX 69, bX 70⟩ (iX 50 (by decide)) (iX 53 (by decide))
theorem FrP.rfl' : FrP x x := ⟨fun _ _ _ _ _ => rfl, rfl⟩
theorem FrP.trans (h : FrP x x') (h' : FrP x' x'') : FrP x x'' := ⟨fun k a b c d => (h'.1 k a b c d).trans (h.1 k a b c d), h'.2.trans h.2⟩
theorem FrQ.trans {m'' : MS} (h : FrQ m m') (h' : FrQ m' m'') : FrQ m m'' := ⟨fun k a b => (h'.1 k a b).trans (h.1 k a b), h'.2.1.trans h.2.1, fun k => (h'.2.2.1 k).trans (h.2.2.1 k), fun a ha => (h'.2.2.2 a ha).trans (h.2.2.2 a ha)⟩
theorem FrQ.rfl' : FrQ m m := ⟨fun _ _ _ => rfl, rfl, fun _ => rfl, fun _ _ => rfl⟩
theorem m9 : ∀ c, c < 12 → (nI c = -9 ↔ c = 99) := by decide +kernel
theorem op_ways : ∀ (y1 : Int32), OpI (RelV Vq) (fun nc σ => fX11_ways nc y1 σ) (fun σ => fX12_ways y1 σ) := by
  intro y1 j nc x m hj hR
  show ∃ (r : Int32) (σx' σm' : MS), fX11_ways nc y1 x = some (r, σx') ∧ fX12_ways y1 m = some (r, σm') ∧ RelV Vq (j + 1) nc σx' σm'
  rcases am01 y1 1 12 with ⟨ha, -⟩ | ⟨ha, h1, h2⟩
  · refine ⟨-2, x, m, ?_, ?_, hR.next⟩
    · unfold fX11_ways; rw [x_isLeastWidth, ha]; rfl
    · unfold fX12_ways; rw [ha]; rfl
  · obtain ⟨t, ht1, ht, rfl⟩ := range_of1 (n := 12) (by decide) h1 h2
    obtain ⟨J, hJ, hC, hS, hK, hO, hW⟩ := id hR
    obtain ⟨G, hw, e1, e2, px, pm⟩ := rel_G hJ hC
    subst e2
    obtain ⟨x', ex, fx⟩ := x_countOver hw px.1 (t := t) (wt := 99) (wi := -9) (h0 := true) ht (fun c hc => m9 c (by have := hw.2.1; omega)) ⟨fun _ => rfl, fun z => absurd rfl z⟩
    obtain ⟨m', em, fm, -⟩ := m_countWays hw pm (t := t) ht
    refine ⟨nI (Wy G t 99 true), x', m', ?_, ?_, (rel_ways (RelB.of hR) fx fm).to (by omega)⟩
    · unfold fX11_ways; rw [x_isLeastWidth, ha]
      try rw [bnd_k]
      try simp only [lets]
      show bnd (fX9_count (qN G) (nI t) x) _ = _
      unfold fX9_count
      rw [ex]; rfl
    · unfold fX12_ways; rw [ha]
      try rw [bnd_k]
      try simp only [lets]
      show bnd (fX12_countWays (nI t) m) _ = _
      rw [em]; rfl
theorem op_through : ∀ (y1 y2 : Int32), OpI (RelV Vq) (fun nc σ => fX11_through nc y1 y2 σ) (fun σ => fX12_through y1 y2 σ) := by
  intro y1 y2 j nc x m hj hR
  obtain ⟨J, hJ, hC, hS, hK, hO, hW⟩ := id hR
  obtain ⟨G, hw, e1, e2, px, pm⟩ := rel_G hJ hC
  have h12 := hC.1
  have hx4 := hC.2.1
  have hm4 := hC.2.2.1
  show ∃ (r : Int32) (σx' σm' : MS), fX11_through nc y1 y2 x = some (r, σx') ∧ fX12_through y1 y2 m = some (r, σm') ∧ RelV Vq (j + 1) nc σx' σm'
  rcases ixc y1 (n := nc) (by omega) with ho | ⟨c, hc, rfl⟩
  · refine ⟨-1, x, m, ?_, ?_, hR.next⟩
    · unfold fX11_through; rw [x_hasCrack_out hx4 ho]; rfl
    · unfold fX12_through; rw [m_noCrack_out hm4 (by omega) ho]; rfl
  rcases am01 y2 1 12 with ⟨ha, -⟩ | ⟨ha, h1, h2⟩
  · refine ⟨-2, x, m, ?_, ?_, hR.next⟩
    · unfold fX11_through; rw [x_hasCrack_in hx4 (by omega) hc, x_isLeastWidth, ha]; rfl
    · unfold fX12_through; rw [m_noCrack_in hm4 (by omega) hc, ha]; rfl
  obtain ⟨t, ht1, ht, rfl⟩ := range_of1 (n := 12) (by decide) h1 h2
  have hne : ¬ nI c = -9 := fun z => by have := (m9 c (by omega)).mp z; omega
  have hci : (nI c).toNatClampNeg = c := nI_clamp (by omega)
  have c1 : ¬ (nI c < 0 ∨ 12 ≤ c) := inR' (by omega) (by decide)
  subst e2
  obtain ⟨x', ex, fx⟩ := x_countOver hw px.1 (t := t) (wt := c) (wi := nI c) (h0 := false) ht (fun c' hc' => nI_eq (by omega) (by omega)) ⟨fun z => absurd z hne, fun _ => rfl⟩
  obtain ⟨m', em, fm, q28⟩ := m_countWays hw pm (t := t) ht
  have hb := Wy_bnd hw (t := t) (wt := c) (h0 := false)
  refine ⟨bv (decide (0 < Wy G t c false)), x', m', ?_, ?_, (rel_ways (RelB.of hR) fx fm).to (by omega)⟩
  · unfold fX11_through; rw [x_hasCrack_in hx4 (by omega) hc, x_isLeastWidth, ha]
    try rw [bnd_k]
    try simp only [lets]
    show bnd (fX9_countOver (qN G) (nI c) (nI t) x) _ = _
    rw [ex]
    show (if nI (Wy G t c false) ≤ 0 then some (0, x') else some (1, x')) = _
    by_cases z : 0 < Wy G t c false
    · rw [if_neg (nI_nle z (by omega)), decide_eq_true z]; rfl
    · rw [show Wy G t c false = 0 by omega, if_pos (by decide)]; rfl
  · unfold fX12_through; rw [m_noCrack_in hm4 (by omega) hc, ha]
    try rw [bnd_k]
    try simp only [lets]
    show bnd (fX12_countWays (nI t) m) _ = _
    rw [em]
    show (if ¬ (nI c < 0 ∨ 12 ≤ (nI c).toNatClampNeg) then (if gA m' 28 (nI c).toNatClampNeg = 0 then some (0, m') else some (1, m')) else none) = _
    rw [hci, if_pos c1, q28 c (by omega)]
    cases decide (0 < Wy G t c false) <;> rfl
theorem Wy_ne {h0 : Bool} (hw : Wf G) {wt : Nat} : nI (Wy G t wt h0) = 0 ↔ ¬ 0 < Wy G t wt h0 := by
  have hb := Wy_bnd hw (t := t) (wt := wt) (h0 := h0)
  constructor
  · intro z y; exact nI_ne0 y (by omega) z
  · intro z; rw [show Wy G t wt h0 = 0 by omega]; rfl
theorem open_L (hw : Wf G) : ∀ (t fu : Nat) (x m : MS), t ≤ 12 → t < fu → PX G x → Pc G m → ∃ (v : Int32) (x' m' : MS), (fX11_open_L3 (qN G) fu (nI t) x = some (Sum.inl v, x') ∨ v = 0 ∧ fX11_open_L3 (qN G) fu (nI t) x = some (Sum.inr (), x')) ∧ fX12_open_L3 fu (nI t) m = some (v, m') ∧ FrP x x' ∧ FrQ m m' := by
  intro t
  induction t with
  | zero =>
    intro fu x m ht hf px pm
    obtain ⟨f, rfl⟩ : ∃ f, fu = f + 1 := ⟨fu - 1, by omega⟩
    refine ⟨0, x, m, Or.inr ⟨rfl, ?_⟩, ?_, FrP.rfl', FrQ.rfl'⟩
    · rw [fX11_open_L3_s, if_pos (by decide)]
    · rw [fX12_open_L3_s, if_pos (by decide)]; rfl
  | succ t ih =>
    intro fu x m ht hf px pm
    obtain ⟨f, rfl⟩ : ∃ f, fu = f + 1 := ⟨fu - 1, by omega⟩
    obtain ⟨x1, ex, fx⟩ := x_isOne hw px.1 (t := t + 1) ht
    obtain ⟨m1, em, fm, -⟩ := m_countWays hw pm (t := t + 1) ht
    by_cases z : 0 < Wy G (t + 1) 99 true
    · refine ⟨nI (t + 1), x1, m1, Or.inl ?_, ?_, fx, fm⟩
      · rw [fX11_open_L3_s, if_neg (nI_nle (by omega) (by omega)), ex, decide_eq_true z]; rfl
      · rw [fX12_open_L3_s, if_neg (nI_nle (by omega) (by omega)), em]
        show (if ¬ nI (Wy G (t + 1) 99 true) = 0 then _ else _) = _
        rw [if_pos (fun y => (Wy_ne hw).mp y z)]
    · obtain ⟨v, x2, m2, q1, q2, q3, q4⟩ := ih f x1 m1 (by omega) (by omega) (px.fp fx) (pm.fq fm)
      refine ⟨v, x2, m2, ?_, ?_, fx.trans q3, fm.trans q4⟩
      · have e : fX11_open_L3 (qN G) (f + 1) (nI (t + 1)) x = fX11_open_L3 (qN G) f (nI t) x1 := by
          rw [fX11_open_L3_s, if_neg (nI_nle (by omega) (by omega)), ex, decide_eq_false z]
          show fX11_open_L3 (qN G) f (nI (t + 1) + (-1)) x1 = _
          rw [pk_m1]
        rw [e]; exact q1
      · rw [fX12_open_L3_s, if_neg (nI_nle (by omega) (by omega)), em]
        show (if ¬ nI (Wy G (t + 1) 99 true) = 0 then _ else fX12_open_L3 f (nI (t + 1) + (-1)) m1) = _
        rw [if_neg (fun y => y ((Wy_ne hw).mpr z)), pk_m1]; exact q2
theorem op_open : OpI (RelV Vq) (fun nc σ => fX11_open nc σ) (fun σ => fX12_open σ) := by
  intro j nc x m hj hR
  obtain ⟨J, hJ, hC, hS, hK, hO, hW⟩ := id hR
  obtain ⟨G, hw, e1, e2, px, pm⟩ := rel_G hJ hC
  subst e2
  obtain ⟨v, x', m', q1, q2, q3, q4⟩ := open_L hw 12 FU x m (by omega) (by show 12 < 1000000; omega) px pm
  refine ⟨v, x', m', ?_, ?_, (rel_ways (RelB.of hR) q3 q4).to (by omega)⟩
  · show fX11_open (qN G) x = _
    unfold fX11_open
    rcases q1 with q | ⟨h0, q⟩
    · rw [show (12 : Int32) = nI 12 from rfl, q]; rfl
    · rw [show (12 : Int32) = nI 12 from rfl, q, h0]; rfl
  · show fX12_open m = _
    unfold fX12_open
    rw [show (12 : Int32) = nI 12 from rfl, q2]; rfl
end WAYOPS
