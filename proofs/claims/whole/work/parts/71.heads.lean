/-! THE REFERENCE's table and heads -/
section MHEADS
variable {G : GD} {s s' s'' : MS}
def coq (G : GD) (d : Nat) : Int := if Bq G d = true then 0 else bq G d
/-- the table as rows of joints -/
def TBM (G : GD) (F : Nat → Nat → Int) (s : MS) : Prop := ∀ r, r < cn (bal G) → (∀ c, c < cn (bal G) → gB s 19 (6 * r + c) = Int64.ofInt (F (qm (bal G) r) (qm (bal G) c))) ∧ gB s 19 (6 * r + 5) = Int64.ofInt (- sumN (fun d => coq G d * F (qm (bal G) r) d) 6)
/-- what is known while the table is made -/
def PL (G : GD) (s : MS) : Prop := Pc G s ∧ gI s 16 = nI (cn (bal G)) ∧ (∀ j, j < qJ G → gA s 13 j = bv ((wet G).testBit j)) ∧ ∀ j, j < qJ G → Bq G j = true → gA s 18 j = nI (plm (bal G) j)
theorem PL.sb {lo hi : Nat} (h : PL G s) (b : SB lo hi s s') : PL G s' := ⟨h.1.sb b, (b.1 16).trans h.2.1, fun j hj => by rw [b.2.2.1]; exact h.2.2.1 j hj, fun j hj hB => by rw [b.2.2.1]; exact h.2.2.2 j hj hB⟩
theorem ml_lets (hw : Wf G) (hp : Pc G s) {c : Nat} (hc : c < qN G) : fX12_lets (nI c) s = some (nI (lq G c), s) := by
  obtain ⟨-, -, -, hk, -⟩ := hw.2.2.2.2 c hc
  obtain ⟨e5, e6, e7, e8⟩ := hp.2.2.2.2 c hc
  have h12 := hw.2.1
  have hci : (nI c).toNatClampNeg = c := nI_clamp (by omega)
  have c2 : ¬ (nI c < 0 ∨ 12 ≤ c) := inR' (by omega) (by decide)
  unfold fX12_lets
  simp only [hci, if_pos c2, e7, e8, pk_mul]
  unfold lq
  rcases (show qk G c = 0 ∨ qk G c = 1 ∨ qk G c = 2 ∨ qk G c = 3 ∨ qk G c = 4 by omega) with h | h | h | h | h <;> rw [h] <;> rfl
theorem co_sum {F : Nat → Int} {l : Int} {j o : Nat} (hj : j < 6) (ho : o < 6) : sumN (fun d => coq G d * (F d + l * ed j o d)) 6 = sumN (fun d => coq G d * F d) 6 + l * (coq G j - coq G o) := by
  have e : (fun d => coq G d * (F d + l * ed j o d)) = (fun d => coq G d * F d + l * (coq G d * ee j d + (-1) * (coq G d * ee o d))) := by
    funext d
    unfold ed
    rw [Int.mul_add, Int.mul_left_comm (coq G d) l, Int.mul_sub]
    congr 2; omega
  rw [e, sumN_add, sumN_mul', sumN_add, sumN_mul', sumN_ee, sumN_ee, if_pos hj, if_pos ho]
  congr 2; omega
/-- what an equation gets by a crack -/
def askF (G : GD) (F : Nat → Nat → Int) (j o l r d : Nat) : Int := F r d + (if r = j ∧ Bq G j = true then (l : Int) * ed j o d else 0)
theorem m_ask (hw : Wf G) (hs : PL G s) {F : Nat → Nat → Int} (hF : TBM G F s) {j o l : Nat} (hj : j < qJ G) (ho : o < qJ G) (hjo : j ≠ o) (hl : l < 2 ^ 31) (hwo : Bq G j = true → qH G o = false → Bq G o = true) : ∃ s', fX12_ask (nI j) (nI o) (nI l) s = some ((), s') ∧ SB 19 20 s s' ∧ TBM G (askF G F j o l) s' := by
  obtain ⟨hp, h16, h13, h18⟩ := hs
  have hJ := hw.1
  have hn6 := cn_bal hw
  have hcj : (nI j).toNatClampNeg = j := nI_clamp (by omega)
  have hco : (nI o).toNatClampNeg = o := nI_clamp (by omega)
  have c1 : ¬ (nI j < 0 ∨ 6 ≤ j) := inR' (by omega) (by decide)
  have c2 : ¬ (nI o < 0 ∨ 6 ≤ o) := inR' (by omega) (by decide)
  have e2 := hp.2.2.1 j hj
  have e2o := hp.2.2.1 o ho
  have same : Bq G j = false → TBM G (askF G F j o l) s := by
    intro hB
    have : askF G F j o l = F := by
      funext r d; unfold askF; rw [if_neg (fun z => by rw [hB] at z; exact Bool.noConfusion z.2), Int.add_zero]
    rw [this]; exact hF
  unfold fX12_ask
  simp only [hcj, hco, if_pos c1, if_pos c2, e2, h13 j hj]
  cases hH : qH G j with
  | true =>
    refine ⟨s, by rw [if_pos (by decide)], SB.rfl', same (by unfold Bq; rw [hH]; simp)⟩
  | false =>
    rw [if_neg (by decide)]
    cases hW : (wet G).testBit j with
    | false =>
      refine ⟨s, by rw [if_neg (by decide)], SB.rfl', same (by unfold Bq; rw [hW]; simp)⟩
    | true =>
      have hB : Bq G j = true := by unfold Bq; rw [hW, hH]; rfl
      have hbj : (bal G).testBit j = true := by rw [bal_bit hw (by omega)]; exact hB
      obtain ⟨p1, p2⟩ := pl_ok _ (bal64 hw) j (by omega) hbj
      rw [if_pos (by decide), h18 j hj hB]
      generalize hpe : plm (bal G) j = p at *
      have e6 : ∀ t, (6 : Int32) * nI p + nI t = nI (6 * p + t) := fun t => by rw [show (6 : Int32) = nI 6 from rfl, pk_mul, nI_add]
      have hcp : (nI (6 * p + p)).toNatClampNeg = 6 * p + p := nI_clamp (by omega)
      have cp : ¬ (nI (6 * p + p) < 0 ∨ 30 ≤ 6 * p + p) := inR' (by omega) (by decide)
      have hc5 : (nI (6 * p + 5)).toNatClampNeg = 6 * p + 5 := nI_clamp (by omega)
      have c5 : ¬ (nI (6 * p + 5) < 0 ∨ 30 ≤ 6 * p + 5) := inR' (by omega) (by decide)
      have row : ∀ r, r < cn (bal G) → (qm (bal G) r = j ↔ r = p) := by
        intro r hr
        constructor
        · intro e
          have := (qm_ok _ (bal64 hw) r (by omega) hr).2.2
          rw [e, hpe] at this; exact this.symm
        · intro e; subst e; exact p2
      obtain ⟨f1, f2⟩ := hF p p1
      have hgo : gA (sB s 19 (6 * p + p) (gB s 19 (6 * p + p) + Int64.ofInt l)) 2 o = bv (qH G o) := e2o
      simp only [e6, show (5 : Int32) = nI 5 from rfl, hcp, if_pos cp, hc5, if_pos c5, lets, oI l hl, hgo]
      cases hHo : qH G o with
      | true =>
        have hBo : Bq G o = false := by unfold Bq; rw [hHo]; simp
        have hh := hw.2.2.2.1 o
        have g3 : gA (sB s 19 (6 * p + p) (gB s 19 (6 * p + p) + Int64.ofInt l)) 3 o = nI (qh G o) := hp.2.2.2.1 o ho hHo
        rw [if_neg (by decide)]
        simp only [g3, oI _ (show qh G o < 2 ^ 31 by omega)]
        refine ⟨_, rfl, (SB.put (by omega) (by omega)).trans (SB.put (by omega) (by omega)), fun r hr => ⟨fun c hc => ?_, ?_⟩⟩
        · unfold askF
          rw [gB_eq, pk_uLn (by omega), gB_eq]
          obtain ⟨q1, q2⟩ := hF r hr
          by_cases er : r = p
          · subst er
            rw [p2, if_pos ⟨rfl, hB⟩]
            unfold ed ee
            have hco' : ¬ qm (bal G) c = o := fun e => by
              have := ((num_q hw).2.1 c hc).2; rw [e, hBo] at this; exact Bool.noConfusion this
            rw [if_neg hco']
            by_cases ec : c = r
            · subst ec
              rw [pk_uLs, if_pos p2, f1 c hc, ← Int64.ofInt_add, p2]; congr 1; omega
            · rw [pk_uLn (by omega), if_neg (fun e => ec ((row c hc).mp e)), f1 c hc, p2]; congr 1; omega
          · rw [pk_uLn (by omega), q1 c hc, if_neg (fun z => er ((row r hr).mp z.1)), Int.add_zero]
        · unfold askF
          obtain ⟨q1, q2⟩ := hF r hr
          by_cases er : r = p
          · subst er
            rw [gB_eq, pk_uLs, gB_eq, pk_uLn (by omega), f2, p2]
            have e1 : (fun d => coq G d * (F j d + (if j = j ∧ Bq G j = true then (l : Int) * ed j o d else 0))) = (fun d => coq G d * (F j d + (l : Int) * ed j o d)) := by
              funext d; rw [if_pos ⟨rfl, hB⟩]
            rw [e1, co_sum (by omega) (by omega), ← Int64.ofInt_mul, ← Int64.ofInt_add]
            congr 1
            have cj : coq G j = 0 := by unfold coq; rw [if_pos hB]
            have co : coq G o = (qh G o : Int) := by unfold coq bq; rw [hBo, if_neg Bool.noConfusion, hHo]; rfl
            rw [cj, co, Int.zero_sub, Int.mul_neg]; omega
          · rw [gB_eq, pk_uLn (by omega), gB_eq, pk_uLn (by omega), q2]
            have e1 : (fun d => coq G d * (F (qm (bal G) r) d + (if qm (bal G) r = j ∧ Bq G j = true then (l : Int) * ed j o d else 0))) = (fun d => coq G d * F (qm (bal G) r) d) := by
              funext d; rw [if_neg (fun z => er ((row r hr).mp z.1)), Int.add_zero]
            rw [e1]
      | false =>
        have hBo := hwo hB hHo
        have hbo : (bal G).testBit o = true := by rw [bal_bit hw (by omega)]; exact hBo
        obtain ⟨o1, o2⟩ := pl_ok _ (bal64 hw) o (by omega) hbo
        have g18 : gA (sB s 19 (6 * p + p) (gB s 19 (6 * p + p) + Int64.ofInt l)) 18 o = nI (plm (bal G) o) := h18 o ho hBo
        rw [if_pos bv0]
        rw [g18]
        generalize hpo : plm (bal G) o = u at *
        have hpu : p ≠ u := fun e => hjo (by rw [← p2, ← o2, e])
        have hcu : (nI (6 * p + u)).toNatClampNeg = 6 * p + u := nI_clamp (by omega)
        have cu : ¬ (nI (6 * p + u) < 0 ∨ 30 ≤ 6 * p + u) := inR' (by omega) (by decide)
        simp only [e6, hcu, if_pos cu]
        have rowo : ∀ c, c < cn (bal G) → (qm (bal G) c = o ↔ c = u) := by
          intro c hc
          constructor
          · intro e
            have := (qm_ok _ (bal64 hw) c (by omega) hc).2.2
            rw [e, hpo] at this; exact this.symm
          · intro e; subst e; exact o2
        refine ⟨_, rfl, (SB.put (by omega) (by omega)).trans (SB.put (by omega) (by omega)), fun r hr => ⟨fun c hc => ?_, ?_⟩⟩
        · unfold askF
          rw [gB_eq]
          obtain ⟨q1, q2⟩ := hF r hr
          by_cases er : r = p
          · subst er
            rw [p2, if_pos ⟨rfl, hB⟩]
            unfold ed ee
            by_cases eu : c = u
            · subst eu
              rw [pk_uLs, gB_eq, pk_uLn (by omega), f1 c hc, o2, p2, if_neg (fun z => hjo z.symm), if_pos rfl, ← Int64.ofInt_sub]; congr 1; omega
            · rw [pk_uLn (by omega), gB_eq, if_neg (fun e => eu ((rowo c hc).mp e))]
              by_cases ec : c = r
              · subst ec
                rw [pk_uLs, if_pos p2, f1 c hc, ← Int64.ofInt_add, p2]; congr 1; omega
              · rw [pk_uLn (by omega), if_neg (fun e => ec ((row c hc).mp e)), f1 c hc, p2]; congr 1; omega
          · rw [pk_uLn (by omega), gB_eq, pk_uLn (by omega), q1 c hc, if_neg (fun z => er ((row r hr).mp z.1)), Int.add_zero]
        · unfold askF
          obtain ⟨q1, q2⟩ := hF r hr
          rw [gB_eq, pk_uLn (by omega), gB_eq, pk_uLn (by omega), q2]
          by_cases er : r = p
          · subst er
            rw [p2]
            have e1 : (fun d => coq G d * (F j d + (if j = j ∧ Bq G j = true then (l : Int) * ed j o d else 0))) = (fun d => coq G d * (F j d + (l : Int) * ed j o d)) := by
              funext d; rw [if_pos ⟨rfl, hB⟩]
            have cj : coq G j = 0 := by unfold coq; rw [if_pos hB]
            have co : coq G o = 0 := by unfold coq; rw [if_pos hBo]
            rw [e1, co_sum (by omega) (by omega), cj, co]; simp
          · have e1 : (fun d => coq G d * (F (qm (bal G) r) d + (if qm (bal G) r = j ∧ Bq G j = true then (l : Int) * ed j o d else 0))) = (fun d => coq G d * F (qm (bal G) r) d) := by
              funext d; rw [if_neg (fun z => er ((row r hr).mp z.1)), Int.add_zero]
            rw [e1]
theorem TBM.congr {F F' : Nat → Nat → Int} (h : TBM G F s) (e : ∀ r, Bq G r = true → ∀ d, F r d = F' r d) (hw : Wf G) : TBM G F' s := by
  intro r hr
  obtain ⟨h1, h2⟩ := h r hr
  have hB := ((num_q hw).2.1 r hr).2
  refine ⟨fun c hc => by rw [h1 c hc, e _ hB], ?_⟩
  rw [h2]
  congr 2
  exact sumN_congr fun d _ => by rw [e _ hB]
theorem heads_L96 (hw : Wf G) : ∀ (d i fu : Nat) (s : MS), i + d = qN G → d < fu → PL G s → TBM G (full (Wk G i)) s → ∃ s', fX12_findHeads_L96 fu (nI i) s = some ((), s') ∧ SB 19 20 s s' ∧ TBM G (full (Wk G (qN G))) s' := by
  intro d
  have h12 := hw.2.1
  have hJ := hw.1
  induction d with
  | zero =>
    intro i fu s hi hf hs hF
    obtain ⟨f, rfl⟩ : ∃ f, fu = f + 1 := ⟨fu - 1, by omega⟩
    obtain rfl : i = qN G := by omega
    exact ⟨s, by rw [fX12_findHeads_L96_s, hs.1.2.1, if_pos (nI_le (Nat.le_refl _) (by omega))], SB.rfl', hF⟩
  | succ d ih =>
    intro i fu s hi hf hs hF
    obtain ⟨f, rfl⟩ : ∃ f, fu = f + 1 := ⟨fu - 1, by omega⟩
    have hp := hs.1
    have hci : (nI i).toNatClampNeg = i := nI_clamp (by omega)
    have c2 : ¬ (nI i < 0 ∨ 12 ≤ i) := inR' (by omega) (by decide)
    have c3 : i < qN G := by omega
    obtain ⟨e5, e6, e7, e8⟩ := hp.2.2.2.2 i c3
    obtain ⟨ha, hb, hab, hk, hww⟩ := hw.2.2.2.2 i c3
    have hl : lq G i < 2 ^ 31 := by have := lq_le hw c3; omega
    by_cases h0 : qw G i = 0
    · have hF' : TBM G (full (Wk G (i + 1))) s := hF.congr (fun r _ d => by
        rw [full_step hw c3]; unfold rowC; rw [lq_0 h0]
        by_cases z1 : qa G i = r <;> by_cases z2 : qb G i = r <;> simp [z1, z2]) hw
      obtain ⟨s', e, b, q⟩ := ih (i + 1) f s (by omega) (by omega) hs hF'
      refine ⟨s', ?_, b, q⟩
      rw [fX12_findHeads_L96_s]
      simp only [hp.2.1, hci, if_neg (nI_ge c3 (by omega)), if_pos c2, e8, h0]
      rw [if_pos (by decide)]
      unfold fX12_findHeads_J155
      rw [nI_1]; exact e
    · have hcl := wet_closed hw i c3 (by omega)
      have hcl : (wet G).testBit (qa G i) = (wet G).testBit (qb G i) := hcl
      obtain ⟨s1, w1, b1, t1⟩ := m_ask hw hs hF ha hb hab hl (fun hB hH => by
        have := ((Bool.and_eq_true _ _).mp hB).1
        unfold Bq; rw [← hcl, this, hH]; rfl)
      have hs1 := hs.sb b1
      obtain ⟨s2, w2, b2, t2⟩ := m_ask hw hs1 t1 hb ha (Ne.symm hab) hl (fun hB hH => by
        have := ((Bool.and_eq_true _ _).mp hB).1
        unfold Bq; rw [hcl, this, hH]; rfl)
      have t3 : TBM G (full (Wk G (i + 1))) s2 := t2.congr (fun r hB d => by
        unfold askF
        rw [full_step hw c3]
        unfold rowC
        by_cases h1 : qa G i = r
        · have h2 : ¬ qb G i = r := fun z => hab (h1.trans z.symm)
          rw [if_pos ⟨h1.symm, by rw [h1]; exact hB⟩, if_neg (fun z => h2 z.1.symm), if_pos h1, if_neg h2, h1]; omega
        · rw [if_neg (fun z => h1 z.1.symm), if_neg h1]
          by_cases h2 : qb G i = r
          · rw [if_pos ⟨h2.symm, by rw [h2]; exact hB⟩, if_pos h2, h2]; omega
          · rw [if_neg (fun z => h2 z.1.symm), if_neg h2]; omega) hw
      obtain ⟨s3, w3, b3, t4⟩ := ih (i + 1) f s2 (by omega) (by omega) (hs1.sb b2) t3
      obtain ⟨f5, f6, -, -⟩ := hs1.1.2.2.2.2 i c3
      refine ⟨s3, ?_, (b1.trans b2).trans b3, t4⟩
      rw [fX12_findHeads_L96_s]
      simp only [hp.2.1, hci, if_neg (nI_ge c3 (by omega)), if_pos c2, e8, if_neg (nI_nle (show 0 < qw G i by omega) (by omega)), e5, e6, ml_lets hw hp c3, bnd, w1, ml_lets hw hs1.1 c3, f5, f6, w2]
      unfold fX12_findHeads_J155
      rw [nI_1]; exact w3
theorem heads_L75 : ∀ (d i fu : Nat) (s : MS), i + d = 30 → d < fu → ∃ s', fX12_findHeads_L75 fu (nI i) s = some ((), s') ∧ SB 19 20 s s' ∧ (∀ c, i ≤ c → c < 30 → gB s' 19 c = 0) ∧ ∀ c, c < i → gB s' 19 c = gB s 19 c := by
  intro d
  induction d with
  | zero =>
    intro i fu s hi hf
    obtain ⟨f, rfl⟩ : ∃ f, fu = f + 1 := ⟨fu - 1, by omega⟩
    obtain rfl : i = 30 := by omega
    exact ⟨s, by rw [fX12_findHeads_L75_s, if_pos (by decide)], SB.rfl', fun c h1 h2 => absurd h1 (by omega), fun _ _ => rfl⟩
  | succ d ih =>
    intro i fu s hi hf
    obtain ⟨f, rfl⟩ : ∃ f, fu = f + 1 := ⟨fu - 1, by omega⟩
    have hci : (nI i).toNatClampNeg = i := nI_clamp (by omega)
    have c2 : ¬ (nI i < 0 ∨ 30 ≤ i) := inR' (by omega) (by decide)
    obtain ⟨s', e, q1, q2, q3⟩ := ih (i + 1) f (sB s 19 i 0) (by omega) (by omega)
    refine ⟨s', ?_, (SB.put (by omega) (by omega)).trans q1, ?_, ?_⟩
    · rw [fX12_findHeads_L75_s, if_neg (show ¬ (30 : Int32) ≤ nI i from nI_ge (b := 30) (by omega) (by decide))]
      simp only [hci, if_pos c2, lets, nI_1]
      exact e
    · intro c h1 h2
      by_cases h : c = i
      · subst h; rw [q3 c (by omega), gB_eq, pk_uLs]
      · exact q2 c (by omega) h2
    · intro c h1
      rw [q3 c (by omega), gB_eq, pk_uLn (by omega)]
/-- what finding heads leaves as it was -/
def FrM (s s' : MS) : Prop := (∀ k, k ≠ 16 → gI s' k = gI s k) ∧ (∀ a, a ≠ 13 → a ≠ 17 → a ≠ 18 → a ≠ 20 → a ≠ 21 → gA s' a = gA s a) ∧ ∀ a, a ≠ 14 → a ≠ 19 → gB s' a = gB s a
theorem FrM.trans (h : FrM s s') (h' : FrM s' s'') : FrM s s'' := ⟨fun k hk => (h'.1 k hk).trans (h.1 k hk), fun a h1 h2 h3 h4 h5 => (h'.2.1 a h1 h2 h3 h4 h5).trans (h.2.1 a h1 h2 h3 h4 h5), fun a h1 h2 => (h'.2.2 a h1 h2).trans (h.2.2 a h1 h2)⟩
theorem FrM.sb (b : SB 19 20 s s') : FrM s s' := ⟨fun k _ => b.1 k, fun a _ _ _ _ _ => b.2.2.1 a, fun a _ h => b.2.2.2 a (by omega)⟩
theorem FrM.d (b : FrD s s') : FrM s s' := ⟨fun k _ => b.1.1 k, fun a _ _ _ h4 h5 => b.2 a h4 h5, fun a _ _ => b.1.2.2 a⟩
theorem Pc.fm (hp : Pc G s) (h : FrM s s') : Pc G s' := hp.frame (h.1 1 (by decide)) (h.1 4 (by decide)) (fun a ha => h.2.1 a (by omega) (by omega) (by omega) (by omega) (by omega))
theorem heads_L11 (hw : Wf G) : ∀ (d i fu : Nat) (s : MS), i + d = qJ G → d < fu → Pc G s → (∀ j, j < qJ G → gA s 13 j = bv ((wet G).testBit j)) → gI s 16 = nI (plm (bal G) i) → (∀ j, j < i → Bq G j = true → gA s 18 j = nI (plm (bal G) j)) → ∃ s', fX12_findHeads_L11 fu (nI i) s = some ((), s') ∧ (∀ k, k ≠ 16 → gI s' k = gI s k) ∧ gL s' = gL s ∧ (∀ a, gB s' a = gB s a) ∧ (∀ a, a ≠ 17 → a ≠ 18 → gA s' a = gA s a) ∧ PL G s' := by
  intro d
  have hJ := hw.1
  have b64 := bal64 hw
  induction d with
  | zero =>
    intro i fu s hi hf hp h13 h16 h18
    obtain ⟨f, rfl⟩ : ∃ f, fu = f + 1 := ⟨fu - 1, by omega⟩
    obtain rfl : i = qJ G := by omega
    refine ⟨s, by rw [fX12_findHeads_L11_s, hp.1, if_pos (nI_le (Nat.le_refl _) (by omega))], fun _ _ => rfl, rfl, fun _ => rfl, fun _ _ _ => rfl, hp, ?_, h13, h18⟩
    rw [h16]
    congr 1
    have up : ∀ e, qJ G + e ≤ 6 → plm (bal G) (qJ G + e) = plm (bal G) (qJ G) := by
      intro e
      induction e with
      | zero => intro _; rfl
      | succ e ih =>
        intro he
        rw [show qJ G + (e + 1) = (qJ G + e) + 1 by omega, pl_s _ b64 _ (by omega), ih (by omega), bal_bit hw (by omega)]
        have : Bq G (qJ G + e) = false := by
          cases h : Bq G (qJ G + e) with
          | false => rfl
          | true => have := Bq_lt hw h; omega
        rw [this]; rfl
    have := up (6 - qJ G) (by omega)
    rw [show qJ G + (6 - qJ G) = 6 by omega, (pl_0 _ b64).2.1] at this
    exact this.symm
  | succ d ih =>
    intro i fu s hi hf hp h13 h16 h18
    obtain ⟨f, rfl⟩ : ∃ f, fu = f + 1 := ⟨fu - 1, by omega⟩
    have hci : (nI i).toNatClampNeg = i := nI_clamp (by omega)
    have c2 : ¬ (nI i < 0 ∨ 6 ≤ i) := inR' (by omega) (by decide)
    have hps := pl_s _ b64 i (by omega)
    rw [bal_bit hw (by omega)] at hps
    have skip : Bq G i = false → ∃ s', fX12_findHeads_L11 f (nI (i + 1)) s = some ((), s') ∧ (∀ k, k ≠ 16 → gI s' k = gI s k) ∧ gL s' = gL s ∧ (∀ a, gB s' a = gB s a) ∧ (∀ a, a ≠ 17 → a ≠ 18 → gA s' a = gA s a) ∧ PL G s' := by
      intro hB
      rw [hB] at hps
      refine ih (i + 1) f s (by omega) (by omega) hp h13 (by rw [hps]; exact h16) (fun j hj hBj => ?_)
      by_cases e : j = i
      · subst e; rw [hB] at hBj; exact Bool.noConfusion hBj
      · exact h18 j (by omega) hBj
    have go : fX12_findHeads_L11 (f + 1) (nI i) s = (if gA s 13 i = 0 then fX12_findHeads_L11 f (nI (i + 1)) s else if ¬ gA s 2 i = 0 then fX12_findHeads_L11 f (nI (i + 1)) s else if ¬ ((gI s 16) < 0 ∨ 6 ≤ (gI s 16).toNatClampNeg) then fX12_findHeads_L11 f (nI (i + 1)) (sI (sA (sA s 17 (gI s 16).toNatClampNeg (nI i)) 18 i (gI s 16)) 16 (gI s 16 + 1)) else none) := by
      rw [fX12_findHeads_L11_s]
      simp only [hp.1, hci, if_neg (nI_ge (show i < qJ G by omega) (by omega)), if_pos c2, lets, gI_sA, nI_1]
      unfold fX12_findHeads_J67
      rw [nI_1]
    rw [go, h13 i (by omega), hp.2.2.1 i (by omega)]
    cases hW : (wet G).testBit i with
    | false => rw [if_pos (by decide)]; exact skip (by unfold Bq; rw [hW]; rfl)
    | true =>
      rw [if_neg (by decide)]
      cases hH : qH G i with
      | true => rw [if_pos (by decide)]; exact skip (by unfold Bq; rw [hH]; simp)
      | false =>
        have hB : Bq G i = true := by unfold Bq; rw [hW, hH]; rfl
        obtain ⟨p1, p2⟩ := pl_ok _ b64 i (by omega) (by rw [bal_bit hw (by omega)]; exact hB)
        have h6 := (pl_0 _ b64).2.2
        rw [hB] at hps
        rw [if_neg (by decide), h16, if_pos (inR (by omega) (by decide)), nI_clamp (by omega), nI_1]
        obtain ⟨s', e, q1, q2, q3, q4, q5⟩ := ih (i + 1) f (sI (sA (sA s 17 (plm (bal G) i) (nI i)) 18 i (nI (plm (bal G) i))) 16 (nI (plm (bal G) i + 1))) (by omega) (by omega) (hp.frame rfl rfl (fun a ha => by show gA (sA (sA s 17 _ _) 18 _ _) a = _; rw [gA_ne (by omega), gA_ne (by omega)])) (fun j hj => by show gA (sA (sA s 17 _ _) 18 _ _) 13 j = _; rw [gA_ne (by decide), gA_ne (by decide)]; exact h13 j hj) (by rw [hps]; rfl) (fun j hj hBj => by
          show gA (sA (sA s 17 _ _) 18 _ _) 18 j = _
          rw [gA_eq]
          by_cases e : j = i
          · subst e; exact upd_s
          · rw [upd_n e, gA_ne (by decide)]; exact h18 j (by omega) hBj)
        refine ⟨s', e, fun k hk => (q1 k hk).trans (gI_ne hk), q2, q3, fun a h1 h2 => ?_, q5⟩
        rw [q4 a h1 h2]
        show gA (sA (sA s 17 _ _) 18 _ _) a = _
        rw [gA_ne h2, gA_ne h1]
theorem heads_L172 (hw : Wf G) : ∀ (d i fu : Nat) (s : MS), i + d = qJ G → d < fu → PL G s → TBM G (full (Wk G (qN G))) s → gL s = Int64.ofInt (Lo G) → (∀ j, j < i → gB s 14 j = Int64.ofInt (Up G j)) → ∃ s', fX12_findHeads_L172 fu (nI i) s = some ((), s') ∧ FrM s s' ∧ gL s' = gL s ∧ (∀ j, j < qJ G → gA s' 13 j = bv ((wet G).testBit j)) ∧ ∀ j, j < qJ G → gB s' 14 j = Int64.ofInt (Up G j) := by
  intro d
  have hJ := hw.1
  have b64 := bal64 hw
  have hn6 := cn_bal hw
  induction d with
  | zero =>
    intro i fu s hi hf hs hF hL hU
    obtain ⟨f, rfl⟩ : ∃ f, fu = f + 1 := ⟨fu - 1, by omega⟩
    obtain rfl : i = qJ G := by omega
    exact ⟨s, by rw [fX12_findHeads_L172_s, hs.1.1, if_pos (nI_le (Nat.le_refl _) (by omega))], ⟨fun _ _ => rfl, fun _ _ _ _ _ _ => rfl, fun _ _ _ => rfl⟩, rfl, hs.2.2.1, hU⟩
  | succ d ih =>
    intro i fu s hi hf hs hF hL hU
    obtain ⟨f, rfl⟩ : ∃ f, fu = f + 1 := ⟨fu - 1, by omega⟩
    have hp := hs.1
    have hci : (nI i).toNatClampNeg = i := nI_clamp (by omega)
    have c2 : ¬ (nI i < 0 ∨ 6 ≤ i) := inR' (by omega) (by decide)
    have fin : ∀ (s1 : MS) (v : Int64), FrD s s1 → v = Int64.ofInt (Up G i) → ∃ s', fX12_findHeads_J232 (fX12_findHeads_L172 f) (nI i) v (nI i) s1 = some ((), s') ∧ FrM s s' ∧ gL s' = gL s ∧ (∀ j, j < qJ G → gA s' 13 j = bv ((wet G).testBit j)) ∧ ∀ j, j < qJ G → gB s' 14 j = Int64.ofInt (Up G j) := by
      intro s1 v fd hv
      have b : SB 14 15 s1 (sB s1 14 i v) := SB.put (by omega) (by omega)
      have fput : FrM s1 (sB s1 14 i v) := ⟨fun _ _ => rfl, fun _ _ _ _ _ _ => rfl, fun a h1 _ => gB_ne h1⟩
      have hs1 : PL G s1 := ⟨hp.frame (fd.1.1 1) (fd.1.1 4) (fun a ha => fd.2 a (by omega) (by omega)), (fd.1.1 16).trans hs.2.1, fun j hj => by rw [fd.2 13 (by decide) (by decide)]; exact hs.2.2.1 j hj, fun j hj hB => by rw [fd.2 18 (by decide) (by decide)]; exact hs.2.2.2 j hj hB⟩
      obtain ⟨s', e, q1, q2, q3, q4⟩ := ih (i + 1) f (sB s1 14 i v) (by omega) (by omega) (hs1.sb b) (fun r hr => by rw [gB_ne (by decide), fd.1.2.2]; exact hF r hr) (fd.1.2.1.trans hL) (fun j hj => by
        rw [gB_eq]
        by_cases e : j = i
        · subst e; rw [pk_uLs]; exact hv
        · rw [pk_uLn e, fd.1.2.2]; exact hU j (by omega))
      refine ⟨s', ?_, (FrM.d fd).trans (fput.trans q1), q2.trans fd.1.2.1, q3, q4⟩
      unfold fX12_findHeads_J232
      simp only [hci, if_pos c2, lets, nI_1]
      exact e
    rw [fX12_findHeads_L172_s]
    simp only [hp.1, hci, if_neg (nI_ge (show i < qJ G by omega) (by omega)), if_pos c2, hp.2.2.1 i (show i < qJ G by omega), hs.2.2.1 i (show i < qJ G by omega)]
    cases hH : qH G i with
    | true =>
      have hh := hw.2.2.2.1 i
      rw [if_neg (by decide), hp.2.2.2.1 i (by omega) hH]
      refine fin s _ FrD.rfl' ?_
      rw [oI _ (by omega), hL, ← Int64.ofInt_mul, Up_fix hw (by unfold Bq; rw [hH]; simp)]
      unfold bq; rw [hH]; rfl
    | false =>
      rw [if_pos bv0]
      cases hW : (wet G).testBit i with
      | false =>
        rw [if_pos (by decide)]
        refine fin s _ FrD.rfl' ?_
        rw [Up_dry hw hW]; rfl
      | true =>
        have hB : Bq G i = true := by unfold Bq; rw [hW, hH]; rfl
        obtain ⟨p1, p2⟩ := pl_ok _ b64 i (by omega) (by rw [bal_bit hw (by omega)]; exact hB)
        rw [if_neg (by decide), hs.2.2.2 i (by omega) hB]
        obtain ⟨s1, e1, f1⟩ := m_det (n := cn (bal G)) (x1 := nI (plm (bal G) i)) (E := fun k c => if c = plm (bal G) i then - sumN (fun d => (if Bq G d = true then 0 else bq G d) * full (Wq G) (qm (bal G) k) d) 6 else full (Wq G) (qm (bal G) k) (qm (bal G) c)) (s := s) (by omega) hs.2.1 (by
          intro r hr c hc
          obtain ⟨g1, g2⟩ := hF r hr
          show _ = Int64.ofInt (if c = plm (bal G) i then _ else _)
          by_cases e : c = plm (bal G) i
          · subst e; rw [if_pos rfl, if_pos rfl]; exact g2
          · rw [if_neg e, if_neg (fun z => e ((nI_eq (by omega) (by omega)).mp z))]; exact g1 c hc)
        rw [e1]
        refine fin s1 _ f1 ?_
        rw [ref_H (num_q hw) p1, p2]; rfl
/-- what the reference knows of the water -/
def VM (G : GD) (s : MS) : Prop := gL s = Int64.ofInt (Lo G) ∧ (∀ j, j < qJ G → gA s 13 j = bv ((wet G).testBit j)) ∧ ∀ j, j < qJ G → gB s 14 j = Int64.ofInt (Up G j)
theorem m_findHeads (hw : Wf G) (hp : Pc G s) : ∃ s', fX12_findHeads s = some ((), s') ∧ FrM s s' ∧ VM G s' := by
  have hJ := hw.1
  have h12 := hw.2.1
  have b64 := bal64 hw
  have hn6 := cn_bal hw
  obtain ⟨s1, e1, u1, u2, u3⟩ := m_findWet hw hp
  have f1 : FrM s s1 := ⟨fun k _ => u1.1 k, fun a h _ _ _ _ => u2 a h, fun a _ _ => u1.2.2 a⟩
  have p1 := hp.fm f1
  obtain ⟨s2, e2, v1, v2, v3, v4, v5⟩ := heads_L11 hw (qJ G) 0 FU (sI s1 16 0) (by omega) (by show qJ G < 1000000; omega) (p1.frame rfl rfl (fun _ _ => rfl)) u3 (by rw [(pl_0 _ b64).1]; rfl) (fun j hj => absurd hj (by omega))
  have f2 : FrM s1 s2 := ⟨fun k h => (v1 k h).trans (gI_ne h), fun a _ h2 h3 _ _ => v4 a h2 h3, fun a _ _ => v3 a⟩
  obtain ⟨s3, e3, w1, w2, -⟩ := heads_L75 30 0 FU s2 (by omega) (by show 30 < 1000000; omega)
  have l3 := v5.sb w1
  have t3 : TBM G (full (Wk G 0)) s3 := by
    intro r hr
    have e0 : (fun d => coq G d * full (Wk G 0) (qm (bal G) r) d) = (fun _ => 0 * (0 : Int)) := by
      funext d; rw [full_0]; omega
    refine ⟨fun c hc => ?_, ?_⟩
    · rw [w2 _ (by omega) (by omega), full_0]; rfl
    · rw [w2 _ (by omega) (by omega), e0, sumN_mul]; simp
  obtain ⟨s4, e4, w4, t4⟩ := heads_L96 hw (qN G) 0 FU s3 (by omega) (by show qN G < 1000000; omega) l3 t3
  have l4 := l3.sb w4
  obtain ⟨s5, e5, f5⟩ := m_det (n := cn (bal G)) (x1 := -1) (E := fun k c => full (Wq G) (qm (bal G) k) (qm (bal G) c)) (s := s4) (by omega) l4.2.1 (by
    intro r hr c hc
    rw [if_neg (fun z => by
      have : (nI c).toInt = (-1 : Int32).toInt := by rw [z]
      rw [nI_toInt (by omega)] at this
      have e1 : (-1 : Int32).toInt = -1 := by decide
      omega)]
    exact (t4 r hr).1 c hc)
  rw [ref_D (num_q hw)] at e5
  have hs5 : PL G (sL s5 (Int64.ofInt (Lo G))) := ⟨l4.1.frame (f5.1.1 1) (f5.1.1 4) (fun a ha => f5.2 a (by omega) (by omega)), (f5.1.1 16).trans l4.2.1, fun j hj => by show gA s5 13 j = _; rw [f5.2 13 (by decide) (by decide)]; exact l4.2.2.1 j hj, fun j hj hB => by show gA s5 18 j = _; rw [f5.2 18 (by decide) (by decide)]; exact l4.2.2.2 j hj hB⟩
  have t5 : TBM G (full (Wk G (qN G))) (sL s5 (Int64.ofInt (Lo G))) := by
    intro r hr
    obtain ⟨g1, g2⟩ := t4 r hr
    refine ⟨fun c hc => ?_, ?_⟩
    · show gB s5 19 _ = _
      rw [f5.1.2.2]; exact g1 c hc
    · show gB s5 19 _ = _
      rw [f5.1.2.2]; exact g2
  obtain ⟨s6, e6, f6, g6, h6, k6⟩ := heads_L172 hw (qJ G) 0 FU (sL s5 (Int64.ofInt (Lo G))) (by omega) (by show qJ G < 1000000; omega) hs5 t5 rfl (fun j hj => absurd hj (by omega))
  refine ⟨s6, ?_, ((((f1.trans f2).trans (FrM.sb w1)).trans (FrM.sb w4)).trans (FrM.d f5)).trans (FrM.trans ⟨fun _ _ => rfl, fun _ _ _ _ _ _ => rfl, fun _ _ _ => rfl⟩ f6), g6, h6, k6⟩
  unfold fX12_findHeads
  rw [e1]
  try rw [bnd_k]
  try simp only [lets]
  show bnd (fX12_findHeads_L11 FU 0 (sI s1 16 0)) _ = _
  rw [show fX12_findHeads_L11 FU 0 (sI s1 16 0) = some ((), s2) from e2]
  try rw [bnd_k]
  try simp only [lets]
  show bnd (fX12_findHeads_L75 FU 0 s2) _ = _
  rw [show fX12_findHeads_L75 FU 0 s2 = some ((), s3) from e3]
  try rw [bnd_k]
  try simp only [lets]
  show bnd (fX12_findHeads_L96 FU 0 s3) _ = _
  rw [show fX12_findHeads_L96 FU 0 s3 = some ((), s4) from e4]
  try rw [bnd_k]
  try simp only [lets]
  show bnd (fX12_determinant (-1) s4) _ = _
  rw [e5]
  try rw [bnd_k]
  try simp only [lets]
  show bnd (fX12_findHeads_L172 FU 0 (sL s5 (Int64.ofInt (Lo G)))) _ = _
  rw [show fX12_findHeads_L172 FU 0 (sL s5 (Int64.ofInt (Lo G))) = some ((), s6) from e6]; rfl
end MHEADS
