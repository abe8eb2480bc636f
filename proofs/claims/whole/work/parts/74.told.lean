/-! counting -/
def ct (p : Nat → Nat) : Nat → Nat
  | 0 => 0
  | k + 1 => ct p k + p k
theorem ct_congr {p q : Nat → Nat} : ∀ k, (∀ i, i < k → p i = q i) → ct p k = ct q k := by
  intro k
  induction k with
  | zero => intro _; rfl
  | succ k ih => intro h; simp only [ct]; rw [ih (fun i hi => h i (by omega)), h k (by omega)]
theorem ct_cn : ∀ J, J < 7 → ∀ n, n < 2 ^ J → cn n = ct (fun j => (n.testBit j).toNat) J ∧ J - cn n = ct (fun j => (!n.testBit j).toNat) J := by decide +kernel
section TOLD
variable {G : GD} {s s' x x' x'' m m' : MS} {nc j J : Nat}
def atq (G : GD) (i c : Nat) : Nat := (decide (1 ≤ qw G c) && (decide (qa G c = i) || decide (qb G c = i))).toNat
theorem x_openAtL (hw : Wf G) (hp : Pc G x) {i : Nat} (hi : i < 6) : ∀ (d c fu : Nat), c + d = qN G → d < fu → fX5_openAt_L4 (qN G) (nI i) fu (nI (ct (atq G i) c)) (nI c) x = some (nI (ct (atq G i) (qN G)), x) := by
  intro d
  have h12 := hw.2.1
  have hJ := hw.1
  induction d with
  | zero =>
    intro c fu hc hf
    obtain ⟨f, rfl⟩ : ∃ f, fu = f + 1 := ⟨fu - 1, by omega⟩
    obtain rfl : c = qN G := by omega
    rw [fX5_openAt_L4_s, hp.2.1, if_pos (nI_le (Nat.le_refl _) (by omega))]
  | succ d ih =>
    intro c fu hc hf
    obtain ⟨f, rfl⟩ : ∃ f, fu = f + 1 := ⟨fu - 1, by omega⟩
    have c3 : c < qN G := by omega
    obtain ⟨e5, e6, e7, e8⟩ := hp.2.2.2.2 c c3
    obtain ⟨ha, hb, hab, hk, hww⟩ := hw.2.2.2.2 c c3
    have hci : (nI c).toNatClampNeg = c := nI_clamp (by omega)
    have c2 : ¬ (nI c < 0 ∨ 12 ≤ c) := inR' (by omega) (by decide)
    have ihh := ih (c + 1) f (by omega) (by omega)
    have ea : ∀ k, k < 6 → (nI k = nI i ↔ k = i) := fun k hk => nI_eq (by omega) (by omega)
    simp only [ct, atq] at ihh
    rw [fX5_openAt_L4_s]
    unfold fX2_isAt fX5_openAt_J40
    simp only [hp.2.1, hci, if_neg (nI_ge c3 (by omega)), if_pos c2, if_pos c3, e5, e6, e8, nI_1]
    by_cases h0 : qw G c = 0
    · rw [h0, if_pos (by decide)]
      rw [decide_eq_false (show ¬ 1 ≤ qw G c by omega)] at ihh; exact ihh
    · rw [if_neg (nI_nle (by omega) (by omega))]
      rw [decide_eq_true (show 1 ≤ qw G c by omega)] at ihh
      by_cases h1 : qa G c = i
      · rw [if_pos ((ea _ (by omega)).mpr h1)]
        rw [decide_eq_true h1] at ihh; exact ihh
      · rw [if_neg (fun z => h1 ((ea _ (by omega)).mp z))]
        by_cases h2 : qb G c = i
        · rw [if_neg (fun z => z ((ea _ (by omega)).mpr h2))]
          rw [decide_eq_false h1, decide_eq_true h2] at ihh; exact ihh
        · rw [if_pos (fun z => h2 ((ea _ (by omega)).mp z))]
          rw [decide_eq_false h1, decide_eq_false h2] at ihh; exact ihh
theorem m_atL (hw : Wf G) (hp : Pc G m) {i : Nat} (hi : i < 6) : ∀ (d c fu : Nat), c + d = qN G → d < fu → fX12_at_L100 (nI i) fu (nI (ct (atq G i) c)) (nI c) m = some (nI (ct (atq G i) (qN G)), m) := by
  intro d
  have h12 := hw.2.1
  have hJ := hw.1
  induction d with
  | zero =>
    intro c fu hc hf
    obtain ⟨f, rfl⟩ : ∃ f, fu = f + 1 := ⟨fu - 1, by omega⟩
    obtain rfl : c = qN G := by omega
    rw [fX12_at_L100_s, hp.2.1, if_pos (nI_le (Nat.le_refl _) (by omega))]
  | succ d ih =>
    intro c fu hc hf
    obtain ⟨f, rfl⟩ : ∃ f, fu = f + 1 := ⟨fu - 1, by omega⟩
    have c3 : c < qN G := by omega
    obtain ⟨e5, e6, e7, e8⟩ := hp.2.2.2.2 c c3
    obtain ⟨ha, hb, hab, hk, hww⟩ := hw.2.2.2.2 c c3
    have hci : (nI c).toNatClampNeg = c := nI_clamp (by omega)
    have c2 : ¬ (nI c < 0 ∨ 12 ≤ c) := inR' (by omega) (by decide)
    have ihh := ih (c + 1) f (by omega) (by omega)
    have ea : ∀ k, k < 6 → (nI k = nI i ↔ k = i) := fun k hk => nI_eq (by omega) (by omega)
    simp only [ct, atq] at ihh
    rw [fX12_at_L100_s]
    unfold fX12_at_J146 fX12_at_J142 fX12_at_J147
    simp only [hp.2.1, hci, if_neg (nI_ge c3 (by omega)), if_pos c2, e5, e6, e8, nI_1, Int32.add_zero]
    by_cases h0 : qw G c = 0
    · rw [h0, if_pos (by decide)]
      rw [decide_eq_false (show ¬ 1 ≤ qw G c by omega)] at ihh; exact ihh
    · rw [if_neg (nI_nle (by omega) (by omega))]
      rw [decide_eq_true (show 1 ≤ qw G c by omega)] at ihh
      by_cases h1 : qa G c = i
      · rw [if_pos ((ea _ (by omega)).mpr h1)]
        rw [decide_eq_true h1] at ihh; exact ihh
      · rw [if_neg (fun z => h1 ((ea _ (by omega)).mp z))]
        by_cases h2 : qb G c = i
        · rw [if_neg (fun z => z ((ea _ (by omega)).mpr h2))]
          rw [decide_eq_false h1, decide_eq_true h2] at ihh; exact ihh
        · rw [if_pos (fun z => h2 ((ea _ (by omega)).mp z))]
          rw [decide_eq_false h1, decide_eq_false h2] at ihh; exact ihh
theorem op_at : ∀ (y1 y2 : Int32), OpI (RelV Vq) (fun nc σ => fX11_at nc y1 y2 σ) (fun σ => fX12_at y1 y2 σ) := by
  intro y1 y2 j nc x m hj hR
  obtain ⟨J, hJ, hC, hS, hK, hO, hW⟩ := id hR
  obtain ⟨G, hw, e1, e2, px, pm⟩ := rel_G hJ hC
  have hJ6 := hJ.1
  have hx := hJ.2.1
  have hm := hJ.2.2.1
  have h12 := hw.2.1
  have ref : ∀ r, fX11_at nc y1 y2 x = some (r, x) → fX12_at y1 y2 m = some (r, m) → ∃ (r : Int32) (σx' σm' : MS), fX11_at nc y1 y2 x = some (r, σx') ∧ fX12_at y1 y2 m = some (r, σm') ∧ RelV Vq (j + 1) nc σx' σm' := fun r a b => ⟨_, _, _, a, b, hR.next⟩
  show ∃ (r : Int32) (σx' σm' : MS), fX11_at nc y1 y2 x = some (r, σx') ∧ fX12_at y1 y2 m = some (r, σm') ∧ RelV Vq (j + 1) nc σx' σm'
  rcases ixc y1 (n := J) (by omega) with ho | ⟨i, hi, rfl⟩
  · refine ref (-1) ?_ ?_
    · unfold fX11_at; rw [x_hasJoint_out hx ho]; rfl
    · unfold fX12_at; rw [m_noJoint_out hm (by omega) ho]; rfl
  have hci : (nI i).toNatClampNeg = i := nI_clamp (by omega)
  have c1 : ¬ (nI i < 0 ∨ 6 ≤ i) := inR' (by omega) (by decide)
  have gx := px.1.2.2.1 i (by omega)
  have gm := pm.2.2.1 i (by omega)
  have hX : fX11_at nc (nI i) y2 x = if y2 = 0 then (if gA x 2 i = 0 then some (0, x) else some (1, x)) else if y2 = 1 then (if gA x 2 i = 0 then some (-9, x) else some (gA x 3 i, x)) else if y2 = 2 then bnd (fX8_isDry nc (nI i) x) (fun r13 s14 => if r13 = 0 then some (0, s14) else some (1, s14)) else if y2 = 3 then bnd (fX5_openAt nc (nI i) x) (fun r18 s19 => some (r18, s19)) else some (-2, x) := by
    unfold fX11_at; rw [x_hasJoint_in hx (by omega) hi]
    show (if y2 = 0 then _ else _) = _
    simp only [hci, if_pos c1]
  have hM : fX12_at (nI i) y2 m = if y2 = 0 then (if gA m 2 i = 0 then some (0, m) else some (1, m)) else if y2 = 1 then (if gA m 2 i = 0 then some (-9, m) else some (gA m 3 i, m)) else if y2 = 2 then bnd (fX12_findWet m) (fun r13 s14 => if gA s14 13 i = 0 then some (1, s14) else some (0, s14)) else if y2 = 3 then bnd (fX12_at_L100 (nI i) FU 0 0 m) (fun v26 s27 => some (v26, s27)) else some (-2, m) := by
    unfold fX12_at; rw [m_noJoint_in hm (by omega) hi]
    show (if y2 = 0 then _ else _) = _
    simp only [hci, if_pos c1]
  by_cases h0 : y2 = 0
  · rw [if_pos h0, gx] at hX; rw [if_pos h0, gm] at hM
    cases hH : qH G i with
    | true => rw [hH] at hX hM; exact ref 1 hX hM
    | false => rw [hH] at hX hM; exact ref 0 hX hM
  rw [if_neg h0] at hX hM
  by_cases h1 : y2 = 1
  · rw [if_pos h1, gx] at hX; rw [if_pos h1, gm] at hM
    cases hH : qH G i with
    | true =>
      rw [hH, px.1.2.2.2.1 i (by omega) hH] at hX
      rw [hH, pm.2.2.2.1 i (by omega) hH] at hM
      exact ref (nI (qh G i)) hX hM
    | false => rw [hH] at hX hM; exact ref (-9) hX hM
  rw [if_neg h1] at hX hM
  by_cases h2 : y2 = 2
  · rw [if_pos h2] at hX hM
    obtain ⟨x1, ex1, fx1, v1, w1⟩ := x_isDry hw e2 px (by omega) hW (i := i) (by omega)
    obtain ⟨m1, em1, u1, u2, u3⟩ := m_findWet hw pm
    have fm1 : FrM m m1 := ⟨fun k _ => u1.1 k, fun a h _ _ _ _ => u2 a h, fun a _ _ => u1.2.2 a⟩
    refine ⟨bv (!(wet G).testBit i), x1, m1, ?_, ?_, rel_water hJ hC hS hK hO fx1 fm1 w1⟩
    · rw [hX, ex1]; cases (wet G).testBit i <;> rfl
    · rw [hM, em1]
      show (if gA m1 13 i = 0 then _ else _) = _
      rw [u3 i (by omega)]; cases (wet G).testBit i <;> rfl
  rw [if_neg h2] at hX hM
  by_cases h3 : y2 = 3
  · rw [if_pos h3] at hX hM
    refine ref (nI (ct (atq G i) (qN G))) ?_ ?_
    · rw [hX]; unfold fX5_openAt
      rw [← e2, show (0 : Int32) = nI (ct (atq G i) 0) from rfl, show nI (ct (atq G i) 0) = nI 0 from rfl]
      rw [show fX5_openAt_L4 (qN G) (nI i) FU (nI 0) (nI 0) x = some (nI (ct (atq G i) (qN G)), x) from x_openAtL hw px.1 (by omega) (qN G) 0 FU (by omega) (by show qN G < 1000000; omega)]; rfl
    · rw [hM, show (0 : Int32) = nI 0 from rfl, show fX12_at_L100 (nI i) FU (nI 0) (nI 0) m = some (nI (ct (atq G i) (qN G)), m) from m_atL hw pm (by omega) (qN G) 0 FU (by omega) (by show qN G < 1000000; omega)]; rfl
  rw [if_neg h3] at hX hM
  exact ref (-2) hX hM
/-! told -/
theorem m_L70 (hw : Wf G) (hp : Pc G m) : ∀ (d i fu : Nat), i + d = qJ G → d < fu → fX12_told_L70 fu (nI (ct (fun j => (qH G j).toNat) i)) (nI i) m = some (nI (ct (fun j => (qH G j).toNat) (qJ G)), m) := by
  intro d
  have hJ := hw.1
  induction d with
  | zero =>
    intro c fu hc hf
    obtain ⟨f, rfl⟩ : ∃ f, fu = f + 1 := ⟨fu - 1, by omega⟩
    obtain rfl : c = qJ G := by omega
    rw [fX12_told_L70_s, hp.1, if_pos (nI_le (Nat.le_refl _) (by omega))]
  | succ d ih =>
    intro i fu hc hf
    obtain ⟨f, rfl⟩ : ∃ f, fu = f + 1 := ⟨fu - 1, by omega⟩
    have hci : (nI i).toNatClampNeg = i := nI_clamp (by omega)
    have c2 : ¬ (nI i < 0 ∨ 6 ≤ i) := inR' (by omega) (by decide)
    have ihh := ih (i + 1) f (by omega) (by omega)
    simp only [ct] at ihh
    rw [fX12_told_L70_s]
    unfold fX12_told_J93
    simp only [hp.1, hci, if_neg (nI_ge (show i < qJ G by omega) (by omega)), if_pos c2, hp.2.2.1 i (show i < qJ G by omega), nI_1, Int32.add_zero]
    cases hH : qH G i with
    | true => rw [hH] at ihh; rw [if_neg (by decide)]; exact ihh
    | false => rw [hH] at ihh; rw [if_pos (by decide)]; exact ihh
theorem m_L109 (hw : Wf G) (hp : Pc G m) (h13 : ∀ j, j < qJ G → gA m 13 j = bv ((wet G).testBit j)) : ∀ (d i fu : Nat), i + d = qJ G → d < fu → fX12_told_L109 fu (nI (ct (fun j => (!(wet G).testBit j).toNat) i)) (nI i) m = some (nI (ct (fun j => (!(wet G).testBit j).toNat) (qJ G)), m) := by
  intro d
  have hJ := hw.1
  induction d with
  | zero =>
    intro c fu hc hf
    obtain ⟨f, rfl⟩ : ∃ f, fu = f + 1 := ⟨fu - 1, by omega⟩
    obtain rfl : c = qJ G := by omega
    rw [fX12_told_L109_s, hp.1, if_pos (nI_le (Nat.le_refl _) (by omega))]
  | succ d ih =>
    intro i fu hc hf
    obtain ⟨f, rfl⟩ : ∃ f, fu = f + 1 := ⟨fu - 1, by omega⟩
    have hci : (nI i).toNatClampNeg = i := nI_clamp (by omega)
    have c2 : ¬ (nI i < 0 ∨ 6 ≤ i) := inR' (by omega) (by decide)
    have ihh := ih (i + 1) f (by omega) (by omega)
    simp only [ct] at ihh
    rw [fX12_told_L109_s]
    unfold fX12_told_J132
    simp only [hp.1, hci, if_neg (nI_ge (show i < qJ G by omega) (by omega)), if_pos c2, h13 i (show i < qJ G by omega), nI_1, Int32.add_zero]
    cases hH : (wet G).testBit i with
    | true => rw [hH] at ihh; rw [if_neg (by decide)]; exact ihh
    | false => rw [hH] at ihh; rw [if_pos (by decide)]; exact ihh
def opq (G : GD) (c : Nat) : Nat := (decide (1 ≤ qw G c)).toNat
theorem x_openCountL (hw : Wf G) (hp : Pc G x) : ∀ (d c fu : Nat), c + d = qN G → d < fu → fX5_openCount_L4 (qN G) fu (nI (ct (opq G) c)) (nI c) x = some (nI (ct (opq G) (qN G)), x) := by
  intro d
  have h12 := hw.2.1
  induction d with
  | zero =>
    intro c fu hc hf
    obtain ⟨f, rfl⟩ : ∃ f, fu = f + 1 := ⟨fu - 1, by omega⟩
    obtain rfl : c = qN G := by omega
    rw [fX5_openCount_L4_s, hp.2.1, if_pos (nI_le (Nat.le_refl _) (by omega))]
  | succ d ih =>
    intro c fu hc hf
    obtain ⟨f, rfl⟩ : ∃ f, fu = f + 1 := ⟨fu - 1, by omega⟩
    have c3 : c < qN G := by omega
    obtain ⟨e5, e6, e7, e8⟩ := hp.2.2.2.2 c c3
    obtain ⟨ha, hb, hab, hk, hww⟩ := hw.2.2.2.2 c c3
    have hci : (nI c).toNatClampNeg = c := nI_clamp (by omega)
    have c2 : ¬ (nI c < 0 ∨ 12 ≤ c) := inR' (by omega) (by decide)
    have ihh := ih (c + 1) f (by omega) (by omega)
    simp only [ct, opq] at ihh
    rw [fX5_openCount_L4_s]
    unfold fX5_openCount_J27
    simp only [hp.2.1, hci, if_neg (nI_ge c3 (by omega)), if_pos c2, if_pos c3, e8, nI_1]
    by_cases h0 : qw G c = 0
    · rw [h0, if_pos (by decide)]
      rw [decide_eq_false (show ¬ 1 ≤ qw G c by omega)] at ihh; exact ihh
    · rw [if_neg (nI_nle (by omega) (by omega))]
      rw [decide_eq_true (show 1 ≤ qw G c by omega)] at ihh; exact ihh
theorem x_widthSumL (hw : Wf G) (hp : Pc G x) : ∀ (d c fu : Nat), c + d = qN G → d < fu → fX5_widthSum_L4 (qN G) fu (nI (ct (qw G) c)) (nI c) x = some (nI (ct (qw G) (qN G)), x) := by
  intro d
  have h12 := hw.2.1
  induction d with
  | zero =>
    intro c fu hc hf
    obtain ⟨f, rfl⟩ : ∃ f, fu = f + 1 := ⟨fu - 1, by omega⟩
    obtain rfl : c = qN G := by omega
    rw [fX5_widthSum_L4_s, hp.2.1, if_pos (nI_le (Nat.le_refl _) (by omega))]
  | succ d ih =>
    intro c fu hc hf
    obtain ⟨f, rfl⟩ : ∃ f, fu = f + 1 := ⟨fu - 1, by omega⟩
    have c3 : c < qN G := by omega
    obtain ⟨e5, e6, e7, e8⟩ := hp.2.2.2.2 c c3
    have hci : (nI c).toNatClampNeg = c := nI_clamp (by omega)
    have c2 : ¬ (nI c < 0 ∨ 12 ≤ c) := inR' (by omega) (by decide)
    have ihh := ih (c + 1) f (by omega) (by omega)
    simp only [ct] at ihh
    rw [fX5_widthSum_L4_s]
    simp only [hp.2.1, hci, if_neg (nI_ge c3 (by omega)), if_pos c2, if_pos c3, e8, nI_1, nI_add]
    exact ihh
theorem m_L144a (hw : Wf G) (hp : Pc G m) : ∀ (d c fu : Nat), c + d = qN G → d < fu → fX12_told_L144 6 fu (nI (ct (opq G) c)) (nI c) m = some (nI (ct (opq G) (qN G)), m) := by
  intro d
  have h12 := hw.2.1
  induction d with
  | zero =>
    intro c fu hc hf
    obtain ⟨f, rfl⟩ : ∃ f, fu = f + 1 := ⟨fu - 1, by omega⟩
    obtain rfl : c = qN G := by omega
    rw [fX12_told_L144_s, hp.2.1, if_pos (nI_le (Nat.le_refl _) (by omega))]
  | succ d ih =>
    intro c fu hc hf
    obtain ⟨f, rfl⟩ : ∃ f, fu = f + 1 := ⟨fu - 1, by omega⟩
    have c3 : c < qN G := by omega
    obtain ⟨e5, e6, e7, e8⟩ := hp.2.2.2.2 c c3
    obtain ⟨ha, hb, hab, hk, hww⟩ := hw.2.2.2.2 c c3
    have hci : (nI c).toNatClampNeg = c := nI_clamp (by omega)
    have c2 : ¬ (nI c < 0 ∨ 12 ≤ c) := inR' (by omega) (by decide)
    have ihh := ih (c + 1) f (by omega) (by omega)
    simp only [ct, opq] at ihh
    rw [fX12_told_L144_s]
    unfold fX12_told_J182
    simp only [hp.2.1, hci, if_neg (nI_ge c3 (by omega)), if_pos c2, e8, nI_1, Int32.add_zero]
    rw [if_pos (by decide)]
    by_cases h0 : qw G c = 0
    · rw [h0, if_pos (by decide)]
      rw [decide_eq_false (show ¬ 1 ≤ qw G c by omega)] at ihh; exact ihh
    · rw [if_neg (nI_nle (by omega) (by omega))]
      rw [decide_eq_true (show 1 ≤ qw G c by omega)] at ihh; exact ihh
theorem m_L144b (hw : Wf G) (hp : Pc G m) : ∀ (d c fu : Nat), c + d = qN G → d < fu → fX12_told_L144 7 fu (nI (ct (qw G) c)) (nI c) m = some (nI (ct (qw G) (qN G)), m) := by
  intro d
  have h12 := hw.2.1
  induction d with
  | zero =>
    intro c fu hc hf
    obtain ⟨f, rfl⟩ : ∃ f, fu = f + 1 := ⟨fu - 1, by omega⟩
    obtain rfl : c = qN G := by omega
    rw [fX12_told_L144_s, hp.2.1, if_pos (nI_le (Nat.le_refl _) (by omega))]
  | succ d ih =>
    intro c fu hc hf
    obtain ⟨f, rfl⟩ : ∃ f, fu = f + 1 := ⟨fu - 1, by omega⟩
    have c3 : c < qN G := by omega
    obtain ⟨e5, e6, e7, e8⟩ := hp.2.2.2.2 c c3
    have hci : (nI c).toNatClampNeg = c := nI_clamp (by omega)
    have c2 : ¬ (nI c < 0 ∨ 12 ≤ c) := inR' (by omega) (by decide)
    have ihh := ih (c + 1) f (by omega) (by omega)
    simp only [ct] at ihh
    rw [fX12_told_L144_s]
    unfold fX12_told_J182
    simp only [hp.2.1, hci, if_neg (nI_ge c3 (by omega)), if_pos c2, e8, nI_1, nI_add]
    rw [if_neg (by decide)]
    exact ihh
theorem op_told : ∀ (y1 : Int32), OpI (RelV Vq) (fun nc σ => fX11_told nc y1 σ) (fun σ => fX12_told y1 σ) := by
  intro y1 j nc x m hj hR
  obtain ⟨J, hJ, hC, hS, hK, hO, hW⟩ := id hR
  obtain ⟨G, hw, e1, e2, px, pm⟩ := rel_G hJ hC
  have hJ6 := hw.1
  have h12 := hw.2.1
  have ref : ∀ r, fX11_told nc y1 x = some (r, x) → fX12_told y1 m = some (r, m) → ∃ (r : Int32) (σx' σm' : MS), fX11_told nc y1 x = some (r, σx') ∧ fX12_told y1 m = some (r, σm') ∧ RelV Vq (j + 1) nc σx' σm' := fun r a b => ⟨_, _, _, a, b, hR.next⟩
  show ∃ (r : Int32) (σx' σm' : MS), fX11_told nc y1 x = some (r, σx') ∧ fX12_told y1 m = some (r, σm') ∧ RelV Vq (j + 1) nc σx' σm'
  have hX := fX11_told.eq_1 nc y1 x
  have hM := fX12_told.eq_1 y1 m
  by_cases h0 : y1 = 0
  · rw [if_pos h0, hJ.2.1] at hX; rw [if_pos h0, hJ.2.2.1] at hM; exact ref _ hX hM
  rw [if_neg h0] at hX hM
  by_cases h1 : y1 = 1
  · rw [if_pos h1, hC.2.1] at hX; rw [if_pos h1, hC.2.2.1] at hM; exact ref _ hX hM
  rw [if_neg h1] at hX hM
  by_cases h2 : y1 = 2
  · obtain ⟨S, -, sx, sm⟩ := hS.2.1
    rw [if_pos h2, sx] at hX; rw [if_pos h2, sm] at hM; exact ref _ hX hM
  rw [if_neg h2] at hX hM
  by_cases h3 : y1 = 3
  · obtain ⟨r, -, -, rx, rm⟩ := hS.1
    rw [if_pos h3, rx] at hX; rw [if_pos h3, rm] at hM; exact ref _ hX hM
  rw [if_neg h3] at hX hM
  by_cases h4 : y1 = 4
  · rw [if_pos h4, x_heldOnes hw px.1] at hX
    rw [if_pos h4] at hM
    have hX2 : fX11_told nc y1 x = bnd (fJ6_bitCount_0f7a4 (nI (hmask G (qJ G)))) (fun r9 u10 => some (r9, x)) := hX
    have h64 := hm64 hw
    rw [w_cnt _ (by omega)] at hX2
    have hb6 : (hmask G (qJ G)).testBit 6 = false := Nat.testBit_lt_two_pow (i := 6) h64
    have hcn := (ct_cn (qJ G) (by omega) (hmask G (qJ G)) (hmask_lt _)).1
    rw [hb6, hcn] at hX2
    rw [ct_congr (q := fun j => (qH G j).toNat) _ (fun i _ => by show ((hmask G (qJ G)).testBit i).toNat = _; rw [hq_bit hw])] at hX2
    rw [show (0 : Int32) = nI 0 from rfl, show fX12_told_L70 FU (nI 0) (nI 0) m = some (nI (ct (fun j => (qH G j).toNat) (qJ G)), m) from m_L70 hw pm (qJ G) 0 FU (by omega) (by show qJ G < 1000000; omega)] at hM
    exact ref _ hX2 hM
  rw [if_neg h4] at hX hM
  by_cases h5 : y1 = 5
  · rw [if_pos h5] at hX hM
    obtain ⟨x1, ex1, fx1, v1, w1⟩ := x_settle hw e2 px (by omega) hW
    obtain ⟨m1, em1, u1, u2, u3⟩ := m_findWet hw pm
    have fm1 : FrM m m1 := ⟨fun k _ => u1.1 k, fun a h _ _ _ _ => u2 a h, fun a _ _ => u1.2.2 a⟩
    refine ⟨nI (ct (fun j => (!(wet G).testBit j).toNat) (qJ G)), x1, m1, ?_, ?_, rel_water hJ hC hS hK hO fx1 fm1 w1⟩
    · rw [hX]
      unfold fX8_dryCount
      rw [ex1]
      try rw [bnd_k]
      show bnd (bnd (fJ6_bitCount_0f7a4 (gI x1 51)) (fun r4 u5 => some (gI x1 1 - r4, x1))) _ = _
      have h64 := wet64 hw
      rw [v1.1, w_cnt _ (by omega)]
      show some (gI x1 1 - nI (cn (wet G) + ((wet G).testBit 6).toNat), x1) = _
      have hb6 : (wet G).testBit 6 = false := Nat.testBit_lt_two_pow (i := 6) h64
      obtain ⟨q1, q2⟩ := ct_cn (qJ G) (by omega) _ (wet_lt hw)
      have hle := cn_le (qJ G) (by omega) _ (wet_lt hw)
      rw [hb6, (px.fr fx1).1.1]
      show some (nI (qJ G) - nI (cn (wet G)), x1) = _
      rw [pk_sub hle, q2]
    · rw [hM, em1]
      try rw [bnd_k]
      show bnd (fX12_told_L109 FU 0 0 m1) _ = _
      rw [show (0 : Int32) = nI 0 from rfl, show fX12_told_L109 FU (nI 0) (nI 0) m1 = some (nI (ct (fun j => (!(wet G).testBit j).toNat) (qJ G)), m1) from m_L109 hw (pm.fm fm1) u3 (qJ G) 0 FU (by omega) (by show qJ G < 1000000; omega)]; rfl
  rw [if_neg h5] at hX hM
  by_cases h6 : y1 = 6
  · rw [if_pos h6] at hX hM
    unfold fX5_openCount at hX
    unfold fX12_told_J142 at hM
    rw [← e2, show (0 : Int32) = nI 0 from rfl, show fX5_openCount_L4 (qN G) FU (nI 0) (nI 0) x = some (nI (ct (opq G) (qN G)), x) from x_openCountL hw px.1 (qN G) 0 FU (by omega) (by show qN G < 1000000; omega)] at hX
    rw [h6, show (0 : Int32) = nI 0 from rfl, show fX12_told_L144 6 FU (nI 0) (nI 0) m = some (nI (ct (opq G) (qN G)), m) from m_L144a hw pm (qN G) 0 FU (by omega) (by show qN G < 1000000; omega), ← h6] at hM
    exact ref _ (by rw [← e2]; exact hX) hM
  rw [if_neg h6] at hX hM
  by_cases h7 : y1 = 7
  · rw [if_pos h7] at hX hM
    unfold fX5_widthSum at hX
    unfold fX12_told_J142 at hM
    rw [← e2, show (0 : Int32) = nI 0 from rfl, show fX5_widthSum_L4 (qN G) FU (nI 0) (nI 0) x = some (nI (ct (qw G) (qN G)), x) from x_widthSumL hw px.1 (qN G) 0 FU (by omega) (by show qN G < 1000000; omega)] at hX
    rw [h7, show (0 : Int32) = nI 0 from rfl, show fX12_told_L144 7 FU (nI 0) (nI 0) m = some (nI (ct (qw G) (qN G)), m) from m_L144b hw pm (qN G) 0 FU (by omega) (by show qN G < 1000000; omega), ← h7] at hM
    exact ref _ (by rw [← e2]; exact hX) hM
  rw [if_neg h7] at hX hM
  exact ref (-2) hX hM
end TOLD
