/-! operations that tell of the water -/
section WOPS
variable {G : GD} {s s' x x' x'' m m' : MS} {nc j J : Nat}
theorem FrX.trans (h : FrX x x') (h' : FrX x' x'') : FrX x x'' := ⟨fun k a b c => (h'.1 k a b c).trans (h.1 k a b c), fun a => (h'.2.1 a).trans (h.2.1 a), fun a ha => (h'.2.2 a ha).trans (h.2.2 a ha)⟩
theorem FrM.rfl' : FrM s s := ⟨fun _ _ => rfl, fun _ _ _ _ _ _ => rfl, fun _ _ _ => rfl⟩
theorem FrX.rfl' : FrX x x := ⟨fun _ _ _ _ => rfl, fun _ => rfl, fun _ _ => rfl⟩
/-- the water was looked at, nothing else -/
theorem rel_water (hJ : RJ J x m) (hC : RC J nc x m) (hS : RS j x m) (hK : RK j nc x m) (hO : RO x m) (fx : FrX x x') (fm : FrM m m') (hW : RW (Vq nc) j x') : RelV Vq (j + 1) nc x' m' := by
  have iX : ∀ k, k < 51 → gI x' k = gI x k := fun k hk => fx.1 k (by omega) (by omega) (by omega)
  have aM : ∀ a, a < 13 → gA m' a = gA m a := fun a ha => fm.2.1 a (by omega) (by omega) (by omega) (by omega) (by omega)
  have aM2 : ∀ a, 30 ≤ a → gA m' a = gA m a := fun a ha => fm.2.1 a (by omega) (by omega) (by omega) (by omega) (by omega)
  refine ⟨J, ?_, ?_, ?_, ?_, ?_, hW.next⟩
  · exact hJ.keep (iX 1 (by decide)) (fm.1 1 (by decide)) (fx.2.1 2) (fx.2.1 3) (aM 2 (by decide)) (aM 3 (by decide))
  · exact hC.keep (iX 4 (by decide)) (fm.1 4 (by decide)) (fx.2.1 5) (fx.2.1 6) (fx.2.1 7) (fx.2.1 8) (fx.2.1 9) (fx.2.1 10) (aM 5 (by decide)) (aM 6 (by decide)) (aM 7 (by decide)) (aM 8 (by decide)) (aM 9 (by decide)) (aM 10 (by decide))
  · exact hS.keep (iX 11 (by decide)) (fm.1 11 (by decide)) (iX 12 (by decide)) (fm.1 12 (by decide)) (iX 0 (by decide)) (fm.1 0 (by decide)) (iX 38 (by decide)) (fm.1 38 (by decide))
  · exact hK.keep (iX 29 (by decide)) (fm.1 29 (by decide)) (fx.1 58 (by decide) (by decide) (by decide)) (fx.2.1 73) (fx.2.1 74) (fun a _ => fx.2.1 a) (aM2 30 (by decide)) (aM2 31 (by decide)) (aM2 32 (by decide)) (aM2 33 (by decide))
  · exact hO.keep (fx.2.1 40) (fx.2.1 41) (fx.2.1 42) (aM2 34 (by decide)) (aM2 35 (by decide)) (fun k h1 h2 => fx.2.2 k (by omega)) (fm.2.2 36 (by decide) (by decide))
theorem x_isDry (hw : Wf G) (hn : qN G = nc) (hp : PX G x) (hj : j ≤ 512) (hW : RW (Vq nc) j x) {i : Nat} (hi : i < 6) : ∃ x', fX8_isDry nc (nI i) x = some (bv (!(wet G).testBit i), x') ∧ FrX x x' ∧ Vals G x' ∧ RW (Vq nc) j x' := by
  obtain ⟨x', e, fr, v, w⟩ := x_settle hw hn hp hj hW
  refine ⟨x', ?_, fr, v, w⟩
  unfold fX8_isDry
  rw [e]
  show (if ¬ ((gI x' 51 >>> (nI i &&& 31)) &&& 1) = 0 then some (0, x') else some (1, x')) = _
  rw [v.1, w_bit _ (by have := wet64 hw; omega) i (by omega)]
  cases (wet G).testBit i <;> rfl
theorem i63 : (2 : Int) ^ 63 = 9223372036854775808 := by decide
theorem Up_63 (hw : Wf G) (i : Nat) : -2 ^ 63 < Up G i ∧ Up G i < 2 ^ 63 := by
  obtain ⟨h1, h2⟩ := Up_bnd hw i
  have h3 := Lo_le hw
  have h4 := prod_le hw (psq G)
  have h5 := pow_1728 (psq G).length (by rw [psq_len]; exact cn_bal hw)
  have := i63
  omega
theorem fl_63 (hw : Wf G) {c : Nat} (hc : c < qN G) : -80000000000000000 ≤ fl G c ∧ fl G c ≤ 80000000000000000 := by
  by_cases h5 : cn (bal G) = 5
  · rw [fl_5 hw h5 hc]; omega
  · obtain ⟨-, hLo⟩ := Lo_LH hw h5
    obtain ⟨f1, f2⟩ := fl_bnd hw c
    have hl := lq_le hw hc
    have h1 := Lo_1 hw
    have : (lq G c : Int) * (100 * Lo G) ≤ 144 * (100 * 600000000000) := Int.mul_le_mul (by omega) (by omega) (by omega) (by decide)
    omega
theorem op_head : ∀ (y1 y2 : Int32), OpL (RelV Vq) (fun nc σ => fX11_head nc y1 y2 σ) (fun σ => fX12_head y1 y2 σ) := by
  intro y1 y2 j nc x m hj hR
  obtain ⟨J, hJ, hC, hS, hK, hO, hW⟩ := id hR
  obtain ⟨G, hw, e1, e2, px, pm⟩ := rel_G hJ hC
  have hJ6 := hJ.1
  have hx := hJ.2.1
  have hm := hJ.2.2.1
  have ref : fX11_head nc y1 y2 x = some (-9223372036854775808, x) → fX12_head y1 y2 m = some (-9223372036854775808, m) → ∃ (r : Int64) (σx' σm' : MS), fX11_head nc y1 y2 x = some (r, σx') ∧ fX12_head y1 y2 m = some (r, σm') ∧ RelV Vq (j + 1) nc σx' σm' := fun a b => ⟨_, _, _, a, b, hR.next⟩
  show ∃ (r : Int64) (σx' σm' : MS), fX11_head nc y1 y2 x = some (r, σx') ∧ fX12_head y1 y2 m = some (r, σm') ∧ RelV Vq (j + 1) nc σx' σm'
  rcases ixc y1 (n := J) (by omega) with ho | ⟨i, hi, rfl⟩
  · refine ref ?_ ?_
    · unfold fX11_head; rw [x_hasJoint_out hx ho]; rfl
    · unfold fX12_head; rw [m_noJoint_out hm (by omega) ho]; rfl
  rcases am01 y2 0 1 with ⟨h2, -⟩ | ⟨h2, -, -⟩
  · refine ref ?_ ?_
    · unfold fX11_head; rw [x_hasJoint_in hx (by omega) hi, x_isPart, h2]; rfl
    · unfold fX12_head; rw [m_noJoint_in hm (by omega) hi, h2]; rfl
  obtain ⟨x1, ex1, fx1, v1, w1⟩ := x_isDry hw e2 px (by omega) hW (i := i) (by omega)
  obtain ⟨m1, em1, fm1, vL, v13, v14⟩ := m_findHeads hw pm
  have hci : (nI i).toNatClampNeg = i := nI_clamp (by omega)
  have c1 : ¬ (nI i < 0 ∨ 6 ≤ i) := inR' (by omega) (by decide)
  have hX : fX11_head nc (nI i) y2 x = if bv (!(wet G).testBit i) = 0 then bnd (fX8_headPart nc (nI i) y2 x1) (fun r13 s14 => some (r13, s14)) else some (-9223372036854775808, x1) := by
    unfold fX11_head
    rw [x_hasJoint_in hx (by omega) hi, x_isPart, h2]
    try rw [bnd_k]
    show bnd (fX8_isDry nc (nI i) x) _ = _
    rw [ex1]; rfl
  have hM : fX12_head (nI i) y2 m = if gA m1 13 i = 0 then some (-9223372036854775808, m1) else bnd (fX12_lowest (gB m1 14 i) (gL m1) y2 m1) (fun r21 s22 => some (r21, s22)) := by
    unfold fX12_head
    rw [m_noJoint_in hm (by omega) hi, h2]
    try rw [bnd_k]
    show bnd (fX12_findHeads m) _ = _
    rw [em1]
    show (if ¬ (nI i < 0 ∨ 6 ≤ (nI i).toNatClampNeg) then _ else _) = _
    simp only [hci, if_pos c1]; rfl
  rw [v13 i (by omega)] at hM
  cases hwt : (wet G).testBit i with
  | false =>
    rw [hwt] at hX hM
    rw [if_neg (by decide)] at hX
    rw [if_pos (by decide)] at hM
    exact ⟨_, x1, m1, hX, hM, rel_water hJ hC hS hK hO fx1 fm1 w1⟩
  | true =>
    rw [hwt] at hX hM
    rw [if_pos (by decide)] at hX
    rw [if_neg (by decide)] at hM
    obtain ⟨x2, ex2, fx2, v2, w2⟩ := x_settle hw e2 (px.fr fx1) (by omega) w1
    obtain ⟨b1, b2⟩ := Lo_bnd hw
    obtain ⟨u1, u2⟩ := Up_63 hw i
    obtain ⟨r, r1, r2⟩ := part_eq u1 u2 b1 b2 y2
    refine ⟨r, x2, m1, ?_, ?_, rel_water hJ hC hS hK hO (fx1.trans fx2) fm1 w2⟩
    · rw [hX]
      unfold fX8_headPart
      rw [ex2]
      try rw [bnd_k]
      show bnd (if ¬ (nI i < 0 ∨ 6 ≤ (nI i).toNatClampNeg) then bnd (fX11_partOf (gB x2 69 (nI i).toNatClampNeg) (gL x2) y2) _ else none) _ = _
      rw [hci, if_pos c1, v2.2.2.1 i (by omega), v2.2.1, r1]; rfl
    · rw [hM, v14 i (by omega), vL, r2]; rfl
theorem m_flowOf (hw : Wf G) (hp : Pc G m) (hv : VM G m) {c : Nat} (hc : c < qN G) : fX12_flowOf (nI c) m = some (Int64.ofInt (fl G c), m) := by
  obtain ⟨vL, v13, v14⟩ := hv
  have h12 := hw.2.1
  have hJ := hw.1
  obtain ⟨e5, e6, e7, e8⟩ := hp.2.2.2.2 c hc
  obtain ⟨ha, hb, hab, hk, hww⟩ := hw.2.2.2.2 c hc
  have hci : (nI c).toNatClampNeg = c := nI_clamp (by omega)
  have c2 : ¬ (nI c < 0 ∨ 12 ≤ c) := inR' (by omega) (by decide)
  have hca : (nI (qa G c)).toNatClampNeg = qa G c := nI_clamp (by omega)
  have hcb : (nI (qb G c)).toNatClampNeg = qb G c := nI_clamp (by omega)
  have ca : ¬ (nI (qa G c) < 0 ∨ 6 ≤ qa G c) := inR' (by omega) (by decide)
  have cb : ¬ (nI (qb G c) < 0 ∨ 6 ≤ qb G c) := inR' (by omega) (by decide)
  have hl : lq G c < 2 ^ 31 := by have := lq_le hw hc; omega
  unfold fX12_flowOf
  simp only [hci, if_pos c2, e5, e6, e8, hca, hcb, if_pos ca, if_pos cb, v13 _ ha, v13 _ hb, ml_lets hw hp hc, bnd, v14 _ ha, v14 _ hb, oI _ hl]
  by_cases h0 : qw G c = 0
  · rw [h0, if_pos (by decide)]
    unfold fl; rw [lq_0 h0]; simp
  · rw [if_neg (nI_ne0 (by omega) (by omega))]
    have e : (wet G).testBit (qa G c) = (wet G).testBit (qb G c) := wet_closed hw c hc (by omega)
    cases hwa : (wet G).testBit (qa G c) with
    | false =>
      rw [if_pos (by decide)]
      unfold fl; rw [Up_dry hw hwa, Up_dry hw (e ▸ hwa)]; simp
    | true =>
      rw [if_neg (by decide), show (wet G).testBit (qb G c) = true from e ▸ hwa, if_pos (by decide), ← Int64.ofInt_sub, ← Int64.ofInt_mul]; rfl
theorem op_flow : ∀ (y1 y2 : Int32), OpL (RelV Vq) (fun nc σ => fX11_flow nc y1 y2 σ) (fun σ => fX12_flow y1 y2 σ) := by
  intro y1 y2 j nc x m hj hR
  obtain ⟨J, hJ, hC, hS, hK, hO, hW⟩ := id hR
  obtain ⟨G, hw, e1, e2, px, pm⟩ := rel_G hJ hC
  have h12 := hC.1
  have hx4 := hC.2.1
  have hm4 := hC.2.2.1
  have ref : fX11_flow nc y1 y2 x = some (-9223372036854775808, x) → fX12_flow y1 y2 m = some (-9223372036854775808, m) → ∃ (r : Int64) (σx' σm' : MS), fX11_flow nc y1 y2 x = some (r, σx') ∧ fX12_flow y1 y2 m = some (r, σm') ∧ RelV Vq (j + 1) nc σx' σm' := fun a b => ⟨_, _, _, a, b, hR.next⟩
  show ∃ (r : Int64) (σx' σm' : MS), fX11_flow nc y1 y2 x = some (r, σx') ∧ fX12_flow y1 y2 m = some (r, σm') ∧ RelV Vq (j + 1) nc σx' σm'
  rcases ixc y1 (n := nc) (by omega) with ho | ⟨c, hc, rfl⟩
  · refine ref ?_ ?_
    · unfold fX11_flow; rw [x_hasCrack_out hx4 ho]; rfl
    · unfold fX12_flow; rw [m_noCrack_out hm4 (by omega) ho]; rfl
  rcases am01 y2 0 1 with ⟨h2, -⟩ | ⟨h2, -, -⟩
  · refine ref ?_ ?_
    · unfold fX11_flow; rw [x_hasCrack_in hx4 (by omega) hc, x_isPart, h2]; rfl
    · unfold fX12_flow; rw [m_noCrack_in hm4 (by omega) hc, h2]; rfl
  obtain ⟨x1, ex1, fx1, v1, w1⟩ := x_settle hw e2 px (by omega) hW
  obtain ⟨m1, em1, fm1, vm⟩ := m_findHeads hw pm
  have hci : (nI c).toNatClampNeg = c := nI_clamp (by omega)
  have c1 : ¬ (nI c < 0 ∨ 12 ≤ c) := inR' (by omega) (by decide)
  have hcG : c < qN G := by omega
  obtain ⟨b1, b2⟩ := Lo_bnd hw
  obtain ⟨u1, u2⟩ := fl_63 hw hcG
  have := i63
  obtain ⟨r, r1, r2⟩ := part_eq (U := fl G c) (by omega) (by omega) b1 b2 y2
  refine ⟨r, x1, m1, ?_, ?_, rel_water hJ hC hS hK hO fx1 fm1 w1⟩
  · unfold fX11_flow
    rw [x_hasCrack_in hx4 (by omega) hc, x_isPart, h2]
    try rw [bnd_k]
    show bnd (fX8_flowPart nc (nI c) y2 x) _ = _
    unfold fX8_flowPart
    rw [ex1]
    try rw [bnd_k]
    show bnd (if ¬ (nI c < 0 ∨ 12 ≤ (nI c).toNatClampNeg) then bnd (fX11_partOf (gB x1 70 (nI c).toNatClampNeg) (gL x1) y2) _ else none) _ = _
    rw [hci, if_pos c1, v1.2.2.2 c hcG, v1.2.1]
    try rw [bnd_k]
    show bnd (bnd (fX11_partOf (Int64.ofInt (fl G c)) _ y2) _) _ = _
    rw [r1]; rfl
  · unfold fX12_flow
    rw [m_noCrack_in hm4 (by omega) hc, h2]
    try rw [bnd_k]
    show bnd (fX12_findHeads m) _ = _
    rw [em1]
    try rw [bnd_k]
    show bnd (fX12_flowOf (nI c) m1) _ = _
    rw [m_flowOf hw (pm.fm fm1) vm hcG]
    try rw [bnd_k]
    show bnd (fX12_lowest (Int64.ofInt (fl G c)) (gL m1) y2 m1) _ = _
    rw [vm.1, r2]; rfl
/-! what goes in -/
def inq (G : GD) (i : Nat) : Nat → Int := sumN (fun c => (if qa G c = i then fl G c else 0) - (if qb G c = i then fl G c else 0))
theorem x_inUp (hw : Wf G) (hp : Pc G x) (hv : Vals G x) {i : Nat} (hi : i < 6) : ∀ (d c fu : Nat), c + d = qN G → d < fu → fX8_inflowUpper_L5 (qN G) (nI i) fu (Int64.ofInt (inq G i c)) (nI c) x = some (Int64.ofInt (inq G i (qN G)), x) := by
  intro d
  have h12 := hw.2.1
  have hJ := hw.1
  induction d with
  | zero =>
    intro c fu hc hf
    obtain ⟨f, rfl⟩ : ∃ f, fu = f + 1 := ⟨fu - 1, by omega⟩
    obtain rfl : c = qN G := by omega
    rw [fX8_inflowUpper_L5_s, hp.2.1, if_pos (nI_le (Nat.le_refl _) (by omega))]
  | succ d ih =>
    intro c fu hc hf
    obtain ⟨f, rfl⟩ : ∃ f, fu = f + 1 := ⟨fu - 1, by omega⟩
    have c3 : c < qN G := by omega
    obtain ⟨e5, e6, e7, e8⟩ := hp.2.2.2.2 c c3
    obtain ⟨ha, hb, hab, hk, hww⟩ := hw.2.2.2.2 c c3
    have hci : (nI c).toNatClampNeg = c := nI_clamp (by omega)
    have c2 : ¬ (nI c < 0 ∨ 12 ≤ c) := inR' (by omega) (by decide)
    have ihh := ih (c + 1) f (by omega) (by omega)
    have g70 : gB x 70 c = Int64.ofInt (fl G c) := hv.2.2.2 c c3
    have ea : ∀ k, k < 6 → (nI k = nI i ↔ k = i) := fun k hk => nI_eq (by omega) (by omega)
    rw [fX8_inflowUpper_L5_s]
    unfold fX8_inflowUpper_J44 fX8_inflowUpper_J71
    simp only [hp.2.1, hci, if_neg (nI_ge c3 (by omega)), if_pos c2, if_pos c3, e5, e6, g70, nI_1]
    unfold inq at ihh ⊢
    simp only [sumN] at ihh
    by_cases h1 : qa G c = i
    · have h2 : ¬ qb G c = i := fun z => hab (h1.trans z.symm)
      rw [if_neg (fun z => z ((ea _ (by omega)).mpr h1)), if_pos (fun z => h2 ((ea _ (by omega)).mp z)), ← Int64.ofInt_add]
      rw [if_pos h1, if_neg h2, Int.sub_zero] at ihh; exact ihh
    · rw [if_pos (fun z => h1 ((ea _ (by omega)).mp z))]
      by_cases h2 : qb G c = i
      · rw [if_neg (fun z => z ((ea _ (by omega)).mpr h2)), ← Int64.ofInt_sub]
        rw [if_neg h1, if_pos h2, Int.zero_sub] at ihh
        rw [show ∀ a b : Int, a - b = a + -b from fun a b => by omega]; exact ihh
      · rw [if_pos (fun z => h2 ((ea _ (by omega)).mp z))]
        rw [if_neg h1, if_neg h2, Int.sub_zero, Int.add_zero] at ihh; exact ihh
theorem x_inflowUpper (hw : Wf G) (hp : Pc G x) (hv : Vals G x) {i : Nat} (hi : i < 6) : fX8_inflowUpper (qN G) (nI i) x = some (Int64.ofInt (inq G i (qN G)), x) := by
  unfold fX8_inflowUpper
  have h12 := hw.2.1
  rw [show (0 : Int64) = Int64.ofInt (inq G i 0) from rfl, show (0 : Int32) = nI 0 from rfl, x_inUp hw hp hv hi (qN G) 0 FU (by omega) (by show qN G < 1000000; omega)]; rfl
theorem m_inL (hw : Wf G) (hp : Pc G m) (hv : VM G m) {i : Nat} (hi : i < 6) : ∀ (d c fu : Nat), c + d = qN G → d < fu → fX12_inOf_L5 (nI i) fu (Int64.ofInt (inq G i c)) (nI c) m = some (Int64.ofInt (inq G i (qN G)), m) := by
  intro d
  have h12 := hw.2.1
  have hJ := hw.1
  induction d with
  | zero =>
    intro c fu hc hf
    obtain ⟨f, rfl⟩ : ∃ f, fu = f + 1 := ⟨fu - 1, by omega⟩
    obtain rfl : c = qN G := by omega
    rw [fX12_inOf_L5_s, hp.2.1, if_pos (nI_le (Nat.le_refl _) (by omega))]
  | succ d ih =>
    intro c fu hc hf
    obtain ⟨f, rfl⟩ : ∃ f, fu = f + 1 := ⟨fu - 1, by omega⟩
    have c3 : c < qN G := by omega
    obtain ⟨e5, e6, e7, e8⟩ := hp.2.2.2.2 c c3
    obtain ⟨ha, hb, hab, hk, hww⟩ := hw.2.2.2.2 c c3
    have hci : (nI c).toNatClampNeg = c := nI_clamp (by omega)
    have c2 : ¬ (nI c < 0 ∨ 12 ≤ c) := inR' (by omega) (by decide)
    have ihh := ih (c + 1) f (by omega) (by omega)
    have ea : ∀ k, k < 6 → (nI k = nI i ↔ k = i) := fun k hk => nI_eq (by omega) (by omega)
    rw [fX12_inOf_L5_s]
    unfold fX12_inOf_J57
    simp only [hp.2.1, hci, if_neg (nI_ge c3 (by omega)), if_pos c2, e5, e6, m_flowOf hw hp hv c3, bnd, nI_1]
    unfold inq at ihh ⊢
    simp only [sumN] at ihh
    by_cases h1 : qa G c = i
    · have h2 : ¬ qb G c = i := fun z => hab (h1.trans z.symm)
      rw [if_neg (fun z => z ((ea _ (by omega)).mpr h1)), ← Int64.ofInt_add]
      rw [if_pos h1, if_neg h2, Int.sub_zero] at ihh; exact ihh
    · rw [if_pos (fun z => h1 ((ea _ (by omega)).mp z))]
      by_cases h2 : qb G c = i
      · rw [if_neg (fun z => z ((ea _ (by omega)).mpr h2)), ← Int64.ofInt_neg, ← Int64.ofInt_add]
        rw [if_neg h1, if_pos h2, Int.zero_sub] at ihh; exact ihh
      · rw [if_pos (fun z => h2 ((ea _ (by omega)).mp z)), Int64.add_zero]
        rw [if_neg h1, if_neg h2, Int.sub_zero, Int.add_zero] at ihh; exact ihh
theorem m_inOf (hw : Wf G) (hp : Pc G m) (hv : VM G m) {i : Nat} (hi : i < 6) : fX12_inOf (nI i) m = some (Int64.ofInt (inq G i (qN G)), m) := by
  unfold fX12_inOf
  have h12 := hw.2.1
  rw [show (0 : Int64) = Int64.ofInt (inq G i 0) from rfl, show (0 : Int32) = nI 0 from rfl, m_inL hw hp hv hi (qN G) 0 FU (by omega) (by show qN G < 1000000; omega)]; rfl
theorem inq_63 (hw : Wf G) (i : Nat) : -2 ^ 63 < inq G i (qN G) ∧ inq G i (qN G) < 2 ^ 63 := by
  have h63 := i63
  have he : ∀ c, c < qN G → (if qa G c = i then fl G c else 0) - (if qb G c = i then fl G c else 0) = fl G c ∨ (if qa G c = i then fl G c else 0) - (if qb G c = i then fl G c else 0) = - fl G c ∨ (if qa G c = i then fl G c else 0) - (if qb G c = i then fl G c else 0) = 0 := by
    intro c hc
    by_cases h1 : qa G c = i
    · by_cases h2 : qb G c = i
      · rw [if_pos h1, if_pos h2]; right; right; omega
      · rw [if_pos h1, if_neg h2]; left; omega
    · by_cases h2 : qb G c = i
      · rw [if_neg h1, if_pos h2]; right; left; omega
      · rw [if_neg h1, if_neg h2]; right; right; omega
  by_cases h5 : cn (bal G) = 5
  · have : inq G i (qN G) = 0 := by
      unfold inq
      have e : sumN (fun c => (if qa G c = i then fl G c else 0) - (if qb G c = i then fl G c else 0)) (qN G) = sumN (fun _ => 0 * (0 : Int)) (qN G) := sumN_congr fun c hc => by rw [fl_5 hw h5 hc]; simp
      rw [e, sumN_mul]; omega
    omega
  · obtain ⟨-, hLo⟩ := Lo_LH hw h5
    have h1 := Lo_1 hw
    obtain ⟨b1, b2⟩ := in_bnd hw he (qN G) (Nat.le_refl _)
    obtain ⟨a0, a1, a2⟩ := LT_le hw (qN G) (Nat.le_refl _)
    have h12 := hw.2.1
    have : LT G (qN G) * (100 * Lo G) ≤ 1728 * (100 * 600000000000) := Int.mul_le_mul (by omega) (by omega) (by omega) (by decide)
    show -2 ^ 63 < sumN _ (qN G) ∧ sumN _ (qN G) < 2 ^ 63
    omega
theorem op_in : ∀ (y1 y2 : Int32), OpL (RelV Vq) (fun nc σ => fX11_in nc y1 y2 σ) (fun σ => fX12_in y1 y2 σ) := by
  intro y1 y2 j nc x m hj hR
  obtain ⟨J, hJ, hC, hS, hK, hO, hW⟩ := id hR
  obtain ⟨G, hw, e1, e2, px, pm⟩ := rel_G hJ hC
  have hJ6 := hJ.1
  have hx := hJ.2.1
  have hm := hJ.2.2.1
  have ref : fX11_in nc y1 y2 x = some (-9223372036854775808, x) → fX12_in y1 y2 m = some (-9223372036854775808, m) → ∃ (r : Int64) (σx' σm' : MS), fX11_in nc y1 y2 x = some (r, σx') ∧ fX12_in y1 y2 m = some (r, σm') ∧ RelV Vq (j + 1) nc σx' σm' := fun a b => ⟨_, _, _, a, b, hR.next⟩
  show ∃ (r : Int64) (σx' σm' : MS), fX11_in nc y1 y2 x = some (r, σx') ∧ fX12_in y1 y2 m = some (r, σm') ∧ RelV Vq (j + 1) nc σx' σm'
  rcases ixc y1 (n := J) (by omega) with ho | ⟨i, hi, rfl⟩
  · refine ref ?_ ?_
    · unfold fX11_in; rw [x_hasJoint_out hx ho]; rfl
    · unfold fX12_in; rw [m_noJoint_out hm (by omega) ho]; rfl
  rcases am01 y2 0 1 with ⟨h2, -⟩ | ⟨h2, -, -⟩
  · refine ref ?_ ?_
    · unfold fX11_in; rw [x_hasJoint_in hx (by omega) hi, x_isPart, h2]; rfl
    · unfold fX12_in; rw [m_noJoint_in hm (by omega) hi, h2]; rfl
  have hci : (nI i).toNatClampNeg = i := nI_clamp (by omega)
  have c1 : ¬ (nI i < 0 ∨ 6 ≤ i) := inR' (by omega) (by decide)
  have hX : fX11_in nc (nI i) y2 x = if ¬ gA x 2 i = 0 then bnd (fX8_inflowPart nc (nI i) y2 x) (fun r11 s12 => some (r11, s12)) else some (-9223372036854775808, x) := by
    unfold fX11_in
    rw [x_hasJoint_in hx (by omega) hi, x_isPart, h2]
    show (if ¬ (nI i < 0 ∨ 6 ≤ (nI i).toNatClampNeg) then _ else _) = _
    rw [hci, if_pos c1]
  have hM : fX12_in (nI i) y2 m = if ¬ gA m 2 i = 0 then bnd (fX12_findHeads m) (fun r14 s15 => bnd (fX12_inOf (nI i) s15) (fun r17 s18 => bnd (fX12_lowest r17 (gL s18) y2 s18) (fun r20 s21 => some (r20, s21)))) else some (-9223372036854775808, m) := by
    unfold fX12_in
    rw [m_noJoint_in hm (by omega) hi, h2]
    show (if ¬ (nI i < 0 ∨ 6 ≤ (nI i).toNatClampNeg) then _ else _) = _
    rw [hci, if_pos c1]; rfl
  rw [px.1.2.2.1 i (by omega)] at hX
  rw [pm.2.2.1 i (by omega)] at hM
  cases hH : qH G i with
  | false =>
    rw [hH] at hX hM
    exact ref (by rw [hX]; rfl) (by rw [hM]; rfl)
  | true =>
    rw [hH] at hX hM
    obtain ⟨x1, ex1, fx1, v1, w1⟩ := x_settle hw e2 px (by omega) hW
    obtain ⟨m1, em1, fm1, vm⟩ := m_findHeads hw pm
    obtain ⟨b1, b2⟩ := Lo_bnd hw
    obtain ⟨u1, u2⟩ := inq_63 hw i
    obtain ⟨r, r1, r2⟩ := part_eq u1 u2 b1 b2 y2
    refine ⟨r, x1, m1, ?_, ?_, rel_water hJ hC hS hK hO fx1 fm1 w1⟩
    · rw [hX, if_pos (by decide)]
      unfold fX8_inflowPart
      rw [ex1]
      try rw [bnd_k]
      show bnd (bnd (fX8_inflowUpper nc (nI i) x1) _) _ = _
      rw [← e2, x_inflowUpper hw (px.fr fx1).1 v1 (by omega)]
      try rw [bnd_k]
      show bnd (bnd (fX11_partOf (Int64.ofInt (inq G i (qN G))) (gL x1) y2) _) _ = _
      rw [v1.2.1, r1]; rfl
    · rw [hM, if_pos (by decide), em1]
      try rw [bnd_k]
      show bnd (fX12_inOf (nI i) m1) _ = _
      rw [m_inOf hw (pm.fm fm1) vm (by omega)]
      try rw [bnd_k]
      show bnd (fX12_lowest (Int64.ofInt (inq G i (qN G))) (gL m1) y2 m1) _ = _
      rw [vm.1, r2]; rfl
/-! the work -/
def wkq (G : GD) : Nat → Int := sumN (fun i => bq G i * inq G i (qN G))
theorem x_workL (hw : Wf G) (hp : Pc G x) (hv : Vals G x) {y : Int32} : ∀ (d i fu : Nat), i + d = qJ G → d < fu → fX8_workPart_L9 (qN G) y fu (Int64.ofInt (wkq G i)) (nI i) x = some (Int64.ofInt (wkq G (qJ G)), x) := by
  intro d
  have hJ := hw.1
  induction d with
  | zero =>
    intro c fu hc hf
    obtain ⟨f, rfl⟩ : ∃ f, fu = f + 1 := ⟨fu - 1, by omega⟩
    obtain rfl : c = qJ G := by omega
    rw [fX8_workPart_L9_s, hp.1, if_pos (nI_le (Nat.le_refl _) (by omega))]
  | succ d ih =>
    intro i fu hc hf
    obtain ⟨f, rfl⟩ : ∃ f, fu = f + 1 := ⟨fu - 1, by omega⟩
    have hci : (nI i).toNatClampNeg = i := nI_clamp (by omega)
    have c2 : ¬ (nI i < 0 ∨ 6 ≤ i) := inR' (by omega) (by decide)
    have ihh := ih (i + 1) f (by omega) (by omega)
    unfold wkq at ihh ⊢
    simp only [sumN] at ihh
    rw [fX8_workPart_L9_s]
    unfold fX8_workPart_J55
    simp only [hp.1, hci, if_neg (nI_ge (show i < qJ G by omega) (by omega)), if_pos c2, hp.2.2.1 i (show i < qJ G by omega), x_inflowUpper hw hp hv (show i < 6 by omega), bnd, nI_1]
    cases hH : qH G i with
    | false =>
      have : bq G i = 0 := by unfold bq; rw [hH]; rfl
      rw [this, Int.zero_mul, Int.add_zero] at ihh
      rw [if_pos (by decide)]; exact ihh
    | true =>
      have hh := hw.2.2.2.1 i
      have : bq G i = (qh G i : Int) := by unfold bq; rw [hH]; rfl
      rw [this] at ihh
      rw [if_neg (by decide), hp.2.2.2.1 i (by omega) hH, oI _ (by omega), ← Int64.ofInt_mul, ← Int64.ofInt_add]; exact ihh
theorem m_workL (hw : Wf G) (hp : Pc G m) (hv : VM G m) {y : Int32} : ∀ (d i fu : Nat), i + d = qJ G → d < fu → fX12_work_L22 y fu (Int64.ofInt (wkq G i)) (nI i) m = some (Int64.ofInt (wkq G (qJ G)), m) := by
  intro d
  have hJ := hw.1
  induction d with
  | zero =>
    intro c fu hc hf
    obtain ⟨f, rfl⟩ : ∃ f, fu = f + 1 := ⟨fu - 1, by omega⟩
    obtain rfl : c = qJ G := by omega
    rw [fX12_work_L22_s, hp.1, if_pos (nI_le (Nat.le_refl _) (by omega))]
  | succ d ih =>
    intro i fu hc hf
    obtain ⟨f, rfl⟩ : ∃ f, fu = f + 1 := ⟨fu - 1, by omega⟩
    have hci : (nI i).toNatClampNeg = i := nI_clamp (by omega)
    have c2 : ¬ (nI i < 0 ∨ 6 ≤ i) := inR' (by omega) (by decide)
    have ihh := ih (i + 1) f (by omega) (by omega)
    unfold wkq at ihh ⊢
    simp only [sumN] at ihh
    rw [fX12_work_L22_s]
    unfold fX12_work_J61
    simp only [hp.1, hci, if_neg (nI_ge (show i < qJ G by omega) (by omega)), if_pos c2, hp.2.2.1 i (show i < qJ G by omega), m_inOf hw hp hv (show i < 6 by omega), bnd, nI_1]
    cases hH : qH G i with
    | false =>
      have : bq G i = 0 := by unfold bq; rw [hH]; rfl
      rw [this, Int.zero_mul, Int.add_zero] at ihh
      rw [if_pos (by decide), Int64.add_zero]; exact ihh
    | true =>
      have hh := hw.2.2.2.1 i
      have : bq G i = (qh G i : Int) := by unfold bq; rw [hH]; rfl
      rw [this] at ihh
      rw [if_neg (by decide), hp.2.2.2.1 i (by omega) hH, oI _ (by omega), ← Int64.ofInt_mul, ← Int64.ofInt_add, Int.mul_comm]; exact ihh
theorem wk_swap (hw : Wf G) : ∀ k, k ≤ qN G → sumN (fun i => bq G i * inq G i k) (qJ G) = sumN (fun c => fl G c * (bq G (qa G c) - bq G (qb G c))) k := by
  intro k
  induction k with
  | zero =>
    intro _
    have : (fun i => bq G i * inq G i 0) = (fun _ => 0 * (0 : Int)) := by funext i; simp [inq, sumN]
    rw [this, sumN_mul]; simp [sumN]
  | succ k ih =>
    intro hk
    obtain ⟨ha, hb, -⟩ := hw.2.2.2.2 k (by omega)
    have e : (fun i => bq G i * inq G i (k + 1)) = (fun i => bq G i * inq G i k + ((if i = qa G k then bq G i * fl G k else 0) + (-1) * (if i = qb G k then bq G i * fl G k else 0))) := by
      funext i
      show bq G i * (inq G i k + ((if qa G k = i then fl G k else 0) - (if qb G k = i then fl G k else 0))) = _
      rw [Int.mul_add]
      congr 1
      rw [Int.mul_sub]
      have h1 : bq G i * (if qa G k = i then fl G k else 0) = (if i = qa G k then bq G i * fl G k else 0) := by
        by_cases z : qa G k = i
        · rw [if_pos z, if_pos z.symm]
        · rw [if_neg z, if_neg (fun y => z y.symm)]; simp
      have h2 : bq G i * (if qb G k = i then fl G k else 0) = (if i = qb G k then bq G i * fl G k else 0) := by
        by_cases z : qb G k = i
        · rw [if_pos z, if_pos z.symm]
        · rw [if_neg z, if_neg (fun y => z y.symm)]; simp
      rw [h1, h2]; omega
    rw [e, sumN_add, sumN_add, sumN_mul', sumN_if (f := fun i => bq G i * fl G k) ha, sumN_if (f := fun i => bq G i * fl G k) hb, ih (by omega)]
    simp only [sumN]
    rw [Int.mul_sub, Int.mul_comm (bq G (qa G k)), Int.mul_comm (bq G (qb G k))]; omega
theorem wk_63 (hw : Wf G) : -2 ^ 63 < wkq G (qJ G) ∧ wkq G (qJ G) < 2 ^ 63 := by
  have h63 := i63
  have e : wkq G (qJ G) = sumN (fun c => fl G c * (bq G (qa G c) - bq G (qb G c))) (qN G) := wk_swap hw (qN G) (Nat.le_refl _)
  rw [e]
  by_cases h5 : cn (bal G) = 5
  · have e : sumN (fun c => fl G c * (bq G (qa G c) - bq G (qb G c))) (qN G) = sumN (fun _ => 0 * (0 : Int)) (qN G) := sumN_congr fun c hc => by rw [fl_5 hw h5 hc]; simp
    rw [e, sumN_mul]; omega
  · obtain ⟨hLH, -⟩ := Lo_LH hw h5
    obtain ⟨b1, b2⟩ := wo_bnd hw (qN G) (Nat.le_refl _)
    omega
theorem op_work : ∀ (y1 : Int32), OpL (RelV Vq) (fun nc σ => fX11_work nc y1 σ) (fun σ => fX12_work y1 σ) := by
  intro y1 j nc x m hj hR
  obtain ⟨J, hJ, hC, hS, hK, hO, hW⟩ := id hR
  obtain ⟨G, hw, e1, e2, px, pm⟩ := rel_G hJ hC
  show ∃ (r : Int64) (σx' σm' : MS), fX11_work nc y1 x = some (r, σx') ∧ fX12_work y1 m = some (r, σm') ∧ RelV Vq (j + 1) nc σx' σm'
  rcases am01 y1 0 1 with ⟨h2, -⟩ | ⟨h2, -, -⟩
  · refine ⟨-9223372036854775808, x, m, ?_, ?_, hR.next⟩
    · unfold fX11_work; rw [x_isPart, h2]; rfl
    · unfold fX12_work; rw [h2]; rfl
  obtain ⟨x1, ex1, fx1, v1, w1⟩ := x_settle hw e2 px (by omega) hW
  obtain ⟨m1, em1, fm1, vm⟩ := m_findHeads hw pm
  obtain ⟨b1, b2⟩ := Lo_bnd hw
  obtain ⟨u1, u2⟩ := wk_63 hw
  obtain ⟨r, r1, r2⟩ := part_eq u1 u2 b1 b2 y1
  have hJ6 := hw.1
  refine ⟨r, x1, m1, ?_, ?_, rel_water hJ hC hS hK hO fx1 fm1 w1⟩
  · unfold fX11_work
    rw [x_isPart, h2]
    try rw [bnd_k]
    show bnd (fX8_workPart nc y1 x) _ = _
    unfold fX8_workPart
    rw [ex1]
    try rw [bnd_k]
    show bnd (bnd (fX8_workPart_L9 nc y1 FU 0 0 x1) _) _ = _
    rw [← e2, show (0 : Int64) = Int64.ofInt (wkq G 0) from rfl, show (0 : Int32) = nI 0 from rfl, x_workL hw (px.fr fx1).1 v1 (qJ G) 0 FU (by omega) (by show qJ G < 1000000; omega)]
    try rw [bnd_k]
    show bnd (bnd (fX11_partOf (Int64.ofInt (wkq G (qJ G))) (gL x1) y1) _) _ = _
    rw [v1.2.1, r1]; rfl
  · unfold fX12_work
    rw [h2]
    try rw [bnd_k]
    show bnd (fX12_findHeads m) _ = _
    rw [em1]
    try rw [bnd_k]
    show bnd (fX12_work_L22 y1 FU 0 0 m1) _ = _
    rw [show (0 : Int64) = Int64.ofInt (wkq G 0) from rfl, show (0 : Int32) = nI 0 from rfl, m_workL hw (pm.fm fm1) vm (qJ G) 0 FU (by omega) (by show qJ G < 1000000; omega)]
    try rw [bnd_k]
    show bnd (fX12_lowest (Int64.ofInt (wkq G (qJ G))) (gL m1) y1 m1) _ = _
    rw [vm.1, r2]; rfl
end WOPS
