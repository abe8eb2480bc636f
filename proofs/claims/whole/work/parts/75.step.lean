/-! eating -/
def eb (k u S : Nat) : Bool := decide (k < 3) || decide (S % u = 0)
def mst (k u w : Nat) : Nat := if k = 4 then max u w else 12
def wn (k u w n : Nat) : Nat := if k = 2 then w - min n w else w + min n (mst k u w - w)
def sn (k u w s a : Nat) : Nat := if (if k = 2 then wn k u w ((s + a) / 1000) = 0 else wn k u w ((s + a) / 1000) = mst k u w) then 0 else (s + a) % 1000
def meal (G : GD) (r c : Nat) : Nat := (fl G c).natAbs * r / (Lo G).toNat
section STEP
variable {G : GD} {s s' x x' x'' m m' : MS} {nc j J : Nat}
theorem x_eatsIn {c k u S : Nat} (hc : c < nc) (hk : k ≤ 4) (hu1 : 1 ≤ u) (hu : u ≤ 12) (hS : S < 2 ^ 31) (e7 : gA x 7 c = nI k) (e9 : gA x 9 c = nI u) : vX_eatsIn nc c (nI S) x = some (bv (eb k u S), x) := by
  have h3 : fX3_eatsIn nc c (nI S) x = some (bv (decide (S % u = 0)), x) := by
    unfold fX3_eatsIn
    rw [e9]
    simp only [if_pos hc, if_neg (nI_nle (show 0 < u by omega) (by omega)), if_pos (nI_ne0 (show 0 < u by omega) (by omega)), pk_rem hS (show 0 < u by omega) (show u < 2 ^ 31 by omega)]
    have hlt : S % u < 2 ^ 31 := by have := Nat.mod_lt S (show 0 < u by omega); omega
    by_cases h : S % u = 0
    · rw [h, if_neg (fun z => z rfl)]; rfl
    · rw [if_pos (nI_ne0 (by omega) hlt), decide_eq_false h]; rfl
  unfold vX_eatsIn
  rw [e7, h3]
  unfold fX2_eatsIn eb
  rcases (show k = 0 ∨ k = 1 ∨ k = 2 ∨ k = 3 ∨ k = 4 by omega) with rfl | rfl | rfl | rfl | rfl
  · rw [if_neg (by decide), if_neg (by decide), if_neg (by decide), if_neg (by decide)]; rfl
  · rw [if_pos (by decide)]; rfl
  · rw [if_neg (by decide), if_pos (by decide)]; rfl
  · rw [if_neg (by decide), if_neg (by decide), if_pos (by decide)]; rfl
  · rw [if_neg (by decide), if_neg (by decide), if_neg (by decide), if_pos (by decide)]; rfl
theorem m_eatsIn {c k u S : Nat} (hc : c < 12) (hk : k ≤ 4) (hu1 : 1 ≤ u) (hu : u ≤ 12) (hS : S < 2 ^ 31) (e7 : gA m 7 c = nI k) (e9 : gA m 9 c = nI u) : fX12_eatsIn (nI c) (nI S) m = some (bv (eb k u S), m) := by
  have hci : (nI c).toNatClampNeg = c := nI_clamp (by omega)
  have c2 : ¬ (nI c < 0 ∨ 12 ≤ c) := inR' hc (by decide)
  have hlt : S % u < 2 ^ 31 := by have := Nat.mod_lt S (show 0 < u by omega); omega
  unfold fX12_eatsIn eb
  simp only [hci, if_pos c2, e7, e9, if_pos (nI_ne0 (show 0 < u by omega) (show u < 2 ^ 31 by omega)), pk_rem hS (show 0 < u by omega) (show u < 2 ^ 31 by omega)]
  by_cases h3 : k < 3
  · rw [if_pos (show nI k < 3 from nI_lt (b := 3) h3 (by decide)), decide_eq_true h3]; rfl
  · rw [if_neg (show ¬ nI k < 3 from nI_nlt (b := 3) (by omega) (by omega)), decide_eq_false h3]
    by_cases h : S % u = 0
    · rw [h, if_neg (fun z => z rfl)]; rfl
    · rw [if_pos (nI_ne0 (by omega) hlt), decide_eq_false h]; rfl
theorem meal_val (hw : Wf G) {c r : Nat} (hc : c < qN G) (hr : r ≤ 100) : lN (fl G c).natAbs * (nI r).toInt64 / Int64.ofInt (Lo G) = lN (meal G r c) ∧ (fl G c).natAbs * r ≤ 8000000000000000000 := by
  obtain ⟨u1, u2⟩ := fl_63 hw hc
  obtain ⟨b1, b2⟩ := Lo_bnd hw
  have hf : (fl G c).natAbs ≤ 80000000000000000 := by omega
  have hm : (fl G c).natAbs * r ≤ 80000000000000000 * 100 := Nat.mul_le_mul hf hr
  obtain ⟨v, hv⟩ := Int.eq_ofNat_of_zero_le (show 0 ≤ Lo G by omega)
  have hv63 : v < 2 ^ 63 := by omega
  refine ⟨?_, hm⟩
  unfold meal
  rw [hv, nI_l (by omega), lN_mul, show Int64.ofInt ((v : Nat) : Int) = lN v from rfl, pk_lDiv (by omega) (by omega) hv63]; rfl
theorem meal_le (hw : Wf G) {c r : Nat} (hc : c < qN G) (hr : r ≤ 100) : meal G r c ≤ 8000000000000000000 := Nat.le_trans (Nat.div_le_self _ _) (meal_val hw hc hr).2
theorem x_amount (hw : Wf G) (hn : qN G = nc) (hp : PX G x) {B : Nat} (hs : ∃ x', fX8_settle nc x = some ((), x') ∧ FrX x x' ∧ Vals G x') {c r : Nat} (hc : c < nc) (hr : r ≤ 100) : ∃ x', fX8_settle nc x = some ((), x') ∧ fX8_amount nc (nI c) (nI r) x = some (lN (meal G r c), x') := by
  obtain ⟨x', e, fr, v⟩ := hs
  refine ⟨x', e, ?_⟩
  subst hn
  obtain ⟨b1, b2⟩ := Lo_bnd hw
  obtain ⟨u1, u2⟩ := fl_63 hw hc
  have h12 := hw.2.1
  have h63 := i63
  have hci : (nI c).toNatClampNeg = c := nI_clamp (by omega)
  have c2 : ¬ (nI c < 0 ∨ 12 ≤ c) := inR' (by omega) (by decide)
  have hL : (Int64.ofInt (Lo G)).toInt = Lo G := Int64.toInt_ofInt_of_le (by omega) b2
  have h0 : (0 : Int64).toInt = 0 := rfl
  unfold fX8_amount
  rw [e]
  show (if lg_cmp (gL x') 0 ≤ 0 then _ else _) = _
  rw [v.2.1, if_neg (by rw [lg_cmp_le, Int64.le_iff_toInt_le, hL, h0]; omega), hci, if_pos c2, if_pos (fun z => by rw [z, h0] at hL; omega), v.2.2.2 c hc]
  show some ((if 0 < Int64.ofInt (fl G c) then Int64.ofInt (fl G c) else -Int64.ofInt (fl G c)) * (nI r).toInt64 / Int64.ofInt (Lo G), x') = _
  rw [abs_x (by omega) (by omega), (meal_val hw hc hr).1]
theorem m_eaten (hw : Wf G) (hp : Pc G m) (hv : VM G m) {c r : Nat} (hc : c < qN G) (hr : r ≤ 100) (e11 : gI m 11 = nI r) : fX12_eaten (nI c) m = some (lN (meal G r c), m) := by
  obtain ⟨b1, b2⟩ := Lo_bnd hw
  obtain ⟨u1, u2⟩ := fl_63 hw hc
  have h63 := i63
  have hL : (Int64.ofInt (Lo G)).toInt = Lo G := Int64.toInt_ofInt_of_le (by omega) b2
  have h0 : (0 : Int64).toInt = 0 := rfl
  have key : fX12_eaten_J18 (lN (fl G c).natAbs) m = some (lN (meal G r c), m) := by
    unfold fX12_eaten_J18
    rw [hv.1, e11, if_pos (fun z => by rw [z, h0] at hL; omega), (meal_val hw hc hr).1]
  unfold fX12_eaten
  rw [m_flowOf hw hp hv hc]
  show (if 0 ≤ lg_cmp (Int64.ofInt (fl G c)) 0 then fX12_eaten_J18 (Int64.ofInt (fl G c)) m else fX12_eaten_J18 (-Int64.ofInt (fl G c)) m) = _
  have ab := abs_m (U := fl G c) (by omega) (by omega)
  by_cases h : 0 ≤ lg_cmp (Int64.ofInt (fl G c)) 0
  · rw [if_pos h, ab.1 h]; exact key
  · rw [if_neg h, ab.2 h]; exact key
theorem op_eats : ∀ (y1 : Int32), OpL (RelV Vq) (fun nc σ => fX11_eats nc y1 σ) (fun σ => fX12_eats y1 σ) := by
  intro y1 j nc x m hj hR
  obtain ⟨J, hJ, hC, hS, hK, hO, hW⟩ := id hR
  obtain ⟨G, hw, e1, e2, px, pm⟩ := rel_G hJ hC
  obtain ⟨h12, hx4, hm4, hcr⟩ := id hC
  obtain ⟨⟨r, r1, r2, rx, rm⟩, ⟨S, hS1, sx, sm⟩, -, -⟩ := id hS
  show ∃ (r : Int64) (σx' σm' : MS), fX11_eats nc y1 x = some (r, σx') ∧ fX12_eats y1 m = some (r, σm') ∧ RelV Vq (j + 1) nc σx' σm'
  rcases ixc y1 (n := nc) (by omega) with ho | ⟨c, hc, rfl⟩
  · refine ⟨-9223372036854775808, x, m, ?_, ?_, hR.next⟩
    · unfold fX11_eats; rw [x_hasCrack_out hx4 ho]; rfl
    · unfold fX12_eats; rw [m_noCrack_out hm4 (by omega) ho]; rfl
  obtain ⟨⟨e5, e6, e7, e8, e9, e10⟩, a, b, k, w, u, s, q1, q2, q3, q4, q5, q6, q7, q8, z5, z6, z7, z8, z9, z10⟩ := hcr c hc
  have hci : (nI c).toNatClampNeg = c := nI_clamp (by omega)
  have c2 : ¬ (nI c < 0 ∨ 12 ≤ c) := inR' (by omega) (by decide)
  obtain ⟨x1, ex1, fx1, v1, w1⟩ := x_settle hw e2 px (by omega) hW
  obtain ⟨m1, em1, fm1, vm⟩ := m_findHeads hw pm
  have xe := x_eatsIn (nc := nc) (x := x) hc q4 q6 q7 (S := S + 1) (by omega) (e7.trans z7) (e9.trans z9)
  have me := m_eatsIn (m := m1) (c := c) (by omega) q4 q6 q7 (S := S + 1) (by omega) ((congrFun (fm1.2.1 7 (by decide) (by decide) (by decide) (by decide) (by decide)) c).trans z7) ((congrFun (fm1.2.1 9 (by decide) (by decide) (by decide) (by decide) (by decide)) c).trans z9)
  have hX : fX11_eats nc (nI c) x = bnd (fX11_mealIn nc (nI c) (nI (S + 1)) x) (fun r5 s6 => some (r5, s6)) := by
    unfold fX11_eats
    rw [x_hasCrack_in hx4 (by omega) hc]
    try rw [bnd_k]
    show bnd (fX11_mealIn nc (nI c) (gI x 12 + 1) x) _ = _
    rw [sx, nI_1]
  have hX2 : fX11_mealIn nc (nI c) (nI (S + 1)) x = if bv (eb k u (S + 1)) = 0 then some (0, x) else bnd (fX8_amount nc (nI c) (gI x 11) x) (fun r9 s10 => some (r9, s10)) := by
    unfold fX11_mealIn
    simp only [hci, if_pos c2, if_pos hc, xe, bnd]
  have hM : fX12_eats (nI c) m = if bv (eb k u (S + 1)) = 0 then some (0, m1) else bnd (fX12_eaten (nI c) m1) (fun r12 s13 => some (r12, s13)) := by
    unfold fX12_eats
    rw [m_noCrack_in hm4 (by omega) hc]
    try rw [bnd_k]
    show bnd (fX12_findHeads m) _ = _
    rw [em1]
    try rw [bnd_k]
    show bnd (fX12_eatsIn (nI c) (gI m1 12 + 1) m1) _ = _
    rw [fm1.1 12 (by decide), sm, nI_1, me]; rfl
  cases he : eb k u (S + 1) with
  | false =>
    rw [he] at hX2 hM
    rw [if_pos bv0] at hX2 hM
    exact ⟨0, x, m1, by rw [hX, hX2]; rfl, hM, rel_water hJ hC hS hK hO FrX.rfl' fm1 hW⟩
  | true =>
    rw [he] at hX2 hM
    rw [if_neg (by decide)] at hX2 hM
    obtain ⟨x2, ex2, ea⟩ := x_amount hw e2 px (B := 0) ⟨x1, ex1, fx1, v1⟩ hc r2
    have hxx : x2 = x1 := by rw [ex1] at ex2; exact (congrArg Prod.snd (Option.some.inj ex2)).symm
    subst hxx
    refine ⟨lN (meal G r c), x2, m1, ?_, ?_, rel_water hJ hC hS hK hO fx1 fm1 w1⟩
    · rw [hX, hX2, rx, ea]; rfl
    · rw [hM, m_eaten hw (pm.fm fm1) vm (by omega) r2 ((fm1.1 11 (by decide)).trans rm)]; rfl
theorem wn_le {k u w n : Nat} (hw : w ≤ 12) (hu : u ≤ 12) : wn k u w n ≤ 12 := by
  unfold wn mst
  by_cases h2 : k = 2
  · rw [if_pos h2]; omega
  · rw [if_neg h2]
    by_cases h4 : k = 4
    · rw [if_pos h4]; omega
    · rw [if_neg h4]; omega
theorem sn_le {k u w s a : Nat} : sn k u w s a ≤ 999 := by
  unfold sn
  have := Nat.mod_lt (s + a) (show 0 < 1000 by decide)
  by_cases h : (if k = 2 then wn k u w ((s + a) / 1000) = 0 else wn k u w ((s + a) / 1000) = mst k u w)
  · rw [if_pos h]; omega
  · rw [if_neg h]; omega
theorem l1000 : (1000 : Int64) = lN 1000 := rfl
theorem x_room {c k u w : Nat} (hc : c < nc) (hk : k ≤ 4) (hu : u ≤ 12) (hww : w ≤ 12) (e7 : gA x 7 c = nI k) (e8 : gA x 8 c = nI w) (e9 : gA x 9 c = nI u) : vX_room nc c x = some (nI (if k = 2 then w else mst k u w - w), x) := by
  have r7 : fX7_room nc c x = some (nI (max u w - w), x) := by
    unfold fX7_room
    rw [e8, e9]
    simp only [if_pos hc]
    by_cases h : w < u
    · rw [pk_sub (by omega), if_pos (show (0 : Int32) < nI (u - w) from nI_lt (a := 0) (by omega) (by omega)), show max u w - w = u - w by omega]
    · have e : ¬ (0 : Int32) < nI u - nI w := by
        have h1 := pk_sub_toInt (a := u) (b := w) (by omega) (by omega)
        rw [Int32.lt_iff_toInt_lt, h1]
        show ¬ (0 : Int) < _
        omega
      rw [if_neg e, show max u w - w = 0 by omega]; rfl
  unfold vX_room fX2_room fX0_room mst
  rw [e7, r7, e8]
  simp only [if_pos hc]
  have h12 : (12 : Int32) - nI w = nI (12 - w) := pk_sub (a := 12) hww
  rcases (show k = 0 ∨ k = 1 ∨ k = 2 ∨ k = 3 ∨ k = 4 by omega) with rfl | rfl | rfl | rfl | rfl
  · rw [if_neg (by decide), if_neg (by decide), if_neg (by decide), if_neg (by decide), h12]; rfl
  · rw [if_pos (by decide), h12]; rfl
  · rw [if_neg (by decide), if_pos (by decide)]; rfl
  · rw [if_neg (by decide), if_neg (by decide), if_pos (by decide), h12]; rfl
  · rw [if_neg (by decide), if_neg (by decide), if_neg (by decide), if_pos (by decide)]; rfl
theorem x_takeIn {c k u w s a : Nat} (hc : c < nc) (hk : k ≤ 4) (hu : u ≤ 12) (hww : w ≤ 12) (hs : s ≤ 999) (ha : a ≤ 8000000000000000000) (e7 : gA x 7 c = nI k) (e8 : gA x 8 c = nI w) (e9 : gA x 9 c = nI u) (e10 : gA x 10 c = nI s) : fX2_takeIn nc c (lN a) x = some (bv (decide (wn k u w ((s + a) / 1000) ≠ w)), sA (sA x 8 c (nI (wn k u w ((s + a) / 1000)))) 10 c (nI (sn k u w s a))) := by
  have hall : (nI s).toInt64 + lN a = lN (s + a) := by rw [nI_l (by omega), lN_add]
  have hdiv : lN (s + a) / 1000 = lN ((s + a) / 1000) := by rw [l1000]; exact pk_lDiv (by omega) (by decide) (by decide)
  have hrem : lN (s + a) - lN ((s + a) / 1000) * 1000 = lN ((s + a) % 1000) := by
    have := pk_lRem (a := s + a) (b := 1000) (by omega) (by decide) (by decide)
    rw [pk_lDiv (by omega) (by decide) (by decide)] at this
    rw [l1000]; exact this
  have hn63 : (s + a) / 1000 < 2 ^ 63 := by omega
  have r1 := x_room (nc := nc) (x := x) hc hk hu hww e7 e8 e9
  generalize hR : (if k = 2 then w else mst k u w - w) = R at r1
  have hR12 : R ≤ 12 := by
    subst hR; unfold mst
    by_cases h2 : k = 2
    · rw [if_pos h2]; omega
    · rw [if_neg h2]
      by_cases h4 : k = 4
      · rw [if_pos h4]; omega
      · rw [if_neg h4]; omega
  generalize hN : (s + a) / 1000 = N at *
  have hmin : (if (nI R).toInt64 < lN N then (nI R).toInt64 else lN N).toInt32 = nI (min N R) := by
    rw [nI_l (by omega)]
    by_cases h : R < N
    · rw [if_pos ((pk_lLT (by omega) hn63).mpr h), lN_i, show min N R = R by omega]
    · rw [if_neg (fun z => h ((pk_lLT (by omega) hn63).mp z)), lN_i, show min N R = N by omega]
  have hwn : wn k u w N = if k = 2 then w - min N R else w + min N R := by
    unfold wn; subst hR
    by_cases h2 : k = 2
    · rw [if_pos h2, if_pos h2, if_pos h2]
    · rw [if_neg h2, if_neg h2, if_neg h2]
  have hwa : vX_widthAfter nc c (nI (min N R)) x = some (nI (wn k u w N), x) := by
    unfold vX_widthAfter fX2_widthAfter fX0_widthAfter
    rw [e7, e8, hwn]
    simp only [if_pos hc]
    rcases (show k = 0 ∨ k = 1 ∨ k = 2 ∨ k = 3 ∨ k = 4 by omega) with rfl | rfl | rfl | rfl | rfl
    · rw [if_neg (by decide), if_neg (by decide), if_neg (by decide), if_neg (by decide), nI_add]; rfl
    · rw [if_pos (by decide), nI_add]; rfl
    · have : R = w := by rw [← hR]; rfl
      rw [if_neg (by decide), if_pos (by decide), pk_sub (by omega)]; rfl
    · rw [if_neg (by decide), if_neg (by decide), if_pos (by decide), nI_add]; rfl
    · rw [if_neg (by decide), if_neg (by decide), if_neg (by decide), if_pos (by decide), nI_add]; rfl
  have hwn12 : wn k u w N ≤ 12 := wn_le hww hu
  have r2 := x_room (nc := nc) (x := sA x 8 c (nI (wn k u w N))) (c := c) (k := k) (u := u) (w := wn k u w N) hc hk hu hwn12 (by rw [gA_ne (by decide)]; exact e7) (by rw [gA_eq, upd_s]) (by rw [gA_ne (by decide)]; exact e9)
  have hroom : (if k = 2 then wn k u w N else mst k u (wn k u w N) - wn k u w N) = 0 ↔ (if k = 2 then wn k u w N = 0 else wn k u w N = mst k u w) := by
    by_cases h2 : k = 2
    · rw [if_pos h2, if_pos h2]
    · rw [if_neg h2, if_neg h2, hwn, if_neg h2]
      subst hR
      rw [if_neg h2]
      unfold mst
      by_cases h4 : k = 4
      · rw [if_pos h4, if_pos h4]; omega
      · rw [if_neg h4, if_neg h4]; omega
  have hroom12 : (if k = 2 then wn k u w N else mst k u (wn k u w N) - wn k u w N) < 2 ^ 31 := by
    unfold mst
    by_cases h2 : k = 2
    · rw [if_pos h2]; omega
    · rw [if_neg h2]
      by_cases h4 : k = 4
      · rw [if_pos h4]; omega
      · rw [if_neg h4]; omega
  have hflag : min N R ≤ 0 ↔ wn k u w N = w := by
    rw [hwn]
    by_cases h2 : k = 2
    · have : R = w := by rw [← hR, if_pos h2]
      rw [if_pos h2]; omega
    · rw [if_neg h2]; omega
  have fin : ∀ t, fX2_takeIn_J52 nc c (nI (min N R)) (nI t) (sA x 8 c (nI (wn k u w N))) = some (bv (decide (wn k u w N ≠ w)), sA (sA x 8 c (nI (wn k u w N))) 10 c (nI t)) := by
    intro t
    unfold fX2_takeIn_J52
    rw [if_pos hc]
    show (if nI (min N R) ≤ 0 then _ else _) = _
    by_cases h : wn k u w N = w
    · rw [if_pos (show nI (min N R) ≤ 0 from nI_le (b := 0) (hflag.mpr h) (by decide)), decide_eq_false (fun z => z h)]; rfl
    · rw [if_neg (nI_nle (Nat.pos_of_ne_zero (fun z => h (hflag.mp (Nat.le_of_eq z)))) (by omega)), decide_eq_true h]; rfl
  unfold fX2_takeIn
  simp only [if_pos hc, r1, bnd, e10, hall, hdiv, hmin, hwa, lets, r2, hrem, lN_i]
  unfold sn
  rw [hN]
  by_cases h : (if k = 2 then wn k u w N = 0 else wn k u w N = mst k u w)
  · rw [if_neg (fun z => z (by rw [hroom.mpr h]; rfl)), if_pos h]
    exact fin 0
  · rw [if_pos (nI_ne0 (Nat.pos_of_ne_zero (fun z => h (hroom.mp z))) hroom12), if_neg h]
    exact fin _
theorem m_changes {c k u w s a : Nat} (hc : c < 12) (hk : k ≤ 4) (hu : u ≤ 12) (hww : w ≤ 12) (hs : s ≤ 999) (ha : a ≤ 8000000000000000000) (e7 : gA m 7 c = nI k) (e8 : gA m 8 c = nI w) (e9 : gA m 9 c = nI u) (e10 : gA m 10 c = nI s) : fX12_changes (nI c) (lN a) m = some (bv (decide (wn k u w ((s + a) / 1000) ≠ w)), sA (sA m 8 c (nI (wn k u w ((s + a) / 1000)))) 10 c (nI (sn k u w s a))) := by
  have hci : (nI c).toNatClampNeg = c := nI_clamp (by omega)
  have c2 : ¬ (nI c < 0 ∨ 12 ≤ c) := inR' hc (by decide)
  have hall : (nI s).toInt64 + lN a = lN (s + a) := by rw [nI_l (by omega), lN_add]
  have hdiv : lN (s + a) / 1000 = lN ((s + a) / 1000) := by rw [l1000]; exact pk_lDiv (by omega) (by decide) (by decide)
  have hrem : lN (s + a) - lN (s + a) / 1000 * 1000 = lN ((s + a) % 1000) := by
    rw [l1000]; exact pk_lRem (a := s + a) (b := 1000) (by omega) (by decide) (by decide)
  have hn63 : (s + a) / 1000 < 2 ^ 63 := by omega
  have hM12 : w ≤ mst k u w ∧ mst k u w ≤ 12 := by
    unfold mst
    by_cases h4 : k = 4
    · rw [if_pos h4]; omega
    · rw [if_neg h4]; omega
  have first : fX12_changes (nI c) (lN a) m = fX12_changes_J45 (nI c) (lN a) (nI w) (nI (mst k u w)) m := by
    unfold fX12_changes
    simp only [hci, if_pos c2, e7, e8, e9]
    unfold mst
    by_cases h4 : k = 4
    · rw [if_neg (show ¬ ¬ nI k = 4 from fun z => z (by rw [h4]; rfl)), if_pos h4]
      by_cases h : u ≤ w
      · rw [if_pos (nI_le h (by omega)), show max u w = w by omega]
      · rw [if_neg (nI_ge (by omega) (by omega)), show max u w = u by omega]
    · rw [if_pos (show ¬ nI k = 4 from fun z => h4 ((nI_eq (b := 4) (by omega) (by decide)).mp z)), if_neg h4]; rfl
  have fin : ∀ t : Nat, fX12_changes_J199 (nI c) (nI w) (nI t) (nI c) (sA m 8 c (nI (wn k u w ((s + a) / 1000)))) = some (bv (decide (wn k u w ((s + a) / 1000) ≠ w)), sA (sA m 8 c (nI (wn k u w ((s + a) / 1000)))) 10 c (nI t)) := by
    intro t
    have h1 : gA (sA (sA m 8 c (nI (wn k u w ((s + a) / 1000)))) 10 c (nI t)) 8 c = nI (wn k u w ((s + a) / 1000)) := by rw [gA_ne (by decide), gA_eq, upd_s]
    have h2 := wn_le (k := k) (n := (s + a) / 1000) hww hu
    unfold fX12_changes_J199
    simp only [hci, if_pos c2, lets, h1]
    by_cases h : wn k u w ((s + a) / 1000) = w
    · rw [if_pos (by rw [h]), decide_eq_false (fun z => z h)]; rfl
    · rw [if_neg (fun z => h ((nI_eq (by omega) (by omega)).mp z)), decide_eq_true h]; rfl
  have second : fX12_changes_J133 (nI c) (nI w) (nI (mst k u w)) (lN (s + a)) (sA m 8 c (nI (wn k u w ((s + a) / 1000)))) = some (bv (decide (wn k u w ((s + a) / 1000) ≠ w)), sA (sA m 8 c (nI (wn k u w ((s + a) / 1000)))) 10 c (nI (sn k u w s a))) := by
    have h1 : gA (sA m 8 c (nI (wn k u w ((s + a) / 1000)))) 8 c = nI (wn k u w ((s + a) / 1000)) := by rw [gA_eq, upd_s]
    have h7 : gA (sA m 8 c (nI (wn k u w ((s + a) / 1000)))) 7 c = nI k := by rw [gA_ne (by decide)]; exact e7
    have h2 := wn_le (k := k) (n := (s + a) / 1000) hww hu
    have s0 : (if k = 2 then wn k u w ((s + a) / 1000) = 0 else wn k u w ((s + a) / 1000) = mst k u w) → sn k u w s a = 0 := fun z => by unfold sn; rw [if_pos z]
    have s1 : ¬ (if k = 2 then wn k u w ((s + a) / 1000) = 0 else wn k u w ((s + a) / 1000) = mst k u w) → sn k u w s a = (s + a) % 1000 := fun z => by unfold sn; rw [if_neg z]
    have j176 : ∀ f : Int32, fX12_changes_J176 (nI c) (nI w) (lN (s + a)) f (sA m 8 c (nI (wn k u w ((s + a) / 1000)))) = if f = 0 then fX12_changes_J199 (nI c) (nI w) (nI ((s + a) % 1000)) (nI c) (sA m 8 c (nI (wn k u w ((s + a) / 1000)))) else fX12_changes_J199 (nI c) (nI w) 0 (nI c) (sA m 8 c (nI (wn k u w ((s + a) / 1000)))) := by
      intro f; unfold fX12_changes_J176; rw [hrem, lN_i]
    unfold fX12_changes_J133
    simp only [hci, if_pos c2, h1, h7]
    by_cases hk2 : k = 2
    · rw [if_neg (show ¬ ¬ nI k = 2 from fun z => z (by rw [hk2]; rfl))]
      by_cases h : wn k u w ((s + a) / 1000) = 0
      · rw [if_neg (show ¬ ¬ nI (wn k u w ((s + a) / 1000)) = 0 from fun z => z (by rw [h]; rfl)), j176, if_neg (by decide), s0 (by rw [if_pos hk2]; exact h)]; exact fin 0
      · rw [if_pos (nI_ne0 (by omega) (by omega)), j176, if_pos rfl, s1 (by rw [if_pos hk2]; exact h)]; exact fin _
    · rw [if_pos (show ¬ nI k = 2 from fun z => hk2 ((nI_eq (b := 2) (by omega) (by decide)).mp z))]
      by_cases h : wn k u w ((s + a) / 1000) = mst k u w
      · rw [if_neg (show ¬ ¬ nI (wn k u w ((s + a) / 1000)) = nI (mst k u w) from fun z => z (by rw [h])), j176, if_neg (by decide), s0 (by rw [if_neg hk2]; exact h)]; exact fin 0
      · rw [if_pos (show ¬ nI (wn k u w ((s + a) / 1000)) = nI (mst k u w) from fun z => h ((nI_eq (by omega) (by omega)).mp z)), j176, if_pos rfl, s1 (by rw [if_neg hk2]; exact h)]; exact fin _
  rw [first]
  unfold fX12_changes_J45 fX12_changes_J132 fX12_changes_J100
  simp only [hci, if_pos c2, e7, e10, hall, hdiv, lN_i, lets]
  by_cases hk2 : k = 2
  · have cc : lg_cmp (lN ((s + a) / 1000)) (nI w).toInt64 < 0 ↔ (s + a) / 1000 < w := by rw [lg_cmp_lt, nI_l (by omega), pk_lLT hn63 (by omega)]
    rw [if_neg (show ¬ ¬ nI k = 2 from fun z => z (by rw [hk2]; rfl))]
    have hwn : wn k u w ((s + a) / 1000) = w - min ((s + a) / 1000) w := by unfold wn; rw [if_pos hk2]
    by_cases h : (s + a) / 1000 < w
    · rw [if_pos (cc.mpr h), pk_sub (by omega), show w - (s + a) / 1000 = wn k u w ((s + a) / 1000) by omega]; exact second
    · rw [if_neg (fun z => h (cc.mp z)), show (0 : Int32) = nI (wn k u w ((s + a) / 1000)) by rw [show wn k u w ((s + a) / 1000) = 0 by omega]; rfl]; exact second
  · have cc : lg_cmp (lN ((s + a) / 1000)) (nI (mst k u w) - nI w).toInt64 < 0 ↔ (s + a) / 1000 < mst k u w - w := by rw [lg_cmp_lt, pk_sub hM12.1, nI_l (by omega), pk_lLT hn63 (by omega)]
    rw [if_pos (show ¬ nI k = 2 from fun z => hk2 ((nI_eq (b := 2) (by omega) (by decide)).mp z))]
    have hwn : wn k u w ((s + a) / 1000) = w + min ((s + a) / 1000) (mst k u w - w) := by unfold wn; rw [if_neg hk2]
    by_cases h : (s + a) / 1000 < mst k u w - w
    · rw [if_pos (cc.mpr h), nI_add, show w + (s + a) / 1000 = wn k u w ((s + a) / 1000) by omega]; exact second
    · rw [if_neg (fun z => h (cc.mp z))]
      rw [show wn k u w ((s + a) / 1000) = mst k u w by omega] at second ⊢
      exact second
end STEP
