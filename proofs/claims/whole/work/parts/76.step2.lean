/-! a step -/
section STEP2
variable {G : GD} {s s' x x' x'' y m m' : MS} {nc j J B : Nat}
def RSB (B : Nat) (x m : MS) : Prop := (∃ r : Nat, 1 ≤ r ∧ r ≤ 100 ∧ gI x 11 = nI r ∧ gI m 11 = nI r) ∧ (∃ s : Nat, s ≤ B ∧ gI x 12 = nI s ∧ gI m 12 = nI s) ∧ gI x 0 = gI m 0 ∧ gI x 38 = gI m 38
def RelB (j B nc : Nat) (x m : MS) : Prop := ∃ J : Nat, RJ J x m ∧ RC J nc x m ∧ RSB B x m ∧ RK j nc x m ∧ RO x m ∧ RWB (Vq nc) B x
theorem RelB.of (h : RelV Vq j nc x m) : RelB j (256 * j) nc x m := h
theorem RelB.to (h : RelB j B nc x m) (hB : B ≤ 256 * (j + 1)) : RelV Vq (j + 1) nc x m := by
  obtain ⟨J, a, b, ⟨c1, ⟨s, c2, c3⟩, c4⟩, d, e, ⟨c, f1, f2⟩⟩ := h
  exact ⟨J, a, b, ⟨c1, ⟨s, by omega, c3⟩, c4⟩, d.next, e, ⟨c, by omega, f2⟩⟩
/-- what looking at the water, and meals, leave as it was -/
def FrY (x y : MS) : Prop := (∀ k, k ≠ 51 → k ≠ 52 → k ≠ 53 → gI y k = gI x k) ∧ (∀ a, gA y a = gA x a) ∧ ∀ a, (a < 68 ∧ a ≠ 22 ∨ 70 < a ∧ a < 100 ∨ 106 ≤ a) → gB y a = gB x a
theorem FrY.trans {x y z : MS} (h : FrY x y) (h' : FrY y z) : FrY x z := ⟨fun k a b c => (h'.1 k a b c).trans (h.1 k a b c), fun a => (h'.2.1 a).trans (h.2.1 a), fun a ha => (h'.2.2 a ha).trans (h.2.2 a ha)⟩
theorem FrY.ofX (h : FrX x y) : FrY x y := ⟨h.1, h.2.1, fun a ha => h.2.2 a (by omega)⟩
theorem FrY.put {i : Nat} {v : Int64} : FrY x (sB x 22 i v) := ⟨fun _ _ _ _ => rfl, fun _ => rfl, fun a ha => gB_ne (by omega)⟩
theorem PX.fy (hp : PX G x) (h : FrY x y) : PX G y := ⟨hp.1.frame (h.1 1 (by decide) (by decide) (by decide)) (h.1 4 (by decide) (by decide) (by decide)) (fun a _ => h.2.1 a), fun j hj => by rw [h.2.1]; exact hp.2 j hj⟩
theorem RWB.keep {V : Nat → MS → Prop} (hV : KeepsW V) (h : RWB (V nc) B x) (hs : SameW x x') (h1 : gI x' 50 = gI x 50) (h2 : gI x' 53 = gI x 53) : RWB (V nc) B x' := by
  obtain ⟨c, hc, e, r⟩ := h
  refine ⟨c, hc, by rw [h1]; exact e, ?_⟩
  rw [h2]
  exact r.imp id fun ⟨d, a, b, z⟩ => ⟨d, a, b, fun h => hV nc x x' hs (z h)⟩
theorem RWB.up {V : MS → Prop} {B' : Nat} (h : RWB V B x) (hB : B ≤ B') : RWB V B' x := h.imp fun _ z => ⟨by omega, z.2⟩
theorem RWB.step {V V' : MS → Prop} (h : RWB V B x) (h1 : gI x' 50 = gI x 50 + 1) (h2 : gI x' 53 = gI x 53) : RWB V' (B + 1) x' := by
  obtain ⟨c, hc, e, r⟩ := h
  refine ⟨c + 1, by omega, by rw [h1, e]; exact nI_1 c, ?_⟩
  rw [h2]
  rcases r with r | ⟨d, hd, ed, -⟩
  · exact Or.inl r
  · exact Or.inr ⟨d, by omega, ed, fun h => absurd h (by omega)⟩
/-- numbers and stores of cracks -/
def NS (G : GD) (uq sq : Nat → Nat) (s : MS) : Prop := ∀ c, c < qN G → gA s 9 c = nI (uq c) ∧ gA s 10 c = nI (sq c) ∧ 1 ≤ uq c ∧ uq c ≤ 12 ∧ sq c ≤ 999
def mealE (G : GD) (uq : Nat → Nat) (r S c : Nat) : Nat := if eb (qk G c) (uq c) S then meal G r c else 0
theorem x_mealL (hw : Wf G) {uq sq : Nat → Nat} {r S : Nat} (hr : r ≤ 100) (hS : S < 2 ^ 31) (hB : B < 2 ^ 30) : ∀ (d i fu : Nat) (y : MS), i + d = qN G → d < fu → PX G y → NS G uq sq y → gI y 11 = nI r → RWB (Vq (qN G)) B y → (∀ c, c < i → gB y 22 c = lN (mealE G uq r S c)) → ∃ y', fX11_oneStep_L12 (qN G) (nI S) fu (nI i) y = some ((), y') ∧ FrY y y' ∧ RWB (Vq (qN G)) B y' ∧ ∀ c, c < qN G → gB y' 22 c = lN (mealE G uq r S c) := by
  intro d
  have h12 := hw.2.1
  induction d with
  | zero =>
    intro i fu y hi hf hp hN h11 hW hM
    obtain ⟨f, rfl⟩ : ∃ f, fu = f + 1 := ⟨fu - 1, by omega⟩
    obtain rfl : i = qN G := by omega
    exact ⟨y, by rw [fX11_oneStep_L12_s, hp.1.2.1, if_pos (nI_le (Nat.le_refl _) (by omega))], ⟨fun _ _ _ _ => rfl, fun _ => rfl, fun _ _ => rfl⟩, hW, hM⟩
  | succ d ih =>
    intro i fu y hi hf hp hN h11 hW hM
    obtain ⟨f, rfl⟩ : ∃ f, fu = f + 1 := ⟨fu - 1, by omega⟩
    have c3 : i < qN G := by omega
    have hci : (nI i).toNatClampNeg = i := nI_clamp (by omega)
    have c2 : ¬ (nI i < 0 ∨ 12 ≤ i) := inR' (by omega) (by decide)
    obtain ⟨n9, n10, u1, u2, s1⟩ := hN i c3
    obtain ⟨-, -, -, hk, -⟩ := hw.2.2.2.2 i c3
    have xe := x_eatsIn (nc := qN G) (x := y) c3 hk u1 u2 hS (hp.1.2.2.2.2 i c3).2.2.1 n9
    have hme : ∃ y1, fX11_mealIn (qN G) (nI i) (nI S) y = some (lN (mealE G uq r S i), y1) ∧ FrY y y1 ∧ gB y1 22 = gB y 22 ∧ RWB (Vq (qN G)) B y1 := by
      have hX2 : fX11_mealIn (qN G) (nI i) (nI S) y = if bv (eb (qk G i) (uq i) S) = 0 then some (0, y) else bnd (fX8_amount (qN G) (nI i) (gI y 11) y) (fun r9 s10 => some (r9, s10)) := by
        unfold fX11_mealIn
        simp only [hci, if_pos c2, if_pos c3, xe, bnd]
      cases he : eb (qk G i) (uq i) S with
      | false =>
        rw [he, if_pos bv0] at hX2
        refine ⟨y, ?_, ⟨fun _ _ _ _ => rfl, fun _ => rfl, fun _ _ => rfl⟩, rfl, hW⟩
        rw [hX2]; unfold mealE; rw [he]; rfl
      | true =>
        obtain ⟨y1, ey1, fy1, v1, w1⟩ := x_settleB hw rfl hp hB hW
        obtain ⟨y2, ey2, ea⟩ := x_amount hw rfl hp (B := 0) ⟨y1, ey1, fy1, v1⟩ c3 hr
        have hxx : y2 = y1 := by rw [ey1] at ey2; exact (congrArg Prod.snd (Option.some.inj ey2)).symm
        subst hxx
        rw [he, if_neg (by decide)] at hX2
        refine ⟨y2, ?_, FrY.ofX fy1, fy1.2.2 22 (by omega), w1⟩
        rw [hX2, h11, ea]; unfold mealE; rw [he]; rfl
    obtain ⟨y1, e1, f1, g1, w1⟩ := hme
    have hN1 : NS G uq sq (sB y1 22 i (lN (mealE G uq r S i))) := fun c hc => by
      show gA y1 9 c = _ ∧ gA y1 10 c = _ ∧ _
      rw [f1.2.1, f1.2.1]; exact hN c hc
    obtain ⟨y', e, q1, q2, q3⟩ := ih (i + 1) f (sB y1 22 i (lN (mealE G uq r S i))) (by omega) (by omega) (hp.fy (f1.trans FrY.put)) hN1 ((f1.1 11 (by decide) (by decide) (by decide)).trans h11) (w1.keep keeps_Vq ⟨rfl, rfl, rfl, rfl, rfl, rfl, rfl, rfl, rfl, rfl, gB_ne (by decide), gB_ne (by decide)⟩ rfl rfl) (by
      intro c hc
      rw [gB_eq, g1]
      by_cases e : c = i
      · subst e; exact pk_uLs
      · rw [pk_uLn e]; exact hM c (by omega))
    refine ⟨y', ?_, (f1.trans FrY.put).trans q1, q2, q3⟩
    rw [fX11_oneStep_L12_s, hp.1.2.1, if_neg (nI_ge c3 (by omega)), e1]
    show (if ¬ (nI i < 0 ∨ 12 ≤ (nI i).toNatClampNeg) then _ else _) = _
    rw [hci, if_pos c2]
    show fX11_oneStep_L12 (qN G) (nI S) f (nI i + 1) (sB y1 22 i (lN (mealE G uq r S i))) = _
    rw [nI_1]; exact e
theorem m_mealL (hw : Wf G) {r : Nat} (hr : r ≤ 100) : ∀ (d i fu : Nat) (y : MS), i + d = qN G → d < fu → Pc G y → VM G y → gI y 11 = nI r → (∀ c, c < i → gB y 22 c = lN (meal G r c)) → ∃ y', fX12_stepOnce_L16 fu (nI i) y = some ((), y') ∧ SB 22 23 y y' ∧ ∀ c, c < qN G → gB y' 22 c = lN (meal G r c) := by
  intro d
  have h12 := hw.2.1
  induction d with
  | zero =>
    intro i fu y hi hf hp hv h11 hM
    obtain ⟨f, rfl⟩ : ∃ f, fu = f + 1 := ⟨fu - 1, by omega⟩
    obtain rfl : i = qN G := by omega
    exact ⟨y, by rw [fX12_stepOnce_L16_s, hp.2.1, if_pos (nI_le (Nat.le_refl _) (by omega))], SB.rfl', hM⟩
  | succ d ih =>
    intro i fu y hi hf hp hv h11 hM
    obtain ⟨f, rfl⟩ : ∃ f, fu = f + 1 := ⟨fu - 1, by omega⟩
    have c3 : i < qN G := by omega
    have hci : (nI i).toNatClampNeg = i := nI_clamp (by omega)
    have c2 : ¬ (nI i < 0 ∨ 12 ≤ i) := inR' (by omega) (by decide)
    have b : SB 22 23 y (sB y 22 i (lN (meal G r i))) := SB.put (by omega) (by omega)
    obtain ⟨y', e, q1, q2⟩ := ih (i + 1) f (sB y 22 i (lN (meal G r i))) (by omega) (by omega) (hp.sb b) ⟨hv.1, hv.2.1, fun j hj => by rw [gB_ne (by decide)]; exact hv.2.2 j hj⟩ h11 (by
      intro c hc
      rw [gB_eq]
      by_cases e : c = i
      · subst e; exact pk_uLs
      · rw [pk_uLn e]; exact hM c (by omega))
    refine ⟨y', ?_, b.trans q1, q2⟩
    rw [fX12_stepOnce_L16_s, hp.2.1, if_neg (nI_ge c3 (by omega)), m_eaten hw hp hv c3 hr h11]
    show (if ¬ (nI i < 0 ∨ 12 ≤ (nI i).toNatClampNeg) then _ else _) = _
    rw [hci, if_pos c2]
    show fX12_stepOnce_L16 f (nI i + 1) (sB y 22 i (lN (meal G r i))) = _
    rw [nI_1]; exact e
/-! widths behind the step -/
def wA (G : GD) (uq sq : Nat → Nat) (r S c : Nat) : Nat := if eb (qk G c) (uq c) S then wn (qk G c) (uq c) (qw G c) ((sq c + meal G r c) / 1000) else qw G c
def sA' (G : GD) (uq sq : Nat → Nat) (r S c : Nat) : Nat := if eb (qk G c) (uq c) S then sn (qk G c) (uq c) (qw G c) (sq c) (meal G r c) else sq c
def mvq (G : GD) (uq sq : Nat → Nat) (r S c : Nat) : Nat := (decide (wA G uq sq r S c ≠ qw G c)).toNat
/-- cracks below i have eaten -/
def Eat (G : GD) (uq sq : Nat → Nat) (r S i : Nat) (y z : MS) : Prop := SI y z ∧ (∀ a, a ≠ 8 → a ≠ 10 → gA z a = gA y a) ∧ (∀ c, c < i → gA z 8 c = nI (wA G uq sq r S c) ∧ gA z 10 c = nI (sA' G uq sq r S c)) ∧ ∀ c, i ≤ c → gA z 8 c = gA y 8 c ∧ gA z 10 c = gA y 10 c
theorem Eat.next {uq sq : Nat → Nat} {r S i : Nat} {y z : MS} (h : Eat G uq sq r S i y z) : Eat G uq sq r S (i + 1) y (sA (sA z 8 i (nI (wA G uq sq r S i))) 10 i (nI (sA' G uq sq r S i))) := by
  obtain ⟨h1, h2, h3, h4⟩ := h
  refine ⟨⟨h1.1, h1.2.1, h1.2.2⟩, fun a a1 a2 => by rw [gA_ne a2, gA_ne a1]; exact h2 a a1 a2, fun c hc => ?_, fun c hc => ?_⟩
  · rw [gA_ne (by decide), gA_eq, gA_eq]
    by_cases e : c = i
    · subst e; rw [upd_s, upd_s]; exact ⟨rfl, rfl⟩
    · rw [upd_n e, upd_n e, gA_ne (by decide)]; exact h3 c (by omega)
  · rw [gA_ne (by decide), gA_eq, gA_eq, upd_n (by omega), upd_n (by omega), gA_ne (by decide)]; exact h4 c (by omega)
theorem Eat.skip {uq sq : Nat → Nat} {r S i : Nat} {y z : MS} (h : Eat G uq sq r S i y z) (e8 : gA y 8 i = nI (qw G i)) (e10 : gA y 10 i = nI (sq i)) (he : eb (qk G i) (uq i) S = false) : Eat G uq sq r S (i + 1) y z := by
  obtain ⟨h1, h2, h3, h4⟩ := h
  refine ⟨h1, h2, fun c hc => ?_, fun c hc => h4 c (by omega)⟩
  by_cases e : c = i
  · subst e
    rw [(h4 c (Nat.le_refl _)).1, (h4 c (Nat.le_refl _)).2, e8, e10]
    unfold wA sA'; rw [he]; exact ⟨rfl, rfl⟩
  · exact h3 c (by omega)
theorem x_eatL (hw : Wf G) {uq sq : Nat → Nat} {r S : Nat} (hr : r ≤ 100) (hS : S < 2 ^ 31) (hp : Pc G y) (hN : NS G uq sq y) (h22 : ∀ c, c < qN G → gB y 22 c = lN (mealE G uq r S c)) : ∀ (d i fu : Nat) (z : MS), i + d = qN G → d < fu → Eat G uq sq r S i y z → ∃ z', fX11_oneStep_L45 (qN G) (nI S) fu (nI (ct (mvq G uq sq r S) i)) (nI i) z = some (nI (ct (mvq G uq sq r S) (qN G)), z') ∧ Eat G uq sq r S (qN G) y z' := by
  intro d
  have h12 := hw.2.1
  induction d with
  | zero =>
    intro i fu z hi hf hE
    obtain ⟨f, rfl⟩ : ∃ f, fu = f + 1 := ⟨fu - 1, by omega⟩
    obtain rfl : i = qN G := by omega
    exact ⟨z, by rw [fX11_oneStep_L45_s, hE.1.1 4, hp.2.1, if_pos (nI_le (Nat.le_refl _) (by omega))], hE⟩
  | succ d ih =>
    intro i fu z hi hf hE
    obtain ⟨f, rfl⟩ : ∃ f, fu = f + 1 := ⟨fu - 1, by omega⟩
    have c3 : i < qN G := by omega
    have hci : (nI i).toNatClampNeg = i := nI_clamp (by omega)
    have c2 : ¬ (nI i < 0 ∨ 12 ≤ i) := inR' (by omega) (by decide)
    obtain ⟨n9, n10, u1, u2, s1⟩ := hN i c3
    obtain ⟨-, -, -, hk, hww⟩ := hw.2.2.2.2 i c3
    obtain ⟨p5, p6, p7, p8⟩ := hp.2.2.2.2 i c3
    have z7 : gA z 7 i = nI (qk G i) := by rw [hE.2.1 7 (by decide) (by decide)]; exact p7
    have z9 : gA z 9 i = nI (uq i) := by rw [hE.2.1 9 (by decide) (by decide)]; exact n9
    have z8 : gA z 8 i = nI (qw G i) := (hE.2.2.2 i (Nat.le_refl _)).1.trans p8
    have z10 : gA z 10 i = nI (sq i) := (hE.2.2.2 i (Nat.le_refl _)).2.trans n10
    have xe := x_eatsIn (nc := qN G) (x := z) c3 hk u1 u2 hS z7 z9
    have z4 : gI z 4 = nI (qN G) := (hE.1.1 4).trans hp.2.1
    have go : fX11_oneStep_L45 (qN G) (nI S) (f + 1) (nI (ct (mvq G uq sq r S) i)) (nI i) z = if bv (eb (qk G i) (uq i) S) = 0 then fX11_oneStep_L45 (qN G) (nI S) f (nI (ct (mvq G uq sq r S) i)) (nI (i + 1)) z else bnd (fX2_takeIn (qN G) i (gB z 22 i) z) (fun r23 s24 => if r23 = 0 then fX11_oneStep_L45 (qN G) (nI S) f (nI (ct (mvq G uq sq r S) i)) (nI (i + 1)) s24 else fX11_oneStep_L45 (qN G) (nI S) f (nI (ct (mvq G uq sq r S) i + 1)) (nI (i + 1)) s24) := by
      rw [fX11_oneStep_L45_s]
      unfold fX11_oneStep_J96
      simp only [z4, hci, if_neg (nI_ge c3 (by omega)), if_pos c2, if_pos c3, xe, bnd, nI_1]
    rw [go]
    have hct : ct (mvq G uq sq r S) (i + 1) = ct (mvq G uq sq r S) i + mvq G uq sq r S i := rfl
    cases he : eb (qk G i) (uq i) S with
    | false =>
      rw [if_pos (by decide)]
      have : mvq G uq sq r S i = 0 := by unfold mvq wA; rw [he]; simp
      have hct' : ct (mvq G uq sq r S) (i + 1) = ct (mvq G uq sq r S) i := by rw [hct, this]; rfl
      rw [← hct']
      exact ih (i + 1) f z (by omega) (by omega) (hE.skip p8 n10 he)
    | true =>
      have hmeal : gB z 22 i = lN (meal G r i) := by rw [hE.1.2.2, h22 i c3]; unfold mealE; rw [he]; rfl
      have ht := x_takeIn (nc := qN G) (x := z) c3 hk u2 hww s1 (meal_le hw c3 hr) z7 z8 z9 z10
      have hwA : wA G uq sq r S i = wn (qk G i) (uq i) (qw G i) ((sq i + meal G r i) / 1000) := by unfold wA; rw [he]; rfl
      have hsA : sA' G uq sq r S i = sn (qk G i) (uq i) (qw G i) (sq i) (meal G r i) := by unfold sA'; rw [he]; rfl
      rw [← hwA, ← hsA] at ht
      rw [if_neg (by decide), hmeal, ht]
      obtain ⟨z', e, q⟩ := ih (i + 1) f _ (by omega) (by omega) hE.next
      rw [hct] at e
      unfold mvq at e
      refine ⟨z', ?_, q⟩
      show (if bv (decide (wA G uq sq r S i ≠ qw G i)) = 0 then _ else _) = _
      by_cases h : wA G uq sq r S i ≠ qw G i
      · rw [decide_eq_true h] at e ⊢
        rw [if_neg (by decide)]; exact e
      · rw [decide_eq_false h] at e ⊢
        rw [if_pos (by decide)]; exact e
theorem m_eatL (hw : Wf G) {uq sq : Nat → Nat} {r S : Nat} (hr : r ≤ 100) (hS : S < 2 ^ 31) (hp : Pc G y) (hN : NS G uq sq y) (h12' : gI y 12 = nI S) (h22 : ∀ c, c < qN G → gB y 22 c = lN (meal G r c)) : ∀ (d i fu : Nat) (z : MS), i + d = qN G → d < fu → Eat G uq sq r S i y z → ∃ z', fX12_stepOnce_L45 fu (nI (ct (mvq G uq sq r S) i)) (nI i) z = some (nI (ct (mvq G uq sq r S) (qN G)), z') ∧ Eat G uq sq r S (qN G) y z' := by
  intro d
  have h12 := hw.2.1
  induction d with
  | zero =>
    intro i fu z hi hf hE
    obtain ⟨f, rfl⟩ : ∃ f, fu = f + 1 := ⟨fu - 1, by omega⟩
    obtain rfl : i = qN G := by omega
    exact ⟨z, by rw [fX12_stepOnce_L45_s, hE.1.1 4, hp.2.1, if_pos (nI_le (Nat.le_refl _) (by omega))], hE⟩
  | succ d ih =>
    intro i fu z hi hf hE
    obtain ⟨f, rfl⟩ : ∃ f, fu = f + 1 := ⟨fu - 1, by omega⟩
    have c3 : i < qN G := by omega
    have hci : (nI i).toNatClampNeg = i := nI_clamp (by omega)
    have c2 : ¬ (nI i < 0 ∨ 12 ≤ i) := inR' (by omega) (by decide)
    obtain ⟨n9, n10, u1, u2, s1⟩ := hN i c3
    obtain ⟨-, -, -, hk, hww⟩ := hw.2.2.2.2 i c3
    obtain ⟨p5, p6, p7, p8⟩ := hp.2.2.2.2 i c3
    have z7 : gA z 7 i = nI (qk G i) := by rw [hE.2.1 7 (by decide) (by decide)]; exact p7
    have z9 : gA z 9 i = nI (uq i) := by rw [hE.2.1 9 (by decide) (by decide)]; exact n9
    have z8 : gA z 8 i = nI (qw G i) := (hE.2.2.2 i (Nat.le_refl _)).1.trans p8
    have z10 : gA z 10 i = nI (sq i) := (hE.2.2.2 i (Nat.le_refl _)).2.trans n10
    have me := m_eatsIn (m := z) (c := i) (by omega) hk u1 u2 hS z7 z9
    have z4 : gI z 4 = nI (qN G) := (hE.1.1 4).trans hp.2.1
    have z12 : gI z 12 = nI S := (hE.1.1 12).trans h12'
    have go : fX12_stepOnce_L45 (f + 1) (nI (ct (mvq G uq sq r S) i)) (nI i) z = if bv (eb (qk G i) (uq i) S) = 0 then fX12_stepOnce_L45 f (nI (ct (mvq G uq sq r S) i)) (nI (i + 1)) z else bnd (fX12_changes (nI i) (gB z 22 i) z) (fun r23 s24 => if r23 = 0 then fX12_stepOnce_L45 f (nI (ct (mvq G uq sq r S) i)) (nI (i + 1)) s24 else fX12_stepOnce_L45 f (nI (ct (mvq G uq sq r S) i + 1)) (nI (i + 1)) s24) := by
      rw [fX12_stepOnce_L45_s]
      unfold fX12_stepOnce_J84 fX12_stepOnce_J85
      simp only [z4, z12, hci, if_neg (nI_ge c3 (by omega)), if_pos c2, me, bnd, nI_1, Int32.add_zero]
    rw [go]
    have hct : ct (mvq G uq sq r S) (i + 1) = ct (mvq G uq sq r S) i + mvq G uq sq r S i := rfl
    cases he : eb (qk G i) (uq i) S with
    | false =>
      rw [if_pos (by decide)]
      have : mvq G uq sq r S i = 0 := by unfold mvq wA; rw [he]; simp
      have hct' : ct (mvq G uq sq r S) (i + 1) = ct (mvq G uq sq r S) i := by rw [hct, this]; rfl
      rw [← hct']
      exact ih (i + 1) f z (by omega) (by omega) (hE.skip p8 n10 he)
    | true =>
      have hmeal : gB z 22 i = lN (meal G r i) := by rw [hE.1.2.2]; exact h22 i c3
      have ht := m_changes (m := z) (c := i) (by omega) hk u2 hww s1 (meal_le hw c3 hr) z7 z8 z9 z10
      have hwA : wA G uq sq r S i = wn (qk G i) (uq i) (qw G i) ((sq i + meal G r i) / 1000) := by unfold wA; rw [he]; rfl
      have hsA : sA' G uq sq r S i = sn (qk G i) (uq i) (qw G i) (sq i) (meal G r i) := by unfold sA'; rw [he]; rfl
      rw [← hwA, ← hsA] at ht
      rw [if_neg (by decide), hmeal, ht]
      obtain ⟨z', e, q⟩ := ih (i + 1) f _ (by omega) (by omega) hE.next
      rw [hct] at e
      unfold mvq at e
      refine ⟨z', ?_, q⟩
      show (if bv (decide (wA G uq sq r S i ≠ qw G i)) = 0 then _ else _) = _
      by_cases h : wA G uq sq r S i ≠ qw G i
      · rw [decide_eq_true h] at e ⊢
        rw [if_neg (by decide)]; exact e
      · rw [decide_eq_false h] at e ⊢
        rw [if_pos (by decide)]; exact e
theorem ct_le {p : Nat → Nat} (h : ∀ i, p i ≤ 1) : ∀ k, ct p k ≤ k := by
  intro k
  induction k with
  | zero => exact Nat.le_refl _
  | succ k ih => simp only [ct]; have := h k; omega
theorem ct_0 {p : Nat → Nat} : ∀ k, ct p k = 0 → ∀ i, i < k → p i = 0 := by
  intro k
  induction k with
  | zero => intro _ i hi; omega
  | succ k ih =>
    intro h i hi
    simp only [ct] at h
    by_cases e : i = k
    · subst e; omega
    · exact ih (by omega) i (by omega)
theorem wA_le (hw : Wf G) {uq sq : Nat → Nat} {r S c : Nat} (hc : c < qN G) (hu : uq c ≤ 12) : wA G uq sq r S c ≤ 12 := by
  unfold wA
  obtain ⟨-, -, -, -, h⟩ := hw.2.2.2.2 c hc
  by_cases e : eb (qk G c) (uq c) S = true
  · rw [if_pos e]; exact wn_le h hu
  · rw [if_neg e]; exact h
theorem sA_le {uq sq : Nat → Nat} {r S c : Nat} (hs : sq c ≤ 999) : sA' G uq sq r S c ≤ 999 := by
  unfold sA'
  by_cases e : eb (qk G c) (uq c) S = true
  · rw [if_pos e]; exact sn_le
  · rw [if_neg e]; exact hs
/-- both sides do a step alike -/
theorem step_one (hB : B + 1 < 2 ^ 30) (h : RelB j B nc x m) : ∃ (n : Nat) (x' m' : MS), n ≤ 12 ∧ fX11_oneStep nc x = some (nI n, x') ∧ fX12_stepOnce m = some (nI n, m') ∧ RelB j (B + 1) nc x' m' ∧ (n = 0 → ∀ G : GD, qN G = nc → PX G x → Pc G m → PX G x' ∧ Pc G m') := by
  obtain ⟨J, hJ, hC, hS, hK, hO, hW⟩ := id h
  obtain ⟨G, hw, e1, e2, px, pm⟩ := rel_G hJ hC
  obtain ⟨h12, hx4, hm4, hcr⟩ := id hC
  obtain ⟨⟨r, r1, r2, rx, rm⟩, ⟨S, hS1, sx, sm⟩, hf, htr⟩ := id hS
  subst e2
  have NSx : NS G (fun c => (gA m 9 c).toNatClampNeg) (fun c => (gA m 10 c).toNatClampNeg) x := by
    intro c hc
    obtain ⟨⟨e5, e6, e7, e8, e9, e10⟩, a, b, k, w, u, s, q1, q2, q3, q4, q5, q6, q7, q8, z5, z6, z7, z8, z9, z10⟩ := hcr c hc
    show gA x 9 c = nI (gA m 9 c).toNatClampNeg ∧ gA x 10 c = nI (gA m 10 c).toNatClampNeg ∧ 1 ≤ (gA m 9 c).toNatClampNeg ∧ (gA m 9 c).toNatClampNeg ≤ 12 ∧ (gA m 10 c).toNatClampNeg ≤ 999
    rw [e9, e10, z9, z10, nI_clamp (by omega), nI_clamp (by omega)]
    exact ⟨rfl, rfl, q6, q7, q8⟩
  have NSm : NS G (fun c => (gA m 9 c).toNatClampNeg) (fun c => (gA m 10 c).toNatClampNeg) m := by
    intro c hc
    obtain ⟨⟨e5, e6, e7, e8, e9, e10⟩, -⟩ := hcr c hc
    have := NSx c hc
    rw [e9, e10] at this; exact this
  generalize (fun c => (gA m 9 c).toNatClampNeg) = uq at *
  generalize (fun c => (gA m 10 c).toNatClampNeg) = sq at *
  obtain ⟨y, ey, fy, wy, my⟩ := x_mealL hw (uq := uq) (sq := sq) (r := r) (S := S + 1) r2 (by omega) (B := B) (by omega) (qN G) 0 FU x (by omega) (by show qN G < 1000000; omega) px NSx rx hW (fun c hc => absurd hc (by omega))
  have py := px.fy fy
  have NSy : NS G uq sq y := fun c hc => by rw [fy.2.1, fy.2.1]; exact NSx c hc
  obtain ⟨z, ez, Ez⟩ := x_eatL hw r2 (by omega) py.1 NSy my (qN G) 0 FU y (by omega) (by show qN G < 1000000; omega) ⟨SI.rfl', fun _ _ _ => rfl, fun c hc => absurd hc (by omega), fun _ _ => ⟨rfl, rfl⟩⟩
  obtain ⟨m1, em1, fm1, vm⟩ := m_findHeads hw pm
  have pm1 := pm.fm fm1
  obtain ⟨m2, em2, bm2, mm2⟩ := m_mealL hw r2 (qN G) 0 FU (sI m1 12 (nI (S + 1))) (by omega) (by show qN G < 1000000; omega) (pm1.frame rfl rfl (fun _ _ => rfl)) vm ((fm1.1 11 (by decide)).trans rm) (fun c hc => absurd hc (by omega))
  have pm2 : Pc G m2 := (pm1.frame (s' := sI m1 12 (nI (S + 1))) rfl rfl (fun _ _ => rfl)).sb bm2
  have aM2 : ∀ a, a < 13 ∨ 30 ≤ a → gA m2 a = gA m a := fun a ha => (bm2.2.2.1 a).trans (fm1.2.1 a (by omega) (by omega) (by omega) (by omega) (by omega))
  have NSm2 : NS G uq sq m2 := fun c hc => by rw [aM2 9 (by omega), aM2 10 (by omega)]; exact NSm c hc
  have i12 : gI m2 12 = nI (S + 1) := bm2.1 12
  obtain ⟨m3, em3, Em⟩ := m_eatL hw r2 (by omega) pm2 NSm2 i12 mm2 (qN G) 0 FU m2 (by omega) (by show qN G < 1000000; omega) ⟨SI.rfl', fun _ _ _ => rfl, fun c hc => absurd hc (by omega), fun _ _ => ⟨rfl, rfl⟩⟩
  generalize hn : ct (mvq G uq sq r (S + 1)) (qN G) = n at *
  have hn12 : n ≤ 12 := by
    have := ct_le (p := mvq G uq sq r (S + 1)) (fun i => by unfold mvq; cases decide (wA G uq sq r (S + 1) i ≠ qw G i) <;> decide) (qN G)
    omega
  have i50 : gI z 50 = gI x 50 := (Ez.1.1 50).trans (fy.1 50 (by decide) (by decide) (by decide))
  -- the state behind the step
  have fin : ∀ x', (∀ k, k ≠ 12 → k ≠ 50 → gI x' k = gI z k) → gI x' 12 = nI (S + 1) → gL x' = gL z → (∀ a, gA x' a = gA z a) → (∀ a, gB x' a = gB z a) → RWB (Vq (qN G)) (B + 1) x' → RelB j (B + 1) (qN G) x' m3 := by
    intro x' i1 i2 iL i3 i4 i5
    have iX : ∀ k, k ≠ 12 → k ≠ 50 → k ≠ 51 → k ≠ 52 → k ≠ 53 → gI x' k = gI x k := fun k a b c d e => ((i1 k a b).trans (Ez.1.1 k)).trans (fy.1 k c d e)
    have aX : ∀ a, a ≠ 8 → a ≠ 10 → gA x' a = gA x a := fun a h1 h2 => ((i3 a).trans (Ez.2.1 a h1 h2)).trans (fy.2.1 a)
    have iM : ∀ k, k ≠ 12 → k ≠ 16 → gI m3 k = gI m k := fun k a b => by rw [Em.1.1, bm2.1, gI_ne a]; exact fm1.1 k b
    have aM : ∀ a, a ≠ 8 → a ≠ 10 → a < 13 ∨ 30 ≤ a → gA m3 a = gA m a := fun a h1 h2 h3 => (Em.2.1 a h1 h2).trans (aM2 a h3)
    refine ⟨J, ?_, ?_, ?_, ?_, ?_, i5⟩
    · exact hJ.keep (iX 1 (by decide) (by decide) (by decide) (by decide) (by decide)) (iM 1 (by decide) (by decide)) (aX 2 (by decide) (by decide)) (aX 3 (by decide) (by decide)) (aM 2 (by decide) (by decide) (by decide)) (aM 3 (by decide) (by decide) (by decide))
    · refine ⟨h12, (iX 4 (by decide) (by decide) (by decide) (by decide) (by decide)).trans hx4, (iM 4 (by decide) (by decide)).trans hm4, fun c hc => ?_⟩
      obtain ⟨⟨e5, e6, e7, e8, e9, e10⟩, a, b, k, w, u, s, q1, q2, q3, q4, q5, q6, q7, q8, z5, z6, z7, z8, z9, z10⟩ := hcr c hc
      obtain ⟨n9, n10, u1, u2, s1⟩ := NSm c hc
      unfold CK
      rw [aX 5 (by decide) (by decide), aX 6 (by decide) (by decide), aX 7 (by decide) (by decide), aX 9 (by decide) (by decide), aM 5 (by decide) (by decide) (by decide), aM 6 (by decide) (by decide) (by decide), aM 7 (by decide) (by decide) (by decide), aM 9 (by decide) (by decide) (by decide), i3 8, i3 10, (Ez.2.2.1 c hc).1, (Ez.2.2.1 c hc).2, (Em.2.2.1 c hc).1, (Em.2.2.1 c hc).2]
      exact ⟨⟨e5, e6, e7, rfl, e9, rfl⟩, a, b, k, _, u, _, q1, q2, q3, q4, wA_le hw hc u2, q6, q7, sA_le s1, z5, z6, z7, rfl, z9, rfl⟩
    · refine ⟨⟨r, r1, r2, (iX 11 (by decide) (by decide) (by decide) (by decide) (by decide)).trans rx, (iM 11 (by decide) (by decide)).trans rm⟩, ⟨S + 1, by omega, i2, by rw [Em.1.1]; exact i12⟩, ?_, ?_⟩
      · rw [iX 0 (by decide) (by decide) (by decide) (by decide) (by decide), iM 0 (by decide) (by decide)]; exact hf
      · rw [iX 38 (by decide) (by decide) (by decide) (by decide) (by decide), iM 38 (by decide) (by decide)]; exact htr
    · obtain ⟨K, p, k1, k2, k3, k4, k5, k6⟩ := hK
      refine ⟨K, p, k1, k2, (iX 29 (by decide) (by decide) (by decide) (by decide) (by decide)).trans k3, (iM 29 (by decide) (by decide)).trans k4, (iX 58 (by decide) (by decide) (by decide) (by decide) (by decide)).trans k5, fun t ht => ?_⟩
      obtain ⟨n, s, a, b, c1, c2, c3, c4, c5⟩ := k6 t ht
      refine ⟨n, s, a, b, by rw [aX 73 (by decide) (by decide)]; exact c1, by rw [aM 30 (by decide) (by decide) (by decide)]; exact c2, by rw [aX 74 (by decide) (by decide)]; exact c3, by rw [aM 31 (by decide) (by decide) (by decide)]; exact c4, fun c hc => ?_⟩
      rw [aX _ (by omega) (by omega), aX _ (by omega) (by omega), aM 32 (by decide) (by decide) (by decide), aM 33 (by decide) (by decide) (by decide)]
      exact c5 c hc
    · refine hO.keep (aX 40 (by decide) (by decide)) (aX 41 (by decide) (by decide)) (aX 42 (by decide) (by decide)) (aM 34 (by decide) (by decide) (by decide)) (aM 35 (by decide) (by decide) (by decide)) (fun k h1 h2 => ?_) ?_
      · rw [i4, Ez.1.2.2]; exact fy.2.2 k (by omega)
      · rw [Em.1.2.2, bm2.2.2.2 36 (by omega)]; exact fm1.2.2 36 (by decide) (by decide)
  have hM : fX12_stepOnce m = some (nI n, m3) := by
    unfold fX12_stepOnce
    rw [em1]
    try rw [bnd_k]
    try simp only [lets]
    show bnd (fX12_stepOnce_L16 FU 0 (sI m1 12 (gI m1 12 + 1))) _ = _
    rw [fm1.1 12 (by decide), sm, nI_1, show (0 : Int32) = nI 0 from rfl, em2]
    try rw [bnd_k]
    try simp only [lets]
    show bnd (fX12_stepOnce_L45 FU (nI 0) (nI 0) m2) _ = _
    rw [show fX12_stepOnce_L45 FU (nI 0) (nI 0) m2 = some (nI n, m3) from em3]; rfl
  have hX : fX11_oneStep (qN G) x = if nI n ≤ 0 then some (nI n, sI z 12 (nI (S + 1))) else some (nI n, sI (sI z 50 (gI z 50 + 1)) 12 (nI (S + 1))) := by
    unfold fX11_oneStep
    rw [sx, nI_1, show (0 : Int32) = nI 0 from rfl, ey]
    try rw [bnd_k]
    try simp only [lets]
    show bnd (fX11_oneStep_L45 (qN G) (nI (S + 1)) FU (nI 0) (nI 0) y) _ = _
    rw [show fX11_oneStep_L45 (qN G) (nI (S + 1)) FU (nI 0) (nI 0) y = some (nI n, z) from ez]; rfl
  have wz : RWB (Vq (qN G)) B y := wy
  rcases Nat.eq_zero_or_pos n with h0 | hpos
  · have same : ∀ c, c < qN G → wA G uq sq r (S + 1) c = qw G c := by
      intro c hc
      have := ct_0 (p := mvq G uq sq r (S + 1)) (qN G) (by omega) c hc
      unfold mvq at this
      by_cases e : wA G uq sq r (S + 1) c = qw G c
      · exact e
      · rw [decide_eq_true e] at this; exact absurd this (by decide)
    have z8 : gA z 8 = gA y 8 := funext fun c => by
      rcases Nat.lt_or_ge c (qN G) with hc | hc
      · rw [(Ez.2.2.1 c hc).1, same c hc, (py.1.2.2.2.2 c hc).2.2.2]
      · exact (Ez.2.2.2 c hc).1
    have m8 : ∀ c, c < qN G → gA m3 8 c = gA m 8 c := fun c hc => by
      rw [(Em.2.2.1 c hc).1, same c hc, (pm.2.2.2.2 c hc).2.2.2]
    subst h0
    rw [if_pos (by decide)] at hX
    refine ⟨0, _, m3, by omega, hX, hM, fin _ (fun k h1 _ => gI_ne h1) rfl rfl (fun _ => rfl) (fun _ => rfl) ?_, fun _ G' hn' px' pm' => ⟨?_, ?_⟩⟩
    · refine (wz.keep keeps_Vq ⟨Ez.1.1 1, Ez.1.1 4, Ez.2.1 2 (by decide) (by decide), Ez.2.1 3 (by decide) (by decide), Ez.2.1 5 (by decide) (by decide), Ez.2.1 6 (by decide) (by decide), Ez.2.1 7 (by decide) (by decide), z8, Ez.1.2.1, Ez.1.1 51, Ez.1.2.2 69, Ez.1.2.2 70⟩ (Ez.1.1 50) (Ez.1.1 53)).up (by omega)
    · have aX : ∀ a, a ≠ 10 → gA (sI z 12 (nI (S + 1))) a = gA x a := fun a h2 => by
        show gA z a = _
        by_cases h8 : a = 8
        · subst h8; rw [z8]; exact fy.2.1 8
        · rw [Ez.2.1 a h8 h2]; exact fy.2.1 a
      refine ⟨px'.1.frame ((Ez.1.1 1).trans (fy.1 1 (by decide) (by decide) (by decide))) ((Ez.1.1 4).trans (fy.1 4 (by decide) (by decide) (by decide))) (fun a ha => aX a (by omega)), fun i hi => by rw [aX 2 (by decide)]; exact px'.2 i hi⟩
    · have i1 : gI m3 1 = gI m 1 := by rw [Em.1.1, bm2.1]; exact fm1.1 1 (by decide)
      have i4 : gI m3 4 = gI m 4 := by rw [Em.1.1, bm2.1]; exact fm1.1 4 (by decide)
      have aM : ∀ a, a ≠ 8 → a ≠ 10 → a < 13 → gA m3 a = gA m a := fun a h1 h2 h3 => (Em.2.1 a h1 h2).trans (aM2 a (by omega))
      obtain ⟨a1, a2, a3, a4, a5⟩ := pm'
      refine ⟨i1.trans a1, i4.trans a2, fun i hi => by rw [aM 2 (by decide) (by decide) (by decide)]; exact a3 i hi, fun i hi hH => by rw [aM 3 (by decide) (by decide) (by decide)]; exact a4 i hi hH, fun c hc => ?_⟩
      rw [aM 5 (by decide) (by decide) (by decide), aM 6 (by decide) (by decide) (by decide), aM 7 (by decide) (by decide) (by decide), m8 c (by omega)]
      exact a5 c hc
  · rw [if_neg (nI_nle hpos (by omega))] at hX
    refine ⟨n, _, m3, hn12, hX, hM, fin _ (fun k h1 h2 => by rw [gI_ne h1, gI_ne h2]) rfl rfl (fun _ => rfl) (fun _ => rfl) ?_, fun h => absurd h (by omega)⟩
    exact wz.step (by show gI z 50 + 1 = _; rw [Ez.1.1 50]) (Ez.1.1 53)
theorem step_L {n : Nat} (hn : n ≤ 50) : ∀ (d i fu B : Nat) (x m : MS) (v : Int32), i + d = n → d < fu → B + d + 1 < 2 ^ 30 → RelB j B nc x m → ∃ (v' : Int32) (x' m' : MS), fX11_step_L18 nc (nI n) fu v (nI i) x = some (v', x') ∧ fX12_step_L17 (nI n) fu v (nI i) m = some (v', m') ∧ RelB j (B + d) nc x' m' := by
  intro d
  induction d with
  | zero =>
    intro i fu B x m v hi hf hB h
    obtain ⟨f, rfl⟩ : ∃ f, fu = f + 1 := ⟨fu - 1, by omega⟩
    obtain rfl : i = n := by omega
    exact ⟨v, x, m, by rw [fX11_step_L18_s, if_pos (nI_le (Nat.le_refl _) (by omega))], by rw [fX12_step_L17_s, if_pos (nI_le (Nat.le_refl _) (by omega))], h⟩
  | succ d ih =>
    intro i fu B x m v hi hf hB h
    obtain ⟨f, rfl⟩ : ∃ f, fu = f + 1 := ⟨fu - 1, by omega⟩
    obtain ⟨k, x1, m1, -, e1, e2, h1, -⟩ := step_one (by omega) h
    obtain ⟨v', x', m', q1, q2, q3⟩ := ih (i + 1) f (B + 1) x1 m1 (v + nI k) (by omega) (by omega) (by omega) h1
    refine ⟨v', x', m', ?_, ?_, by rw [show B + (d + 1) = B + 1 + d by omega]; exact q3⟩
    · rw [fX11_step_L18_s, if_neg (nI_ge (show i < n by omega) (by omega)), e1]
      show fX11_step_L18 nc (nI n) f (v + nI k) (nI i + 1) x1 = _
      rw [nI_1]; exact q1
    · rw [fX12_step_L17_s, if_neg (nI_ge (show i < n by omega) (by omega)), e2]
      show fX12_step_L17 (nI n) f (v + nI k) (nI i + 1) m1 = _
      rw [nI_1]; exact q2
theorem op_step : ∀ (y1 : Int32), OpI (RelV Vq) (fun nc σ => fX11_step nc y1 σ) (fun σ => fX12_step y1 σ) := by
  intro y1 j nc x m hj hR
  show ∃ (r : Int32) (σx' σm' : MS), fX11_step nc y1 x = some (r, σx') ∧ fX12_step y1 m = some (r, σm') ∧ RelV Vq (j + 1) nc σx' σm'
  rcases am01 y1 0 50 with ⟨ha, -⟩ | ⟨ha, h1, h2⟩
  · refine ⟨-2, x, m, ?_, ?_, hR.next⟩
    · unfold fX11_step; rw [within_eq, ha]; rfl
    · unfold fX12_step; rw [ha]; rfl
  · obtain ⟨n, hn, rfl⟩ := range_of (n := 50) (by decide) h1 h2
    obtain ⟨v, x', m', e1, e2, q⟩ := step_L (j := j) (nc := nc) hn n 0 FU (256 * j) x m 0 (by omega) (by show n < 1000000; omega) (by omega) (RelB.of hR)
    refine ⟨v, x', m', ?_, ?_, q.to (by omega)⟩
    · unfold fX11_step; rw [within_eq, ha]
      try rw [bnd_k]
      try simp only [lets]
      show bnd (fX11_step_L18 nc (nI n) FU 0 0 x) _ = _
      rw [show fX11_step_L18 nc (nI n) FU 0 0 x = some (v, x') from e1]; rfl
    · unfold fX12_step; rw [ha]
      try rw [bnd_k]
      try simp only [lets]
      show bnd (fX12_step_L17 (nI n) FU 0 0 m) _ = _
      rw [show fX12_step_L17 (nI n) FU 0 0 m = some (v, m') from e2]; rfl
end STEP2
