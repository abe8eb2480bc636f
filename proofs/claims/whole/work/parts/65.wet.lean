/-! words of bits -/
theorem w_shl : ∀ a, a < 7 → (1 : Int32) <<< (nI a &&& 31) = nI (2 ^ a) := by decide +kernel
theorem w_or1 : ∀ n, n < 64 → ∀ a, a < 6 → nI n ||| (1 <<< (nI a &&& 31)) = nI (n ||| 2 ^ a) := by decide +kernel
theorem w_or2 : ∀ n, n < 64 → ∀ a, a < 6 → ∀ b, b < 6 → nI n ||| ((1 <<< (nI a &&& 31)) ||| (1 <<< (nI b &&& 31))) = nI (n ||| (2 ^ a ||| 2 ^ b)) := by decide +kernel
theorem w_and2 : ∀ n, n < 64 → ∀ a, a < 6 → ∀ b, b < 6 → decide (nI n &&& ((1 <<< (nI a &&& 31)) ||| (1 <<< (nI b &&& 31))) = 0) = !(n.testBit a || n.testBit b) := by decide +kernel
theorem w_bit : ∀ n, n < 128 → ∀ j, j < 7 → (nI n >>> (nI j &&& 31)) &&& 1 = bv (n.testBit j) := by decide +kernel
theorem w_not : ∀ n, n < 64 → ∀ h, h < 64 → nI n &&& (nI h ^^^ (-1)) = nI (n &&& (63 ^^^ h)) := by decide +kernel
theorem w_not_bit : ∀ n, n < 64 → ∀ h, h < 64 → ∀ j, j < 6 → (n &&& (63 ^^^ h)).testBit j = (n.testBit j && !h.testBit j) := by
  intro n _ h _ j hj
  rw [Nat.testBit_and, Nat.testBit_xor]
  rcases (show j = 0 ∨ j = 1 ∨ j = 2 ∨ j = 3 ∨ j = 4 ∨ j = 5 by omega) with rfl | rfl | rfl | rfl | rfl | rfl <;> simp [Nat.testBit]
theorem w_and : ∀ n, n < 64 → ∀ k, k < 64 → nI n &&& nI k = nI (n &&& k) := by decide +kernel
theorem w_cnt : ∀ n, n < 128 → fJ6_bitCount_0f7a4 (nI n) = some (nI (cn n + (n.testBit 6).toNat), ()) := by decide +kernel
section WETX
variable {G : GD} {s : MS} {t : Nat}
theorem heldOnes_L (hw : Wf G) (hp : Pc G s) {nc : Nat} : ∀ (d i fu : Nat), i + d = qJ G → d < fu → fX5_heldOnes_L4 nc fu (nI (hmask G i)) (nI i) s = some (nI (hmask G (qJ G)), s) := by
  intro d
  have hJ := hw.1
  induction d with
  | zero =>
    intro i fu hi hf
    obtain ⟨f, rfl⟩ : ∃ f, fu = f + 1 := ⟨fu - 1, by omega⟩
    obtain rfl : i = qJ G := by omega
    rw [fX5_heldOnes_L4_s, hp.1, if_pos (nI_le (Nat.le_refl _) (by omega))]
  | succ d ih =>
    intro i fu hi hf
    obtain ⟨f, rfl⟩ : ∃ f, fu = f + 1 := ⟨fu - 1, by omega⟩
    have hci : (nI i).toNatClampNeg = i := nI_clamp (by omega)
    have c2 : ¬ (nI i < 0 ∨ 6 ≤ i) := inR' (by omega) (by decide)
    have hm : hmask G i < 64 := Nat.lt_of_lt_of_le (hmask_lt i) (Nat.pow_le_pow_right (n := 2) (j := 6) (by decide) (by omega))
    have e := hp.2.2.1 i (by omega)
    have ihh := ih (i + 1) f (by omega) (by omega)
    rw [fX5_heldOnes_L4_s]
    simp only [hp.1, hci, if_neg (nI_ge (show i < qJ G by omega) (by omega)), if_pos c2, e]
    cases h : qH G i with
    | true =>
      rw [if_neg (by decide)]
      unfold fX5_heldOnes_J27
      rw [w_or1 _ hm i (by omega), nI_1]
      simp only [hmask, h] at ihh; exact ihh
    | false =>
      rw [if_pos (by decide)]
      unfold fX5_heldOnes_J27
      rw [nI_1]
      simp only [hmask, h] at ihh; exact ihh
theorem x_heldOnes (hw : Wf G) (hp : Pc G s) {nc : Nat} : fX5_heldOnes nc s = some (nI (hmask G (qJ G)), s) := by
  unfold fX5_heldOnes
  have := heldOnes_L hw hp (nc := nc) (qJ G) 0 FU (by omega) (by have := hw.1; show qJ G < 1000000; omega)
  rw [show fX5_heldOnes_L4 nc FU 0 0 s = some (nI (hmask G (qJ G)), s) from this]; rfl
theorem reach_L22 (hw : Wf G) (hp : Pc G s) (ht : t ≤ 12) {x4 x5 : Int32} {n0 : Nat} (hn : n0 < 2 ^ qJ G) : ∀ (d i fu : Nat), i + d = qN G → d < fu → fX5_reachedFrom_L22 (qN G) (nI t) x4 x5 fu (nI (pas G t i n0)) (nI i) s = some (nI (pas G t (qN G) n0), s) := by
  intro d
  have h12 := hw.2.1
  have h64 := pow6 hw
  induction d with
  | zero =>
    intro i fu hi hf
    obtain ⟨f, rfl⟩ : ∃ f, fu = f + 1 := ⟨fu - 1, by omega⟩
    obtain rfl : i = qN G := by omega
    rw [fX5_reachedFrom_L22_s, hp.2.1, if_pos (nI_le (Nat.le_refl _) (by omega))]
  | succ d ih =>
    intro i fu hi hf
    obtain ⟨f, rfl⟩ : ∃ f, fu = f + 1 := ⟨fu - 1, by omega⟩
    have hJ := hw.1
    have hci : (nI i).toNatClampNeg = i := nI_clamp (by omega)
    have c2 : ¬ (nI i < 0 ∨ 12 ≤ i) := inR' (by omega) (by decide)
    have c3 : i < qN G := by omega
    obtain ⟨e5, e6, e7, e8⟩ := hp.2.2.2.2 i c3
    obtain ⟨ha, hb, hab, hk, hww⟩ := hw.2.2.2.2 i c3
    have hm : pas G t i n0 < 64 := Nat.lt_of_lt_of_le (pas_lt hw hn i (by omega)) h64
    have ihh := ih (i + 1) f (by omega) (by omega)
    rw [fX5_reachedFrom_L22_s]
    simp only [hp.2.1, hci, if_neg (nI_ge c3 (by omega)), if_pos c2, if_pos c3, e5, e6, e8]
    have hd := w_and2 _ hm (qa G i) (by omega) (qb G i) (by omega)
    have hpas : pas G t (i + 1) n0 = adc G t i (pas G t i n0) := rfl
    unfold adc at hpas
    by_cases hlt : qw G i < t
    · rw [if_pos (nI_lt hlt (by omega))]
      unfold fX5_reachedFrom_J84
      rw [if_neg (fun z => absurd z.1 (by omega))] at hpas
      rw [nI_1]; rw [hpas] at ihh; exact ihh
    · rw [if_neg (nI_nlt (by omega) (by omega))]
      cases hz : ((pas G t i n0).testBit (qa G i) || (pas G t i n0).testBit (qb G i)) with
      | false =>
        rw [hz] at hd hpas
        rw [if_pos (of_decide_eq_true hd)]
        unfold fX5_reachedFrom_J84
        rw [if_neg (fun z => Bool.noConfusion z.2)] at hpas
        rw [nI_1]; rw [hpas] at ihh; exact ihh
      | true =>
        rw [hz] at hd hpas
        rw [if_neg (of_decide_eq_false hd)]
        unfold fX5_reachedFrom_J84
        rw [if_pos ⟨by omega, rfl⟩] at hpas
        rw [w_or2 _ hm (qa G i) (by omega) (qb G i) (by omega), nI_1]; rw [hpas] at ihh; exact ihh
theorem reach_L5 (hw : Wf G) (hp : Pc G s) (ht : t ≤ 12) : ∀ (d p fu n : Nat), p + d = 6 → d < fu → n < 2 ^ qJ G → fX5_reachedFrom_L5 (qN G) (nI t) fu (nI n) 1 (nI p) s = some (nI (its G t d n), s) := by
  intro d
  have h64 := pow6 hw
  induction d with
  | zero =>
    intro p fu n hi hf hn
    obtain ⟨f, rfl⟩ : ∃ f, fu = f + 1 := ⟨fu - 1, by omega⟩
    obtain rfl : p = 6 := by omega
    rw [fX5_reachedFrom_L5_s, if_neg (by decide), if_pos (by decide)]; rfl
  | succ d ih =>
    intro p fu n hi hf hn
    obtain ⟨f, rfl⟩ : ∃ f, fu = f + 1 := ⟨fu - 1, by omega⟩
    have h12 := hw.2.1
    have hpl := pas_lt (t := t) hw hn (qN G) (Nat.le_refl _)
    have e := reach_L22 hw hp ht (x4 := nI p) (x5 := nI n) hn (qN G) 0 FU (by omega) (by show qN G < 1000000; omega)
    rw [fX5_reachedFrom_L5_s, if_neg (by decide), if_neg (show ¬ (6 : Int32) ≤ nI p from nI_ge (b := 6) (by omega) (by decide)), show fX5_reachedFrom_L22 (qN G) (nI t) (nI p) (nI n) FU (nI n) 0 s = some (nI (pas G t (qN G) n), s) from e]
    show (if nI (pas G t (qN G) n) = nI n then _ else _) = _
    by_cases z : pas G t (qN G) n = n
    · rw [if_pos (by rw [z])]
      unfold fX5_reachedFrom_J101
      obtain ⟨f', rfl⟩ : ∃ f', f = f' + 1 := ⟨f - 1, by omega⟩
      rw [fX5_reachedFrom_L5_s, if_pos rfl, its_fix z, z]
    · rw [if_neg (fun y => z ((nI_eq (by omega) (by omega)).mp y))]
      unfold fX5_reachedFrom_J101
      rw [nI_1]
      exact ih (p + 1) f _ (by omega) (by omega) hpl
theorem x_reached (hw : Wf G) (hp : Pc G s) (ht : t ≤ 12) {n : Nat} (hn : n < 2 ^ qJ G) : fX5_reachedFrom (qN G) (nI n) (nI t) s = some (nI (its G t 6 n), s) := by
  unfold fX5_reachedFrom
  rw [show (0 : Int32) = nI 0 from rfl, reach_L5 hw hp ht 6 0 FU n (by omega) (by show 6 < 1000000; omega) hn]; rfl
/-! the reference's way to it -/
theorem wet_J90 {rec : Int32 → MS → Option (Unit × MS)} {x1 : Int32} {i a b : Nat} {f wa wb : Bool} (hi : i < 12) (ha : a < 6) (hb : b < 6) (hab : a ≠ b) (e5 : gA s 5 i = nI a) (e6 : gA s 6 i = nI b) (ea : gA s 13 a = bv wa) (eb : gA s 13 b = bv wb) : fX12_findWet_J90 rec x1 (nI i) (bv f) s = rec (nI (i + 1)) (sA (sA s 13 a (bv (wa || f))) 13 b (bv (wb || f))) := by
  have hci : (nI i).toNatClampNeg = i := nI_clamp (by omega)
  have hca : (nI a).toNatClampNeg = a := nI_clamp (by omega)
  have hcb : (nI b).toNatClampNeg = b := nI_clamp (by omega)
  have c2 : ¬ (nI i < 0 ∨ 12 ≤ i) := inR' hi (by decide)
  have ca : ¬ (nI a < 0 ∨ 6 ≤ a) := inR' ha (by decide)
  have cb : ¬ (nI b < 0 ∨ 6 ≤ b) := inR' hb (by decide)
  have r6 : ∀ v, gA (sA s 13 a v) 6 i = nI b := fun v => by rw [gA_ne (by decide)]; exact e6
  have rb : ∀ v, gA (sA s 13 a v) 13 b = bv wb := fun v => by rw [gA_eq, upd_n (Ne.symm hab)]; exact eb
  have n0 : vp_nar .boolean 0 = (0 : Int32) := rfl
  have n1 : vp_nar .boolean 1 = (1 : Int32) := rfl
  unfold fX12_findWet_J90
  simp only [hci, if_pos c2, e5, hca, if_pos ca, ea]
  unfold fX12_findWet_J119 fX12_findWet_J124 fX12_findWet_J153 fX12_findWet_J158
  simp only [hca, if_pos ca, hci, if_pos c2, lets, r6, hcb, if_pos cb, rb, n0, n1, nI_1]
  cases wa <;> cases wb <;> cases f <;> simp [bv]
theorem wet_L40 (hw : Wf G) {x1 : Int32} {n0 : Nat} : ∀ (d i fu : Nat) (s : MS), i + d = qN G → d < fu → Pc G s → (∀ j, j < qJ G → gA s 13 j = bv ((pas G 1 i n0).testBit j)) → ∃ s', fX12_findWet_L40 x1 fu (nI i) s = some ((), s') ∧ SI s s' ∧ (∀ a, a ≠ 13 → gA s' a = gA s a) ∧ ∀ j, j < qJ G → gA s' 13 j = bv ((pas G 1 (qN G) n0).testBit j) := by
  intro d
  have h12 := hw.2.1
  have hJ := hw.1
  induction d with
  | zero =>
    intro i fu s hi hf hp h13
    obtain ⟨f, rfl⟩ : ∃ f, fu = f + 1 := ⟨fu - 1, by omega⟩
    obtain rfl : i = qN G := by omega
    exact ⟨s, by rw [fX12_findWet_L40_s, hp.2.1, if_pos (nI_le (Nat.le_refl _) (by omega))], SI.rfl', fun _ _ => rfl, h13⟩
  | succ d ih =>
    intro i fu s hi hf hp h13
    obtain ⟨f, rfl⟩ : ∃ f, fu = f + 1 := ⟨fu - 1, by omega⟩
    have hci : (nI i).toNatClampNeg = i := nI_clamp (by omega)
    have c2 : ¬ (nI i < 0 ∨ 12 ≤ i) := inR' (by omega) (by decide)
    have c3 : i < qN G := by omega
    obtain ⟨e5, e6, e7, e8⟩ := hp.2.2.2.2 i c3
    obtain ⟨ha, hb, hab, hk, hww⟩ := hw.2.2.2.2 i c3
    have hca : (nI (qa G i)).toNatClampNeg = qa G i := nI_clamp (by omega)
    have hcb : (nI (qb G i)).toNatClampNeg = qb G i := nI_clamp (by omega)
    have ca : ¬ (nI (qa G i) < 0 ∨ 6 ≤ qa G i) := inR' (by omega) (by decide)
    have cb : ¬ (nI (qb G i) < 0 ∨ 6 ≤ qb G i) := inR' (by omega) (by decide)
    have ea := h13 _ ha
    have eb := h13 _ hb
    have fin : fX12_findWet_L40 x1 (f + 1) (nI i) s = fX12_findWet_J90 (fX12_findWet_L40 x1 f) x1 (nI i) (bv (decide (1 ≤ qw G i) && ((pas G 1 i n0).testBit (qa G i) || (pas G 1 i n0).testBit (qb G i)))) s := by
      rw [fX12_findWet_L40_s]
      simp only [hp.2.1, hci, if_neg (nI_ge c3 (by omega)), if_pos c2, e5, e6, e8, hca, hcb, if_pos ca, if_pos cb, ea, eb]
      unfold fX12_findWet_J89 fX12_findWet_J85
      by_cases h0 : qw G i = 0
      · rw [h0, if_pos (by decide)]; rfl
      · rw [if_neg (nI_nle (by omega) (by omega)), decide_eq_true (show 1 ≤ qw G i by omega)]
        cases (pas G 1 i n0).testBit (qa G i) <;> cases (pas G 1 i n0).testBit (qb G i) <;> simp [bv]
    rw [fin, wet_J90 (s := s) (by omega) (by omega) (by omega) hab e5 e6 ea eb]
    obtain ⟨s', e, q1, q2, q3⟩ := ih (i + 1) f (sA (sA s 13 (qa G i) (bv ((pas G 1 i n0).testBit (qa G i) || (decide (1 ≤ qw G i) && ((pas G 1 i n0).testBit (qa G i) || (pas G 1 i n0).testBit (qb G i)))))) 13 (qb G i) (bv ((pas G 1 i n0).testBit (qb G i) || (decide (1 ≤ qw G i) && ((pas G 1 i n0).testBit (qa G i) || (pas G 1 i n0).testBit (qb G i)))))) (by omega) (by omega) (by
        unfold Pc at *
        simp only [gI_sA, gA_ne (show (2 : Nat) ≠ 13 by decide), gA_ne (show (3 : Nat) ≠ 13 by decide), gA_ne (show (5 : Nat) ≠ 13 by decide), gA_ne (show (6 : Nat) ≠ 13 by decide), gA_ne (show (7 : Nat) ≠ 13 by decide), gA_ne (show (8 : Nat) ≠ 13 by decide)]
        exact hp) (by
        intro j hj
        show _ = bv ((adc G 1 i (pas G 1 i n0)).testBit j)
        rw [adc_bit, gA_eq]
        by_cases h1 : j = qb G i
        · subst h1; rw [upd_s]; simp
        · rw [upd_n h1, gA_eq]
          by_cases h2 : j = qa G i
          · subst h2; rw [upd_s]; simp
          · rw [upd_n h2, h13 j hj, decide_eq_false (show ¬ qa G i = j from fun z => h2 z.symm), decide_eq_false (show ¬ qb G i = j from fun z => h1 z.symm)]; simp)
    refine ⟨s', e, q1.sA.sA, ?_, q3⟩
    intro a h; rw [q2 a h, gA_ne h, gA_ne h]
theorem Pc.frame {s s' : MS} (hp : Pc G s) (h1 : gI s' 1 = gI s 1) (h4 : gI s' 4 = gI s 4) (ha : ∀ a, a = 2 ∨ a = 3 ∨ a = 5 ∨ a = 6 ∨ a = 7 ∨ a = 8 → gA s' a = gA s a) : Pc G s' := by
  unfold Pc at *
  rw [h1, h4, ha 2 (by decide), ha 3 (by decide), ha 5 (by decide), ha 6 (by decide), ha 7 (by decide), ha 8 (by decide)]; exact hp
theorem wet_L30 (hw : Wf G) : ∀ (d p fu n : Nat) (s : MS), p + d = qJ G → d < fu → Pc G s → (∀ j, j < qJ G → gA s 13 j = bv (n.testBit j)) → ∃ s', fX12_findWet_L30 fu (nI p) s = some ((), s') ∧ SI s s' ∧ (∀ a, a ≠ 13 → gA s' a = gA s a) ∧ ∀ j, j < qJ G → gA s' 13 j = bv ((its G 1 d n).testBit j) := by
  intro d
  have h12 := hw.2.1
  have hJ := hw.1
  induction d with
  | zero =>
    intro p fu n s hi hf hp h13
    obtain ⟨f, rfl⟩ : ∃ f, fu = f + 1 := ⟨fu - 1, by omega⟩
    obtain rfl : p = qJ G := by omega
    exact ⟨s, by rw [fX12_findWet_L30_s, hp.1, if_pos (nI_le (Nat.le_refl _) (by omega))], SI.rfl', fun _ _ => rfl, h13⟩
  | succ d ih =>
    intro p fu n s hi hf hp h13
    obtain ⟨f, rfl⟩ : ∃ f, fu = f + 1 := ⟨fu - 1, by omega⟩
    obtain ⟨s1, e1, u1, u2, u3⟩ := wet_L40 hw (x1 := nI p) (n0 := n) (qN G) 0 FU s (by omega) (by show qN G < 1000000; omega) hp h13
    obtain ⟨s2, e2, v1, v2, v3⟩ := ih (p + 1) f (pas G 1 (qN G) n) s1 (by omega) (by omega) (hp.frame (u1.1 1) (u1.1 4) (fun a ha => u2 a (by omega))) u3
    refine ⟨s2, ?_, ⟨fun k => (v1.1 k).trans (u1.1 k), v1.2.1.trans u1.2.1, fun k => (v1.2.2 k).trans (u1.2.2 k)⟩, fun a h => (v2 a h).trans (u2 a h), v3⟩
    rw [fX12_findWet_L30_s, hp.1, if_neg (nI_ge (show p < qJ G by omega) (by omega)), show (0 : Int32) = nI 0 from rfl, e1]
    show fX12_findWet_L30 f (nI p + 1) s1 = _
    rw [nI_1]; exact e2
theorem wet_L2 (hw : Wf G) : ∀ (d i fu : Nat) (s : MS), i + d = qJ G → d < fu → Pc G s → (∀ j, j < i → gA s 13 j = bv (qH G j)) → ∃ s', fX12_findWet_L2 fu (nI i) s = some ((), s') ∧ SI s s' ∧ (∀ a, a ≠ 13 → gA s' a = gA s a) ∧ ∀ j, j < qJ G → gA s' 13 j = bv (qH G j) := by
  intro d
  have hJ := hw.1
  induction d with
  | zero =>
    intro i fu s hi hf hp h13
    obtain ⟨f, rfl⟩ : ∃ f, fu = f + 1 := ⟨fu - 1, by omega⟩
    obtain rfl : i = qJ G := by omega
    exact ⟨s, by rw [fX12_findWet_L2_s, hp.1, if_pos (nI_le (Nat.le_refl _) (by omega))], SI.rfl', fun _ _ => rfl, h13⟩
  | succ d ih =>
    intro i fu s hi hf hp h13
    obtain ⟨f, rfl⟩ : ∃ f, fu = f + 1 := ⟨fu - 1, by omega⟩
    have hci : (nI i).toNatClampNeg = i := nI_clamp (by omega)
    have c2 : ¬ (nI i < 0 ∨ 6 ≤ i) := inR' (by omega) (by decide)
    have e2 : gA s 2 i = bv (qH G i) := hp.2.2.1 i (by omega)
    obtain ⟨s', e, q1, q2, q3⟩ := ih (i + 1) f (sA s 13 i (bv (qH G i))) (by omega) (by omega) (hp.frame rfl rfl (fun a ha => gA_ne (by omega))) (by
      intro j hj
      rw [gA_eq]
      by_cases h : j = i
      · subst h; exact upd_s
      · rw [upd_n h]; exact h13 j (by omega))
    refine ⟨s', ?_, q1.sA, fun a h => (q2 a h).trans (gA_ne h), q3⟩
    rw [fX12_findWet_L2_s]
    simp only [hp.1, hci, if_neg (nI_ge (show i < qJ G by omega) (by omega)), if_pos c2, e2, bv_nar, lets, nI_1]
    exact e
theorem m_findWet (hw : Wf G) (hp : Pc G s) : ∃ s', fX12_findWet s = some ((), s') ∧ SI s s' ∧ (∀ a, a ≠ 13 → gA s' a = gA s a) ∧ ∀ j, j < qJ G → gA s' 13 j = bv ((wet G).testBit j) := by
  have hJ := hw.1
  obtain ⟨s1, e1, u1, u2, u3⟩ := wet_L2 hw (qJ G) 0 FU s (by omega) (by show qJ G < 1000000; omega) hp (fun j hj => absurd hj (by omega))
  obtain ⟨s2, e2, v1, v2, v3⟩ := wet_L30 hw (qJ G) 0 FU (hmask G (qJ G)) s1 (by omega) (by show qJ G < 1000000; omega) (hp.frame (u1.1 1) (u1.1 4) (fun a ha => u2 a (by omega))) (fun j hj => by rw [u3 j hj, hmask_bit, decide_eq_true hj]; rfl)
  refine ⟨s2, ?_, ⟨fun k => (v1.1 k).trans (u1.1 k), v1.2.1.trans u1.2.1, fun k => (v1.2.2 k).trans (u1.2.2 k)⟩, fun a h => (v2 a h).trans (u2 a h), fun j hj => by rw [v3 j hj]; unfold wet; rw [its_six hw (hmask_lt _)]⟩
  unfold fX12_findWet
  rw [show (0 : Int32) = nI 0 from rfl, e1]
  try rw [bnd_k]
  show bnd (fX12_findWet_L30 FU (nI 0) s1) _ = _
  rw [e2]; rfl
end WETX
