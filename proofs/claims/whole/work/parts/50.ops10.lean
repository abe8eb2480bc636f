section OPS10
variable {V : Nat → MS → Prop} {nc : Nat} {x m x' m' s : MS}
theorem op_back (hV : KeepsW V) : OpI (RelV V) (fun nc σ => fX11_back nc σ) (fun σ => fX12_back σ) := by
  intro j nc x m hj hR
  obtain ⟨J, hJ, hC, hS, hK, hO, hW⟩ := id hR
  obtain ⟨h12, hx4, hm4, hcr⟩ := id hC
  obtain ⟨K, p, hK8, hp8, kx, km, px, hsl⟩ := id hK
  rcases Nat.eq_zero_or_pos K with h0 | hpos
  · subst h0
    refine ⟨-3, x, m, ?_, ?_, hR.next⟩
    · show fX11_back nc x = _
      unfold fX11_back; rw [kx]; rfl
    · show fX12_back m = _
      unfold fX12_back; rw [km]; rfl
  obtain ⟨K, rfl⟩ : ∃ K', K = K' + 1 := ⟨K - 1, by omega⟩
  have hp7 : (p + 7) % 8 < 8 := by omega
  have hcp : (nI ((p + 7) % 8)).toNatClampNeg = (p + 7) % 8 := nI_clamp (by omega)
  have hcK : (nI K).toNatClampNeg = K := nI_clamp (by omega)
  have c1 : ¬ (nI ((p + 7) % 8) < 0 ∨ 8 ≤ (p + 7) % 8) := inR' hp7 (by decide)
  have c2 : ¬ (nI K < 0 ∨ 8 ≤ K) := inR' (by omega) (by decide)
  have hne : ¬ nI (K + 1) = 0 := fun h => absurd ((nI_eq (b := 0) (by omega) (by decide)).mp h) (by omega)
  obtain ⟨n, S, a1, a2, a3, a4, a5, a6, a7⟩ := hsl K (by omega)
  have ez : (p + 8 - (K + 1) + K) % 8 = (p + 7) % 8 := by omega
  rw [ez] at a3 a5 a7
  obtain ⟨x1, ex, u1, u2, u3, u4, u5, u6, u7⟩ := pop_L h12 hp7 a1 n 0 FU (sI (sI x 58 (nI ((p + 7) % 8))) 29 (nI K)) (by omega) (show n < 1000000 by omega) rfl a3
  obtain ⟨m1, em, ⟨v1, v2, v3⟩, v4, v5, v6⟩ := back_L (p := K) (by omega) (show n ≤ 12 by omega) n 0 FU (sI (sI m 29 (nI K)) 12 (nI S)) (by omega) (show n < 1000000 by omega) rfl a4
  have g74 : gA x1 74 ((p + 7) % 8) = nI S := by rw [u5 74 (by decide) (by decide)]; exact a5
  have gp : gI x1 58 = nI ((p + 7) % 8) := u1 58 (by decide)
  have gk : gI x1 29 = nI K := u1 29 (by decide)
  have gkm : gI m1 29 = nI K := v1 29
  have aX : ∀ a, a ≠ 8 → a ≠ 10 → gA x1 a = gA x a := fun a h1 h2 => u5 a h1 h2
  have aM : ∀ a, a ≠ 8 → a ≠ 10 → gA m1 a = gA m a := fun a h1 h2 => v4 a h1 h2
  have iX : ∀ k, k ≠ 12 → k ≠ 29 → k ≠ 50 → k ≠ 58 → gI (sI x1 12 (nI S)) k = gI x k := fun k h1 h2 h3 h4 => by rw [gI_ne h1, u1 k h3, gI_ne h2, gI_ne h4]
  have iM : ∀ k, k ≠ 12 → k ≠ 29 → gI m1 k = gI m k := fun k h1 h2 => by rw [v1 k, gI_ne h1, gI_ne h2]
  refine ⟨nI K, sI x1 12 (nI S), m1, ?_, ?_, J, ?_, ?_, ?_, ?_, ?_, ?_⟩
  · show fX11_back nc x = _
    unfold fX11_back fX4_pop
    rw [kx, if_pos hne]
    simp only [lets, gI_eq, gI_ne (show (29 : Nat) ≠ 58 by decide), px, ring7 p hp8, kx, nI_pred]
    rw [show (0 : Int32) = nI 0 from rfl, ex]
    have c1' : ¬ (nI ((p + 7) % 8) < nI 0 ∨ 8 ≤ (p + 7) % 8) := c1
    simp only [bnd, gp, hcp, if_pos c1', g74, gI_ne (show (29 : Nat) ≠ 12 by decide), gk]
  · show fX12_back m = _
    unfold fX12_back
    rw [km, if_pos hne]
    simp only [lets, gI_eq, nI_pred, hcK, if_pos c2, gA_sI, a6]
    rw [show (0 : Int32) = nI 0 from rfl, em]
    simp only [bnd, gkm]
  · exact hJ.keep (iX 1 (by decide) (by decide) (by decide) (by decide)) (iM 1 (by decide) (by decide)) (aX 2 (by decide) (by decide)) (aX 3 (by decide) (by decide)) (aM 2 (by decide) (by decide)) (aM 3 (by decide) (by decide))
  · refine ⟨h12, (iX 4 (by decide) (by decide) (by decide) (by decide)).trans hx4, (iM 4 (by decide) (by decide)).trans hm4, fun c hc => ?_⟩
    show (gA x1 5 c = gA m1 5 c ∧ gA x1 6 c = gA m1 6 c ∧ gA x1 7 c = gA m1 7 c ∧ gA x1 8 c = gA m1 8 c ∧ gA x1 9 c = gA m1 9 c ∧ gA x1 10 c = gA m1 10 c) ∧ CK J m1 c
    unfold CK
    rw [aX 5 (by decide) (by decide), aX 6 (by decide) (by decide), aX 7 (by decide) (by decide), aX 9 (by decide) (by decide), aM 5 (by decide) (by decide), aM 6 (by decide) (by decide), aM 7 (by decide) (by decide), aM 9 (by decide) (by decide)]
    obtain ⟨⟨e5, e6, e7, e8, e9, e10⟩, a, b, k, w0, u, s, q1, q2, q3, q4, q5, q6, q7, q8, z5, z6, z7, z8, z9, z10⟩ := hcr c hc
    rcases Nat.lt_or_ge c n with hlt | hge
    · obtain ⟨w, z, b1, b2, b3, b4, b5, b6⟩ := a7 c hlt
      have d8 : gA x1 8 c = nI w := ((u6 c (by omega) hlt).1).trans b3
      have d10 : gA x1 10 c = nI z := ((u6 c (by omega) hlt).2).trans b5
      have d8' : gA m1 8 c = nI w := ((v5 c (by omega) hlt).1).trans b4
      have d10' : gA m1 10 c = nI z := ((v5 c (by omega) hlt).2).trans b6
      rw [d8, d10, d8', d10']
      exact ⟨⟨e5, e6, e7, rfl, e9, rfl⟩, a, b, k, w, u, z, q1, q2, q3, q4, b1, q6, q7, b2, z5, z6, z7, rfl, z9, rfl⟩
    · have d8 : gA x1 8 c = gA x 8 c := (u7 c (by omega)).1
      have d10 : gA x1 10 c = gA x 10 c := (u7 c (by omega)).2
      have d8' : gA m1 8 c = gA m 8 c := (v6 c (by omega)).1
      have d10' : gA m1 10 c = gA m 10 c := (v6 c (by omega)).2
      rw [d8, d10, d8', d10']
      exact ⟨⟨e5, e6, e7, e8, e9, e10⟩, a, b, k, w0, u, s, q1, q2, q3, q4, q5, q6, q7, q8, z5, z6, z7, z8, z9, z10⟩
  · obtain ⟨⟨r, r1, r2, r3, r4⟩, -, hf, ht⟩ := hS
    refine ⟨⟨r, r1, r2, (iX 11 (by decide) (by decide) (by decide) (by decide)).trans r3, (iM 11 (by decide) (by decide)).trans r4⟩, ⟨S, by omega, rfl, v1 12⟩, ?_, ?_⟩
    · rw [iX 0 (by decide) (by decide) (by decide) (by decide), iM 0 (by decide) (by decide)]; exact hf
    · rw [iX 38 (by decide) (by decide) (by decide) (by decide), iM 38 (by decide) (by decide)]; exact ht
  · refine ⟨K, (p + 7) % 8, by omega, hp7, gk, gkm, gp, fun t ht => ?_⟩
    obtain ⟨n', s', b1, b2, b3, b4, b5, b6, b7⟩ := hsl t (by omega)
    have ez' : ((p + 7) % 8 + 8 - K + t) % 8 = (p + 8 - (K + 1) + t) % 8 := by omega
    rw [ez']
    refine ⟨n', s', b1, by omega, ?_, ?_, ?_, ?_, fun c hc => ?_⟩
    · show gA x1 73 _ = _
      rw [aX 73 (by decide) (by decide)]; exact b3
    · rw [aM 30 (by decide) (by decide)]; exact b4
    · show gA x1 74 _ = _
      rw [aX 74 (by decide) (by decide)]; exact b5
    · rw [aM 31 (by decide) (by decide)]; exact b6
    · show ∃ w z : Nat, w ≤ 12 ∧ z ≤ 999 ∧ gA x1 (110 + (p + 8 - (K + 1) + t) % 8) c = nI w ∧ gA m1 32 (12 * t + c) = nI w ∧ gA x1 (120 + (p + 8 - (K + 1) + t) % 8) c = nI z ∧ gA m1 33 (12 * t + c) = nI z
      rw [aX (110 + (p + 8 - (K + 1) + t) % 8) (by omega) (by omega), aX (120 + (p + 8 - (K + 1) + t) % 8) (by omega) (by omega), aM 32 (by decide) (by decide), aM 33 (by decide) (by decide)]
      exact b7 c hc
  · exact hO.keep (aX 40 (by decide) (by decide)) (aX 41 (by decide) (by decide)) (aX 42 (by decide) (by decide)) (aM 34 (by decide) (by decide)) (aM 35 (by decide) (by decide)) (fun k _ _ => u4 k) (v3 36)
  · rcases Nat.eq_zero_or_pos n with hn0 | hn1
    · subst hn0
      have d8 : gA x1 8 = gA x 8 := funext fun c => (u7 c (by omega)).1
      refine hW.keep hV ⟨iX 1 (by decide) (by decide) (by decide) (by decide), iX 4 (by decide) (by decide) (by decide) (by decide), aX 2 (by decide) (by decide), aX 3 (by decide) (by decide), aX 5 (by decide) (by decide), aX 6 (by decide) (by decide), aX 7 (by decide) (by decide), d8, u3, iX 51 (by decide) (by decide) (by decide) (by decide), u4 69, u4 70⟩ ?_ (iX 53 (by decide) (by decide) (by decide) (by decide))
      rw [gI_ne (by decide), u2, gI_ne (by decide), gI_ne (by decide)]; exact Int32.add_zero _
    · refine hW.add hj hn1 (by omega) ?_ (iX 53 (by decide) (by decide) (by decide) (by decide))
      rw [gI_ne (by decide), u2, gI_ne (by decide), gI_ne (by decide)]
/-! widths from a core -/
/-- a long is a width -/
def okW (v : Int64) : Prop := ¬ v < 0 ∧ ¬ 12 < v
theorem okW_nat {v : Int64} (h : okW v) : ∃ w : Nat, w ≤ 12 ∧ v.toInt32 = nI w := by
  obtain ⟨h1, h2⟩ := h
  rw [Int64.lt_iff_toInt_lt] at h1 h2
  have e0 : (0 : Int64).toInt = 0 := by decide
  have e12 : (12 : Int64).toInt = 12 := by decide
  refine ⟨v.toInt.toNat, by omega, ?_⟩
  refine Int32.toInt_inj.mp ?_
  rw [nI_tl (by omega), Int64.toInt_toInt32]
  rw [Int.bmod_eq_of_le (by omega) (by omega)]; omega
theorem wi_x {k i n : Nat} (hk : k < 4) (hn : i + n ≤ 24) : ∀ (d t fu : Nat), t + d = n → d < fu → (fX1_areWithin_L3 nc k (nI i) (nI n) 0 12 fu (nI t) s = some (Sum.inr (), s) ∧ ∀ q, t ≤ q → q < n → okW (gB s (90 + k) (i + q))) ∨ (fX1_areWithin_L3 nc k (nI i) (nI n) 0 12 fu (nI t) s = some (Sum.inl 0, s) ∧ ∃ q, t ≤ q ∧ q < n ∧ ¬ okW (gB s (90 + k) (i + q))) := by
  intro d
  induction d with
  | zero =>
    intro t fu ht hf
    obtain ⟨f, rfl⟩ : ∃ f, fu = f + 1 := ⟨fu - 1, by omega⟩
    obtain rfl : t = n := by omega
    refine Or.inl ⟨?_, fun q h1 h2 => absurd h1 (by omega)⟩
    rw [fX1_areWithin_L3_s, if_pos (nI_le (Nat.le_refl _) (by omega))]
  | succ d ih =>
    intro t fu ht hf
    obtain ⟨f, rfl⟩ : ∃ f, fu = f + 1 := ⟨fu - 1, by omega⟩
    have hcq : (nI (i + t)).toNatClampNeg = i + t := nI_clamp (by omega)
    have c3 : ¬ (nI (i + t) < 0 ∨ 24 ≤ i + t) := inR' (by omega) (by decide)
    rw [fX1_areWithin_L3_s]
    simp only [if_neg (nI_ge (show t < n by omega) (by omega)), if_pos hk, nI_add, hcq, if_pos c3, nI_1]
    unfold fX11_isWithin
    rw [show (0 : Int32).toInt64 = (0 : Int64) from rfl, show (12 : Int32).toInt64 = (12 : Int64) from rfl]
    simp only [cmp_lt, cmp_gt]
    by_cases h1 : gB s (90 + k) (i + t) < 0
    · rw [if_pos h1]
      exact Or.inr ⟨rfl, t, Nat.le_refl _, by omega, fun h => h.1 h1⟩
    · rw [if_neg h1]
      by_cases h2 : 12 < gB s (90 + k) (i + t)
      · rw [if_pos h2]
        exact Or.inr ⟨rfl, t, Nat.le_refl _, by omega, fun h => h.2 h2⟩
      · rw [if_neg h2]
        rcases ih (t + 1) f (by omega) (by omega) with ⟨e, z⟩ | ⟨e, q, z1, z2, z3⟩
        · refine Or.inl ⟨e, fun q h3 h4 => ?_⟩
          by_cases hq : q = t
          · subst hq; exact ⟨h1, h2⟩
          · exact z q (by omega) h4
        · exact Or.inr ⟨e, q, by omega, z2, z3⟩
theorem wi_m {k i n : Nat} {x5 : Int32} (hk : k < 4) (hn : i + n ≤ 24) : ∀ (d t fu : Nat), t + d = n → d < fu → (fX12_widths_L127 (nI k) (nI i) (nI n) x5 fu (nI t) s = some (Sum.inr (), s) ∧ ∀ q, t ≤ q → q < n → okW (gB s 36 (24 * k + i + q))) ∨ (fX12_widths_L127 (nI k) (nI i) (nI n) x5 fu (nI t) s = some (Sum.inl (-2), sI s 0 0) ∧ ∃ q, t ≤ q ∧ q < n ∧ ¬ okW (gB s 36 (24 * k + i + q))) := by
  intro d
  induction d with
  | zero =>
    intro t fu ht hf
    obtain ⟨f, rfl⟩ : ∃ f, fu = f + 1 := ⟨fu - 1, by omega⟩
    obtain rfl : t = n := by omega
    refine Or.inl ⟨?_, fun q h1 h2 => absurd h1 (by omega)⟩
    rw [fX12_widths_L127_s, if_pos (nI_le (Nat.le_refl _) (by omega))]
  | succ d ih =>
    intro t fu ht hf
    obtain ⟨f, rfl⟩ : ∃ f, fu = f + 1 := ⟨fu - 1, by omega⟩
    have hcq : (nI (24 * k + i + t)).toNatClampNeg = 24 * k + i + t := nI_clamp (by omega)
    have c3 : ¬ (nI (24 * k + i + t) < 0 ∨ 96 ≤ 24 * k + i + t) := inR' (by omega) (by decide)
    rw [fX12_widths_L127_s]
    simp only [if_neg (nI_ge (show t < n by omega) (by omega)), ix24', hcq, if_pos c3, nI_1]
    by_cases h1 : gB s 36 (24 * k + i + t) < 0
    · rw [if_pos ((cmp_lt _ _).mpr h1)]
      exact Or.inr ⟨rfl, t, Nat.le_refl _, by omega, fun h => h.1 h1⟩
    · rw [if_neg (fun h => h1 ((cmp_lt _ _).mp h))]
      by_cases h2 : 12 < gB s 36 (24 * k + i + t)
      · have h3 : ¬ lg_cmp (gB s 36 (24 * k + i + t)) 12 ≤ 0 := by
          have h4 := (cmp_gt (gB s 36 (24 * k + i + t)) 12).mpr h2
          rw [Int32.lt_iff_toInt_lt] at h4; rw [Int32.le_iff_toInt_le]; omega
        rw [if_neg h3]
        exact Or.inr ⟨rfl, t, Nat.le_refl _, by omega, fun h => h.2 h2⟩
      · have h3 : lg_cmp (gB s 36 (24 * k + i + t)) 12 ≤ 0 := by
          have h4 : ¬ 0 < lg_cmp (gB s 36 (24 * k + i + t)) 12 := fun h => h2 ((cmp_gt _ _).mp h)
          rw [Int32.lt_iff_toInt_lt] at h4; rw [Int32.le_iff_toInt_le]; omega
        rw [if_pos h3]
        rcases ih (t + 1) f (by omega) (by omega) with ⟨e, z⟩ | ⟨e, q, z1, z2, z3⟩
        · refine Or.inl ⟨e, fun q h3 h4 => ?_⟩
          by_cases hq : q = t
          · subst hq; exact ⟨h1, h2⟩
          · exact z q (by omega) h4
        · exact Or.inr ⟨e, q, by omega, z2, z3⟩
theorem ws_x {k i n c : Nat} (h12 : nc ≤ 12) (hk : k < 4) (hn : i + n ≤ 24) (hc : c + n ≤ nc) : ∀ (d t fu : Nat) (s : MS), t + d = n → d < fu → ∃ s', fX11_widths_L136 nc (nI i) (nI n) (nI c) k fu (nI t) s = some ((), s') ∧ (∀ z, z ≠ 50 → gI s' z = gI s z) ∧ gI s' 50 = gI s 50 + nI d ∧ gL s' = gL s ∧ (∀ z, gB s' z = gB s z) ∧ (∀ a, a ≠ 8 → a ≠ 10 → gA s' a = gA s a) ∧ (∀ q, t ≤ q → q < n → gA s' 8 (c + q) = (gB s (90 + k) (i + q)).toInt32 ∧ gA s' 10 (c + q) = 0) ∧ (∀ q, (q < c + t ∨ c + n ≤ q) → gA s' 8 q = gA s 8 q ∧ gA s' 10 q = gA s 10 q) := by
  intro d
  induction d with
  | zero =>
    intro t fu s ht hf
    obtain ⟨f, rfl⟩ : ∃ f, fu = f + 1 := ⟨fu - 1, by omega⟩
    obtain rfl : t = n := by omega
    refine ⟨s, ?_, fun _ _ => rfl, (Int32.add_zero _).symm, rfl, fun _ => rfl, fun _ _ _ => rfl, fun q h1 h2 => absurd h1 (by omega), fun _ _ => ⟨rfl, rfl⟩⟩
    rw [fX11_widths_L136_s, if_pos (nI_le (Nat.le_refl _) (by omega))]
  | succ d ih =>
    intro t fu s ht hf
    obtain ⟨f, rfl⟩ : ∃ f, fu = f + 1 := ⟨fu - 1, by omega⟩
    have hcq : (nI (i + t)).toNatClampNeg = i + t := nI_clamp (by omega)
    have c3 : ¬ (nI (i + t) < 0 ∨ 24 ≤ i + t) := inR' (by omega) (by decide)
    have c4 : c + t < nc := by omega
    obtain ⟨s', e, q1, q2, q3, q4, q5, q6, q7⟩ := ih (t + 1) f (sI (sA (sA s 8 (c + t) (gB s (90 + k) (i + t)).toInt32) 10 (c + t) 0) 50 (gI s 50 + 1)) (by omega) (by omega)
    refine ⟨s', ?_, ?_, ?_, q3, q4, ?_, ?_, ?_⟩
    · rw [fX11_widths_L136_s]
      simp only [if_neg (nI_ge (show t < n by omega) (by omega)), if_pos hk, nI_add, hcq, if_pos c3, x_setWidth h12 c4, bnd, nI_1]
      exact e
    · intro z hz
      rw [q1 z hz, gI_ne hz]; rfl
    · rw [q2]
      show gI s 50 + 1 + nI d = _
      rw [Int32.add_assoc, Int32.add_comm 1, nI_1]
    · intro a h1 h2
      rw [q5 a h1 h2]
      show gA (sA (sA s 8 (c + t) _) 10 (c + t) 0) a = _
      rw [gA_ne h2, gA_ne h1]
    · intro q h1 h2
      by_cases h : q = t
      · subst h
        obtain ⟨a1, a2⟩ := q7 (c + q) (by omega)
        rw [a1, a2]
        refine ⟨?_, ?_⟩
        · show gA (sA (sA s 8 (c + q) _) 10 (c + q) 0) 8 (c + q) = _
          rw [gA_ne (by decide), gAs, if_pos rfl]
        · show gA (sA (sA s 8 (c + q) _) 10 (c + q) 0) 10 (c + q) = _
          rw [gAs, if_pos rfl]
      · exact q6 q (by omega) h2
    · intro q h1
      obtain ⟨a1, a2⟩ := q7 q (by omega)
      rw [a1, a2]
      refine ⟨?_, ?_⟩
      · show gA (sA (sA s 8 (c + t) _) 10 (c + t) 0) 8 q = _
        rw [gA_ne (by decide), gAs, if_neg (by omega)]
      · show gA (sA (sA s 8 (c + t) _) 10 (c + t) 0) 10 q = _
        rw [gAs, if_neg (by omega), gA_ne (by decide)]
theorem ws_m {k i n c : Nat} (hk : k < 4) (hn : i + n ≤ 24) (hc : c + n ≤ 12) : ∀ (d t fu : Nat) (s : MS), t + d = n → d < fu → ∃ s', fX12_widths_L182 (nI k) (nI i) (nI n) (nI c) fu (nI t) s = some ((), s') ∧ SI s s' ∧ (∀ a, a ≠ 8 → a ≠ 10 → gA s' a = gA s a) ∧ (∀ q, t ≤ q → q < n → gA s' 8 (c + q) = (gB s 36 (24 * k + i + q)).toInt32 ∧ gA s' 10 (c + q) = 0) ∧ (∀ q, (q < c + t ∨ c + n ≤ q) → gA s' 8 q = gA s 8 q ∧ gA s' 10 q = gA s 10 q) := by
  intro d
  induction d with
  | zero =>
    intro t fu s ht hf
    obtain ⟨f, rfl⟩ : ∃ f, fu = f + 1 := ⟨fu - 1, by omega⟩
    obtain rfl : t = n := by omega
    refine ⟨s, ?_, SI.rfl', fun _ _ _ => rfl, fun q h1 h2 => absurd h1 (by omega), fun _ _ => ⟨rfl, rfl⟩⟩
    rw [fX12_widths_L182_s, if_pos (nI_le (Nat.le_refl _) (by omega))]
  | succ d ih =>
    intro t fu s ht hf
    obtain ⟨f, rfl⟩ : ∃ f, fu = f + 1 := ⟨fu - 1, by omega⟩
    have hcq : (nI (24 * k + i + t)).toNatClampNeg = 24 * k + i + t := nI_clamp (by omega)
    have hcc : (nI (c + t)).toNatClampNeg = c + t := nI_clamp (by omega)
    have c3 : ¬ (nI (24 * k + i + t) < 0 ∨ 96 ≤ 24 * k + i + t) := inR' (by omega) (by decide)
    have c4 : ¬ (nI (c + t) < 0 ∨ 12 ≤ c + t) := inR' (by omega) (by decide)
    obtain ⟨s', e, q1, q5, q6, q7⟩ := ih (t + 1) f (sA (sA s 8 (c + t) (gB s 36 (24 * k + i + t)).toInt32) 10 (c + t) 0) (by omega) (by omega)
    refine ⟨s', ?_, q1.sA.sA, ?_, ?_, ?_⟩
    · rw [fX12_widths_L182_s]
      simp only [if_neg (nI_ge (show t < n by omega) (by omega)), ix24', nI_add, hcq, hcc, if_pos c3, if_pos c4, lets, nI_1]
      exact e
    · intro a h1 h2
      rw [q5 a h1 h2, gA_ne h2, gA_ne h1]
    · intro q h1 h2
      by_cases h : q = t
      · subst h
        obtain ⟨a1, a2⟩ := q7 (c + q) (by omega)
        rw [a1, a2, gA_ne (by decide), gAs, if_pos rfl, gAs, if_pos rfl]
        exact ⟨rfl, rfl⟩
      · exact q6 q (by omega) h2
    · intro q h1
      obtain ⟨a1, a2⟩ := q7 q (by omega)
      rw [a1, a2, gA_ne (by decide), gAs, if_neg (by omega), gAs, if_neg (by omega), gA_ne (by decide)]
      exact ⟨rfl, rfl⟩
end OPS10
