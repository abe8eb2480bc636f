/-! pieces of the relation that stay -/
theorem bnd_k {α β γ : Type} {a : α} {b : β} {f : α → β → Option γ} : bnd (some (a, b)) f = f a b := rfl
section OPS9
variable {V : Nat → MS → Prop} {nc : Nat} {x m x' m' s : MS}
theorem RJ.keep {J : Nat} (h : RJ J x m) (a1 : gI x' 1 = gI x 1) (a2 : gI m' 1 = gI m 1) (a3 : gA x' 2 = gA x 2) (a4 : gA x' 3 = gA x 3) (a5 : gA m' 2 = gA m 2) (a6 : gA m' 3 = gA m 3) : RJ J x' m' := by
  unfold RJ at *; rw [a1, a2, a3, a4, a5, a6]; exact h
theorem RC.keep {J : Nat} (h : RC J nc x m) (a1 : gI x' 4 = gI x 4) (a2 : gI m' 4 = gI m 4) (b5 : gA x' 5 = gA x 5) (b6 : gA x' 6 = gA x 6) (b7 : gA x' 7 = gA x 7) (b8 : gA x' 8 = gA x 8) (b9 : gA x' 9 = gA x 9) (b10 : gA x' 10 = gA x 10) (c5 : gA m' 5 = gA m 5) (c6 : gA m' 6 = gA m 6) (c7 : gA m' 7 = gA m 7) (c8 : gA m' 8 = gA m 8) (c9 : gA m' 9 = gA m 9) (c10 : gA m' 10 = gA m 10) : RC J nc x' m' := by
  unfold RC CK at *; rw [a1, a2, b5, b6, b7, b8, b9, b10, c5, c6, c7, c8, c9, c10]; exact h
theorem RS.keep {j : Nat} (h : RS j x m) (a1 : gI x' 11 = gI x 11) (a2 : gI m' 11 = gI m 11) (a3 : gI x' 12 = gI x 12) (a4 : gI m' 12 = gI m 12) (a5 : gI x' 0 = gI x 0) (a6 : gI m' 0 = gI m 0) (a7 : gI x' 38 = gI x 38) (a8 : gI m' 38 = gI m 38) : RS (j + 1) x' m' := by
  have h := h.next
  unfold RS at *; rw [a1, a2, a3, a4, a5, a6, a7, a8]; exact h
theorem RO.keep (h : RO x m) (a1 : gA x' 40 = gA x 40) (a2 : gA x' 41 = gA x 41) (a3 : gA x' 42 = gA x 42) (a4 : gA m' 34 = gA m 34) (a5 : gA m' 35 = gA m 35) (a6 : ∀ k, 90 ≤ k → k < 94 → gB x' k = gB x k) (a7 : gB m' 36 = gB m 36) : RO x' m' := by
  intro k hk
  rw [a1, a2, a3, a4, a5, a7, a6 (90 + k) (by omega) (by omega)]; exact h k hk
theorem RW.add {V V' : MS → Prop} {j n : Nat} (h : RW V j x) (hj : j < 512) (hn : 1 ≤ n) (hn2 : n ≤ 256) (h1 : gI x' 50 = gI x 50 + nI n) (h2 : gI x' 53 = gI x 53) : RW V' (j + 1) x' := by
  obtain ⟨c, hc, e, r⟩ := h
  refine ⟨c + n, by omega, by rw [h1, e]; exact nI_add c n, ?_⟩
  rw [h2]
  rcases r with r | ⟨d, hd, ed, -⟩
  · exact Or.inl r
  · exact Or.inr ⟨d, by omega, ed, fun h => absurd h (by omega)⟩
theorem op_keep (hV : KeepsW V) : OpI (RelV V) (fun nc σ => fX11_keep nc σ) (fun σ => fX12_keep σ) := by
  intro j nc x m hj hR
  obtain ⟨J, hJ, hC, hS, hK, hO, hW⟩ := id hR
  obtain ⟨h12, hx4, hm4, hcr⟩ := id hC
  obtain ⟨K, p, hK8, hp8, kx, km, px, hsl⟩ := id hK
  obtain ⟨S, hS1, sx, sm⟩ := hS.2.1
  obtain ⟨x', ex, i1, i2, i3, i4, i5, i6, i7, i8, i9⟩ := x_keep h12 hp8 hK8 hx4 px kx sx
  have fin : ∀ m', fX12_keep m = some (nI (min (K + 1) 8), m') → (∀ k, k ≠ 29 → gI m' k = gI m k) → (∀ k, gB m' k = gB m k) → (∀ a, a ≠ 30 → a ≠ 31 → a ≠ 32 → a ≠ 33 → gA m' a = gA m a) → RK (j + 1) nc x' m' → ∃ (r : Int32) (σx' σm' : MS), fX11_keep nc x = some (r, σx') ∧ fX12_keep m = some (r, σm') ∧ RelV V (j + 1) nc σx' σm' := by
    intro m' em n1 n2 n3 hk'
    have aX : ∀ a, a < 73 → gA x' a = gA x a := fun a ha => i6 a (by omega) (by omega) (by omega) (by omega)
    refine ⟨nI (min (K + 1) 8), x', m', ex, em, J, ?_, ?_, ?_, hk', ?_, ?_⟩
    · exact hJ.keep (i1 1 (by decide) (by decide)) (n1 1 (by decide)) (aX 2 (by decide)) (aX 3 (by decide)) (n3 2 (by decide) (by decide) (by decide) (by decide)) (n3 3 (by decide) (by decide) (by decide) (by decide))
    · exact hC.keep (i1 4 (by decide) (by decide)) (n1 4 (by decide)) (aX 5 (by decide)) (aX 6 (by decide)) (aX 7 (by decide)) (aX 8 (by decide)) (aX 9 (by decide)) (aX 10 (by decide)) (n3 5 (by decide) (by decide) (by decide) (by decide)) (n3 6 (by decide) (by decide) (by decide) (by decide)) (n3 7 (by decide) (by decide) (by decide) (by decide)) (n3 8 (by decide) (by decide) (by decide) (by decide)) (n3 9 (by decide) (by decide) (by decide) (by decide)) (n3 10 (by decide) (by decide) (by decide) (by decide))
    · exact hS.keep (i1 11 (by decide) (by decide)) (n1 11 (by decide)) (i1 12 (by decide) (by decide)) (n1 12 (by decide)) (i1 0 (by decide) (by decide)) (n1 0 (by decide)) (i1 38 (by decide) (by decide)) (n1 38 (by decide))
    · exact hO.keep (aX 40 (by decide)) (aX 41 (by decide)) (aX 42 (by decide)) (n3 34 (by decide) (by decide) (by decide) (by decide)) (n3 35 (by decide) (by decide) (by decide) (by decide)) (fun k _ _ => i5 k) (n2 36)
    · exact hW.keep hV ⟨i1 1 (by decide) (by decide), i1 4 (by decide) (by decide), aX 2 (by decide), aX 3 (by decide), aX 5 (by decide), aX 6 (by decide), aX 7 (by decide), aX 8 (by decide), i4, i1 51 (by decide) (by decide), i5 69, i5 70⟩ (i1 50 (by decide) (by decide)) (i1 53 (by decide) (by decide))
  show ∃ (r : Int32) (σx' σm' : MS), fX11_keep nc x = some (r, σx') ∧ fX12_keep m = some (r, σm') ∧ RelV V (j + 1) nc σx' σm'
  rcases Nat.lt_or_ge K 8 with hlt | hge
  · obtain ⟨m', em, n1, n2, n3, n4, n5, n6, n7, n8⟩ := m_keep1 h12 hlt hm4 km sm
    have hmin : min (K + 1) 8 = K + 1 := by omega
    refine fin m' ?_ n1 n3 n4 ?_
    · unfold fX12_keep
      rw [if_pos (by rw [km]; exact fun h => absurd ((nI_eq (b := 8) (by omega) (by decide)).mp h) (by omega)), em, hmin]
    · refine ⟨K + 1, (p + 1) % 8, by omega, by omega, by rw [i2, hmin], n2, i3, fun t ht => ?_⟩
      rcases Nat.lt_or_ge t K with htl | hte
      · have ez : ((p + 1) % 8 + 8 - (K + 1) + t) % 8 = (p + 8 - K + t) % 8 := by omega
        have nz : (p + 8 - K + t) % 8 ≠ p := by omega
        have lz : (p + 8 - K + t) % 8 < 8 := by omega
        obtain ⟨n, s, a1, a2, a3, a4, a5, a6, a7⟩ := hsl t htl
        rw [ez]
        refine ⟨n, s, a1, by omega, ?_, ?_, ?_, ?_, fun c hc => ?_⟩
        · rw [i8, if_neg nz]; exact a3
        · rw [n7, if_neg (by omega)]; exact a4
        · rw [i9, if_neg nz]; exact a5
        · rw [n8, if_neg (by omega)]; exact a6
        · rw [i6 _ (by omega) (by omega) (by omega) (by omega), i6 _ (by omega) (by omega) (by omega) (by omega), (n6 _ (by omega)).1, (n6 _ (by omega)).2]
          exact a7 c hc
      · obtain rfl : t = K := by omega
        have ez : ((p + 1) % 8 + 8 - (t + 1) + t) % 8 = p := by omega
        rw [ez]
        refine ⟨nc, S, Nat.le_refl _, by omega, ?_, ?_, ?_, ?_, fun c hc => ?_⟩
        · rw [i8, if_pos rfl]
        · rw [n7, if_pos rfl]
        · rw [i9, if_pos rfl]
        · rw [n8, if_pos rfl]
        · obtain ⟨⟨e5, e6, e7, e8, e9, e10⟩, a, b, k, w0, u, s, q1, q2, q3, q4, q5, q6, q7, q8, z5, z6, z7, z8, z9, z10⟩ := hcr c hc
          rw [(i7 c hc).1, (i7 c hc).2, (n5 c hc).1, (n5 c hc).2, e8, e10]
          exact ⟨w0, s, q5, q8, z8, z8, z10, z10⟩
  · obtain rfl : K = 8 := by omega
    obtain ⟨s1, e1, ⟨u1, u2, u3⟩, u4, u5, u6⟩ := keep_s1 7 0 FU m (by omega) (show 7 < 1000000 by omega)
    obtain ⟨s2, e2, ⟨v1, v2, v3⟩, v4, v5, v6⟩ := keep_s2 84 0 FU s1 (by omega) (show 84 < 1000000 by omega)
    have h4' : gI (sI s2 29 7) 4 = nI nc := ((v1 4).trans (u1 4)).trans hm4
    have hS' : gI (sI s2 29 7) 12 = nI S := ((v1 12).trans (u1 12)).trans sm
    obtain ⟨m', em, n1, n2, n3, n4, n5, n6, n7, n8⟩ := m_keep1 (m := sI s2 29 7) (p := 7) h12 (by decide) h4' rfl hS'
    have b30 : ∀ q, gA (sI s2 29 7) 30 q = gA s1 30 q := fun q => by show gA s2 30 q = _; rw [v4 30 (by decide) (by decide)]
    have b31 : ∀ q, gA (sI s2 29 7) 31 q = gA s1 31 q := fun q => by show gA s2 31 q = _; rw [v4 31 (by decide) (by decide)]
    refine fin m' ?_ ?_ ?_ ?_ ?_
    · unfold fX12_keep
      rw [if_neg (by rw [km]; exact fun h => h rfl), show fX12_keep_L11 FU 0 m = some ((), s1) from e1, bnd_k, show fX12_keep_L53 FU 0 s1 = some ((), s2) from e2, bnd_k]; exact em
    · intro k hk
      rw [n1 k hk, gI_ne hk]; exact (v1 k).trans (u1 k)
    · intro k
      rw [n3 k]; exact (v3 k).trans (u3 k)
    · intro a h1 h2 h3 h4
      rw [n4 a h1 h2 h3 h4]
      exact (v4 a h3 h4).trans (u4 a h1 h2)
    · refine ⟨8, (p + 1) % 8, by omega, by omega, i2, n2, i3, fun t ht => ?_⟩
      rcases Nat.lt_or_ge t 7 with htl | hte
      · have ez : ((p + 1) % 8 + 8 - 8 + t) % 8 = (p + 8 - 8 + (t + 1)) % 8 := by omega
        have nz : (p + 8 - 8 + (t + 1)) % 8 ≠ p := by omega
        have lz : (p + 8 - 8 + (t + 1)) % 8 < 8 := by omega
        obtain ⟨n, s, a1, a2, a3, a4, a5, a6, a7⟩ := hsl (t + 1) (by omega)
        rw [ez]
        refine ⟨n, s, a1, by omega, ?_, ?_, ?_, ?_, fun c hc => ?_⟩
        · rw [i8, if_neg nz]; exact a3
        · rw [n7, if_neg (by omega), b30, (u5 t (by omega) htl).1]; exact a4
        · rw [i9, if_neg nz]; exact a5
        · rw [n8, if_neg (by omega), b31, (u5 t (by omega) htl).2]; exact a6
        · have c32 : gA m' 32 (12 * t + c) = gA m 32 (12 * (t + 1) + c) := by
            rw [(n6 _ (by omega)).1]
            show gA s2 32 (12 * t + c) = _
            rw [(v5 _ (by omega) (by omega)).1, u4 32 (by decide) (by decide), show 12 * t + c + 12 = 12 * (t + 1) + c by omega]
          have c33 : gA m' 33 (12 * t + c) = gA m 33 (12 * (t + 1) + c) := by
            rw [(n6 _ (by omega)).2]
            show gA s2 33 (12 * t + c) = _
            rw [(v5 _ (by omega) (by omega)).2, u4 33 (by decide) (by decide), show 12 * t + c + 12 = 12 * (t + 1) + c by omega]
          rw [i6 _ (by omega) (by omega) (by omega) (by omega), i6 _ (by omega) (by omega) (by omega) (by omega), c32, c33]
          exact a7 c hc
      · obtain rfl : t = 7 := by omega
        have ez : ((p + 1) % 8 + 8 - 8 + 7) % 8 = p := by omega
        rw [ez]
        refine ⟨nc, S, Nat.le_refl _, by omega, ?_, ?_, ?_, ?_, fun c hc => ?_⟩
        · rw [i8, if_pos rfl]
        · rw [n7, if_pos rfl]
        · rw [i9, if_pos rfl]
        · rw [n8, if_pos rfl]
        · obtain ⟨⟨e5, e6, e7, e8, e9, e10⟩, a, b, k, w0, u, s, q1, q2, q3, q4, q5, q6, q7, q8, z5, z6, z7, z8, z9, z10⟩ := hcr c hc
          have d8 : gA (sI s2 29 7) 8 c = gA m 8 c := by show gA s2 8 c = _; rw [v4 8 (by decide) (by decide), u4 8 (by decide) (by decide)]
          have d10 : gA (sI s2 29 7) 10 c = gA m 10 c := by show gA s2 10 c = _; rw [v4 10 (by decide) (by decide), u4 10 (by decide) (by decide)]
          rw [(i7 c hc).1, (i7 c hc).2, (n5 c hc).1, (n5 c hc).2, e8, e10, d8, d10]
          exact ⟨w0, s, q5, q8, z8, z8, z10, z10⟩
/-! going back -/
theorem pop_L {p n : Nat} (h12 : nc ≤ 12) (hp : p < 8) (hn : n ≤ nc) : ∀ (d i fu : Nat) (s : MS), i + d = n → d < fu → gI s 58 = nI p → gA s 73 p = nI n → ∃ s', fX4_pop_L28 nc fu (nI i) s = some ((), s') ∧ (∀ k, k ≠ 50 → gI s' k = gI s k) ∧ gI s' 50 = gI s 50 + nI d ∧ gL s' = gL s ∧ (∀ k, gB s' k = gB s k) ∧ (∀ a, a ≠ 8 → a ≠ 10 → gA s' a = gA s a) ∧ (∀ c, i ≤ c → c < n → gA s' 8 c = gA s (110 + p) c ∧ gA s' 10 c = gA s (120 + p) c) ∧ (∀ c, (c < i ∨ n ≤ c) → gA s' 8 c = gA s 8 c ∧ gA s' 10 c = gA s 10 c) := by
  have hcp : (nI p).toNatClampNeg = p := nI_clamp (by omega)
  have c1 : ¬ (nI p < 0 ∨ 8 ≤ p) := inR' hp (by decide)
  intro d
  induction d with
  | zero =>
    intro i fu s hi hf h58 h73
    obtain ⟨f, rfl⟩ : ∃ f, fu = f + 1 := ⟨fu - 1, by omega⟩
    obtain rfl : i = n := by omega
    refine ⟨s, ?_, fun _ _ => rfl, ?_, rfl, fun _ => rfl, fun _ _ _ => rfl, fun c h1 h2 => absurd h1 (by omega), fun _ _ => ⟨rfl, rfl⟩⟩
    · rw [fX4_pop_L28_s, h58, hcp, if_pos c1, h73, if_pos (nI_le (Nat.le_refl _) (by omega))]
    · exact (Int32.add_zero _).symm
  | succ d ih =>
    intro i fu s hi hf h58 h73
    obtain ⟨f, rfl⟩ : ∃ f, fu = f + 1 := ⟨fu - 1, by omega⟩
    have hci : (nI i).toNatClampNeg = i := nI_clamp (by omega)
    have c2 : ¬ (nI i < 0 ∨ 12 ≤ i) := inR' (by omega) (by decide)
    have c3 : i < nc := by omega
    obtain ⟨s', e, q1, q2, q3, q4, q5, q6, q7⟩ := ih (i + 1) f (sA (sI (sA (sA s 8 i (gA s (110 + p) i)) 10 i 0) 50 (gI s 50 + 1)) 10 i (gA (sI (sA (sA s 8 i (gA s (110 + p) i)) 10 i 0) 50 (gI s 50 + 1)) (120 + p) i)) (by omega) (by omega) h58 h73
    have k120 : ∀ c, gA (sI (sA (sA s 8 i (gA s (110 + p) i)) 10 i 0) 50 (gI s 50 + 1)) (120 + p) c = gA s (120 + p) c := by
      intro c
      show gA (sA (sA s 8 i (gA s (110 + p) i)) 10 i 0) (120 + p) c = _
      rw [gA_ne (by omega), gA_ne (by omega)]
    refine ⟨s', ?_, ?_, ?_, q3, q4, ?_, ?_, ?_⟩
    · rw [fX4_pop_L28_s]
      simp only [h58, hcp, hci, h73, if_pos c1, if_neg (nI_ge (show i < n by omega) (by omega)), if_pos hp, if_pos c2, x_setWidth h12 c3, bnd]
      have h58' : gI (sI (sA (sA s 8 i (gA s (110 + p) i)) 10 i 0) 50 (gI s 50 + 1)) 58 = nI p := h58
      simp only [h58', hcp, if_pos c1, if_pos c3, if_pos hp, lets, nI_1]
      exact e
    · intro k hk
      rw [q1 k hk, gI_sA, gI_ne hk]; rfl
    · rw [q2]
      show gI s 50 + 1 + nI d = _
      rw [Int32.add_assoc, Int32.add_comm 1, nI_1]
    · intro a h1 h2
      rw [q5 a h1 h2, gA_ne h2]
      show gA (sA (sA s 8 i (gA s (110 + p) i)) 10 i 0) a = _
      rw [gA_ne h2, gA_ne h1]
    · intro c h1 h2
      by_cases h : c = i
      · subst h
        obtain ⟨a1, a2⟩ := q7 c (by omega)
        rw [a1, a2, gAs, if_pos rfl, k120, gA_ne (by decide)]
        refine ⟨?_, rfl⟩
        show gA (sA (sA s 8 c (gA s (110 + p) c)) 10 c 0) 8 c = _
        rw [gA_ne (by decide), gAs, if_pos rfl]
      · obtain ⟨a1, a2⟩ := q6 c (by omega) h2
        rw [a1, a2, gA_ne (by omega), gA_ne (by omega), k120]
        refine ⟨?_, rfl⟩
        show gA (sA (sA s 8 i (gA s (110 + p) i)) 10 i 0) (110 + p) c = _
        rw [gA_ne (by omega), gA_ne (by omega)]
    · intro c h1
      obtain ⟨a1, a2⟩ := q7 c (by omega)
      rw [a1, a2, gAs, if_neg (by omega), gA_ne (by decide)]
      refine ⟨?_, ?_⟩
      · show gA (sA (sA s 8 i (gA s (110 + p) i)) 10 i 0) 8 c = _
        rw [gA_ne (by decide), gAs, if_neg (by omega)]
      · show gA (sA (sA s 8 i (gA s (110 + p) i)) 10 i 0) 10 c = _
        rw [gAs, if_neg (by omega), gA_ne (by decide)]
theorem back_L {p n : Nat} (hp : p < 8) (hn : n ≤ 12) : ∀ (d i fu : Nat) (s : MS), i + d = n → d < fu → gI s 29 = nI p → gA s 30 p = nI n → ∃ s', fX12_back_L35 fu (nI i) s = some ((), s') ∧ SI s s' ∧ (∀ a, a ≠ 8 → a ≠ 10 → gA s' a = gA s a) ∧ (∀ c, i ≤ c → c < n → gA s' 8 c = gA s 32 (12 * p + c) ∧ gA s' 10 c = gA s 33 (12 * p + c)) ∧ (∀ c, (c < i ∨ n ≤ c) → gA s' 8 c = gA s 8 c ∧ gA s' 10 c = gA s 10 c) := by
  have hcp : (nI p).toNatClampNeg = p := nI_clamp (by omega)
  have c1 : ¬ (nI p < 0 ∨ 8 ≤ p) := inR' hp (by decide)
  intro d
  induction d with
  | zero =>
    intro i fu s hi hf h58 h73
    obtain ⟨f, rfl⟩ : ∃ f, fu = f + 1 := ⟨fu - 1, by omega⟩
    obtain rfl : i = n := by omega
    refine ⟨s, ?_, SI.rfl', fun _ _ _ => rfl, fun c h1 h2 => absurd h1 (by omega), fun _ _ => ⟨rfl, rfl⟩⟩
    rw [fX12_back_L35_s, h58, hcp, if_pos c1, h73, if_pos (nI_le (Nat.le_refl _) (by omega))]
  | succ d ih =>
    intro i fu s hi hf h58 h73
    obtain ⟨f, rfl⟩ : ∃ f, fu = f + 1 := ⟨fu - 1, by omega⟩
    have hci : (nI i).toNatClampNeg = i := nI_clamp (by omega)
    have hcq : (nI (12 * p + i)).toNatClampNeg = 12 * p + i := nI_clamp (by omega)
    have c2 : ¬ (nI i < 0 ∨ 12 ≤ i) := inR' (by omega) (by decide)
    have c3 : ¬ (nI (12 * p + i) < 0 ∨ 96 ≤ 12 * p + i) := inR' (by omega) (by decide)
    obtain ⟨s', e, q1, q2, q3, q4⟩ := ih (i + 1) f (sA (sA s 8 i (gA s 32 (12 * p + i))) 10 i (gA (sA s 8 i (gA s 32 (12 * p + i))) 33 (12 * p + i))) (by omega) (by omega) h58 h73
    refine ⟨s', ?_, q1.sA.sA, ?_, ?_, ?_⟩
    · rw [fX12_back_L35_s]
      simp only [lets, gI_sA, h58, hcp, hci, ix12, hcq, h73, if_pos c1, if_neg (nI_ge (show i < n by omega) (by omega)), if_pos c2, if_pos c3, nI_1]
      exact e
    · intro a h1 h2
      rw [q2 a h1 h2, gA_ne h2, gA_ne h1]
    · intro c h1 h2
      by_cases h : c = i
      · subst h
        obtain ⟨a1, a2⟩ := q4 c (by omega)
        rw [a1, a2, gAs, if_pos rfl, gA_ne (by decide), gAs, if_pos rfl, gA_ne (by decide)]
        exact ⟨rfl, rfl⟩
      · obtain ⟨a1, a2⟩ := q3 c (by omega) h2
        rw [a1, a2, gA_ne (by omega), gA_ne (by omega), gA_ne (by omega), gA_ne (by omega)]
        exact ⟨rfl, rfl⟩
    · intro c h1
      obtain ⟨a1, a2⟩ := q4 c (by omega)
      rw [a1, a2, gA_ne (by decide), gAs, if_neg (by omega), gAs, if_neg (by omega), gA_ne (by decide)]
      exact ⟨rfl, rfl⟩
end OPS9
