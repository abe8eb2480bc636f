/-! keeping and going back -/
section OPS8
variable {V : Nat → MS → Prop} {nc : Nat} {x m s : MS}
/-- ints, the long and rows of longs are as they were -/
def SI (s s' : MS) : Prop := (∀ k, gI s' k = gI s k) ∧ gL s' = gL s ∧ ∀ k, gB s' k = gB s k
theorem SI.rfl' : SI s s := ⟨fun _ => rfl, rfl, fun _ => rfl⟩
theorem SI.sA {s s' : MS} {k i : Nat} {v : Int32} (h : SI (sA s k i v) s') : SI s s' := ⟨fun k => h.1 k, h.2.1, fun k => h.2.2 k⟩
theorem gAs {k i : Nat} {v : Int32} {c : Nat} : gA (sA s k i v) k c = if c = i then v else gA s k c := by rw [gA_eq]; rfl
theorem push_L {p : Nat} (h12 : nc ≤ 12) (hp : p < 8) : ∀ (d i fu : Nat) (s : MS), i + d = nc → d < fu → gI s 4 = nI nc → gI s 58 = nI p → ∃ s', fX4_push_L2 nc fu (nI i) s = some ((), s') ∧ SI s s' ∧ (∀ a, a ≠ 110 + p → a ≠ 120 + p → gA s' a = gA s a) ∧ (∀ c, i ≤ c → c < nc → gA s' (110 + p) c = gA s 8 c ∧ gA s' (120 + p) c = gA s 10 c) ∧ (∀ c, c < i → gA s' (110 + p) c = gA s (110 + p) c ∧ gA s' (120 + p) c = gA s (120 + p) c) := by
  intro d
  induction d with
  | zero =>
    intro i fu s hi hf h4 h58
    obtain ⟨f, rfl⟩ : ∃ f, fu = f + 1 := ⟨fu - 1, by omega⟩
    obtain rfl : i = nc := by omega
    refine ⟨s, ?_, SI.rfl', fun _ _ _ => rfl, fun c h1 h2 => absurd h1 (by omega), fun _ _ => ⟨rfl, rfl⟩⟩
    rw [fX4_push_L2_s, h4, if_pos (nI_le (Nat.le_refl _) (by omega))]
  | succ d ih =>
    intro i fu s hi hf h4 h58
    obtain ⟨f, rfl⟩ : ∃ f, fu = f + 1 := ⟨fu - 1, by omega⟩
    obtain ⟨s', e, q1, q2, q3, q4⟩ := ih (i + 1) f (sA (sA s (110 + p) i (gA s 8 i)) (120 + p) i (gA (sA s (110 + p) i (gA s 8 i)) 10 i)) (by omega) (by omega) h4 h58
    refine ⟨s', ?_, q1.sA.sA, ?_, ?_, ?_⟩
    · have hcp : (nI p).toNatClampNeg = p := nI_clamp (by omega)
      have hci : (nI i).toNatClampNeg = i := nI_clamp (by omega)
      have c1 : ¬ (nI p < 0 ∨ 8 ≤ p) := inR' hp (by decide)
      have c2 : ¬ (nI i < 0 ∨ 12 ≤ i) := inR' (by omega) (by decide)
      have c3 : i < nc := by omega
      rw [fX4_push_L2_s]
      simp only [lets, gI_sA, h4, h58, hcp, hci, if_neg (nI_ge (show i < nc by omega) (by omega)), if_pos c1, if_pos c2, if_pos c3, if_pos hp, nI_1]
      exact e
    · intro a h1 h2
      rw [q2 a h1 h2, gA_ne h2, gA_ne h1]
    · intro c h1 h2
      by_cases h : c = i
      · subst h
        obtain ⟨a1, a2⟩ := q4 c (by omega)
        rw [a1, a2, gA_ne (by omega), gAs, if_pos rfl, gAs, if_pos rfl, gA_ne (by omega)]
        exact ⟨rfl, rfl⟩
      · obtain ⟨a1, a2⟩ := q3 c (by omega) h2
        rw [a1, a2, gA_ne (by omega), gA_ne (by omega), gA_ne (by omega), gA_ne (by omega)]
        exact ⟨rfl, rfl⟩
    · intro c h1
      obtain ⟨a1, a2⟩ := q4 c (by omega)
      rw [a1, a2, gA_ne (by omega), gAs, if_neg (by omega), gAs, if_neg (by omega), gA_ne (by omega)]
      exact ⟨rfl, rfl⟩
theorem ix12 {k i : Nat} : 12 * nI k + nI i = nI (12 * k + i) := by rw [show (12 : Int32) = nI 12 from rfl, pk_mul, nI_add]
theorem keep_L {p : Nat} (h12 : nc ≤ 12) (hp : p < 8) : ∀ (d i fu : Nat) (s : MS), i + d = nc → d < fu → gI s 4 = nI nc → gI s 29 = nI p → ∃ s', fX12_keep_L129 fu (nI i) s = some ((), s') ∧ SI s s' ∧ (∀ a, a ≠ 32 → a ≠ 33 → gA s' a = gA s a) ∧ (∀ c, i ≤ c → c < nc → gA s' 32 (12 * p + c) = gA s 8 c ∧ gA s' 33 (12 * p + c) = gA s 10 c) ∧ (∀ q, (q < 12 * p + i ∨ 12 * p + nc ≤ q) → gA s' 32 q = gA s 32 q ∧ gA s' 33 q = gA s 33 q) := by
  intro d
  induction d with
  | zero =>
    intro i fu s hi hf h4 h29
    obtain ⟨f, rfl⟩ : ∃ f, fu = f + 1 := ⟨fu - 1, by omega⟩
    obtain rfl : i = nc := by omega
    refine ⟨s, ?_, SI.rfl', fun _ _ _ => rfl, fun c h1 h2 => absurd h1 (by omega), fun _ _ => ⟨rfl, rfl⟩⟩
    rw [fX12_keep_L129_s, h4, if_pos (nI_le (Nat.le_refl _) (by omega))]
  | succ d ih =>
    intro i fu s hi hf h4 h29
    obtain ⟨f, rfl⟩ : ∃ f, fu = f + 1 := ⟨fu - 1, by omega⟩
    obtain ⟨s', e, q1, q2, q3, q4⟩ := ih (i + 1) f (sA (sA s 32 (12 * p + i) (gA s 8 i)) 33 (12 * p + i) (gA (sA s 32 (12 * p + i) (gA s 8 i)) 10 i)) (by omega) (by omega) h4 h29
    refine ⟨s', ?_, q1.sA.sA, ?_, ?_, ?_⟩
    · have hci : (nI i).toNatClampNeg = i := nI_clamp (by omega)
      have hcq : (nI (12 * p + i)).toNatClampNeg = 12 * p + i := nI_clamp (by omega)
      have c1 : ¬ (nI (12 * p + i) < 0 ∨ 96 ≤ 12 * p + i) := inR' (by omega) (by decide)
      have c2 : ¬ (nI i < 0 ∨ 12 ≤ i) := inR' (by omega) (by decide)
      rw [fX12_keep_L129_s]
      simp only [lets, gI_sA, h4, h29, ix12, hcq, hci, if_neg (nI_ge (show i < nc by omega) (by omega)), if_pos c1, if_pos c2, nI_1]
      exact e
    · intro a h1 h2
      rw [q2 a h1 h2, gA_ne h2, gA_ne h1]
    · intro c h1 h2
      by_cases h : c = i
      · subst h
        obtain ⟨a1, a2⟩ := q4 (12 * p + c) (by omega)
        rw [a1, a2, gA_ne (by omega), gAs, if_pos rfl, gAs, if_pos rfl, gA_ne (by omega)]
        exact ⟨rfl, rfl⟩
      · obtain ⟨a1, a2⟩ := q3 c (by omega) h2
        rw [a1, a2, gA_ne (by omega), gA_ne (by omega), gA_ne (by omega), gA_ne (by omega)]
        exact ⟨rfl, rfl⟩
    · intro c h1
      obtain ⟨a1, a2⟩ := q4 c (by omega)
      rw [a1, a2, gA_ne (by omega), gAs, if_neg (by omega), gAs, if_neg (by omega), gA_ne (by omega)]
      exact ⟨rfl, rfl⟩
theorem keep_s1 : ∀ (d i fu : Nat) (s : MS), i + d = 7 → d < fu → ∃ s', fX12_keep_L11 fu (nI i) s = some ((), s') ∧ SI s s' ∧ (∀ a, a ≠ 30 → a ≠ 31 → gA s' a = gA s a) ∧ (∀ c, i ≤ c → c < 7 → gA s' 30 c = gA s 30 (c + 1) ∧ gA s' 31 c = gA s 31 (c + 1)) ∧ (∀ q, (q < i ∨ 7 ≤ q) → gA s' 30 q = gA s 30 q ∧ gA s' 31 q = gA s 31 q) := by
  intro d
  induction d with
  | zero =>
    intro i fu s hi hf
    obtain ⟨f, rfl⟩ : ∃ f, fu = f + 1 := ⟨fu - 1, by omega⟩
    obtain rfl : i = 7 := by omega
    refine ⟨s, ?_, SI.rfl', fun _ _ _ => rfl, fun c h1 h2 => absurd h1 (by omega), fun _ _ => ⟨rfl, rfl⟩⟩
    rw [fX12_keep_L11_s, if_pos (by decide)]
  | succ d ih =>
    intro i fu s hi hf
    obtain ⟨f, rfl⟩ : ∃ f, fu = f + 1 := ⟨fu - 1, by omega⟩
    obtain ⟨s', e, q1, q2, q3, q4⟩ := ih (i + 1) f (sA (sA s 30 i (gA s 30 (i + 1))) 31 i (gA (sA s 30 i (gA s 30 (i + 1))) 31 (i + 1))) (by omega) (by omega)
    refine ⟨s', ?_, q1.sA.sA, ?_, ?_, ?_⟩
    · have hci : (nI i).toNatClampNeg = i := nI_clamp (by omega)
      have hcq : (nI (i + 1)).toNatClampNeg = i + 1 := nI_clamp (by omega)
      have c1 : ¬ (nI (i + 1) < 0 ∨ 8 ≤ i + 1) := inR' (by omega) (by decide)
      have c2 : ¬ (nI i < 0 ∨ 8 ≤ i) := inR' (by omega) (by decide)
      rw [fX12_keep_L11_s, if_neg (show ¬ (7 : Int32) ≤ nI i from nI_ge (b := 7) (by omega) (by decide))]
      simp only [lets, nI_1, hcq, hci, if_pos c1, if_pos c2]
      exact e
    · intro a h1 h2
      rw [q2 a h1 h2, gA_ne h2, gA_ne h1]
    · intro c h1 h2
      by_cases h : c = i
      · subst h
        obtain ⟨a1, a2⟩ := q4 c (by omega)
        rw [a1, a2, gA_ne (by omega), gAs, if_pos rfl, gAs, if_pos rfl, gA_ne (by omega)]
        exact ⟨rfl, rfl⟩
      · obtain ⟨a1, a2⟩ := q3 c (by omega) h2
        rw [a1, a2, gA_ne (by omega), gAs, if_neg (by omega), gAs, if_neg (by omega), gA_ne (by omega)]
        exact ⟨rfl, rfl⟩
    · intro c h1
      obtain ⟨a1, a2⟩ := q4 c (by omega)
      rw [a1, a2, gA_ne (by omega), gAs, if_neg (by omega), gAs, if_neg (by omega), gA_ne (by omega)]
      exact ⟨rfl, rfl⟩
theorem nI_12 (a : Nat) : nI a + 12 = nI (a + 12) := nI_add a 12
theorem keep_s2 : ∀ (d i fu : Nat) (s : MS), i + d = 84 → d < fu → ∃ s', fX12_keep_L53 fu (nI i) s = some ((), s') ∧ SI s s' ∧ (∀ a, a ≠ 32 → a ≠ 33 → gA s' a = gA s a) ∧ (∀ c, i ≤ c → c < 84 → gA s' 32 c = gA s 32 (c + 12) ∧ gA s' 33 c = gA s 33 (c + 12)) ∧ (∀ q, (q < i ∨ 84 ≤ q) → gA s' 32 q = gA s 32 q ∧ gA s' 33 q = gA s 33 q) := by
  intro d
  induction d with
  | zero =>
    intro i fu s hi hf
    obtain ⟨f, rfl⟩ : ∃ f, fu = f + 1 := ⟨fu - 1, by omega⟩
    obtain rfl : i = 84 := by omega
    refine ⟨s, ?_, SI.rfl', fun _ _ _ => rfl, fun c h1 h2 => absurd h1 (by omega), fun _ _ => ⟨rfl, rfl⟩⟩
    rw [fX12_keep_L53_s, if_pos (by decide)]
  | succ d ih =>
    intro i fu s hi hf
    obtain ⟨f, rfl⟩ : ∃ f, fu = f + 1 := ⟨fu - 1, by omega⟩
    obtain ⟨s', e, q1, q2, q3, q4⟩ := ih (i + 1) f (sA (sA s 32 i (gA s 32 (i + 12))) 33 i (gA (sA s 32 i (gA s 32 (i + 12))) 33 (i + 12))) (by omega) (by omega)
    refine ⟨s', ?_, q1.sA.sA, ?_, ?_, ?_⟩
    · have hci : (nI i).toNatClampNeg = i := nI_clamp (by omega)
      have hcq : (nI (i + 12)).toNatClampNeg = i + 12 := nI_clamp (by omega)
      have c1 : ¬ (nI (i + 12) < 0 ∨ 96 ≤ i + 12) := inR' (by omega) (by decide)
      have c2 : ¬ (nI i < 0 ∨ 96 ≤ i) := inR' (by omega) (by decide)
      rw [fX12_keep_L53_s, if_neg (show ¬ (84 : Int32) ≤ nI i from nI_ge (b := 84) (by omega) (by decide))]
      simp only [lets, nI_12, nI_1, hcq, hci, if_pos c1, if_pos c2]
      exact e
    · intro a h1 h2
      rw [q2 a h1 h2, gA_ne h2, gA_ne h1]
    · intro c h1 h2
      by_cases h : c = i
      · subst h
        obtain ⟨a1, a2⟩ := q4 c (by omega)
        rw [a1, a2, gA_ne (by omega), gAs, if_pos rfl, gAs, if_pos rfl, gA_ne (by omega)]
        exact ⟨rfl, rfl⟩
      · obtain ⟨a1, a2⟩ := q3 c (by omega) h2
        rw [a1, a2, gA_ne (by omega), gAs, if_neg (by omega), gAs, if_neg (by omega), gA_ne (by omega)]
        exact ⟨rfl, rfl⟩
    · intro c h1
      obtain ⟨a1, a2⟩ := q4 c (by omega)
      rw [a1, a2, gA_ne (by omega), gAs, if_neg (by omega), gAs, if_neg (by omega), gA_ne (by omega)]
      exact ⟨rfl, rfl⟩
theorem ring1 : ∀ p, p < 8 → (nI p + 1) - (nI p + 1) / 8 * 8 = nI ((p + 1) % 8) := by decide
theorem ring7 : ∀ p, p < 8 → ((nI p + 8) - 1) - ((nI p + 8) - 1) / 8 * 8 = nI ((p + 7) % 8) := by decide
theorem ringc : ∀ K, K < 9 → (if 8 < nI K + 1 then 8 else nI K + 1) = nI (min (K + 1) 8) := by decide
/-- what a push writes -/
theorem x_keep {K p S : Nat} (h12 : nc ≤ 12) (hp : p < 8) (hK : K ≤ 8) (h4 : gI x 4 = nI nc) (h58 : gI x 58 = nI p) (h29 : gI x 29 = nI K) (hS : gI x 12 = nI S) : ∃ x', fX11_keep nc x = some (nI (min (K + 1) 8), x') ∧ (∀ k, k ≠ 29 → k ≠ 58 → gI x' k = gI x k) ∧ gI x' 29 = nI (min (K + 1) 8) ∧ gI x' 58 = nI ((p + 1) % 8) ∧ gL x' = gL x ∧ (∀ k, gB x' k = gB x k) ∧ (∀ a, a ≠ 110 + p → a ≠ 120 + p → a ≠ 73 → a ≠ 74 → gA x' a = gA x a) ∧ (∀ c, c < nc → gA x' (110 + p) c = gA x 8 c ∧ gA x' (120 + p) c = gA x 10 c) ∧ (∀ q, gA x' 73 q = if q = p then nI nc else gA x 73 q) ∧ (∀ q, gA x' 74 q = if q = p then nI S else gA x 74 q) := by
  obtain ⟨s', e, ⟨i1, i2, i3⟩, q2, q3, q4⟩ := push_L h12 hp nc 0 FU x (by omega) (show nc < 1000000 by omega) h4 h58
  have c1 : ¬ (nI p < 0 ∨ 8 ≤ p) := inR' hp (by decide)
  have hcp : (nI p).toNatClampNeg = p := nI_clamp (by omega)
  refine ⟨sI (sI (sA (sA s' 73 p (nI nc)) 74 p (nI S)) 58 (nI ((p + 1) % 8))) 29 (nI (min (K + 1) 8)), ?_, ?_, rfl, rfl, i2, i3, ?_, ?_, ?_, ?_⟩
  · unfold fX11_keep fX4_push
    rw [show fX4_push_L2 nc FU 0 x = some ((), s') from e]
    have j58 : gI s' 58 = nI p := (i1 58).trans h58
    have j4 : gI s' 4 = nI nc := (i1 4).trans h4
    have j12 : gI s' 12 = nI S := (i1 12).trans hS
    have j29 : gI s' 29 = nI K := (i1 29).trans h29
    simp only [bnd, lets, gI_sA, gI_eq, gI_ne (show (29 : Nat) ≠ 58 by decide), j58, j4, j12, j29, hcp, if_pos c1, ring1 p hp, ringc K (by omega)]
  · intro k h1 h2
    rw [gI_ne h1, gI_ne h2]; exact i1 k
  · intro a h1 h2 h3 h4
    show gA (sA (sA s' 73 p (nI nc)) 74 p (nI S)) a = _
    rw [gA_ne h4, gA_ne h3, q2 a h1 h2]
  · intro c hc
    show gA (sA (sA s' 73 p (nI nc)) 74 p (nI S)) (110 + p) c = _ ∧ gA (sA (sA s' 73 p (nI nc)) 74 p (nI S)) (120 + p) c = _
    rw [gA_ne (by omega), gA_ne (by omega), gA_ne (by omega), gA_ne (by omega)]
    exact q3 c (by omega) hc
  · intro q
    show gA (sA (sA s' 73 p (nI nc)) 74 p (nI S)) 73 q = _
    rw [gA_ne (by omega), gAs, q2 73 (by omega) (by omega)]
  · intro q
    show gA (sA (sA s' 73 p (nI nc)) 74 p (nI S)) 74 q = _
    rw [gAs, gA_ne (by omega), q2 74 (by omega) (by omega)]
/-- the reference's part, with room for one more -/
theorem m_keep1 {p S : Nat} (h12 : nc ≤ 12) (hp : p < 8) (h4 : gI m 4 = nI nc) (h29 : gI m 29 = nI p) (hS : gI m 12 = nI S) : ∃ m', fX12_keep_J101 m = some (nI (p + 1), m') ∧ (∀ k, k ≠ 29 → gI m' k = gI m k) ∧ gI m' 29 = nI (p + 1) ∧ (∀ k, gB m' k = gB m k) ∧ (∀ a, a ≠ 30 → a ≠ 31 → a ≠ 32 → a ≠ 33 → gA m' a = gA m a) ∧ (∀ c, c < nc → gA m' 32 (12 * p + c) = gA m 8 c ∧ gA m' 33 (12 * p + c) = gA m 10 c) ∧ (∀ q, (q < 12 * p ∨ 12 * p + nc ≤ q) → gA m' 32 q = gA m 32 q ∧ gA m' 33 q = gA m 33 q) ∧ (∀ q, gA m' 30 q = if q = p then nI nc else gA m 30 q) ∧ (∀ q, gA m' 31 q = if q = p then nI S else gA m 31 q) := by
  have c1 : ¬ (nI p < 0 ∨ 8 ≤ p) := inR' hp (by decide)
  have hcp : (nI p).toNatClampNeg = p := nI_clamp (by omega)
  obtain ⟨s', e, ⟨i1, i2, i3⟩, q2, q3, q4⟩ := keep_L (nc := nc) h12 hp nc 0 FU (sA (sA m 30 p (nI nc)) 31 p (nI S)) (by omega) (show nc < 1000000 by omega) h4 h29
  refine ⟨sI s' 29 (nI (p + 1)), ?_, ?_, rfl, ?_, ?_, ?_, ?_, ?_, ?_⟩
  · unfold fX12_keep_J101
    have j29 : gI s' 29 = nI p := (i1 29).trans h29
    simp only [lets, gI_sA, h29, h4, hS, hcp, if_pos c1]
    rw [show (0 : Int32) = nI 0 from rfl, e]
    simp only [bnd, lets, gI_eq, j29, nI_1]
  · intro k h1
    rw [gI_ne h1]; exact i1 k
  · intro k; exact i3 k
  · intro a h1 h2 h3 h4
    show gA s' a = _
    rw [q2 a h3 h4, gA_ne h2, gA_ne h1]
  · intro c hc; exact q3 c (by omega) hc
  · intro q hq
    obtain ⟨a1, a2⟩ := q4 q (by omega)
    exact ⟨a1, a2⟩
  · intro q
    show gA s' 30 q = _
    rw [q2 30 (by decide) (by decide), gA_ne (by decide), gAs]
  · intro q
    show gA s' 31 q = _
    rw [q2 31 (by decide) (by decide), gAs, gA_ne (by decide)]
end OPS8
