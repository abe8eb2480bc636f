/-! THE REFERENCE's determinant: all orders of columns -/
def isg (o : Nat → Nat) (k : Nat) : Nat → Int
  | 0 => 1
  | q + 1 => if o k < o q then - isg o k q else isg o k q
def PR (E : Nat → Nat → Int) (o : Nat → Nat) : Nat → Int
  | 0 => 1
  | k + 1 => PR E o k * E k (o k) * isg o k k
def mo (o : Nat → Nat) : Nat → Nat
  | 0 => 0
  | k + 1 => mo o k ||| 2 ^ o k
def ups (o : Nat → Nat) (k c : Nat) : Nat → Nat := fun r => if r = k then c else o r
def gs (E : Nat → Nat → Int) (n : Nat) : Nat → Nat → (Nat → Nat) → Int
  | 0, k, o => PR E o k
  | d + 1, k, o => sumN (fun c => if (mo o k).testBit c then 0 else gs E n d (k + 1) (ups o k c)) n
def fv (E : Nat → Nat → Int) (n d k : Nat) (o : Nat → Nat) : Nat → Int := fun c => if (mo o k).testBit c then 0 else gs E n d (k + 1) (ups o k c)
def nx (τ : Nat) : Nat → Nat → Nat
  | 0, c => c
  | m + 1, c => if τ.testBit c then nx τ m (c + 1) else c
def KB : Nat → Nat
  | 0 => 0
  | d + 1 => 5 * (2 + KB d)
theorem nx_spec {τ : Nat} : ∀ (m c : Nat), c ≤ nx τ m c ∧ nx τ m c ≤ c + m ∧ (∀ c', c ≤ c' → c' < nx τ m c → τ.testBit c' = true) ∧ (nx τ m c < c + m → τ.testBit (nx τ m c) = false) := by
  intro m
  induction m with
  | zero => intro c; exact ⟨Nat.le_refl _, Nat.le_refl _, fun c' h1 h2 => absurd h2 (by simp only [nx]; omega), fun h => absurd h (by simp only [nx]; omega)⟩
  | succ m ih =>
    intro c
    simp only [nx]
    cases h : τ.testBit c with
    | true =>
      rw [if_pos rfl]
      obtain ⟨h1, h2, h3, h4⟩ := ih (c + 1)
      refine ⟨by omega, by omega, fun c' a b => ?_, fun z => h4 (by omega)⟩
      by_cases e : c' = c
      · subst e; exact h
      · exact h3 c' (by omega) b
    | false =>
      rw [if_neg Bool.noConfusion]
      exact ⟨Nat.le_refl _, by omega, fun c' a b => absurd b (by omega), fun _ => h⟩
theorem sum_skip {f : Nat → Int} {a : Nat} : ∀ d, (∀ c, a ≤ c → c < a + d → f c = 0) → sumN f (a + d) = sumN f a := by
  intro d
  induction d with
  | zero => intro _; rfl
  | succ d ih =>
    intro h
    rw [show a + (d + 1) = (a + d) + 1 by omega]
    simp only [sumN]
    rw [ih (fun c h1 h2 => h c h1 (by omega)), h (a + d) (by omega) (by omega)]; omega
theorem mo_bit {o : Nat → Nat} {j : Nat} : ∀ k, (mo o k).testBit j = true ↔ ∃ r, r < k ∧ o r = j := by
  intro k
  induction k with
  | zero => simp [mo]
  | succ k ih =>
    simp only [mo]
    rw [Nat.testBit_or, Nat.testBit_two_pow, Bool.or_eq_true, ih]
    constructor
    · rintro (⟨r, h1, h2⟩ | h)
      · exact ⟨r, by omega, h2⟩
      · exact ⟨k, by omega, of_decide_eq_true h⟩
    · rintro ⟨r, h1, h2⟩
      by_cases e : r = k
      · subst e; exact Or.inr (decide_eq_true h2)
      · exact Or.inl ⟨r, by omega, h2⟩
theorem mo_congr {o o' : Nat → Nat} : ∀ k, (∀ r, r < k → o r = o' r) → mo o k = mo o' k := by
  intro k
  induction k with
  | zero => intro _; rfl
  | succ k ih => intro h; simp only [mo]; rw [ih (fun r hr => h r (by omega)), h k (by omega)]
theorem ups_lt {o : Nat → Nat} {k c r : Nat} (h : r < k) : ups o k c r = o r := if_neg (by omega)
theorem ups_eq {o : Nat → Nat} {k c : Nat} : ups o k c k = c := if_pos rfl
theorem mo_ups {o : Nat → Nat} {k c : Nat} : mo (ups o k c) (k + 1) = mo o k ||| 2 ^ c := by
  simp only [mo]
  rw [mo_congr k (fun r hr => ups_lt hr), ups_eq]
theorem mo_lt {o : Nat → Nat} {n : Nat} : ∀ k, (∀ r, r < k → o r < n) → mo o k < 2 ^ n := by
  intro k
  induction k with
  | zero => intro _; exact Nat.two_pow_pos n
  | succ k ih =>
    intro h
    exact Nat.or_lt_two_pow (ih (fun r hr => h r (by omega))) (Nat.pow_lt_pow_right (by decide) (h k (by omega)))
section DET
variable {n : Nat} {x1 : Int32} {E : Nat → Nat → Int} {s s' : MS}
/-- the table, with what is put in place of a column -/
def TE (n : Nat) (x1 : Int32) (E : Nat → Nat → Int) (s : MS) : Prop := ∀ r, r < n → ∀ c, c < n → gB s 19 (6 * r + (if nI c = x1 then 5 else c)) = Int64.ofInt (E r c)
def FrD (s s' : MS) : Prop := SI s s' ∧ ∀ a, a ≠ 20 → a ≠ 21 → gA s' a = gA s a
theorem FrD.rfl' : FrD s s := ⟨SI.rfl', fun _ _ _ => rfl⟩
theorem FrD.trans {s'' : MS} (h : FrD s s') (h' : FrD s' s'') : FrD s s'' := ⟨⟨fun k => (h'.1.1 k).trans (h.1.1 k), h'.1.2.1.trans h.1.2.1, fun k => (h'.1.2.2 k).trans (h.1.2.2 k)⟩, fun a h1 h2 => (h'.2 a h1 h2).trans (h.2 a h1 h2)⟩
theorem FrD.put20 {i : Nat} {v : Int32} : FrD s (sA s 20 i v) := ⟨⟨fun _ => rfl, rfl, fun _ => rfl⟩, fun a h _ => gA_ne h⟩
theorem FrD.put21 {i : Nat} {v : Int32} : FrD s (sA s 21 i v) := ⟨⟨fun _ => rfl, rfl, fun _ => rfl⟩, fun a _ h => gA_ne h⟩
theorem TE.fr (h : TE n x1 E s) (f : FrD s s') : TE n x1 E s' := fun r hr c hc => by rw [f.1.2.2]; exact h r hr c hc
theorem pr_L53 {o : Nat → Nat} {r : Nat} (hr : r < 5) (ho : ∀ q, q ≤ r → gA s 20 q = nI (o q) ∧ o q < 5) (v : Int) : ∀ (d q fu : Nat), q + d = r → d < fu → fX12_product_L53 x1 (nI r) fu (Int64.ofInt (v * isg o r q)) (nI q) s = some (Int64.ofInt (v * isg o r r), s) := by
  intro d
  induction d with
  | zero =>
    intro q fu hq hf
    obtain ⟨f, rfl⟩ : ∃ f, fu = f + 1 := ⟨fu - 1, by omega⟩
    obtain rfl : q = r := by omega
    rw [fX12_product_L53_s, if_pos (nI_le (Nat.le_refl _) (by omega))]
  | succ d ih =>
    intro q fu hq hf
    obtain ⟨f, rfl⟩ : ∃ f, fu = f + 1 := ⟨fu - 1, by omega⟩
    have hcq : (nI q).toNatClampNeg = q := nI_clamp (by omega)
    have hcr : (nI r).toNatClampNeg = r := nI_clamp (by omega)
    have c1 : ¬ (nI q < 0 ∨ 5 ≤ q) := inR' (by omega) (by decide)
    have c2 : ¬ (nI r < 0 ∨ 5 ≤ r) := inR' hr (by decide)
    obtain ⟨eq, lq'⟩ := ho q (by omega)
    obtain ⟨er, lr⟩ := ho r (Nat.le_refl _)
    have ihh := ih (q + 1) f (by omega) (by omega)
    rw [fX12_product_L53_s]
    simp only [if_neg (nI_ge (show q < r by omega) (by omega)), hcq, hcr, if_pos c1, if_pos c2, eq, er]
    unfold fX12_product_J83
    simp only [isg] at ihh
    by_cases h : o r < o q
    · rw [if_neg (nI_ge h (by omega)), ← Int64.ofInt_neg, ← Int.mul_neg, nI_1]
      rw [if_pos h] at ihh; exact ihh
    · rw [if_pos (nI_le (by omega) (by omega)), nI_1]
      rw [if_neg h] at ihh; exact ihh
theorem pr_L5 (hn : n ≤ 5) {o : Nat → Nat} (h16 : gI s 16 = nI n) (hT : TE n x1 E s) (ho : ∀ q, q < n → gA s 20 q = nI (o q) ∧ o q < n) : ∀ (d r fu : Nat), r + d = n → d < fu → fX12_product_L5 x1 fu (Int64.ofInt (PR E o r)) (nI r) s = some (Int64.ofInt (PR E o n), s) := by
  intro d
  induction d with
  | zero =>
    intro r fu hr hf
    obtain ⟨f, rfl⟩ : ∃ f, fu = f + 1 := ⟨fu - 1, by omega⟩
    obtain rfl : r = n := by omega
    rw [fX12_product_L5_s, h16, if_pos (nI_le (Nat.le_refl _) (by omega))]
  | succ d ih =>
    intro r fu hr hf
    obtain ⟨f, rfl⟩ : ∃ f, fu = f + 1 := ⟨fu - 1, by omega⟩
    have hcr : (nI r).toNatClampNeg = r := nI_clamp (by omega)
    have c2 : ¬ (nI r < 0 ∨ 5 ≤ r) := inR' (by omega) (by decide)
    obtain ⟨er, lr⟩ := ho r (by omega)
    have e6 : (6 : Int32) * nI r = nI (6 * r) := by rw [show (6 : Int32) = nI 6 from rfl, pk_mul]
    have key : ∀ t : Nat, t ≤ 5 → gB s 19 (6 * r + t) = Int64.ofInt (E r (o r)) → fX12_product_J46 (fX12_product_L5 x1 f) x1 (nI r) (nI t) (6 * nI r) (Int64.ofInt (PR E o r)) s = some (Int64.ofInt (PR E o n), s) := by
      intro t ht eg
      unfold fX12_product_J46
      have hct : (nI (6 * r + t)).toNatClampNeg = 6 * r + t := nI_clamp (by omega)
      rw [e6, nI_add, if_pos (inR (show 6 * r + t < 30 by omega) (by decide)), hct, eg, ← Int64.ofInt_mul]
      have := pr_L53 (x1 := x1) (s := s) (o := o) (r := r) (by omega) (fun q hq => ⟨(ho q (by omega)).1, by have := (ho q (by omega)).2; omega⟩) (PR E o r * E r (o r)) r 0 FU (by omega) (by show r < 1000000; omega)
      simp only [isg, Int.mul_one] at this
      rw [show (0 : Int32) = nI 0 from rfl, this]
      show fX12_product_L5 x1 f (Int64.ofInt (PR E o r * E r (o r) * isg o r r)) (nI r + 1) s = _
      rw [nI_1]
      exact ih (r + 1) f (by omega) (by omega)
    have hte := hT r (by omega) (o r) lr
    rw [fX12_product_L5_s]
    simp only [h16, if_neg (nI_ge (show r < n by omega) (by omega)), hcr, if_pos c2, er]
    by_cases h : nI (o r) = x1
    · rw [if_neg (fun z => z h)]
      rw [if_pos h] at hte
      exact key 5 (by omega) hte
    · rw [if_pos h]
      rw [if_neg h] at hte
      exact key (o r) (by omega) hte
theorem m_product (hn : n ≤ 5) {o : Nat → Nat} (h16 : gI s 16 = nI n) (hT : TE n x1 E s) (ho : ∀ q, q < n → gA s 20 q = nI (o q) ∧ o q < n) : fX12_product x1 s = some (Int64.ofInt (PR E o n), s) := by
  unfold fX12_product
  have := pr_L5 hn h16 hT ho n 0 FU (by omega) (by show n < 1000000; omega)
  rw [show (1 : Int64) = Int64.ofInt (PR E o 0) from rfl, show (0 : Int32) = nI 0 from rfl, this]; rfl
theorem det_L74 (hn : n ≤ 5) {τ : Nat} {x2 : Int64} {x4 : Int32} (h16 : gI s 16 = nI n) (h21 : ∀ c, c < n → gA s 21 c = bv (τ.testBit c)) : ∀ (m c fu : Nat), c + m = n → m < fu → fX12_determinant_L74 x1 x2 x4 fu (nI c) s = some (nI (nx τ m c), s) := by
  intro m
  induction m with
  | zero =>
    intro c fu hc hf
    obtain ⟨f, rfl⟩ : ∃ f, fu = f + 1 := ⟨fu - 1, by omega⟩
    obtain rfl : c = n := by omega
    rw [fX12_determinant_L74_s, h16, if_pos (nI_le (Nat.le_refl _) (by omega))]; rfl
  | succ m ih =>
    intro c fu hc hf
    obtain ⟨f, rfl⟩ : ∃ f, fu = f + 1 := ⟨fu - 1, by omega⟩
    have hcr : (nI c).toNatClampNeg = c := nI_clamp (by omega)
    have c2 : ¬ (nI c < 0 ∨ 5 ≤ c) := inR' (by omega) (by decide)
    rw [fX12_determinant_L74_s]
    simp only [h16, if_neg (nI_ge (show c < n by omega) (by omega)), hcr, if_pos c2, h21 c (by omega), nx]
    cases τ.testBit c with
    | true => rw [if_neg (by decide), if_pos rfl, nI_1]; exact ih (c + 1) f (by omega) (by omega)
    | false => rw [if_pos (by decide), if_neg Bool.noConfusion]
/-- the search, at row k, its first k columns chosen -/
def Stt (n k : Nat) (o : Nat → Nat) (s : MS) : Prop := gI s 16 = nI n ∧ (∀ r, r < k → gA s 20 r = nI (o r)) ∧ ∀ c, c < n → gA s 21 c = bv ((mo o k).testBit c)
theorem Stt.undo {k c : Nat} {o : Nat → Nat} (hn : n ≤ 5) (hc : (mo o k).testBit c = false) (h16 : gI s 16 = nI n) (h20 : ∀ r, r < k → gA s 20 r = nI (o r)) (h21 : ∀ c', c' < n → c' ≠ c → gA s 21 c' = bv ((mo o k).testBit c')) : Stt n k o (sA s 21 c (bv false)) := by
  refine ⟨h16, fun r hr => by rw [gA_ne (by decide)]; exact h20 r hr, fun c' hc' => ?_⟩
  rw [gA_eq]
  by_cases e : c' = c
  · subst e; rw [upd_s, hc]
  · rw [upd_n e]; exact h21 c' hc' e
/-- one turn of the loop at a row whose column is c: it is given back, and the next one is looked for -/
theorem det_turn (hn : n ≤ 5) {k c f : Nat} {x2 : Int64} (hk : k < 5) (hc : c < 5) (h20 : gA s 20 k = nI c) : fX12_determinant_L44 x1 (f + 1) x2 (nI k) s = fX12_determinant_J71 (fX12_determinant_L44 x1 f) x1 x2 (nI k) (nI c) (sA s 21 c (bv false)) := by
  have hck : (nI k).toNatClampNeg = k := nI_clamp (by omega)
  have hcc : (nI c).toNatClampNeg = c := nI_clamp (by omega)
  have c1 : ¬ (nI k < 0 ∨ 5 ≤ k) := inR' hk (by decide)
  have c2 : ¬ (nI c < 0 ∨ 5 ≤ c) := inR' hc (by decide)
  rw [fX12_determinant_L44_s]
  simp only [if_neg (nI_pos (show k < 2 ^ 31 by omega)), hck, if_pos c1, h20, if_neg (nI_pos (show c < 2 ^ 31 by omega)), hcc, if_pos c2, lets]
  rfl
theorem det_lv (hn : n ≤ 5) : ∀ d k, k + d + 1 = n → ∀ m c0, c0 + m = n → ∀ (o : Nat → Nat) (s : MS) (x2 : Int64) (x5 : Int32), x5 + 1 = nI c0 → (∀ r, r < k → o r < n) → Stt n k o s → TE n x1 E s → ∃ N, N ≤ m * (2 + KB d) ∧ ∃ s', FrD s s' ∧ Stt n k o s' ∧ ∀ fu, fX12_determinant_J71 (fX12_determinant_L44 x1 (fu + N)) x1 x2 (nI k) x5 s = fX12_determinant_L44 x1 fu (x2 + Int64.ofInt (sumN (fv E n d k o) n - sumN (fv E n d k o) c0)) (nI k + (-1)) s' := by
  intro d
  induction d with
  | zero =>
    intro k hk m
    induction m using Nat.strongRecOn with
    | _ m ihm =>
    intro c0 hm o s x2 x5 hx5 ho hS hT
    obtain ⟨h16, h20, h21⟩ := id hS
    obtain ⟨n1, n2, n3, n4⟩ := nx_spec (τ := mo o k) m c0
    have hscan := det_L74 (x1 := x1) (x2 := x2) (x4 := nI k) hn h16 h21 m c0 FU hm (by show m < 1000000; omega)
    have skip : sumN (fv E n 0 k o) (nx (mo o k) m c0) = sumN (fv E n 0 k o) c0 := by
      have := sum_skip (f := fv E n 0 k o) (a := c0) (nx (mo o k) m c0 - c0) (fun c h1 h2 => by unfold fv; rw [n3 c h1 (by omega)]; rfl)
      rw [show c0 + (nx (mo o k) m c0 - c0) = nx (mo o k) m c0 by omega] at this; exact this
    generalize hc : nx (mo o k) m c0 = c at *
    have hck : (nI k).toNatClampNeg = k := nI_clamp (by omega)
    have ck : ¬ (nI k < 0 ∨ 5 ≤ k) := inR' (by omega) (by decide)
    by_cases hcn : c = n
    · refine ⟨0, by omega, s, FrD.rfl', hS, fun fu => ?_⟩
      unfold fX12_determinant_J71
      rw [hx5, hscan]
      show (if ¬ nI c = gI s 16 then _ else _) = _
      rw [h16, if_neg (fun z => z (by rw [hcn]))]
      rw [← skip, hcn]
      simp
    · have hcl : c < n := by omega
      have hfree := n4 (by omega)
      have hcc : (nI c).toNatClampNeg = c := nI_clamp (by omega)
      have cc : ¬ (nI c < 0 ∨ 5 ≤ c) := inR' (by omega) (by decide)
      have o1 : ∀ q, q < n → gA (sA (sA s 20 k (nI c)) 21 c 1) 20 q = nI (ups o k c q) ∧ ups o k c q < n := by
        intro q hq
        rw [gA_ne (by decide), gA_eq]
        by_cases e : q = k
        · subst e; rw [upd_s, ups_eq]; exact ⟨rfl, hcl⟩
        · rw [upd_n e, ups_lt (by omega)]; exact ⟨h20 q (by omega), ho q (by omega)⟩
      have hpr := m_product (x1 := x1) (E := E) (s := sA (sA s 20 k (nI c)) 21 c 1) hn h16 (hT.fr (FrD.put20.trans FrD.put21)) o1
      have hS2 : Stt n k o (sA (sA (sA s 20 k (nI c)) 21 c 1) 21 c (bv false)) := Stt.undo hn hfree h16 (fun r hr => by rw [gA_ne (by decide), gA_eq, upd_n (by omega)]; exact h20 r hr) (fun c' h1 h2 => by rw [gA_eq, upd_n h2, gA_ne (by decide)]; exact h21 c' h1)
      have F2 : FrD s (sA (sA (sA s 20 k (nI c)) 21 c 1) 21 c (bv false)) := (FrD.put20.trans FrD.put21).trans FrD.put21
      obtain ⟨N, hN, s', f', S', e'⟩ := ihm (n - (c + 1)) (by omega) (c + 1) (by omega) o _ (x2 + Int64.ofInt (PR E (ups o k c) n)) (nI c) (nI_1 c) ho hS2 (hT.fr F2)
      refine ⟨N + 1, ?_, s', F2.trans f', S', fun fu => ?_⟩
      · have : (n - (c + 1) + 1) * (2 + KB 0) ≤ m * (2 + KB 0) := Nat.mul_le_mul_right _ (by omega)
        rw [Nat.add_mul] at this; omega
      · have e2 := e' fu
        unfold fX12_determinant_J71
        rw [hx5, hscan]
        show (if ¬ nI c = gI s 16 then _ else _) = _
        rw [h16, if_pos (fun z => hcn ((nI_eq (by omega) (by omega)).mp z)), hck, if_pos ck]
        show (if ¬ (nI c < 0 ∨ 5 ≤ (nI c).toNatClampNeg) then _ else _) = _
        rw [hcc, if_pos cc]
        show (if gI s 16 ≤ nI k + 1 then bnd (fX12_product x1 (sA (sA s 20 k (nI c)) 21 c 1)) _ else _) = _
        rw [h16, nI_1, if_pos (nI_le (by omega) (by omega)), hpr]
        show fX12_determinant_L44 x1 (fu + (N + 1)) (x2 + Int64.ofInt (PR E (ups o k c) n)) (nI k) (sA (sA s 20 k (nI c)) 21 c 1) = _
        rw [show fu + (N + 1) = (fu + N) + 1 by omega, det_turn hn (c := c) (by omega) (by omega) (by rw [gA_ne (by decide), gA_eq, upd_s]), e2]
        congr 1
        rw [Int64.add_assoc, ← Int64.ofInt_add]
        congr 2
        have ef : fv E n 0 k o c = PR E (ups o k c) n := by
          unfold fv; rw [hfree, if_neg Bool.noConfusion]; simp only [gs]; rw [show k + 1 = n by omega]
        simp only [sumN]
        rw [skip, ef]; omega
  | succ d ihd =>
    intro k hk m
    induction m using Nat.strongRecOn with
    | _ m ihm =>
    intro c0 hm o s x2 x5 hx5 ho hS hT
    obtain ⟨h16, h20, h21⟩ := id hS
    obtain ⟨n1, n2, n3, n4⟩ := nx_spec (τ := mo o k) m c0
    have hscan := det_L74 (x1 := x1) (x2 := x2) (x4 := nI k) hn h16 h21 m c0 FU hm (by show m < 1000000; omega)
    have skip : sumN (fv E n (d + 1) k o) (nx (mo o k) m c0) = sumN (fv E n (d + 1) k o) c0 := by
      have := sum_skip (f := fv E n (d + 1) k o) (a := c0) (nx (mo o k) m c0 - c0) (fun c h1 h2 => by unfold fv; rw [n3 c h1 (by omega)]; rfl)
      rw [show c0 + (nx (mo o k) m c0 - c0) = nx (mo o k) m c0 by omega] at this; exact this
    generalize hc : nx (mo o k) m c0 = c at *
    have hck : (nI k).toNatClampNeg = k := nI_clamp (by omega)
    have ck : ¬ (nI k < 0 ∨ 5 ≤ k) := inR' (by omega) (by decide)
    have hck1 : (nI (k + 1)).toNatClampNeg = k + 1 := nI_clamp (by omega)
    have ck1 : ¬ (nI (k + 1) < 0 ∨ 5 ≤ k + 1) := inR' (show k + 1 < 5 by omega) (by decide)
    by_cases hcn : c = n
    · refine ⟨0, by omega, s, FrD.rfl', hS, fun fu => ?_⟩
      unfold fX12_determinant_J71
      rw [hx5, hscan]
      show (if ¬ nI c = gI s 16 then _ else _) = _
      rw [h16, if_neg (fun z => z (by rw [hcn]))]
      rw [← skip, hcn]
      simp
    · have hcl : c < n := by omega
      have hfree := n4 (by omega)
      have hcc : (nI c).toNatClampNeg = c := nI_clamp (by omega)
      have cc : ¬ (nI c < 0 ∨ 5 ≤ c) := inR' (by omega) (by decide)
      have F3 : FrD s (sA (sA (sA s 20 k (nI c)) 21 c 1) 20 (k + 1) (-1)) := (FrD.put20.trans FrD.put21).trans FrD.put20
      have hS3 : Stt n (k + 1) (ups o k c) (sA (sA (sA s 20 k (nI c)) 21 c 1) 20 (k + 1) (-1)) := by
        refine ⟨h16, fun r hr => ?_, fun c' hc' => ?_⟩
        · rw [gA_eq, upd_n (by omega), gA_ne (by decide), gA_eq]
          by_cases e : r = k
          · subst e; rw [upd_s, ups_eq]
          · rw [upd_n e, ups_lt (by omega)]; exact h20 r (by omega)
        · rw [gA_ne (by decide), gA_eq, mo_ups, Nat.testBit_or, Nat.testBit_two_pow]
          by_cases e : c' = c
          · subst e; rw [upd_s, decide_eq_true rfl, Bool.or_true]; rfl
          · rw [upd_n e, gA_ne (by decide), h21 c' hc', decide_eq_false (fun z => e z.symm), Bool.or_false]
      obtain ⟨N1, hN1, s4, f4, S4, e4⟩ := ihd (k + 1) (by omega) n 0 (by omega) (ups o k c) _ x2 (-1) (by decide) (fun r hr => by
        by_cases e : r = k
        · subst e; rw [ups_eq]; exact hcl
        · rw [ups_lt (by omega)]; exact ho r (by omega)) hS3 (hT.fr F3)
      obtain ⟨t16, t20, t21⟩ := id S4
      have hS5 : Stt n k o (sA s4 21 c (bv false)) := Stt.undo hn hfree t16 (fun r hr => by rw [t20 r (by omega), ups_lt hr]) (fun c' h1 h2 => by rw [t21 c' h1, mo_ups, Nat.testBit_or, Nat.testBit_two_pow, decide_eq_false (fun z => h2 z.symm), Bool.or_false])
      have F5 : FrD s (sA s4 21 c (bv false)) := (F3.trans f4).trans FrD.put21
      obtain ⟨N, hN, s', f', S', e'⟩ := ihm (n - (c + 1)) (by omega) (c + 1) (by omega) o _ (x2 + Int64.ofInt (gs E n (d + 1) (k + 1) (ups o k c))) (nI c) (nI_1 c) ho hS5 (hT.fr F5)
      refine ⟨N + 1 + N1 + 1, ?_, s', F5.trans f', S', fun fu => ?_⟩
      · have h1 : (n - (c + 1) + 1) * (2 + KB (d + 1)) ≤ m * (2 + KB (d + 1)) := Nat.mul_le_mul_right _ (by omega)
        have h2 : n * (2 + KB d) ≤ KB (d + 1) := Nat.mul_le_mul_right _ hn
        rw [Nat.add_mul] at h1; omega
      · have e2 := e' fu
        have e5 := e4 (fu + N + 1)
        unfold fX12_determinant_J71
        rw [hx5, hscan]
        show (if ¬ nI c = gI s 16 then _ else _) = _
        rw [h16, if_pos (fun z => hcn ((nI_eq (by omega) (by omega)).mp z)), hck, if_pos ck]
        show (if ¬ (nI c < 0 ∨ 5 ≤ (nI c).toNatClampNeg) then _ else _) = _
        rw [hcc, if_pos cc]
        show (if gI s 16 ≤ nI k + 1 then _ else (if ¬ (nI k + 1 < 0 ∨ 5 ≤ (nI k + 1).toNatClampNeg) then lets (sA (sA (sA s 20 k (nI c)) 21 c 1) 20 (nI k + 1).toNatClampNeg (-1)) _ else _)) = _
        rw [h16, nI_1, if_neg (nI_ge (by omega) (by omega)), hck1, if_pos ck1]
        show fX12_determinant_L44 x1 (fu + (N + 1 + N1 + 1)) x2 (nI (k + 1)) (sA (sA (sA s 20 k (nI c)) 21 c 1) 20 (k + 1) (-1)) = _
        rw [show fu + (N + 1 + N1 + 1) = (fu + N + 1 + N1) + 1 by omega, fX12_determinant_L44_s, if_neg (nI_pos (by omega)), hck1, if_pos ck1, gA_eq, upd_s, if_pos (by decide), e5, pk_m1]
        rw [det_turn hn (c := c) (by omega) (by omega) (by rw [t20 k (by omega), ups_eq])]
        have eg : x2 + Int64.ofInt (sumN (fv E n d (k + 1) (ups o k c)) n - sumN (fv E n d (k + 1) (ups o k c)) 0) = x2 + Int64.ofInt (gs E n (d + 1) (k + 1) (ups o k c)) := by
          congr 2
          simp only [sumN, gs, Int.sub_zero]; rfl
        rw [eg, e2]
        congr 1
        rw [Int64.add_assoc, ← Int64.ofInt_add]
        congr 2
        have ef : fv E n (d + 1) k o c = gs E n (d + 1) (k + 1) (ups o k c) := by
          unfold fv; rw [hfree, if_neg Bool.noConfusion]
        simp only [sumN]
        rw [skip, ef]; omega
theorem det_L14 {x2 : Int64} : ∀ (d i fu : Nat) (s : MS), i + d = 5 → d < fu → ∃ s', fX12_determinant_L14 x1 x2 fu (nI i) s = some ((), s') ∧ FrD s s' ∧ (∀ c, i ≤ c → c < 5 → gA s' 21 c = 0) ∧ ∀ c, c < i → gA s' 21 c = gA s 21 c := by
  intro d
  induction d with
  | zero =>
    intro i fu s hi hf
    obtain ⟨f, rfl⟩ : ∃ f, fu = f + 1 := ⟨fu - 1, by omega⟩
    obtain rfl : i = 5 := by omega
    exact ⟨s, by rw [fX12_determinant_L14_s, if_pos (by decide)], FrD.rfl', fun c h1 h2 => absurd h1 (by omega), fun _ _ => rfl⟩
  | succ d ih =>
    intro i fu s hi hf
    obtain ⟨f, rfl⟩ : ∃ f, fu = f + 1 := ⟨fu - 1, by omega⟩
    have hci : (nI i).toNatClampNeg = i := nI_clamp (by omega)
    have c2 : ¬ (nI i < 0 ∨ 5 ≤ i) := inR' (by omega) (by decide)
    obtain ⟨s', e, q1, q2, q3⟩ := ih (i + 1) f (sA s 21 i 0) (by omega) (by omega)
    refine ⟨s', ?_, FrD.put21.trans q1, ?_, ?_⟩
    · rw [fX12_determinant_L14_s, if_neg (show ¬ (5 : Int32) ≤ nI i from nI_ge (b := 5) (by omega) (by decide))]
      simp only [hci, if_pos c2, lets, nI_1, show vp_nar .boolean 0 = (0 : Int32) from rfl]
      exact e
    · intro c h1 h2
      by_cases h : c = i
      · subst h; rw [q3 c (by omega), gA_eq, upd_s]
      · exact q2 c (by omega) h2
    · intro c h1
      rw [q3 c (by omega), gA_eq, upd_n (by omega)]
theorem m_det0 (hn : n ≤ 5) (h16 : gI s 16 = nI n) (hT : TE n x1 E s) : ∃ s', fX12_determinant x1 s = some (Int64.ofInt (gs E n n 0 (fun _ => 0)), s') ∧ FrD s s' := by
  rcases Nat.eq_zero_or_pos n with h0 | hpos
  · subst h0
    refine ⟨s, ?_, FrD.rfl'⟩
    unfold fX12_determinant
    rw [h16]; rfl
  · obtain ⟨s1, e1, f1, z1, -⟩ := det_L14 (x1 := x1) (x2 := 0) 5 0 FU s (by omega) (by show 5 < 1000000; omega)
    have F : FrD s (sA s1 20 0 (-1)) := f1.trans FrD.put20
    have hS : Stt n 0 (fun _ => 0) (sA s1 20 0 (-1)) := ⟨(F.1.1 16).trans h16, fun r hr => absurd hr (by omega), fun c hc => by rw [gA_ne (by decide), z1 c (by omega) (by omega)]; simp [mo, bv]⟩
    obtain ⟨N, hN, s', f', S', e'⟩ := det_lv (x1 := x1) (E := E) hn (n - 1) 0 (by omega) n 0 (by omega) (fun _ => 0) (sA s1 20 0 (-1)) 0 (-1) (by decide) (fun r hr => absurd hr (by omega)) hS (hT.fr F)
    refine ⟨s', ?_, F.trans f'⟩
    have hK : N ≤ 100000 := by
      have h1 : n * (2 + KB (n - 1)) ≤ 100000 := by
        rcases (show n = 1 ∨ n = 2 ∨ n = 3 ∨ n = 4 ∨ n = 5 by omega) with rfl | rfl | rfl | rfl | rfl <;> decide
      omega
    unfold fX12_determinant
    have hL : fX12_determinant_L44 x1 FU 0 (nI 0) (sA s1 20 0 (-1)) = some (Int64.ofInt (gs E n n 0 (fun _ => 0)), s') := by
      have e2 := e' (999999 - N - 1 + 1)
      rw [show FU = (999999 - N - 1 + 1 + N) + 1 by show 1000000 = _; omega, fX12_determinant_L44_s, if_neg (nI_pos (by omega)), show (nI 0).toNatClampNeg = 0 from by decide, if_pos (by decide), gA_eq, upd_s, if_pos (by decide), e2, fX12_determinant_L44_s, if_pos co_m1]
      congr 2
      rw [Int64.zero_add]
      congr 1
      obtain ⟨k, rfl⟩ : ∃ k, n = k + 1 := ⟨n - 1, by omega⟩
      simp only [sumN, Int.sub_zero, gs, Nat.add_sub_cancel]; rfl
    rw [h16, if_pos (nI_ne0 hpos (by omega)), show fX12_determinant_L14 x1 0 FU 0 s = some ((), s1) from e1, bnd_k, if_pos (by decide), show (0 : Int32).toNatClampNeg = 0 from by decide]
    simp only [lets]
    rw [show fX12_determinant_L44 x1 FU 0 0 (sA s1 20 0 (-1)) = some (Int64.ofInt (gs E n n 0 (fun _ => 0)), s') from hL]; rfl
end DET
/-! all orders of columns give the determinant -/
def pcs (τ : Nat) : Nat := cn τ
def sgm (τ c : Nat) : Int := if cn (τ / 2 ^ (c + 1)) % 2 = 0 then 1 else -1
def rmn (n τ : Nat) : List Nat := [0, 1, 2, 3, 4].filter (fun c => decide (c < n) && !τ.testBit c)
def remLo (n τ k : Nat) : List Nat := [0, 1, 2, 3, 4].filter (fun c => decide (c < n) && !τ.testBit c && decide (c < k))
def remHi (n τ k : Nat) : List Nat := [0, 1, 2, 3, 4].filter (fun c => decide (c < n) && !τ.testBit c && decide (k ≤ c))
def rsg (n τ c : Nat) : Int := if (remLo n τ c).length % 2 = 0 then 1 else -1
/-- pairs of a column that is taken and a smaller one that isn't -/
def epc (n τ : Nat) : Nat := ([0, 1, 2, 3, 4].map (fun t => if decide (t < n) && τ.testBit t then (remLo n τ t).length else 0)).sum
def eps (n τ : Nat) : Int := if epc n τ % 2 = 0 then 1 else -1
theorem sg_flip : ∀ τ, τ < 32 → ∀ x, x < 5 → ∀ c, c < 5 → (τ.testBit x = false ∧ ¬ x = c → sgm (τ ||| 2 ^ x) c = if c < x then - sgm τ c else sgm τ c) := by decide +kernel
theorem rm_0 : ∀ n, n < 6 → ∀ τ, τ < 32 → remLo n τ 0 = [] ∧ remHi n τ 0 = rmn n τ ∧ remHi n τ n = [] ∧ rsg n τ 0 = 1 := by decide +kernel
theorem rm_t1 : ∀ n, n < 6 → ∀ τ, τ < 32 → ∀ c, c < 5 → (c < n ∧ τ.testBit c = true → remHi n τ c = remHi n τ (c + 1)) := by decide +kernel
theorem rm_t2 : ∀ n, n < 6 → ∀ τ, τ < 32 → ∀ c, c < 5 → (c < n ∧ τ.testBit c = true → remLo n τ (c + 1) = remLo n τ c) := by decide +kernel
theorem rm_t (n : Nat) (hn : n < 6) (τ : Nat) (ht : τ < 32) (c : Nat) (hc : c < n) (hb : τ.testBit c = true) : remHi n τ c = remHi n τ (c + 1) ∧ remLo n τ (c + 1) = remLo n τ c ∧ rsg n τ (c + 1) = rsg n τ c := by
  have h1 := rm_t1 n hn τ ht c (by omega) ⟨hc, hb⟩
  have h2 := rm_t2 n hn τ ht c (by omega) ⟨hc, hb⟩
  exact ⟨h1, h2, by unfold rsg; rw [h2]⟩
theorem rm_f1 : ∀ n, n < 6 → ∀ τ, τ < 32 → ∀ c, c < 5 → (c < n ∧ τ.testBit c = false → remHi n τ c = c :: remHi n τ (c + 1)) := by decide +kernel
theorem rm_f3 : ∀ n, n < 6 → ∀ τ, τ < 32 → ∀ c, c < 5 → (c < n ∧ τ.testBit c = false → remLo n τ (c + 1) = remLo n τ c ++ [c]) := by decide +kernel
theorem rm_f2 : ∀ n, n < 6 → ∀ τ, τ < 32 → ∀ c, c < 5 → (c < n ∧ τ.testBit c = false → remLo n τ c ++ remHi n τ (c + 1) = rmn n (τ ||| 2 ^ c)) := by decide +kernel
theorem rm_f (n : Nat) (hn : n < 6) (τ : Nat) (ht : τ < 32) (c : Nat) (hc : c < n) (hb : τ.testBit c = false) : remHi n τ c = c :: remHi n τ (c + 1) ∧ remLo n τ (c + 1) = remLo n τ c ++ [c] ∧ rsg n τ (c + 1) = - rsg n τ c ∧ remLo n τ c ++ remHi n τ (c + 1) = rmn n (τ ||| 2 ^ c) := by
  have h1 := rm_f1 n hn τ ht c (by omega) ⟨hc, hb⟩
  have h2 := rm_f3 n hn τ ht c (by omega) ⟨hc, hb⟩
  refine ⟨h1, h2, ?_, rm_f2 n hn τ ht c (by omega) ⟨hc, hb⟩⟩
  unfold rsg; rw [h2, List.length_append]
  show (if ((remLo n τ c).length + 1) % 2 = 0 then (1 : Int) else -1) = _
  by_cases z : (remLo n τ c).length % 2 = 0
  · rw [if_pos z, if_neg (by omega)]
  · rw [if_neg z, if_pos (by omega)]; rfl
theorem ep_s : ∀ n, n < 6 → ∀ τ, τ < 2 ^ n → ∀ c, c < n → τ.testBit c = false → sgm τ c * eps n (τ ||| 2 ^ c) = eps n τ * rsg n τ c ∧ cn (τ ||| 2 ^ c) = cn τ + 1 ∧ τ ||| 2 ^ c < 2 ^ n := by decide +kernel
theorem ep_0 : ∀ n, n < 6 → eps n 0 = 1 ∧ rmn n 0 = dn n ∧ ∀ τ, τ < 2 ^ n → cn τ = n → eps n τ = 1 ∧ rmn n τ = [] := by decide +kernel
def rws : Nat → Nat → List Nat
  | _, 0 => []
  | k, d + 1 => k :: rws (k + 1) d
theorem rws_0 : ∀ n, n < 6 → rws 0 n = dn n := by decide +kernel
def ds (E : Nat → Nat → Int) (n : Nat) : Nat → Nat → Nat → Int
  | 0, _, _ => 1
  | d + 1, k, τ => sumN (fun c => if τ.testBit c then 0 else E k c * sgm τ c * ds E n d (k + 1) (τ ||| 2 ^ c)) n
theorem isg_congr {o o' : Nat → Nat} {k : Nat} (hk : o k = o' k) : ∀ q, (∀ r, r < q → o r = o' r) → isg o k q = isg o' k q := by
  intro q
  induction q with
  | zero => intro _; rfl
  | succ q ih => intro h; simp only [isg]; rw [ih (fun r hr => h r (by omega)), hk, h q (by omega)]
theorem PR_congr {E : Nat → Nat → Int} {o o' : Nat → Nat} : ∀ k, (∀ r, r < k → o r = o' r) → PR E o k = PR E o' k := by
  intro k
  induction k with
  | zero => intro _; rfl
  | succ k ih => intro h; simp only [PR]; rw [ih (fun r hr => h r (by omega)), h k (by omega), isg_congr (h k (by omega)) k (fun r hr => h r (by omega))]
theorem isg_mask {o : Nat → Nat} {k : Nat} (h5 : o k < 5) : ∀ q, (∀ r, r < q → o r < 5 ∧ o r ≠ o k ∧ (mo o r).testBit (o r) = false) → isg o k q = sgm (mo o q) (o k) := by
  intro q
  induction q with
  | zero =>
    intro _
    have : ∀ c, c < 5 → sgm 0 c = 1 := by decide +kernel
    exact (this _ h5).symm
  | succ q ih =>
    intro h
    obtain ⟨h1, h2, h3⟩ := h q (by omega)
    have hm : mo o q < 32 := mo_lt (n := 5) q (fun r hr => (h r (by omega)).1)
    simp only [isg, mo]
    rw [sg_flip _ hm (o q) h1 (o k) h5 ⟨h3, h2⟩, ih (fun r hr => h r (by omega))]
section ORD
variable {E : Nat → Nat → Int} {n : Nat}
theorem gs_ds (hn : n ≤ 5) : ∀ (d k : Nat) (o : Nat → Nat), (∀ r, r < k → o r < n ∧ (mo o r).testBit (o r) = false) → gs E n d k o = PR E o k * ds E n d k (mo o k) := by
  intro d
  induction d with
  | zero => intro k o _; simp [gs, ds]
  | succ d ih =>
    intro k o ho
    simp only [gs, ds]
    rw [← sumN_mul']
    refine sumN_congr fun c hc => ?_
    cases hb : (mo o k).testBit c with
    | true => rw [if_pos rfl, if_pos rfl]; simp
    | false =>
      rw [if_neg Bool.noConfusion, if_neg Bool.noConfusion]
      have hne : ∀ r, r < k → o r ≠ c := fun r hr e => by rw [(mo_bit k).mpr ⟨r, hr, e⟩] at hb; exact Bool.noConfusion hb
      have ho' : ∀ r, r < k + 1 → ups o k c r < n ∧ (mo (ups o k c) r).testBit (ups o k c r) = false := by
        intro r hr
        by_cases e : r = k
        · subst e; rw [ups_eq, mo_congr r (fun q hq => ups_lt hq)]; exact ⟨hc, hb⟩
        · rw [ups_lt (by omega), mo_congr r (fun q hq => ups_lt (by omega))]; exact ho r (by omega)
      rw [ih (k + 1) (ups o k c) ho', mo_ups]
      simp only [PR]
      rw [PR_congr k (fun r hr => ups_lt hr), ups_eq, isg_mask (o := ups o k c) (k := k) (by rw [ups_eq]; omega) k (fun r hr => ⟨by have := (ho' r (by omega)).1; omega, by rw [ups_eq, ups_lt hr]; exact hne r hr, (ho' r (by omega)).2⟩), ups_eq, mo_congr k (fun r hr => ups_lt hr), Int.mul_assoc, Int.mul_assoc, Int.mul_assoc]
theorem wd_rem (hn : n < 6) {τ : Nat} (hτ : τ < 32) (u : Nat → Int) (g : List Nat → Int) : ∀ (m c : Nat), c + m = n → sumN (fun c => if τ.testBit c then 0 else rsg n τ c * (u c * g (rmn n (τ ||| 2 ^ c)))) n = sumN (fun c => if τ.testBit c then 0 else rsg n τ c * (u c * g (rmn n (τ ||| 2 ^ c)))) c + rsg n τ c * wd u (remHi n τ c) (fun l => g (remLo n τ c ++ l)) := by
  intro m
  induction m with
  | zero =>
    intro c hc
    obtain rfl : c = n := by omega
    rw [(rm_0 c hn τ hτ).2.2.1]; simp [wd]
  | succ m ih =>
    intro c hc
    rw [ih (c + 1) (by omega)]
    simp only [sumN]
    cases hb : τ.testBit c with
    | true =>
      obtain ⟨e1, e2, e3⟩ := rm_t n hn τ hτ c (by omega) hb
      rw [if_pos rfl, e1, e2, e3]; omega
    | false =>
      obtain ⟨e1, e2, e3, e4⟩ := rm_f n hn τ hτ c (by omega) hb
      rw [if_neg Bool.noConfusion, e1, e2, e3]
      simp only [wd]
      rw [e4]
      have e5 : (fun l => g (remLo n τ c ++ [c] ++ l)) = (fun l => g (remLo n τ c ++ c :: l)) := by
        funext l; rw [List.append_assoc]; rfl
      rw [e5, Int.mul_sub, Int.neg_mul]; omega
theorem ds_dl (hn : n < 6) : ∀ (d k τ : Nat), k + d = n → τ < 2 ^ n → cn τ = k → ds E n d k τ = eps n τ * dl ((rws k d).map E) (rmn n τ) := by
  intro d
  induction d with
  | zero =>
    intro k τ hk ht hc
    obtain ⟨e1, e2⟩ := (ep_0 n hn).2.2 τ ht (by omega)
    rw [e1]; simp [ds, rws, dl]
  | succ d ih =>
    intro k τ hk ht hc
    have h32 : τ < 32 := Nat.lt_of_lt_of_le ht (Nat.pow_le_pow_right (n := 2) (j := 5) (by decide) (by omega))
    obtain ⟨r1, r2, r3, r4⟩ := rm_0 n hn τ h32
    have hwd := wd_rem hn h32 (E k) (dl ((rws (k + 1) d).map E)) n 0 (by omega)
    rw [r1, r2, r4] at hwd
    simp only [sumN, Int.zero_add, Int.one_mul, List.nil_append] at hwd
    simp only [ds, rws, List.map_cons]
    show _ = eps n τ * wd (E k) (rmn n τ) (dl ((rws (k + 1) d).map E))
    rw [← hwd, ← sumN_mul']
    refine sumN_congr fun c hc' => ?_
    cases hb : τ.testBit c with
    | true => rw [if_pos rfl, if_pos rfl]; simp
    | false =>
      obtain ⟨p1, p2, p3⟩ := ep_s n hn τ ht c hc' hb
      rw [if_neg Bool.noConfusion, if_neg Bool.noConfusion, ih (k + 1) (τ ||| 2 ^ c) (by omega) p3 (by omega)]
      have e1 : E k c * sgm τ c * (eps n (τ ||| 2 ^ c) * dl ((rws (k + 1) d).map E) (rmn n (τ ||| 2 ^ c))) = (sgm τ c * eps n (τ ||| 2 ^ c)) * (E k c * dl ((rws (k + 1) d).map E) (rmn n (τ ||| 2 ^ c))) := by
        rw [Int.mul_comm (E k c) (sgm τ c), Int.mul_assoc, Int.mul_assoc, Int.mul_left_comm (E k c)]
      rw [e1, p1, Int.mul_assoc]
theorem gs_det (hn : n ≤ 5) : gs E n n 0 (fun _ => 0) = dl ((dn n).map E) (dn n) := by
  rw [gs_ds hn n 0 _ (fun r hr => absurd hr (by omega))]
  show PR E (fun _ => 0) 0 * ds E n n 0 0 = _
  rw [ds_dl (by omega) n 0 0 (by omega) (Nat.two_pow_pos n) (by decide), (ep_0 n (by omega)).1, (ep_0 n (by omega)).2.1, rws_0 n (by omega)]
  simp [PR]
theorem m_det {x1 : Int32} {s : MS} (hn : n ≤ 5) (h16 : gI s 16 = nI n) (hT : TE n x1 E s) : ∃ s', fX12_determinant x1 s = some (Int64.ofInt (dl ((dn n).map E) (dn n)), s') ∧ FrD s s' := by
  rw [← gs_det hn]; exact m_det0 hn h16 hT
end ORD
