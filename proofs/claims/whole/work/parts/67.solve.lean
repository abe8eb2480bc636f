/-! minors over sets of columns -/
def dd : Nat → List Nat
  | 0 => []
  | n + 1 => n :: dd n
def pcn (n : Nat) : Nat := cn n + (n.testBit 6).toNat
def cols (n : Nat) : List Nat := [6, 5, 4, 3, 2, 1, 0].filter (fun c => n.testBit c)
def colsHi (n d : Nat) : List Nat := [6, 5, 4, 3, 2, 1, 0].filter (fun c => n.testBit c && decide (d ≤ c))
def colsLo (n d : Nat) : List Nat := [6, 5, 4, 3, 2, 1, 0].filter (fun c => n.testBit c && decide (c < d))
theorem co_0 : ∀ n, n < 128 → colsLo n 0 = [] ∧ colsHi n 7 = [] ∧ colsLo n 7 = cols n := by decide +kernel
theorem co_y : ∀ n, n < 128 → ∀ j, j < 7 → n.testBit j = true → colsLo n (j + 1) = j :: colsLo n j ∧ colsHi n j = colsHi n (j + 1) ++ [j] ∧ cols (n ^^^ 2 ^ j) = colsHi n (j + 1) ++ colsLo n j ∧ pcn (n ^^^ 2 ^ j) + 1 = pcn n ∧ n ^^^ 2 ^ j < n := by decide +kernel
theorem co_n : ∀ n, n < 128 → ∀ j, j < 7 → n.testBit j = false → colsLo n (j + 1) = colsLo n j ∧ colsHi n j = colsHi n (j + 1) := by decide +kernel
theorem co_x : ∀ n, n < 128 → ∀ j, j < 7 → nI n ^^^ (1 <<< (nI j &&& 31)) = nI (n ^^^ 2 ^ j) := by decide +kernel
theorem co_p : ∀ n, n < 127 → 1 ≤ n → 1 ≤ pcn n ∧ pcn n ≤ 6 := by decide +kernel
theorem co_h : ∀ j, j < 6 → cols (127 ^^^ 2 ^ j) = colH j ∧ pcn (127 ^^^ 2 ^ j) = 6 ∧ 127 ^^^ 2 ^ j < 127 ∧ 1 ≤ 127 ^^^ 2 ^ j := by decide +kernel
theorem co_63 : cols 63 = R6 ∧ pcn 63 = 6 ∧ dd 6 = R6 := by decide +kernel
theorem co_m1 : nI 0 + (-1) < 0 := by decide +kernel
theorem xor_lt {n j : Nat} (hn : n < 128) (hj : j < 7) : n ^^^ 2 ^ j < 128 := Nat.xor_lt_two_pow (n := 7) hn (Nat.pow_lt_pow_right (n := 7) (by decide) hj)
/-- the minor of a set of columns -/
def mv (M : Nat → Nat → Int) (n : Nat) : Int := dl ((dd (pcn n)).map M) (cols n)
section SOLVE
variable {G : GD} {s s' s'' : MS} {nc : Nat} {M : Nat → Nat → Int}
theorem minor_L9 {n k : Nat} (hn : n < 128) (hk : k < 6) (hM : RWS M s) (hmin : ∀ j, j < 7 → n.testBit j = true → gB s 68 (n ^^^ 2 ^ j) = Int64.ofInt (dl ((dd k).map M) (colsHi n (j + 1) ++ colsLo n j))) : ∀ (d fu : Nat) (x3 : Int64) (e : Int), d ≤ 7 → d < fu → fX8_minorOf_L9 nc (nI n) k fu x3 (Int64.ofInt e) (nI d + (-1)) s = some (x3 + Int64.ofInt (e * wd (M k) (colsLo n d) (fun l => dl ((dd k).map M) (colsHi n d ++ l))), s) := by
  intro d
  induction d with
  | zero =>
    intro fu x3 e _ hf
    obtain ⟨f, rfl⟩ : ∃ f, fu = f + 1 := ⟨fu - 1, by omega⟩
    rw [fX8_minorOf_L9_s, if_pos co_m1, (co_0 n hn).1]
    simp [wd]
  | succ d ih =>
    intro fu x3 e hd hf
    obtain ⟨f, rfl⟩ : ∃ f, fu = f + 1 := ⟨fu - 1, by omega⟩
    have hci : (nI d).toNatClampNeg = d := nI_clamp (by omega)
    have c2 : ¬ (nI d < 0 ∨ 7 ≤ d) := inR' (by omega) (by decide)
    have hx := xor_lt (j := d) hn (by omega)
    have hcx : (nI (n ^^^ 2 ^ d)).toNatClampNeg = n ^^^ 2 ^ d := nI_clamp (by omega)
    have c3 : ¬ (nI (n ^^^ 2 ^ d) < 0 ∨ 128 ≤ n ^^^ 2 ^ d) := inR' hx (by decide)
    rw [fX8_minorOf_L9_s, pk_m1, if_neg (nI_pos (by omega)), w_bit n hn d (by omega)]
    cases hb : n.testBit d with
    | false =>
      obtain ⟨e1, e2⟩ := co_n n hn d (by omega) hb
      rw [if_pos (by decide)]
      unfold fX8_minorOf_J51
      rw [ih f x3 e (by omega) (by omega), e1, e2]
    | true =>
      obtain ⟨e1, e2, -, -, -⟩ := co_y n hn d (by omega) hb
      rw [if_neg (by decide)]
      simp only [co_x n hn d (by omega), hci, hcx, if_pos hk, if_pos c2, if_pos c3]
      unfold fX8_minorOf_J51
      rw [← Int64.ofInt_neg, ih f _ (-e) (by omega) (by omega), hM k hk d (by omega), hmin d (by omega) hb, e1, e2]
      simp only [wd]
      have e3 : (fun l => dl ((dd k).map M) (colsHi n (d + 1) ++ [d] ++ l)) = (fun l => dl ((dd k).map M) (colsHi n (d + 1) ++ d :: l)) := by
        funext l; rw [List.append_assoc]; rfl
      rw [e3, ← Int64.ofInt_mul, ← Int64.ofInt_mul, Int64.add_assoc, ← Int64.ofInt_add]
      refine congrArg (fun z => some (x3 + Int64.ofInt z, s)) ?_
      rw [Int.mul_sub, Int.neg_mul, Int.mul_assoc]; omega
theorem x_minorOf {n k : Nat} (hn : n < 128) (hk : k < 6) (hp : pcn n = k + 1) (hM : RWS M s) (hmin : ∀ j, j < 7 → n.testBit j = true → gB s 68 (n ^^^ 2 ^ j) = Int64.ofInt (mv M (n ^^^ 2 ^ j))) : fX8_minorOf nc (nI n) k s = some (Int64.ofInt (mv M n), s) := by
  unfold fX8_minorOf
  rw [show (1 : Int64) = Int64.ofInt 1 from rfl, show (6 : Int32) = nI 7 + (-1) from by decide, minor_L9 hn hk hM (fun j hj hb => by
    obtain ⟨-, -, e3, e4, -⟩ := co_y n hn j hj hb
    rw [hmin j hj hb]; unfold mv
    rw [e3, show pcn (n ^^^ 2 ^ j) = k by omega]) 7 FU 0 1 (Nat.le_refl _) (by show 7 < 1000000; omega)]
  show some (_, s) = _
  rw [(co_0 n hn).2.2, (co_0 n hn).2.1, Int64.zero_add, Int.one_mul]
  unfold mv
  rw [hp]; rfl
theorem RWS.sb {lo hi : Nat} (hM : RWS M s) (h : SB lo hi s s') (hh : hi ≤ 100) : RWS M s' := fun r hr c hc => by rw [h.2.2.2 (100 + r) (by omega)]; exact hM r hr c hc
theorem solve_L12 : ∀ (d i fu : Nat) (s : MS), i + d = 127 → 1 ≤ i → d < fu → RWS M s → (∀ m, m < i → gB s 68 m = Int64.ofInt (mv M m)) → ∃ s', fX8_solveRows_L12 nc 127 fu (nI i) s = some ((), s') ∧ SB 68 69 s s' ∧ ∀ m, m < 127 → gB s' 68 m = Int64.ofInt (mv M m) := by
  intro d
  induction d with
  | zero =>
    intro i fu s hi h1 hf hM hm
    obtain ⟨f, rfl⟩ : ∃ f, fu = f + 1 := ⟨fu - 1, by omega⟩
    obtain rfl : i = 127 := by omega
    exact ⟨s, by rw [fX8_solveRows_L12_s, if_pos (by decide)], SB.rfl', hm⟩
  | succ d ih =>
    intro i fu s hi h1 hf hM hm
    obtain ⟨f, rfl⟩ : ∃ f, fu = f + 1 := ⟨fu - 1, by omega⟩
    obtain ⟨p1, p6⟩ := co_p i (by omega) h1
    obtain ⟨k, hk⟩ : ∃ k, pcn i = k + 1 := ⟨pcn i - 1, by omega⟩
    have hci : (nI i).toNatClampNeg = i := nI_clamp (by omega)
    have c2 : ¬ (nI i < 0 ∨ 128 ≤ i) := inR' (show i < 128 by omega) (by decide)
    have hck : (nI k).toNatClampNeg = k := nI_clamp (by omega)
    have k6 : k < 6 := by omega
    have c3 : ¬ (nI k < 0 ∨ 6 ≤ k) := inR' k6 (by decide)
    have hmo := x_minorOf (nc := nc) (show i < 128 by omega) k6 hk hM (fun j hj hb => hm _ (co_y i (by omega) j hj hb).2.2.2.2)
    obtain ⟨s', e, b, q⟩ := ih (i + 1) f (sB s 68 i (Int64.ofInt (mv M i))) (by omega) (by omega) (by omega) (hM.sb (SB.put (lo := 68) (hi := 69) (by omega) (by omega)) (by omega)) (by
      intro m hlt
      rw [gB_eq]
      by_cases h : m = i
      · subst h; exact pk_uLs
      · rw [pk_uLn h]; exact hm m (by omega))
    refine ⟨s', ?_, (SB.put (by omega) (by omega)).trans b, q⟩
    rw [fX8_solveRows_L12_s, if_neg (show ¬ (127 : Int32) ≤ nI i from nI_ge (b := 127) (by omega) (by decide)), w_cnt i (by omega)]
    show (if _ then _ else _) = _
    rw [show cn i + (i.testBit 6).toNat = k + 1 from hk, nI_pred]
    simp only [hck, if_pos c3, if_pos k6, hmo, bnd, hci, if_pos c2, lets, nI_1]
    exact e
def sg2 (d : Nat) : Int := if d % 2 = 0 then 1 else -1
theorem sg2_s (d : Nat) : -sg2 (d + 1) = sg2 d := by
  unfold sg2
  by_cases h : d % 2 = 0
  · rw [if_pos h, if_neg (by omega)]; rfl
  · rw [if_neg h, if_pos (by omega)]
theorem sg2_H (d : Nat) : sg2 (d + 1) = sgH d := by
  unfold sg2 sgH
  by_cases h : d % 2 = 1
  · rw [if_pos h, if_pos (by omega)]
  · rw [if_neg h, if_neg (by omega)]
theorem solve_L65 : ∀ (d fu : Nat) (s : MS), d ≤ 6 → d < fu → ∃ s', fX8_solveRows_L65 nc 127 fu (Int64.ofInt (sg2 d)) (nI d + (-1)) s = some ((), s') ∧ SB 69 70 s s' ∧ (∀ j, j < d → gB s' 69 j = Int64.ofInt (sgH j) * gB s 68 (127 ^^^ 2 ^ j)) ∧ ∀ j, d ≤ j → gB s' 69 j = gB s 69 j := by
  intro d
  induction d with
  | zero =>
    intro fu s _ hf
    obtain ⟨f, rfl⟩ : ∃ f, fu = f + 1 := ⟨fu - 1, by omega⟩
    exact ⟨s, by rw [fX8_solveRows_L65_s, if_pos co_m1], SB.rfl', fun j hj => absurd hj (by omega), fun _ _ => rfl⟩
  | succ d ih =>
    intro fu s hd hf
    obtain ⟨f, rfl⟩ : ∃ f, fu = f + 1 := ⟨fu - 1, by omega⟩
    have hci : (nI d).toNatClampNeg = d := nI_clamp (by omega)
    have c2 : ¬ (nI d < 0 ∨ 6 ≤ d) := inR' (by omega) (by decide)
    have hx := xor_lt (n := 127) (j := d) (by omega) (by omega)
    have hcx : (nI (127 ^^^ 2 ^ d)).toNatClampNeg = 127 ^^^ 2 ^ d := nI_clamp (by omega)
    have c3 : ¬ (nI (127 ^^^ 2 ^ d) < 0 ∨ 128 ≤ 127 ^^^ 2 ^ d) := inR' hx (by decide)
    obtain ⟨s', e, b, q1, q2⟩ := ih f (sB s 69 d (Int64.ofInt (sg2 (d + 1)) * gB s 68 (127 ^^^ 2 ^ d))) (by omega) (by omega)
    refine ⟨s', ?_, (SB.put (by omega) (by omega)).trans b, ?_, ?_⟩
    · rw [fX8_solveRows_L65_s, pk_m1, if_neg (nI_pos (by omega)), show (127 : Int32) = nI 127 from rfl]
      simp only [co_x 127 (by omega) d (by omega), hci, hcx, if_pos c2, if_pos c3, lets]
      rw [← Int64.ofInt_neg, sg2_s]; exact e
    · intro j hj
      by_cases h : j = d
      · subst h
        rw [q2 j (Nat.le_refl _), gB_eq, pk_uLs, sg2_H]
      · rw [q1 j (by omega), gB_ne (by decide)]
    · intro j hj
      rw [q2 j (by omega), gB_eq, pk_uLn (by omega)]
theorem x_solveRows (hM : RWS M s) : ∃ s', fX8_solveRows nc s = some ((), s') ∧ (∀ k, gI s' k = gI s k) ∧ (∀ a, gA s' a = gA s a) ∧ (∀ a, a ≠ 68 → a ≠ 69 → gB s' a = gB s a) ∧ gL s' = (if Int64.ofInt (dl (R6.map M) R6) < 1 then 1 else Int64.ofInt (dl (R6.map M) R6)) ∧ ∀ j, j < 6 → gB s' 69 j = Int64.ofInt (sgH j * dl (R6.map M) (colH j)) := by
  have hM0 : RWS M (sB s 68 0 1) := hM.sb (SB.put (lo := 68) (hi := 69) (by omega) (by omega)) (by omega)
  obtain ⟨s1, e1, b1, q1⟩ := solve_L12 (nc := nc) 126 1 FU (sB s 68 0 1) (by omega) (by omega) (by show 126 < 1000000; omega) hM0 (by
    intro m hm
    obtain rfl : m = 0 := by omega
    rw [gB_eq, pk_uLs]; rfl)
  have v63 : gB s1 68 63 = Int64.ofInt (dl (R6.map M) R6) := by
    rw [q1 63 (by omega)]; unfold mv; rw [co_63.1, co_63.2.1, co_63.2.2]
  obtain ⟨s2, e2, b2, q2, -⟩ := solve_L65 (nc := nc) 6 FU (sL s1 (if gB s1 68 63 < 1 then 1 else gB s1 68 63)) (by omega) (by show 6 < 1000000; omega)
  refine ⟨s2, ?_, fun k => (b2.1 k).trans (b1.1 k), fun a => (b2.2.2.1 a).trans (b1.2.2.1 a), ?_, ?_, ?_⟩
  · unfold fX8_solveRows
    have h5 : (5 : Int32) = nI 6 + (-1) := by decide
    have h1 : (1 : Int64) = Int64.ofInt (sg2 6) := by decide
    rw [← h1, ← h5] at e2
    rw [if_pos (by decide), show (0 : Int32).toNatClampNeg = 0 from by decide, show (63 : Int32).toNatClampNeg = 63 from by decide]
    simp only [lets]
    rw [show fX8_solveRows_L12 nc 127 FU 1 (sB s 68 0 1) = some ((), s1) from e1, bnd_k, if_pos (by decide), e2]; rfl
  · intro a h1 h2
    rw [b2.2.2.2 a (by omega)]
    show gB s1 a = _
    rw [b1.2.2.2 a (by omega), gB_ne h1]
  · rw [b2.2.1]
    show (if gB s1 68 63 < 1 then 1 else gB s1 68 63) = _
    rw [v63]
  · intro j hj
    rw [q2 j hj]
    show Int64.ofInt (sgH j) * gB s1 68 (127 ^^^ 2 ^ j) = _
    obtain ⟨h1, h2, h3, -⟩ := co_h j hj
    rw [q1 _ h3, ← Int64.ofInt_mul]
    unfold mv
    rw [h1, h2, co_63.2.2]
theorem flows_L2 (hw : Wf G) {U : Nat → Int64} : ∀ (d i fu : Nat) (s : MS), i + d = qN G → d < fu → Pc G s → (∀ j, j < 6 → gB s 69 j = U j) → ∃ s', fX8_reckonFlows_L2 (qN G) fu (nI i) s = some ((), s') ∧ SB 70 71 s s' ∧ (∀ c, i ≤ c → c < qN G → gB s' 70 c = Int64.ofInt (lq G c) * (U (qa G c) - U (qb G c))) ∧ ∀ c, c < i → gB s' 70 c = gB s 70 c := by
  intro d
  have h12 := hw.2.1
  have hJ := hw.1
  induction d with
  | zero =>
    intro i fu s hi hf hp hU
    obtain ⟨f, rfl⟩ : ∃ f, fu = f + 1 := ⟨fu - 1, by omega⟩
    obtain rfl : i = qN G := by omega
    exact ⟨s, by rw [fX8_reckonFlows_L2_s, hp.2.1, if_pos (nI_le (Nat.le_refl _) (by omega))], SB.rfl', fun c h1 h2 => absurd h1 (by omega), fun _ _ => rfl⟩
  | succ d ih =>
    intro i fu s hi hf hp hU
    obtain ⟨f, rfl⟩ : ∃ f, fu = f + 1 := ⟨fu - 1, by omega⟩
    have hci : (nI i).toNatClampNeg = i := nI_clamp (by omega)
    have c2 : ¬ (nI i < 0 ∨ 12 ≤ i) := inR' (by omega) (by decide)
    have c3 : i < qN G := by omega
    obtain ⟨e5, e6, e7, e8⟩ := hp.2.2.2.2 i c3
    obtain ⟨ha, hb, hab, hk, hww⟩ := hw.2.2.2.2 i c3
    have hca : (nI (qa G i)).toNatClampNeg = qa G i := nI_clamp (by omega)
    have hcb : (nI (qb G i)).toNatClampNeg = qb G i := nI_clamp (by omega)
    have ca : ¬ (nI (qa G i) < 0 ∨ 6 ≤ qa G i) := inR' (by omega) (by decide)
    have cb : ¬ (nI (qb G i) < 0 ∨ 6 ≤ qb G i) := inR' (by omega) (by decide)
    have hl : lq G i < 2 ^ 31 := by have := lq_le hw c3; omega
    have put : SB 70 71 s (sB s 70 i (Int64.ofInt (lq G i) * (U (qa G i) - U (qb G i)))) := SB.put (by omega) (by omega)
    obtain ⟨s', e, b, q1, q2⟩ := ih (i + 1) f (sB s 70 i (Int64.ofInt (lq G i) * (U (qa G i) - U (qb G i)))) (by omega) (by omega) (hp.sb put) (fun j hj => by rw [gB_ne (by decide)]; exact hU j hj)
    refine ⟨s', ?_, put.trans b, ?_, ?_⟩
    · rw [fX8_reckonFlows_L2_s]
      simp only [hp.2.1, hci, if_neg (nI_ge c3 (by omega)), if_pos c2, if_pos c3, xl_lets hw hp c3, bnd, e5, e6, hca, hcb, if_pos ca, if_pos cb, hU _ (show qa G i < 6 by omega), hU _ (show qb G i < 6 by omega), oI _ hl, lets, nI_1]
      exact e
    · intro c h1 h2
      by_cases h : c = i
      · subst h; rw [q2 c (by omega), gB_eq, pk_uLs]
      · exact q1 c (by omega) h2
    · intro c h1
      rw [q2 c (by omega), gB_eq, pk_uLn (by omega)]
end SOLVE
