/-! what cracks let through, joint by joint -/
def lq (G : GD) (c : Nat) : Nat := if qk G c = 0 ∨ qk G c = 2 then qw G c else qw G c * qw G c
def Wk (G : GD) : Nat → Nat → Nat → Int
  | 0, _, _ => 0
  | k + 1, r, d => Wk G k r d + (if (qa G k = r ∧ qb G k = d) ∨ (qb G k = r ∧ qa G k = d) then (lq G k : Int) else 0)
def Wq (G : GD) : Nat → Nat → Int := Wk G (qN G)
def Bq (G : GD) (r : Nat) : Bool := (wet G).testBit r && !qH G r
def bq (G : GD) (r : Nat) : Int := if qH G r then (qh G r : Int) else 0
/-- what crack c adds to row r -/
def rowC (G : GD) (c r col : Nat) : Int := (if qa G c = r then (lq G c : Int) * ed r (qb G c) col else 0) + (if qb G c = r then (lq G c : Int) * ed r (qa G c) col else 0)
section ROWS
variable {G : GD} {s s' s'' : MS} {nc : Nat}
theorem lq_le (hw : Wf G) {c : Nat} (hc : c < qN G) : lq G c ≤ 144 := by
  obtain ⟨-, -, -, -, h⟩ := hw.2.2.2.2 c hc
  unfold lq
  by_cases z : qk G c = 0 ∨ qk G c = 2
  · rw [if_pos z]; omega
  · rw [if_neg z]; exact Nat.mul_le_mul h h
theorem lq_0 {c : Nat} (h : qw G c = 0) : lq G c = 0 := by
  unfold lq; rw [h]; simp
theorem lq_pos {c : Nat} (h : 1 ≤ qw G c) : 1 ≤ lq G c := by
  unfold lq
  by_cases z : qk G c = 0 ∨ qk G c = 2
  · rw [if_pos z]; exact h
  · rw [if_neg z]; exact Nat.mul_le_mul h h
theorem sumN_if {f : Nat → Int} {n b : Nat} (hb : b < n) : sumN (fun d => if d = b then f d else 0) n = f b := by
  induction n with
  | zero => omega
  | succ n ih =>
    simp only [sumN]
    by_cases e : b = n
    · subst e
      have : sumN (fun d => if d = b then f d else 0) b = 0 := by
        have h0 : ∀ n, sumN (fun _ => (0 : Int)) n = 0 := by
          intro n; induction n with
          | zero => rfl
          | succ n ih => simp only [sumN]; rw [ih]; rfl
        exact (sumN_congr (g := fun _ => (0 : Int)) fun d hd => if_neg (show ¬ d = b by omega)).trans (h0 b)
      rw [this, if_pos rfl, Int.zero_add]
    · rw [ih (by omega), if_neg (fun z => e z.symm), Int.add_zero]
theorem full_step (hw : Wf G) {k : Nat} (hk : k < qN G) (r col : Nat) : full (Wk G (k + 1)) r col = full (Wk G k) r col + rowC G k r col := by
  obtain ⟨ha, hb, hab, -, -⟩ := hw.2.2.2.2 k hk
  have hJ := hw.1
  unfold full
  have e1 : (fun d => Wk G (k + 1) r d * ed r d col) = (fun d => Wk G k r d * ed r d col + (if (qa G k = r ∧ qb G k = d) ∨ (qb G k = r ∧ qa G k = d) then (lq G k : Int) else 0) * ed r d col) := by
    funext d; simp only [Wk]; rw [Int.add_mul]
  rw [e1, sumN_add]
  congr 1
  unfold rowC
  by_cases h1 : qa G k = r
  · have h2 : ¬ qb G k = r := fun z => hab (h1.trans z.symm)
    rw [if_pos h1, if_neg h2, Int.add_zero]
    rw [← sumN_if (f := fun d => (lq G k : Int) * ed r d col) (n := 6) (b := qb G k) (by omega)]
    refine sumN_congr fun d _ => ?_
    by_cases h3 : d = qb G k
    · rw [if_pos h3, if_pos (Or.inl ⟨h1, h3.symm⟩)]
    · rw [if_neg h3, if_neg (fun z => z.elim (fun y => h3 y.2.symm) (fun y => h2 y.1))]; omega
  · rw [if_neg h1, Int.zero_add]
    by_cases h2 : qb G k = r
    · rw [if_pos h2]
      rw [← sumN_if (f := fun d => (lq G k : Int) * ed r d col) (n := 6) (b := qa G k) (by omega)]
      refine sumN_congr fun d _ => ?_
      by_cases h3 : d = qa G k
      · rw [if_pos h3, if_pos (Or.inr ⟨h2, h3.symm⟩)]
      · rw [if_neg h3, if_neg (fun z => z.elim (fun y => h1 y.1) (fun y => h3 y.2.symm))]; omega
    · rw [if_neg h2]
      have e0 : (fun d => (if (qa G k = r ∧ qb G k = d) ∨ (qb G k = r ∧ qa G k = d) then (lq G k : Int) else 0) * ed r d col) = (fun _ => 0 * (0 : Int)) := by
        funext d; rw [if_neg (fun z => z.elim (fun y => h1 y.1) (fun y => h2 y.1))]; omega
      rw [e0, sumN_mul]; omega
theorem full_0 (r col : Nat) : full (Wk G 0) r col = 0 := by
  unfold full
  have e0 : (fun d => Wk G 0 r d * ed r d col) = (fun _ => 0 * (0 : Int)) := by
    funext d; simp only [Wk]; omega
  rw [e0, sumN_mul]; omega
theorem oI (n : Nat) (h : n < 2 ^ 31) : (nI n).toInt64 = Int64.ofInt (n : Int) := by
  rw [← Int64.ofInt_int32ToInt, nI_toInt h]
/-- ints, the long and rows of ints are as they were, and so are rows of longs but those from lo on below hi -/
def SB (lo hi : Nat) (s s' : MS) : Prop := (∀ k, gI s' k = gI s k) ∧ gL s' = gL s ∧ (∀ a, gA s' a = gA s a) ∧ ∀ a, (a < lo ∨ hi ≤ a) → gB s' a = gB s a
theorem SB.rfl' {lo hi : Nat} : SB lo hi s s := ⟨fun _ => rfl, rfl, fun _ => rfl, fun _ _ => rfl⟩
theorem SB.trans {lo hi : Nat} (h : SB lo hi s s') (h' : SB lo hi s' s'') : SB lo hi s s'' := ⟨fun k => (h'.1 k).trans (h.1 k), h'.2.1.trans h.2.1, fun a => (h'.2.2.1 a).trans (h.2.2.1 a), fun a ha => (h'.2.2.2 a ha).trans (h.2.2.2 a ha)⟩
theorem SB.put {lo hi k i : Nat} {v : Int64} (h1 : lo ≤ k) (h2 : k < hi) : SB lo hi s (sB s k i v) := ⟨fun _ => rfl, rfl, fun _ => rfl, fun a ha => gB_ne (by omega)⟩
theorem Pc.sb {lo hi : Nat} (hp : Pc G s) (h : SB lo hi s s') : Pc G s' := hp.frame (h.1 1) (h.1 4) (fun a _ => h.2.2.1 a)
theorem PX.sb {lo hi : Nat} (hp : PX G s) (h : SB lo hi s s') : PX G s' := ⟨hp.1.sb h, fun j hj => by rw [h.2.2.1]; exact hp.2 j hj⟩
/-- the rows as numbers -/
def RWS (M : Nat → Nat → Int) (s : MS) : Prop := ∀ r, r < 6 → ∀ c, c < 7 → gB s (100 + r) c = Int64.ofInt (M r c)
theorem x_writeCrack {M : Nat → Nat → Int} {bal j o l : Nat} (hb : bal < 64) (hj : j < 6) (ho : o < 6) (hjo : j ≠ o) (hl : l < 2 ^ 31) (h52 : gI s 52 = nI bal) (hM : RWS M s) : ∃ s', fX8_writeCrack nc (nI j) (nI o) (nI l) s = some ((), s') ∧ SB 100 106 s s' ∧ RWS (fun r c => M r c + (if r = j ∧ bal.testBit j = true then (l : Int) * ed j o c else 0)) s' := by
  have hcj : (nI j).toNatClampNeg = j := nI_clamp (by omega)
  have hco : (nI o).toNatClampNeg = o := nI_clamp (by omega)
  have c1 : ¬ (nI j < 0 ∨ 6 ≤ j) := inR' hj (by decide)
  have c2 : ¬ (nI j < 0 ∨ 7 ≤ j) := inR' (show j < 7 by omega) (by decide)
  have c3 : ¬ (nI o < 0 ∨ 7 ≤ o) := inR' (show o < 7 by omega) (by decide)
  unfold fX8_writeCrack
  rw [h52, w_bit bal (by omega) j (by omega)]
  cases hbit : bal.testBit j with
  | false =>
    refine ⟨s, ?_, SB.rfl', ?_⟩
    · rw [if_pos (by decide)]
    · intro r hr c hc
      show gB s (100 + r) c = Int64.ofInt (M r c + (if r = j ∧ false = true then (l : Int) * ed j o c else 0))
      rw [hM r hr c hc, if_neg (fun z => Bool.noConfusion z.2), Int.add_zero]
  | true =>
    refine ⟨sB (sB s (100 + j) j (gB s (100 + j) j + Int64.ofInt l)) (100 + j) o (gB (sB s (100 + j) j (gB s (100 + j) j + Int64.ofInt l)) (100 + j) o - Int64.ofInt l), ?_, (SB.put (by omega) (by omega)).trans (SB.put (by omega) (by omega)), ?_⟩
    · rw [if_neg (by decide)]
      simp only [hcj, hco, if_pos c1, if_pos c2, if_pos c3, if_pos hj, lets, oI l hl]
    · intro r hr c hc
      show gB _ (100 + r) c = Int64.ofInt (M r c + (if r = j ∧ true = true then (l : Int) * ed j o c else 0))
      by_cases e : r = j
      · subst e
        rw [if_pos ⟨rfl, rfl⟩, gB_eq, gB_eq]
        by_cases h1 : c = o
        · subst h1
          rw [pk_uLs, pk_uLn (Ne.symm hjo), hM r hr c hc]
          unfold ed ee
          rw [if_neg (Ne.symm hjo), if_pos rfl, ← Int64.ofInt_sub]; congr 1; omega
        · rw [pk_uLn h1]
          by_cases h2 : c = r
          · subst h2
            rw [pk_uLs, hM c hr c hc]
            unfold ed ee
            rw [if_pos rfl, if_neg h1, ← Int64.ofInt_add]; congr 1; omega
          · rw [pk_uLn h2, hM r hr c hc]
            unfold ed ee
            rw [if_neg h2, if_neg h1]; congr 1; omega
      · rw [if_neg (fun z => e z.1), gB_ne (by omega), gB_ne (by omega), hM r hr c hc, Int.add_zero]
theorem xl_lets (hw : Wf G) (hp : Pc G s) {c : Nat} (hc : c < qN G) : vX_lets (qN G) c s = some (nI (lq G c), s) := by
  obtain ⟨-, -, -, hk, -⟩ := hw.2.2.2.2 c hc
  obtain ⟨e5, e6, e7, e8⟩ := hp.2.2.2.2 c hc
  unfold vX_lets fX10_lets fX2_lets
  rw [e7, e8]
  simp only [if_pos hc, pk_mul]
  unfold lq
  rcases (show qk G c = 0 ∨ qk G c = 1 ∨ qk G c = 2 ∨ qk G c = 3 ∨ qk G c = 4 by omega) with h | h | h | h | h <;> rw [h] <;> rfl
/-- the rows while cracks are gone through -/
def Mk (G : GD) (k : Nat) : Nat → Nat → Int := fun r c => if Bq G r then full (Wk G k) r c else FF (bq G) r c
theorem Mk_step (hw : Wf G) {k bal : Nat} (hk : k < qN G) (hb : ∀ j, j < 6 → bal.testBit j = Bq G j) {r c : Nat} (hr : r < 6) : Mk G k r c + (if r = qa G k ∧ bal.testBit (qa G k) = true then (lq G k : Int) * ed (qa G k) (qb G k) c else 0) + (if r = qb G k ∧ bal.testBit (qb G k) = true then (lq G k : Int) * ed (qb G k) (qa G k) c else 0) = Mk G (k + 1) r c := by
  obtain ⟨ha, hb', hab, -, -⟩ := hw.2.2.2.2 k hk
  have hJ := hw.1
  rw [hb _ (by omega), hb _ (by omega)]
  unfold Mk
  cases hB : Bq G r with
  | false =>
    have m1 : ∀ k', (if false = true then full (Wk G k') r c else FF (bq G) r c) = FF (bq G) r c := fun _ => rfl
    rw [m1, m1, if_neg (fun z => by rw [← z.1, hB] at z; exact Bool.noConfusion z.2), if_neg (fun z => by rw [← z.1, hB] at z; exact Bool.noConfusion z.2)]; omega
  | true =>
    have m1 : ∀ k', (if true = true then full (Wk G k') r c else FF (bq G) r c) = full (Wk G k') r c := fun _ => rfl
    rw [m1, m1, full_step hw hk]
    unfold rowC
    by_cases h1 : qa G k = r
    · have h2 : ¬ qb G k = r := fun z => hab (h1.trans z.symm)
      rw [if_pos ⟨h1.symm, by rw [h1]; exact hB⟩, if_neg (fun z => h2 z.1.symm), if_pos h1, if_neg h2, h1]; omega
    · rw [if_neg (fun z => h1 z.1.symm), if_neg h1]
      by_cases h2 : qb G k = r
      · rw [if_pos ⟨h2.symm, by rw [h2]; exact hB⟩, if_pos h2, h2]; omega
      · rw [if_neg (fun z => h2 z.1.symm), if_neg h2]; omega
theorem rows_L81 (hw : Wf G) {bal : Nat} (hb64 : bal < 64) (hb : ∀ j, j < 6 → bal.testBit j = Bq G j) : ∀ (d i fu : Nat) (s : MS), i + d = qN G → d < fu → Pc G s → gI s 52 = nI bal → RWS (Mk G i) s → ∃ s', fX8_writeRows_L81 (qN G) fu (nI i) s = some ((), s') ∧ SB 100 106 s s' ∧ RWS (Mk G (qN G)) s' := by
  intro d
  have h12 := hw.2.1
  have hJ := hw.1
  induction d with
  | zero =>
    intro i fu s hi hf hp h52 hM
    obtain ⟨f, rfl⟩ : ∃ f, fu = f + 1 := ⟨fu - 1, by omega⟩
    obtain rfl : i = qN G := by omega
    exact ⟨s, by rw [fX8_writeRows_L81_s, hp.2.1, if_pos (nI_le (Nat.le_refl _) (by omega))], SB.rfl', hM⟩
  | succ d ih =>
    intro i fu s hi hf hp h52 hM
    obtain ⟨f, rfl⟩ : ∃ f, fu = f + 1 := ⟨fu - 1, by omega⟩
    have hci : (nI i).toNatClampNeg = i := nI_clamp (by omega)
    have c2 : ¬ (nI i < 0 ∨ 12 ≤ i) := inR' (by omega) (by decide)
    have c3 : i < qN G := by omega
    obtain ⟨e5, e6, e7, e8⟩ := hp.2.2.2.2 i c3
    obtain ⟨ha, hb', hab, hk, hww⟩ := hw.2.2.2.2 i c3
    have hl : lq G i < 2 ^ 31 := by have := lq_le hw c3; omega
    obtain ⟨s1, w1, b1, r1⟩ := x_writeCrack (nc := qN G) hb64 (show qa G i < 6 by omega) (show qb G i < 6 by omega) hab hl h52 hM
    have p1 := hp.sb b1
    obtain ⟨s2, w2, b2, r2⟩ := x_writeCrack (nc := qN G) hb64 (show qb G i < 6 by omega) (show qa G i < 6 by omega) (Ne.symm hab) hl ((b1.1 52).trans h52) r1
    obtain ⟨s3, w3, b3, r3⟩ := ih (i + 1) f s2 (by omega) (by omega) (p1.sb b2) ((b2.1 52).trans ((b1.1 52).trans h52)) (fun r hr c hc => (r2 r hr c hc).trans (congrArg Int64.ofInt (Mk_step hw c3 hb hr)))
    obtain ⟨f5, f6, -, -⟩ := p1.2.2.2.2 i c3
    refine ⟨s3, ?_, (b1.trans b2).trans b3, r3⟩
    rw [fX8_writeRows_L81_s]
    simp only [hp.2.1, hci, if_neg (nI_ge c3 (by omega)), if_pos c2, if_pos c3, e5, e6, xl_lets hw hp c3, bnd, w1, xl_lets hw p1 c3, f5, f6, w2, nI_1]
    exact w3
theorem fill_r {x0 : Nat} (h0 : x0 < 6) : ∀ (d i fu : Nat) (s : MS), i + d = 7 → d < fu → ∃ s', fJ7_fill_d0a16_r_L6 nc x0 0 7 fu (nI i) s = some ((), s') ∧ SB (100 + x0) (101 + x0) s s' ∧ (∀ c, i ≤ c → c < 7 → gB s' (100 + x0) c = 0) ∧ ∀ c, c < i → gB s' (100 + x0) c = gB s (100 + x0) c := by
  intro d
  induction d with
  | zero =>
    intro i fu s hi hf
    obtain ⟨f, rfl⟩ : ∃ f, fu = f + 1 := ⟨fu - 1, by omega⟩
    obtain rfl : i = 7 := by omega
    exact ⟨s, by rw [fJ7_fill_d0a16_r_L6_s, if_pos (by decide)], SB.rfl', fun c h1 h2 => absurd h1 (by omega), fun _ _ => rfl⟩
  | succ d ih =>
    intro i fu s hi hf
    obtain ⟨f, rfl⟩ : ∃ f, fu = f + 1 := ⟨fu - 1, by omega⟩
    have hci : (nI i).toNatClampNeg = i := nI_clamp (by omega)
    have c2 : ¬ (nI i < 0 ∨ 7 ≤ i) := inR' (by omega) (by decide)
    obtain ⟨s', e, q1, q2, q3⟩ := ih (i + 1) f (sB s (100 + x0) i 0) (by omega) (by omega)
    refine ⟨s', ?_, (SB.put (by omega) (by omega)).trans q1, ?_, ?_⟩
    · rw [fJ7_fill_d0a16_r_L6_s, if_neg (show ¬ (7 : Int32) ≤ nI i from nI_ge (b := 7) (by omega) (by decide))]
      simp only [hci, if_pos h0, if_pos c2, lets, nI_1]
      exact e
    · intro c h1 h2
      by_cases h : c = i
      · subst h; rw [q3 c (by omega), gB_eq, pk_uLs]
      · exact q2 c (by omega) h2
    · intro c h1
      rw [q3 c (by omega), gB_eq, pk_uLn (by omega)]
theorem SB.wide {lo hi lo' hi' : Nat} (h : SB lo hi s s') (h1 : lo' ≤ lo) (h2 : hi ≤ hi') : SB lo' hi' s s' := ⟨h.1, h.2.1, h.2.2.1, fun a ha => h.2.2.2 a (by omega)⟩
theorem rows_L2 (hw : Wf G) {bal : Nat} (hb64 : bal < 64) (hb : ∀ j, j < 6 → bal.testBit j = Bq G j) : ∀ (d i fu : Nat) (s : MS), i + d = 6 → d < fu → PX G s → gI s 52 = nI bal → (∀ r, r < i → ∀ c, c < 7 → gB s (100 + r) c = Int64.ofInt (Mk G 0 r c)) → ∃ s', fX8_writeRows_L2 nc fu (nI i) s = some ((), s') ∧ SB 100 106 s s' ∧ RWS (Mk G 0) s' := by
  intro d
  have hJ := hw.1
  induction d with
  | zero =>
    intro i fu s hi hf hp h52 hM
    obtain ⟨f, rfl⟩ : ∃ f, fu = f + 1 := ⟨fu - 1, by omega⟩
    obtain rfl : i = 6 := by omega
    exact ⟨s, by rw [fX8_writeRows_L2_s, if_pos (by decide)], SB.rfl', hM⟩
  | succ d ih =>
    intro i fu s hi hf hp h52 hM
    obtain ⟨f, rfl⟩ : ∃ f, fu = f + 1 := ⟨fu - 1, by omega⟩
    have hi6 : i < 6 := by omega
    have hci : (nI i).toNatClampNeg = i := nI_clamp (by omega)
    have c1 : ¬ (nI i < 0 ∨ 6 ≤ i) := inR' (by omega) (by decide)
    have c2 : ¬ (nI i < 0 ∨ 7 ≤ i) := inR' (show i < 7 by omega) (by decide)
    have c6 : ¬ ((6 : Int32) < 0 ∨ 7 ≤ (6 : Int32).toNatClampNeg) := by decide
    obtain ⟨s1, e1, b1, z1, -⟩ := fill_r (nc := nc) hi6 7 0 FU s (by omega) (by show 7 < 1000000; omega)
    have b1' := b1.wide (lo' := 100) (hi' := 106) (by omega) (by omega)
    have p1 := hp.sb b1'
    have ef : fJ7_fill_d0a16_r nc i 0 s = some ((), s1) := by
      unfold fJ7_fill_d0a16_r
      rw [if_pos hi6, show (0 : Int32) = nI 0 from rfl, e1]; rfl
    have low : ∀ r, r < i → ∀ c, c < 7 → gB s1 (100 + r) c = Int64.ofInt (Mk G 0 r c) := fun r hr c hc => by rw [b1.2.2.2 (100 + r) (by omega)]; exact hM r hr c hc
    have h52' : gI s1 52 = nI bal := (b1.1 52).trans h52
    have bit := w_bit bal (by omega) i (by omega)
    rw [fX8_writeRows_L2_s, if_neg (show ¬ (6 : Int32) ≤ nI i from nI_ge (b := 6) (by omega) (by decide))]
    simp only [hci, if_pos c1, if_pos hi6, ef, bnd, h52', bit]
    cases hbit : bal.testBit i with
    | true =>
      obtain ⟨s2, e2, b2, r2⟩ := ih (i + 1) f s1 (by omega) (by omega) p1 h52' (by
        intro r hr c hc
        by_cases er : r = i
        · subst er
          rw [z1 c (by omega) hc]
          unfold Mk
          rw [if_pos (by rw [← hb r hi6]; exact hbit), full_0]; rfl
        · exact low r (by omega) c hc)
      refine ⟨s2, ?_, b1'.trans b2, r2⟩
      rw [if_pos (by decide)]
      unfold fX8_writeRows_J73
      rw [nI_1]; exact e2
    | false =>
      have hBi : Bq G i = false := by rw [← hb i hi6]; exact hbit
      obtain ⟨s2, e2, b2, r2⟩ := ih (i + 1) f (sB (sB s1 (100 + i) i 1) (100 + i) 6 (Int64.ofInt (bq G i))) (by omega) (by omega) (p1.sb ((SB.put (lo := 100) (hi := 106) (by omega) (by omega)).trans (SB.put (by omega) (by omega)))) h52' (by
        intro r hr c hc
        by_cases er : r = i
        · subst er
          rw [gB_eq, gB_eq]
          unfold Mk
          rw [if_neg (by rw [hBi]; exact Bool.noConfusion)]
          unfold FF ee
          by_cases h1 : c = 6
          · subst h1
            rw [pk_uLs, if_neg (by omega), if_pos rfl]; congr 1; omega
          · rw [pk_uLn h1, if_neg h1]
            by_cases h2 : c = r
            · subst h2; rw [pk_uLs, if_pos rfl]; show Int64.ofInt 1 = _; congr 1; omega
            · rw [pk_uLn h2, if_neg h2, z1 c (by omega) hc]; show Int64.ofInt 0 = _; congr 1; omega
        · rw [gB_ne (by omega), gB_ne (by omega)]; exact low r (by omega) c hc)
      refine ⟨s2, ?_, (b1'.trans ((SB.put (by omega) (by omega)).trans (SB.put (by omega) (by omega)))).trans b2, r2⟩
      rw [if_neg (by decide)]
      unfold fX8_writeRows_J72 fX8_writeRows_J73
      have g2 : gA (sB s1 (100 + i) i 1) 2 i = bv (qH G i) := by
        show gA s1 2 i = _
        rcases Nat.lt_or_ge i (qJ G) with hlt | hge
        · exact p1.1.2.2.1 i hlt
        · rw [p1.2 i hge, hw.2.2.1 i hge]; rfl
      simp only [if_pos c2, lets, if_pos hi6, if_pos c6, nI_1]
      rw [g2]
      cases hH : qH G i with
      | false =>
        rw [if_pos bv0]
        have : bq G i = 0 := by unfold bq; rw [hH]; rfl
        rw [this] at e2; exact e2
      | true =>
        have hiJ : i < qJ G := by
          rcases Nat.lt_or_ge i (qJ G) with h1 | h1
          · exact h1
          · rw [hw.2.2.1 i h1] at hH; exact Bool.noConfusion hH
        have g3 : gA (sB s1 (100 + i) i 1) 3 i = nI (qh G i) := p1.1.2.2.2.1 i hiJ hH
        have hh := hw.2.2.2.1 i
        rw [if_neg (by decide), g3, oI _ (by omega)]
        have : bq G i = (qh G i : Int) := by unfold bq; rw [hH]; rfl
        rw [this] at e2; exact e2
theorem x_writeRows (hw : Wf G) (hp : PX G s) {bal : Nat} (hb64 : bal < 64) (hb : ∀ j, j < 6 → bal.testBit j = Bq G j) (h52 : gI s 52 = nI bal) : ∃ s', fX8_writeRows (qN G) s = some ((), s') ∧ SB 100 106 s s' ∧ RWS (Mk G (qN G)) s' := by
  have h12 := hw.2.1
  obtain ⟨s1, e1, b1, r1⟩ := rows_L2 (nc := qN G) hw hb64 hb 6 0 FU s (by omega) (by show 6 < 1000000; omega) hp h52 (fun r hr => absurd hr (by omega))
  obtain ⟨s2, e2, b2, r2⟩ := rows_L81 hw hb64 hb (qN G) 0 FU s1 (by omega) (by show qN G < 1000000; omega) (hp.1.sb b1) ((b1.1 52).trans h52) r1
  refine ⟨s2, ?_, b1.trans b2, r2⟩
  unfold fX8_writeRows
  rw [show (0 : Int32) = nI 0 from rfl, e1]
  try rw [bnd_k]
  show bnd (fX8_writeRows_L81 (qN G) FU (nI 0) s1) _ = _
  rw [e2]; rfl
end ROWS
