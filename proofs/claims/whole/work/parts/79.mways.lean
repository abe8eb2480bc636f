/-! ways, as the reference counts them -/
def nxp (p : Nat → Bool) : Nat → Nat → Nat
  | 0, c => c
  | m + 1, c => if p c then c else nxp p m (c + 1)
theorem nxp_spec {p : Nat → Bool} : ∀ (m c : Nat), c ≤ nxp p m c ∧ nxp p m c ≤ c + m ∧ (∀ c', c ≤ c' → c' < nxp p m c → p c' = false) ∧ (nxp p m c < c + m → p (nxp p m c) = true) := by
  intro m
  induction m with
  | zero => intro c; exact ⟨Nat.le_refl _, Nat.le_refl _, fun c' h1 h2 => absurd h2 (by simp only [nxp]; omega), fun h => absurd h (by simp only [nxp]; omega)⟩
  | succ m ih =>
    intro c
    simp only [nxp]
    cases h : p c with
    | false =>
      rw [if_neg Bool.noConfusion]
      obtain ⟨h1, h2, h3, h4⟩ := ih (c + 1)
      refine ⟨by omega, by omega, fun c' a b => ?_, fun z => h4 (by omega)⟩
      by_cases e : c' = c
      · subst e; exact h
      · exact h3 c' (by omega) b
    | true =>
      rw [if_pos rfl]
      exact ⟨Nat.le_refl _, by omega, fun c' a b => absurd b (by omega), fun _ => h⟩
theorem ct_skip {f : Nat → Nat} {a : Nat} : ∀ d, (∀ c, a ≤ c → c < a + d → f c = 0) → ct f (a + d) = ct f a := by
  intro d
  induction d with
  | zero => intro _; rfl
  | succ d ih =>
    intro h
    rw [show a + (d + 1) = (a + d) + 1 by omega]
    simp only [ct]
    rw [ih (fun c h1 h2 => h c h1 (by omega)), h (a + d) (by omega) (by omega)]; rfl
theorem ct_mono {f : Nat → Nat} {a : Nat} : ∀ d, ct f a ≤ ct f (a + d) := by
  intro d
  induction d with
  | zero => exact Nat.le_refl _
  | succ d ih => rw [show a + (d + 1) = (a + d) + 1 by omega]; simp only [ct]; omega
theorem nxp_t {p : Nat → Bool} {m c : Nat} (h : p c = true) : nxp p (m + 1) c = c := if_pos h
theorem nxp_f {p : Nat → Bool} {m c : Nat} (h : p c = false) : nxp p (m + 1) c = nxp p m (c + 1) := if_neg (fun z => by rw [h] at z; exact Bool.noConfusion z)
def nxr (G : GD) (j c : Nat) : Int32 := if c < qN G then nI (oth G c j) else -1
def CB : Nat → Nat
  | 0 => 1
  | d + 1 => 1 + 12 * (1 + CB d)
/-- is c among the first k cracks of the way? -/
def onp (cp : Nat → Nat) (c : Nat) : Nat → Bool
  | 0 => false
  | k + 1 => onp cp c k || decide (cp k = c)
theorem onp_congr {cp cp' : Nat → Nat} {c : Nat} : ∀ k, (∀ r, r < k → cp r = cp' r) → onp cp c k = onp cp' c k := by
  intro k
  induction k with
  | zero => intro _; rfl
  | succ k ih => intro h; simp only [onp]; rw [ih (fun r hr => h r (by omega)), h k (by omega)]
section MWAYS
variable {G : GD} {s s' s'' m m' : MS} {t en : Nat}
def FrW (s s' : MS) : Prop := SI s s' ∧ ∀ a, a < 25 ∨ 28 < a → gA s' a = gA s a
theorem FrW.rfl' : FrW s s := ⟨SI.rfl', fun _ _ => rfl⟩
theorem FrW.trans (h : FrW s s') (h' : FrW s' s'') : FrW s s'' := ⟨⟨fun k => (h'.1.1 k).trans (h.1.1 k), h'.1.2.1.trans h.1.2.1, fun k => (h'.1.2.2 k).trans (h.1.2.2 k)⟩, fun a ha => (h'.2 a ha).trans (h.2 a ha)⟩
theorem FrW.put {a i : Nat} {v : Int32} (h1 : 25 ≤ a) (h2 : a ≤ 28) : FrW s (sA s a i v) := ⟨⟨fun _ => rfl, rfl, fun _ => rfl⟩, fun b hb => gA_ne (by omega)⟩
theorem Pc.fw (hp : Pc G s) (h : FrW s s') : Pc G s' := hp.frame (h.1.1 1) (h.1.1 4) (fun a ha => h.2 a (by omega))
/-- the ends, as the reference tests them -/
def EN (G : GD) (en : Nat) (s : MS) : Prop := ∀ i, i < qJ G → en.testBit i = (qH G i && decide (gA s 3 i = gI s 24))
theorem EN.fw (h : EN G en s) (f : FrW s s') : EN G en s' := fun i hi => by rw [f.2 3 (by omega), f.1.1 24]; exact h i hi
theorem ways_L81 (hw : Wf G) (hp : Pc G s) {x3 x4 : Int32} {j seen : Nat} (ht : t ≤ 12) (hj : j < 6) (h27 : ∀ i, i < 6 → gA s 27 i = bv (seen.testBit i)) : ∀ (m c fu : Nat), c + m = qN G → m + 1 < fu → fX12_waysFrom_L81 (nI t) x3 x4 (nI j) fu (nI c) (-1) s = some ((nI (nxp (vld G t seen j) m c), nxr G j (nxp (vld G t seen j) m c)), s) := by
  intro m
  have h12 := hw.2.1
  have hJ := hw.1
  induction m with
  | zero =>
    intro c fu hc hf
    obtain ⟨f, rfl⟩ : ∃ f, fu = f + 1 := ⟨fu - 1, by omega⟩
    obtain rfl : c = qN G := by omega
    rw [fX12_waysFrom_L81_s, hp.2.1, if_pos (nI_le (Nat.le_refl _) (by omega))]
    show some ((nI (qN G), (-1 : Int32)), s) = some ((nI (qN G), nxr G j (qN G)), s)
    rw [show nxr G j (qN G) = -1 from if_neg (Nat.lt_irrefl _)]
  | succ m ih =>
    intro c fu hc hf
    obtain ⟨f, rfl⟩ : ∃ f, fu = f + 1 := ⟨fu - 1, by omega⟩
    have c3 : c < qN G := by omega
    obtain ⟨e5, e6, e7, e8⟩ := hp.2.2.2.2 c c3
    obtain ⟨ha, hb, hab, hk, hww⟩ := hw.2.2.2.2 c c3
    have hci : (nI c).toNatClampNeg = c := nI_clamp (by omega)
    have c2 : ¬ (nI c < 0 ∨ 12 ≤ c) := inR' (by omega) (by decide)
    have ea : ∀ k, k < 6 → (nI k = nI j ↔ k = j) := fun k hk => nI_eq (by omega) (by omega)
    have ihh := ih (c + 1) f (by omega) (by omega)
    have ho := oth_lt hw (j := j) c3
    have neg : ¬ (0 : Int32) ≤ -1 := by decide
    have skip : vld G t seen j c = false → fX12_waysFrom_J173 (fX12_waysFrom_L81 (nI t) x3 x4 (nI j) f) (nI t) x3 x4 (nI j) (nI c) s = some ((nI (nxp (vld G t seen j) (m + 1) c), nxr G j (nxp (vld G t seen j) (m + 1) c)), s) := by
      intro hv
      unfold fX12_waysFrom_J173 fX12_waysFrom_J174 fX12_waysFrom_J188
      rw [if_neg neg, nI_1, nxp_f hv]; exact ihh
    have key : ∀ z : Nat, z < 6 → z = oth G c j → (decide (qa G c = j) || decide (qb G c = j)) = true → fX12_waysFrom_J140 (fX12_waysFrom_L81 (nI t) x3 x4 (nI j) f) (nI t) x3 x4 (nI j) (nI c) (nI z) s = some ((nI (nxp (vld G t seen j) (m + 1) c), nxr G j (nxp (vld G t seen j) (m + 1) c)), s) := by
      intro z hz6 hz hat
      have hcz : (nI z).toNatClampNeg = z := nI_clamp (by omega)
      have cz : ¬ (nI z < 0 ∨ 6 ≤ z) := inR' hz6 (by decide)
      unfold fX12_waysFrom_J140
      simp only [hci, if_pos c2, e8, hcz, if_neg (nI_pos (show z < 2 ^ 31 by omega)), if_pos cz, h27 z hz6]
      by_cases hlt : qw G c < t
      · rw [if_pos (nI_lt hlt (by omega))]
        exact skip (by unfold vld; rw [decide_eq_false (show ¬ t ≤ qw G c by omega)]; simp)
      · rw [if_neg (nI_nlt (by omega) (by omega))]
        cases hs : seen.testBit z with
        | true =>
          rw [if_pos (by decide)]
          exact skip (by unfold vld; rw [← hz, hs]; simp)
        | false =>
          rw [if_neg (by decide)]
          have hv : vld G t seen j c = true := by unfold vld; rw [hat, decide_eq_true (show t ≤ qw G c by omega), ← hz, hs]; rfl
          unfold fX12_waysFrom_J174 fX12_waysFrom_J188
          rw [if_pos (nI_pos' (by omega)), Int32.add_zero]
          obtain ⟨f', rfl⟩ : ∃ f', f = f' + 1 := ⟨f - 1, by omega⟩
          rw [fX12_waysFrom_L81_s, hp.2.1, if_neg (nI_ge c3 (by omega)), if_pos (nI_pos' (by omega))]
          rw [nxp_t hv, show nxr G j c = nI (oth G c j) from if_pos c3, hz]
    rw [fX12_waysFrom_L81_s]
    simp only [hp.2.1, if_neg (nI_ge c3 (by omega)), if_neg neg, hci, if_pos c2, e5, e6]
    by_cases h1 : qa G c = j
    · rw [if_neg (fun z => z ((ea _ (by omega)).mpr h1))]
      exact key (qb G c) (by omega) (by unfold oth; rw [if_pos h1]) (by rw [decide_eq_true h1]; rfl)
    · rw [if_pos (fun z => h1 ((ea _ (by omega)).mp z))]
      by_cases h2 : qb G c = j
      · rw [if_neg (fun z => z ((ea _ (by omega)).mpr h2))]
        exact key (qa G c) (by omega) (by unfold oth; rw [if_neg h1]) (by rw [decide_eq_true h2]; simp)
      · rw [if_pos (fun z => h2 ((ea _ (by omega)).mp z))]
        have hv : vld G t seen j c = false := by unfold vld; rw [decide_eq_false h1, decide_eq_false h2]; rfl
        unfold fX12_waysFrom_J140
        simp only [hci, if_pos c2, e8]
        by_cases hlt : nI (qw G c) < nI t
        · rw [if_pos hlt]; exact skip hv
        · rw [if_neg hlt, if_pos (by decide)]; exact skip hv
/-- marks on all cracks of the way -/
theorem mark_L (hw : Wf G) {x3 x7 : Int32} {cp : Nat → Nat} {k : Nat} (hk : k < 7) : ∀ (d r fu : Nat) (s : MS) (th : Nat → Bool), r + d = k + 1 → d < fu → (∀ r, r ≤ k → gA s 26 r = nI (cp r) ∧ cp r < 12) → (∀ c, c < 12 → gA s 28 c = bv (th c || onp cp c r)) → ∃ s', fX12_waysFrom_L252 (nI t) x3 (nI k) x7 fu (nI r) s = some ((), s') ∧ FrW s s' ∧ (∀ a, a ≠ 28 → gA s' a = gA s a) ∧ ∀ c, c < 12 → gA s' 28 c = bv (th c || onp cp c (k + 1)) := by
  intro d
  induction d with
  | zero =>
    intro r fu s th hr hf h26 h28
    obtain ⟨f, rfl⟩ : ∃ f, fu = f + 1 := ⟨fu - 1, by omega⟩
    obtain rfl : r = k + 1 := by omega
    exact ⟨s, by rw [fX12_waysFrom_L252_s, if_pos (nI_lt (by omega) (by omega))], FrW.rfl', fun _ _ => rfl, h28⟩
  | succ d ih =>
    intro r fu s th hr hf h26 h28
    obtain ⟨f, rfl⟩ : ∃ f, fu = f + 1 := ⟨fu - 1, by omega⟩
    have hci : (nI r).toNatClampNeg = r := nI_clamp (by omega)
    have c2 : ¬ (nI r < 0 ∨ 7 ≤ r) := inR' (by omega) (by decide)
    obtain ⟨e26, lt⟩ := h26 r (by omega)
    have hcc : (nI (cp r)).toNatClampNeg = cp r := nI_clamp (by omega)
    have c3 : ¬ (nI (cp r) < 0 ∨ 12 ≤ cp r) := inR' lt (by decide)
    obtain ⟨s', e, q1, q2, q3⟩ := ih (r + 1) f (sA s 28 (cp r) 1) th (by omega) (by omega) (fun r hr => by rw [gA_ne (by decide)]; exact h26 r hr) (by
      intro c hc
      rw [gA_eq]
      simp only [onp]
      by_cases e : c = cp r
      · subst e; rw [upd_s, decide_eq_true rfl]; simp [bv]
      · rw [upd_n e, h28 c hc, decide_eq_false (fun z => e z.symm), Bool.or_false])
    refine ⟨s', ?_, (FrW.put (by omega) (by omega)).trans q1, fun a ha => (q2 a ha).trans (gA_ne ha), q3⟩
    rw [fX12_waysFrom_L252_s, if_neg (nI_nlt (show r ≤ k by omega) (by omega))]
    simp only [hci, if_pos c2, e26, hcc, if_pos c3, lets, nI_1, show vp_nar .boolean 1 = (1 : Int32) from rfl]
    exact e
/-- the search, k cracks behind it -/
def SW (G : GD) (k : Nat) (jp cp : Nat → Nat) (seen : Nat) (th : Nat → Bool) (s : MS) : Prop := (∀ r, r ≤ k → gA s 25 r = nI (jp r)) ∧ (∀ r, r < k → gA s 26 r = nI (cp r) ∧ cp r < 12) ∧ (∀ i, i < 6 → gA s 27 i = bv (seen.testBit i)) ∧ ∀ c, c < 12 → gA s 28 c = bv (th c)
theorem cn_6' : ∀ n, n < 64 → cn n = 6 → ∀ j, j < 6 → n.testBit j = true := by decide +kernel
theorem x_or_clear : ∀ n, n < 64 → ∀ j, j < 6 → n.testBit j = false → ∀ i, i < 6 → i ≠ j → (n ||| 2 ^ j).testBit i = n.testBit i := by
  intro n _ j _ _ i _ h
  rw [Nat.testBit_or, Nat.testBit_two_pow, decide_eq_false (fun z => h z.symm), Bool.or_false]
def thN (G : GD) (t en d j seen : Nat) (cp : Nat → Nat) (k c0 : Nat) (th : Nat → Bool) (c : Nat) : Bool := th c || decide (ct (cfs G t en c d j seen (onp cp c k)) c0 < ct (cfs G t en c d j seen (onp cp c k)) (qN G))
theorem ways_lv (hw : Wf G) (ht : t ≤ 12) : ∀ d k, k + d = 5 → ∀ m c0, c0 + m = qN G → ∀ (jp cp : Nat → Nat) (seen0 : Nat) (th : Nat → Bool) (s : MS) (n : Int32), Pc G s → EN G en s → seen0 < 64 → jp k < qJ G → seen0.testBit (jp k) = false → cn (seen0 ||| 2 ^ jp k) = k + 1 → SW G k jp cp (seen0 ||| 2 ^ jp k) th s → gA s 26 k + 1 = nI c0 → ∃ K, K ≤ (if d = 0 then 1 else 1 + m * (1 + CB (d - 1))) ∧ ∃ s', FrW s s' ∧ (∀ r, r < k → gA s' 25 r = gA s 25 r) ∧ (∀ r, r < k → gA s' 26 r = gA s 26 r) ∧ (∀ i, i < 6 → gA s' 27 i = bv (seen0.testBit i)) ∧ (∀ c, c < 12 → gA s' 28 c = bv (thN G t en d (jp k) (seen0 ||| 2 ^ jp k) cp k c0 th c)) ∧ ∀ fu, fX12_waysFrom_L53 (nI t) (fu + K) n (nI k) s = fX12_waysFrom_L53 (nI t) fu (n + nI (ct (cfs G t en 99 d (jp k) (seen0 ||| 2 ^ jp k) true) (qN G) - ct (cfs G t en 99 d (jp k) (seen0 ||| 2 ^ jp k) true) c0)) (nI k + (-1)) s' := by
  intro d
  have h12 := hw.2.1
  have hJ := hw.1
  induction d with
  | zero => 
    intro k hk m c0 hm jp cp seen0 th s n hp hE hs0 hj hsj hcn hSW hc0
    obtain rfl : k = 5 := by omega
    have hs64 : seen0 ||| 2 ^ jp 5 < 64 := Nat.or_lt_two_pow (n := 6) hs0 (Nat.pow_lt_pow_right (n := 6) (by decide) (by omega))
    have nov : ∀ c, c < qN G → vld G t (seen0 ||| 2 ^ jp 5) (jp 5) c = false := by
      intro c hc
      have := oth_lt hw (j := jp 5) hc
      unfold vld
      rw [cn_6' _ hs64 hcn _ (by omega)]; simp
    obtain ⟨n1, n2, n3, n4⟩ := nxp_spec (p := vld G t (seen0 ||| 2 ^ jp 5) (jp 5)) m c0
    have hnx : nxp (vld G t (seen0 ||| 2 ^ jp 5) (jp 5)) m c0 = qN G := by
      rcases Nat.lt_or_ge (nxp (vld G t (seen0 ||| 2 ^ jp 5) (jp 5)) m c0) (qN G) with z | z
      · have := n4 (by omega); rw [nov _ z] at this; exact Bool.noConfusion this
      · omega
    have f0 : ∀ wt has c, c < qN G → cfs G t en wt 0 (jp 5) (seen0 ||| 2 ^ jp 5) has c = 0 := fun wt has c hc => by unfold cfs; rw [nov c hc]; rfl
    have sk : ∀ wt has, ct (cfs G t en wt 0 (jp 5) (seen0 ||| 2 ^ jp 5) has) (qN G) = ct (cfs G t en wt 0 (jp 5) (seen0 ||| 2 ^ jp 5) has) c0 := by
      intro wt has
      have := ct_skip (f := cfs G t en wt 0 (jp 5) (seen0 ||| 2 ^ jp 5) has) (a := c0) m (fun c _ h2 => f0 wt has c (by omega))
      rw [hm] at this; exact this
    obtain ⟨g25, g26, g27, g28⟩ := hSW
    have hscan := ways_L81 hw hp (x3 := n) (x4 := nI 5) ht (show jp 5 < 6 by omega) g27 m c0 FU hm (by show m + 1 < 1000000; omega)
    rw [hnx, show nxr G (jp 5) (qN G) = -1 from if_neg (Nat.lt_irrefl _)] at hscan
    have hcj : (nI (jp 5)).toNatClampNeg = jp 5 := nI_clamp (by omega)
    have cj : ¬ (nI (jp 5) < 0 ∨ 6 ≤ jp 5) := inR' (by omega) (by decide)
    refine ⟨1, Nat.le_refl _, sA (sA s 26 5 (nI (qN G))) 27 (jp 5) 0, (FrW.put (by omega) (by omega)).trans (FrW.put (by omega) (by omega)), fun r hr => by rw [gA_ne (by decide), gA_ne (by decide)], fun r hr => by rw [gA_ne (by decide), gA_eq, upd_n (by omega)], fun i hi => ?_, fun c hc => ?_, fun fu => ?_⟩
    · rw [gA_eq]
      by_cases e : i = jp 5
      · subst e; rw [upd_s, hsj]; rfl
      · rw [upd_n e, gA_ne (by decide), g27 i hi, x_or_clear _ hs0 _ (by omega) hsj i hi e]
    · rw [gA_ne (by decide), gA_ne (by decide), g28 c hc]
      unfold thN
      rw [sk, decide_eq_false (Nat.lt_irrefl _), Bool.or_false]
    · rw [fX12_waysFrom_L53_s, if_neg (by decide), show (nI 5).toNatClampNeg = 5 from by decide, if_pos (by decide), if_pos (by decide), g25 5 (Nat.le_refl _), hc0, hscan]
      rw [bnd_k]
      dsimp only [lets]
      rw [if_pos (by decide), if_neg (by decide), hcj, if_pos cj]
      unfold fX12_waysFrom_J306
      rw [sk, Nat.sub_self]
      show fX12_waysFrom_L53 (nI t) fu n (nI 5 + (-1)) (sA (sA s 26 5 (nI (qN G))) 27 (jp 5) (vp_nar .boolean 0)) = fX12_waysFrom_L53 (nI t) fu (n + 0) (nI 5 + (-1)) _
      rw [Int32.add_zero]; rfl
  | succ d ihd =>
    intro k hk m
    induction m using Nat.strongRecOn with
    | _ m ihm =>
    intro c0 hm jp cp seen0 th s n hp hE hs0 hj hsj hcn hSW hc0
    have hs64 : seen0 ||| 2 ^ jp k < 64 := Nat.or_lt_two_pow (n := 6) hs0 (Nat.pow_lt_pow_right (n := 6) (by decide) (by omega))
    obtain ⟨g25, g26, g27, g28⟩ := id hSW
    obtain ⟨n1, n2, n3, n4⟩ := nxp_spec (p := vld G t (seen0 ||| 2 ^ jp k) (jp k)) m c0
    have hscan := ways_L81 hw hp (x3 := n) (x4 := nI k) ht (show jp k < 6 by omega) g27 m c0 FU hm (by show m + 1 < 1000000; omega)
    have skip : ∀ wt has, ct (cfs G t en wt (d + 1) (jp k) (seen0 ||| 2 ^ jp k) has) (nxp (vld G t (seen0 ||| 2 ^ jp k) (jp k)) m c0) = ct (cfs G t en wt (d + 1) (jp k) (seen0 ||| 2 ^ jp k) has) c0 := by
      intro wt has
      have := ct_skip (f := cfs G t en wt (d + 1) (jp k) (seen0 ||| 2 ^ jp k) has) (a := c0) (nxp (vld G t (seen0 ||| 2 ^ jp k) (jp k)) m c0 - c0) (fun c h1 h2 => by unfold cfs; rw [n3 c h1 (by omega)]; rfl)
      rw [show c0 + (nxp (vld G t (seen0 ||| 2 ^ jp k) (jp k)) m c0 - c0) = nxp (vld G t (seen0 ||| 2 ^ jp k) (jp k)) m c0 by omega] at this; exact this
    generalize hcq : nxp (vld G t (seen0 ||| 2 ^ jp k) (jp k)) m c0 = c at *
    generalize hseen : seen0 ||| 2 ^ jp k = seen at *
    have hck : (nI k).toNatClampNeg = k := nI_clamp (by omega)
    have ck : ¬ (nI k < 0 ∨ 7 ≤ k) := inR' (by omega) (by decide)
    have hcj : (nI (jp k)).toNatClampNeg = jp k := nI_clamp (by omega)
    have cj : ¬ (nI (jp k) < 0 ∨ 6 ≤ jp k) := inR' (by omega) (by decide)
    have go : ∀ fu, fX12_waysFrom_L53 (nI t) (fu + 1) n (nI k) s = (if 0 ≤ (nxr G (jp k) c) then (if ¬ ((nxr G (jp k) c) < 0 ∨ 6 ≤ (nxr G (jp k) c).toNatClampNeg) then (if gA (sA s 26 k (nI c)) 2 (nxr G (jp k) c).toNatClampNeg = 0 then fX12_waysFrom_J278 (fX12_waysFrom_L53 (nI t) fu) (nI t) n (nI k) (nxr G (jp k) c) (sA s 26 k (nI c)) else (if ¬ ((nxr G (jp k) c) < 0 ∨ 6 ≤ (nxr G (jp k) c).toNatClampNeg) then (if ¬ gA (sA s 26 k (nI c)) 3 (nxr G (jp k) c).toNatClampNeg = gI (sA s 26 k (nI c)) 24 then fX12_waysFrom_J278 (fX12_waysFrom_L53 (nI t) fu) (nI t) n (nI k) (nxr G (jp k) c) (sA s 26 k (nI c)) else bnd (fX12_waysFrom_L252 (nI t) (n + 1) (nI k) (nxr G (jp k) c) FU 0 (sA s 26 k (nI c))) (fun v57 s58 => fX12_waysFrom_J278 (fX12_waysFrom_L53 (nI t) fu) (nI t) (n + 1) (nI k) (nxr G (jp k) c) s58)) else none)) else none) else fX12_waysFrom_L53 (nI t) fu n (nI k + (-1)) (sA (sA s 26 k (nI c)) 27 (jp k) 0)) := by
      intro fu
      rw [fX12_waysFrom_L53_s, if_neg (nI_pos (show k < 2 ^ 31 by omega)), hck, if_pos ck, if_pos ck, g25 k (Nat.le_refl _), hc0, hscan]
      simp only [bnd, if_pos ck, lets, hcj, if_pos cj]
      rfl
    by_cases hcn' : c = qN G
    · -- no crack is left here
      refine ⟨1, by rw [if_neg (by omega)]; omega, sA (sA s 26 k (nI c)) 27 (jp k) 0, (FrW.put (by omega) (by omega)).trans (FrW.put (by omega) (by omega)), fun r hr => by rw [gA_ne (by decide), gA_ne (by decide)], fun r hr => by rw [gA_ne (by decide), gA_eq, upd_n (by omega)], fun i hi => ?_, fun c' hc' => ?_, fun fu => ?_⟩
      · rw [gA_eq]
        by_cases e : i = jp k
        · subst e; rw [upd_s, hsj]; rfl
        · rw [upd_n e, gA_ne (by decide), g27 i hi, ← hseen, x_or_clear _ hs0 _ (by omega) hsj i hi e]
      · rw [gA_ne (by decide), gA_ne (by decide), g28 c' hc']
        unfold thN
        rw [← skip c' (onp cp c' k), hcn', decide_eq_false (Nat.lt_irrefl _), Bool.or_false]
      · rw [go fu]
        have hcN : nxr G (jp k) c = -1 := if_neg (by omega)
        rw [hcN, if_neg (by decide), ← skip 99 true, hcn', Nat.sub_self]
        show _ = fX12_waysFrom_L53 (nI t) fu (n + 0) _ _
        rw [Int32.add_zero]
    · have hcl : c < qN G := by omega
      have hv := n4 (by omega)
      have hz : oth G c (jp k) < qJ G := oth_lt hw hcl
      generalize hzz : oth G c (jp k) = z at *
      have hnz : seen.testBit z = false := by
        unfold vld at hv
        rw [hzz] at hv
        have := ((Bool.and_eq_true _ _).mp hv).2
        cases y : seen.testBit z with
        | false => rfl
        | true => rw [y] at this; exact Bool.noConfusion this
      obtain ⟨p1, p2, p3⟩ := cn_add seen hs64 z (by omega) hnz
      have hcz : (nI z).toNatClampNeg = z := nI_clamp (by omega)
      have cz : ¬ (nI z < 0 ∨ 6 ≤ z) := inR' (by omega) (by decide)
      have hk1 : (nI (k + 1)).toNatClampNeg = k + 1 := nI_clamp (by omega)
      have ck1 : ¬ (nI (k + 1) < 0 ∨ 7 ≤ k + 1) := inR' (show k + 1 < 7 by omega) (by decide)
      have hif : nxr G (jp k) c = nI z := by unfold nxr; rw [if_pos hcl, hzz]
      have F1 : FrW s (sA s 26 k (nI c)) := FrW.put (by omega) (by omega)
      have cps : ∀ c', onp (ups cp k c) c' (k + 1) = (onp cp c' k || decide (c = c')) := fun c' => by
        simp only [onp]; rw [ups_eq, onp_congr k (fun r hr => ups_lt hr)]
      -- on arriving at z
      have arrive : ∃ (n' : Int32) (s2 : MS), (∀ fu, fX12_waysFrom_L53 (nI t) (fu + 1) n (nI k) s = fX12_waysFrom_J278 (fX12_waysFrom_L53 (nI t) fu) (nI t) n' (nI k) (nI z) s2) ∧ n' = n + nI (en.testBit z).toNat ∧ FrW s s2 ∧ (∀ a, a ≠ 28 → a ≠ 26 → gA s2 a = gA s a) ∧ (∀ r, gA s2 26 r = if r = k then nI c else gA s 26 r) ∧ ∀ c', c' < 12 → gA s2 28 c' = bv (th c' || ((onp cp c' k || decide (c = c')) && en.testBit z)) := by
        have hen := hE z hz
        have g2 : gA (sA s 26 k (nI c)) 2 z = bv (qH G z) := by rw [gA_ne (by decide)]; exact hp.2.2.1 z hz
        have g3 : gA (sA s 26 k (nI c)) 3 z = gA s 3 z := by rw [gA_ne (by decide)]
        have i24 : gI (sA s 26 k (nI c)) 24 = gI s 24 := rfl
        have plain : en.testBit z = false → (∀ fu, fX12_waysFrom_L53 (nI t) (fu + 1) n (nI k) s = fX12_waysFrom_J278 (fX12_waysFrom_L53 (nI t) fu) (nI t) n (nI k) (nI z) (sA s 26 k (nI c))) → ∃ (n' : Int32) (s2 : MS), (∀ fu, fX12_waysFrom_L53 (nI t) (fu + 1) n (nI k) s = fX12_waysFrom_J278 (fX12_waysFrom_L53 (nI t) fu) (nI t) n' (nI k) (nI z) s2) ∧ n' = n + nI (en.testBit z).toNat ∧ FrW s s2 ∧ (∀ a, a ≠ 28 → a ≠ 26 → gA s2 a = gA s a) ∧ (∀ r, gA s2 26 r = if r = k then nI c else gA s 26 r) ∧ ∀ c', c' < 12 → gA s2 28 c' = bv (th c' || ((onp cp c' k || decide (c = c')) && en.testBit z)) := by
          intro hf hgo
          refine ⟨n, sA s 26 k (nI c), hgo, ?_, F1, fun a _ h2 => gA_ne h2, fun r => ?_, fun c' hc' => ?_⟩
          · rw [hf]; show n = n + 0; rw [Int32.add_zero]
          · rw [gA_eq]; rfl
          · rw [gA_ne (by decide), g28 c' hc', hf]; simp
        cases hH : qH G z with
        | false =>
          have hf : en.testBit z = false := by rw [hen, hH]; rfl
          refine plain hf (fun fu => ?_)
          rw [go fu, hif, if_pos (nI_pos' (by omega)), hcz, if_pos cz, g2, hH, if_pos bv0]
        | true =>
          by_cases h3 : gA s 3 z = gI s 24
          · have htr : en.testBit z = true := by rw [hen, hH, decide_eq_true h3]; rfl
            obtain ⟨s2, e2, q1, q2, q3⟩ := mark_L hw (t := t) (x3 := n + 1) (x7 := nI z) (cp := ups cp k c) (k := k) (by omega) (k + 1) 0 FU (sA s 26 k (nI c)) th (by omega) (by show k + 1 < 1000000; omega) (fun r hr => by
              rw [gA_eq]
              by_cases e : r = k
              · subst e; rw [upd_s, ups_eq]; exact ⟨rfl, by omega⟩
              · rw [upd_n e, ups_lt (by omega)]; exact g26 r (by omega)) (fun c' hc' => by rw [gA_ne (by decide), g28 c' hc']; simp [onp])
            refine ⟨n + 1, s2, fun fu => ?_, by rw [htr]; rfl, F1.trans q1, fun a h1 h2 => (q2 a h1).trans (gA_ne h2), fun r => ?_, fun c' hc' => ?_⟩
            · rw [go fu, hif, if_pos (nI_pos' (by omega)), hcz, if_pos cz, g2, hH, if_neg (by decide), if_pos cz, g3, i24, if_neg (fun z => z h3), show (0 : Int32) = nI 0 from rfl, e2]; rfl
            · rw [q2 26 (by decide), gA_eq]; rfl
            · rw [q3 c' hc', cps, htr, Bool.and_true]
          · have hf : en.testBit z = false := by rw [hen, hH, decide_eq_false h3]; rfl
            refine plain hf (fun fu => ?_)
            rw [go fu, hif, if_pos (nI_pos' (by omega)), hcz, if_pos cz, g2, hH, if_neg (by decide), if_pos cz, g3, i24, if_pos h3]
      obtain ⟨n', s2, ego, en', F2, a2, a26, a28⟩ := arrive
      have F3 : FrW s2 (sA (sA (sA s2 25 (k + 1) (nI z)) 26 (k + 1) (-1)) 27 z 1) := ((FrW.put (by omega) (by omega)).trans (FrW.put (by omega) (by omega))).trans (FrW.put (by omega) (by omega))
      have hJ278 : ∀ fu, fX12_waysFrom_J278 (fX12_waysFrom_L53 (nI t) fu) (nI t) n' (nI k) (nI z) s2 = fX12_waysFrom_L53 (nI t) fu n' (nI (k + 1)) (sA (sA (sA s2 25 (k + 1) (nI z)) 26 (k + 1) (-1)) 27 z 1) := by
        intro fu
        unfold fX12_waysFrom_J278 fX12_waysFrom_J306
        simp only [nI_1, hk1, if_pos ck1, lets, hcz, if_pos cz]
        rfl
      have hS3 : SW G (k + 1) (ups jp (k + 1) z) (ups cp k c) (seen ||| 2 ^ (ups jp (k + 1) z (k + 1))) (fun c' => th c' || ((onp cp c' k || decide (c = c')) && en.testBit z)) (sA (sA (sA s2 25 (k + 1) (nI z)) 26 (k + 1) (-1)) 27 z 1) := by
        refine ⟨fun r hr => ?_, fun r hr => ?_, fun i hi => ?_, fun c' hc' => ?_⟩
        · rw [gA_ne (by decide), gA_ne (by decide), gA_eq]
          by_cases e : r = k + 1
          · subst e; rw [upd_s, ups_eq]
          · rw [upd_n e, ups_lt (by omega), a2 25 (by decide) (by decide)]; exact g25 r (by omega)
        · rw [gA_ne (by decide), gA_eq, upd_n (by omega), gA_ne (by decide), a26]
          by_cases e : r = k
          · subst e; rw [if_pos rfl, ups_eq]; exact ⟨rfl, by omega⟩
          · rw [if_neg e, ups_lt (by omega)]; exact g26 r (by omega)
        · rw [ups_eq, gA_eq, Nat.testBit_or, Nat.testBit_two_pow]
          by_cases e : i = z
          · subst e; rw [upd_s, decide_eq_true rfl, Bool.or_true]; rfl
          · rw [upd_n e, gA_ne (by decide), gA_ne (by decide), a2 27 (by decide) (by decide), g27 i hi, decide_eq_false (fun y => e y.symm), Bool.or_false]
        · rw [gA_ne (by decide), gA_ne (by decide), gA_ne (by decide)]; exact a28 c' hc'
      obtain ⟨K1, hK1, s4, F4, b25, b26, b27, b28, e4⟩ := ihd (k + 1) (by omega) (qN G) 0 (by omega) (ups jp (k + 1) z) (ups cp k c) seen _ _ n' (hp.fw (F2.trans F3)) (hE.fw (F2.trans F3)) hs64 (by rw [ups_eq]; exact hz) (by rw [ups_eq]; exact hnz) (by rw [ups_eq]; omega) hS3 (by rw [gA_ne (by decide), gA_eq, upd_s]; rfl)
      rw [ups_eq] at b28 e4
      -- back at this joint, the next crack
      have c25 : ∀ r, r ≤ k → gA s4 25 r = nI (jp r) := fun r hr => by
        rw [b25 r (by omega), gA_ne (by decide), gA_ne (by decide), gA_eq, upd_n (by omega), a2 25 (by decide) (by decide)]; exact g25 r hr
      have c26 : ∀ r, r < k → gA s4 26 r = nI (cp r) ∧ cp r < 12 := fun r hr => by
        rw [b26 r (by omega), gA_ne (by decide), gA_eq, upd_n (by omega), gA_ne (by decide), a26, if_neg (by omega)]; exact g26 r hr
      have c26k : gA s4 26 k = nI c := by
        rw [b26 k (by omega), gA_ne (by decide), gA_eq, upd_n (by omega), gA_ne (by decide), a26, if_pos rfl]
      have cf1 : ∀ wt has, cfs G t en wt (d + 1) (jp k) seen has c = ((has || decide (c = wt)) && en.testBit z).toNat + ct (cfs G t en wt d z (seen ||| 2 ^ z) (has || decide (c = wt))) (qN G) := by
        intro wt has
        show (if vld G t seen (jp k) c then cf G t en wt (d + 1) (oth G c (jp k)) (seen ||| 2 ^ oth G c (jp k)) (has || decide (c = wt)) else 0) = _
        rw [hv, if_pos rfl, hzz]; rfl
      have hS5 : SW G k jp cp (seen0 ||| 2 ^ jp k) (fun c' => th c' || decide (0 < cfs G t en c' (d + 1) (jp k) seen (onp cp c' k) c)) s4 := by
        refine ⟨c25, c26, fun i hi => by rw [hseen]; exact b27 i hi, fun c' hc' => ?_⟩
        rw [b28 c' hc']
        unfold thN
        show bv ((th c' || ((onp cp c' k || decide (c = c')) && en.testBit z)) || decide (ct (cfs G t en c' d z (seen ||| 2 ^ z) (onp (ups cp k c) c' (k + 1))) 0 < ct (cfs G t en c' d z (seen ||| 2 ^ z) (onp (ups cp k c) c' (k + 1))) (qN G))) = bv (th c' || decide (0 < cfs G t en c' (d + 1) (jp k) seen (onp cp c' k) c))
        rw [cps c', cf1 c' (onp cp c' k)]
        congr 1
        rw [Bool.or_assoc]
        congr 1
        cases hq : ((onp cp c' k || decide (c = c')) && en.testBit z) with
        | true =>
          rw [Bool.true_or, decide_eq_true]; show 0 < 1 + _; omega
        | false =>
          rw [Bool.false_or]
          show decide (ct _ 0 < ct _ (qN G)) = decide (0 < 0 + ct _ (qN G))
          rw [Nat.zero_add]; rfl
      have hFs : FrW s s4 := (F2.trans F3).trans F4
      obtain ⟨K2, hK2, s6, F6, d25, d26, d27, d28, e6⟩ := ihm (qN G - (c + 1)) (by omega) (c + 1) (by omega) jp cp seen0 _ s4 (n' + nI (ct (cfs G t en 99 d z (seen ||| 2 ^ z) true) (qN G) - ct (cfs G t en 99 d z (seen ||| 2 ^ z) true) 0)) (hp.fw hFs) (hE.fw hFs) hs0 hj hsj (by rw [hseen]; exact hcn) hS5 (by rw [c26k]; exact nI_1 c)
      refine ⟨K2 + K1 + 1, ?_, s6, hFs.trans F6, fun r hr => ?_, fun r hr => ?_, d27, fun c' hc' => ?_, fun fu => ?_⟩
      · have h1 : (qN G - (c + 1) + 1) * (1 + CB d) ≤ m * (1 + CB d) := Nat.mul_le_mul_right _ (by omega)
        have h2 : K1 ≤ CB d := by
          cases d with
          | zero => rw [if_pos rfl] at hK1; exact hK1
          | succ d =>
            rw [if_neg (by omega)] at hK1
            have h3 : qN G * (1 + CB d) ≤ 12 * (1 + CB d) := Nat.mul_le_mul_right _ h12
            have h4 : CB (d + 1) = 1 + 12 * (1 + CB d) := rfl
            simp only [Nat.add_sub_cancel] at hK1
            omega
        rw [Nat.add_mul] at h1
        rw [if_neg (by omega)] at hK2 ⊢
        simp only [Nat.add_sub_cancel] at hK2 ⊢
        omega
      · rw [d25 r hr, c25 r (by omega), g25 r (by omega)]
      · rw [d26 r hr, (c26 r hr).1, (g26 r hr).1]
      · rw [d28 c' hc']
        congr 1
        unfold thN
        rw [hseen]
        have h1 := skip c' (onp cp c' k)
        have h2 : ct (cfs G t en c' (d + 1) (jp k) seen (onp cp c' k)) (c + 1) = ct (cfs G t en c' (d + 1) (jp k) seen (onp cp c' k)) c + cfs G t en c' (d + 1) (jp k) seen (onp cp c' k) c := rfl
        have h3 : ct (cfs G t en c' (d + 1) (jp k) seen (onp cp c' k)) (c + 1) ≤ ct (cfs G t en c' (d + 1) (jp k) seen (onp cp c' k)) (qN G) := by
          have := ct_mono (f := cfs G t en c' (d + 1) (jp k) seen (onp cp c' k)) (a := c + 1) (qN G - (c + 1))
          rw [show c + 1 + (qN G - (c + 1)) = qN G by omega] at this; exact this
        rw [Bool.or_assoc]
        congr 1
        refine bool_eq ?_
        rw [Bool.or_eq_true, decide_eq_true_eq, decide_eq_true_eq, decide_eq_true_eq]
        omega
      · rw [show fu + (K2 + K1 + 1) = (fu + K2 + K1) + 1 by omega, ego, hJ278, e4, pk_m1, e6]
        congr 1
        rw [Int32.add_assoc, en', Int32.add_assoc, nI_add, nI_add]
        congr 2
        rw [hseen]
        have h1 := skip 99 true
        have h2 : ct (cfs G t en 99 (d + 1) (jp k) seen true) (c + 1) = ct (cfs G t en 99 (d + 1) (jp k) seen true) c + cfs G t en 99 (d + 1) (jp k) seen true c := rfl
        have h3 : ct (cfs G t en 99 (d + 1) (jp k) seen true) (c + 1) ≤ ct (cfs G t en 99 (d + 1) (jp k) seen true) (qN G) := by
          have := ct_mono (f := cfs G t en 99 (d + 1) (jp k) seen true) (a := c + 1) (qN G - (c + 1))
          rw [show c + 1 + (qN G - (c + 1)) = qN G by omega] at this; exact this
        have h4 := cf1 99 true
        rw [Bool.true_or, Bool.true_and] at h4
        show (en.testBit z).toNat + (ct (cfs G t en 99 d z (seen ||| 2 ^ z) true) (qN G) - 0 + _) = _
        omega
end MWAYS
