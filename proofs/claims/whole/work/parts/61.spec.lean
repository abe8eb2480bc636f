/-! what is known of a reckoning -/
section BND
variable {W : Nat → Nat → Int} {B : Nat → Bool}
def prodL (W : Nat → Nat → Int) : List Nat → Int
  | [] => 1
  | r :: ps => sumN (W r) 6 * prodL W ps
theorem prodL_nonneg (hW : ∀ r d, 0 ≤ W r d) : ∀ ps, 0 ≤ prodL W ps := by
  intro ps
  induction ps with
  | nil => exact (show (0 : Int) ≤ 1 by decide)
  | cons r ps ih => exact Int.mul_nonneg (sumN_nonneg fun d _ => hW r d) ih
/-- the lower number is not below 0 and not above the product of the rows' sums -/
theorem spec_bnd (hW : ∀ r d, 0 ≤ W r d) : ∀ (ps : List Nat) (p : Nat → Nat), 0 ≤ spec W (fun _ => 1) ps p ∧ spec W (fun _ => 1) ps p ≤ prodL W ps := by
  intro ps
  induction ps with
  | nil => intro p; exact ⟨(show (0 : Int) ≤ 1 by decide), Int.le_refl _⟩
  | cons r ps ih =>
    intro p
    simp only [spec, prodL]
    refine ⟨sumN_nonneg fun d _ => Int.mul_nonneg (hW r d) ?_, ?_⟩
    · by_cases e : p d = r
      · rw [if_pos e]; exact Int.le_refl _
      · rw [if_neg e]; exact (ih _).1
    · rw [← sumN_mul]
      refine sumN_le fun d _ => Int.mul_le_mul_of_nonneg_left ?_ (hW r d)
      by_cases e : p d = r
      · rw [if_pos e]; exact prodL_nonneg hW ps
      · rw [if_neg e]; exact (ih _).2
/-- heads lie between the lowest and the highest that is held -/
theorem spec_mid (hW : ∀ r d, 0 ≤ W r d) {G : Nat → Prop} {bb : Nat → Int} {lo hi : Int} (hG : ∀ r d, r < 6 → d < 6 → B r = true → 0 < W r d → G d) (hb : ∀ c, c < 6 → B c = false → G c → lo ≤ bb c ∧ bb c ≤ hi) {j : Nat} (hj6 : j < 6) : ∀ (ps : List Nat) (p : Nat → Nat), Inv B ps p → (∀ x, G x → G (p x)) → G j → lo * spec W (fun _ => 1) ps p ≤ spec W (fun p => bb (p j)) ps p ∧ spec W (fun p => bb (p j)) ps p ≤ hi * spec W (fun _ => 1) ps p := by
  intro ps
  induction ps with
  | nil =>
    intro p hi' hp hj
    have hB : B (p j) = false := by
      cases hb' : B (p j) with
      | false => rfl
      | true => exact absurd (hi'.2.2.2.2.2 j hb') List.not_mem_nil
    simp only [spec, Int.mul_one]
    exact hb (p j) (hi'.2.2.2.2.1 j hj6) hB (hp j hj)
  | cons r ps ih =>
    intro p hi' hp hj
    simp only [spec]
    rw [← sumN_mul', ← sumN_mul']
    obtain ⟨hrB, hr6, hrp⟩ := hi'.2.1 r List.mem_cons_self
    have key : ∀ d, d < 6 → lo * (W r d * (if p d = r then 0 else spec W (fun _ => 1) ps (jn p r d))) ≤ W r d * (if p d = r then 0 else spec W (fun p => bb (p j)) ps (jn p r d)) ∧ W r d * (if p d = r then 0 else spec W (fun p => bb (p j)) ps (jn p r d)) ≤ hi * (W r d * (if p d = r then 0 else spec W (fun _ => 1) ps (jn p r d))) := by
      intro d hd
      by_cases e : p d = r
      · rw [if_pos e, if_pos e]; simp
      · rw [if_neg e, if_neg e]
        rcases Int.lt_or_eq_of_le (hW r d) with hpos | hz
        · have hGd : G d := hG r d hr6 hd hrB hpos
          have := ih (jn p r d) (hi'.next hd e) (fun x hx => by
            unfold jn
            by_cases hx' : p x = r
            · rw [if_pos hx']; exact hp d hGd
            · rw [if_neg hx']; exact hp x hx) hj
          rw [Int.mul_left_comm lo, Int.mul_left_comm hi]
          exact ⟨Int.mul_le_mul_of_nonneg_left this.1 (hW r d), Int.mul_le_mul_of_nonneg_left this.2 (hW r d)⟩
        · rw [← hz]; simp
    exact ⟨sumN_le fun d hd => (key d hd).1, sumN_le fun d hd => (key d hd).2⟩
/-- the lower number is above 0, where each row leads down somewhere -/
theorem spec_pos (hW : ∀ r d, 0 ≤ W r d) {ρ : Nat → Nat} (hρ : ∀ r, r < 6 → B r = true → ∃ d, d < 6 ∧ 0 < W r d ∧ ρ d < ρ r) : ∀ (ps : List Nat) (p : Nat → Nat), Inv B ps p → (∀ x, ρ (p x) ≤ ρ x) → 1 ≤ spec W (fun _ => 1) ps p := by
  intro ps
  induction ps with
  | nil => intro p _ _; exact Int.le_refl _
  | cons r ps ih =>
    intro p hi hp
    obtain ⟨hrB, hr6, hrp⟩ := hi.2.1 r List.mem_cons_self
    obtain ⟨d, hd, hw, hl⟩ := hρ r hr6 hrB
    have hne : p d ≠ r := fun e => by have := hp d; rw [e] at this; omega
    simp only [spec]
    have h1 : 1 ≤ spec W (fun _ => 1) ps (jn p r d) := ih _ (hi.next hd hne) (fun x => by
      unfold jn
      by_cases hx : p x = r
      · rw [if_pos hx]; have h2 := hp d; have h3 := hp x; rw [hx] at h3; omega
      · rw [if_neg hx]; exact hp x)
    have h2 : (1 : Int) ≤ W r d * (if p d = r then 0 else spec W (fun _ => 1) ps (jn p r d)) := by
      rw [if_neg hne]
      have := Int.mul_le_mul (show (1 : Int) ≤ W r d by omega) h1 (by decide) (by omega)
      simpa using this
    refine Int.le_trans h2 (sumN_one (f := fun d => W r d * (if p d = r then 0 else spec W (fun _ => 1) ps (jn p r d))) (fun i _ => Int.mul_nonneg (hW r i) ?_) hd)
    by_cases e : p i = r
    · rw [if_pos e]; exact Int.le_refl _
    · rw [if_neg e]; exact (spec_bnd hW ps _).1
end BND
/-! columns that aren't looked at -/
theorem wd_congr : ∀ (cs : List Nat) (u v : Nat → Int) (g h : List Nat → Int), (∀ c ∈ cs, u c = v c) → (∀ l : List Nat, (∀ c ∈ l, c ∈ cs) → g l = h l) → wd u cs g = wd v cs h := by
  intro cs
  induction cs with
  | nil => intro u v g h _ _; rfl
  | cons c cs ih =>
    intro u v g h h1 h2
    simp only [wd]
    rw [h1 c List.mem_cons_self, h2 cs (fun x hx => List.mem_cons_of_mem _ hx), ih u v _ _ (fun x hx => h1 x (List.mem_cons_of_mem _ hx)) (fun l hl => h2 (c :: l) (fun x hx => ?_))]
    rcases List.mem_cons.mp hx with e | e
    · rw [e]; exact List.mem_cons_self
    · exact List.mem_cons_of_mem _ (hl x e)
theorem dl_congr (M M' : Nat → Nat → Int) : ∀ (R cs : List Nat), (∀ r ∈ R, ∀ c ∈ cs, M r c = M' r c) → dl (R.map M) cs = dl (R.map M') cs := by
  intro R
  induction R with
  | nil => intro cs _; rfl
  | cons r R ih =>
    intro cs h
    exact wd_congr cs _ _ _ _ (h r List.mem_cons_self) (fun l hl => ih l (fun x hx c hc => h x (List.mem_cons_of_mem _ hx) c (hl c hc)))
/-- a determinant of rows that are made of M's rows in a linear way is a reckoning -/
theorem alt_dl {B : Nat → Bool} (σ : Int) (R cs : List Nat) (lin : (Nat → Int) → Nat → Int) (hlin : ∀ a u v, lin (fun c => a * u c + v c) = fun c => a * lin u c + lin v c) (hn : R.Nodup) (h6 : ∀ r ∈ R, r < 6) (hB : ∀ r, r < 6 → B r = true → r ∈ R) : Alt (fun M => σ * dl (R.map (fun r => lin (M r))) cs) B := by
  have hup : ∀ (M : Nat → Nat → Int) r u, (fun i => lin (up M r u i)) = up (fun i => lin (M i)) r (lin u) := by
    intro M r u; funext i; unfold up
    by_cases h : i = r
    · rw [if_pos h, if_pos h]
    · rw [if_neg h, if_neg h]
  refine ⟨?_, ?_, ?_⟩
  · intro M r a u v hr hb
    show σ * dl (R.map (fun i => lin (up M r (fun c => a * u c + v c) i))) cs = a * (σ * dl (R.map (fun i => lin (up M r u i))) cs) + σ * dl (R.map (fun i => lin (up M r v i))) cs
    rw [hup, hup, hup, hlin, dl_up_lin a (lin u) (lin v) (fun i => lin (M i)) r R hn (hB r hr hb) cs, Int.mul_add, Int.mul_left_comm]
  · intro M r s hr hs hbr hbs hrs he
    show σ * dl (R.map (fun i => lin (M i))) cs = 0
    rw [dl_dup (fun i => lin (M i)) hrs (by show lin (M r) = lin (M s); rw [he]) R (hB r hr hbr) (hB s hs hbs) cs]; omega
  · intro M M' h
    show σ * dl (R.map (fun i => lin (M i))) cs = σ * dl (R.map (fun i => lin (M' i))) cs
    rw [List.map_congr_left (g := fun i => lin (M' i)) (fun r hr => by rw [h r (h6 r hr)])]
/-- each row may be changed by many times a fixed one -/
theorem alt_sweep {Φ : (Nat → Nat → Int) → Int} {B : Nat → Bool} (h : Alt Φ B) {s : Nat} (hs : s < 6) (hBs : B s = true) (a : Nat → Int) (M : Nat → Nat → Int) : Φ (fun r => if r = s ∨ B r = false then M r else fun c => a r * M s c + M r c) = Φ M := by
  have go : ∀ k, k ≤ 6 → Φ (fun r => if (r = s ∨ B r = false) ∨ k ≤ r then M r else (fun c => a r * M s c + M r c)) = Φ M := by
    intro k
    induction k with
    | zero =>
      intro _
      exact h.2.2 _ _ fun x _ => if_pos (Or.inr (Nat.zero_le _))
    | succ k ih =>
      intro hk
      rw [← ih (by omega)]
      by_cases e : k = s ∨ B k = false
      · refine h.2.2 _ _ fun x _ => ?_
        by_cases ex : x = k
        · rw [ex, if_pos (Or.inl e), if_pos (Or.inl e)]
        · by_cases hx : (x = s ∨ B x = false) ∨ k ≤ x
          · rw [if_pos hx, if_pos (hx.imp id (fun z => by omega))]
          · rw [if_neg hx, if_neg (fun z => hx (z.imp id (fun z => by omega)))]
      · have ek : k ≠ s := fun z => e (Or.inl z)
        have eb : B k = true := by
          cases hb : B k with
          | true => rfl
          | false => exact absurd (Or.inr hb) e
        have e1 := h.1 (fun r => if (r = s ∨ B r = false) ∨ k ≤ r then M r else (fun c => a r * M s c + M r c)) k (a k) (M s) (M k) (by omega) eb
        have e2 := h.2.1 (up (fun r => if (r = s ∨ B r = false) ∨ k ≤ r then M r else (fun c => a r * M s c + M r c)) k (M s)) k s (by omega) hs eb hBs ek (by rw [up_s, up_n (fun z => ek z.symm), if_pos (Or.inl (Or.inl rfl))])
        rw [e2, Int.mul_zero, Int.zero_add] at e1
        have e3 : Φ (up (fun r => if (r = s ∨ B r = false) ∨ k ≤ r then M r else (fun c => a r * M s c + M r c)) k (M k)) = Φ (fun r => if (r = s ∨ B r = false) ∨ k ≤ r then M r else (fun c => a r * M s c + M r c)) := by
          refine h.2.2 _ _ fun x _ => ?_
          by_cases ex : x = k
          · subst ex; rw [up_s, if_pos (Or.inr (Nat.le_refl _))]
          · rw [up_n ex]
        rw [← e3, ← e1]
        refine h.2.2 _ _ fun x _ => ?_
        by_cases ex : x = k
        · subst ex; rw [up_s, if_neg (fun z => z.elim e (fun z => by omega))]
        · rw [up_n ex]
          by_cases hx : (x = s ∨ B x = false) ∨ k ≤ x
          · rw [if_pos hx, if_pos (hx.imp id (fun z => by omega))]
          · rw [if_neg hx, if_neg (fun z => hx (z.imp id (fun z => by omega)))]
  rw [← go 6 (Nat.le_refl _)]
  refine h.2.2 _ _ fun x hx => ?_
  by_cases e : x = s ∨ B x = false
  · rw [if_pos e, if_pos (Or.inl e)]
  · rw [if_neg e, if_neg (fun z => z.elim e (fun z => by omega))]
/-- a row that is many times a fixed one, the others changed by many times the fixed one -/
theorem alt_head {Φ : (Nat → Nat → Int) → Int} {B : Nat → Bool} (h : Alt Φ B) {s : Nat} (hs : s < 6) (hBs : B s = true) (a : Nat → Int) (M : Nat → Nat → Int) : Φ (up (fun r => if r = s ∨ B r = false then M r else fun c => a r * M s c + M r c) s (fun c => a s * M s c + 0)) = a s * Φ M := by
  have e1 := h.1 (fun r => if r = s ∨ B r = false then M r else fun c => a r * M s c + M r c) s (a s) (M s) (fun _ => 0) hs hBs
  have e2 := h.zero (M := fun r => if r = s ∨ B r = false then M r else fun c => a r * M s c + M r c) hs hBs
  have e3 := alt_sweep h hs hBs a M
  have e4 : Φ (up (fun r => if r = s ∨ B r = false then M r else fun c => a r * M s c + M r c) s (M s)) = Φ (fun r => if r = s ∨ B r = false then M r else fun c => a r * M s c + M r c) := by
    refine h.2.2 _ _ fun x _ => ?_
    by_cases ex : x = s
    · subst ex; rw [up_s, if_pos (Or.inl rfl)]
    · rw [up_n ex]
  rw [e2, e4, e3, Int.add_zero] at e1
  exact e1
