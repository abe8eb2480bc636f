/-! DETERMINANTS, by their last rows; rows are functions of the column, columns a list -/
def wd (u : Nat → Int) : List Nat → (List Nat → Int) → Int
  | [], _ => 0
  | c :: cs, g => u c * g cs - wd u cs (fun l => g (c :: l))
def dl : List (Nat → Int) → List Nat → Int
  | [], _ => 1
  | u :: us, cs => wd u cs (dl us)
theorem wd_lin (a : Int) (u v : Nat → Int) : ∀ (cs : List Nat) (g : List Nat → Int), wd (fun c => a * u c + v c) cs g = a * wd u cs g + wd v cs g := by
  intro cs
  induction cs with
  | nil => intro g; simp [wd]
  | cons c cs ih =>
    intro g
    simp only [wd]
    rw [ih, Int.mul_sub, Int.add_mul, Int.mul_assoc]; omega
theorem wd_ling (a : Int) (u : Nat → Int) : ∀ (cs : List Nat) (g h : List Nat → Int), wd u cs (fun l => a * g l + h l) = a * wd u cs g + wd u cs h := by
  intro cs
  induction cs with
  | nil => intro g h; simp [wd]
  | cons c cs ih =>
    intro g h
    simp only [wd]
    rw [ih (fun l => g (c :: l)) (fun l => h (c :: l)), Int.mul_sub, Int.mul_add, ← Int.mul_assoc, ← Int.mul_assoc, Int.mul_comm (u c) a]; omega
theorem wd_zero (u : Nat → Int) : ∀ (cs : List Nat), wd u cs (fun _ => 0) = 0 := by
  intro cs
  induction cs with
  | nil => rfl
  | cons c cs ih => simp only [wd]; rw [ih]; simp
theorem wd_alt (u : Nat → Int) : ∀ (cs : List Nat) (g : List Nat → Int), wd u cs (fun l => wd u l g) = 0 := by
  intro cs
  induction cs with
  | nil => intro g; rfl
  | cons c cs ih =>
    intro g
    have e : (fun l => wd u (c :: l) g) = (fun l => (-1) * wd u l (fun l' => g (c :: l')) + u c * g l) := by
      funext l; simp only [wd]; omega
    show u c * wd u cs g - wd u cs (fun l => wd u (c :: l) g) = 0
    rw [e, wd_ling (-1) u cs (fun l => wd u l (fun l' => g (c :: l'))) (fun l => u c * g l), ih]
    have e2 : (fun l => u c * g l) = (fun l => u c * g l + 0) := by funext l; omega
    rw [e2, wd_ling (u c) u cs g (fun _ => 0), wd_zero]; omega
theorem wd_swap (u v : Nat → Int) (cs : List Nat) (g : List Nat → Int) : wd u cs (fun l => wd v l g) = - wd v cs (fun l => wd u l g) := by
  have h := wd_alt (fun c => 1 * u c + v c) cs g
  have e : (fun l => wd (fun c => 1 * u c + v c) l g) = (fun l => 1 * wd u l g + wd v l g) := by
    funext l; exact wd_lin 1 u v l g
  rw [e, wd_lin, wd_ling, wd_ling, wd_alt, wd_alt] at h; omega
theorem dl_mem (u : Nat → Int) : ∀ (us : List (Nat → Int)), u ∈ us → ∀ cs, dl (u :: us) cs = 0 := by
  intro us
  induction us with
  | nil => intro h; exact absurd h List.not_mem_nil
  | cons v vs ih =>
    intro h cs
    rcases List.mem_cons.mp h with h | h
    · subst h; exact wd_alt u cs (dl vs)
    · show wd u cs (fun l => wd v l (dl vs)) = 0
      rw [wd_swap]
      have e : (fun l => wd u l (dl vs)) = (fun _ => 0) := by funext l; exact ih h l
      rw [e, wd_zero]; rfl
/-- a row put in place of another one -/
def up (M : Nat → Nat → Int) (r : Nat) (u : Nat → Int) : Nat → Nat → Int := fun i => if i = r then u else M i
theorem up_s {M : Nat → Nat → Int} {r : Nat} {u : Nat → Int} : up M r u r = u := if_pos rfl
theorem up_n {M : Nat → Nat → Int} {r i : Nat} {u : Nat → Int} (h : i ≠ r) : up M r u i = M i := if_neg h
theorem up_map {M : Nat → Nat → Int} {r : Nat} {u : Nat → Int} (R : List Nat) (h : r ∉ R) : R.map (up M r u) = R.map M := by
  refine List.map_congr_left fun i hi => up_n ?_
  intro e; subst e; exact h hi
theorem dl_up_lin (a : Int) (u v : Nat → Int) (M : Nat → Nat → Int) (r : Nat) : ∀ (R : List Nat), R.Nodup → r ∈ R → ∀ cs, dl (R.map (up M r (fun c => a * u c + v c))) cs = a * dl (R.map (up M r u)) cs + dl (R.map (up M r v)) cs := by
  intro R
  induction R with
  | nil => intro _ h; exact absurd h List.not_mem_nil
  | cons i R ih =>
    intro hn h cs
    obtain ⟨h1, h2⟩ := List.nodup_cons.mp hn
    by_cases e : i = r
    · subst e
      simp only [List.map_cons, up_s, up_map R h1]
      exact wd_lin a u v cs _
    · have h3 : r ∈ R := (List.mem_cons.mp h).resolve_left (fun z => e z.symm)
      simp only [List.map_cons, up_n e]
      show wd (M i) cs (dl _) = a * wd (M i) cs (dl _) + wd (M i) cs (dl _)
      rw [show dl (R.map (up M r (fun c => a * u c + v c))) = (fun l => a * dl (R.map (up M r u)) l + dl (R.map (up M r v)) l) from funext (ih h2 h3), wd_ling]
theorem dl_dup (M : Nat → Nat → Int) {r s : Nat} (hrs : r ≠ s) (he : M r = M s) : ∀ (R : List Nat), r ∈ R → s ∈ R → ∀ cs, dl (R.map M) cs = 0 := by
  intro R
  induction R with
  | nil => intro h; exact absurd h List.not_mem_nil
  | cons i R ih =>
    intro h1 h2 cs
    by_cases e1 : r = i
    · subst e1
      have h3 : s ∈ R := (List.mem_cons.mp h2).resolve_left (fun z => hrs z.symm)
      rw [List.map_cons]
      exact dl_mem _ _ (by rw [he]; exact List.mem_map_of_mem h3) cs
    · by_cases e2 : s = i
      · subst e2
        have h3 : r ∈ R := (List.mem_cons.mp h1).resolve_left e1
        rw [List.map_cons]
        exact dl_mem _ _ (by rw [← he]; exact List.mem_map_of_mem h3) cs
      · have h3 := ih ((List.mem_cons.mp h1).resolve_left e1) ((List.mem_cons.mp h2).resolve_left e2)
        show wd (M i) cs (dl (R.map M)) = 0
        rw [show dl (R.map M) = (fun _ => 0) from funext h3, wd_zero]
/-! A RECKONING of rows 'what it gets is what it gives' -/
def sumN (f : Nat → Int) : Nat → Int
  | 0 => 0
  | n + 1 => sumN f n + f n
theorem sumN_congr {f g : Nat → Int} {n : Nat} (h : ∀ d, d < n → f d = g d) : sumN f n = sumN g n := by
  induction n with
  | zero => rfl
  | succ n ih => simp only [sumN]; rw [ih (fun d hd => h d (by omega)), h n (by omega)]
theorem sumN_nonneg {f : Nat → Int} {n : Nat} (h : ∀ d, d < n → 0 ≤ f d) : 0 ≤ sumN f n := by
  induction n with
  | zero => exact Int.le_refl _
  | succ n ih => simp only [sumN]; have := ih (fun d hd => h d (by omega)); have := h n (by omega); omega
theorem sumN_le {f g : Nat → Int} {n : Nat} (h : ∀ d, d < n → f d ≤ g d) : sumN f n ≤ sumN g n := by
  induction n with
  | zero => exact Int.le_refl _
  | succ n ih => simp only [sumN]; have := ih (fun d hd => h d (by omega)); have := h n (by omega); omega
theorem sumN_one {f : Nat → Int} {n d : Nat} (h : ∀ d, d < n → 0 ≤ f d) (hd : d < n) : f d ≤ sumN f n := by
  induction n with
  | zero => omega
  | succ n ih =>
    simp only [sumN]
    by_cases e : d = n
    · subst e; have := sumN_nonneg (f := f) (n := d) (fun i hi => h i (by omega)); omega
    · have := ih (fun i hi => h i (by omega)) (by omega); have := h n (by omega); omega
theorem sumN_mul {f : Nat → Int} {n : Nat} (a : Int) : sumN (fun d => f d * a) n = sumN f n * a := by
  induction n with
  | zero => simp [sumN]
  | succ n ih => simp only [sumN]; rw [ih, Int.add_mul]
theorem sumN_mul' {f : Nat → Int} {n : Nat} (a : Int) : sumN (fun d => a * f d) n = a * sumN f n := by
  induction n with
  | zero => simp [sumN]
  | succ n ih => simp only [sumN]; rw [ih, Int.mul_add]
def ee (i c : Nat) : Int := if c = i then 1 else 0
def ed (r d : Nat) : Nat → Int := fun c => ee r c - ee d c
def full (W : Nat → Nat → Int) (r : Nat) : Nat → Int := fun c => sumN (fun d => W r d * ed r d c) 6
/-- rows not yet looked at (ps), joined ones, and those that aren't in B -/
def Mt (W : Nat → Nat → Int) (B : Nat → Bool) (F : Nat → Nat → Int) (ps : List Nat) (p : Nat → Nat) : Nat → Nat → Int := fun r => if r ∈ ps then full W r else if B r then ed r (p r) else F r
/-- joins all that hangs on r to where d hangs -/
def jn (p : Nat → Nat) (r d : Nat) : Nat → Nat := fun x => if p x = r then p d else p x
def spec (W : Nat → Nat → Int) (val : (Nat → Nat) → Int) : List Nat → (Nat → Nat) → Int
  | [], p => val p
  | r :: ps, p => sumN (fun d => W r d * (if p d = r then 0 else spec W val ps (jn p r d))) 6
def Inv (B : Nat → Bool) (ps : List Nat) (p : Nat → Nat) : Prop := ps.Nodup ∧ (∀ r ∈ ps, B r = true ∧ r < 6 ∧ p r = r) ∧ (∀ x, B x = false → p x = x) ∧ (∀ x, p (p x) = p x) ∧ (∀ x, x < 6 → p x < 6) ∧ (∀ x, B (p x) = true → p x ∈ ps)
theorem Inv.next {B : Nat → Bool} {r d : Nat} {ps : List Nat} {p : Nat → Nat} (h : Inv B (r :: ps) p) (hd : d < 6) (hdr : p d ≠ r) : Inv B ps (jn p r d) := by
  obtain ⟨h1, h2, h3, h4, h5, h6⟩ := h
  obtain ⟨n1, n2⟩ := List.nodup_cons.mp h1
  have hr := h2 r (List.mem_cons_self)
  refine ⟨n2, ?_, ?_, ?_, ?_, ?_⟩
  · intro x hx
    obtain ⟨a, b, c⟩ := h2 x (List.mem_cons_of_mem _ hx)
    refine ⟨a, b, ?_⟩
    unfold jn
    rw [c, if_neg (fun e => n1 (by rw [← e]; exact hx))]
  · intro x hx
    unfold jn
    rw [h3 x hx, if_neg (fun e => by rw [e, hr.1] at hx; exact Bool.noConfusion hx)]
  · intro x
    show (if p (jn p r d x) = r then p d else p (jn p r d x)) = jn p r d x
    have e : p (jn p r d x) = jn p r d x := by
      unfold jn
      by_cases hx : p x = r
      · rw [if_pos hx, h4]
      · rw [if_neg hx, h4]
    rw [e]
    unfold jn
    by_cases hx : p x = r
    · rw [if_pos hx, if_neg hdr]
    · rw [if_neg hx, if_neg hx]
  · intro x hx
    unfold jn
    by_cases hp : p x = r
    · rw [if_pos hp]; exact h5 d hd
    · rw [if_neg hp]; exact h5 x hx
  · intro x
    unfold jn
    by_cases hp : p x = r
    · rw [if_pos hp]; intro hb
      exact (List.mem_cons.mp (h6 d hb)).resolve_left hdr
    · rw [if_neg hp]; intro hb
      exact (List.mem_cons.mp (h6 x hb)).resolve_left hp
section SPEC
variable {Φ : (Nat → Nat → Int) → Int} {W : Nat → Nat → Int} {B : Nat → Bool} {F : Nat → Nat → Int}
/-- what a reckoning owes: linear in each row of B, none if two of them are alike, and it looks at six rows -/
def Alt (Φ : (Nat → Nat → Int) → Int) (B : Nat → Bool) : Prop := (∀ M r a u v, r < 6 → B r = true → Φ (up M r (fun c => a * u c + v c)) = a * Φ (up M r u) + Φ (up M r v)) ∧ (∀ M r s, r < 6 → s < 6 → B r = true → B s = true → r ≠ s → M r = M s → Φ M = 0) ∧ ∀ M M', (∀ x, x < 6 → M x = M' x) → Φ M = Φ M'
theorem Alt.zero (h : Alt Φ B) {M : Nat → Nat → Int} {r : Nat} (hr : r < 6) (hb : B r = true) : Φ (up M r (fun _ => 0)) = 0 := by
  have := h.1 M r 1 (fun _ => 0) (fun _ => 0) hr hb
  simp only [Int.mul_zero, Int.add_zero] at this; omega
theorem Alt.self (h : Alt Φ B) {M : Nat → Nat → Int} {r : Nat} : Φ (up M r (M r)) = Φ M := h.2.2 _ _ fun x _ => by
  by_cases e : x = r
  · subst e; exact up_s
  · exact up_n e
theorem Alt.add (h : Alt Φ B) {M : Nat → Nat → Int} {r s : Nat} (hr : r < 6) (hs : s < 6) (hb : B r = true) (hbs : B s = true) (hrs : r ≠ s) : Φ (up M r (fun c => 1 * M s c + M r c)) = Φ M := by
  rw [h.1 M r 1 (M s) (M r) hr hb, h.self, h.2.1 (up M r (M s)) r s hr hs hb hbs hrs (by rw [up_s, up_n (Ne.symm hrs)])]; omega
theorem Alt.sum (h : Alt Φ B) {M : Nat → Nat → Int} {r : Nat} (hr : r < 6) (hb : B r = true) (w : Nat → Int) (u : Nat → Nat → Int) : ∀ n, Φ (up M r (fun c => sumN (fun d => w d * u d c) n)) = sumN (fun d => w d * Φ (up M r (u d))) n := by
  intro n
  induction n with
  | zero => exact h.zero hr hb
  | succ n ih =>
    have e : (fun c => sumN (fun d => w d * u d c) (n + 1)) = (fun c => w n * u n c + sumN (fun d => w d * u d c) n) := by
      funext c; simp only [sumN]; omega
    rw [e, h.1 M r (w n) (u n) _ hr hb, ih]; simp only [sumN]; omega
theorem ed_add (r d e : Nat) : (fun c => 1 * ed d e c + ed r d c) = ed r e := by
  funext c; unfold ed; omega
theorem ed_self (r : Nat) : ed r r = (fun _ => 0) := by
  funext c; unfold ed; omega
theorem spec_step (h : Alt Φ B) {r d : Nat} {ps : List Nat} {p : Nat → Nat} (hi : Inv B (r :: ps) p) (hd : d < 6) : Φ (up (Mt W B F (r :: ps) p) r (ed r d)) = if p d = r then 0 else Φ (Mt W B F ps (jn p r d)) := by
  obtain ⟨h1, h2, h3, h4, h5, h6⟩ := id hi
  obtain ⟨n1, n2⟩ := List.nodup_cons.mp h1
  obtain ⟨hrB, hr6, hrp⟩ := h2 r List.mem_cons_self
  have s1 : Φ (up (Mt W B F (r :: ps) p) r (ed r d)) = Φ (up (Mt W B F (r :: ps) p) r (ed r (p d))) := by
    by_cases e : p d = d
    · rw [e]
    · have hdB : B d = true := by
        cases hb : B d with
        | true => rfl
        | false => exact absurd (h3 d hb) e
      have hdn : d ∉ r :: ps := fun hm => e (h2 d hm).2.2
      have hdr : d ≠ r := fun z => hdn (by rw [z]; exact List.mem_cons_self)
      have := h.add (M := up (Mt W B F (r :: ps) p) r (ed r d)) (r := r) (s := d) hr6 hd hrB hdB (Ne.symm hdr)
      rw [← this]
      refine h.2.2 _ _ fun x _ => ?_
      by_cases ex : x = r
      · subst ex
        rw [up_s, up_s, up_s, up_n hdr]
        have : Mt W B F (x :: ps) p d = ed d (p d) := by unfold Mt; rw [if_neg hdn, if_pos hdB]
        rw [this, ed_add]
      · rw [up_n ex, up_n ex, up_n ex]
  rw [s1]
  by_cases e : p d = r
  · rw [if_pos e, e, ed_self]; exact h.zero hr6 hrB
  · rw [if_neg e]
    have s2 : ∀ k, k ≤ 6 → Φ (fun x => if x = r then ed r (p d) else if x < k then Mt W B F ps (jn p r d) x else Mt W B F (r :: ps) p x) = Φ (up (Mt W B F (r :: ps) p) r (ed r (p d))) := by
      intro k
      induction k with
      | zero =>
        intro _
        refine h.2.2 _ _ fun x _ => ?_
        by_cases ex : x = r
        · rw [if_pos ex, ex, up_s]
        · rw [if_neg ex, if_neg (by omega), up_n ex]
      | succ k ih =>
        intro hk
        rw [← ih (by omega)]
        by_cases ekr : k = r
        · refine h.2.2 _ _ fun x _ => ?_
          by_cases ex : x = r
          · rw [if_pos ex, if_pos ex]
          · rw [if_neg ex, if_neg ex]
            by_cases hx : x < k
            · rw [if_pos hx, if_pos (by omega)]
            · rw [if_neg hx, if_neg (by omega)]
        · by_cases same : Mt W B F ps (jn p r d) k = Mt W B F (r :: ps) p k
          · refine h.2.2 _ _ fun x _ => ?_
            by_cases ex : x = r
            · rw [if_pos ex, if_pos ex]
            · rw [if_neg ex, if_neg ex]
              by_cases hx : x < k
              · rw [if_pos hx, if_pos (by omega)]
              · by_cases hxk : x = k
                · rw [hxk, if_pos (by omega), if_neg (by omega)]; exact same
                · rw [if_neg hx, if_neg (by omega)]
          · have hkn : k ∉ ps := fun hm => same (by unfold Mt; rw [if_pos hm, if_pos (List.mem_cons_of_mem _ hm)])
            have hkn' : k ∉ r :: ps := fun hm => (List.mem_cons.mp hm).elim ekr hkn
            have hkB : B k = true := by
              cases hb : B k with
              | true => rfl
              | false => exact absurd (by unfold Mt; rw [if_neg hkn, if_neg hkn', hb]; rfl) same
            have m1 : Mt W B F (r :: ps) p k = ed k (p k) := by unfold Mt; rw [if_neg hkn', if_pos hkB]
            have m2 : Mt W B F ps (jn p r d) k = ed k (jn p r d k) := by unfold Mt; rw [if_neg hkn, if_pos hkB]
            have hpk : p k = r := by
              refine Classical.byContradiction fun hne => same ?_
              rw [m1, m2]; unfold jn; rw [if_neg hne]
            have := h.add (M := fun x => if x = r then ed r (p d) else if x < k then Mt W B F ps (jn p r d) x else Mt W B F (r :: ps) p x) (r := k) (s := r) (by omega) hr6 hkB hrB ekr
            rw [← this]
            refine h.2.2 _ _ fun x _ => ?_
            by_cases hxk : x = k
            · subst hxk
              rw [up_s, if_neg ekr, if_pos (by omega), if_pos rfl, if_neg ekr, if_neg (by omega), m1, m2, hpk, ed_add]
              unfold jn; rw [if_pos hpk]
            · rw [up_n hxk]
              by_cases ex : x = r
              · rw [if_pos ex, if_pos ex]
              · rw [if_neg ex, if_neg ex]
                by_cases hx : x < k
                · rw [if_pos hx, if_pos (by omega)]
                · rw [if_neg hx, if_neg (by omega)]
    rw [← s2 6 (Nat.le_refl _)]
    refine h.2.2 _ _ fun x hx => ?_
    by_cases ex : x = r
    · subst ex
      rw [if_pos rfl]
      unfold Mt
      rw [if_neg n1, if_pos hrB]; unfold jn; rw [if_pos hrp]
    · rw [if_neg ex, if_pos hx]
theorem spec_eq (h : Alt Φ B) : ∀ (ps : List Nat) (p : Nat → Nat), Inv B ps p → (∀ p', Inv B [] p' → Φ (Mt W B F [] p') = Φ (Mt W B F [] p')) → Φ (Mt W B F ps p) = spec W (fun p => Φ (Mt W B F [] p)) ps p := by
  intro ps
  induction ps with
  | nil => intro p _ _; rfl
  | cons r ps ih =>
    intro p hi ht
    obtain ⟨hrB, hr6, hrp⟩ := hi.2.1 r List.mem_cons_self
    have e : Φ (Mt W B F (r :: ps) p) = Φ (up (Mt W B F (r :: ps) p) r (fun c => sumN (fun d => W r d * ed r d c) 6)) := by
      refine h.2.2 _ _ fun x _ => ?_
      by_cases ex : x = r
      · subst ex; rw [up_s]; unfold Mt; rw [if_pos List.mem_cons_self]; rfl
      · rw [up_n ex]
    rw [e, h.sum hr6 hrB (W r) (ed r)]
    simp only [spec]
    refine sumN_congr fun d hd => ?_
    rw [spec_step h hi hd]
    by_cases ed' : p d = r
    · rw [if_pos ed', if_pos ed']
    · rw [if_neg ed', if_neg ed', ih _ (hi.next hd ed') ht]
/-- two reckonings that agree at the end agree -/
theorem spec_val {val val' : (Nat → Nat) → Int} : ∀ (ps : List Nat) (p : Nat → Nat), Inv B ps p → (∀ p', Inv B [] p' → val p' = val' p') → spec W val ps p = spec W val' ps p := by
  intro ps
  induction ps with
  | nil => intro p hi h; exact h p hi
  | cons r ps ih =>
    intro p hi h
    simp only [spec]
    refine sumN_congr fun d hd => ?_
    by_cases e : p d = r
    · rw [if_pos e, if_pos e]
    · rw [if_neg e, if_neg e, ih _ (hi.next hd e) h]
end SPEC
