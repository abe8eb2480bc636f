/-! THE CLASS's determinants: six rows, seven columns -/
def R6 : List Nat := [5, 4, 3, 2, 1, 0]
def colH (j : Nat) : List Nat := [6, 5, 4, 3, 2, 1, 0].filter (fun c => c != j)
def sgH (j : Nat) : Int := if j % 2 = 1 then 1 else -1
/-- a row that isn't in B: a head as held -/
def FF (bb : Nat → Int) : Nat → Nat → Int := fun r c => ee r c + bb r * ee 6 c
theorem mem_R6 {r : Nat} (h : r < 6) : r ∈ R6 := by
  rcases (show r = 0 ∨ r = 1 ∨ r = 2 ∨ r = 3 ∨ r = 4 ∨ r = 5 by omega) with rfl | rfl | rfl | rfl | rfl | rfl <;> decide
theorem R6_lt : ∀ r ∈ R6, r < 6 := by decide
theorem R6_nd : R6.Nodup := by decide
theorem alt_cls (B : Nat → Bool) (σ : Int) (cs : List Nat) : Alt (fun M => σ * dl (R6.map (fun r => M r)) cs) B := alt_dl σ R6 cs (fun u => u) (fun _ _ _ => rfl) R6_nd R6_lt (fun _ h _ => mem_R6 h)
/-- joined rows become heads -/
theorem base_rows {Φ : (Nat → Nat → Int) → Int} {W : Nat → Nat → Int} {B : Nat → Bool} {bb : Nat → Int} (h : Alt Φ (fun _ => true)) {p : Nat → Nat} (hi : Inv B [] p) : Φ (Mt W B (FF bb) [] p) = Φ (fun r c => ee r c + bb (p r) * ee 6 c) := by
  obtain ⟨-, -, h3, h4, h5, h6⟩ := hi
  have hpB : ∀ x, B (p x) = false := fun x => by
    cases hb : B (p x) with
    | false => rfl
    | true => exact absurd (h6 x hb) List.not_mem_nil
  have go : ∀ k, k ≤ 6 → Φ (fun r => if r < k then (fun c => ee r c + bb (p r) * ee 6 c) else Mt W B (FF bb) [] p r) = Φ (Mt W B (FF bb) [] p) := by
    intro k
    induction k with
    | zero => intro _; exact h.2.2 _ _ fun x _ => if_neg (by omega)
    | succ k ih =>
      intro hk
      rw [← ih (by omega)]
      by_cases hb : B k = true
      · have hne : k ≠ p k := fun e => by have := hpB k; rw [← e, hb] at this; exact Bool.noConfusion this
        have := h.add (M := fun r => if r < k then (fun c => ee r c + bb (p r) * ee 6 c) else Mt W B (FF bb) [] p r) (r := k) (s := p k) (by omega) (h5 k (by omega)) rfl rfl hne
        rw [← this]
        have es : (if p k < k then (fun c => ee (p k) c + bb (p (p k)) * ee 6 c) else Mt W B (FF bb) [] p (p k)) = FF bb (p k) := by
          by_cases hlt : p k < k
          · rw [if_pos hlt, h4]; rfl
          · rw [if_neg hlt]; unfold Mt; rw [if_neg List.not_mem_nil, hpB]; rfl
        refine h.2.2 _ _ fun x _ => ?_
        by_cases ex : x = k
        · subst ex
          rw [up_s, if_pos (by omega), es, if_neg (by omega)]
          have ex' : Mt W B (FF bb) [] p x = ed x (p x) := by unfold Mt; rw [if_neg List.not_mem_nil, if_pos hb]
          rw [ex']
          funext c; unfold ed FF; omega
        · rw [up_n ex]
          by_cases hx : x < k
          · rw [if_pos hx, if_pos (by omega)]
          · rw [if_neg hx, if_neg (by omega)]
      · have hb' : B k = false := by
          cases hbb : B k with
          | false => rfl
          | true => exact absurd hbb hb
        refine h.2.2 _ _ fun x _ => ?_
        by_cases ex : x = k
        · subst ex
          rw [if_pos (by omega), if_neg (by omega), h3 x hb']
          unfold Mt; rw [if_neg List.not_mem_nil, hb']; rfl
        · by_cases hx : x < k
          · rw [if_pos hx, if_pos (by omega)]
          · rw [if_neg hx, if_neg (by omega)]
  rw [← go 6 (Nat.le_refl _)]
  exact h.2.2 _ _ fun x hx => if_pos hx
theorem numD : dl (R6.map ee) R6 = 1 := by decide +kernel
theorem numH : ∀ j, j < 6 → sgH j * dl (R6.map (fun r => if r = j then ee 6 else ee r)) (colH j) = 1 := by decide +kernel
theorem ee6 {c : Nat} (h : c < 6) : ee 6 c = 0 := if_neg (by omega)
theorem cls_D {W : Nat → Nat → Int} {B : Nat → Bool} {bb : Nat → Int} {ps : List Nat} {p : Nat → Nat} (hi : Inv B ps p) : dl (R6.map (Mt W B (FF bb) ps p)) R6 = spec W (fun _ => 1) ps p := by
  have h := spec_eq (W := W) (F := FF bb) (alt_cls B 1 R6) ps p hi (fun _ _ => rfl)
  have e : spec W (fun p => 1 * dl (R6.map (fun r => Mt W B (FF bb) [] p r)) R6) ps p = spec W (fun _ => 1) ps p := by
    refine spec_val (B := B) ps p hi fun p' hi' => ?_
    have hb := base_rows (W := W) (bb := bb) (alt_cls (fun _ => true) 1 R6) hi'
    show 1 * dl (R6.map (fun r => Mt W B (FF bb) [] p' r)) R6 = 1
    rw [hb, dl_congr (fun r c => ee r c + bb (p' r) * ee 6 c) ee R6 R6 (fun r _ c hc => by rw [ee6 (R6_lt c hc)]; omega), numD]; rfl
  rw [← e, ← h]
  show _ = 1 * dl (R6.map (fun r => Mt W B (FF bb) ps p r)) R6
  rw [Int.one_mul]
theorem cls_H {W : Nat → Nat → Int} {B : Nat → Bool} {bb : Nat → Int} {ps : List Nat} {p : Nat → Nat} {j : Nat} (hj : j < 6) (hi : Inv B ps p) : sgH j * dl (R6.map (Mt W B (FF bb) ps p)) (colH j) = spec W (fun p => bb (p j)) ps p := by
  have h := spec_eq (W := W) (F := FF bb) (alt_cls B (sgH j) (colH j)) ps p hi (fun _ _ => rfl)
  have e : spec W (fun p => sgH j * dl (R6.map (fun r => Mt W B (FF bb) [] p r)) (colH j)) ps p = spec W (fun p => bb (p j)) ps p := by
    refine spec_val (B := B) ps p hi fun p' hi' => ?_
    have al := alt_cls (fun _ => true) (sgH j) (colH j)
    have hb := base_rows (W := W) (bb := bb) al hi'
    show sgH j * dl (R6.map (fun r => Mt W B (FF bb) [] p' r)) (colH j) = bb (p' j)
    rw [hb]
    have hc : ∀ c ∈ colH j, ee j c = 0 := by
      intro c hc
      have := (List.mem_filter.mp hc).2
      unfold ee
      rw [if_neg (fun z => by rw [z] at this; simp at this)]
    have key := alt_head al hj rfl (fun r => bb (p' r)) (fun r => if r = j then ee 6 else ee r)
    have s1 : dl (R6.map (fun r c => ee r c + bb (p' r) * ee 6 c)) (colH j) = dl (R6.map (fun r => up (fun r => if r = j ∨ (fun _ : Nat => true) r = false then (fun r => if r = j then ee 6 else ee r) r else fun c => (fun r => bb (p' r)) r * (fun r => if r = j then ee 6 else ee r) j c + (fun r => if r = j then ee 6 else ee r) r c) j (fun c => (fun r => bb (p' r)) j * (fun r => if r = j then ee 6 else ee r) j c + 0) r)) (colH j) := by
      refine dl_congr _ _ R6 (colH j) (fun r _ c hc' => ?_)
      by_cases er : r = j
      · subst er
        rw [up_s]
        show ee r c + bb (p' r) * ee 6 c = bb (p' r) * (if r = r then ee 6 else ee r) c + 0
        rw [if_pos rfl, hc c hc']; omega
      · rw [up_n er, if_neg (fun z => z.elim er (fun z => Bool.noConfusion z))]
        show ee r c + bb (p' r) * ee 6 c = bb (p' r) * (if j = j then ee 6 else ee j) c + (if r = j then ee 6 else ee r) c
        rw [if_pos rfl, if_neg er]; omega
    rw [s1]
    refine Eq.trans key ?_
    show bb (p' j) * (sgH j * dl (R6.map (fun r => if r = j then ee 6 else ee r)) (colH j)) = _
    rw [numH j hj]; omega
  rw [← e, ← h]
