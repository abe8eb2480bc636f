/-! THE REFERENCE's determinants: n rows, the joints q 0 .. q (n - 1) -/
def dn (n : Nat) : List Nat := List.range n
theorem mem_dn {n k : Nat} : k ∈ dn n ↔ k < n := List.mem_range
theorem dn_nd (n : Nat) : (dn n).Nodup := List.nodup_range
theorem numR : ∀ n, n < 6 → dl ((dn n).map ee) (dn n) = 1 := by decide +kernel
theorem map_nd {q : Nat → Nat} : ∀ {l : List Nat}, l.Nodup → (∀ a ∈ l, ∀ b ∈ l, q a = q b → a = b) → (l.map q).Nodup := by
  intro l
  induction l with
  | nil => intro _ _; exact List.nodup_nil
  | cons a l ih =>
    intro hn h
    obtain ⟨h1, h2⟩ := List.nodup_cons.mp hn
    rw [List.map_cons]
    refine List.nodup_cons.mpr ⟨fun hm => ?_, ih h2 (fun x hx y hy => h x (List.mem_cons_of_mem _ hx) y (List.mem_cons_of_mem _ hy))⟩
    obtain ⟨x, hx, e⟩ := List.mem_map.mp hm
    have := h x (List.mem_cons_of_mem _ hx) a List.mem_cons_self e
    subst this; exact h1 hx
/-- a row in places, and one with what is known in place i -/
def linD (q : Nat → Nat) : (Nat → Int) → Nat → Int := fun u c => u (q c)
def linH (q : Nat → Nat) (B : Nat → Bool) (bb : Nat → Int) (i : Nat) : (Nat → Int) → Nat → Int := fun u c => if c = i then - sumN (fun d => (if B d = true then 0 else bb d) * u d) 6 else u (q c)
theorem sumN_add {f g : Nat → Int} {n : Nat} : sumN (fun d => f d + g d) n = sumN f n + sumN g n := by
  induction n with
  | zero => rfl
  | succ n ih => simp only [sumN]; rw [ih]; omega
theorem linH_lin {q : Nat → Nat} {B : Nat → Bool} {bb : Nat → Int} {i : Nat} : ∀ a u v, linH q B bb i (fun c => a * u c + v c) = fun c => a * linH q B bb i u c + linH q B bb i v c := by
  intro a u v; funext c; unfold linH
  by_cases h : c = i
  · rw [if_pos h, if_pos h, if_pos h]
    have e : (fun d => (if B d = true then 0 else bb d) * (a * u d + v d)) = (fun d => a * ((if B d = true then 0 else bb d) * u d) + (if B d = true then 0 else bb d) * v d) := by
      funext d; rw [Int.mul_add, Int.mul_left_comm]
    rw [e, sumN_add, sumN_mul', Int.neg_add, Int.mul_neg]
  · rw [if_neg h, if_neg h, if_neg h]
theorem sumN_ee {f : Nat → Int} {n r : Nat} : sumN (fun d => f d * ee r d) n = if r < n then f r else 0 := by
  induction n with
  | zero => rfl
  | succ n ih =>
    simp only [sumN]; rw [ih]; unfold ee
    by_cases h1 : n = r
    · subst h1; rw [if_neg (by omega), if_pos rfl, if_pos (by omega)]; omega
    · rw [if_neg h1]
      by_cases h2 : r < n
      · rw [if_pos h2, if_pos (by omega)]; omega
      · rw [if_neg h2, if_neg (by omega)]; omega
section REF
variable {W : Nat → Nat → Int} {B : Nat → Bool} {F : Nat → Nat → Int} {bb : Nat → Int} {q : Nat → Nat} {n : Nat}
/-- q numbers the joints of B -/
def Num (q : Nat → Nat) (B : Nat → Bool) (n : Nat) : Prop := n < 6 ∧ (∀ k, k < n → q k < 6 ∧ B (q k) = true) ∧ (∀ a, a < n → ∀ b, b < n → q a = q b → a = b) ∧ ∀ r, B r = true → ∃ k, k < n ∧ q k = r
theorem Num.inv (h : Num q B n) : Inv B ((dn n).map q) id := by
  refine ⟨map_nd (dn_nd n) (fun a ha b hb => h.2.2.1 a (mem_dn.mp ha) b (mem_dn.mp hb)), ?_, fun _ _ => rfl, fun _ => rfl, fun _ hx => hx, ?_⟩
  · intro r hr
    obtain ⟨k, hk, rfl⟩ := List.mem_map.mp hr
    exact ⟨(h.2.1 k (mem_dn.mp hk)).2, (h.2.1 k (mem_dn.mp hk)).1, rfl⟩
  · intro x hx
    obtain ⟨k, hk, e⟩ := h.2.2.2 x hx
    exact List.mem_map.mpr ⟨k, mem_dn.mpr hk, e⟩
theorem Num.alt (h : Num q B n) (lin : (Nat → Int) → Nat → Int) (hlin : ∀ a u v, lin (fun c => a * u c + v c) = fun c => a * lin u c + lin v c) : Alt (fun M => 1 * dl (((dn n).map q).map (fun r => lin (M r))) (dn n)) B := by
  refine alt_dl 1 _ _ lin hlin h.inv.1 (fun r hr => (h.inv.2.1 r hr).2.1) (fun r _ hb => ?_)
  obtain ⟨k, hk, e⟩ := h.2.2.2 r hb
  exact List.mem_map.mpr ⟨k, mem_dn.mpr hk, e⟩
theorem Num.pB (h : Num q B n) {p : Nat → Nat} (hi : Inv B [] p) (x : Nat) : B (p x) = false := by
  cases hb : B (p x) with
  | false => rfl
  | true => exact absurd (hi.2.2.2.2.2 x hb) List.not_mem_nil
theorem Num.row (h : Num q B n) {p : Nat → Nat} (hi : Inv B [] p) {k c : Nat} (hk : k < n) (hc : c < n) : Mt W B F [] p (q k) (q c) = ee k c := by
  unfold Mt
  rw [if_neg List.not_mem_nil, if_pos (h.2.1 k hk).2]
  unfold ed ee
  rw [if_neg (show ¬ q c = p (q k) from fun e => by have := h.pB hi (q k); rw [← e, (h.2.1 c hc).2] at this; exact Bool.noConfusion this)]
  by_cases e : c = k
  · subst e; rw [if_pos rfl, if_pos rfl]; rfl
  · rw [if_neg e, if_neg (fun z => e (h.2.2.1 c hc k hk z))]; rfl
theorem ref_D (h : Num q B n) : dl ((dn n).map (fun k c => full W (q k) (q c))) (dn n) = spec W (fun _ => 1) ((dn n).map q) id := by
  have hs := spec_eq (W := W) (F := fun _ _ => 0) (h.alt (linD q) (fun _ _ _ => rfl)) _ _ h.inv (fun _ _ => rfl)
  have e : spec W (fun p => 1 * dl (((dn n).map q).map (fun r => linD q (Mt W B (fun _ _ => 0) [] p r))) (dn n)) ((dn n).map q) id = spec W (fun _ => 1) ((dn n).map q) id := by
    refine spec_val (B := B) _ _ h.inv fun p' hi' => ?_
    rw [List.map_map, dl_congr ((fun r => linD q (Mt W B (fun _ _ => 0) [] p' r)) ∘ q) ee (dn n) (dn n) (fun k hk c hc => (show Mt W B (fun _ _ => (0 : Int)) [] p' (q k) (q c) = ee k c from h.row hi' (mem_dn.mp hk) (mem_dn.mp hc))), numR n h.1]; rfl
  rw [← e, ← hs, List.map_map, Int.one_mul]
  refine dl_congr _ _ _ _ (fun k hk c hc => ?_)
  show full W (q k) (q c) = Mt W B (fun _ _ => 0) ((dn n).map q) id (q k) (q c)
  unfold Mt
  rw [if_pos (List.mem_map.mpr ⟨k, hk, rfl⟩)]
theorem ref_H (h : Num q B n) {i : Nat} (hin : i < n) : dl ((dn n).map (fun k c => if c = i then - sumN (fun d => (if B d = true then 0 else bb d) * full W (q k) d) 6 else full W (q k) (q c))) (dn n) = spec W (fun p => bb (p (q i))) ((dn n).map q) id := by
  have hs := spec_eq (W := W) (F := fun _ _ => 0) (h.alt (linH q B bb i) linH_lin) _ _ h.inv (fun _ _ => rfl)
  have e : spec W (fun p => 1 * dl (((dn n).map q).map (fun r => linH q B bb i (Mt W B (fun _ _ => 0) [] p r))) (dn n)) ((dn n).map q) id = spec W (fun p => bb (p (q i))) ((dn n).map q) id := by
    refine spec_val (B := B) _ _ h.inv fun p' hi' => ?_
    have hcol : ∀ k, k < n → - sumN (fun d => (if B d = true then 0 else bb d) * Mt W B (fun _ _ => 0) [] p' (q k) d) 6 = bb (p' (q k)) := by
      intro k hk
      have e1 : Mt W B (fun _ _ => 0) [] p' (q k) = ed (q k) (p' (q k)) := by unfold Mt; rw [if_neg List.not_mem_nil, if_pos (h.2.1 k hk).2]
      rw [e1]
      have e2 : (fun d => (if B d = true then 0 else bb d) * ed (q k) (p' (q k)) d) = (fun d => (if B d = true then 0 else bb d) * ee (q k) d + (-1) * ((if B d = true then 0 else bb d) * ee (p' (q k)) d)) := by
        funext d; unfold ed; rw [Int.mul_sub]; omega
      rw [e2, sumN_add, sumN_mul', sumN_ee, sumN_ee, if_pos (h.2.1 k hk).1, if_pos (hi'.2.2.2.2.1 _ (h.2.1 k hk).1), if_pos (h.2.1 k hk).2, h.pB hi' (q k), if_neg Bool.noConfusion]; omega
    have al : Alt (fun M => 1 * dl ((dn n).map (fun r => M r)) (dn n)) (fun r => decide (r < n)) := alt_dl 1 _ _ (fun u => u) (fun _ _ _ => rfl) (dn_nd n) (fun r hr => by have := mem_dn.mp hr; have := h.1; omega) (fun r _ hb => mem_dn.mpr (by simpa using hb))
    have hbi : (fun r => decide (r < n)) i = true := by simpa using hin
    have hi6 : i < 6 := by have := h.1; omega
    have key := alt_head al hi6 hbi (fun r => bb (p' (q r))) ee
    have s1 : dl ((dn n).map ((fun r => linH q B bb i (Mt W B (fun _ _ => 0) [] p' r)) ∘ q)) (dn n) = dl ((dn n).map (fun r => up (fun r => if r = i ∨ (fun r => decide (r < n)) r = false then ee r else fun c => (fun r => bb (p' (q r))) r * ee i c + ee r c) i (fun c => (fun r => bb (p' (q r))) i * ee i c + 0) r)) (dn n) := by
      refine dl_congr _ _ (dn n) (dn n) (fun k hk c hc => ?_)
      have hk' := mem_dn.mp hk
      have hc' := mem_dn.mp hc
      show linH q B bb i (Mt W B (fun _ _ => 0) [] p' (q k)) c = _
      unfold linH
      by_cases ek : k = i
      · subst ek
        rw [up_s]
        show _ = bb (p' (q k)) * ee k c + 0
        by_cases ec : c = k
        · subst ec; rw [if_pos rfl, hcol c hk']; unfold ee; rw [if_pos rfl]; omega
        · rw [if_neg ec, h.row hi' hk' hc']; unfold ee; rw [if_neg ec]; omega
      · have hif : (if k = i ∨ (fun r => decide (r < n)) k = false then ee k else fun c => (fun r => bb (p' (q r))) k * ee i c + ee k c) = fun c => bb (p' (q k)) * ee i c + ee k c := if_neg (fun z => z.elim ek (fun z => by simp at z; omega))
        rw [up_n ek, hif]
        show _ = bb (p' (q k)) * ee i c + ee k c
        by_cases ec : c = i
        · subst ec; rw [if_pos rfl, hcol k hk']; unfold ee; rw [if_pos rfl, if_neg (fun z => ek z.symm)]; omega
        · rw [if_neg ec, h.row hi' hk' hc']; unfold ee; rw [if_neg ec]; omega
    rw [List.map_map, s1]
    refine Eq.trans key ?_
    show bb (p' (q i)) * (1 * dl ((dn n).map ee) (dn n)) = _
    rw [numR n h.1]; omega
  rw [← e, ← hs, List.map_map, Int.one_mul]
  refine dl_congr _ _ _ _ (fun k hk c hc => ?_)
  have e1 : Mt W B (fun _ _ => 0) ((dn n).map q) id (q k) = full W (q k) := by
    unfold Mt; rw [if_pos (List.mem_map.mpr ⟨k, hk, rfl⟩)]
  show _ = linH q B bb i (Mt W B (fun _ _ => 0) ((dn n).map q) id (q k)) c
  rw [e1]; rfl
end REF
