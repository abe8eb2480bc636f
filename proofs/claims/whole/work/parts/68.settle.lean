/-! the joints with an equation, numbered -/
def plm (b j : Nat) : Nat := cn (b % 2 ^ j)
def qm (b k : Nat) : Nat := ([0, 1, 2, 3, 4, 5].find? (fun j => b.testBit j && plm b j == k)).getD 0
theorem qm_ok : ∀ b, b < 64 → ∀ k, k < 6 → k < cn b → qm b k < 6 ∧ b.testBit (qm b k) = true ∧ plm b (qm b k) = k := by decide +kernel
theorem pl_ok : ∀ b, b < 64 → ∀ j, j < 6 → b.testBit j = true → plm b j < cn b ∧ qm b (plm b j) = j := by decide +kernel
theorem pl_s : ∀ b, b < 64 → ∀ j, j < 6 → plm b (j + 1) = plm b j + (b.testBit j).toNat := by decide +kernel
theorem pl_0 : ∀ b, b < 64 → plm b 0 = 0 ∧ plm b 6 = cn b ∧ cn b ≤ 6 := by decide +kernel
theorem cn_6 : ∀ b, b < 64 → cn b = 6 → ∀ j, j < 6 → b.testBit j = true := by decide +kernel
def bal (G : GD) : Nat := wet G &&& (63 ^^^ hmask G (qJ G))
section SETTLE
variable {G : GD} {s s' x x' : MS} {nc : Nat}
theorem hm64 (hw : Wf G) : hmask G (qJ G) < 64 := Nat.lt_of_lt_of_le (hmask_lt _) (pow6 hw)
theorem wet64 (hw : Wf G) : wet G < 64 := Nat.lt_of_lt_of_le (wet_lt hw) (pow6 hw)
theorem bal64 (hw : Wf G) : bal G < 64 := Nat.lt_of_le_of_lt Nat.and_le_left (wet64 hw)
theorem hq_bit (hw : Wf G) (j : Nat) : (hmask G (qJ G)).testBit j = qH G j := by
  rw [hmask_bit]
  rcases Nat.lt_or_ge j (qJ G) with h | h
  · rw [decide_eq_true h]; rfl
  · rw [hw.2.2.1 j h]; simp
theorem bal_bit (hw : Wf G) {j : Nat} (hj : j < 6) : (bal G).testBit j = Bq G j := by
  unfold bal Bq
  rw [w_not_bit _ (wet64 hw) _ (hm64 hw) j hj, hq_bit hw]
theorem Bq_lt (hw : Wf G) {j : Nat} (h : Bq G j = true) : j < qJ G := wet_j hw ((Bool.and_eq_true _ _).mp h).1
theorem Bq_nH {j : Nat} (h : Bq G j = true) : qH G j = false := by
  have := ((Bool.and_eq_true _ _).mp h).2
  cases e : qH G j with
  | false => rfl
  | true => rw [e] at this; exact Bool.noConfusion this
/-- where some joint is wet, one is held -/
theorem some_held (hw : Wf G) {j : Nat} (h : (wet G).testBit j = true) : ∃ i, i < qJ G ∧ qH G i = true := by
  refine Classical.byContradiction fun hno => ?_
  have h0 : ∀ i, qH G i = false := fun i => by
    cases e : qH G i with
    | false => rfl
    | true =>
      rcases Nat.lt_or_ge i (qJ G) with h1 | h1
      · exact absurd ⟨i, h1, e⟩ hno
      · rw [hw.2.2.1 i h1] at e; exact e.symm
  have := its_least (G := G) (t := 1) (T := fun _ => false) (fun _ _ _ => rfl) 6 (hmask G (qJ G)) (fun j hj => by rw [hq_bit hw, h0] at hj; exact hj) j h
  exact Bool.noConfusion this
theorem cn_bal (hw : Wf G) : cn (bal G) < 6 := by
  have h1 := (pl_0 _ (bal64 hw)).2.2
  rcases Nat.lt_or_ge (cn (bal G)) 6 with h | h
  · exact h
  · have hall := cn_6 _ (bal64 hw) (by omega)
    have h0 : Bq G 0 = true := by rw [← bal_bit hw (by omega)]; exact hall 0 (by omega)
    obtain ⟨i, hi, e⟩ := some_held hw ((Bool.and_eq_true _ _).mp h0).1
    have hJ := hw.1
    have := Bq_nH (G := G) (j := i) (by rw [← bal_bit hw (by omega)]; exact hall i (by omega))
    rw [e] at this; exact Bool.noConfusion this
theorem num_q (hw : Wf G) : Num (qm (bal G)) (Bq G) (cn (bal G)) := by
  have h6 := cn_bal hw
  have hJ := hw.1
  refine ⟨h6, fun k hk => ?_, fun a ha b hb e => ?_, fun r hr => ?_⟩
  · obtain ⟨h1, h2, -⟩ := qm_ok _ (bal64 hw) k (by omega) hk
    exact ⟨h1, by rw [← bal_bit hw h1]; exact h2⟩
  · have ea := (qm_ok _ (bal64 hw) a (by omega) ha).2.2
    have eb := (qm_ok _ (bal64 hw) b (by omega) hb).2.2
    rw [e] at ea; omega
  · have hr6 : r < 6 := by have := Bq_lt hw hr; omega
    have h2 : (bal G).testBit r = true := by rw [bal_bit hw hr6]; exact hr
    exact ⟨plm (bal G) r, pl_ok _ (bal64 hw) r hr6 h2⟩
def psq (G : GD) : List Nat := (dn (cn (bal G))).map (qm (bal G))
def Lo (G : GD) : Int := spec (Wq G) (fun _ => 1) (psq G) id
def Up (G : GD) (j : Nat) : Int := spec (Wq G) (fun p => bq G (p j)) (psq G) id
theorem mem_psq (hw : Wf G) {r : Nat} : r ∈ psq G ↔ Bq G r = true := by
  constructor
  · intro h
    obtain ⟨k, hk, rfl⟩ := List.mem_map.mp h
    exact ((num_q hw).2.1 k (mem_dn.mp hk)).2
  · intro h
    obtain ⟨k, hk, e⟩ := (num_q hw).2.2.2 r h
    exact List.mem_map.mpr ⟨k, mem_dn.mpr hk, e⟩
theorem Mk_Mt (hw : Wf G) (r : Nat) : Mk G (qN G) r = Mt (Wq G) (Bq G) (FF (bq G)) (psq G) id r := by
  unfold Mt
  cases h : Bq G r with
  | true => rw [if_pos ((mem_psq hw).mpr h)]; funext c; unfold Mk; rw [h]; rfl
  | false =>
    rw [if_neg (fun z => by rw [(mem_psq hw).mp z] at h; exact Bool.noConfusion h), if_neg Bool.noConfusion]
    funext c; unfold Mk; rw [h]; rfl
theorem x_Lo (hw : Wf G) : dl (R6.map (Mk G (qN G))) R6 = Lo G := by
  rw [show Mk G (qN G) = Mt (Wq G) (Bq G) (FF (bq G)) (psq G) id from funext (Mk_Mt hw)]
  exact cls_D (num_q hw).inv
theorem x_Up (hw : Wf G) {j : Nat} (hj : j < 6) : sgH j * dl (R6.map (Mk G (qN G))) (colH j) = Up G j := by
  rw [show Mk G (qN G) = Mt (Wq G) (Bq G) (FF (bq G)) (psq G) id from funext (Mk_Mt hw)]
  exact cls_H hj (num_q hw).inv
/-- what the water's numbers are -/
def Vals (G : GD) (x : MS) : Prop := gI x 51 = nI (wet G) ∧ gL x = Int64.ofInt (Lo G) ∧ (∀ j, j < 6 → gB x 69 j = Int64.ofInt (Up G j)) ∧ ∀ c, c < qN G → gB x 70 c = Int64.ofInt (lq G c * (Up G (qa G c) - Up G (qb G c)))
def Vq (nc : Nat) (x : MS) : Prop := ∀ G : GD, Wf G → qN G = nc → PX G x → Vals G x
theorem keeps_Vq : KeepsW Vq := by
  intro nc x x' ⟨a1, a4, b2, b3, b5, b6, b7, b8, aL, a51, b69, b70⟩ hV G hw hn hp
  have hp0 : PX G x := by
    unfold PX Pc at *
    rw [a1, a4, b2, b3, b5, b6, b7, b8] at hp; exact hp
  have := hV G hw hn hp0
  unfold Vals at *
  rw [a51, aL, b69, b70]; exact this
/-- what the water's reckoning leaves as it was -/
def FrX (x x' : MS) : Prop := (∀ k, k ≠ 51 → k ≠ 52 → k ≠ 53 → gI x' k = gI x k) ∧ (∀ a, gA x' a = gA x a) ∧ ∀ a, (a < 68 ∨ 70 < a ∧ a < 100 ∨ 106 ≤ a) → gB x' a = gB x a
theorem PX.fr (hp : PX G x) (h : FrX x x') : PX G x' := ⟨hp.1.frame (h.1 1 (by decide) (by decide) (by decide)) (h.1 4 (by decide) (by decide) (by decide)) (fun a _ => h.2.1 a), fun j hj => by rw [h.2.1]; exact hp.2 j hj⟩
theorem PX.unfr (hp : PX G x') (h : FrX x x') : PX G x := by
  unfold PX Pc at *
  rw [h.1 1 (by decide) (by decide) (by decide), h.1 4 (by decide) (by decide) (by decide), h.2.1 2, h.2.1 3, h.2.1 5, h.2.1 6, h.2.1 7, h.2.1 8] at hp; exact hp
theorem x_settle1 (hw : Wf G) (hp : PX G s) (hLo : 1 ≤ Lo G ∧ Lo G < 2 ^ 63) (hne : ¬ gI s 53 = gI s 50) : ∃ s', fX8_settle (qN G) s = some ((), s') ∧ FrX s s' ∧ gI s' 53 = gI s 50 ∧ Vals G s' := by
  have h12 := hw.2.1
  have p1 : PX G (sI s 53 (gI s 50)) := ⟨hp.1.frame rfl rfl (fun _ _ => rfl), hp.2⟩
  have p2 : PX G (sI (sI (sI s 53 (gI s 50)) 51 (nI (wet G))) 52 (nI (bal G))) := ⟨hp.1.frame rfl rfl (fun _ _ => rfl), hp.2⟩
  obtain ⟨s3, e3, b3, r3⟩ := x_writeRows hw p2 (bal64 hw) (fun j hj => bal_bit hw hj) rfl
  obtain ⟨s4, e4, i4, a4, g4, l4, u4⟩ := x_solveRows (nc := qN G) r3
  have p4 : Pc G s4 := (p2.1.sb b3).frame (i4 1) (i4 4) (fun a _ => a4 a)
  obtain ⟨s5, e5, b5, f5, -⟩ := flows_L2 hw (U := fun j => Int64.ofInt (sgH j * dl (R6.map (Mk G (qN G))) (colH j))) (qN G) 0 FU s4 (by omega) (by show qN G < 1000000; omega) p4 u4
  refine ⟨s5, ?_, ⟨?_, ?_, ?_⟩, ?_, ?_, ?_, ?_, ?_⟩
  · unfold fX8_settle
    rw [if_pos hne]
    try rw [bnd_k]
    try simp only [lets]
    show bnd (fX5_heldOnes (qN G) (sI s 53 (gI s 50))) _ = _
    rw [x_heldOnes hw p1.1]
    try rw [bnd_k]
    try simp only [lets]
    show bnd (fX5_reachedFrom (qN G) (nI (hmask G (qJ G))) 1 (sI s 53 (gI s 50))) _ = _
    rw [show (1 : Int32) = nI 1 from rfl, x_reached hw p1.1 (by omega) (hmask_lt _)]
    try rw [bnd_k]
    try simp only [lets]
    show bnd (fX8_writeRows (qN G) (sI (sI (sI s 53 (gI s 50)) 51 (nI (wet G))) 52 (nI (wet G) &&& (nI (hmask G (qJ G)) ^^^ (-1))))) _ = _
    rw [w_not _ (wet64 hw) _ (hm64 hw)]
    try rw [bnd_k]
    try simp only [lets]
    show bnd (fX8_writeRows (qN G) (sI (sI (sI s 53 (gI s 50)) 51 (nI (wet G))) 52 (nI (bal G)))) _ = _
    rw [e3]
    try rw [bnd_k]
    try simp only [lets]
    show bnd (fX8_solveRows (qN G) s3) _ = _
    rw [e4]
    try rw [bnd_k]
    try simp only [lets]
    show bnd (fX8_reckonFlows (qN G) s4) _ = _
    unfold fX8_reckonFlows
    rw [show (0 : Int32) = nI 0 from rfl, e5]; rfl
  · intro k h1 h2 h3
    rw [b5.1, i4, b3.1, gI_ne h2, gI_ne h1, gI_ne h3]
  · intro a; rw [b5.2.2.1, a4, b3.2.2.1]; rfl
  · intro a ha
    rw [b5.2.2.2 a (by omega), g4 a (by omega) (by omega), b3.2.2.2 a (by omega)]; rfl
  · rw [b5.1, i4, b3.1]; rfl
  · rw [b5.1, i4, b3.1]; rfl
  · rw [b5.2.1, l4, x_Lo hw, if_neg]
    rw [Int64.lt_iff_toInt_lt, Int64.toInt_ofInt_of_le (by omega) hLo.2]
    show ¬ Lo G < 1
    omega
  · intro j hj
    rw [b5.2.2.2 69 (by omega), u4 j hj, x_Up hw hj]
  · intro c hc
    obtain ⟨ha, hb, -⟩ := hw.2.2.2.2 c hc
    have hJ := hw.1
    rw [f5 c (by omega) hc, x_Up hw (by omega), x_Up hw (by omega), ← Int64.ofInt_sub, ← Int64.ofInt_mul]
end SETTLE
