/-! judging, casting, losing a core -/
section OPS3
variable {V : Nat → MS → Prop} {nc c : Nat} {x m : MS}
def judgV (k u : Int32) : Int32 := if k < 3 then 100 + k else u
def judgS (k : Int32) (x : MS) : MS := lv_ x (if k < 3 then 5 else 6)
theorem x_judge {k : Nat} (hk : gA x 7 c = nI k) (h4 : k ≤ 4) (hc : c < nc) : vX_judgement nc c x = some (judgV (gA x 7 c) (gA x 9 c), judgS (gA x 7 c) x) := by
  have j2 : fX2_judgement nc c x = some (100 + nI k, lv_ x 5) := by
    unfold fX2_judgement; rw [x_leave]
    show (if _ then _ else _) = _
    rw [if_pos hc, x_kind (x := lv_ x 5) (k := k) hk h4]; rfl
  have j3 : fX3_judgement nc c x = some (gA x 9 c, lv_ x 6) := by
    unfold fX3_judgement; rw [x_leave]
    show (if _ then _ else _) = _
    rw [if_pos hc]; rfl
  unfold vX_judgement; rw [j2, j3, hk]
  rcases le4 h4 with rfl | rfl | rfl | rfl | rfl <;> rfl
theorem m_judge {k : Nat} (hm : gI m 4 = nI nc) (h12 : nc ≤ 12) (hk : gA m 7 c = nI k) (h4 : k ≤ 4) (hc : c < nc) : fX12_judge (nI c) m = some (judgV (gA m 7 c) (gA m 9 c), judgS (gA m 7 c) m) := by
  have hr : ¬ (nI c < 0 ∨ 12 ≤ (nI c).toNatClampNeg) := inR (by omega) (by decide)
  have j37 : ∀ t b, fX12_judge_J37 (nI c) t b m = if t = 0 then some (100 + gA m 7 c, lv_ m b) else some (gA m 9 c, lv_ m b) := by
    intro t b
    unfold fX12_judge_J37; rw [m_traced]
    show (if _ then _ else _) = _
    rw [if_pos hr, if_pos hr, nI_clamp (by omega)]; rfl
  unfold fX12_judge fX12_judge_J25; rw [m_noCrack_in hm (by omega) hc]
  show (if _ then _ else _) = _
  rw [if_pos hr, nI_clamp (by omega), j37, j37, j37, j37, hk]
  rcases le4 h4 with rfl | rfl | rfl | rfl | rfl <;> rfl
theorem op_judge (hV : KeepsW V) : ∀ (y1 : Int32), OpI (RelV V) (fun nc σ => fX11_judge nc y1 σ) (fun σ => fX12_judge y1 σ) := by
  intro y1 j nc x m hj hR
  obtain ⟨J, hJ, hC, hS, hK, hO, hW⟩ := id hR
  obtain ⟨h12, hx, hm, hh⟩ := hC
  rcases ixc y1 (n := nc) (by omega) with ho | ⟨c, hc, rfl⟩
  · refine ⟨-1, x, m, ?_, ?_, hR.next⟩
    · show fX11_judge nc y1 x = _
      unfold fX11_judge; rw [x_hasCrack_out hx ho]; rfl
    · show fX12_judge y1 m = _
      unfold fX12_judge; rw [m_noCrack_out hm (by omega) ho]; rfl
  · obtain ⟨⟨e5, e6, e7, e8, e9, e10⟩, a, b, k, w0, u, s, q1, q2, q3, q4, q5, q6, q7, q8, z5, z6, z7, z8, z9, z10⟩ := hh c hc
    refine ⟨_, judgS (gA x 7 c) x, _, ?_, m_judge hm h12 z7 q4 hc, ?_⟩
    · show fX11_judge nc (nI c) x = _
      unfold fX11_judge; rw [x_hasCrack_in hx (by omega) hc]
      show (if _ then _ else _) = _
      rw [if_pos (inR (by omega) (by decide)), nI_clamp (by omega), if_pos hc, if_pos hc, x_judge (e7.trans z7) q4 hc, e7, e9]; rfl
    · rw [e7]
      unfold judgS lv_
      rw [hS.2.2.2]; exact hR.trace hV
theorem RelV.fault (hV : KeepsW V) {j : Nat} {v : Int32} (h : RelV V j nc x m) : RelV V (j + 1) nc (sI x 0 v) (sI m 0 v) := by
  obtain ⟨J, hJ, hC, hS, hK, hO, hW⟩ := h
  exact ⟨J, hJ, hC, ⟨hS.1, hS.2.1.imp fun _ z => ⟨by omega, z.2⟩, rfl, hS.2.2.2⟩, hK.next, hO, hW.keep hV ⟨rfl, rfl, rfl, rfl, rfl, rfl, rfl, rfl, rfl, rfl, rfl, rfl⟩ rfl rfl⟩
/-- is a crack of kind k castable to kind y -/
def asV (y k : Nat) : Bool := y = 0 || y = k || (y = 1 && 3 ≤ k) || (y = 3 && k = 4)
theorem x_as {y k : Nat} (hk : gA x 7 c = nI k) (h4 : k ≤ 4) (hy : y ≤ 4) (hc : c < nc) : fX11_isOfKind nc c (nI y) x = some (if asV y k then 1 else 0, x) := by
  unfold fX11_isOfKind; rw [hk, if_pos hc, if_pos hc, if_pos hc, if_pos hc]
  rcases le4 h4 with rfl | rfl | rfl | rfl | rfl <;> rcases le4 hy with rfl | rfl | rfl | rfl | rfl <;> rfl
theorem op_as (hV : KeepsW V) : ∀ (y1 y2 : Int32), OpI (RelV V) (fun nc σ => fX11_as nc y1 y2 σ) (fun σ => fX12_as y1 y2 σ) := by
  intro y1 y2 j nc x m hj hR
  obtain ⟨J, hJ, hC, hS, hK, hO, hW⟩ := id hR
  obtain ⟨h12, hx, hm, hh⟩ := hC
  have hx' : gI (sI x 0 0) 4 = nI nc := hx
  rcases ixc y1 (n := nc) (by omega) with ho | ⟨c, hc, rfl⟩
  · refine ⟨-1, sI x 0 0, sI m 0 0, ?_, ?_, hR.fault hV⟩
    · show fX11_as nc y1 y2 x = _
      unfold fX11_as
      show bnd (fX5_hasCrack nc y1 (sI x 0 0)) _ = _
      rw [x_hasCrack_out hx' ho]; rfl
    · show fX12_as y1 y2 m = _
      unfold fX12_as; rw [m_noCrack_out hm (by omega) ho]; rfl
  · rcases am01 y2 0 4 with ⟨ha, -⟩ | ⟨ha, h1, h2⟩
    · refine ⟨-2, sI x 0 0, sI m 0 0, ?_, ?_, hR.fault hV⟩
      · show fX11_as nc (nI c) y2 x = _
        unfold fX11_as
        show bnd (fX5_hasCrack nc (nI c) (sI x 0 0)) _ = _
        rw [x_hasCrack_in hx' (by omega) hc, x_isKind, ha]; rfl
      · show fX12_as (nI c) y2 m = _
        unfold fX12_as; rw [m_noCrack_in hm (by omega) hc, ha]; rfl
    · obtain ⟨⟨e5, e6, e7, e8, e9, e10⟩, a, b, k, w0, u, s, q1, q2, q3, q4, q5, q6, q7, q8, z5, z6, z7, z8, z9, z10⟩ := hh c hc
      obtain ⟨y, hy, rfl⟩ := range_of (n := 4) (by decide) h1 h2
      have hr : ¬ (nI c < 0 ∨ 12 ≤ (nI c).toNatClampNeg) := inR (by omega) (by decide)
      have hX : fX11_as nc (nI c) (nI y) x = if asV y k then some (1, sI x 0 0) else some (-12, sI x 0 2) := by
        unfold fX11_as
        show bnd (fX5_hasCrack nc (nI c) (sI x 0 0)) _ = _
        rw [x_hasCrack_in hx' (by omega) hc, x_isKind, ha]
        show (if _ then _ else _) = _
        rw [if_pos hr, nI_clamp (by omega), if_pos hc, x_as (x := sI x 0 0) (k := k) (e7.trans z7) q4 hy hc]
        cases asV y k
        · show some (_, sI (sI x 0 0) 0 2) = _
          rw [sI2]; rfl
        · rfl
      have hM : fX12_as (nI c) (nI y) m = if asV y k then some (1, sI m 0 0) else some (-12, sI m 0 2) := by
        unfold fX12_as; rw [m_noCrack_in hm (by omega) hc, ha]
        show (if _ then _ else _) = _
        rw [if_pos hr, nI_clamp (by omega), z7]
        rcases le4 q4 with rfl | rfl | rfl | rfl | rfl <;> rcases le4 hy with rfl | rfl | rfl | rfl | rfl <;> rfl
      cases hb : asV y k
      · rw [hb] at hX hM
        exact ⟨-12, sI x 0 2, sI m 0 2, hX, hM, hR.fault hV⟩
      · rw [hb] at hX hM
        exact ⟨1, sI x 0 0, sI m 0 0, hX, hM, hR.fault hV⟩
theorem lt3 {k : Nat} (h : k < 4) : ¬ (3 : Int32) < nI k := by
  have e3 : (3 : Int32).toInt = 3 := by decide
  rw [Int32.lt_iff_toInt_lt, nI_tl (by omega), e3]; omega
theorem m_noCore (y : Int32) : fX12_noCore y = bnd (fX12_among y 0 3) (fun r u => if ¬ r = 0 then some (0, ()) else some (1, ())) := rfl
theorem m_noCore_in {k : Nat} (h : k < 4) : fX12_noCore (nI k) = some (0, ()) := by
  rw [m_noCore, among_in (nI_pos (by omega)) (lt3 h)]; rfl
theorem m_noCore_out {y : Int32} (h : y < 0 ∨ nI 4 ≤ y) : fX12_noCore y = some (1, ()) := by
  have e3 : (3 : Int32).toInt = 3 := by decide
  have e4 : (nI 4).toInt = 4 := by decide
  rw [m_noCore, among_out (h.imp id fun h => by rw [Int32.le_iff_toInt_le] at h; rw [Int32.lt_iff_toInt_lt]; omega)]; rfl
theorem x_isCore_in {k : Nat} (h : k < 4) : fX11_isCore (nI k) = some (1, ()) := by
  rw [x_isCore, among_in (nI_pos (by omega)) (lt3 h)]
theorem x_isCore_out {y : Int32} (h : y < 0 ∨ nI 4 ≤ y) : fX11_isCore y = some (0, ()) := by
  have e3 : (3 : Int32).toInt = 3 := by decide
  have e4 : (nI 4).toInt = 4 := by decide
  rw [x_isCore, among_out (h.imp id fun h => by rw [Int32.le_iff_toInt_le] at h; rw [Int32.lt_iff_toInt_lt]; omega)]
theorem op_lose (hV : KeepsW V) : ∀ (y1 : Int32), OpI (RelV V) (fun nc σ => fX11_lose nc y1 σ) (fun σ => fX12_lose y1 σ) := by
  intro y1 j nc x m hj hR
  obtain ⟨J, hJ, hC, hS, hK, hO, hW⟩ := id hR
  rcases ixc y1 (n := 4) (by decide) with ho | ⟨k, hk, rfl⟩
  · refine ⟨-1, x, m, ?_, ?_, hR.next⟩
    · show fX11_lose nc y1 x = _
      unfold fX11_lose; rw [x_isCore_out ho]; rfl
    · show fX12_lose y1 m = _
      unfold fX12_lose; rw [m_noCore_out ho]; rfl
  · have hr : ¬ (nI k < 0 ∨ 4 ≤ (nI k).toNatClampNeg) := inR hk (by decide)
    have hcl : (nI k).toNatClampNeg = k := nI_clamp (by omega)
    have hO' : ∀ x', gA x' 40 = upd (gA x 40) k 0 → gA x' 41 = gA x 41 → gA x' 42 = gA x 42 → (∀ i, gB x' i = gB x i) → RO x' (sA m 34 k (-1)) := by
      intro x' p1 p2 p3 p4 k' hk'
      show (gA x' 40 k' = 0 ∧ upd (gA m 34) k (-1) k' = -1) ∨ (gA x' 40 k' = 1 ∧ ∃ n l : Nat, n ≤ 24 ∧ l ≤ 3 ∧ gA x' 42 k' = nI n ∧ upd (gA m 34) k (-1) k' = nI n ∧ gA x' 41 k' = nI l ∧ gA m 35 k' = nI l ∧ ∀ i, i < n → gB x' (90 + k') i = gB m 36 (24 * k' + i))
      rw [p1, p2, p3]
      by_cases h : k' = k
      · subst h; rw [upd_s, upd_s]; exact Or.inl ⟨rfl, rfl⟩
      · rw [upd_n h, upd_n h, p4]; exact hO k' hk'
    rcases hO k hk with ⟨h1, h2⟩ | ⟨h1, n, l, hn, hl, h3, h4, h5⟩
    · refine ⟨0, x, sA m 34 k (-1), ?_, ?_, J, hJ, hC, hS.next, hK.next, hO' x ?_ rfl rfl (fun _ => rfl), hW.next⟩
      · show fX11_lose nc (nI k) x = _
        unfold fX11_lose; rw [x_isCore_in hk]
        show (if _ then _ else _) = _
        rw [if_pos hr, hcl, if_pos hk, if_pos hk, if_neg (fun z => z h1)]
      · show fX12_lose (nI k) m = _
        unfold fX12_lose; rw [m_noCore_in hk]
        show (if _ then _ else _) = _
        rw [if_pos hr, hcl, h2, if_neg (by decide)]
        unfold fX12_lose_J23
        rw [if_pos hr, hcl]; rfl
      · funext i
        by_cases h : i = k
        · subst h; rw [upd_s]; exact h1
        · rw [upd_n h]
    · refine ⟨1, sA x 40 k 0, sA m 34 k (-1), ?_, ?_, J, hJ, hC, hS.next, hK.keep rfl rfl rfl rfl rfl (fun a _ => gA_ne (by omega)) rfl rfl rfl rfl, hO' _ rfl rfl rfl (fun _ => rfl), hW.keep hV ⟨rfl, rfl, rfl, rfl, rfl, rfl, rfl, rfl, rfl, rfl, rfl, rfl⟩ rfl rfl⟩
      · show fX11_lose nc (nI k) x = _
        unfold fX11_lose; rw [x_isCore_in hk]
        show (if _ then _ else _) = _
        rw [if_pos hr, hcl, if_pos hk, if_pos hk, if_pos (by rw [h1]; decide), if_pos (inR' hk (by decide)), if_pos hk, if_pos hk]; rfl
      · show fX12_lose (nI k) m = _
        unfold fX12_lose; rw [m_noCore_in hk]
        show (if _ then _ else _) = _
        rw [if_pos hr, hcl, h4, if_pos (nI_pos' (by omega))]
        unfold fX12_lose_J23
        rw [if_pos hr, hcl]; rfl
end OPS3
