/-! operations that leave the water as it is, or only say that it must be reckoned anew -/
/-- all that the water is reckoned from, and what was reckoned, is as it was -/
def SameW (x x' : MS) : Prop := gI x' 1 = gI x 1 ∧ gI x' 4 = gI x 4 ∧ gA x' 2 = gA x 2 ∧ gA x' 3 = gA x 3 ∧ gA x' 5 = gA x 5 ∧ gA x' 6 = gA x 6 ∧ gA x' 7 = gA x 7 ∧ gA x' 8 = gA x 8 ∧ gL x' = gL x ∧ gI x' 51 = gI x 51 ∧ gB x' 69 = gB x 69 ∧ gB x' 70 = gB x 70
def KeepsW (V : Nat → MS → Prop) : Prop := ∀ (nc : Nat) (x x' : MS), SameW x x' → V nc x → V nc x'
theorem RW.keep {V : Nat → MS → Prop} (hV : KeepsW V) {j nc : Nat} {x x' : MS} (h : RW (V nc) j x) (hs : SameW x x') (h1 : gI x' 50 = gI x 50) (h2 : gI x' 53 = gI x 53) : RW (V nc) (j + 1) x' := by
  obtain ⟨c, hc, e, r⟩ := h
  refine ⟨c, by omega, by rw [h1]; exact e, ?_⟩
  rw [h2]
  exact r.imp id fun ⟨d, a, b, z⟩ => ⟨d, a, b, fun h => hV nc x x' hs (z h)⟩
section OPS1
variable {V : Nat → MS → Prop}
theorem op_rate (hV : KeepsW V) : ∀ (y1 : Int32), OpI (RelV V) (fun nc σ => fX11_rate nc y1 σ) (fun σ => fX12_rate y1 σ) := by
  intro y1 j nc x m hj hR
  rcases am01 y1 1 100 with ⟨ha, -⟩ | ⟨ha, h1, h2⟩
  · refine ⟨-2, x, m, ?_, ?_, hR.next⟩
    · show fX11_rate nc y1 x = _
      unfold fX11_rate; rw [within_eq, ha]; rfl
    · show fX12_rate y1 m = _
      unfold fX12_rate; rw [ha]; rfl
  · obtain ⟨J, hJ, hC, hS, hK, hO, hW⟩ := hR
    obtain ⟨r, hr1, hr2, rfl⟩ := range_of1 (n := 100) (by decide) h1 h2
    obtain ⟨⟨r0, -, -, e1, e2⟩, hst, hf, ht⟩ := hS
    refine ⟨nI r0, sI x 11 (nI r), sI m 11 (nI r), ?_, ?_, J, hJ, hC, ⟨⟨r, hr1, hr2, rfl, rfl⟩, hst.imp fun _ z => ⟨by omega, z.2⟩, hf, ht⟩, hK.next, hO, hW.keep hV ⟨rfl, rfl, rfl, rfl, rfl, rfl, rfl, rfl, rfl, rfl, rfl, rfl⟩ rfl rfl⟩
    · show fX11_rate nc (nI r) x = _
      unfold fX11_rate; rw [within_eq, ha, ← e1]; rfl
    · show fX12_rate (nI r) m = _
      unfold fX12_rate; rw [ha, ← e2]; rfl
theorem op_trace : OpI (RelV V) (fun nc σ => fX11_trace nc σ) (fun σ => fX12_trace σ) := by
  intro j nc x m hj hR
  obtain ⟨J, hJ, hC, hS, hK, hO, hW⟩ := id hR
  exact ⟨gI m 38, x, m, by rw [← hS.2.2.2]; rfl, rfl, hR.next⟩
theorem op_fault : OpI (RelV V) (fun nc σ => fX11_fault nc σ) (fun σ => fX12_fault σ) := by
  intro j nc x m hj hR
  obtain ⟨J, hJ, hC, hS, hK, hO, hW⟩ := id hR
  exact ⟨gI m 0, x, m, by rw [← hS.2.2.1]; rfl, rfl, hR.next⟩
theorem upd_s {f : Nat → Int32} {k : Nat} {v : Int32} : upd f k v k = v := if_pos rfl
theorem upd_n {f : Nat → Int32} {k i : Nat} {v : Int32} (h : i ≠ k) : upd f k v i = f i := if_neg h
theorem nar1 : vp_nar .boolean 1 = 1 := rfl
theorem nar0 : vp_nar .boolean 0 = 0 := rfl
theorem op_joint : OpI (RelV V) (fun nc σ => fX11_joint nc σ) (fun σ => fX12_joint σ) := by
  intro j nc x m hj hR
  obtain ⟨J, hJ, hC, hS, hK, hO, hW⟩ := id hR
  obtain ⟨hJ6, hx, hm, hh, hh0⟩ := hJ
  rcases Nat.lt_or_ge J 6 with hlt | hge
  · have c1 : ¬ gI m 1 = 6 := by rw [hm]; exact fun h => absurd ((nI_eq (b := 6) (by omega) (by decide)).mp h) (by omega)
    have c2 : ¬ (gI m 1 < 0 ∨ 6 ≤ (gI m 1).toNatClampNeg) := by rw [hm]; exact inR hlt (by decide)
    have c3 : gI x 1 < 6 := by rw [hx]; exact nI_lt (b := 6) hlt (by decide)
    have e0 : (nI J + 1) - 1 = nI J := by rw [nI_1]; exact nI_pred J
    have em : (gI m 1).toNatClampNeg = J := by rw [hm]; exact nI_clamp (by omega)
    refine ⟨nI J, sI (sI x 50 (gI x 50 + 1)) 1 (gI x 1 + 1), sI (sA m 2 J 0) 1 (gI m 1 + 1), ?_, ?_, J + 1, ⟨by omega, ?_, ?_, ?_, ?_⟩, ?_, hS.next, hK.next, hO, hW.step hj rfl rfl⟩
    · show fX11_joint nc x = _
      unfold fX11_joint fX5_addJoint
      rw [if_pos c3]
      exact pr1 (s := sI (sI x 50 (gI x 50 + 1)) 1 (gI x 1 + 1)) (show (gI x 1 + 1) - 1 = nI J by rw [hx]; exact e0)
    · show fX12_joint m = _
      unfold fX12_joint
      rw [if_pos c1, if_pos c2, em]
      exact pr1 (s := sI (sA m 2 J 0) 1 (gI m 1 + 1)) (show (gI m 1 + 1) - 1 = nI J by rw [hm]; exact e0)
    · show gI x 1 + 1 = _
      rw [hx]; exact nI_1 J
    · show gI m 1 + 1 = _
      rw [hm]; exact nI_1 J
    · intro i hi
      show gA x 2 i = upd (gA m 2) J 0 i ∧ (upd (gA m 2) J 0 i = 0 ∨ (upd (gA m 2) J 0 i = 1 ∧ ∃ h : Nat, h ≤ 100 ∧ gA x 3 i = nI h ∧ gA m 3 i = nI h))
      by_cases h : i = J
      · subst h
        rw [upd_s]; exact ⟨hh0 _ (Nat.le_refl _), Or.inl rfl⟩
      · rw [upd_n h]; exact hh i (by omega)
    · intro i hi; exact hh0 i (by omega)
    · obtain ⟨n1, n2, n3, n4⟩ := hC
      exact ⟨n1, n2, n3, fun c hc => ⟨(n4 c hc).1, by obtain ⟨a, b, k, w, u, s, q1, q2, q3⟩ := (n4 c hc).2; exact ⟨a, b, k, w, u, s, by omega, by omega, q3⟩⟩⟩
  · have hJe : J = 6 := by omega
    subst hJe
    refine ⟨-4, x, m, ?_, ?_, hR.next⟩
    · show fX11_joint nc x = _
      unfold fX11_joint; rw [if_neg (by rw [hx]; decide)]
    · show fX12_joint m = _
      unfold fX12_joint; rw [if_neg (by rw [hm]; decide)]
theorem x_setHeld {nc i : Nat} {x : MS} {b h : Int32} (hi : i < 6) : fX5_setHeld nc (nI i) b h x = some ((), sI (sA (sA x 2 i (vp_nar .boolean b)) 3 i h) 50 (gI x 50 + 1)) := by
  unfold fX5_setHeld
  rw [if_pos (inR hi (by decide)), nI_clamp (by omega)]
  show (if _ then _ else _) = _
  rw [if_pos (inR' hi (by decide))]; rfl
theorem op_hold : ∀ (y1 y2 : Int32), OpI (RelV V) (fun nc σ => fX11_hold nc y1 y2 σ) (fun σ => fX12_hold y1 y2 σ) := by
  intro y1 y2 j nc x m hj hR
  obtain ⟨J, hJ, hC, hS, hK, hO, hW⟩ := id hR
  obtain ⟨hJ6, hx, hm, hh, hh0⟩ := hJ
  rcases ixc y1 (n := J) (by omega) with ho | ⟨i, hi, rfl⟩
  · refine ⟨-1, x, m, ?_, ?_, hR.next⟩
    · show fX11_hold nc y1 y2 x = _
      unfold fX11_hold; rw [x_hasJoint_out hx ho]; rfl
    · show fX12_hold y1 y2 m = _
      unfold fX12_hold; rw [m_noJoint_out hm (by omega) ho]; rfl
  · rcases am01 y2 0 100 with ⟨ha, -⟩ | ⟨ha, h1, h2⟩
    · refine ⟨-2, x, m, ?_, ?_, hR.next⟩
      · show fX11_hold nc (nI i) y2 x = _
        unfold fX11_hold; rw [x_hasJoint_in hx (by omega) hi, within_eq, ha]; rfl
      · show fX12_hold (nI i) y2 m = _
        unfold fX12_hold; rw [m_noJoint_in hm (by omega) hi, ha]; rfl
    · obtain ⟨h, hh100, rfl⟩ := range_of (n := 100) (by decide) h1 h2
      refine ⟨1, sI (sA (sA x 2 i 1) 3 i (nI h)) 50 (gI x 50 + 1), sA (sA m 2 i 1) 3 i (nI h), ?_, ?_, J, ⟨hJ6, hx, hm, ?_, ?_⟩, hC, hS.next, hK.keep rfl rfl rfl rfl rfl (fun a _ => by show gA (sA (sA x 2 i 1) 3 i (nI h)) a = gA x a; rw [gA_ne (by omega), gA_ne (by omega)]) rfl rfl rfl rfl, hO, hW.step hj rfl rfl⟩
      · show fX11_hold nc (nI i) (nI h) x = _
        unfold fX11_hold; rw [x_hasJoint_in hx (by omega) hi, within_eq, ha]
        show bnd (fX5_setHeld nc (nI i) 1 (nI h) x) _ = _
        rw [x_setHeld (by omega)]; rfl
      · show fX12_hold (nI i) (nI h) m = _
        unfold fX12_hold; rw [m_noJoint_in hm (by omega) hi, ha]
        show (if _ then _ else _) = _
        rw [if_pos (inR (by omega) (by decide)), nI_clamp (by omega)]
        show (if _ then _ else _) = _
        rw [if_pos (inR' (by omega) (by decide))]; rfl
      · intro i' hi'
        show upd (gA x 2) i 1 i' = upd (gA m 2) i 1 i' ∧ (upd (gA m 2) i 1 i' = 0 ∨ (upd (gA m 2) i 1 i' = 1 ∧ ∃ h' : Nat, h' ≤ 100 ∧ upd (gA x 3) i (nI h) i' = nI h' ∧ upd (gA m 3) i (nI h) i' = nI h'))
        by_cases he : i' = i
        · subst he
          rw [upd_s, upd_s, upd_s, upd_s]; exact ⟨rfl, Or.inr ⟨rfl, h, hh100, rfl, rfl⟩⟩
        · rw [upd_n he, upd_n he, upd_n he, upd_n he]; exact hh i' hi'
      · intro i' hi'
        show upd (gA x 2) i 1 i' = 0
        rw [upd_n (by omega)]; exact hh0 i' hi'
theorem op_free : ∀ (y1 : Int32), OpI (RelV V) (fun nc σ => fX11_free nc y1 σ) (fun σ => fX12_free y1 σ) := by
  intro y1 j nc x m hj hR
  obtain ⟨J, hJ, hC, hS, hK, hO, hW⟩ := id hR
  obtain ⟨hJ6, hx, hm, hh, hh0⟩ := hJ
  rcases ixc y1 (n := J) (by omega) with ho | ⟨i, hi, rfl⟩
  · refine ⟨-1, x, m, ?_, ?_, hR.next⟩
    · show fX11_free nc y1 x = _
      unfold fX11_free; rw [x_hasJoint_out hx ho]; rfl
    · show fX12_free y1 m = _
      unfold fX12_free; rw [m_noJoint_out hm (by omega) ho]; rfl
  · have hJ' : ∀ x', gI x' 1 = gI x 1 → gA x' 2 = upd (gA x 2) i 0 → (∀ i', i' ≠ i → gA x' 3 i' = gA x 3 i') → RJ J x' (sA m 2 i 0) := by
      intro x' q1 q2 q3
      refine ⟨hJ6, by rw [q1]; exact hx, hm, ?_, ?_⟩
      · intro i' hi'
        rw [q2]
        show upd (gA x 2) i 0 i' = upd (gA m 2) i 0 i' ∧ (upd (gA m 2) i 0 i' = 0 ∨ (upd (gA m 2) i 0 i' = 1 ∧ ∃ h' : Nat, h' ≤ 100 ∧ gA x' 3 i' = nI h' ∧ gA m 3 i' = nI h'))
        by_cases he : i' = i
        · subst he
          rw [upd_s, upd_s]; exact ⟨rfl, Or.inl rfl⟩
        · rw [upd_n he, upd_n he, q3 i' he]; exact hh i' hi'
      · intro i' hi'
        rw [q2, upd_n (by omega)]; exact hh0 i' hi'
    rcases (hh i hi) with ⟨he, hz | ⟨h1, -⟩⟩
    · have hx0 : gA x 2 i = 0 := he.trans hz
      refine ⟨0, x, sA m 2 i 0, ?_, ?_, J, hJ' x rfl ?_ (fun _ _ => rfl), hC, hS.next, hK.next, hO, hW.next⟩
      · show fX11_free nc (nI i) x = _
        unfold fX11_free; rw [x_hasJoint_in hx (by omega) hi]
        show (if _ then _ else _) = _
        rw [if_pos (inR (by omega) (by decide)), nI_clamp (by omega), if_neg (fun z => z hx0)]
      · show fX12_free (nI i) m = _
        unfold fX12_free; rw [m_noJoint_in hm (by omega) hi]
        show (if _ then _ else _) = _
        rw [if_pos (inR (by omega) (by decide)), nI_clamp (by omega), if_pos hz]
        unfold fX12_free_J24
        rw [if_pos (inR (by omega) (by decide)), nI_clamp (by omega)]; rfl
      · funext i'
        by_cases h' : i' = i
        · subst h'; rw [upd_s]; exact hx0
        · rw [upd_n h']
    · have hx1 : gA x 2 i = 1 := he.trans h1
      refine ⟨1, sI (sA (sA x 2 i 0) 3 i 0) 50 (gI x 50 + 1), sA m 2 i 0, ?_, ?_, J, hJ' _ rfl rfl (fun i' h' => upd_n h'), hC, hS.next, hK.keep rfl rfl rfl rfl rfl (fun a _ => by show gA (sA (sA x 2 i 0) 3 i 0) a = gA x a; rw [gA_ne (by omega), gA_ne (by omega)]) rfl rfl rfl rfl, hO, hW.step hj rfl rfl⟩
      · show fX11_free nc (nI i) x = _
        unfold fX11_free; rw [x_hasJoint_in hx (by omega) hi]
        show (if _ then _ else _) = _
        rw [if_pos (inR (by omega) (by decide)), nI_clamp (by omega), if_pos (by rw [hx1]; decide), x_setHeld (by omega)]; rfl
      · show fX12_free (nI i) m = _
        unfold fX12_free; rw [m_noJoint_in hm (by omega) hi]
        show (if _ then _ else _) = _
        rw [if_pos (inR (by omega) (by decide)), nI_clamp (by omega), if_neg (by rw [h1]; decide)]
        unfold fX12_free_J24
        rw [if_pos (inR (by omega) (by decide)), nI_clamp (by omega)]; rfl
end OPS1
