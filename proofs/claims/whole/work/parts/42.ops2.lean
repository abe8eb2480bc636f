/-! operations on one crack -/
section OPS2
variable {V : Nat → MS → Prop} {nc c : Nat} {x m : MS}
theorem x_setWidth {w : Int32} (h12 : nc ≤ 12) (hc : c < nc) : fX5_setWidth nc (nI c) w x = some ((), sI (sA (sA x 8 c w) 10 c 0) 50 (gI x 50 + 1)) := by
  unfold fX5_setWidth
  rw [if_pos (inR (by omega) (by decide)), nI_clamp (by omega), if_pos hc, if_pos hc]
  show (if _ then _ else _) = _
  rw [if_pos (inR' (by omega) (by decide)), if_pos hc, if_pos hc]; rfl
theorem op_width : ∀ (y1 y2 : Int32), OpI (RelV V) (fun nc σ => fX11_width nc y1 y2 σ) (fun σ => fX12_width y1 y2 σ) := by
  intro y1 y2 j nc x m hj hR
  obtain ⟨J, hJ, hC, hS, hK, hO, hW⟩ := id hR
  obtain ⟨h12, hx, hm, hh⟩ := hC
  rcases ixc y1 (n := nc) (by omega) with ho | ⟨c, hc, rfl⟩
  · refine ⟨-1, x, m, ?_, ?_, hR.next⟩
    · show fX11_width nc y1 y2 x = _
      unfold fX11_width; rw [x_hasCrack_out hx ho]; rfl
    · show fX12_width y1 y2 m = _
      unfold fX12_width; rw [m_noCrack_out hm (by omega) ho]; rfl
  · rcases am01 y2 0 12 with ⟨ha, -⟩ | ⟨ha, h1, h2⟩
    · refine ⟨-2, x, m, ?_, ?_, hR.next⟩
      · show fX11_width nc (nI c) y2 x = _
        unfold fX11_width; rw [x_hasCrack_in hx (by omega) hc, within_eq, ha]; rfl
      · show fX12_width (nI c) y2 m = _
        unfold fX12_width; rw [m_noCrack_in hm (by omega) hc, ha]; rfl
    · obtain ⟨w, hw, rfl⟩ := range_of (n := 12) (by decide) h1 h2
      refine ⟨gA m 8 c, sI (sA (sA x 8 c (nI w)) 10 c 0) 50 (gI x 50 + 1), sA (sA m 8 c (nI w)) 10 c 0, ?_, ?_, J, hJ, ⟨h12, hx, hm, ?_⟩, hS.next, hK.keep rfl rfl rfl rfl rfl (fun a _ => by show gA (sA (sA x 8 c (nI w)) 10 c 0) a = gA x a; rw [gA_ne (by omega), gA_ne (by omega)]) rfl rfl rfl rfl, hO, hW.step hj rfl rfl⟩
      · show fX11_width nc (nI c) (nI w) x = _
        unfold fX11_width; rw [x_hasCrack_in hx (by omega) hc, within_eq, ha]
        show (if _ then _ else _) = _
        rw [if_pos (inR (by omega) (by decide)), nI_clamp (by omega), if_pos hc, if_pos hc, x_setWidth h12 hc, ← (hh c hc).1.2.2.2.1]; rfl
      · show fX12_width (nI c) (nI w) m = _
        unfold fX12_width; rw [m_noCrack_in hm (by omega) hc, ha]
        show (if _ then _ else _) = _
        rw [if_pos (inR (by omega) (by decide)), if_pos (inR (by omega) (by decide)), nI_clamp (by omega)]
        show (if _ then _ else _) = _
        rw [if_pos (inR' (by omega) (by decide))]; rfl
      · intro c' hc'
        show (gA x 5 c' = gA m 5 c' ∧ gA x 6 c' = gA m 6 c' ∧ gA x 7 c' = gA m 7 c' ∧ upd (gA x 8) c (nI w) c' = upd (gA m 8) c (nI w) c' ∧ gA x 9 c' = gA m 9 c' ∧ upd (gA x 10) c 0 c' = upd (gA m 10) c 0 c') ∧ ∃ a b k w' u s : Nat, a < J ∧ b < J ∧ a ≠ b ∧ k ≤ 4 ∧ w' ≤ 12 ∧ 1 ≤ u ∧ u ≤ 12 ∧ s ≤ 999 ∧ gA m 5 c' = nI a ∧ gA m 6 c' = nI b ∧ gA m 7 c' = nI k ∧ upd (gA m 8) c (nI w) c' = nI w' ∧ gA m 9 c' = nI u ∧ upd (gA m 10) c 0 c' = nI s
        obtain ⟨⟨e5, e6, e7, e8, e9, e10⟩, a, b, k, w0, u, s, q1, q2, q3, q4, q5, q6, q7, q8, z5, z6, z7, z8, z9, z10⟩ := hh c' hc'
        by_cases he : c' = c
        · subst he
          rw [upd_s, upd_s, upd_s, upd_s]
          exact ⟨⟨e5, e6, e7, rfl, e9, rfl⟩, a, b, k, w, u, 0, q1, q2, q3, q4, hw, q6, q7, by omega, z5, z6, z7, rfl, z9, rfl⟩
        · rw [upd_n he, upd_n he, upd_n he, upd_n he]
          exact ⟨⟨e5, e6, e7, e8, e9, e10⟩, a, b, k, w0, u, s, q1, q2, q3, q4, q5, q6, q7, q8, z5, z6, z7, z8, z9, z10⟩
theorem le4 {k : Nat} (h : k ≤ 4) : k = 0 ∨ k = 1 ∨ k = 2 ∨ k = 3 ∨ k = 4 := by omega
theorem x_kind {k : Nat} (hk : gA x 7 c = nI k) (h4 : k ≤ 4) : vX_kind nc c x = some (nI k, x) := by
  unfold vX_kind; rw [hk]
  rcases le4 h4 with rfl | rfl | rfl | rfl | rfl <;> rfl
/-- what a crack lets through -/
def letV (k w : Int32) : Int32 := if k = 0 then w else if k = 2 then w else w * w
theorem x_lets {k : Nat} (hk : gA x 7 c = nI k) (h4 : k ≤ 4) (hc : c < nc) : vX_lets nc c x = some (letV (gA x 7 c) (gA x 8 c), x) := by
  unfold vX_lets fX10_lets fX2_lets letV; rw [hk]; simp only [if_pos hc]
  rcases le4 h4 with rfl | rfl | rfl | rfl | rfl <;> rfl
theorem m_lets {k : Nat} (hk : gA m 7 c = nI k) (h4 : k ≤ 4) (hc : c < 12) : fX12_lets (nI c) m = some (letV (gA m 7 c) (gA m 8 c), m) := by
  unfold fX12_lets letV
  have hr : ¬ (nI c < 0 ∨ 12 ≤ (nI c).toNatClampNeg) := inR hc (by decide)
  simp only [if_pos hr]
  rw [nI_clamp (by omega), hk]
  rcases le4 h4 with rfl | rfl | rfl | rfl | rfl <;> rfl
theorem op_about : ∀ (y1 y2 : Int32), OpI (RelV V) (fun nc σ => fX11_about nc y1 y2 σ) (fun σ => fX12_about y1 y2 σ) := by
  intro y1 y2 j nc x m hj hR
  obtain ⟨J, hJ, hC, hS, hK, hO, hW⟩ := id hR
  obtain ⟨h12, hx, hm, hh⟩ := hC
  rcases ixc y1 (n := nc) (by omega) with ho | ⟨c, hc, rfl⟩
  · refine ⟨-1, x, m, ?_, ?_, hR.next⟩
    · show fX11_about nc y1 y2 x = _
      unfold fX11_about; rw [x_hasCrack_out hx ho]; rfl
    · show fX12_about y1 y2 m = _
      unfold fX12_about; rw [m_noCrack_out hm (by omega) ho]; rfl
  · obtain ⟨⟨e5, e6, e7, e8, e9, e10⟩, a, b, k, w0, u, s, q1, q2, q3, q4, q5, q6, q7, q8, z5, z6, z7, z8, z9, z10⟩ := hh c hc
    have hr : ¬ (nI c < 0 ∨ 12 ≤ (nI c).toNatClampNeg) := inR (by omega) (by decide)
    have hX : fX11_about nc (nI c) y2 x = if y2 = 0 then some (gA x 5 c, x) else if y2 = 1 then some (gA x 6 c, x) else if y2 = 2 then some (gA x 7 c, x) else if y2 = 3 then some (gA x 8 c, x) else if y2 = 4 then some (gA x 9 c, x) else if y2 = 5 then some (gA x 10 c, x) else if y2 = 6 then some (letV (gA x 7 c) (gA x 8 c), x) else some (-2, x) := by
      unfold fX11_about; rw [x_hasCrack_in hx (by omega) hc]
      show (if _ then _ else _) = _
      rw [if_pos hr, nI_clamp (by omega)]
      simp only [if_pos hc]
      rw [x_kind (e7.trans z7) q4, x_lets (e7.trans z7) q4 hc, e7, z7]; rfl
    have hM : fX12_about (nI c) y2 m = if y2 = 0 then some (gA m 5 c, m) else if y2 = 1 then some (gA m 6 c, m) else if y2 = 2 then some (gA m 7 c, m) else if y2 = 3 then some (gA m 8 c, m) else if y2 = 4 then some (gA m 9 c, m) else if y2 = 5 then some (gA m 10 c, m) else if y2 = 6 then some (letV (gA m 7 c) (gA m 8 c), m) else some (-2, m) := by
      unfold fX12_about; rw [m_noCrack_in hm (by omega) hc]
      show (if _ then _ else _) = _
      simp only [if_pos hr]
      rw [m_lets z7 q4 (by omega), nI_clamp (by omega)]; rfl
    have hboth : ∃ r, fX11_about nc (nI c) y2 x = some (r, x) ∧ fX12_about (nI c) y2 m = some (r, m) := by
      rw [hX, hM, e5, e6, e7, e8, e9, e10]
      by_cases h0 : y2 = 0
      · rw [if_pos h0, if_pos h0]; exact ⟨_, rfl, rfl⟩
      · rw [if_neg h0, if_neg h0]
        by_cases h1 : y2 = 1
        · rw [if_pos h1, if_pos h1]; exact ⟨_, rfl, rfl⟩
        · rw [if_neg h1, if_neg h1]
          by_cases h2 : y2 = 2
          · rw [if_pos h2, if_pos h2]; exact ⟨_, rfl, rfl⟩
          · rw [if_neg h2, if_neg h2]
            by_cases h3 : y2 = 3
            · rw [if_pos h3, if_pos h3]; exact ⟨_, rfl, rfl⟩
            · rw [if_neg h3, if_neg h3]
              by_cases h4 : y2 = 4
              · rw [if_pos h4, if_pos h4]; exact ⟨_, rfl, rfl⟩
              · rw [if_neg h4, if_neg h4]
                by_cases h5 : y2 = 5
                · rw [if_pos h5, if_pos h5]; exact ⟨_, rfl, rfl⟩
                · rw [if_neg h5, if_neg h5]
                  by_cases h6 : y2 = 6
                  · rw [if_pos h6, if_pos h6]; exact ⟨_, rfl, rfl⟩
                  · rw [if_neg h6, if_neg h6]; exact ⟨_, rfl, rfl⟩
    obtain ⟨r, hr1, hr2⟩ := hboth
    exact ⟨r, x, m, hr1, hr2, hR.next⟩
/-! telling, judging -/
def lv_ (x : MS) (b : Int32) : MS := sI x 38 (31 * gI x 38 + b)
theorem x_leave {b : Int32} : fX6_leave nc b x = some ((), lv_ x b) := rfl
theorem m_traced {b : Int32} : fX12_traced b m = some ((), lv_ m b) := rfl
theorem x_plain (hc : c < nc) : fX2_plainTelling nc c x = some (gA x 8 c, lv_ x 1) := by
  unfold fX2_plainTelling; rw [x_leave]
  show (if _ then _ else _) = _
  rw [if_pos hc]; rfl
/-- what a crack tells, and what it leaves -/
def tellV (k w u : Int32) : Int32 := if k = 0 then w else if k = 2 then w - 20 else if k = 4 then w + u else 10 * w
def tellS (k : Int32) (x : MS) : MS := if k = 0 then lv_ x 1 else lv_ (lv_ x (if k = 2 then 3 else if k = 4 then 4 else 2)) 1
theorem x_tell {k : Nat} (hk : gA x 7 c = nI k) (h4 : k ≤ 4) (hc : c < nc) : vX_telling nc c x = some (tellV (gA x 7 c) (gA x 8 c) (gA x 9 c), tellS (gA x 7 c) x) := by
  have p1 : ∀ b, fX2_plainTelling nc c (lv_ x b) = some (gA x 8 c, lv_ (lv_ x b) 1) := fun b => x_plain hc
  have k1 : ∀ b, gA (lv_ x b) 7 c = nI k := fun b => hk
  unfold vX_telling
  rcases le4 h4 with rfl | rfl | rfl | rfl | rfl
  · rw [hk]
    show fX2_telling nc c x = _
    unfold fX2_telling; rw [if_pos hc, x_plain hc]; rfl
  · rw [hk]
    show fX10_telling nc c x = _
    unfold fX10_telling; rw [x_leave]
    show (if _ then _ else _) = _
    rw [if_pos hc, k1, if_pos (by decide), p1]; rfl
  · rw [hk]
    show fX0_telling nc c x = _
    unfold fX0_telling; rw [x_leave]
    show (if _ then _ else _) = _
    rw [if_pos hc, k1, if_pos (by decide), p1]; rfl
  · rw [hk]
    show fX10_telling nc c x = _
    unfold fX10_telling; rw [x_leave]
    show (if _ then _ else _) = _
    rw [if_pos hc, k1, if_pos (by decide), p1]; rfl
  · rw [hk]
    show fX7_telling nc c x = _
    unfold fX7_telling; rw [x_leave]
    show (if _ then _ else _) = _
    rw [if_pos hc, k1, if_pos (by decide), p1]
    show (if _ then _ else _) = _
    rw [if_pos hc]; rfl
theorem m_tell44 {k : Nat} (hk : k ≤ 4) (hc : c < 12) : fX12_tell_J44 (nI c) (nI k) m = some (tellV (nI k) (gA m 8 c) (gA m 9 c), lv_ m 1) := by
  have hr : ¬ (nI c < 0 ∨ 12 ≤ (nI c).toNatClampNeg) := inR hc (by decide)
  unfold fX12_tell_J44; rw [m_traced]
  show (if _ then _ else _) = _
  rw [if_pos hr, if_pos hr, nI_clamp (by omega)]
  rcases le4 hk with rfl | rfl | rfl | rfl | rfl <;> rfl
theorem m_tell {k : Nat} (hm : gI m 4 = nI nc) (h12 : nc ≤ 12) (hk : gA m 7 c = nI k) (h4 : k ≤ 4) (hc : c < nc) : fX12_tell (nI c) m = some (tellV (gA m 7 c) (gA m 8 c) (gA m 9 c), tellS (gA m 7 c) m) := by
  have hr : ¬ (nI c < 0 ∨ 12 ≤ (nI c).toNatClampNeg) := inR (by omega) (by decide)
  have t41 : ∀ b, fX12_tell_J41 (nI c) (nI k) b m = some (tellV (nI k) (gA m 8 c) (gA m 9 c), lv_ (lv_ m b) 1) := by
    intro b
    unfold fX12_tell_J41; rw [m_traced]
    show fX12_tell_J44 (nI c) (nI k) (lv_ m b) = _
    rw [m_tell44 h4 (by omega)]; rfl
  unfold fX12_tell; rw [m_noCrack_in hm (by omega) hc]
  show (if _ then _ else _) = _
  rw [if_pos hr, nI_clamp (by omega), hk, t41, t41, t41, m_tell44 h4 (by omega)]
  rcases le4 h4 with rfl | rfl | rfl | rfl | rfl <;> rfl
theorem RelV.trace (hV : KeepsW V) {j : Nat} {v : Int32} (h : RelV V j nc x m) : RelV V (j + 1) nc (sI x 38 v) (sI m 38 v) := by
  obtain ⟨J, hJ, hC, hS, hK, hO, hW⟩ := h
  exact ⟨J, hJ, hC, ⟨hS.1, hS.2.1.imp fun _ z => ⟨by omega, z.2⟩, hS.2.2.1, rfl⟩, hK.next, hO, hW.keep hV ⟨rfl, rfl, rfl, rfl, rfl, rfl, rfl, rfl, rfl, rfl, rfl, rfl⟩ rfl rfl⟩
theorem sI2 {k : Nat} {v w : Int32} : sI (sI x k v) k w = sI x k w := by
  unfold sI
  refine congrArg (fun f => (f, x.2)) (funext fun i => ?_)
  show upd (upd x.1 k v) k w i = upd x.1 k w i
  by_cases h : i = k
  · subst h; rw [upd_s, upd_s]
  · rw [upd_n h, upd_n h, upd_n h]
theorem op_tell (hV : KeepsW V) : ∀ (y1 : Int32), OpI (RelV V) (fun nc σ => fX11_tell nc y1 σ) (fun σ => fX12_tell y1 σ) := by
  intro y1 j nc x m hj hR
  obtain ⟨J, hJ, hC, hS, hK, hO, hW⟩ := id hR
  obtain ⟨h12, hx, hm, hh⟩ := hC
  rcases ixc y1 (n := nc) (by omega) with ho | ⟨c, hc, rfl⟩
  · refine ⟨-1, x, m, ?_, ?_, hR.next⟩
    · show fX11_tell nc y1 x = _
      unfold fX11_tell; rw [x_hasCrack_out hx ho]; rfl
    · show fX12_tell y1 m = _
      unfold fX12_tell; rw [m_noCrack_out hm (by omega) ho]; rfl
  · obtain ⟨⟨e5, e6, e7, e8, e9, e10⟩, a, b, k, w0, u, s, q1, q2, q3, q4, q5, q6, q7, q8, z5, z6, z7, z8, z9, z10⟩ := hh c hc
    refine ⟨_, tellS (gA x 7 c) x, _, ?_, m_tell hm h12 z7 q4 hc, ?_⟩
    · show fX11_tell nc (nI c) x = _
      unfold fX11_tell; rw [x_hasCrack_in hx (by omega) hc]
      show (if _ then _ else _) = _
      rw [if_pos (inR (by omega) (by decide)), nI_clamp (by omega), if_pos hc, if_pos hc, x_tell (e7.trans z7) q4 hc, e7, e8, e9]; rfl
    · rw [e7]
      unfold tellS lv_
      have ht := hS.2.2.2
      by_cases h0 : gA m 7 c = 0
      · rw [if_pos h0, if_pos h0, ht]; exact hR.trace hV
      · rw [if_neg h0, if_neg h0]
        show RelV V (j + 1) nc (sI (sI x 38 _) 38 (31 * (31 * gI x 38 + _) + 1)) (sI (sI m 38 _) 38 (31 * (31 * gI m 38 + _) + 1))
        rw [sI2, sI2, ht]; exact hR.trace hV
end OPS2
