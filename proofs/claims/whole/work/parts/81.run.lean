/-! running until a way opens -/
section RUN
variable {G : GD} {s s' x x' x'' m m' : MS} {nc j J B t : Nat}
theorem run_L (ht : t ≤ 12) : ∀ (d n fu B : Nat) (x m : MS) (G : GD), n + d = 200 → d < fu → B + d + 2 < 2 ^ 30 → RelB j B nc x m → Wf G → qN G = nc → PX G x → Pc G m → ∃ (n' : Nat) (f : Bool) (x' m' : MS) (G' : GD), n' ≤ 200 ∧ fX11_run_L21 nc (nI t) fu (bv (decide (0 < Wy G t 99 true))) (nI n) x = some ((bv f, nI n'), x') ∧ fX12_run_L15 (nI t) fu (nI n) m = some (nI n', m') ∧ RelB j (B + d) nc x' m' ∧ Wf G' ∧ qN G' = nc ∧ Pc G' m' ∧ f = decide (0 < Wy G' t 99 true) := by
  intro d
  induction d with
  | zero =>
    intro n fu B x m G hn hf hB hR hw e2 px pm
    obtain ⟨f, rfl⟩ : ∃ f, fu = f + 1 := ⟨fu - 1, by omega⟩
    obtain rfl : n = 200 := by omega
    refine ⟨200, decide (0 < Wy G t 99 true), x, m, G, Nat.le_refl _, ?_, ?_, hR, hw, e2, pm, rfl⟩
    · rw [fX11_run_L21_s]
      by_cases z : ¬ bv (decide (0 < Wy G t 99 true)) = 0
      · rw [if_pos z]
      · rw [if_neg z, if_pos (by decide)]
    · rw [fX12_run_L15_s, if_pos (by decide)]
  | succ d ih =>
    intro n fu B x m G hn hf hB hR hw e2 px pm
    obtain ⟨f, rfl⟩ : ∃ f, fu = f + 1 := ⟨fu - 1, by omega⟩
    subst e2
    obtain ⟨m1, em, fm, -⟩ := m_countWays hw pm (t := t) ht
    have h200 : ¬ (200 : Int32) ≤ nI n := nI_ge (b := 200) (by omega) (by decide)
    have hM : fX12_run_L15 (nI t) (f + 1) (nI n) m = if ¬ nI (Wy G t 99 true) = 0 then some (nI n, m1) else bnd (fX12_stepOnce m1) (fun r10 s11 => fX12_run_L15 (nI t) f (nI (n + 1)) s11) := by
      rw [fX12_run_L15_s, if_neg h200, em, bnd_k, nI_1]
    have hR1 : RelB j B (qN G) x m1 := rel_ways hR FrP.rfl' fm
    have pm1 := pm.fq fm
    by_cases z : 0 < Wy G t 99 true
    · refine ⟨n, true, x, m1, G, by omega, ?_, ?_, ?_, hw, rfl, pm1, (decide_eq_true z).symm⟩
      · rw [decide_eq_true z, fX11_run_L21_s, if_pos (by decide)]
      · rw [hM, if_pos (fun y => (Wy_ne hw).mp y z)]
      · obtain ⟨J, a, b, ⟨c1, ⟨s, c2, c3⟩, c4⟩, dd', e, ⟨c, f1, f2⟩⟩ := hR1
        exact ⟨J, a, b, ⟨c1, ⟨s, by omega, c3⟩, c4⟩, dd', e, ⟨c, by omega, f2⟩⟩
    · rw [if_neg (fun y => y ((Wy_ne hw).mpr z))] at hM
      obtain ⟨k, x1, m2, hk, e1, e3, hR2, hsame⟩ := step_one (by omega) hR1
      rw [e3, bnd_k] at hM
      have hX : fX11_run_L21 (qN G) (nI t) (f + 1) (bv (decide (0 < Wy G t 99 true))) (nI n) x = if nI k ≤ 0 then fX11_run_L21 (qN G) (nI t) f 0 (nI (n + 1)) x1 else bnd (fX9_isOne (qN G) (nI t) x1) (fun r14 s15 => if r14 = 0 then fX11_run_L21 (qN G) (nI t) f 0 (nI (n + 1)) s15 else fX11_run_L21 (qN G) (nI t) f 1 (nI (n + 1)) s15) := by
        rw [decide_eq_false z, fX11_run_L21_s, if_neg (by decide), if_neg h200, e1, bnd_k, nI_1]; rfl
      rcases Nat.eq_zero_or_pos k with h0 | hpos
      · subst h0
        rw [if_pos (by decide)] at hX
        obtain ⟨px1, pm2⟩ := hsame rfl G rfl px pm1
        obtain ⟨n', g, x', m', G', q1, q2, q3, q4, q5⟩ := ih (n + 1) f (B + 1) x1 m2 G (by omega) (by omega) (by omega) hR2 hw rfl px1 pm2
        rw [decide_eq_false z] at q2
        refine ⟨n', g, x', m', G', q1, ?_, ?_, by rw [show B + (d + 1) = B + 1 + d by omega]; exact q4, q5⟩
        · rw [hX]; exact q2
        · rw [hM]; exact q3
      · rw [if_neg (nI_nle hpos (by omega))] at hX
        obtain ⟨J, hJ, hC, -⟩ := id hR2
        obtain ⟨G2, hw2, -, e22, px2, pm2⟩ := rel_G hJ hC
        obtain ⟨x2, ex2, fx2⟩ := x_isOne hw2 px2.1 (t := t) ht
        rw [e22] at ex2
        have hX2 : fX11_run_L21 (qN G) (nI t) (f + 1) (bv (decide (0 < Wy G t 99 true))) (nI n) x = fX11_run_L21 (qN G) (nI t) f (bv (decide (0 < Wy G2 t 99 true))) (nI (n + 1)) x2 := by
          rw [hX, ex2, bnd_k]
          cases decide (0 < Wy G2 t 99 true) with
          | true => rw [if_neg (by decide)]; rfl
          | false => rw [if_pos bv0]; rfl
        obtain ⟨n', g, x', m', G', q1, q2, q3, q4, q5⟩ := ih (n + 1) f (B + 1) x2 m2 G2 (by omega) (by omega) (by omega) (rel_ways hR2 fx2 FrQ.rfl') hw2 e22 (px2.fp fx2) pm2
        refine ⟨n', g, x', m', G', q1, ?_, ?_, by rw [show B + (d + 1) = B + 1 + d by omega]; exact q4, q5⟩
        · rw [hX2]; exact q2
        · rw [hM]; exact q3
theorem op_run : ∀ (y1 : Int32), OpI (RelV Vq) (fun nc σ => fX11_run nc y1 σ) (fun σ => fX12_run y1 σ) := by
  intro y1 j nc x m hj hR
  show ∃ (r : Int32) (σx' σm' : MS), fX11_run nc y1 x = some (r, σx') ∧ fX12_run y1 m = some (r, σm') ∧ RelV Vq (j + 1) nc σx' σm'
  rcases am01 y1 1 12 with ⟨ha, -⟩ | ⟨ha, h1, h2⟩
  · refine ⟨-2, x, m, ?_, ?_, hR.next⟩
    · unfold fX11_run; rw [x_isLeastWidth, ha]; rfl
    · unfold fX12_run; rw [ha]; rfl
  · obtain ⟨t, ht1, ht, rfl⟩ := range_of1 (n := 12) (by decide) h1 h2
    obtain ⟨J, hJ, hC, hS, hK, hO, hW⟩ := id hR
    obtain ⟨G, hw, e1, e2, px, pm⟩ := rel_G hJ hC
    subst e2
    obtain ⟨x1, ex1, fx1⟩ := x_isOne hw px.1 (t := t) ht
    obtain ⟨n', g, x2, m2, G', q1, q2, q3, q4, q5, q6, q7, q8⟩ := run_L (j := j) ht 200 0 FU (256 * j) x1 m G (by omega) (by show 200 < 1000000; omega) (by omega) (rel_ways (RelB.of hR) fx1 FrQ.rfl') hw rfl (px.fp fx1) pm
    obtain ⟨m3, em3, fm3, -⟩ := m_countWays q5 q7 (t := t) ht
    have hb := Wy_bnd q5 (t := t) (wt := 99) (h0 := true)
    refine ⟨if g then nI n' else -9, x2, m3, ?_, ?_, (rel_ways q4 FrP.rfl' fm3).to (by omega)⟩
    · unfold fX11_run; rw [x_isLeastWidth, ha, bnd_k, if_pos (by decide), ex1, bnd_k, show fX11_run_L21 (qN G) (nI t) FU (bv (decide (0 < Wy G t 99 true))) 0 x1 = some ((bv g, nI n'), x2) from q2, bnd_k]
      cases g <;> rfl
    · unfold fX12_run; rw [ha, bnd_k, if_pos (by decide), show fX12_run_L15 (nI t) FU 0 m = some (nI n', m2) from q3, bnd_k, em3, bnd_k]
      by_cases z : 0 < Wy G' t 99 true
      · rw [if_neg (nI_nle z (by omega)), q8, decide_eq_true z]; rfl
      · rw [show Wy G' t 99 true = 0 by omega, if_pos (by decide)]
        rw [q8, show Wy G' t 99 true = 0 by omega]; rfl
end RUN
