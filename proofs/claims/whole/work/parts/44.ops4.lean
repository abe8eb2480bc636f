/-! cores: making, putting, reading -/
section OPS4
variable {V : Nat → MS → Prop} {nc : Nat} {x m s : MS}
theorem sBR_self {k : Nat} {f : Nat → Int64} (h : ∀ j, f j = gB s k j) : sBR s k f = s := by
  unfold sBR
  have e : (fun a => if a = k then f else s.2.2.2 a) = s.2.2.2 := by
    funext a
    by_cases ha : a = k
    · subst ha; rw [if_pos rfl]; exact funext h
    · rw [if_neg ha]
  rw [e]
theorem sBR_sBR {k : Nat} {f g : Nat → Int64} : sBR (sBR s k f) k g = sBR s k g := by
  unfold sBR
  refine congrArg (fun z => (s.1, s.2.1, s.2.2.1, z)) (funext fun a => ?_)
  by_cases ha : a = k
  · rw [if_pos ha, if_pos ha]
  · rw [if_neg ha, if_neg ha]; exact if_neg ha
theorem sB_as {k i : Nat} {v : Int64} : sB s k i v = sBR s k (vp_updL (gB s k) i v) := rfl
theorem fill_c {x0 : Nat} {v : Int64} (h0 : x0 < 4) : ∀ (d i fu : Nat) (s : MS), i + d = 24 → d < fu → fJ7_fill_d0a16_c_L6 nc x0 v 24 fu (nI i) s = some ((), sBR s (90 + x0) (fun j => if i ≤ j ∧ j < 24 then v else gB s (90 + x0) j)) := by
  intro d
  induction d with
  | zero =>
    intro i fu s hi hf
    obtain ⟨f, rfl⟩ : ∃ f, fu = f + 1 := ⟨fu - 1, by omega⟩
    obtain rfl : i = 24 := by omega
    rw [fJ7_fill_d0a16_c_L6_s, if_pos (by decide), sBR_self (fun j => if_neg (by omega))]
  | succ d ih =>
    intro i fu s hi hf
    obtain ⟨f, rfl⟩ : ∃ f, fu = f + 1 := ⟨fu - 1, by omega⟩
    rw [fJ7_fill_d0a16_c_L6_s, if_neg (show ¬ (24 : Int32) ≤ nI i from nI_ge (b := 24) (by omega) (by decide)), if_pos h0, if_pos (inR (by omega) (by decide)), nI_clamp (by omega)]
    show fJ7_fill_d0a16_c_L6 nc x0 v 24 f (nI i + 1) (sB s (90 + x0) i v) = _
    rw [nI_1, ih (i + 1) f _ (by omega) (by omega), sB_as, sBR_sBR]
    refine congrArg (fun g => some ((), sBR s (90 + x0) g)) (funext fun j => ?_)
    rw [gBR_eq]
    by_cases h1 : j = i
    · subst h1
      rw [if_neg (by omega), if_pos (by omega)]; exact if_pos rfl
    · by_cases h2 : i + 1 ≤ j ∧ j < 24
      · rw [if_pos h2, if_pos (by omega)]
      · rw [if_neg h2, if_neg (by omega)]; exact if_neg h1
theorem fill_m {k n : Nat} (hk : k < 4) (hn : n ≤ 24) : ∀ (d i fu : Nat) (s : MS), i + d = n → d < fu → fX12_core_L62 (nI k) (nI n) fu (nI i) s = some ((), sBR s 36 (fun j => if 24 * k + i ≤ j ∧ j < 24 * k + n then 0 else gB s 36 j)) := by
  intro d
  induction d with
  | zero =>
    intro i fu s hi hf
    obtain ⟨f, rfl⟩ : ∃ f, fu = f + 1 := ⟨fu - 1, by omega⟩
    obtain rfl : i = n := by omega
    rw [fX12_core_L62_s, if_pos (nI_le (Nat.le_refl _) (by omega)), sBR_self (fun j => if_neg (by omega))]
  | succ d ih =>
    intro i fu s hi hf
    obtain ⟨f, rfl⟩ : ∃ f, fu = f + 1 := ⟨fu - 1, by omega⟩
    have ex : 24 * nI k + nI i = nI (24 * k + i) := by rw [show (24 : Int32) = nI 24 from rfl, pk_mul, nI_add]
    rw [fX12_core_L62_s, if_neg (nI_ge (by omega) (by omega)), ex, if_pos (inR (by omega) (by decide)), nI_clamp (by omega)]
    show fX12_core_L62 (nI k) (nI n) f (nI i + 1) (sB s 36 (24 * k + i) 0) = _
    rw [nI_1, ih (i + 1) f _ (by omega) (by omega), sB_as, sBR_sBR]
    refine congrArg (fun g => some ((), sBR s 36 g)) (funext fun j => ?_)
    rw [gBR_eq]
    by_cases h1 : j = 24 * k + i
    · subst h1
      rw [if_neg (by omega), if_pos (by omega)]; exact if_pos rfl
    · by_cases h2 : 24 * k + (i + 1) ≤ j ∧ j < 24 * k + n
      · rw [if_pos h2, if_pos (by omega)]
      · rw [if_neg h2, if_neg (by omega)]; exact if_neg h1
theorem x_renew {k : Nat} {l n : Int32} (hk : k < 4) : fX1_renew nc k l n x = some ((), sBR (sA (sA (sA x 40 k 1) 41 k l) 42 k n) (90 + k) (fun j => if j < 24 then 0 else gB x (90 + k) j)) := by
  unfold fX1_renew fJ7_fill_d0a16_c
  rw [if_pos hk]
  show (if _ then _ else _) = _
  rw [if_pos hk]
  show (if _ then _ else _) = _
  rw [if_pos hk]
  show (if _ then _ else _) = _
  rw [if_pos hk, if_pos hk, show (0 : Int32) = nI 0 from rfl, fill_c hk 24 0 FU _ (by omega) (by show 24 < 1000000; omega)]
  refine congrArg (fun g => some ((), sBR (sA (sA (sA x 40 k 1) 41 k l) 42 k n) (90 + k) g)) (funext fun j => ?_)
  by_cases h : j < 24
  · rw [if_pos ⟨Nat.zero_le _, h⟩, if_pos h]
  · rw [if_neg (fun z => h z.2), if_neg h]; rfl
theorem op_core (hV : KeepsW V) : ∀ (y1 y2 y3 : Int32), OpI (RelV V) (fun nc σ => fX11_core nc y1 y2 y3 σ) (fun σ => fX12_core y1 y2 y3 σ) := by
  intro y1 y2 y3 j nc x m hj hR
  obtain ⟨J, hJ, hC, hS, hK, hO, hW⟩ := id hR
  rcases ixc y1 (n := 4) (by decide) with ho | ⟨k, hk, rfl⟩
  · refine ⟨-1, sI x 0 0, sI m 0 0, ?_, ?_, hR.fault hV⟩
    · show fX11_core nc y1 y2 y3 x = _
      unfold fX11_core; rw [x_isCore_out ho]; rfl
    · show fX12_core y1 y2 y3 m = _
      unfold fX12_core; rw [m_noCore_out ho]; rfl
  · have hr : ¬ (nI k < 0 ∨ 4 ≤ (nI k).toNatClampNeg) := inR hk (by decide)
    have hcl : (nI k).toNatClampNeg = k := nI_clamp (by omega)
    rcases am01 y2 0 3 with ⟨ha, -⟩ | ⟨ha, h1, h2⟩
    · refine ⟨-2, sI x 0 0, sI m 0 0, ?_, ?_, hR.fault hV⟩
      · show fX11_core nc (nI k) y2 y3 x = _
        unfold fX11_core; rw [x_isCore_in hk, x_isLane, ha]; rfl
      · show fX12_core (nI k) y2 y3 m = _
        unfold fX12_core; rw [m_noCore_in hk, ha]; rfl
    · by_cases h24 : y3 ≤ 24
      · by_cases h0 : 0 ≤ y3
        · obtain ⟨l, hl, rfl⟩ := range_of (n := 3) (by decide) h1 h2
          obtain ⟨n, hn, rfl⟩ : ∃ n : Nat, n ≤ 24 ∧ y3 = nI n := nI_of2 (M := 24) (by decide) (by rw [Int32.lt_iff_toInt_lt]; rw [Int32.le_iff_toInt_le] at h0; omega) h24
          refine ⟨1, sBR (sA (sA (sA (sI x 0 0) 40 k 1) 41 k (nI l)) 42 k (nI n)) (90 + k) (fun j => if j < 24 then 0 else gB x (90 + k) j), sI (sBR (sA (sA m 34 k (nI n)) 35 k (nI l)) 36 (fun j => if 24 * k + 0 ≤ j ∧ j < 24 * k + n then 0 else gB m 36 j)) 0 0, ?_, ?_, J, hJ, hC, ⟨hS.1, hS.2.1.imp fun _ z => ⟨by omega, z.2⟩, rfl, hS.2.2.2⟩, hK.keep rfl rfl rfl rfl rfl (fun a _ => by show gA (sA (sA (sA (sI x 0 0) 40 k 1) 41 k (nI l)) 42 k (nI n)) a = gA x a; rw [gA_ne (by omega), gA_ne (by omega), gA_ne (by omega)]; rfl) rfl rfl rfl rfl, ?_, hW.keep hV ⟨rfl, rfl, rfl, rfl, rfl, rfl, rfl, rfl, rfl, rfl, gBR_ne (by omega), gBR_ne (by omega)⟩ rfl rfl⟩
          · show fX11_core nc (nI k) (nI l) (nI n) x = _
            unfold fX11_core; rw [x_isCore_in hk, x_isLane, ha]
            show (if _ then _ else _) = _
            rw [if_pos h24, if_pos h0, if_pos hr, hcl, if_pos hk, if_pos hk]
            show bnd (fX1_renew nc k (nI l) (nI n) (sI x 0 0)) _ = _
            rw [x_renew hk]; rfl
          · show fX12_core (nI k) (nI l) (nI n) m = _
            unfold fX12_core; rw [m_noCore_in hk, ha]
            show (if _ then _ else _) = _
            rw [if_pos h24, if_pos h0, if_pos hr, hcl]
            show (if _ then _ else _) = _
            rw [if_pos (inR' hk (by decide))]
            show bnd (fX12_core_L62 (nI k) (nI n) FU 0 (sA (sA m 34 k (nI n)) 35 k (nI l))) _ = _
            rw [show (0 : Int32) = nI 0 from rfl, fill_m hk hn n 0 FU _ (by omega) (by show n < 1000000; omega)]; rfl
          · intro k' hk'
            show (upd (gA x 40) k 1 k' = 0 ∧ upd (gA m 34) k (nI n) k' = -1) ∨ (upd (gA x 40) k 1 k' = 1 ∧ ∃ n' l' : Nat, n' ≤ 24 ∧ l' ≤ 3 ∧ upd (gA x 42) k (nI n) k' = nI n' ∧ upd (gA m 34) k (nI n) k' = nI n' ∧ upd (gA x 41) k (nI l) k' = nI l' ∧ upd (gA m 35) k (nI l) k' = nI l' ∧ ∀ i, i < n' → gB (sBR (sA (sA (sA (sI x 0 0) 40 k 1) 41 k (nI l)) 42 k (nI n)) (90 + k) (fun j => if j < 24 then 0 else gB x (90 + k) j)) (90 + k') i = (if 24 * k + 0 ≤ 24 * k' + i ∧ 24 * k' + i < 24 * k + n then 0 else gB m 36 (24 * k' + i)))
            by_cases h : k' = k
            · subst h
              rw [upd_s, upd_s, upd_s, upd_s, upd_s]
              refine Or.inr ⟨rfl, n, l, hn, hl, rfl, rfl, rfl, rfl, fun i hi => ?_⟩
              rw [gBR_eq, if_pos (by omega), if_pos (by omega)]
            · rw [upd_n h, upd_n h, upd_n h, upd_n h, upd_n h]
              refine (hO k' hk').imp id fun ⟨a, n', l', q1, q2, q3, q4, q5, q6, q7⟩ => ⟨a, n', l', q1, q2, q3, q4, q5, q6, fun i hi => ?_⟩
              rw [gBR_ne (by omega), if_neg (by omega)]
              exact q7 i hi
        · refine ⟨-14, sI x 0 4, sI m 0 4, ?_, ?_, hR.fault hV⟩
          · show fX11_core nc (nI k) y2 y3 x = _
            unfold fX11_core; rw [x_isCore_in hk, x_isLane, ha]
            show (if _ then _ else _) = _
            rw [if_pos h24, if_neg h0]
            show some (_, sI (sI x 0 0) 0 4) = _
            rw [sI2]; rfl
          · show fX12_core (nI k) y2 y3 m = _
            unfold fX12_core; rw [m_noCore_in hk, ha]
            show (if _ then _ else _) = _
            rw [if_pos h24, if_neg h0]; rfl
      · refine ⟨-2, sI x 0 0, sI m 0 0, ?_, ?_, hR.fault hV⟩
        · show fX11_core nc (nI k) y2 y3 x = _
          unfold fX11_core; rw [x_isCore_in hk, x_isLane, ha]
          show (if _ then _ else _) = _
          rw [if_neg h24]
        · show fX12_core (nI k) y2 y3 m = _
          unfold fX12_core; rw [m_noCore_in hk, ha]
          show (if _ then _ else _) = _
          rw [if_neg h24]; rfl
end OPS4
