/-! lowest terms -/
def fb : Nat → Nat
  | 0 => 0
  | 1 => 1
  | n + 2 => fb n + fb (n + 1)
theorem fb_93 : 2 ^ 63 ≤ fb 93 := by decide +kernel
theorem cmp_0 (a b : Int64) : lg_cmp a b = 0 ↔ a = b := by
  unfold lg_cmp
  by_cases h1 : a > b
  · rw [if_pos h1]
    constructor
    · intro h; exact absurd h (by decide)
    · intro h; subst h; exact absurd h1 (by simp [Int64.lt_iff_toInt_lt])
  · rw [if_neg h1]
    by_cases h2 : a = b
    · rw [if_pos h2]; exact ⟨fun _ => h2, fun _ => rfl⟩
    · rw [if_neg h2]; exact ⟨fun h => absurd h (by decide), fun h => absurd h h2⟩
theorem lN_0 {n : Nat} (h : n < 2 ^ 63) : lN n = 0 ↔ n = 0 := pk_lEQ (b := 0) h (by decide)
theorem mod_small {v r : Nat} (h0 : 0 < r) (h : r ≤ v) : v % r ≤ v - r := by
  rw [Nat.mod_eq_sub_mod h]; exact Nat.mod_le _ _
theorem gcd_step (u v : Nat) : Nat.gcd u v = Nat.gcd v (u % v) := by
  rw [Nat.gcd_comm u v, Nat.gcd_rec v u, Nat.gcd_comm]
theorem gd_x : ∀ (k u v t fu : Nat), v < fb (k + 1) → u < 2 ^ 63 → v < 2 ^ 63 → t + k ≤ 100 → k < fu → fX11_greatestDivisor_L3 fu (lN u) (lN v) (nI t) () = some (lN (Nat.gcd u v), ()) := by
  intro k
  induction k using Nat.strongRecOn with
  | _ k ih =>
  intro u v t fu hv hu hv63 ht hf
  obtain ⟨f, rfl⟩ : ∃ f, fu = f + 1 := ⟨fu - 1, by omega⟩
  rw [fX11_greatestDivisor_L3_s]
  rcases Nat.eq_zero_or_pos v with h0 | hpos
  · subst h0
    rw [if_pos (show lg_cmp (lN 0) 0 = 0 from (cmp_0 _ _).mpr rfl), Nat.gcd_zero_right]
  · have hk : 2 ≤ k := by
      rcases (show k = 0 ∨ k = 1 ∨ 2 ≤ k by omega) with rfl | rfl | h
      · have : fb (0 + 1) = 1 := rfl
        omega
      · have : fb (1 + 1) = 1 := rfl
        omega
      · exact h
    obtain ⟨k, rfl⟩ : ∃ k', k = k' + 2 := ⟨k - 2, by omega⟩
    have hf3 : fb (k + 2 + 1) = fb (k + 1) + fb (k + 1 + 1) := rfl
    rw [if_neg (fun z => absurd ((lN_0 hv63).mp ((cmp_0 _ _).mp z)) (by omega)), if_neg (show ¬ (100 : Int32) ≤ nI t from nI_ge (b := 100) (by omega) (by decide)), if_pos (fun z => absurd ((lN_0 hv63).mp z) (by omega)), pk_lRem hu hpos hv63, nI_1, gcd_step]
    have hr := Nat.mod_lt u hpos
    by_cases h : u % v < fb (k + 1 + 1)
    · exact ih (k + 1) (by omega) v (u % v) (t + 1) f h hv63 (by omega) (by omega) (by omega)
    · obtain ⟨f', rfl⟩ : ∃ f', f = f' + 1 := ⟨f - 1, by omega⟩
      generalize u % v = r at *
      rcases Nat.eq_zero_or_pos r with h0 | hrp
      · subst h0
        rw [fX11_greatestDivisor_L3_s, if_pos (show lg_cmp (lN 0) 0 = 0 from (cmp_0 _ _).mpr rfl), Nat.gcd_zero_right]
      · have hm := mod_small hrp (Nat.le_of_lt hr)
        rw [fX11_greatestDivisor_L3_s, if_neg (fun z => absurd ((lN_0 (by omega)).mp ((cmp_0 _ _).mp z)) (by omega)), if_neg (show ¬ (100 : Int32) ≤ nI (t + 1) from nI_ge (b := 100) (by omega) (by decide)), if_pos (fun z => absurd ((lN_0 (by omega)).mp z) (by omega)), pk_lRem hv63 hrp (by omega), nI_1, gcd_step v r]
        exact ih k (by omega) r (v % r) (t + 1 + 1) f' (by omega) (by omega) (by omega) (by omega) (by omega)
theorem gd_m {x1 x3 : Int64} {x5 : Int32} {s : MS} : ∀ (k u v fu : Nat), v < fb (k + 1) → u < 2 ^ 63 → v < 2 ^ 63 → k < fu → fX12_lowest_L17 x1 x3 x5 fu (lN u) (lN v) s = some (lN (Nat.gcd u v), s) := by
  intro k
  induction k using Nat.strongRecOn with
  | _ k ih =>
  intro u v fu hv hu hv63 hf
  obtain ⟨f, rfl⟩ : ∃ f, fu = f + 1 := ⟨fu - 1, by omega⟩
  rw [fX12_lowest_L17_s]
  rcases Nat.eq_zero_or_pos v with h0 | hpos
  · subst h0
    rw [if_pos (show lg_cmp (lN 0) 0 = 0 from (cmp_0 _ _).mpr rfl), Nat.gcd_zero_right]
  · have hk : 2 ≤ k := by
      rcases (show k = 0 ∨ k = 1 ∨ 2 ≤ k by omega) with rfl | rfl | h
      · have : fb (0 + 1) = 1 := rfl
        omega
      · have : fb (1 + 1) = 1 := rfl
        omega
      · exact h
    obtain ⟨k, rfl⟩ : ∃ k', k = k' + 2 := ⟨k - 2, by omega⟩
    have hf3 : fb (k + 2 + 1) = fb (k + 1) + fb (k + 1 + 1) := rfl
    rw [if_neg (fun z => absurd ((lN_0 hv63).mp ((cmp_0 _ _).mp z)) (by omega)), if_pos (fun z => absurd ((lN_0 hv63).mp z) (by omega)), pk_lRem hu hpos hv63, gcd_step]
    have hr := Nat.mod_lt u hpos
    by_cases h : u % v < fb (k + 1 + 1)
    · exact ih (k + 1) (by omega) v (u % v) f h hv63 (by omega) (by omega)
    · obtain ⟨f', rfl⟩ : ∃ f', f = f' + 1 := ⟨f - 1, by omega⟩
      generalize u % v = r at *
      rcases Nat.eq_zero_or_pos r with h0 | hrp
      · subst h0
        rw [fX12_lowest_L17_s, if_pos (show lg_cmp (lN 0) 0 = 0 from (cmp_0 _ _).mpr rfl), Nat.gcd_zero_right]
      · have hm := mod_small hrp (Nat.le_of_lt hr)
        rw [fX12_lowest_L17_s, if_neg (fun z => absurd ((lN_0 (by omega)).mp ((cmp_0 _ _).mp z)) (by omega)), if_pos (fun z => absurd ((lN_0 (by omega)).mp z) (by omega)), pk_lRem hv63 hrp (by omega), gcd_step v r]
        exact ih k (by omega) r (v % r) f' (by omega) (by omega) (by omega) (by omega)
theorem lN_ofInt (n : Nat) : lN n = Int64.ofInt (n : Int) := rfl
theorem abs_x {U : Int} (h1 : -2 ^ 63 < U) (h2 : U < 2 ^ 63) : (if 0 < Int64.ofInt U then Int64.ofInt U else -Int64.ofInt U) = lN U.natAbs := by
  have e : (Int64.ofInt U).toInt = U := Int64.toInt_ofInt_of_le (by omega) h2
  have z : (0 : Int64).toInt = 0 := rfl
  have c : 0 < Int64.ofInt U ↔ 0 < U := by rw [Int64.lt_iff_toInt_lt, e, z]
  rw [lN_ofInt]
  by_cases h : 0 < U
  · rw [if_pos (c.mpr h)]; congr 1; omega
  · rw [if_neg (fun y => h (c.mp y)), ← Int64.ofInt_neg]; congr 1; omega
theorem abs_m {U : Int} (h1 : -2 ^ 63 < U) (h2 : U < 2 ^ 63) : (0 ≤ lg_cmp (Int64.ofInt U) 0 → Int64.ofInt U = lN U.natAbs) ∧ (¬ 0 ≤ lg_cmp (Int64.ofInt U) 0 → -Int64.ofInt U = lN U.natAbs) := by
  have e : (Int64.ofInt U).toInt = U := Int64.toInt_ofInt_of_le (by omega) h2
  have z : (0 : Int64).toInt = 0 := rfl
  rw [lg_cmp_ge, Int64.le_iff_toInt_le, e, z, lN_ofInt]
  refine ⟨fun h => ?_, fun h => ?_⟩
  · congr 1; omega
  · rw [← Int64.ofInt_neg]; congr 1; omega
/-- both sides tell a fraction alike -/
theorem part_eq {U L : Int} (h1 : -2 ^ 63 < U) (h2 : U < 2 ^ 63) (l1 : 1 ≤ L) (l2 : L < 2 ^ 63) (y : Int32) : ∃ r, fX11_partOf (Int64.ofInt U) (Int64.ofInt L) y = some (r, ()) ∧ ∀ s, fX12_lowest (Int64.ofInt U) (Int64.ofInt L) y s = some (r, s) := by
  obtain ⟨v, rfl⟩ := Int.eq_ofNat_of_zero_le (show 0 ≤ L by omega)
  have hu : U.natAbs < 2 ^ 63 := by omega
  have hv : v < 2 ^ 63 := by omega
  have hv0 : 0 < v := by omega
  have hg0 : 0 < Nat.gcd U.natAbs v := Nat.gcd_pos_of_pos_right _ hv0
  have hgl : Nat.gcd U.natAbs v ≤ v := Nat.gcd_le_right _ hv0
  have h93 : v < fb (92 + 1) := Nat.lt_of_lt_of_le hv fb_93
  have gx := gd_x 92 U.natAbs v 0 FU h93 hu hv (by omega) (by show 92 < 1000000; omega)
  have hne : ¬ lN (Nat.gcd U.natAbs v) = 0 := fun z => absurd ((lN_0 (by omega)).mp z) (by omega)
  have hge : 0 ≤ lg_cmp (lN (Nat.gcd U.natAbs v)) 1 := by
    rw [lg_cmp_ge]
    exact (pk_lLE (a := 1) (b := Nat.gcd U.natAbs v) (by decide) (by omega)).mpr hg0
  refine ⟨if y = 0 then Int64.ofInt U / lN (Nat.gcd U.natAbs v) else Int64.ofInt (v : Int) / lN (Nat.gcd U.natAbs v), ?_, fun s => ?_⟩
  · unfold fX11_partOf fX11_greatestDivisor
    rw [abs_x h1 h2, show (0 : Int32) = nI 0 from rfl, show Int64.ofInt ((v : Nat) : Int) = lN v from rfl, gx]
    show (if 0 ≤ lg_cmp (lN (Nat.gcd U.natAbs v)) 1 then _ else _) = _
    rw [if_pos hge]
    by_cases hy : y = nI 0
    · rw [if_neg (fun z => z hy), if_pos hne, if_pos hy]
    · rw [if_pos hy, if_pos hne, if_neg hy]
  · have gm := fun x1 x3 x5 => gd_m (x1 := x1) (x3 := x3) (x5 := x5) (s := s) 92 U.natAbs v FU h93 hu hv (by show 92 < 1000000; omega)
    have key : fX12_lowest_J12 (Int64.ofInt U) (lN v) y (lN U.natAbs) s = some (if y = 0 then Int64.ofInt U / lN (Nat.gcd U.natAbs v) else lN v / lN (Nat.gcd U.natAbs v), s) := by
      unfold fX12_lowest_J12
      rw [gm]
      show (if ¬ y = 0 then _ else _) = _
      by_cases hy : y = 0
      · rw [if_neg (fun z => z hy), if_pos hne, if_pos hy]
      · rw [if_pos hy, if_pos hne, if_neg hy]
    unfold fX12_lowest
    rw [show Int64.ofInt ((v : Nat) : Int) = lN v from rfl]
    by_cases h : 0 ≤ lg_cmp (Int64.ofInt U) 0
    · rw [if_pos h]
      have e := (abs_m h1 h2).1 h
      rw [← e] at key
      exact key
    · rw [if_neg h, (abs_m h1 h2).2 h]; exact key
