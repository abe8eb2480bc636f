/-! THE START: the two fresh states are alike, and what the machine's start tells of the classes -/
theorem rel0 : RelV Vq 0 0 xInit mInit := by
  refine ⟨0, ⟨by omega, by decide, by decide, fun i h => absurd h (by omega), fun i _ => rfl⟩, ⟨by omega, by decide, by decide, fun c h => absurd h (by omega)⟩, ⟨⟨10, by omega, by omega, by decide, by decide⟩, ⟨0, by omega, by decide, by decide⟩, by decide, by decide⟩, ⟨0, 0, by omega, by omega, by decide, by decide, by decide, fun t h => absurd h (by omega)⟩, fun k hk => Or.inl ⟨rfl, ?_⟩, ⟨0, by omega, by decide, Or.inl (by decide)⟩⟩
  rcases (show k = 0 ∨ k = 1 ∨ k = 2 ∨ k = 3 by omega) with rfl | rfl | rfl | rfl <;> decide
theorem kn_all {s : State} {cl : List vw_C} (h : ∀ q ∈ cl, ∃ (cC : ClassId) (iS : Nat → Nat), u_Kn s q.1 q.2.1 q.2.2 cC iS) : ∃ D : va_G, ∀ (k : Nat) (q : vw_C), cl[k]? = some q → u_Kn s q.1 q.2.1 q.2.2 (D.1 k) (D.2 k) := by
  have h2 : ∀ k : Nat, ∃ r : ClassId × (Nat → Nat), ∀ q, cl[k]? = some q → u_Kn s q.1 q.2.1 q.2.2 r.1 r.2 := fun k => by
    cases e : cl[k]? with
    | none => exact ⟨((0 : Nat), fun _ => 0), fun q h => by cases h⟩
    | some q =>
      obtain ⟨cC, iS, hk⟩ := h q (List.mem_of_getElem? e)
      exact ⟨(cC, iS), fun q' h' => by cases h'; exact hk⟩
  exact ⟨(fun k => (Classical.choose (h2 k)).1, fun k => (Classical.choose (h2 k)).2), fun k q hq => Classical.choose_spec (h2 k) q hq⟩
theorem tb_RX0 : Cond.instantiable RX0 5 ∈ lw_tbl := by decide +kernel
theorem tb_RX1 : Cond.instantiable RX1 4 ∈ lw_tbl := by decide +kernel
theorem tb_RX2 : Cond.instantiable RX2 5 ∈ lw_tbl := by decide +kernel
theorem tb_RX3 : Cond.instantiable RX3 5 ∈ lw_tbl := by decide +kernel
theorem tb_RX4 : Cond.instantiable RX4 6 ∈ lw_tbl := by decide +kernel
theorem tb_RX5 : Cond.instantiable RX5 7 ∈ lw_tbl := by decide +kernel
theorem tb_RX6 : Cond.instantiable RX6 1 ∈ lw_tbl := by decide +kernel
theorem tb_RX7 : Cond.instantiable RX7 5 ∈ lw_tbl := by decide +kernel
theorem tb_RX8 : Cond.instantiable RX8 9 ∈ lw_tbl := by decide +kernel
theorem tb_RX9 : Cond.instantiable RX9 5 ∈ lw_tbl := by decide +kernel
theorem tb_RX10 : Cond.instantiable RX10 5 ∈ lw_tbl := by decide +kernel
theorem tb_RX11 : Cond.instantiable RX11 9 ∈ lw_tbl := by decide +kernel
theorem tb_RX12 : Cond.instantiable RX12 39 ∈ lw_tbl := by decide +kernel
theorem tb_nc : ∀ p ∈ ncPairs, Cond.not (.castable p.1 p.2) ∈ flatC (Jvm.Cond.and given_1 narrow_1) := by decide +kernel
theorem tb_yc : ∀ p ∈ ycPairs, Cond.castable p.1 p.2 ∈ lw_tbl := by decide +kernel
theorem tb_ne : ∀ x ∈ nestL, Cond.methodLinkNest x.1 x.2.1 x.2.2 "WideningCracks" ∈ lw_tbl := by decide +kernel
theorem tb_ao : ∀ C ∈ aoL, Cond.arrayOver (.object C) ∈ lw_tbl := by decide +kernel
theorem tb_aa : ∀ t ∈ aaL, Cond.arrayOver (.array t) ∈ lw_tbl := by decide +kernel
theorem tb_i : Cond.arrayClass .int ∈ lw_tbl := by decide +kernel
theorem tb_l : Cond.arrayClass .long ∈ lw_tbl := by decide +kernel
theorem tb_b : Cond.arrayClass .boolean ∈ lw_tbl := by decide +kernel
theorem ar_p {s : State} {A : Array Value} {ty : FieldType} (hno : ∀ X, ty ≠ .object X) (h : (Cond.arrayClass ty).before A s = true) : ∃ c : ClassId, ArrOfT s c ty ∧ va_RA s c ty := by
  obtain ⟨c, k, comp, h1, h2, h3⟩ := Cond.arrayClass_spec h
  refine ⟨c, fun n z => ⟨(fun k h => by cases h), k, h2, comp, h3⟩, ?_⟩
  cases ty with
  | object C => exact absurd rfl (hno C)
  | _ => exact h1
theorem ar_o {s : State} {A : Array Value} {C : String} (h : (Cond.arrayOver (.object C)).before A s = true) : ∃ c : ClassId, ArrOfT s c (.object C) ∧ va_RA s c (.object C) := by
  obtain ⟨comp, c, k, h1, -, h2, h3, h4⟩ := Cond.arrayOver_spec h
  exact ⟨c, fun n z => ⟨(fun k h => by cases h), k, h2, comp, h3⟩, k, comp, h2, h3, h1, h4⟩
theorem ar_a {s : State} {A : Array Value} {t : FieldType} (h : (Cond.arrayOver (.array t)).before A s = true) : ∃ c : ClassId, ArrOfT s c (.array t) ∧ va_RA s c (.array t) := by
  obtain ⟨comp, c, k, h1, -, h2, h3, h4⟩ := arrayOver_specB h
  exact ⟨c, fun n z => ⟨(fun k h => by cases h), k, h2, comp, h3⟩, h4⟩
theorem kk_start {s : State} {A : Array Value} (hts : ∀ w ∈ lw_tbl, w.before A s = true) (hgv : (Jvm.Cond.and given_1 narrow_1).before A s = true) : ∃ (D : va_G) (τ : CId), KK D τ s := by
  obtain ⟨D, hD⟩ := kn_all (s := s) (cl := vwCl) (List.forall_mem_cons.mpr ⟨u_known (C := RX0) (T := TX0) (N := 5) (n := 5) hts inX0 (hts _ tb_RX0), 
    List.forall_mem_cons.mpr ⟨u_known (C := RX1) (T := TX1) (N := 4) (n := 4) hts inX1 (hts _ tb_RX1), 
    List.forall_mem_cons.mpr ⟨u_known (C := RX2) (T := TX2) (N := 5) (n := 5) hts inX2 (hts _ tb_RX2), 
    List.forall_mem_cons.mpr ⟨u_known (C := RX3) (T := TX3) (N := 5) (n := 5) hts inX3 (hts _ tb_RX3), 
    List.forall_mem_cons.mpr ⟨u_known (C := RX4) (T := TX4) (N := 6) (n := 6) hts inX4 (hts _ tb_RX4), 
    List.forall_mem_cons.mpr ⟨u_known (C := RX5) (T := TX5) (N := 7) (n := 7) hts inX5 (hts _ tb_RX5), 
    List.forall_mem_cons.mpr ⟨u_known (C := RX6) (T := TX6) (N := 1) (n := 1) hts inX6 (hts _ tb_RX6), 
    List.forall_mem_cons.mpr ⟨u_known (C := RX7) (T := TX7) (N := 5) (n := 5) hts inX7 (hts _ tb_RX7), 
    List.forall_mem_cons.mpr ⟨u_known (C := RX8) (T := TX8) (N := 9) (n := 9) hts inX8 (hts _ tb_RX8), 
    List.forall_mem_cons.mpr ⟨u_known (C := RX9) (T := TX9) (N := 5) (n := 5) hts inX9 (hts _ tb_RX9), 
    List.forall_mem_cons.mpr ⟨u_known (C := RX10) (T := TX10) (N := 5) (n := 5) hts inX10 (hts _ tb_RX10), 
    List.forall_mem_cons.mpr ⟨u_known (C := RX11) (T := TX11) (N := 9) (n := 9) hts inX11 (hts _ tb_RX11), 
    List.forall_mem_cons.mpr ⟨u_known (C := RX12) (T := TX12) (N := 39) (n := 39) hts inX12 (hts _ tb_RX12), fun _ h => absurd h List.not_mem_nil⟩⟩⟩⟩⟩⟩⟩⟩⟩⟩⟩⟩⟩)
  obtain ⟨t0, a0⟩ := ar_p (ty := .int) (fun _ h => by cases h) (hts _ tb_i)
  obtain ⟨t1, a1⟩ := ar_p (ty := .long) (fun _ h => by cases h) (hts _ tb_l)
  obtain ⟨t2, a2⟩ := ar_p (ty := .boolean) (fun _ h => by cases h) (hts _ tb_b)
  obtain ⟨t3, a3⟩ := ar_o (C := "WideningCracks$Core") (hts _ (tb_ao _ (by decide)))
  obtain ⟨t4, a4⟩ := ar_o (C := "WideningCracks$Crack") (hts _ (tb_ao _ (by decide)))
  obtain ⟨t5, a5⟩ := ar_a (t := .int) (hts _ (tb_aa _ (by decide)))
  obtain ⟨t6, a6⟩ := ar_a (t := .long) (hts _ (tb_aa _ (by decide)))
  refine ⟨D, (t0, t1, t2, t3, t4, t5, t6), ⟨hD, fun k q hq => ?_⟩, fun p hp => va_Nc.of (flat_of_before _ hgv _ (tb_nc p hp)), fun p hp => va_Nw.of rfl (hts _ (tb_yc p hp)), fun x hx => va_Nw.of rfl (hts _ (tb_ne x hx)), fun C hC => va_AO.of (hts _ (tb_ao C hC)), fun t ht => hts _ (tb_aa t ht)⟩
  match k, hq with
  | 0, hq => cases hq; exact a0
  | 1, hq => cases hq; exact a1
  | 2, hq => cases hq; exact a2
  | 3, hq => cases hq; exact a3
  | 4, hq => cases hq; exact a4
  | 5, hq => cases hq; exact a5
  | 6, hq => cases hq; exact a6
  | k + 7, hq => simp [tysOf] at hq
