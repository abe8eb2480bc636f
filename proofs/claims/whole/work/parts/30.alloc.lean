/-! rows that make cells -/
def va_AOA (t : FieldType) (U : State) : Prop := va_Nw (.arrayOver (.array t)) U
theorem va_AOA.use {t : FieldType} {A : Array Value} {U : State} (h : va_AOA t U) : (Cond.arrayOver (.array t)).before A U = true := h
/-! ===== BEGIN new T[n][m]: the outer array a place, the inner ones among the pooled ===== -/
/-- f, but v at every address of l -/
def vr_up {α : Type} (f : Nat → α) (l : List Nat) (v : α) : Nat → α := fun a => if a ∈ l then v else f a
theorem vr_up_in {α : Type} {f : Nat → α} {l : List Nat} {v : α} {a : Nat} (h : a ∈ l) : vr_up f l v a = v := if_pos h
theorem vr_up_ne {α : Type} {f : Nat → α} {l : List Nat} {v : α} {a : Nat} (h : a ∉ l) : vr_up f l v a = f a := if_neg h
theorem vr_rows {L l : List Nat} {f : Nat → va_E} {e : va_E} (h : ∀ a, a ∈ l → a ∉ L) : va_pl L f ++ l.map (fun a => (a, e)) = va_pl (L ++ l) (vr_up f l e) := by
  unfold va_pl
  rw [List.map_append]
  congr 1
  · apply List.map_congr_left
    intro a ha
    rw [vr_up_ne (fun q => h a q ha)]
  · apply List.map_congr_left
    intro a ha
    rw [vr_up_in ha]
theorem vr_lay {X rows : va_W} {x : Nat × va_E} {pl : va_W} {D : va_G} {cl : List vw_C} {H : Heap} (hP : va_P D cl (((X ++ pl) ++ [x]) ++ rows) H) : va_P D cl ((X ++ [x]) ++ (pl ++ rows)) H := by
  rw [List.append_assoc (X ++ pl)] at hP
  have h := va_P.swap hP
  rw [← List.append_assoc X] at h
  have h2 := va_P.swap h
  rw [List.append_assoc (X ++ [x])] at h2
  exact h2
theorem vr_layD {X rows : va_W} {x : Nat × va_E} {pl : va_W} {A : Nat → Prop} (hD : va_D A (((X ++ pl) ++ [x]) ++ rows)) : va_D A ((X ++ [x]) ++ (pl ++ rows)) := by
  rw [List.append_assoc (X ++ pl)] at hD
  have h := va_D.swap hD
  rw [← List.append_assoc X] at h
  have h2 := va_D.swap h
  rw [List.append_assoc (X ++ [x])] at h2
  exact h2
theorem vr_outer (c : ClassId) (N h0 : Nat) : ∀ i : Nat, Jvm.Free.Multi.outerC c N h0 i = arrV c N (fun j => va_rf (if j < i then some (h0 + 1 + j) else none))
  | 0 => by
    show ({ cls := c, slots := Array.replicate N .null, vm := .none } : Cell) = _
    rw [arrV_new]
    refine congrArg (arrV c N) (funext fun j => ?_)
    simp [va_rf]
  | i + 1 => by
    show (Jvm.Free.Multi.outerC c N h0 i).setSlot i (.ref (h0 + 1 + i)) = _
    rw [vr_outer c N h0 i, arrV_store]
    refine congrArg (arrV c N) (funext fun j => ?_)
    by_cases e : j = i
    · subst e
      simp [updV, va_rf]
    · by_cases h : j < i
      · simp [updV, e, h, Nat.lt_succ_of_lt h]
      · simp [updV, e, h, show ¬ j < i + 1 by omega]
section VGM
variable {p : Program} {l : Launch} {e : Env} {R : Room} {s : State} {m : MethodId} {args : Array Value} {below : List Frame} {meth : Method} {c : Code} {H : Heap} {locs : List Loc} {cells slots : Nat} {Q : State → Prop}
variable {cc : ByteArray} {pc : Nat} {ls : Array Slot} {rest : List Value} {D : va_G} {cl : List vw_C} {A : Nat → Prop} {a : Nat} {tys : List (ClassId × FieldType)} {ws : va_W} {H0 : Heap}
theorem va_mna {X : va_W} {L : List Nat} {f : Nat → va_E} {cc : ByteArray} (hexec : p.tables.exec = Jvm.exec) (hb : c.code = cc) {own : String} {index : Nat} {ty : FieldType} {cy : ClassId} (hown : s.vm.findClass own = some m.cls) (hclink : (Cond.classLink own index ("[" ++ (FieldType.array ty).toString)).before args s = true) (hover : va_AOA ty s) (harr : (Cond.arrayClass ty).before args s = true) (hcy : s.vm.findClass (FieldType.array ty).toString = some cy)
    (hK : va_K D cl tys s) (hP : va_P D cl (X ++ va_pl L f) H) (hD : va_D A (X ++ va_pl L f)) (hS : va_S A H0 H locs) (hA : ∀ q, H0.size ≤ q → A q) {n k : Int32} {N' K' : Nat} {z : vp_A} (hn : ¬ n < 0) (hk : ¬ k < 0) (hN : n.toNatClampNeg = N') (hM : k.toNatClampNeg = K')
    (hb1 : N' * 4 ≤ 536870912) (hb2 : K' * componentBytes ty ≤ 536870912) (hb3 : K' ≤ 536870912) (hdf : fits ty (defaultValue ty) = true) (hdd : (defaultValue ty).isDefault = true) (hcells : cells + (1 + N') ≤ R.cells) (hslots : slots + (N' + N' * K') ≤ R.slots) (hz : ∀ c : ClassId, Jvm.Free.Multi.innerC c K' (defaultValue ty) = vp_cell c z) (hdg : decode cc pc = .ok (.multianewarray index 2, 4))
    (kk : ∀ (q : Nat) (r : Nat → Nat) (cA : ClassId) (H1 : Heap), (∀ i j : Nat, i < N' → j < N' → r i = r j → i = j) → (∀ i : Nat, i < N' → r i ∉ L) → va_K D cl (tys ++ [(cA, .array ty)]) s →
      va_P D cl ((X ++ [(q, .inl (cA, N', .inr (.inr (.inr (.inr (fun i => if i < N' then some (r i) else none))))))]) ++ va_pl (L ++ (List.range N').map r) (vr_up f ((List.range N').map r) (.inl (cy, z)))) H1 → va_D A ((X ++ [(q, .inl (cA, N', .inr (.inr (.inr (.inr (fun i => if i < N' then some (r i) else none))))))]) ++ va_pl (L ++ (List.range N').map r) (vr_up f ((List.range N').map r) (.inl (cy, z)))) → va_S A H0 H1 locs →
      W p l e R s m args below meth c H1 locs (cells + 1 + N') (slots + N' + N' * K') Q (F0 m (pc + 4) ls (.ref q :: rest))) : W p l e R s m args below meth c H locs cells slots Q (F0 m pc ls (.int k :: .int n :: rest)) := by
  subst hN
  subst hM
  intro T hT Xs
  obtain ⟨vm₁, cA, comp, -, fA, fC, hO, -, X', step⟩ := Xs.multianewarray2F hexec hown hclink (va_AOA.use hover) harr (g := F0 m pc ls (.int k :: .int n :: rest)) rfl (by rw [hb]; exact hdg) rfl hn hk hb1 hb2 hb3 hdf hdd hcells hslots
  have ec : some cy = some comp := hcy.symm.trans fC
  cases ec
  generalize hF : Jvm.Free.Multi.fill (T.setVm vm₁) cA cy n.toNatClampNeg k.toNatClampNeg (defaultValue ty) n.toNatClampNeg = F at X' step
  have hTh : (T.setVm vm₁).heap = H := hT
  obtain ⟨f1, f2, -, -⟩ := Jvm.Free.Multi.fill_facts (T.setVm vm₁) cA cy n.toNatClampNeg k.toNatClampNeg (defaultValue ty) n.toNatClampNeg
  rw [hF, hTh] at f1 f2
  have hold : ∀ x : Nat, x < H.size → F.heap[x]? = H[x]? := fun x hx => by
    have := Jvm.Free.Multi.fill_old (T.setVm vm₁) cA cy n.toNatClampNeg k.toNatClampNeg (defaultValue ty) (a := x) (by rw [hTh]; exact hx) n.toNatClampNeg
    rw [hF, hTh] at this
    exact this
  have hrow : ∀ j : Nat, j < n.toNatClampNeg → F.heap[H.size + 1 + j]? = some (vp_cell cy z) := fun j hj => by
    have := Jvm.Free.Multi.fill_inner (T.setVm vm₁) cA cy n.toNatClampNeg k.toNatClampNeg (defaultValue ty) n.toNatClampNeg j hj
    rw [hF, hTh, hz] at this
    exact this
  have hout : Jvm.Free.Multi.outerC cA n.toNatClampNeg H.size n.toNatClampNeg = vp_cell cA (n.toNatClampNeg, .inr (.inr (.inr (.inr (fun i => if i < n.toNatClampNeg then some (H.size + 1 + i) else none))))) := by
    rw [vp_cell_q]
    exact vr_outer cA n.toNatClampNeg H.size n.toNatClampNeg
  rw [hout] at f2
  have hlt : ∀ a, a ∈ L → a < H.size := fun a ha => by
    obtain ⟨k9, hk9⟩ := va_pl_get (X := X) (f := f) ha
    exact (hP k9 _ hk9).lt
  have hnl : ∀ i : Nat, i < n.toNatClampNeg → H.size + 1 + i ∉ L := fun i _ h => by
    have := hlt _ h
    omega
  have hnm : ∀ a, a ∈ (List.range n.toNatClampNeg).map (fun i => H.size + 1 + i) → a ∉ L := fun a ha h => by
    obtain ⟨i, -, rfl⟩ := List.mem_map.mp ha
    have := hlt _ h
    omega
  have hP0 : va_P D cl (X ++ va_pl L f) F.heap := hP.kept (fun k9 x hx => hold x.1 ((hP k9 x hx).lt))
  have hP1 : va_P D cl ((X ++ va_pl L f) ++ [(H.size, .inl (cA, n.toNatClampNeg, .inr (.inr (.inr (.inr (fun i => if i < n.toNatClampNeg then some (H.size + 1 + i) else none))))))]) F.heap := hP0.app (fun k9 x hx => by
    have h0 : k9 < 1 := (List.getElem?_eq_some_iff.mp hx).1
    rw [show k9 = 0 by omega] at hx
    cases hx
    exact f2)
  have hP2 : va_P D cl (((X ++ va_pl L f) ++ [(H.size, .inl (cA, n.toNatClampNeg, .inr (.inr (.inr (.inr (fun i => if i < n.toNatClampNeg then some (H.size + 1 + i) else none))))))]) ++ ((List.range n.toNatClampNeg).map (fun i => H.size + 1 + i)).map (fun a => (a, .inl (cy, z)))) F.heap := hP1.app (fun k9 x hx => by
    obtain ⟨a, ha, rfl⟩ := List.mem_map.mp (List.mem_of_getElem? hx)
    obtain ⟨i, hi, rfl⟩ := List.mem_map.mp ha
    exact hrow i (List.mem_range.mp hi))
  have hD2 : va_D A (((X ++ va_pl L f) ++ [(H.size, .inl (cA, n.toNatClampNeg, .inr (.inr (.inr (.inr (fun i => if i < n.toNatClampNeg then some (H.size + 1 + i) else none))))))]) ++ ((List.range n.toNatClampNeg).map (fun i => H.size + 1 + i)).map (fun a => (a, .inl (cy, z)))) := by
    have hD1 := hD.push (e := .inl (cA, n.toNatClampNeg, .inr (.inr (.inr (.inr (fun i => if i < n.toNatClampNeg then some (H.size + 1 + i) else none)))))) hP rfl (hA _ hS.1)
    generalize hW1 : (X ++ va_pl L f) ++ [(H.size, .inl (cA, n.toNatClampNeg, .inr (.inr (.inr (.inr (fun i => if i < n.toNatClampNeg then some (H.size + 1 + i) else none))))))] = W1 at hD1 hP1 ⊢
    have hle : ∀ (k9 : Nat) (x : Nat × va_E), W1[k9]? = some x → x.1 ≤ H.size := fun k9 x hx => by
      rw [← hW1] at hx
      by_cases hl : k9 < (X ++ va_pl L f).length
      · rw [List.getElem?_append_left hl] at hx
        exact Nat.le_of_lt ((hP k9 x hx).lt)
      · rw [List.getElem?_append_right (by omega)] at hx
        have h0 : k9 - (X ++ va_pl L f).length < 1 := (List.getElem?_eq_some_iff.mp hx).1
        rw [show k9 - (X ++ va_pl L f).length = 0 by omega] at hx
        cases hx
        exact Nat.le_refl _
    have hr : ∀ (k9 : Nat) (x : Nat × va_E), (((List.range n.toNatClampNeg).map (fun i => H.size + 1 + i)).map (fun a => ((a, .inl (cy, z)) : Nat × va_E)))[k9]? = some x → x.1 = H.size + 1 + k9 := fun k9 x hx => by
      rw [List.getElem?_map, List.getElem?_map] at hx
      by_cases h9 : k9 < n.toNatClampNeg
      · rw [List.getElem?_range h9] at hx
        cases hx
        rfl
      · have hn0 : (List.range n.toNatClampNeg)[k9]? = none := List.getElem?_eq_none (by rw [List.length_range]; omega)
        rw [hn0] at hx
        cases hx
    refine ⟨fun i j x y hi hj hxy => ?_, fun k9 x hx => ?_⟩
    · by_cases h1 : i < W1.length <;> by_cases h2 : j < W1.length
      · rw [List.getElem?_append_left h1] at hi
        rw [List.getElem?_append_left h2] at hj
        exact hD1.1 i j x y hi hj hxy
      · rw [List.getElem?_append_left h1] at hi
        rw [List.getElem?_append_right (by omega)] at hj
        have := hle _ _ hi
        have := hr _ _ hj
        omega
      · rw [List.getElem?_append_right (by omega)] at hi
        rw [List.getElem?_append_left h2] at hj
        have := hle _ _ hj
        have := hr _ _ hi
        omega
      · rw [List.getElem?_append_right (by omega)] at hi hj
        have := hr _ _ hi
        have := hr _ _ hj
        omega
    · by_cases h1 : k9 < W1.length
      · rw [List.getElem?_append_left h1] at hx
        exact hD1.2 k9 x hx
      · rw [List.getElem?_append_right (by omega)] at hx
        have := hr _ _ hx
        exact hA _ (by have := hS.1; omega)
  have hAr : ArrOfT s cA (.array ty) := fun N9 z9 => by
    obtain ⟨-, k9, hk9, cm9, hkk9⟩ := (hO 0 0 0).1
    exact ⟨(fun q hq => by cases hq), k9, hk9, cm9, hkk9⟩
  have hK2 : va_K D cl (tys ++ [(cA, .array ty)]) s := ⟨hK.1, fun k9 x hx => by
    by_cases hl : k9 < tys.length
    · rw [List.getElem?_append_left hl] at hx
      exact hK.2 k9 x hx
    · rw [List.getElem?_append_right (by omega)] at hx
      have h0 : k9 - tys.length < 1 := (List.getElem?_eq_some_iff.mp hx).1
      rw [show k9 - tys.length = 0 by omega] at hx
      cases hx
      exact ⟨hAr, fA⟩⟩
  obtain ⟨t, a1, b1⟩ := kk H.size (fun i => H.size + 1 + i) cA F.heap (fun i j _ _ h => by have h9 : H.size + 1 + i = H.size + 1 + j := h; omega) hnl hK2 (by rw [← vr_rows hnm]; exact vr_lay hP2) (by rw [← vr_rows hnm]; exact vr_layD hD2) ⟨by rw [f1]; have := hS.1; omega, fun x h1 h2 => (hold x (Nat.lt_of_lt_of_le h1 hS.1)).trans (hS.2.1 x h1 h2), hS.2.2⟩ F rfl X'
  refine ⟨t, step t ?_, b1⟩
  have e : T.heap.size = H.size := by rw [hT]
  rw [e]
  exact a1
end VGM
/-! ===== END ===== -/

section MYA
variable {l : Launch} {D : va_G} {τ : CId} {Γ : CT} {cc : ByteArray} {y : MethodName} {nL k n : Nat} {Ts : List Cond} {ret : Option FieldType} {rm : Room} {F : va_W → Option Value → Prop} {Wd Wd' : va_W} {pc pc' : Nat} {lv lv' : List (Nat × Value)} {st rest : List Value}
theorem wm_pick (ks : List Nat) (hn : va_nd ks = true) (h : ks.map (fun i => Wd[i]?) = Wd'.map some) (K : WM l D Γ nL k n Wd' pc lv st) : WM l D Γ nL k n Wd pc lv st := by
  obtain ⟨p, e, R, s, m, args, below, meth, c, A, Qc⟩ := Γ
  intro H locs ls hP hD hS hl
  have hf : ks.filterMap (fun i => Wd[i]?) = Wd' := by
    have e1 : ks.filterMap (fun i => Wd[i]?) = (ks.map (fun i => Wd[i]?)).filterMap id := by rw [List.filterMap_map]; rfl
    rw [e1, h, List.filterMap_map]
    show List.filterMap (fun x => some x) Wd' = Wd'
    rw [List.filterMap_some]
  exact K H locs ls (hP.sub ks hf) (hD.sub ks hn h) hS hl
theorem wm_swap {Wa Wb : va_W} (K : WM l D Γ nL k n (Wb ++ Wa) pc lv st) : WM l D Γ nL k n (Wa ++ Wb) pc lv st := by
  obtain ⟨p, e, R, s, m, args, below, meth, c, A, Qc⟩ := Γ
  intro H locs ls hP hD hS hl
  exact K H locs ls (va_P.swap (a := []) hP) (va_D.swap (a := []) hD) hS hl
theorem wm_kn {k' n' : Nat} (hk : k = k') (hn : n = n') (K : WM l D Γ nL k' n' Wd pc lv st) : WM l D Γ nL k n Wd pc lv st := by subst hk; subst hn; exact K
theorem wm_objInit (C : CX D τ Γ cc y nL Ts ret rm F) {ix a : Nat} (d : decode cc pc = .ok (.invokespecial ix, 3)) (h1 : Cond.methodLink y.cls ix objectInit ∈ Ts) (h2 : Cond.instanceMethod objectInit ∈ Ts) (h3 : Cond.code objectInit ⟨#[0xb1]⟩ 1 none ∈ Ts) (hR : 1 ≤ rm.frames ∧ (st.map fun v => v.category).sum + 12 ≤ rm.locals) (hp : pc + 3 = pc') (K : WM l D Γ nL k n Wd pc' lv st) : WM l D Γ nL k n Wd pc lv (.ref a :: st) := by
  subst hp
  obtain ⟨p, e, R, s, m, args, below, meth, c, A, Qc⟩ := Γ
  obtain ⟨hx, hb, hr, hml, hown, hts, hlk, hK, hA, rfl, hnm, hQ⟩ := C
  intro H locs ls hP hD hS hl
  exact W.objInit hx hb hown (hts _ h1) (hts _ h2) (hts _ h3) rfl (by rw [hml]; exact hl.1) rfl d hR.1 (by show 2 * 0 + _ + 12 ≤ _; have := hR.2; omega) (K H locs ls hP hD hS hl)
theorem wm_new (C : CX D τ Γ cc y nL Ts ret rm F) {ix N ci : Nat} {Cn : String} {T : u_T} (d : decode cc pc = .ok (.new ix, 3)) (hin : ∀ w ∈ u_ws Cn T N, w ∈ Ts) (ty : Nat → FieldType) (hty : ∀ k, k < N → parseFieldDescriptor (T k).2.2.1 = some (ty k)) (h1 : Cond.classLink y.cls ix Cn ∈ Ts) (h2 : Cond.instantiable Cn N ∈ Ts) (h3 : Cond.initialized Cn ∈ Ts) (hc : vwCl[ci]? = some (Cn, T, N)) (fs : List Value) (hfs : ∀ j, j < N → defaultValue (ty j) = vp_V fs j) (hkn : k + 1 ≤ rm.cells ∧ n + N ≤ rm.slots) (hp : pc + 3 = pc') (K : ∀ a : Nat, WM l D Γ nL (k + 1) (n + N) (Wd ++ [(a, .inr (ci, fs))]) pc' lv (.ref a :: st)) : WM l D Γ nL k n Wd pc lv st := by
  subst hp
  obtain ⟨p, e, R, s, m, args, below, meth, c, A, Qc⟩ := Γ
  obtain ⟨hx, hb, hr, hml, hown, hts, hlk, hK, hA, rfl, hnm, hQ⟩ := C
  intro H locs ls hP hD hS hl
  exact va_new hx hb hts hin ty hty hown (hts _ h1) (hts _ h2) (hts _ h3) hK.1 hP hD hS hA hc hfs hkn.1 hkn.2 d (fun a H1 hP1 hD1 hS1 => K a H1 locs ls hP1 hD1 hS1 hl)
theorem wm_newa (C : CX D τ Γ cc y nL Ts ret rm F) {at_ : ArrayType} {ty : FieldType} {N : Nat} {m0 : Int32} {a0 : vp_A} {cA : ClassId} (t0 : Nat) (d : decode cc pc = .ok (.newarray at_, 2)) (hty : newarray.typeOf at_ = ty) (harr : Cond.arrayClass ty ∈ Ts) (hno : ∀ X, ty ≠ .object X) (ht : (tysOf τ)[t0]? = some (cA, ty)) (ha : ∀ c : ClassId, vp_cell c a0 = arrV c N (fun _ => defaultValue ty)) (hn : ¬ m0 < 0) (hN : m0.toNatClampNeg = N) (hb0 : N * componentBytes ty ≤ 536870912) (hkn : k + 1 ≤ rm.cells ∧ n + N ≤ rm.slots) (hp : pc + 2 = pc') (K : ∀ a : Nat, WM l D Γ nL (k + 1) (n + N) (Wd ++ [(a, .inl (cA, a0))]) pc' lv (.ref a :: st)) : WM l D Γ nL k n Wd pc lv (.int m0 :: st) := by
  subst hp
  obtain ⟨p, e, R, s, m, args, below, meth, c, A, Qc⟩ := Γ
  obtain ⟨hx, hb, hr, hml, hown, hts, hlk, hK, hA, rfl, hnm, hQ⟩ := C
  intro H locs ls hP hD hS hl
  refine va_newa hx hb (by rw [hty]; exact hts _ harr) hty hK.1 hP hD hS hA ha hn hN hb0 hkn.1 hkn.2 d ?_
  intro a cA' H1 hK1 hP1 hD1 hS1
  have e1 := (hK1.2 (tysOf τ).length (cA', ty) (by rw [List.getElem?_append_right (Nat.le_refl _), Nat.sub_self]; rfl)).2
  have e2 := (hK.1.2 t0 _ ht).2
  have ec : cA' = cA := by
    cases ty <;> first | exact absurd rfl (hno _) | exact Option.some.inj ((show _ = some cA' from e1).symm.trans e2)
  subst ec
  exact K a H1 locs ls hP1 hD1 hS1 hl
theorem wm_newq (C : CX D τ Γ cc y nL Ts ret rm F) {ix N : Nat} {m0 : Int32} {cA : ClassId} {Cn : String} (t0 : Nat) (d : decode cc pc = .ok (.anewarray ix, 3)) (h1 : Cond.classLink y.cls ix Cn ∈ Ts) (ho : Cn ∈ aoL) (ht : (tysOf τ)[t0]? = some (cA, .object Cn)) (hn : ¬ m0 < 0) (hN : m0.toNatClampNeg = N) (hb0 : N * 4 ≤ 536870912) (hkn : k + 1 ≤ rm.cells ∧ n + N ≤ rm.slots) (hp : pc + 3 = pc') (K : ∀ a : Nat, WM l D Γ nL (k + 1) (n + N) (Wd ++ [(a, .inl (cA, N, .inr (.inr (.inr (.inr (fun _ => none))))))]) pc' lv (.ref a :: st)) : WM l D Γ nL k n Wd pc lv (.int m0 :: st) := by
  subst hp
  obtain ⟨p, e, R, s, m, args, below, meth, c, A, Qc⟩ := Γ
  obtain ⟨hx, hb, hr, hml, hown, hts, hlk, hK, hA, rfl, hnm, hQ⟩ := C
  intro H locs ls hP hD hS hl
  refine va_newq hx hb hown (hts _ h1) (hK.2.2.2.2.1 _ ho) hK.1 hP hD hS hA hn hN hb0 hkn.1 hkn.2 d ?_
  intro a cA' H1 hK1 hP1 hD1 hS1
  obtain ⟨kA1, comp1, -, -, -, e1⟩ := (hK1.2 (tysOf τ).length (cA', .object Cn) (by rw [List.getElem?_append_right (Nat.le_refl _), Nat.sub_self]; rfl)).2
  obtain ⟨kA2, comp2, -, -, -, e2⟩ := (hK.1.2 t0 _ ht).2
  have ec : cA' = cA := Option.some.inj (e1.symm.trans e2)
  subst ec
  exact K a H1 locs ls hP1 hD1 hS1 hl
theorem wm_mna (C : CX D τ Γ cc y nL Ts ret rm F) {ix N M : Nat} {m0 m1 : Int32} {cA cy : ClassId} {ty : FieldType} {z : vp_A} (t0 t1 : Nat) (d : decode cc pc = .ok (.multianewarray ix 2, 4)) (h1 : Cond.classLink y.cls ix ("[" ++ (FieldType.array ty).toString) ∈ Ts) (h2 : Cond.arrayClass ty ∈ Ts) (ho : ty ∈ aaL) (ht : (tysOf τ)[t0]? = some (cA, .array ty)) (ht1 : (tysOf τ)[t1]? = some (cy, ty)) (hno : ∀ X, ty ≠ .object X) (hn : ¬ m0 < 0) (hk : ¬ m1 < 0) (hN : m0.toNatClampNeg = N) (hM : m1.toNatClampNeg = M) (hb1 : N * 4 ≤ 536870912) (hb2 : M * componentBytes ty ≤ 536870912) (hb3 : M ≤ 536870912) (hdf : fits ty (defaultValue ty) = true) (hdd : (defaultValue ty).isDefault = true) (hkn : k + (1 + N) ≤ rm.cells ∧ n + (N + N * M) ≤ rm.slots) (hz : ∀ c : ClassId, Jvm.Free.Multi.innerC c M (defaultValue ty) = vp_cell c z) (hp : pc + 4 = pc')
    (K : ∀ (a : Nat) (r : Nat → Nat), WM l D Γ nL (k + 1 + N) (n + N + N * M) ((Wd ++ [(a, .inl (cA, N, .inr (.inr (.inr (.inr (fun i => if i < N then some (r i) else none))))))]) ++ (List.range N).map (fun i => (r i, .inl (cy, z)))) pc' lv (.ref a :: st)) : WM l D Γ nL k n Wd pc lv (.int m1 :: .int m0 :: st) := by
  subst hp
  obtain ⟨p, e, R, s, m, args, below, meth, c, A, Qc⟩ := Γ
  obtain ⟨hx, hb, hr, hml, hown, hts, hlk, hK, hA, rfl, hnm, hQ⟩ := C
  intro H locs ls hP hD hS hl
  have hcy : s.vm.findClass (FieldType.array ty).toString = some cy := by
    have e2 := (hK.1.2 t1 _ ht1).2
    cases ty <;> first | exact absurd rfl (hno _) | exact e2
  refine va_mna (X := Wd) (L := []) (f := fun _ => .inr (0, [])) hx hb hown (hts _ h1) (hK.2.2.2.2.2 _ ho) (hts _ h2) hcy hK.1 (by show va_P D vwCl (Wd ++ []) H; rw [List.append_nil]; exact hP) (by show va_D A (Wd ++ []); rw [List.append_nil]; exact hD) hS hA hn hk hN hM hb1 hb2 hb3 hdf hdd hkn.1 hkn.2 hz d ?_
  intro a r cA' H1 hinj hnl hK1 hP1 hD1 hS1
  have e1 := (hK1.2 (tysOf τ).length (cA', .array ty) (by rw [List.getElem?_append_right (Nat.le_refl _), Nat.sub_self]; rfl)).2
  have e2 := (hK.1.2 t0 _ ht).2
  have ec : cA' = cA := Option.some.inj ((show _ = some cA' from e1).symm.trans e2)
  subst ec
  have ep : va_pl ([] ++ (List.range N).map r) (vr_up (fun _ => .inr (0, [])) ((List.range N).map r) (.inl (cy, z))) = (List.range N).map (fun i => (r i, .inl (cy, z))) := by
    unfold va_pl
    rw [List.nil_append, List.map_map]
    apply List.map_congr_left
    intro i hi
    show (r i, vr_up _ _ _ (r i)) = _
    rw [vr_up_in (List.mem_map.mpr ⟨i, hi, rfl⟩)]
  rw [ep] at hP1 hD1
  exact K a r H1 locs ls hP1 hD1 hS1 hl
theorem wm_putF (C : CX D τ Γ cc y nL Ts ret rm F) {a ci ix N : Nat} {Cn : String} {T : u_T} {fs : List Value} {v : Value} {ty : FieldType} (d : decode cc pc = .ok (.putfield ix, 3)) (hin : ∀ w ∈ u_ws Cn T N, w ∈ Ts) (ty0 : Nat → FieldType) (hty : ∀ k, k < N → parseFieldDescriptor (T k).2.2.1 = some (ty0 k)) (hnm : ∀ a, a < N → ∀ b, b < N → a ≠ b → (T a).2.1 ≠ (T b).2.1) (q0 : Nat) (he : Wd[q0]? = some (a, .inr (ci, fs))) (hc : vwCl[ci]? = some (Cn, T, N)) (j : Nat) (hj : j < N) (hk : Cond.fieldLink y.cls ix y.cls (T j).2.1 (T j).2.2.1 ∈ Ts) (hs : (T j).1 = y.cls) (hfin : (T j).2.2.2 = true) (hy : y.name = "<init>") (hd : ty0 j = ty) (hn : narrow ty v = v) (hfit : fits ty v = true) (hlen : j < fs.length) (hW : Wd.set q0 (a, .inr (ci, fs.set j v)) = Wd') (hp : pc + 3 = pc') (K : WM l D Γ nL k n Wd' pc' lv st) : WM l D Γ nL k n Wd pc lv (v :: .ref a :: st) := by
  subst hp
  subst hW
  obtain ⟨p, e, R, s, m, args, below, meth, c, A, Qc⟩ := Γ
  obtain ⟨hx, hb, hr, hml, hown, hts, hlk, hK, hA, rfl, hnm2, hQ⟩ := C
  intro H locs ls hP hD hS hl
  exact va_putF hx hb hts hin ty0 hty hnm hown hK.1 hP hD hS q0 he hc j hj (hts _ hk) (by rw [hs]; exact fun _ h9 => h9) hfin (hnm2.trans hy) hs (by rw [hty j hj, hd]) hn hfit hlen d (fun H1 locs1 hP1 hD1 hS1 => K H1 locs1 ls hP1 hD1 hS1 hl)
theorem wm_aast (C : CX D τ Γ cc y nL Ts ret rm F) {a v ci N : Nat} {cA : ClassId} {r : vw_C} {vs : List Value} {f : Nat → Option Nat} {i : Int32} (d : decode cc pc = .ok (.aastore, 1)) (q0 t0 qk : Nat) (ha : Wd[q0]? = some (a, .inl (cA, N, .inr (.inr (.inr (.inr f)))))) (ht : (tysOf τ)[t0]? = some (cA, .object r.1)) (hv : Wd[qk]? = some (v, .inr (ci, vs))) (hc : vwCl[ci]? = some r) (hin : vp_in i N) (hW : Wd.set q0 (a, .inl (cA, N, .inr (.inr (.inr (.inr (va_up f i.toNatClampNeg (some v))))))) = Wd') (hp : pc + 1 = pc') (K : WM l D Γ nL k n Wd' pc' lv st) : WM l D Γ nL k n Wd pc lv (.ref v :: .int i :: .ref a :: st) := by
  subst hp
  subst hW
  obtain ⟨p, e, R, s, m, args, below, meth, c, A, Qc⟩ := Γ
  obtain ⟨hx, hb, hr, hml, hown, hts, hlk, hK, hA, rfl, hnm, hQ⟩ := C
  intro H locs ls hP hD hS hl
  exact va_astq hx hb hK.1 hP hD hS q0 t0 qk ci ha ht hv hc hin d (fun H1 locs1 hP1 hD1 hS1 => K H1 locs1 ls hP1 hD1 hS1 hl)
theorem wm_aastO (C : CX D τ Γ cc y nL Ts ret rm F) {a v ci N : Nat} {cA : ClassId} {E : String} {r : vw_C} {vs : List Value} {f : Nat → Option Nat} {i : Int32} (d : decode cc pc = .ok (.aastore, 1)) (q0 t0 qk : Nat) (ha : Wd[q0]? = some (a, .inl (cA, N, .inr (.inr (.inr (.inr f)))))) (ht : (tysOf τ)[t0]? = some (cA, .object E)) (hca : (r.1, E) ∈ ycPairs) (hv : Wd[qk]? = some (v, .inr (ci, vs))) (hc : vwCl[ci]? = some r) (hin : vp_in i N) (hW : Wd.set q0 (a, .inl (cA, N, .inr (.inr (.inr (.inr (va_up f i.toNatClampNeg (some v))))))) = Wd') (hp : pc + 1 = pc') (K : WM l D Γ nL k n Wd' pc' lv st) : WM l D Γ nL k n Wd pc lv (.ref v :: .int i :: .ref a :: st) := by
  subst hp
  subst hW
  obtain ⟨p, e, R, s, m, args, below, meth, c, A, Qc⟩ := Γ
  obtain ⟨hx, hb, hr, hml, hown, hts, hlk, hK, hA, rfl, hnm, hQ⟩ := C
  intro H locs ls hP hD hS hl
  exact va_astqO hx hb hK.1 hP hD hS q0 t0 qk ci ha ht (hK.2.2.1 _ hca) hv hc hin d (fun H1 locs1 hP1 hD1 hS1 => K H1 locs1 ls hP1 hD1 hS1 hl)
/-- invokespecial of a constructor, the world being the callee's and a rest -/
theorem wm_callI (C : CX D τ Γ cc y nL Ts ret rm F) {ix b nn maxL : Nat} {y2 : MethodName} {ws2 ws2' : List Cond} {rm2 : Room} {As : List Value} {Wc Wr : va_W} {F2 : va_W → Option Value → Prop} {bytes : ByteArray} (d : decode cc pc = .ok (.invokespecial ix, 3)) (hM : Ct l D τ y2 ws2 rm2 (.ref b :: As) Wc F2)
    (hg : GoodIn Ts ws2) (hw : ws2 = Cond.code y2 bytes maxL none :: ws2') (hini : Cond.initialized y2.cls ∈ Ts) (hl1 : Cond.methodLink y.cls ix y2 ∈ Ts) (hin : Cond.instanceMethod y2 ∈ Ts) (hy1 : y2.name = "<init>") (hd : y2.cls ≠ "java/lang/invoke/MethodHandle" ∧ y2.cls ≠ "java/lang/invoke/VarHandle" ∧ (parseMethodDescriptor y2.desc).map (fun d => d.parameters.length) = some nn) (hR : rm2.frames + 1 ≤ rm.frames ∧ 8 + (maxL + 11) + rm2.locals ≤ rm.locals) (hkn : k + rm2.cells ≤ rm.cells ∧ n + rm2.slots ≤ rm.slots)
    (hW : Wd = Wc ++ Wr) (hn : As.length = nn) (hst : st = As.reverse ++ .ref b :: rest) (hrs : (rest.map fun v => v.category).sum ≤ 8) (hp : pc + 3 = pc')
    (K : ∀ (v : Option Value) (Wc' : va_W), F2 Wc' v → WM l D Γ nL (k + rm2.cells) (n + rm2.slots) (Wc' ++ Wr) pc' lv (v.toList ++ rest)) : WM l D Γ nL k n Wd pc lv st := by
  subst hp
  subst hW
  subst hst
  obtain ⟨p, e, R, s, m, args, below, meth, c, A, Qc⟩ := Γ
  obtain ⟨hx, hb, hr, hml, hown, hts, hlk, hK, hA, rfl, hnm, hQ⟩ := C
  intro H locs ls hP hD hS hl
  have hPc := va_leftP hP
  refine wm_after (va_runI (As := As) (rest := rest) (cc := cc) (nL := nL) (Ts := Ts) (own := y.cls) ⟨hx, hb, hml, hown, hts⟩ (hM H.size) (cwI nn hts hg hw rfl rfl (hts _ hini) (hts _ hl1) (hts _ hin) hy1 hd hR) ⟨pc_blind, fun U hU hW => ⟨rfl, by rw [hU], by rw [hU]; exact hPc, KK.warm hW hK, (va_leftD hD).weaken (fun _ _ _ _ => trivial)⟩⟩ rfl hn hl.1 rfl (lv_room hrs) d hkn) hP hD hS hA ?_
  intro v Wc' H1 locs1 hF hP1 hD1 hS1
  exact K v Wc' hF H1 locs1 ls hP1 hD1 hS1 hl
/-- the same of a private constructor of a nest mate -/
theorem wm_callIN (C : CX D τ Γ cc y nL Ts ret rm F) {ix b nn maxL : Nat} {y2 : MethodName} {ws2 ws2' : List Cond} {rm2 : Room} {As : List Value} {Wc Wr : va_W} {F2 : va_W → Option Value → Prop} {bytes : ByteArray} (d : decode cc pc = .ok (.invokespecial ix, 3)) (hM : Ct l D τ y2 ws2 rm2 (.ref b :: As) Wc F2)
    (hg : GoodIn Ts ws2) (hw : ws2 = Cond.code y2 bytes maxL none :: ws2') (hini : Cond.initialized y2.cls ∈ Ts) (hnest : (y.cls, ix, y2) ∈ nestL) (hin : Cond.instanceMethod y2 ∈ Ts) (hy1 : y2.name = "<init>") (hd : y2.cls ≠ "java/lang/invoke/MethodHandle" ∧ y2.cls ≠ "java/lang/invoke/VarHandle" ∧ (parseMethodDescriptor y2.desc).map (fun d => d.parameters.length) = some nn) (hR : rm2.frames + 1 ≤ rm.frames ∧ 8 + (maxL + 11) + rm2.locals ≤ rm.locals) (hkn : k + rm2.cells ≤ rm.cells ∧ n + rm2.slots ≤ rm.slots)
    (hW : Wd = Wc ++ Wr) (hn : As.length = nn) (hst : st = As.reverse ++ .ref b :: rest) (hrs : (rest.map fun v => v.category).sum ≤ 8) (hp : pc + 3 = pc')
    (K : ∀ (v : Option Value) (Wc' : va_W), F2 Wc' v → WM l D Γ nL (k + rm2.cells) (n + rm2.slots) (Wc' ++ Wr) pc' lv (v.toList ++ rest)) : WM l D Γ nL k n Wd pc lv st := by
  subst hp
  subst hW
  subst hst
  obtain ⟨p, e, R, s, m, args, below, meth, c, A, Qc⟩ := Γ
  obtain ⟨hx, hb, hr, hml, hown, hts, hlk, hK, hA, rfl, hnm, hQ⟩ := C
  intro H locs ls hP hD hS hl
  have hPc := va_leftP hP
  refine wm_after (va_runIN (As := As) (rest := rest) (cc := cc) (nL := nL) (Ts := Ts) (own := y.cls) (host := "WideningCracks") ⟨hx, hb, hml, hown, hts⟩ (hM H.size) ⟨va_cnB nn hts hg hw rfl rfl (hK.2.2.2.1 _ hnest) (hts _ hini) hd hR, hy1, hts _ hin⟩ ⟨pc_blind, fun U hU hW => ⟨rfl, by rw [hU], by rw [hU]; exact hPc, KK.warm hW hK, (va_leftD hD).weaken (fun _ _ _ _ => trivial)⟩⟩ rfl hn hl.1 rfl (lv_room hrs) d hkn) hP hD hS hA ?_
  intro v Wc' H1 locs1 hF hP1 hD1 hS1
  exact K v Wc' hF H1 locs1 ls hP1 hD1 hS1 hl
theorem wm_aret {cn : String} (C : CX D τ Γ cc y nL Ts (some (.object cn)) rm F) {v : Nat} (d : decode cc pc = .ok (.areturn, 1)) (hk : k ≤ rm.cells) (hn : n ≤ rm.slots) (hF : F Wd (some (.ref v))) : WM l D Γ nL k n Wd pc lv [.ref v] := by
  obtain ⟨p, e, R, s, m, args, below, meth, c, A, Qc⟩ := Γ
  obtain ⟨hx, hb, hr, hml, hown, hts, hlk, hK, hA, rfl, hnm, hQ⟩ := C
  intro H locs ls hP hD hS hl
  obtain ⟨Qc, hQe, hQ⟩ := hQ
  rw [hQe _ _ hF]
  refine W.widen hk hn ?_
  exact W.aret hx hb hr (Or.inl ⟨_, rfl⟩) (Or.inr ⟨_, rfl⟩) (fun t ht hW => hQ t _ Wd hW hF (by rw [ht]; exact hP) hD (hS.F ht)) hS.2.2 d hlk
end MYA

