theorem nar_b {v : Int32} (h : v = 0 ∨ v = 1) : narrow .boolean (.int v) = .int v := by
  rcases h with rfl | rfl <;> rfl
section MYX
variable {l : Launch} {D : va_G} {τ : CId} {Γ : CT} {cc : ByteArray} {y : MethodName} {nL k n : Nat} {Ts : List Cond} {ret : Option FieldType} {rm : Room} {F : va_W → Option Value → Prop} {Wd Wd' : va_W} {pc pc' : Nat} {lv lv' : List (Nat × Value)} {st rest : List Value} {q : Nat → Nat} {nc : Nat} {σ σ' : MS}
theorem wm_ishl (C : CX D τ Γ cc y nL Ts ret rm F) {x z : Int32} (d : decode cc pc = .ok (.ishl, 1)) (hp : pc + 1 = pc') (K : WM l D Γ nL k n Wd pc' lv (.int (x <<< (z &&& 31)) :: st)) : WM l D Γ nL k n Wd pc lv (.int z :: .int x :: st) := by
  subst hp
  obtain ⟨p, e, R, s, m, args, below, meth, c, A, Qc⟩ := Γ
  obtain ⟨hx, hb, hr, hml, hown, hts, hlk, hK, hA, rfl, hnm, hQ⟩ := C
  intro H locs ls hP hD hS hl
  exact lv_ishl hx hb d (K H locs ls hP hD hS hl)
theorem wm_ishr (C : CX D τ Γ cc y nL Ts ret rm F) {x z : Int32} (d : decode cc pc = .ok (.ishr, 1)) (hp : pc + 1 = pc') (K : WM l D Γ nL k n Wd pc' lv (.int (x >>> (z &&& 31)) :: st)) : WM l D Γ nL k n Wd pc lv (.int z :: .int x :: st) := by
  subst hp
  obtain ⟨p, e, R, s, m, args, below, meth, c, A, Qc⟩ := Γ
  obtain ⟨hx, hb, hr, hml, hown, hts, hlk, hK, hA, rfl, hnm, hQ⟩ := C
  intro H locs ls hP hD hS hl
  exact lv_ishr hx hb d (K H locs ls hP hD hS hl)
theorem wm_iushr (C : CX D τ Γ cc y nL Ts ret rm F) {x z : Int32} (d : decode cc pc = .ok (.iushr, 1)) (hp : pc + 1 = pc') (K : WM l D Γ nL k n Wd pc' lv (.int (x.toUInt32 >>> (z.toUInt32 &&& Int32.toUInt32 31)).toInt32 :: st)) : WM l D Γ nL k n Wd pc lv (.int z :: .int x :: st) := by
  subst hp
  obtain ⟨p, e, R, s, m, args, below, meth, c, A, Qc⟩ := Γ
  obtain ⟨hx, hb, hr, hml, hown, hts, hlk, hK, hA, rfl, hnm, hQ⟩ := C
  intro H locs ls hP hD hS hl
  exact lv_iushr hx hb d rfl (K H locs ls hP hD hS hl)
theorem wm_ldcw (C : CX D τ Γ cc y nL Ts ret rm F) {ix : Nat} {v : Int32} (d : decode cc pc = .ok (.ldc_w ix, 3)) (hv : Cond.constant y.cls ix v ∈ Ts) (hp : pc + 3 = pc') (K : WM l D Γ nL k n Wd pc' lv (.int v :: st)) : WM l D Γ nL k n Wd pc lv st := by
  subst hp
  obtain ⟨p, e, R, s, m, args, below, meth, c, A, Qc⟩ := Γ
  obtain ⟨hx, hb, hr, hml, hown, hts, hlk, hK, hA, rfl, hnm, hQ⟩ := C
  intro H locs ls hP hD hS hl
  exact lv_ldcw hx hb hown (hts _ hv) d (K H locs ls hP hD hS hl)
theorem wm_alen (C : CX D τ Γ cc y nL Ts ret rm F) {a N : Nat} {cA : ClassId} {f : Nat → Int64} {v : Int32} (d : decode cc pc = .ok (.arraylength, 1)) (q0 : Nat) (ha : Wd[q0]? = some (a, .inl (cA, N, .inr (.inl f)))) (ht : (tysOf τ)[1]? = some (cA, .long)) (hv : N.toInt32 = v) (hp : pc + 1 = pc') (K : WM l D Γ nL k n Wd pc' lv (.int v :: st)) : WM l D Γ nL k n Wd pc lv (.ref a :: st) := by
  subst hp
  subst hv
  obtain ⟨p, e, R, s, m, args, below, meth, c, A, Qc⟩ := Γ
  obtain ⟨hx, hb, hr, hml, hown, hts, hlk, hK, hA, rfl, hnm, hQ⟩ := C
  intro H locs ls hP hD hS hl
  exact W.alen hx hb (hP q0 _ ha) ((hK.1.2 1 _ ht).1 N (fun j => .long (f j))) (by show (arrV _ _ _).slots.size.toInt32 = _; rw [arrV_size]) rfl rfl d (K H locs ls hP hD hS hl)
theorem wm_aald (C : CX D τ Γ cc y nL Ts ret rm F) {a N b : Nat} {cA : ClassId} {ty : FieldType} {f : Nat → Option Nat} {i : Int32} (d : decode cc pc = .ok (.aaload, 1)) (q0 t0 : Nat) (ha : Wd[q0]? = some (a, .inl (cA, N, .inr (.inr (.inr (.inr f)))))) (ht : (tysOf τ)[t0]? = some (cA, ty)) (hty : ty.isReference = true) (hin : vp_in i N) (hb2 : f i.toNatClampNeg = some b) (hp : pc + 1 = pc') (K : WM l D Γ nL k n Wd pc' lv (.ref b :: st)) : WM l D Γ nL k n Wd pc lv (.int i :: .ref a :: st) := by
  subst hp
  obtain ⟨p, e, R, s, m, args, below, meth, c, A, Qc⟩ := Γ
  obtain ⟨hx, hb, hr, hml, hown, hts, hlk, hK, hA, rfl, hnm, hQ⟩ := C
  intro H locs ls hP hD hS hl
  have hlt : i.toNatClampNeg < N := Nat.not_le.mp fun z => hin (Or.inr z)
  exact W.aald (v := .ref b) (ty := ty) hx hb (hP q0 _ ha) ((hK.1.2 t0 _ ht).1 N (fun j => va_rf (f j))) hty (fun z => by cases z) (by show ¬ (i < 0 ∨ (arrV _ _ _).slots.size ≤ _); rw [arrV_size]; exact hin) (by show (arrV _ _ _).slots[_]? = _; rw [arrV_read _ _ hlt, hb2]; rfl) rfl rfl d (K H locs ls hP hD hS hl)
theorem wm_maxI (C : CX D τ Γ cc y nL Ts ret rm F) {ix : Nat} {x z : Int32} (d : decode cc pc = .ok (.invokestatic ix, 3)) (h1 : Cond.methodLink y.cls ix Lib.Math.max.name ∈ Ts) (h2 : Cond.static Lib.Math.max.name ∈ Ts) (h3 : Cond.initialized "java/lang/Math" ∈ Ts) (h4 : Cond.code Lib.Math.max.name Lib.Math.max.code 2 (some .int) ∈ Ts) (hR : 1 ≤ rm.frames ∧ (st.map fun v => v.category).sum + 13 ≤ rm.locals) (hkn : k ≤ rm.cells ∧ n ≤ rm.slots) (hp : pc + 3 = pc') (K : WM l D Γ nL k n Wd pc' lv (.int (if x < z then z else x) :: st)) : WM l D Γ nL k n Wd pc lv (.int z :: .int x :: st) := by
  subst hp
  obtain ⟨p, e, R, s, m, args, below, meth, c, A, Qc⟩ := Γ
  obtain ⟨hx, hb, hr, hml, hown, hts, hlk, hK, hA, rfl, hnm, hQ⟩ := C
  intro H locs ls hP hD hS hl
  exact va_mmax hx hb (hml.trans hl.1.symm) hown (hts _ h1) (hts _ h2) (hts _ h3) (hts _ h4) hR.1 hR.2 hkn.1 hkn.2 d (K H locs ls hP hD hS hl)
theorem wm_minI (C : CX D τ Γ cc y nL Ts ret rm F) {ix : Nat} {x z : Int32} (d : decode cc pc = .ok (.invokestatic ix, 3)) (h1 : Cond.methodLink y.cls ix Lib.Math.min.name ∈ Ts) (h2 : Cond.static Lib.Math.min.name ∈ Ts) (h3 : Cond.initialized "java/lang/Math" ∈ Ts) (h4 : Cond.code Lib.Math.min.name Lib.Math.min.code 2 (some .int) ∈ Ts) (hR : 1 ≤ rm.frames ∧ (st.map fun v => v.category).sum + 13 ≤ rm.locals) (hkn : k ≤ rm.cells ∧ n ≤ rm.slots) (hp : pc + 3 = pc') (K : WM l D Γ nL k n Wd pc' lv (.int (if z < x then z else x) :: st)) : WM l D Γ nL k n Wd pc lv (.int z :: .int x :: st) := by
  subst hp
  obtain ⟨p, e, R, s, m, args, below, meth, c, A, Qc⟩ := Γ
  obtain ⟨hx, hb, hr, hml, hown, hts, hlk, hK, hA, rfl, hnm, hQ⟩ := C
  intro H locs ls hP hD hS hl
  exact va_mmin hx hb (hml.trans hl.1.symm) hown (hts _ h1) (hts _ h2) (hts _ h3) (hts _ h4) hR.1 hR.2 hkn.1 hkn.2 d (K H locs ls hP hD hS hl)
theorem wm_maxL (C : CX D τ Γ cc y nL Ts ret rm F) {ix : Nat} {x z : Int64} (d : decode cc pc = .ok (.invokestatic ix, 3)) (h1 : Cond.methodLink y.cls ix Lib.MathLoose.max_long.x ∈ Ts) (h2 : Cond.static Lib.MathLoose.max_long.x ∈ Ts) (h3 : Cond.initialized "java/lang/Math" ∈ Ts) (h4 : Cond.code Lib.MathLoose.max_long.x Lib.MathLoose.max_long.code 4 (some .long) ∈ Ts) (hR : 1 ≤ rm.frames ∧ (st.map fun v => v.category).sum + 15 ≤ rm.locals) (hkn : k ≤ rm.cells ∧ n ≤ rm.slots) (hp : pc + 3 = pc') (K : WM l D Γ nL k n Wd pc' lv (.long (if z < x then x else z) :: st)) : WM l D Γ nL k n Wd pc lv (.long z :: .long x :: st) := by
  subst hp
  obtain ⟨p, e, R, s, m, args, below, meth, c, A, Qc⟩ := Γ
  obtain ⟨hx, hb, hr, hml, hown, hts, hlk, hK, hA, rfl, hnm, hQ⟩ := C
  intro H locs ls hP hD hS hl
  exact va_mmax_long hx hb (hml.trans hl.1.symm) hown (hts _ h1) (hts _ h2) (hts _ h3) (hts _ h4) hR.1 hR.2 hkn.1 hkn.2 d (K H locs ls hP hD hS hl)
theorem wm_minL (C : CX D τ Γ cc y nL Ts ret rm F) {ix : Nat} {x z : Int64} (d : decode cc pc = .ok (.invokestatic ix, 3)) (h1 : Cond.methodLink y.cls ix Lib.MathLoose.min_long.x ∈ Ts) (h2 : Cond.static Lib.MathLoose.min_long.x ∈ Ts) (h3 : Cond.initialized "java/lang/Math" ∈ Ts) (h4 : Cond.code Lib.MathLoose.min_long.x Lib.MathLoose.min_long.code 4 (some .long) ∈ Ts) (hR : 1 ≤ rm.frames ∧ (st.map fun v => v.category).sum + 15 ≤ rm.locals) (hkn : k ≤ rm.cells ∧ n ≤ rm.slots) (hp : pc + 3 = pc') (K : WM l D Γ nL k n Wd pc' lv (.long (if z < x then z else x) :: st)) : WM l D Γ nL k n Wd pc lv (.long z :: .long x :: st) := by
  subst hp
  obtain ⟨p, e, R, s, m, args, below, meth, c, A, Qc⟩ := Γ
  obtain ⟨hx, hb, hr, hml, hown, hts, hlk, hK, hA, rfl, hnm, hQ⟩ := C
  intro H locs ls hP hD hS hl
  exact va_mmin_long hx hb (hml.trans hl.1.symm) hown (hts _ h1) (hts _ h2) (hts _ h3) (hts _ h4) hR.1 hR.2 hkn.1 hkn.2 d (K H locs ls hP hD hS hl)
theorem wm_absL (C : CX D τ Γ cc y nL Ts ret rm F) {ix : Nat} {x : Int64} (d : decode cc pc = .ok (.invokestatic ix, 3)) (h1 : Cond.methodLink y.cls ix Lib.MathLoose.abs_long.x ∈ Ts) (h2 : Cond.static Lib.MathLoose.abs_long.x ∈ Ts) (h3 : Cond.initialized "java/lang/Math" ∈ Ts) (h4 : Cond.code Lib.MathLoose.abs_long.x Lib.MathLoose.abs_long.code 2 (some .long) ∈ Ts) (hR : 1 ≤ rm.frames ∧ (st.map fun v => v.category).sum + 13 ≤ rm.locals) (hkn : k ≤ rm.cells ∧ n ≤ rm.slots) (hp : pc + 3 = pc') (K : WM l D Γ nL k n Wd pc' lv (.long (if 0 < x then x else -x) :: st)) : WM l D Γ nL k n Wd pc lv (.long x :: st) := by
  subst hp
  obtain ⟨p, e, R, s, m, args, below, meth, c, A, Qc⟩ := Γ
  obtain ⟨hx, hb, hr, hml, hown, hts, hlk, hK, hA, rfl, hnm, hQ⟩ := C
  intro H locs ls hP hD hS hl
  exact va_mabs_long hx hb (hml.trans hl.1.symm) hown (hts _ h1) (hts _ h2) (hts _ h3) (hts _ h4) hR.1 hR.2 hkn.1 hkn.2 d (K H locs ls hP hD hS hl)
/-- invokevirtual of an inherited method (U) or of an overriding one (O), the whole world being the callee's -/
theorem wm_callC (C : CX D τ Γ cc y nL Ts ret rm F) {Cn owner : String} {T : u_T} {N ix b nn maxL ci : Nat} {x2 y2 : MethodName} {ws2 : List Cond} {rm2 : Room} {As fs : List Value} {W2 : va_W} {v2 : Option Value} {bytes : ByteArray} {ret2 : Option FieldType} (d : decode cc pc = .ok (.invokevirtual ix, 3)) (hM : Ct l D τ y2 ws2 rm2 (.ref b :: As) Wd (FD W2 v2))
    (cw : ∀ (s : State) (args : Array Value), (∀ w ∈ Ts, w.before args s = true) → va_CU rm s args y.cls Cn owner ix x2 y2 bytes maxL ret2 ws2 rm2 rm2.cells rm2.slots nn) (hk0 : rm2.cells = 0) (hs0 : rm2.slots = 0) (hkn : k ≤ rm.cells ∧ n ≤ rm.slots)
    (q0 : Nat) (he : Wd[q0]? = some (b, .inr (ci, fs))) (hc : vwCl[ci]? = some (Cn, T, N)) (hn : As.length = nn) (hst : st = As.reverse ++ .ref b :: rest) (hrs : (rest.map fun v => v.category).sum ≤ 8) {st' : List Value} (hst' : v2.toList ++ rest = st') (hp : pc + 3 = pc')
    (K : WM l D Γ nL k n W2 pc' lv st') : WM l D Γ nL k n Wd pc lv st := by
  subst hp
  subst hst
  subst hst'
  obtain ⟨p, e, R, s, m, args, below, meth, c, A, Qc⟩ := Γ
  obtain ⟨hx, hb, hr, hml, hown, hts, hlk, hK, hA, rfl, hnm, hQ⟩ := C
  intro H locs ls hP hD hS hl
  refine wm_after (Wc := Wd) (Wr := []) (va_runU (As := As) (rest := rest) (cc := cc) (nL := nL) (Ts := Ts) (own := y.cls) ⟨hx, hb, hml, hown, hts⟩ (hM H.size) (cw s args hts) ⟨pc_blind, va_recv hK.1 hP hc he, fun U hU hW => ⟨rfl, by rw [hU], by rw [hU]; exact hP, KK.warm hW hK, hD.weaken (fun _ _ _ _ => trivial)⟩⟩ rfl hn hl.1 rfl (lv_room hrs) d (by rw [hk0, hs0]; exact hkn)) (by rw [List.append_nil]; exact hP) (by rw [List.append_nil]; exact hD) hS hA ?_
  intro v Wc' H1 locs1 hF hP1 hD1 hS1
  obtain ⟨rfl, rfl⟩ := hF
  rw [List.append_nil] at hP1 hD1
  rw [hk0, hs0]
  exact K H1 locs1 ls hP1 hD1 hS1 hl
theorem cw_U {Cn owner : String} {ix maxL nn : Nat} {x2 y2 : MethodName} {bytes : ByteArray} {ret2 : Option FieldType} {ws2 ws2' : List Cond} {rm2 : Room} (hT : GoodIn Ts (va_wsU y.cls ix Cn owner x2 y2 ws2)) (hw : ws2 = Cond.code y2 bytes maxL ret2 :: ws2') (hyx : y2 = ⟨owner, x2.name, x2.desc⟩) (hd : owner ≠ "java/lang/invoke/MethodHandle" ∧ owner ≠ "java/lang/invoke/VarHandle" ∧ (parseMethodDescriptor x2.desc).map (fun d => d.parameters.length) = some nn) (hR : rm2.frames + 1 ≤ rm.frames ∧ 8 + (maxL + 11) + rm2.locals ≤ rm.locals) : ∀ (s : State) (args : Array Value), (∀ w ∈ Ts, w.before args s = true) → va_CU rm s args y.cls Cn owner ix x2 y2 bytes maxL ret2 ws2 rm2 rm2.cells rm2.slots nn := fun _ _ ht => va_cwU nn ht hT hw rfl rfl hyx hd hR
theorem cw_O {Cn owner : String} {ix maxL nn : Nat} {x2 y2 : MethodName} {bytes : ByteArray} {ret2 : Option FieldType} {ws2 ws2' : List Cond} {rm2 : Room} (hT : GoodIn Ts (va_wsO y.cls ix Cn owner x2 y2 ws2)) (hw : ws2 = Cond.code y2 bytes maxL ret2 :: ws2') {b0 : ByteArray} {m0 : Nat} {r0 : Option FieldType} (h0 : Cond.code ⟨owner, x2.name, x2.desc⟩ b0 m0 r0 ∈ Ts) (hd : owner ≠ "java/lang/invoke/MethodHandle" ∧ owner ≠ "java/lang/invoke/VarHandle" ∧ (parseMethodDescriptor x2.desc).map (fun d => d.parameters.length) = some nn) (hR : rm2.frames + 1 ≤ rm.frames ∧ 8 + (maxL + 11) + rm2.locals ≤ rm.locals) : ∀ (s : State) (args : Array Value), (∀ w ∈ Ts, w.before args s = true) → va_CU rm s args y.cls Cn owner ix x2 y2 bytes maxL ret2 ws2 rm2 rm2.cells rm2.slots nn := fun _ _ ht => va_cwO nn ht hT hw rfl rfl h0 hd hR
/-- invokestatic of a private method of the nest's host that looks at no cell -/
theorem wm_callSN (C : CX D τ Γ cc y nL Ts ret rm F) {ix nn maxL : Nat} {y2 : MethodName} {ws2 ws2' : List Cond} {rm2 : Room} {As : List Value} {v2 : Option Value} {bytes : ByteArray} {ret2 : Option FieldType} (d : decode cc pc = .ok (.invokestatic ix, 3)) (hM : Ct l D τ y2 ws2 rm2 As [] (FD [] v2))
    (hg : GoodIn Ts ws2) (hw : ws2 = Cond.code y2 bytes maxL ret2 :: ws2') (hnest : (y.cls, ix, y2) ∈ nestL) (hini : Cond.initialized y2.cls ∈ Ts) (hst2 : Cond.static y2 ∈ Ts) (hd : y2.cls ≠ "java/lang/invoke/MethodHandle" ∧ y2.cls ≠ "java/lang/invoke/VarHandle" ∧ (parseMethodDescriptor y2.desc).map (fun d => d.parameters.length) = some nn) (hR : rm2.frames + 1 ≤ rm.frames ∧ 8 + (maxL + 11) + rm2.locals ≤ rm.locals) (hk0 : rm2.cells = 0) (hs0 : rm2.slots = 0) (hkn : k ≤ rm.cells ∧ n ≤ rm.slots)
    (hn : As.length = nn) (hst : st = As.reverse ++ rest) (hrs : (rest.map fun v => v.category).sum ≤ 8) {st' : List Value} (hst' : v2.toList ++ rest = st') (hp : pc + 3 = pc')
    (K : WM l D Γ nL k n Wd pc' lv st') : WM l D Γ nL k n Wd pc lv st := by
  subst hp
  subst hst
  subst hst'
  obtain ⟨p, e, R, s, m, args, below, meth, c, A, Qc⟩ := Γ
  obtain ⟨hx, hb, hr, hml, hown, hts, hlk, hK, hA, rfl, hnm, hQ⟩ := C
  intro H locs ls hP hD hS hl
  refine wm_after (Wc := []) (Wr := Wd) (va_runSN (As := As) (rest := rest) (cc := cc) (nL := nL) (Ts := Ts) (own := y.cls) (host := "WideningCracks") ⟨hx, hb, hml, hown, hts⟩ (hM H.size) ⟨va_cnB nn hts hg hw rfl rfl (hK.2.2.2.1 _ hnest) (hts _ hini) hd hR, hts _ hst2, trivial⟩ ⟨pc_blind, fun U hU hW => ⟨rfl, by rw [hU], fun k9 q9 h9 => by simp at h9, KK.warm hW hK, ⟨fun i j p q h => by simp at h, fun k q h => by simp at h⟩⟩⟩ rfl hn hl.1 rfl (lv_room hrs) d (by rw [hk0, hs0]; exact hkn)) hP hD hS hA ?_
  intro v Wc' H1 locs1 hF hP1 hD1 hS1
  obtain ⟨rfl, rfl⟩ := hF
  rw [hk0, hs0]
  exact K H1 locs1 ls hP1 hD1 hS1 hl
/-- invokestatic over the whole world -/
theorem wm_callSW (C : CX D τ Γ cc y nL Ts ret rm F) {ix nn maxL : Nat} {y2 : MethodName} {ws2 ws2' : List Cond} {rm2 : Room} {As : List Value} {W2 : va_W} {v2 : Option Value} {bytes : ByteArray} {ret2 : Option FieldType} (d : decode cc pc = .ok (.invokestatic ix, 3)) (hM : Ct l D τ y2 ws2 rm2 As Wd (FD W2 v2))
    (hg : GoodIn Ts (va_wsS y.cls ix y2 ws2)) (hw : ws2 = Cond.code y2 bytes maxL ret2 :: ws2') (hd : y2.cls ≠ "java/lang/invoke/MethodHandle" ∧ y2.cls ≠ "java/lang/invoke/VarHandle" ∧ (parseMethodDescriptor y2.desc).map (fun d => d.parameters.length) = some nn) (hR : rm2.frames + 1 ≤ rm.frames ∧ 8 + (maxL + 11) + rm2.locals ≤ rm.locals) (hk0 : rm2.cells = 0) (hs0 : rm2.slots = 0) (hkn : k ≤ rm.cells ∧ n ≤ rm.slots)
    (hn : As.length = nn) (hst : st = As.reverse ++ rest) (hrs : (rest.map fun v => v.category).sum ≤ 8) {st' : List Value} (hst' : v2.toList ++ rest = st') (hp : pc + 3 = pc')
    (K : WM l D Γ nL k n W2 pc' lv st') : WM l D Γ nL k n Wd pc lv st := by
  refine wm_callS (Wc := Wd) (Wr := []) C d hM hg hw hd hR (by rw [hk0, hs0]; exact hkn) (List.append_nil Wd).symm hn hst hrs hp (fun v Wc' hF => ?_)
  obtain ⟨rfl, rfl⟩ := hF
  rw [hk0, hs0, List.append_nil, hst']
  exact K
/-! rows over the class's world -/
theorem x_get (C : CX D τ Γ cc y nL Ts ret rm F) {a ci ix N : Nat} {ref Cn : String} {T : u_T} {fs : List Value} {v : Value} (d : decode cc pc = .ok (.getfield ix, 3)) (hin : ∀ w ∈ u_ws Cn T N, w ∈ Ts) (p0 : Nat) (hp0 : p0 < 49 + nc) (he : xC τ q nc σ p0 = (a, .inr (ci, fs))) (hc : vwCl[ci]? = some (Cn, T, N)) (j : Nat) (hj : j < N) (hk : Cond.fieldLink y.cls ix ref (T j).2.1 (T j).2.2.1 ∈ Ts) (hs : ref = (T j).1 ∨ Cond.sameField ref (T j).1 (T j).2.1 (T j).2.2.1 ∈ Ts) (hv : fs[j]? = some v) (hp : pc + 3 = pc') (K : WM l D Γ nL k n (xW τ q nc σ) pc' lv (v :: st)) : WM l D Γ nL k n (xW τ q nc σ) pc lv (.ref a :: st) := wm_get C d hin p0 ((xW_at hp0).trans (congrArg some he)) hc j hj hk hs hv hp K
theorem x_put (C : CX D τ Γ cc y nL Ts ret rm F) {a ci ix N : Nat} {ref Cn : String} {T : u_T} {fs : List Value} {v : Value} {ty : FieldType} (d : decode cc pc = .ok (.putfield ix, 3)) (hin : ∀ w ∈ u_ws Cn T N, w ∈ Ts) (ty0 : Nat → FieldType) (hty : ∀ k, k < N → parseFieldDescriptor (T k).2.2.1 = some (ty0 k)) (hnm : ∀ a, a < N → ∀ b, b < N → a ≠ b → (T a).2.1 ≠ (T b).2.1) (p0 : Nat) (hp0 : p0 < 49 + nc) (he : xC τ q nc σ p0 = (a, .inr (ci, fs))) (hc : vwCl[ci]? = some (Cn, T, N)) (j : Nat) (hj : j < N) (hk : Cond.fieldLink y.cls ix ref (T j).2.1 (T j).2.2.1 ∈ Ts) (hs : ref = (T j).1 ∨ Cond.sameField ref (T j).1 (T j).2.1 (T j).2.2.1 ∈ Ts) (hfin : (T j).2.2.2 = false) (hd : ty0 j = ty) (hn : narrow ty v = v) (hfit : fits ty v = true) (hlen : j < fs.length) (h1 : ∀ j, j ≠ p0 → xC τ q nc σ' j = xC τ q nc σ j) (h2 : xC τ q nc σ' p0 = (a, .inr (ci, fs.set j v))) (hp : pc + 3 = pc') (K : WM l D Γ nL k n (xW τ q nc σ') pc' lv st) : WM l D Γ nL k n (xW τ q nc σ) pc lv (v :: .ref a :: st) := wm_put C d hin ty0 hty hnm p0 ((xW_at hp0).trans (congrArg some he)) hc j hj hk hs hfin hd hn hfit hlen (xW_set h1 h2) hp K
theorem x_at {p0 : Nat} {e : Nat × va_E} (hp0 : p0 < 49 + nc) (he : xC τ q nc σ p0 = e) : (xW τ q nc σ)[p0]? = some e := (xW_at hp0).trans (congrArg some he)
theorem refs_at {b m i : Nat} (h : i < m) : refs q b m i = some (q (b + i)) := if_pos h
def In5 (Ts : List Cond) : Prop := (∀ w ∈ wsX00, w ∈ Ts) ∧ (∀ w ∈ wsX20, w ∈ Ts) ∧ (∀ w ∈ wsX30, w ∈ Ts) ∧ (∀ w ∈ wsX70, w ∈ Ts) ∧ (∀ w ∈ wsX100, w ∈ Ts)
theorem TX0_eq : ∀ j, TX0 j = TX2 j
  | 0 => rfl | 1 => rfl | 2 => rfl | 3 => rfl | _ + 4 => rfl
theorem TX3_eq : ∀ j, TX3 j = TX2 j
  | 0 => rfl | 1 => rfl | 2 => rfl | 3 => rfl | _ + 4 => rfl
theorem TX7_eq : ∀ j, TX7 j = TX2 j
  | 0 => rfl | 1 => rfl | 2 => rfl | 3 => rfl | _ + 4 => rfl
theorem TX10_eq : ∀ j, TX10 j = TX2 j
  | 0 => rfl | 1 => rfl | 2 => rfl | 3 => rfl | _ + 4 => rfl
theorem kci5 (z : Int32) : (z = 1 ∧ kci z = 10) ∨ (¬ z = 1 ∧ z = 2 ∧ kci z = 0) ∨ (¬ z = 1 ∧ ¬ z = 2 ∧ z = 3 ∧ kci z = 3) ∨ (¬ z = 1 ∧ ¬ z = 2 ∧ ¬ z = 3 ∧ z = 4 ∧ kci z = 7) ∨ (¬ z = 1 ∧ ¬ z = 2 ∧ ¬ z = 3 ∧ ¬ z = 4 ∧ kci z = 2) := by
  by_cases h1 : z = 1
  · exact Or.inl ⟨h1, if_pos h1⟩
  · by_cases h2 : z = 2
    · exact Or.inr (Or.inl ⟨h1, h2, by unfold kci; rw [if_neg h1, if_pos h2]⟩)
    · by_cases h3 : z = 3
      · exact Or.inr (Or.inr (Or.inl ⟨h1, h2, h3, by unfold kci; rw [if_neg h1, if_neg h2, if_pos h3]⟩))
      · by_cases h4 : z = 4
        · exact Or.inr (Or.inr (Or.inr (Or.inl ⟨h1, h2, h3, h4, by unfold kci; rw [if_neg h1, if_neg h2, if_neg h3, if_pos h4]⟩)))
        · exact Or.inr (Or.inr (Or.inr (Or.inr ⟨h1, h2, h3, h4, by unfold kci; rw [if_neg h1, if_neg h2, if_neg h3, if_neg h4]⟩)))
def xKf (σ : MS) (c : Nat) : List Value := [.int (gA σ 5 c), .int (gA σ 6 c), .int (gA σ 9 c), .int (gA σ 8 c), .int (gA σ 10 c)]
theorem x_crackAt {e ci : Nat} (he : e < nc) (h : kci (gA σ 7 e) = ci) : (xW τ q nc σ)[49 + e]? = some (q (200 + e), .inr (ci, xKf σ e)) := x_at (by omega) (by rw [xC_crack]; unfold xK; rw [h]; rfl)
theorem x_coreAt {e : Nat} (he : e < 4) : (xW τ q nc σ)[19 + e]? = some (q (80 + e), .inr (1, [.ref (q (90 + e)), .int (gA σ 40 e), .int (gA σ 41 e), .int (gA σ 42 e)])) := x_at (by omega) (xC_core he)
theorem x_getC (C : CX D τ Γ cc y nL Ts ret rm F) {ix e : Nat} {ref : String} {v : Value} (d : decode cc pc = .ok (.getfield ix, 3)) (h5 : In5 Ts) (he : e < nc) (j : Nat) (hj : j < 5) (hk : Cond.fieldLink y.cls ix ref (TX2 j).2.1 (TX2 j).2.2.1 ∈ Ts) (hs : ref = (TX2 j).1 ∨ Cond.sameField ref (TX2 j).1 (TX2 j).2.1 (TX2 j).2.2.1 ∈ Ts) (hv : (xKf σ e)[j]? = some v) (hp : pc + 3 = pc') (K : WM l D Γ nL k n (xW τ q nc σ) pc' lv (v :: st)) : WM l D Γ nL k n (xW τ q nc σ) pc lv (.ref (q (200 + e)) :: st) := by
  rcases kci5 (gA σ 7 e) with ⟨-, h⟩ | ⟨-, -, h⟩ | ⟨-, -, -, h⟩ | ⟨-, -, -, -, h⟩ | ⟨-, -, -, -, h⟩
  · exact wm_get C d h5.2.2.2.2 (49 + e) (x_crackAt he h) rfl j hj (by rw [TX10_eq]; exact hk) (by rw [TX10_eq]; exact hs) hv hp K
  · exact wm_get C d h5.1 (49 + e) (x_crackAt he h) rfl j hj (by rw [TX0_eq]; exact hk) (by rw [TX0_eq]; exact hs) hv hp K
  · exact wm_get C d h5.2.2.1 (49 + e) (x_crackAt he h) rfl j hj (by rw [TX3_eq]; exact hk) (by rw [TX3_eq]; exact hs) hv hp K
  · exact wm_get C d h5.2.2.2.1 (49 + e) (x_crackAt he h) rfl j hj (by rw [TX7_eq]; exact hk) (by rw [TX7_eq]; exact hs) hv hp K
  · exact wm_get C d h5.2.1 (49 + e) (x_crackAt he h) rfl j hj hk hs hv hp K
theorem x_putCw (C : CX D τ Γ cc y nL Ts ret rm F) {ix e : Nat} {v : Int32} (d : decode cc pc = .ok (.putfield ix, 3)) (h5 : In5 Ts) (he : e < nc) (hk : Cond.fieldLink y.cls ix "WideningCracks$Crack" (TX2 3).2.1 (TX2 3).2.2.1 ∈ Ts) (hp : pc + 3 = pc') (K : WM l D Γ nL k n (xW τ q nc (sA σ 8 e v)) pc' lv st) : WM l D Γ nL k n (xW τ q nc σ) pc lv (.int v :: .ref (q (200 + e)) :: st) := by
  have e7 : gA (sA σ 8 e v) 7 = gA σ 7 := gA_ne (by decide)
  have hc2 : ∀ ci, kci (gA σ 7 e) = ci → xC τ q nc (sA σ 8 e v) (49 + e) = (q (200 + e), .inr (ci, (xKf σ e).set 3 (.int v))) := by
    intro ci h
    rw [xC_crack]
    unfold xK
    rw [e7, h, gA_ne (by decide), gA_ne (by decide), gA_ne (by decide), gA_eq, gA_ne (by decide), pk_us]
    rfl
  rcases kci5 (gA σ 7 e) with ⟨-, h⟩ | ⟨-, -, h⟩ | ⟨-, -, -, h⟩ | ⟨-, -, -, -, h⟩ | ⟨-, -, -, -, h⟩
  · exact wm_put C d h5.2.2.2.2 tyX10 tyX10_ok nmX10 (49 + e) (x_crackAt he h) rfl 3 (by decide) hk (Or.inl rfl) rfl rfl rfl rfl (Nat.le_of_ble_eq_true rfl) (xW_set xC_A8 (hc2 _ h)) hp K
  · exact wm_put C d h5.1 tyX0 tyX0_ok nmX0 (49 + e) (x_crackAt he h) rfl 3 (by decide) hk (Or.inl rfl) rfl rfl rfl rfl (Nat.le_of_ble_eq_true rfl) (xW_set xC_A8 (hc2 _ h)) hp K
  · exact wm_put C d h5.2.2.1 tyX3 tyX3_ok nmX3 (49 + e) (x_crackAt he h) rfl 3 (by decide) hk (Or.inl rfl) rfl rfl rfl rfl (Nat.le_of_ble_eq_true rfl) (xW_set xC_A8 (hc2 _ h)) hp K
  · exact wm_put C d h5.2.2.2.1 tyX7 tyX7_ok nmX7 (49 + e) (x_crackAt he h) rfl 3 (by decide) hk (Or.inl rfl) rfl rfl rfl rfl (Nat.le_of_ble_eq_true rfl) (xW_set xC_A8 (hc2 _ h)) hp K
  · exact wm_put C d h5.2.1 tyX2 tyX2_ok nmX2 (49 + e) (x_crackAt he h) rfl 3 (by decide) hk (Or.inl rfl) rfl rfl rfl rfl (Nat.le_of_ble_eq_true rfl) (xW_set xC_A8 (hc2 _ h)) hp K
theorem x_putCs (C : CX D τ Γ cc y nL Ts ret rm F) {ix e : Nat} {v : Int32} (d : decode cc pc = .ok (.putfield ix, 3)) (h5 : In5 Ts) (he : e < nc) (hk : Cond.fieldLink y.cls ix "WideningCracks$Crack" (TX2 4).2.1 (TX2 4).2.2.1 ∈ Ts) (hp : pc + 3 = pc') (K : WM l D Γ nL k n (xW τ q nc (sA σ 10 e v)) pc' lv st) : WM l D Γ nL k n (xW τ q nc σ) pc lv (.int v :: .ref (q (200 + e)) :: st) := by
  have e7 : gA (sA σ 10 e v) 7 = gA σ 7 := gA_ne (by decide)
  have hc2 : ∀ ci, kci (gA σ 7 e) = ci → xC τ q nc (sA σ 10 e v) (49 + e) = (q (200 + e), .inr (ci, (xKf σ e).set 4 (.int v))) := by
    intro ci h
    rw [xC_crack]
    unfold xK
    rw [e7, h, gA_ne (by decide), gA_ne (by decide), gA_ne (by decide), gA_ne (by decide), gA_eq, pk_us]
    rfl
  rcases kci5 (gA σ 7 e) with ⟨-, h⟩ | ⟨-, -, h⟩ | ⟨-, -, -, h⟩ | ⟨-, -, -, -, h⟩ | ⟨-, -, -, -, h⟩
  · exact wm_put C d h5.2.2.2.2 tyX10 tyX10_ok nmX10 (49 + e) (x_crackAt he h) rfl 4 (by decide) hk (Or.inl rfl) rfl rfl rfl rfl (Nat.le_of_ble_eq_true rfl) (xW_set xC_A10 (hc2 _ h)) hp K
  · exact wm_put C d h5.1 tyX0 tyX0_ok nmX0 (49 + e) (x_crackAt he h) rfl 4 (by decide) hk (Or.inl rfl) rfl rfl rfl rfl (Nat.le_of_ble_eq_true rfl) (xW_set xC_A10 (hc2 _ h)) hp K
  · exact wm_put C d h5.2.2.1 tyX3 tyX3_ok nmX3 (49 + e) (x_crackAt he h) rfl 4 (by decide) hk (Or.inl rfl) rfl rfl rfl rfl (Nat.le_of_ble_eq_true rfl) (xW_set xC_A10 (hc2 _ h)) hp K
  · exact wm_put C d h5.2.2.2.1 tyX7 tyX7_ok nmX7 (49 + e) (x_crackAt he h) rfl 4 (by decide) hk (Or.inl rfl) rfl rfl rfl rfl (Nat.le_of_ble_eq_true rfl) (xW_set xC_A10 (hc2 _ h)) hp K
  · exact wm_put C d h5.2.1 tyX2 tyX2_ok nmX2 (49 + e) (x_crackAt he h) rfl 4 (by decide) hk (Or.inl rfl) rfl rfl rfl rfl (Nat.le_of_ble_eq_true rfl) (xW_set xC_A10 (hc2 _ h)) hp K
theorem x_getK (C : CX D τ Γ cc y nL Ts ret rm F) {ix e : Nat} {v : Value} (d : decode cc pc = .ok (.getfield ix, 3)) (hin : ∀ w ∈ wsX10, w ∈ Ts) (he : e < 4) (j : Nat) (hj : j < 4) (hk : Cond.fieldLink y.cls ix "WideningCracks$Core" (TX1 j).2.1 (TX1 j).2.2.1 ∈ Ts) (hs : "WideningCracks$Core" = (TX1 j).1) (hv : ([.ref (q (90 + e)), .int (gA σ 40 e), .int (gA σ 41 e), .int (gA σ 42 e)] : List Value)[j]? = some v) (hp : pc + 3 = pc') (K : WM l D Γ nL k n (xW τ q nc σ) pc' lv (v :: st)) : WM l D Γ nL k n (xW τ q nc σ) pc lv (.ref (q (80 + e)) :: st) := wm_get C d hin (19 + e) (x_coreAt he) rfl j hj hk (Or.inl hs) hv hp K
theorem x_putKt (C : CX D τ Γ cc y nL Ts ret rm F) {ix e : Nat} {v : Int32} (d : decode cc pc = .ok (.putfield ix, 3)) (hin : ∀ w ∈ wsX10, w ∈ Ts) (he : e < 4) (hb : narrow .boolean (.int v) = .int v) (hb2 : fits .boolean (.int v) = true) (hk : Cond.fieldLink y.cls ix "WideningCracks$Core" (TX1 1).2.1 (TX1 1).2.2.1 ∈ Ts) (hp : pc + 3 = pc') (K : WM l D Γ nL k n (xW τ q nc (sA σ 40 e v)) pc' lv st) : WM l D Γ nL k n (xW τ q nc σ) pc lv (.int v :: .ref (q (80 + e)) :: st) := by
  refine wm_put C d hin tyX1 tyX1_ok nmX1 (19 + e) (x_coreAt he) rfl 1 (by decide) hk (Or.inl rfl) rfl rfl hb hb2 (Nat.le_of_ble_eq_true rfl) (xW_set xC_A40 ?_) hp K
  rw [xC_core he]
  unfold xCore
  rw [gA_eq, gA_ne (by decide), gA_ne (by decide), pk_us]
  rfl
theorem x_putKl (C : CX D τ Γ cc y nL Ts ret rm F) {ix e : Nat} {v : Int32} (d : decode cc pc = .ok (.putfield ix, 3)) (hin : ∀ w ∈ wsX10, w ∈ Ts) (he : e < 4) (hk : Cond.fieldLink y.cls ix "WideningCracks$Core" (TX1 2).2.1 (TX1 2).2.2.1 ∈ Ts) (hp : pc + 3 = pc') (K : WM l D Γ nL k n (xW τ q nc (sA σ 41 e v)) pc' lv st) : WM l D Γ nL k n (xW τ q nc σ) pc lv (.int v :: .ref (q (80 + e)) :: st) := by
  refine wm_put C d hin tyX1 tyX1_ok nmX1 (19 + e) (x_coreAt he) rfl 2 (by decide) hk (Or.inl rfl) rfl rfl rfl rfl (Nat.le_of_ble_eq_true rfl) (xW_set xC_A41 ?_) hp K
  rw [xC_core he]
  unfold xCore
  rw [gA_ne (by decide), gA_eq, gA_ne (by decide), pk_us]
  rfl
theorem x_putKn (C : CX D τ Γ cc y nL Ts ret rm F) {ix e : Nat} {v : Int32} (d : decode cc pc = .ok (.putfield ix, 3)) (hin : ∀ w ∈ wsX10, w ∈ Ts) (he : e < 4) (hk : Cond.fieldLink y.cls ix "WideningCracks$Core" (TX1 3).2.1 (TX1 3).2.2.1 ∈ Ts) (hp : pc + 3 = pc') (K : WM l D Γ nL k n (xW τ q nc (sA σ 42 e v)) pc' lv st) : WM l D Γ nL k n (xW τ q nc σ) pc lv (.int v :: .ref (q (80 + e)) :: st) := by
  refine wm_put C d hin tyX1 tyX1_ok nmX1 (19 + e) (x_coreAt he) rfl 3 (by decide) hk (Or.inl rfl) rfl rfl rfl rfl (Nat.le_of_ble_eq_true rfl) (xW_set xC_A42 ?_) hp K
  rw [xC_core he]
  unfold xCore
  rw [gA_ne (by decide), gA_ne (by decide), gA_eq, pk_us]
  rfl
theorem x_instWide_t (C : CX D τ Γ cc y nL Ts ret rm F) {ix e : Nat} (d : decode cc pc = .ok (.instanceof ix, 3)) (hk : Cond.classLink y.cls ix "WideningCracks$Wide" ∈ Ts) (he : e < nc) (h : gA σ 7 e = 1 ∨ gA σ 7 e = 3 ∨ gA σ 7 e = 4) (hp : pc + 3 = pc') (K : WM l D Γ nL k n (xW τ q nc σ) pc' lv (.int 1 :: st)) : WM l D Γ nL k n (xW τ q nc σ) pc lv (.ref (q (200 + e)) :: st) := by
  subst hp
  obtain ⟨p, e0, R, s, m, args, below, meth, c, A, Qc⟩ := Γ
  obtain ⟨hx, hb, hr, hml, hown, hts, hlk, hK, hA, rfl, hnm, hQ⟩ := C
  intro H locs ls hP hD hS hl
  rcases kci5 (gA σ 7 e) with ⟨k1, kk⟩ | ⟨n1, k2, kk⟩ | ⟨n1, n2, k3, kk⟩ | ⟨n1, n2, n3, k4, kk⟩ | ⟨n1, n2, n3, n4, kk⟩
  · exact va_instS hx hb hown (hts _ hk) (hK.1.1 10 _ rfl).2 (va_recv hK.1 hP (q := vwCl[10]) rfl (x_crackAt he kk)) d (K H locs ls hP hD hS hl)
  · exact absurd h (by rw [k2]; decide)
  · exact va_instY hx hb hown (hts _ hk) (hK.2.2.1 ("WideningCracks$Hard", "WideningCracks$Wide") (by decide)) (va_recv hK.1 hP (q := vwCl[3]) rfl (x_crackAt he kk)) d (K H locs ls hP hD hS hl)
  · exact va_instY hx hb hown (hts _ hk) (hK.2.2.1 ("WideningCracks$Tube", "WideningCracks$Wide") (by decide)) (va_recv hK.1 hP (q := vwCl[7]) rfl (x_crackAt he kk)) d (K H locs ls hP hD hS hl)
  · exact absurd h (fun z => by rcases z with z | z | z <;> contradiction)
theorem x_instWide_f (C : CX D τ Γ cc y nL Ts ret rm F) {ix e : Nat} (d : decode cc pc = .ok (.instanceof ix, 3)) (hk : Cond.classLink y.cls ix "WideningCracks$Wide" ∈ Ts) (he : e < nc) (h : ¬ (gA σ 7 e = 1 ∨ gA σ 7 e = 3 ∨ gA σ 7 e = 4)) (hp : pc + 3 = pc') (K : WM l D Γ nL k n (xW τ q nc σ) pc' lv (.int 0 :: st)) : WM l D Γ nL k n (xW τ q nc σ) pc lv (.ref (q (200 + e)) :: st) := by
  subst hp
  obtain ⟨p, e0, R, s, m, args, below, meth, c, A, Qc⟩ := Γ
  obtain ⟨hx, hb, hr, hml, hown, hts, hlk, hK, hA, rfl, hnm, hQ⟩ := C
  intro H locs ls hP hD hS hl
  rcases kci5 (gA σ 7 e) with ⟨k1, kk⟩ | ⟨n1, k2, kk⟩ | ⟨n1, n2, k3, kk⟩ | ⟨n1, n2, n3, k4, kk⟩ | ⟨n1, n2, n3, n4, kk⟩
  · exact absurd h (by rw [k1]; decide)
  · exact va_instNo hx hb hown (hts _ hk) (hK.2.1 ("WideningCracks$Clogging", "WideningCracks$Wide") (by decide)) (va_recv hK.1 hP (q := vwCl[0]) rfl (x_crackAt he kk)) d (K H locs ls hP hD hS hl)
  · exact absurd h (by rw [k3]; decide)
  · exact absurd h (by rw [k4]; decide)
  · exact va_instNo hx hb hown (hts _ hk) (hK.2.1 ("WideningCracks$Crack", "WideningCracks$Wide") (by decide)) (va_recv hK.1 hP (q := vwCl[2]) rfl (x_crackAt he kk)) d (K H locs ls hP hD hS hl)
theorem x_instClogging_t (C : CX D τ Γ cc y nL Ts ret rm F) {ix e : Nat} (d : decode cc pc = .ok (.instanceof ix, 3)) (hk : Cond.classLink y.cls ix "WideningCracks$Clogging" ∈ Ts) (he : e < nc) (h : gA σ 7 e = 2) (hp : pc + 3 = pc') (K : WM l D Γ nL k n (xW τ q nc σ) pc' lv (.int 1 :: st)) : WM l D Γ nL k n (xW τ q nc σ) pc lv (.ref (q (200 + e)) :: st) := by
  subst hp
  obtain ⟨p, e0, R, s, m, args, below, meth, c, A, Qc⟩ := Γ
  obtain ⟨hx, hb, hr, hml, hown, hts, hlk, hK, hA, rfl, hnm, hQ⟩ := C
  intro H locs ls hP hD hS hl
  rcases kci5 (gA σ 7 e) with ⟨k1, kk⟩ | ⟨n1, k2, kk⟩ | ⟨n1, n2, k3, kk⟩ | ⟨n1, n2, n3, k4, kk⟩ | ⟨n1, n2, n3, n4, kk⟩
  · exact absurd h (by rw [k1]; decide)
  · exact va_instS hx hb hown (hts _ hk) (hK.1.1 0 _ rfl).2 (va_recv hK.1 hP (q := vwCl[0]) rfl (x_crackAt he kk)) d (K H locs ls hP hD hS hl)
  · exact absurd h (by rw [k3]; decide)
  · exact absurd h (by rw [k4]; decide)
  · exact absurd h (fun z => by contradiction)
theorem x_instClogging_f (C : CX D τ Γ cc y nL Ts ret rm F) {ix e : Nat} (d : decode cc pc = .ok (.instanceof ix, 3)) (hk : Cond.classLink y.cls ix "WideningCracks$Clogging" ∈ Ts) (he : e < nc) (h : ¬ (gA σ 7 e = 2)) (hp : pc + 3 = pc') (K : WM l D Γ nL k n (xW τ q nc σ) pc' lv (.int 0 :: st)) : WM l D Γ nL k n (xW τ q nc σ) pc lv (.ref (q (200 + e)) :: st) := by
  subst hp
  obtain ⟨p, e0, R, s, m, args, below, meth, c, A, Qc⟩ := Γ
  obtain ⟨hx, hb, hr, hml, hown, hts, hlk, hK, hA, rfl, hnm, hQ⟩ := C
  intro H locs ls hP hD hS hl
  rcases kci5 (gA σ 7 e) with ⟨k1, kk⟩ | ⟨n1, k2, kk⟩ | ⟨n1, n2, k3, kk⟩ | ⟨n1, n2, n3, k4, kk⟩ | ⟨n1, n2, n3, n4, kk⟩
  · exact va_instNo hx hb hown (hts _ hk) (hK.2.1 ("WideningCracks$Wide", "WideningCracks$Clogging") (by decide)) (va_recv hK.1 hP (q := vwCl[10]) rfl (x_crackAt he kk)) d (K H locs ls hP hD hS hl)
  · exact absurd h (by rw [k2]; decide)
  · exact va_instNo hx hb hown (hts _ hk) (hK.2.1 ("WideningCracks$Hard", "WideningCracks$Clogging") (by decide)) (va_recv hK.1 hP (q := vwCl[3]) rfl (x_crackAt he kk)) d (K H locs ls hP hD hS hl)
  · exact va_instNo hx hb hown (hts _ hk) (hK.2.1 ("WideningCracks$Tube", "WideningCracks$Clogging") (by decide)) (va_recv hK.1 hP (q := vwCl[7]) rfl (x_crackAt he kk)) d (K H locs ls hP hD hS hl)
  · exact va_instNo hx hb hown (hts _ hk) (hK.2.1 ("WideningCracks$Crack", "WideningCracks$Clogging") (by decide)) (va_recv hK.1 hP (q := vwCl[2]) rfl (x_crackAt he kk)) d (K H locs ls hP hD hS hl)
theorem x_instHard_t (C : CX D τ Γ cc y nL Ts ret rm F) {ix e : Nat} (d : decode cc pc = .ok (.instanceof ix, 3)) (hk : Cond.classLink y.cls ix "WideningCracks$Hard" ∈ Ts) (he : e < nc) (h : gA σ 7 e = 3 ∨ gA σ 7 e = 4) (hp : pc + 3 = pc') (K : WM l D Γ nL k n (xW τ q nc σ) pc' lv (.int 1 :: st)) : WM l D Γ nL k n (xW τ q nc σ) pc lv (.ref (q (200 + e)) :: st) := by
  subst hp
  obtain ⟨p, e0, R, s, m, args, below, meth, c, A, Qc⟩ := Γ
  obtain ⟨hx, hb, hr, hml, hown, hts, hlk, hK, hA, rfl, hnm, hQ⟩ := C
  intro H locs ls hP hD hS hl
  rcases kci5 (gA σ 7 e) with ⟨k1, kk⟩ | ⟨n1, k2, kk⟩ | ⟨n1, n2, k3, kk⟩ | ⟨n1, n2, n3, k4, kk⟩ | ⟨n1, n2, n3, n4, kk⟩
  · exact absurd h (by rw [k1]; decide)
  · exact absurd h (by rw [k2]; decide)
  · exact va_instS hx hb hown (hts _ hk) (hK.1.1 3 _ rfl).2 (va_recv hK.1 hP (q := vwCl[3]) rfl (x_crackAt he kk)) d (K H locs ls hP hD hS hl)
  · exact va_instY hx hb hown (hts _ hk) (hK.2.2.1 ("WideningCracks$Tube", "WideningCracks$Hard") (by decide)) (va_recv hK.1 hP (q := vwCl[7]) rfl (x_crackAt he kk)) d (K H locs ls hP hD hS hl)
  · exact absurd h (fun z => by rcases z with z | z <;> contradiction)
theorem x_instHard_f (C : CX D τ Γ cc y nL Ts ret rm F) {ix e : Nat} (d : decode cc pc = .ok (.instanceof ix, 3)) (hk : Cond.classLink y.cls ix "WideningCracks$Hard" ∈ Ts) (he : e < nc) (h : ¬ (gA σ 7 e = 3 ∨ gA σ 7 e = 4)) (hp : pc + 3 = pc') (K : WM l D Γ nL k n (xW τ q nc σ) pc' lv (.int 0 :: st)) : WM l D Γ nL k n (xW τ q nc σ) pc lv (.ref (q (200 + e)) :: st) := by
  subst hp
  obtain ⟨p, e0, R, s, m, args, below, meth, c, A, Qc⟩ := Γ
  obtain ⟨hx, hb, hr, hml, hown, hts, hlk, hK, hA, rfl, hnm, hQ⟩ := C
  intro H locs ls hP hD hS hl
  rcases kci5 (gA σ 7 e) with ⟨k1, kk⟩ | ⟨n1, k2, kk⟩ | ⟨n1, n2, k3, kk⟩ | ⟨n1, n2, n3, k4, kk⟩ | ⟨n1, n2, n3, n4, kk⟩
  · exact va_instNo hx hb hown (hts _ hk) (hK.2.1 ("WideningCracks$Wide", "WideningCracks$Hard") (by decide)) (va_recv hK.1 hP (q := vwCl[10]) rfl (x_crackAt he kk)) d (K H locs ls hP hD hS hl)
  · exact va_instNo hx hb hown (hts _ hk) (hK.2.1 ("WideningCracks$Clogging", "WideningCracks$Hard") (by decide)) (va_recv hK.1 hP (q := vwCl[0]) rfl (x_crackAt he kk)) d (K H locs ls hP hD hS hl)
  · exact absurd h (by rw [k3]; decide)
  · exact absurd h (by rw [k4]; decide)
  · exact va_instNo hx hb hown (hts _ hk) (hK.2.1 ("WideningCracks$Crack", "WideningCracks$Hard") (by decide)) (va_recv hK.1 hP (q := vwCl[2]) rfl (x_crackAt he kk)) d (K H locs ls hP hD hS hl)
theorem x_instTube_t (C : CX D τ Γ cc y nL Ts ret rm F) {ix e : Nat} (d : decode cc pc = .ok (.instanceof ix, 3)) (hk : Cond.classLink y.cls ix "WideningCracks$Tube" ∈ Ts) (he : e < nc) (h : gA σ 7 e = 4) (hp : pc + 3 = pc') (K : WM l D Γ nL k n (xW τ q nc σ) pc' lv (.int 1 :: st)) : WM l D Γ nL k n (xW τ q nc σ) pc lv (.ref (q (200 + e)) :: st) := by
  subst hp
  obtain ⟨p, e0, R, s, m, args, below, meth, c, A, Qc⟩ := Γ
  obtain ⟨hx, hb, hr, hml, hown, hts, hlk, hK, hA, rfl, hnm, hQ⟩ := C
  intro H locs ls hP hD hS hl
  rcases kci5 (gA σ 7 e) with ⟨k1, kk⟩ | ⟨n1, k2, kk⟩ | ⟨n1, n2, k3, kk⟩ | ⟨n1, n2, n3, k4, kk⟩ | ⟨n1, n2, n3, n4, kk⟩
  · exact absurd h (by rw [k1]; decide)
  · exact absurd h (by rw [k2]; decide)
  · exact absurd h (by rw [k3]; decide)
  · exact va_instS hx hb hown (hts _ hk) (hK.1.1 7 _ rfl).2 (va_recv hK.1 hP (q := vwCl[7]) rfl (x_crackAt he kk)) d (K H locs ls hP hD hS hl)
  · exact absurd h (fun z => by contradiction)
theorem x_instTube_f (C : CX D τ Γ cc y nL Ts ret rm F) {ix e : Nat} (d : decode cc pc = .ok (.instanceof ix, 3)) (hk : Cond.classLink y.cls ix "WideningCracks$Tube" ∈ Ts) (he : e < nc) (h : ¬ (gA σ 7 e = 4)) (hp : pc + 3 = pc') (K : WM l D Γ nL k n (xW τ q nc σ) pc' lv (.int 0 :: st)) : WM l D Γ nL k n (xW τ q nc σ) pc lv (.ref (q (200 + e)) :: st) := by
  subst hp
  obtain ⟨p, e0, R, s, m, args, below, meth, c, A, Qc⟩ := Γ
  obtain ⟨hx, hb, hr, hml, hown, hts, hlk, hK, hA, rfl, hnm, hQ⟩ := C
  intro H locs ls hP hD hS hl
  rcases kci5 (gA σ 7 e) with ⟨k1, kk⟩ | ⟨n1, k2, kk⟩ | ⟨n1, n2, k3, kk⟩ | ⟨n1, n2, n3, k4, kk⟩ | ⟨n1, n2, n3, n4, kk⟩
  · exact va_instNo hx hb hown (hts _ hk) (hK.2.1 ("WideningCracks$Wide", "WideningCracks$Tube") (by decide)) (va_recv hK.1 hP (q := vwCl[10]) rfl (x_crackAt he kk)) d (K H locs ls hP hD hS hl)
  · exact va_instNo hx hb hown (hts _ hk) (hK.2.1 ("WideningCracks$Clogging", "WideningCracks$Tube") (by decide)) (va_recv hK.1 hP (q := vwCl[0]) rfl (x_crackAt he kk)) d (K H locs ls hP hD hS hl)
  · exact va_instNo hx hb hown (hts _ hk) (hK.2.1 ("WideningCracks$Hard", "WideningCracks$Tube") (by decide)) (va_recv hK.1 hP (q := vwCl[3]) rfl (x_crackAt he kk)) d (K H locs ls hP hD hS hl)
  · exact absurd h (by rw [k4]; decide)
  · exact va_instNo hx hb hown (hts _ hk) (hK.2.1 ("WideningCracks$Crack", "WideningCracks$Tube") (by decide)) (va_recv hK.1 hP (q := vwCl[2]) rfl (x_crackAt he kk)) d (K H locs ls hP hD hS hl)
theorem x_copy (C : CX D τ Γ cc y nL Ts ret rm F) {ix e1 e2 : Nat} {sp dp m : Int32} (d : decode cc pc = .ok (.invokestatic ix, 3)) (h1 : Cond.methodLink y.cls ix arraycopyName ∈ Ts) (h2 : Cond.native arraycopyName ∈ Ts) (h3 : Cond.static arraycopyName ∈ Ts) (h4 : Cond.initialized "java/lang/System" ∈ Ts) (he1 : e1 < 4) (he2 : e2 < 4) (hc : (¬ sp < 0 ∧ ¬ dp < 0 ∧ ¬ m < 0) ∧ sp.toNatClampNeg + m.toNatClampNeg ≤ 24 ∧ dp.toNatClampNeg + m.toNatClampNeg ≤ 24) (hR : 1 ≤ rm.frames ∧ (st.map fun v => v.category).sum + (nativeFrameWords "java/lang/System" "arraycopy" 5 + 11) ≤ rm.locals) (hp : pc + 3 = pc') (K : WM l D Γ nL k n (xW τ q nc (sBR σ (90 + e2) (va_cpy (gB σ (90 + e1)) (gB σ (90 + e2)) sp.toNatClampNeg dp.toNatClampNeg m.toNatClampNeg))) pc' lv st) : WM l D Γ nL k n (xW τ q nc σ) pc lv (.int m :: .int dp :: .ref (q (90 + e2)) :: .int sp :: .ref (q (90 + e1)) :: st) := by
  subst hp
  obtain ⟨p, e, R, s, m0, args, below, meth, c, A, Qc⟩ := Γ
  obtain ⟨hx, hb, hr, hml, hown, hts, hlk, hK, hA, rfl, hnm, hQ⟩ := C
  intro H locs ls hP hD hS hl
  refine va_copyl hx hb (hml.trans hl.1.symm) hown (hts _ h1) (hts _ h2) (hts _ h3) (hts _ h4) hK.1 hP hD hS (23 + e1) (23 + e2) 1 1 (x_at (by omega) (xC_cells he1)) (x_at (by omega) (xC_cells he2)) rfl rfl rfl hc.1.1 hc.1.2.1 hc.1.2.2 hc.2.1 hc.2.2 (fun _ _ => rfl) hR.1 hR.2 d ?_
  intro H1 locs1 hP1 hD1 hS1
  have hE := xW_set (τ := τ) (q := q) (nc := nc) (σ := σ) (σ' := sBR σ (90 + e2) (va_cpy (gB σ (90 + e1)) (gB σ (90 + e2)) sp.toNatClampNeg dp.toNatClampNeg m.toNatClampNeg)) (k := 23 + e2) (xC_BRcells he2) (xC_cells he2)
  rw [gBR_eq] at hE
  rw [hE] at hP1 hD1
  exact K H1 locs1 ls hP1 hD1 hS1 hl
end MYX
