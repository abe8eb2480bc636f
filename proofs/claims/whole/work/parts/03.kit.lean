/-! MY KIT: a judgement WM over a world that is a list of cells, with the heap, the locals' array and the list of written places hidden; one row an instruction -/
abbrev CId : Type := ClassId × ClassId × ClassId × ClassId × ClassId × ClassId × ClassId
def tysOf (τ : CId) : List (ClassId × FieldType) := [(τ.1, .int), (τ.2.1, .long), (τ.2.2.1, .boolean), (τ.2.2.2.1, .object "WideningCracks$Core"), (τ.2.2.2.2.1, .object "WideningCracks$Crack"), (τ.2.2.2.2.2.1, .array .int), (τ.2.2.2.2.2.2, .array .long)]
/-- pairs of kinds of cracks that an instanceof finds apart -/
def ncPairs : List (String × String) := [("WideningCracks$Crack", "WideningCracks$Wide"), ("WideningCracks$Crack", "WideningCracks$Clogging"), ("WideningCracks$Crack", "WideningCracks$Hard"), ("WideningCracks$Crack", "WideningCracks$Tube"), ("WideningCracks$Wide", "WideningCracks$Clogging"), ("WideningCracks$Wide", "WideningCracks$Hard"), ("WideningCracks$Wide", "WideningCracks$Tube"), ("WideningCracks$Clogging", "WideningCracks$Wide"), ("WideningCracks$Clogging", "WideningCracks$Hard"), ("WideningCracks$Clogging", "WideningCracks$Tube"), ("WideningCracks$Hard", "WideningCracks$Clogging"), ("WideningCracks$Hard", "WideningCracks$Tube"), ("WideningCracks$Tube", "WideningCracks$Clogging")]
/-- and pairs that it finds to fit -/
def ycPairs : List (String × String) := [("WideningCracks$Hard", "WideningCracks$Wide"), ("WideningCracks$Tube", "WideningCracks$Wide"), ("WideningCracks$Tube", "WideningCracks$Hard"), ("WideningCracks$Wide", "WideningCracks$Crack"), ("WideningCracks$Clogging", "WideningCracks$Crack"), ("WideningCracks$Hard", "WideningCracks$Crack"), ("WideningCracks$Tube", "WideningCracks$Crack")]
/-- calls of private methods of nest mates -/
def nestL : List (String × Nat × MethodName) := [(RX1, 32, yX11_isWithin), (RX8, 55, yX11_partOf), (RX11, 11, yX5_init), (RX11, 36, yX4_init), (RX11, 47, yX1_init), (RX11, 50, yX6_init)]
def aoL : List String := ["WideningCracks$Core", "WideningCracks$Crack"]
def aaL : List FieldType := [.int, .long]
/-- what every state of a run knows of the classes -/
def KK (D : va_G) (τ : CId) (U : State) : Prop := va_K D vwCl (tysOf τ) U ∧ (∀ p ∈ ncPairs, va_Nc p.1 p.2 U) ∧ (∀ p ∈ ycPairs, va_Nw (.castable p.1 p.2) U) ∧ (∀ x ∈ nestL, va_Nw (.methodLinkNest x.1 x.2.1 x.2.2 "WideningCracks") U) ∧ (∀ C ∈ aoL, va_AO C U) ∧ (∀ t ∈ aaL, va_Nw (.arrayOver (.array t)) U)
theorem aa_moved {t : FieldType} {u U : State} (hvm : u.vm.Alike U.vm) (h : va_Nw (.arrayOver (.array t)) u) : va_Nw (.arrayOver (.array t)) U := arrayOver_alikeB hvm h
theorem KK.alike {D : va_G} {τ : CId} {u U : State} (hv : u.vm.Alike U.vm) (h3 : ∀ p ∈ ycPairs, va_Nw (.castable p.1 p.2) U) (h4 : ∀ x ∈ nestL, va_Nw (.methodLinkNest x.1 x.2.1 x.2.2 "WideningCracks") U) (h : KK D τ u) : KK D τ U := ⟨va_K.moved hv h.1, fun p hp => (h.2.1 p hp).moved hv, h3, h4, fun C hC => (h.2.2.2.2.1 C hC).moved hv, fun t ht => aa_moved hv (h.2.2.2.2.2 t ht)⟩
theorem KK.warm {D : va_G} {τ : CId} {u U : State} (hW : u.WarmedH U.vm) (h : KK D τ u) : KK D τ U := h.alike hW.alike (fun p hp => (h.2.2.1 p hp).warmC hW) (fun x hx => (h.2.2.2.1 x hx).warmM hW)
theorem KK.same {D : va_G} {τ : CId} {u U : State} (hv : u.vm = U.vm) (h : KK D τ u) : KK D τ U := h.alike (by rw [hv]; exact Vm.Alike.refl U.vm) (fun p hp => (h.2.2.1 p hp).same rfl hv) (fun x hx => (h.2.2.2.1 x hx).same rfl hv)
abbrev CT : Type := Program × Env × Room × State × MethodId × Array Value × List Frame × Method × Code × (Nat → Prop) × (State → Prop)
def WM (l : Launch) (D : va_G) : CT → Nat → Nat → Nat → va_W → Nat → List (Nat × Value) → List Value → Prop
  | (p, e, R, s, m, args, below, meth, c, A, Q), nL, k, n, Wd, pc, lv, st => ∀ (H : Heap) (locs : List Loc) (ls : Array Slot), va_P D vwCl Wd H → va_D A Wd → va_S A s.heap H locs → lv_has ls nL lv → W p l e R s m args below meth c H locs k n Q (F0 m pc ls st)
def CX (D : va_G) (τ : CId) : CT → ByteArray → MethodName → Nat → List Cond → Option FieldType → Room → (va_W → Option Value → Prop) → Prop
  | (p, _, R, s, m, args, below, meth, c, A, Q), cc, y, nL, Ts, ret, rm, F => p.tables.exec = Jvm.exec ∧ c.code = cc ∧ meth.sig.returnType = ret ∧ c.maxLocals = nL ∧ s.vm.findClass y.cls = some m.cls ∧ (∀ w ∈ Ts, w.before args s = true) ∧ meth.locks = false ∧ KK D τ s ∧ (∀ q, s.heap.size ≤ q → A q) ∧ R = rm ∧ meth.name = y.name ∧
    ∃ Qc : Array Value → State → Outcome → State → Prop, (∀ (Wd : va_W) (v : Option Value), F Wd v → Q = MQ below Qc args s R.cells R.slots A) ∧ (∀ (t : State) (v : Option Value) (Wd : va_W), s.WarmedH t.vm → F Wd v → va_P D vwCl Wd t.heap → va_D A Wd → va_F A s t → Qc args s (.returned v) t)
def QcOf (D : va_G) (Wd : va_W) (sz : Nat) (F : va_W → Option Value → Prop) : Array Value → State → Outcome → State → Prop := fun _ st oc t => (∃ (v : Option Value) (Wd' : va_W), oc = .returned v ∧ F Wd' v ∧ va_P D vwCl Wd' t.heap ∧ va_D (va_A Wd sz) Wd') ∧ va_F (va_A Wd sz) st t
def PcOf (D : va_G) (τ : CId) (av : List Value) (Wd : va_W) (sz : Nat) : Array Value → State → Prop := va_Pc av (fun U => U.heap.size = sz ∧ va_P D vwCl Wd U.heap ∧ KK D τ U ∧ va_D (fun _ => True) Wd)
/-- A CONTRACT: from any heap that holds the world Wd the method y returns, with a value v and a world W' such that F W' v -/
def Ct (l : Launch) (D : va_G) (τ : CId) (y : MethodName) (ws : List Cond) (rm : Room) (av : List Value) (Wd : va_W) (F : va_W → Option Value → Prop) : Prop :=
  ∀ sz : Nat, Met l y ws rm (PcOf D τ av Wd sz) (QcOf D Wd sz F) rm.cells rm.slots (va_A Wd sz)
/-- the answer and the world behind are these -/
def FD (W2 : va_W) (v2 : Option Value) : va_W → Option Value → Prop := fun W v => W = W2 ∧ v = v2
theorem FD.rf {W2 : va_W} {v2 : Option Value} : FD W2 v2 W2 v2 := ⟨rfl, rfl⟩
theorem ct_of {l : Launch} {D : va_G} {τ : CId} {y : MethodName} {ws ws' : List Cond} {rm : Room} {av : List Value} {Wd : va_W} {F : va_W → Option Value → Prop} {cc : ByteArray} {maxL : Nat} {ret : Option FieldType} (hy : plainName y.cls = true) (hw : ws = Cond.code y cc maxL ret :: ws') (hav : (lg_sl av).length ≤ maxL)
    (body : ∀ Γ, CX D τ Γ cc y maxL ws ret rm F → WM l D Γ maxL 0 0 Wd 0 (lv_args 0 av) []) : Ct l D τ y ws rm av Wd F := by
  intro sz
  refine Met.ofW (cc := cc) (maxL := maxL) (ret := ret) hy hw ?_
  intro p e s m args below meth c s₁ B hml hv
  obtain ⟨rfl, hsz, hP, hK, hD0⟩ := hv
  subst hsz
  have hD := hD0.self (sz := s.heap.size)
  have hl := lv_entry av (n := maxL) hav
  rw [lg_entry_eq]
  exact body (p, e, (headSpec ws rm).room, s, m, av.toArray, below, meth, c, va_A Wd s.heap.size, MQ below (QcOf D Wd s.heap.size F) av.toArray s rm.cells rm.slots (va_A Wd s.heap.size)) ⟨B.exec, B.bytes, B.returns, hml, findClass_of_methodNamed B.named, atoms_spec (ws := ws) B.pre, B.notSynchronized, hK, fun q h => Or.inr h, rfl, (name_of_methodNamed B.named B.method).1, QcOf D Wd s.heap.size F, fun _ _ _ => rfl, fun t v Wd' hW hF hP' hD' hVF => ⟨⟨v, Wd', rfl, hF, hP', hD'⟩, hVF⟩⟩ s.heap [] _ hP hD va_S.rf hl
section MYK
variable {l : Launch} {D : va_G} {τ : CId} {Γ : CT} {cc : ByteArray} {y : MethodName} {nL k n : Nat} {Ts : List Cond} {ret : Option FieldType} {rm : Room} {F : va_W → Option Value → Prop} {Wd Wd' : va_W} {pc pc' : Nat} {lv lv' : List (Nat × Value)} {st rest : List Value}
theorem wm_lv (h : lv = lv') (K : WM l D Γ nL k n Wd pc lv' st) : WM l D Γ nL k n Wd pc lv st := h ▸ K
theorem wm_W (h : Wd = Wd') (K : WM l D Γ nL k n Wd' pc lv st) : WM l D Γ nL k n Wd pc lv st := h ▸ K
theorem wm_st {st' : List Value} (h : st = st') (K : WM l D Γ nL k n Wd pc lv st') : WM l D Γ nL k n Wd pc lv st := h ▸ K
theorem wm_sub (ks : List Nat) (h : lv_pick lv ks = lv') (K : WM l D Γ nL k n Wd pc lv' st) : WM l D Γ nL k n Wd pc lv st := by
  obtain ⟨p, e, R, s, m, args, below, meth, c, A, Qc⟩ := Γ
  intro H locs ls hP hD hS hl
  exact K H locs ls hP hD hS (lv_sub hl ks h)
theorem wm_ikonst (C : CX D τ Γ cc y nL Ts ret rm F) {z : Int} {v : Int32} (d : decode cc pc = .ok (.iconst z, 1)) (hv : Int32.ofInt z = v) (hp : pc + 1 = pc') (K : WM l D Γ nL k n Wd pc' lv (.int v :: st)) : WM l D Γ nL k n Wd pc lv st := by
  subst hp
  obtain ⟨p, e, R, s, m, args, below, meth, c, A, Qc⟩ := Γ
  obtain ⟨hx, hb, hr, hml, hown, hts, hlk, hK, hA, rfl, hnm, hQ⟩ := C
  intro H locs ls hP hD hS hl
  exact lv_iconst hx hb d hv (K H locs ls hP hD hS hl)
theorem wm_bipush (C : CX D τ Γ cc y nL Ts ret rm F) {z : Int} {v : Int32} (d : decode cc pc = .ok (.bipush z, 2)) (hv : (Int8.ofInt z).toInt32 = v) (hp : pc + 2 = pc') (K : WM l D Γ nL k n Wd pc' lv (.int v :: st)) : WM l D Γ nL k n Wd pc lv st := by
  subst hp
  obtain ⟨p, e, R, s, m, args, below, meth, c, A, Qc⟩ := Γ
  obtain ⟨hx, hb, hr, hml, hown, hts, hlk, hK, hA, rfl, hnm, hQ⟩ := C
  intro H locs ls hP hD hS hl
  exact lv_bipush hx hb d hv (K H locs ls hP hD hS hl)
theorem wm_sipush (C : CX D τ Γ cc y nL Ts ret rm F) {z : Int} {v : Int32} (d : decode cc pc = .ok (.sipush z, 3)) (hv : (Int16.ofInt z).toInt32 = v) (hp : pc + 3 = pc') (K : WM l D Γ nL k n Wd pc' lv (.int v :: st)) : WM l D Γ nL k n Wd pc lv st := by
  subst hp
  obtain ⟨p, e, R, s, m, args, below, meth, c, A, Qc⟩ := Γ
  obtain ⟨hx, hb, hr, hml, hown, hts, hlk, hK, hA, rfl, hnm, hQ⟩ := C
  intro H locs ls hP hD hS hl
  exact lv_sipush hx hb d hv (K H locs ls hP hD hS hl)
theorem wm_lkonst (C : CX D τ Γ cc y nL Ts ret rm F) {z : Fin 2} {v : Int64} (d : decode cc pc = .ok (.lconst z, 1)) (hv : Int64.ofNat (z : Nat) = v) (hp : pc + 1 = pc') (K : WM l D Γ nL k n Wd pc' lv (.long v :: st)) : WM l D Γ nL k n Wd pc lv st := by
  subst hp
  obtain ⟨p, e, R, s, m, args, below, meth, c, A, Qc⟩ := Γ
  obtain ⟨hx, hb, hr, hml, hown, hts, hlk, hK, hA, rfl, hnm, hQ⟩ := C
  intro H locs ls hP hD hS hl
  exact lv_lconst hx hb d hv (K H locs ls hP hD hS hl)
theorem wm_ldc2 (C : CX D τ Γ cc y nL Ts ret rm F) {ix : Nat} {v : Int64} (d : decode cc pc = .ok (.ldc2_w ix, 3)) (hv : Cond.constantLong y.cls ix v ∈ Ts) (hp : pc + 3 = pc') (K : WM l D Γ nL k n Wd pc' lv (.long v :: st)) : WM l D Γ nL k n Wd pc lv st := by
  subst hp
  obtain ⟨p, e, R, s, m, args, below, meth, c, A, Qc⟩ := Γ
  obtain ⟨hx, hb, hr, hml, hown, hts, hlk, hK, hA, rfl, hnm, hQ⟩ := C
  intro H locs ls hP hD hS hl
  exact lv_ldc2 hx hb hown (hts _ hv) d (K H locs ls hP hD hS hl)
theorem wm_iload_n (C : CX D τ Γ cc y nL Ts ret rm F) {i : Fin 4} {x : Int32} (d : decode cc pc = .ok (.iload_n i, 1)) (j : Nat) (h : lv[j]? = some ((i : Nat), .int x)) (hp : pc + 1 = pc') (K : WM l D Γ nL k n Wd pc' lv (.int x :: st)) : WM l D Γ nL k n Wd pc lv st := by
  subst hp
  obtain ⟨p, e, R, s, m, args, below, meth, c, A, Qc⟩ := Γ
  obtain ⟨hx, hb, hr, hml, hown, hts, hlk, hK, hA, rfl, hnm, hQ⟩ := C
  intro H locs ls hP hD hS hl
  exact lv_iload_n hx hb d rfl (lv_at hl j h) (K H locs ls hP hD hS hl)
theorem wm_iload (C : CX D τ Γ cc y nL Ts ret rm F) {i : Nat} {x : Int32} (d : decode cc pc = .ok (.iload i, 2)) (j : Nat) (h : lv[j]? = some (i, .int x)) (hp : pc + 2 = pc') (K : WM l D Γ nL k n Wd pc' lv (.int x :: st)) : WM l D Γ nL k n Wd pc lv st := by
  subst hp
  obtain ⟨p, e, R, s, m, args, below, meth, c, A, Qc⟩ := Γ
  obtain ⟨hx, hb, hr, hml, hown, hts, hlk, hK, hA, rfl, hnm, hQ⟩ := C
  intro H locs ls hP hD hS hl
  exact lv_iload hx hb d (lv_at hl j h) (K H locs ls hP hD hS hl)
theorem wm_lload_n (C : CX D τ Γ cc y nL Ts ret rm F) {i : Fin 4} {x : Int64} (d : decode cc pc = .ok (.lload_n i, 1)) (j : Nat) (h : lv[j]? = some ((i : Nat), .long x)) (hp : pc + 1 = pc') (K : WM l D Γ nL k n Wd pc' lv (.long x :: st)) : WM l D Γ nL k n Wd pc lv st := by
  subst hp
  obtain ⟨p, e, R, s, m, args, below, meth, c, A, Qc⟩ := Γ
  obtain ⟨hx, hb, hr, hml, hown, hts, hlk, hK, hA, rfl, hnm, hQ⟩ := C
  intro H locs ls hP hD hS hl
  exact lv_lload_n hx hb d rfl (lv_at hl j h) (K H locs ls hP hD hS hl)
theorem wm_lload (C : CX D τ Γ cc y nL Ts ret rm F) {i : Nat} {x : Int64} (d : decode cc pc = .ok (.lload i, 2)) (j : Nat) (h : lv[j]? = some (i, .long x)) (hp : pc + 2 = pc') (K : WM l D Γ nL k n Wd pc' lv (.long x :: st)) : WM l D Γ nL k n Wd pc lv st := by
  subst hp
  obtain ⟨p, e, R, s, m, args, below, meth, c, A, Qc⟩ := Γ
  obtain ⟨hx, hb, hr, hml, hown, hts, hlk, hK, hA, rfl, hnm, hQ⟩ := C
  intro H locs ls hP hD hS hl
  exact lv_lload hx hb d (lv_at hl j h) (K H locs ls hP hD hS hl)
theorem wm_aload_n (C : CX D τ Γ cc y nL Ts ret rm F) {i : Fin 4} {x : Nat} (d : decode cc pc = .ok (.aload_n i, 1)) (j : Nat) (h : lv[j]? = some ((i : Nat), .ref x)) (hp : pc + 1 = pc') (K : WM l D Γ nL k n Wd pc' lv (.ref x :: st)) : WM l D Γ nL k n Wd pc lv st := by
  subst hp
  obtain ⟨p, e, R, s, m, args, below, meth, c, A, Qc⟩ := Γ
  obtain ⟨hx, hb, hr, hml, hown, hts, hlk, hK, hA, rfl, hnm, hQ⟩ := C
  intro H locs ls hP hD hS hl
  exact lv_aload_n hx hb d rfl (lv_at hl j h) (K H locs ls hP hD hS hl)
theorem wm_aload (C : CX D τ Γ cc y nL Ts ret rm F) {i : Nat} {x : Nat} (d : decode cc pc = .ok (.aload i, 2)) (j : Nat) (h : lv[j]? = some (i, .ref x)) (hp : pc + 2 = pc') (K : WM l D Γ nL k n Wd pc' lv (.ref x :: st)) : WM l D Γ nL k n Wd pc lv st := by
  subst hp
  obtain ⟨p, e, R, s, m, args, below, meth, c, A, Qc⟩ := Γ
  obtain ⟨hx, hb, hr, hml, hown, hts, hlk, hK, hA, rfl, hnm, hQ⟩ := C
  intro H locs ls hP hD hS hl
  exact lv_aload hx hb d (lv_at hl j h) (K H locs ls hP hD hS hl)
theorem wm_istore_n (C : CX D τ Γ cc y nL Ts ret rm F) {i : Fin 4} {x : Int32} (d : decode cc pc = .ok (.istore_n i, 1)) (hn : (i : Nat) < nL) (hl' : ((i : Nat), Value.int x) :: lv.filter (fun q => !(q.1 == (i : Nat)) && !(q.1 + 1 == (i : Nat) && q.2.category == 2)) = lv') (hp : pc + 1 = pc') (K : WM l D Γ nL k n Wd pc' lv' st) : WM l D Γ nL k n Wd pc lv (.int x :: st) := by
  subst hp
  obtain ⟨p, e, R, s, m, args, below, meth, c, A, Qc⟩ := Γ
  obtain ⟨hx, hb, hr, hml, hown, hts, hlk, hK, hA, rfl, hnm, hQ⟩ := C
  intro H locs ls hP hD hS hl
  exact lv_istore_n hx hb d rfl hl hn hl' (fun ls' hls' => K H locs ls' hP hD hS hls')
theorem wm_istore (C : CX D τ Γ cc y nL Ts ret rm F) {i : Nat} {x : Int32} (d : decode cc pc = .ok (.istore i, 2)) (hn : i < nL) (hl' : (i, Value.int x) :: lv.filter (fun q => !(q.1 == i) && !(q.1 + 1 == i && q.2.category == 2)) = lv') (hp : pc + 2 = pc') (K : WM l D Γ nL k n Wd pc' lv' st) : WM l D Γ nL k n Wd pc lv (.int x :: st) := by
  subst hp
  obtain ⟨p, e, R, s, m, args, below, meth, c, A, Qc⟩ := Γ
  obtain ⟨hx, hb, hr, hml, hown, hts, hlk, hK, hA, rfl, hnm, hQ⟩ := C
  intro H locs ls hP hD hS hl
  exact lv_istore hx hb d hl hn hl' (fun ls' hls' => K H locs ls' hP hD hS hls')
theorem wm_lstore_n (C : CX D τ Γ cc y nL Ts ret rm F) {i : Fin 4} {x : Int64} (d : decode cc pc = .ok (.lstore_n i, 1)) (hn : (i : Nat) + 1 < nL) (hl' : ((i : Nat), Value.long x) :: lv.filter (fun q => !(q.1 == (i : Nat)) && (!(q.1 == (i : Nat) + 1) && !(q.1 + 1 == (i : Nat) && q.2.category == 2))) = lv') (hp : pc + 1 = pc') (K : WM l D Γ nL k n Wd pc' lv' st) : WM l D Γ nL k n Wd pc lv (.long x :: st) := by
  subst hp
  obtain ⟨p, e, R, s, m, args, below, meth, c, A, Qc⟩ := Γ
  obtain ⟨hx, hb, hr, hml, hown, hts, hlk, hK, hA, rfl, hnm, hQ⟩ := C
  intro H locs ls hP hD hS hl
  exact lv_lstore_n hx hb d rfl hl hn hl' (fun ls' hls' => K H locs ls' hP hD hS hls')
theorem wm_lstore (C : CX D τ Γ cc y nL Ts ret rm F) {i : Nat} {x : Int64} (d : decode cc pc = .ok (.lstore i, 2)) (hn : i + 1 < nL) (hl' : (i, Value.long x) :: lv.filter (fun q => !(q.1 == i) && (!(q.1 == i + 1) && !(q.1 + 1 == i && q.2.category == 2))) = lv') (hp : pc + 2 = pc') (K : WM l D Γ nL k n Wd pc' lv' st) : WM l D Γ nL k n Wd pc lv (.long x :: st) := by
  subst hp
  obtain ⟨p, e, R, s, m, args, below, meth, c, A, Qc⟩ := Γ
  obtain ⟨hx, hb, hr, hml, hown, hts, hlk, hK, hA, rfl, hnm, hQ⟩ := C
  intro H locs ls hP hD hS hl
  exact lv_lstore hx hb d hl hn hl' (fun ls' hls' => K H locs ls' hP hD hS hls')
theorem wm_astore_n (C : CX D τ Γ cc y nL Ts ret rm F) {i : Fin 4} {x : Nat} (d : decode cc pc = .ok (.astore_n i, 1)) (hn : (i : Nat) < nL) (hl' : ((i : Nat), Value.ref x) :: lv.filter (fun q => !(q.1 == (i : Nat)) && !(q.1 + 1 == (i : Nat) && q.2.category == 2)) = lv') (hp : pc + 1 = pc') (K : WM l D Γ nL k n Wd pc' lv' st) : WM l D Γ nL k n Wd pc lv (.ref x :: st) := by
  subst hp
  obtain ⟨p, e, R, s, m, args, below, meth, c, A, Qc⟩ := Γ
  obtain ⟨hx, hb, hr, hml, hown, hts, hlk, hK, hA, rfl, hnm, hQ⟩ := C
  intro H locs ls hP hD hS hl
  exact lv_astore_n hx hb d rfl hl hn hl' (fun ls' hls' => K H locs ls' hP hD hS hls')
theorem wm_astore (C : CX D τ Γ cc y nL Ts ret rm F) {i : Nat} {x : Nat} (d : decode cc pc = .ok (.astore i, 2)) (hn : i < nL) (hl' : (i, Value.ref x) :: lv.filter (fun q => !(q.1 == i) && !(q.1 + 1 == i && q.2.category == 2)) = lv') (hp : pc + 2 = pc') (K : WM l D Γ nL k n Wd pc' lv' st) : WM l D Γ nL k n Wd pc lv (.ref x :: st) := by
  subst hp
  obtain ⟨p, e, R, s, m, args, below, meth, c, A, Qc⟩ := Γ
  obtain ⟨hx, hb, hr, hml, hown, hts, hlk, hK, hA, rfl, hnm, hQ⟩ := C
  intro H locs ls hP hD hS hl
  exact lv_astore hx hb d hl hn hl' (fun ls' hls' => K H locs ls' hP hD hS hls')
theorem wm_iinc (C : CX D τ Γ cc y nL Ts ret rm F) {i : Nat} {z : Int} {x v : Int32} (d : decode cc pc = .ok (.iinc i z, 3)) (j : Nat) (h : lv[j]? = some (i, .int x)) (hv : x + Int32.ofInt z = v) (hn : i < nL) (hl' : (i, Value.int v) :: lv.filter (fun q => !(q.1 == i) && !(q.1 + 1 == i && q.2.category == 2)) = lv') (hp : pc + 3 = pc') (K : WM l D Γ nL k n Wd pc' lv' st) : WM l D Γ nL k n Wd pc lv st := by
  subst hp
  obtain ⟨p, e, R, s, m, args, below, meth, c, A, Qc⟩ := Γ
  obtain ⟨hx, hb, hr, hml, hown, hts, hlk, hK, hA, rfl, hnm, hQ⟩ := C
  intro H locs ls hP hD hS hl
  exact lv_iinc hx hb d hl (k := j) h hv hn hl' (fun ls' hls' => K H locs ls' hP hD hS hls')
theorem wm_iadd (C : CX D τ Γ cc y nL Ts ret rm F) {x z : Int32} (d : decode cc pc = .ok (.iadd, 1))  (hp : pc + 1 = pc') (K : WM l D Γ nL k n Wd pc' lv (.int (x + z) :: st)) : WM l D Γ nL k n Wd pc lv (.int z :: .int x :: st) := by
  subst hp
  obtain ⟨p, e, R, s, m, args, below, meth, c, A, Qc⟩ := Γ
  obtain ⟨hx, hb, hr, hml, hown, hts, hlk, hK, hA, rfl, hnm, hQ⟩ := C
  intro H locs ls hP hD hS hl
  exact lv_iadd hx hb d (K H locs ls hP hD hS hl)
theorem wm_isub (C : CX D τ Γ cc y nL Ts ret rm F) {x z : Int32} (d : decode cc pc = .ok (.isub, 1))  (hp : pc + 1 = pc') (K : WM l D Γ nL k n Wd pc' lv (.int (x - z) :: st)) : WM l D Γ nL k n Wd pc lv (.int z :: .int x :: st) := by
  subst hp
  obtain ⟨p, e, R, s, m, args, below, meth, c, A, Qc⟩ := Γ
  obtain ⟨hx, hb, hr, hml, hown, hts, hlk, hK, hA, rfl, hnm, hQ⟩ := C
  intro H locs ls hP hD hS hl
  exact lv_isub hx hb d (K H locs ls hP hD hS hl)
theorem wm_imul (C : CX D τ Γ cc y nL Ts ret rm F) {x z : Int32} (d : decode cc pc = .ok (.imul, 1))  (hp : pc + 1 = pc') (K : WM l D Γ nL k n Wd pc' lv (.int (x * z) :: st)) : WM l D Γ nL k n Wd pc lv (.int z :: .int x :: st) := by
  subst hp
  obtain ⟨p, e, R, s, m, args, below, meth, c, A, Qc⟩ := Γ
  obtain ⟨hx, hb, hr, hml, hown, hts, hlk, hK, hA, rfl, hnm, hQ⟩ := C
  intro H locs ls hP hD hS hl
  exact lv_imul hx hb d (K H locs ls hP hD hS hl)
theorem wm_iand (C : CX D τ Γ cc y nL Ts ret rm F) {x z : Int32} (d : decode cc pc = .ok (.iand, 1))  (hp : pc + 1 = pc') (K : WM l D Γ nL k n Wd pc' lv (.int (x &&& z) :: st)) : WM l D Γ nL k n Wd pc lv (.int z :: .int x :: st) := by
  subst hp
  obtain ⟨p, e, R, s, m, args, below, meth, c, A, Qc⟩ := Γ
  obtain ⟨hx, hb, hr, hml, hown, hts, hlk, hK, hA, rfl, hnm, hQ⟩ := C
  intro H locs ls hP hD hS hl
  exact lv_iand hx hb d (K H locs ls hP hD hS hl)
theorem wm_ior (C : CX D τ Γ cc y nL Ts ret rm F) {x z : Int32} (d : decode cc pc = .ok (.ior, 1))  (hp : pc + 1 = pc') (K : WM l D Γ nL k n Wd pc' lv (.int (x ||| z) :: st)) : WM l D Γ nL k n Wd pc lv (.int z :: .int x :: st) := by
  subst hp
  obtain ⟨p, e, R, s, m, args, below, meth, c, A, Qc⟩ := Γ
  obtain ⟨hx, hb, hr, hml, hown, hts, hlk, hK, hA, rfl, hnm, hQ⟩ := C
  intro H locs ls hP hD hS hl
  exact lv_ior hx hb d (K H locs ls hP hD hS hl)
theorem wm_ixor (C : CX D τ Γ cc y nL Ts ret rm F) {x z : Int32} (d : decode cc pc = .ok (.ixor, 1))  (hp : pc + 1 = pc') (K : WM l D Γ nL k n Wd pc' lv (.int (x ^^^ z) :: st)) : WM l D Γ nL k n Wd pc lv (.int z :: .int x :: st) := by
  subst hp
  obtain ⟨p, e, R, s, m, args, below, meth, c, A, Qc⟩ := Γ
  obtain ⟨hx, hb, hr, hml, hown, hts, hlk, hK, hA, rfl, hnm, hQ⟩ := C
  intro H locs ls hP hD hS hl
  exact lv_ixor hx hb d (K H locs ls hP hD hS hl)
theorem wm_idiv (C : CX D τ Γ cc y nL Ts ret rm F) {x z : Int32} (d : decode cc pc = .ok (.idiv, 1)) (hne : ¬ z = 0) (hp : pc + 1 = pc') (K : WM l D Γ nL k n Wd pc' lv (.int (x / z) :: st)) : WM l D Γ nL k n Wd pc lv (.int z :: .int x :: st) := by
  subst hp
  obtain ⟨p, e, R, s, m, args, below, meth, c, A, Qc⟩ := Γ
  obtain ⟨hx, hb, hr, hml, hown, hts, hlk, hK, hA, rfl, hnm, hQ⟩ := C
  intro H locs ls hP hD hS hl
  exact lv_idiv hx hb d hne (K H locs ls hP hD hS hl)
theorem wm_irem (C : CX D τ Γ cc y nL Ts ret rm F) {x z : Int32} (d : decode cc pc = .ok (.irem, 1)) (hne : ¬ z = 0) (hp : pc + 1 = pc') (K : WM l D Γ nL k n Wd pc' lv (.int (x - x / z * z) :: st)) : WM l D Γ nL k n Wd pc lv (.int z :: .int x :: st) := by
  subst hp
  obtain ⟨p, e, R, s, m, args, below, meth, c, A, Qc⟩ := Γ
  obtain ⟨hx, hb, hr, hml, hown, hts, hlk, hK, hA, rfl, hnm, hQ⟩ := C
  intro H locs ls hP hD hS hl
  exact lv_irem hx hb d hne (K H locs ls hP hD hS hl)
theorem wm_ladd (C : CX D τ Γ cc y nL Ts ret rm F) {x z : Int64} (d : decode cc pc = .ok (.ladd, 1))  (hp : pc + 1 = pc') (K : WM l D Γ nL k n Wd pc' lv (.long (x + z) :: st)) : WM l D Γ nL k n Wd pc lv (.long z :: .long x :: st) := by
  subst hp
  obtain ⟨p, e, R, s, m, args, below, meth, c, A, Qc⟩ := Γ
  obtain ⟨hx, hb, hr, hml, hown, hts, hlk, hK, hA, rfl, hnm, hQ⟩ := C
  intro H locs ls hP hD hS hl
  exact lv_ladd hx hb d (K H locs ls hP hD hS hl)
theorem wm_lsub (C : CX D τ Γ cc y nL Ts ret rm F) {x z : Int64} (d : decode cc pc = .ok (.lsub, 1))  (hp : pc + 1 = pc') (K : WM l D Γ nL k n Wd pc' lv (.long (x - z) :: st)) : WM l D Γ nL k n Wd pc lv (.long z :: .long x :: st) := by
  subst hp
  obtain ⟨p, e, R, s, m, args, below, meth, c, A, Qc⟩ := Γ
  obtain ⟨hx, hb, hr, hml, hown, hts, hlk, hK, hA, rfl, hnm, hQ⟩ := C
  intro H locs ls hP hD hS hl
  exact lv_lsub hx hb d (K H locs ls hP hD hS hl)
theorem wm_lmul (C : CX D τ Γ cc y nL Ts ret rm F) {x z : Int64} (d : decode cc pc = .ok (.lmul, 1))  (hp : pc + 1 = pc') (K : WM l D Γ nL k n Wd pc' lv (.long (x * z) :: st)) : WM l D Γ nL k n Wd pc lv (.long z :: .long x :: st) := by
  subst hp
  obtain ⟨p, e, R, s, m, args, below, meth, c, A, Qc⟩ := Γ
  obtain ⟨hx, hb, hr, hml, hown, hts, hlk, hK, hA, rfl, hnm, hQ⟩ := C
  intro H locs ls hP hD hS hl
  exact lv_lmul hx hb d (K H locs ls hP hD hS hl)
theorem wm_land (C : CX D τ Γ cc y nL Ts ret rm F) {x z : Int64} (d : decode cc pc = .ok (.land, 1))  (hp : pc + 1 = pc') (K : WM l D Γ nL k n Wd pc' lv (.long (x &&& z) :: st)) : WM l D Γ nL k n Wd pc lv (.long z :: .long x :: st) := by
  subst hp
  obtain ⟨p, e, R, s, m, args, below, meth, c, A, Qc⟩ := Γ
  obtain ⟨hx, hb, hr, hml, hown, hts, hlk, hK, hA, rfl, hnm, hQ⟩ := C
  intro H locs ls hP hD hS hl
  exact lv_land hx hb d (K H locs ls hP hD hS hl)
theorem wm_lor (C : CX D τ Γ cc y nL Ts ret rm F) {x z : Int64} (d : decode cc pc = .ok (.lor, 1))  (hp : pc + 1 = pc') (K : WM l D Γ nL k n Wd pc' lv (.long (x ||| z) :: st)) : WM l D Γ nL k n Wd pc lv (.long z :: .long x :: st) := by
  subst hp
  obtain ⟨p, e, R, s, m, args, below, meth, c, A, Qc⟩ := Γ
  obtain ⟨hx, hb, hr, hml, hown, hts, hlk, hK, hA, rfl, hnm, hQ⟩ := C
  intro H locs ls hP hD hS hl
  exact lv_lor hx hb d (K H locs ls hP hD hS hl)
theorem wm_ldiv (C : CX D τ Γ cc y nL Ts ret rm F) {x z : Int64} (d : decode cc pc = .ok (.ldiv, 1)) (hne : ¬ z = 0) (hp : pc + 1 = pc') (K : WM l D Γ nL k n Wd pc' lv (.long (x / z) :: st)) : WM l D Γ nL k n Wd pc lv (.long z :: .long x :: st) := by
  subst hp
  obtain ⟨p, e, R, s, m, args, below, meth, c, A, Qc⟩ := Γ
  obtain ⟨hx, hb, hr, hml, hown, hts, hlk, hK, hA, rfl, hnm, hQ⟩ := C
  intro H locs ls hP hD hS hl
  exact lv_ldiv hx hb d hne (K H locs ls hP hD hS hl)
theorem wm_lrem (C : CX D τ Γ cc y nL Ts ret rm F) {x z : Int64} (d : decode cc pc = .ok (.lrem, 1)) (hne : ¬ z = 0) (hp : pc + 1 = pc') (K : WM l D Γ nL k n Wd pc' lv (.long (x - x / z * z) :: st)) : WM l D Γ nL k n Wd pc lv (.long z :: .long x :: st) := by
  subst hp
  obtain ⟨p, e, R, s, m, args, below, meth, c, A, Qc⟩ := Γ
  obtain ⟨hx, hb, hr, hml, hown, hts, hlk, hK, hA, rfl, hnm, hQ⟩ := C
  intro H locs ls hP hD hS hl
  exact lv_lrem hx hb d hne (K H locs ls hP hD hS hl)
theorem wm_lneg (C : CX D τ Γ cc y nL Ts ret rm F) {x : Int64} (d : decode cc pc = .ok (.lneg, 1))  (hp : pc + 1 = pc') (K : WM l D Γ nL k n Wd pc' lv (.long (-x) :: st)) : WM l D Γ nL k n Wd pc lv (.long x :: st) := by
  subst hp
  obtain ⟨p, e, R, s, m, args, below, meth, c, A, Qc⟩ := Γ
  obtain ⟨hx, hb, hr, hml, hown, hts, hlk, hK, hA, rfl, hnm, hQ⟩ := C
  intro H locs ls hP hD hS hl
  exact lv_lneg hx hb d (K H locs ls hP hD hS hl)
theorem wm_lcmp (C : CX D τ Γ cc y nL Ts ret rm F) {x z : Int64} (d : decode cc pc = .ok (.lcmp, 1))  (hp : pc + 1 = pc') (K : WM l D Γ nL k n Wd pc' lv (.int (lg_cmp x z) :: st)) : WM l D Γ nL k n Wd pc lv (.long z :: .long x :: st) := by
  subst hp
  obtain ⟨p, e, R, s, m, args, below, meth, c, A, Qc⟩ := Γ
  obtain ⟨hx, hb, hr, hml, hown, hts, hlk, hK, hA, rfl, hnm, hQ⟩ := C
  intro H locs ls hP hD hS hl
  exact W.lcmp hx hb d (K H locs ls hP hD hS hl)
theorem wm_i2l (C : CX D τ Γ cc y nL Ts ret rm F) {x : Int32} (d : decode cc pc = .ok (.i2l, 1))  (hp : pc + 1 = pc') (K : WM l D Γ nL k n Wd pc' lv (.long x.toInt64 :: st)) : WM l D Γ nL k n Wd pc lv (.int x :: st) := by
  subst hp
  obtain ⟨p, e, R, s, m, args, below, meth, c, A, Qc⟩ := Γ
  obtain ⟨hx, hb, hr, hml, hown, hts, hlk, hK, hA, rfl, hnm, hQ⟩ := C
  intro H locs ls hP hD hS hl
  exact lv_i2l hx hb d rfl (K H locs ls hP hD hS hl)
theorem wm_l2i (C : CX D τ Γ cc y nL Ts ret rm F) {x : Int64} (d : decode cc pc = .ok (.l2i, 1))  (hp : pc + 1 = pc') (K : WM l D Γ nL k n Wd pc' lv (.int x.toInt32 :: st)) : WM l D Γ nL k n Wd pc lv (.long x :: st) := by
  subst hp
  obtain ⟨p, e, R, s, m, args, below, meth, c, A, Qc⟩ := Γ
  obtain ⟨hx, hb, hr, hml, hown, hts, hlk, hK, hA, rfl, hnm, hQ⟩ := C
  intro H locs ls hP hD hS hl
  exact lv_l2i hx hb d rfl (K H locs ls hP hD hS hl)
theorem wm_dup (C : CX D τ Γ cc y nL Ts ret rm F) {v : Value} (d : decode cc pc = .ok (.dup, 1)) (hv : v.category = 1) (hp : pc + 1 = pc') (K : WM l D Γ nL k n Wd pc' lv (v :: v :: st)) : WM l D Γ nL k n Wd pc lv (v :: st) := by
  subst hp
  obtain ⟨p, e, R, s, m, args, below, meth, c, A, Qc⟩ := Γ
  obtain ⟨hx, hb, hr, hml, hown, hts, hlk, hK, hA, rfl, hnm, hQ⟩ := C
  intro H locs ls hP hD hS hl
  exact lv_dup hx hb d hv (K H locs ls hP hD hS hl)
theorem wm_dup2 (C : CX D τ Γ cc y nL Ts ret rm F) {v w : Value} (d : decode cc pc = .ok (.dup2, 1)) (hv : v.category = 1) (hw : w.category = 1) (hp : pc + 1 = pc') (K : WM l D Γ nL k n Wd pc' lv (v :: w :: v :: w :: st)) : WM l D Γ nL k n Wd pc lv (v :: w :: st) := by
  subst hp
  obtain ⟨p, e, R, s, m, args, below, meth, c, A, Qc⟩ := Γ
  obtain ⟨hx, hb, hr, hml, hown, hts, hlk, hK, hA, rfl, hnm, hQ⟩ := C
  intro H locs ls hP hD hS hl
  exact lv_dup2_11 hx hb d hv hw (K H locs ls hP hD hS hl)
theorem wm_if_eq (C : CX D τ Γ cc y nL Ts ret rm F) {x : Int32} {off : Int} (d : decode cc pc = .ok (.ifCond .eq off, 3)) (tgt : Nat) (ht : (pc : Int) + off = (tgt : Int)) (hp : pc + 3 = pc') (K1 : x = 0 → WM l D Γ nL k n Wd tgt lv st) (K2 : ¬ x = 0 → WM l D Γ nL k n Wd pc' lv st) : WM l D Γ nL k n Wd pc lv (.int x :: st) := by
  subst hp
  obtain ⟨p, e, R, s, m, args, below, meth, c, A, Qc⟩ := Γ
  obtain ⟨hx, hb, hr, hml, hown, hts, hlk, hK, hA, rfl, hnm, hQ⟩ := C
  intro H locs ls hP hD hS hl
  exact lv_if_eq hx hb d ht (fun h => K1 h H locs ls hP hD hS hl) (fun h => K2 h H locs ls hP hD hS hl)
theorem wm_icmp_eq (C : CX D τ Γ cc y nL Ts ret rm F) {x z : Int32} {off : Int} (d : decode cc pc = .ok (.if_icmp .eq off, 3)) (tgt : Nat) (ht : (pc : Int) + off = (tgt : Int)) (hp : pc + 3 = pc') (K1 : x = z → WM l D Γ nL k n Wd tgt lv st) (K2 : ¬ x = z → WM l D Γ nL k n Wd pc' lv st) : WM l D Γ nL k n Wd pc lv (.int z :: .int x :: st) := by
  subst hp
  obtain ⟨p, e, R, s, m, args, below, meth, c, A, Qc⟩ := Γ
  obtain ⟨hx, hb, hr, hml, hown, hts, hlk, hK, hA, rfl, hnm, hQ⟩ := C
  intro H locs ls hP hD hS hl
  exact lv_icmp_eq hx hb d ht (fun h => K1 h H locs ls hP hD hS hl) (fun h => K2 h H locs ls hP hD hS hl)
theorem wm_if_ne (C : CX D τ Γ cc y nL Ts ret rm F) {x : Int32} {off : Int} (d : decode cc pc = .ok (.ifCond .ne off, 3)) (tgt : Nat) (ht : (pc : Int) + off = (tgt : Int)) (hp : pc + 3 = pc') (K1 : ¬ x = 0 → WM l D Γ nL k n Wd tgt lv st) (K2 : x = 0 → WM l D Γ nL k n Wd pc' lv st) : WM l D Γ nL k n Wd pc lv (.int x :: st) := by
  subst hp
  obtain ⟨p, e, R, s, m, args, below, meth, c, A, Qc⟩ := Γ
  obtain ⟨hx, hb, hr, hml, hown, hts, hlk, hK, hA, rfl, hnm, hQ⟩ := C
  intro H locs ls hP hD hS hl
  exact lv_if_ne hx hb d ht (fun h => K1 h H locs ls hP hD hS hl) (fun h => K2 h H locs ls hP hD hS hl)
theorem wm_icmp_ne (C : CX D τ Γ cc y nL Ts ret rm F) {x z : Int32} {off : Int} (d : decode cc pc = .ok (.if_icmp .ne off, 3)) (tgt : Nat) (ht : (pc : Int) + off = (tgt : Int)) (hp : pc + 3 = pc') (K1 : ¬ x = z → WM l D Γ nL k n Wd tgt lv st) (K2 : x = z → WM l D Γ nL k n Wd pc' lv st) : WM l D Γ nL k n Wd pc lv (.int z :: .int x :: st) := by
  subst hp
  obtain ⟨p, e, R, s, m, args, below, meth, c, A, Qc⟩ := Γ
  obtain ⟨hx, hb, hr, hml, hown, hts, hlk, hK, hA, rfl, hnm, hQ⟩ := C
  intro H locs ls hP hD hS hl
  exact lv_icmp_ne hx hb d ht (fun h => K1 h H locs ls hP hD hS hl) (fun h => K2 h H locs ls hP hD hS hl)
theorem wm_if_lt (C : CX D τ Γ cc y nL Ts ret rm F) {x : Int32} {off : Int} (d : decode cc pc = .ok (.ifCond .lt off, 3)) (tgt : Nat) (ht : (pc : Int) + off = (tgt : Int)) (hp : pc + 3 = pc') (K1 : x < 0 → WM l D Γ nL k n Wd tgt lv st) (K2 : ¬ x < 0 → WM l D Γ nL k n Wd pc' lv st) : WM l D Γ nL k n Wd pc lv (.int x :: st) := by
  subst hp
  obtain ⟨p, e, R, s, m, args, below, meth, c, A, Qc⟩ := Γ
  obtain ⟨hx, hb, hr, hml, hown, hts, hlk, hK, hA, rfl, hnm, hQ⟩ := C
  intro H locs ls hP hD hS hl
  exact lv_if_lt hx hb d ht (fun h => K1 h H locs ls hP hD hS hl) (fun h => K2 h H locs ls hP hD hS hl)
theorem wm_icmp_lt (C : CX D τ Γ cc y nL Ts ret rm F) {x z : Int32} {off : Int} (d : decode cc pc = .ok (.if_icmp .lt off, 3)) (tgt : Nat) (ht : (pc : Int) + off = (tgt : Int)) (hp : pc + 3 = pc') (K1 : x < z → WM l D Γ nL k n Wd tgt lv st) (K2 : ¬ x < z → WM l D Γ nL k n Wd pc' lv st) : WM l D Γ nL k n Wd pc lv (.int z :: .int x :: st) := by
  subst hp
  obtain ⟨p, e, R, s, m, args, below, meth, c, A, Qc⟩ := Γ
  obtain ⟨hx, hb, hr, hml, hown, hts, hlk, hK, hA, rfl, hnm, hQ⟩ := C
  intro H locs ls hP hD hS hl
  exact lv_icmp_lt hx hb d ht (fun h => K1 h H locs ls hP hD hS hl) (fun h => K2 h H locs ls hP hD hS hl)
theorem wm_if_ge (C : CX D τ Γ cc y nL Ts ret rm F) {x : Int32} {off : Int} (d : decode cc pc = .ok (.ifCond .ge off, 3)) (tgt : Nat) (ht : (pc : Int) + off = (tgt : Int)) (hp : pc + 3 = pc') (K1 : 0 ≤ x → WM l D Γ nL k n Wd tgt lv st) (K2 : ¬ 0 ≤ x → WM l D Γ nL k n Wd pc' lv st) : WM l D Γ nL k n Wd pc lv (.int x :: st) := by
  subst hp
  obtain ⟨p, e, R, s, m, args, below, meth, c, A, Qc⟩ := Γ
  obtain ⟨hx, hb, hr, hml, hown, hts, hlk, hK, hA, rfl, hnm, hQ⟩ := C
  intro H locs ls hP hD hS hl
  exact lv_if_ge hx hb d ht (fun h => K1 h H locs ls hP hD hS hl) (fun h => K2 h H locs ls hP hD hS hl)
theorem wm_icmp_ge (C : CX D τ Γ cc y nL Ts ret rm F) {x z : Int32} {off : Int} (d : decode cc pc = .ok (.if_icmp .ge off, 3)) (tgt : Nat) (ht : (pc : Int) + off = (tgt : Int)) (hp : pc + 3 = pc') (K1 : z ≤ x → WM l D Γ nL k n Wd tgt lv st) (K2 : ¬ z ≤ x → WM l D Γ nL k n Wd pc' lv st) : WM l D Γ nL k n Wd pc lv (.int z :: .int x :: st) := by
  subst hp
  obtain ⟨p, e, R, s, m, args, below, meth, c, A, Qc⟩ := Γ
  obtain ⟨hx, hb, hr, hml, hown, hts, hlk, hK, hA, rfl, hnm, hQ⟩ := C
  intro H locs ls hP hD hS hl
  exact lv_icmp_ge hx hb d ht (fun h => K1 h H locs ls hP hD hS hl) (fun h => K2 h H locs ls hP hD hS hl)
theorem wm_if_gt (C : CX D τ Γ cc y nL Ts ret rm F) {x : Int32} {off : Int} (d : decode cc pc = .ok (.ifCond .gt off, 3)) (tgt : Nat) (ht : (pc : Int) + off = (tgt : Int)) (hp : pc + 3 = pc') (K1 : 0 < x → WM l D Γ nL k n Wd tgt lv st) (K2 : ¬ 0 < x → WM l D Γ nL k n Wd pc' lv st) : WM l D Γ nL k n Wd pc lv (.int x :: st) := by
  subst hp
  obtain ⟨p, e, R, s, m, args, below, meth, c, A, Qc⟩ := Γ
  obtain ⟨hx, hb, hr, hml, hown, hts, hlk, hK, hA, rfl, hnm, hQ⟩ := C
  intro H locs ls hP hD hS hl
  exact lv_if_gt hx hb d ht (fun h => K1 h H locs ls hP hD hS hl) (fun h => K2 h H locs ls hP hD hS hl)
theorem wm_icmp_gt (C : CX D τ Γ cc y nL Ts ret rm F) {x z : Int32} {off : Int} (d : decode cc pc = .ok (.if_icmp .gt off, 3)) (tgt : Nat) (ht : (pc : Int) + off = (tgt : Int)) (hp : pc + 3 = pc') (K1 : z < x → WM l D Γ nL k n Wd tgt lv st) (K2 : ¬ z < x → WM l D Γ nL k n Wd pc' lv st) : WM l D Γ nL k n Wd pc lv (.int z :: .int x :: st) := by
  subst hp
  obtain ⟨p, e, R, s, m, args, below, meth, c, A, Qc⟩ := Γ
  obtain ⟨hx, hb, hr, hml, hown, hts, hlk, hK, hA, rfl, hnm, hQ⟩ := C
  intro H locs ls hP hD hS hl
  exact lv_icmp_gt hx hb d ht (fun h => K1 h H locs ls hP hD hS hl) (fun h => K2 h H locs ls hP hD hS hl)
theorem wm_if_le (C : CX D τ Γ cc y nL Ts ret rm F) {x : Int32} {off : Int} (d : decode cc pc = .ok (.ifCond .le off, 3)) (tgt : Nat) (ht : (pc : Int) + off = (tgt : Int)) (hp : pc + 3 = pc') (K1 : x ≤ 0 → WM l D Γ nL k n Wd tgt lv st) (K2 : ¬ x ≤ 0 → WM l D Γ nL k n Wd pc' lv st) : WM l D Γ nL k n Wd pc lv (.int x :: st) := by
  subst hp
  obtain ⟨p, e, R, s, m, args, below, meth, c, A, Qc⟩ := Γ
  obtain ⟨hx, hb, hr, hml, hown, hts, hlk, hK, hA, rfl, hnm, hQ⟩ := C
  intro H locs ls hP hD hS hl
  exact lv_if_le hx hb d ht (fun h => K1 h H locs ls hP hD hS hl) (fun h => K2 h H locs ls hP hD hS hl)
theorem wm_icmp_le (C : CX D τ Γ cc y nL Ts ret rm F) {x z : Int32} {off : Int} (d : decode cc pc = .ok (.if_icmp .le off, 3)) (tgt : Nat) (ht : (pc : Int) + off = (tgt : Int)) (hp : pc + 3 = pc') (K1 : x ≤ z → WM l D Γ nL k n Wd tgt lv st) (K2 : ¬ x ≤ z → WM l D Γ nL k n Wd pc' lv st) : WM l D Γ nL k n Wd pc lv (.int z :: .int x :: st) := by
  subst hp
  obtain ⟨p, e, R, s, m, args, below, meth, c, A, Qc⟩ := Γ
  obtain ⟨hx, hb, hr, hml, hown, hts, hlk, hK, hA, rfl, hnm, hQ⟩ := C
  intro H locs ls hP hD hS hl
  exact lv_icmp_le hx hb d ht (fun h => K1 h H locs ls hP hD hS hl) (fun h => K2 h H locs ls hP hD hS hl)
theorem wm_goto (C : CX D τ Γ cc y nL Ts ret rm F) {off : Int} (d : decode cc pc = .ok (.goto off, 3)) (tgt : Nat) (ht : (pc : Int) + off = (tgt : Int)) (K : WM l D Γ nL k n Wd tgt lv st) : WM l D Γ nL k n Wd pc lv st := by
  obtain ⟨p, e, R, s, m, args, below, meth, c, A, Qc⟩ := Γ
  obtain ⟨hx, hb, hr, hml, hown, hts, hlk, hK, hA, rfl, hnm, hQ⟩ := C
  intro H locs ls hP hD hS hl
  exact lv_goto hx hb d ht (K H locs ls hP hD hS hl)
theorem wm_iret (C : CX D τ Γ cc y nL Ts (some .int) rm F) {v : Int32} (d : decode cc pc = .ok (.ireturn, 1)) (hk : k ≤ rm.cells) (hn : n ≤ rm.slots) (hF : F Wd (some (.int v))) : WM l D Γ nL k n Wd pc lv [.int v] := by
  obtain ⟨p, e, R, s, m, args, below, meth, c, A, Qc⟩ := Γ
  obtain ⟨hx, hb, hr, hml, hown, hts, hlk, hK, hA, rfl, hnm, hQ⟩ := C
  intro H locs ls hP hD hS hl
  obtain ⟨Qc, hQe, hQ⟩ := hQ
  rw [hQe _ _ hF]
  refine W.widen hk hn ?_
  exact W.iret hx hb hr (fun t ht hW => hQ t _ Wd hW hF (by rw [ht]; exact hP) hD (hS.F ht)) hS.2.2 d hlk
theorem wm_zret (C : CX D τ Γ cc y nL Ts (some .boolean) rm F) {v : Int32} (d : decode cc pc = .ok (.ireturn, 1)) (hv : narrow .boolean (.int v) = .int v) (hk : k ≤ rm.cells) (hn : n ≤ rm.slots) (hF : F Wd (some (.int v))) : WM l D Γ nL k n Wd pc lv [.int v] := by
  obtain ⟨p, e, R, s, m, args, below, meth, c, A, Qc⟩ := Γ
  obtain ⟨hx, hb, hr, hml, hown, hts, hlk, hK, hA, rfl, hnm, hQ⟩ := C
  intro H locs ls hP hD hS hl
  obtain ⟨Qc, hQe, hQ⟩ := hQ
  rw [hQe _ _ hF]
  refine W.widen hk hn ?_
  exact W.zret hx hb hr hv (fun t ht hW => hQ t _ Wd hW hF (by rw [ht]; exact hP) hD (hS.F ht)) hS.2.2 d hlk
theorem wm_lret (C : CX D τ Γ cc y nL Ts (some .long) rm F) {v : Int64} (d : decode cc pc = .ok (.lreturn, 1)) (hk : k ≤ rm.cells) (hn : n ≤ rm.slots) (hF : F Wd (some (.long v))) : WM l D Γ nL k n Wd pc lv [.long v] := by
  obtain ⟨p, e, R, s, m, args, below, meth, c, A, Qc⟩ := Γ
  obtain ⟨hx, hb, hr, hml, hown, hts, hlk, hK, hA, rfl, hnm, hQ⟩ := C
  intro H locs ls hP hD hS hl
  obtain ⟨Qc, hQe, hQ⟩ := hQ
  rw [hQe _ _ hF]
  refine W.widen hk hn ?_
  exact W.lret hx hb hr (fun t ht hW => hQ t _ Wd hW hF (by rw [ht]; exact hP) hD (hS.F ht)) hS.2.2 d hlk
theorem wm_vret (C : CX D τ Γ cc y nL Ts none rm F) (d : decode cc pc = .ok (.return_, 1)) (hk : k ≤ rm.cells) (hn : n ≤ rm.slots) (hF : F Wd none) : WM l D Γ nL k n Wd pc lv [] := by
  obtain ⟨p, e, R, s, m, args, below, meth, c, A, Qc⟩ := Γ
  obtain ⟨hx, hb, hr, hml, hown, hts, hlk, hK, hA, rfl, hnm, hQ⟩ := C
  intro H locs ls hP hD hS hl
  obtain ⟨Qc, hQe, hQ⟩ := hQ
  rw [hQe _ _ hF]
  refine W.widen hk hn ?_
  exact W.vret hx hb hr (fun t ht hW => hQ t _ Wd hW hF (by rw [ht]; exact hP) hD (hS.F ht)) hS.2.2 d hlk
theorem wm_tableIn (C : CX D τ Γ cc y nL Ts ret rm F) {dflt lo hi : Int} {offs : Array Int} {len : Nat} {x : Int32} {off : Int} (d : decode cc pc = .ok (.tableswitch dflt lo hi offs, len)) (h1 : ¬ x.toInt < lo) (h2 : ¬ hi < x.toInt) (ho : offs[(x.toInt - lo).toNat]? = some off) (tgt : Nat) (ht : (pc : Int) + off = (tgt : Int)) (K : WM l D Γ nL k n Wd tgt lv st) : WM l D Γ nL k n Wd pc lv (.int x :: st) := by
  obtain ⟨p, e, R, s, m, args, below, meth, c, A, Qc⟩ := Γ
  obtain ⟨hx, hb, hr, hml, hown, hts, hlk, hK, hA, rfl, hnm, hQ⟩ := C
  intro H locs ls hP hD hS hl
  exact lv_tableIn hx hb d h1 h2 ho ht (K H locs ls hP hD hS hl)
theorem wm_tableOut (C : CX D τ Γ cc y nL Ts ret rm F) {dflt lo hi : Int} {offs : Array Int} {len : Nat} {x : Int32} (d : decode cc pc = .ok (.tableswitch dflt lo hi offs, len)) (h : x.toInt < lo ∨ hi < x.toInt) (tgt : Nat) (ht : (pc : Int) + dflt = (tgt : Int)) (K : WM l D Γ nL k n Wd tgt lv st) : WM l D Γ nL k n Wd pc lv (.int x :: st) := by
  obtain ⟨p, e, R, s, m, args, below, meth, c, A, Qc⟩ := Γ
  obtain ⟨hx, hb, hr, hml, hown, hts, hlk, hK, hA, rfl, hnm, hQ⟩ := C
  intro H locs ls hP hD hS hl
  exact lv_tableOut hx hb d h ht (K H locs ls hP hD hS hl)
theorem wm_get (C : CX D τ Γ cc y nL Ts ret rm F) {a ci ix N : Nat} {ref Cn : String} {T : u_T} {fs : List Value} {v : Value} (d : decode cc pc = .ok (.getfield ix, 3)) (hin : ∀ w ∈ u_ws Cn T N, w ∈ Ts) (q0 : Nat) (he : Wd[q0]? = some (a, .inr (ci, fs))) (hc : vwCl[ci]? = some (Cn, T, N)) (j : Nat) (hj : j < N) (hk : Cond.fieldLink y.cls ix ref (T j).2.1 (T j).2.2.1 ∈ Ts) (hs : ref = (T j).1 ∨ Cond.sameField ref (T j).1 (T j).2.1 (T j).2.2.1 ∈ Ts) (hv : fs[j]? = some v) (hp : pc + 3 = pc') (K : WM l D Γ nL k n Wd pc' lv (v :: st)) : WM l D Γ nL k n Wd pc lv (.ref a :: st) := by
  subst hp
  obtain ⟨p, e, R, s, m, args, below, meth, c, A, Qc⟩ := Γ
  obtain ⟨hx, hb, hr, hml, hown, hts, hlk, hK, hA, rfl, hnm, hQ⟩ := C
  intro H locs ls hP hD hS hl
  exact va_get hx hb hts hin hown hK.1 hP q0 he hc j hj (hts _ hk) (hs.elim (fun h => by rw [h]; exact fun _ h9 => h9) (fun h => u_same (hts _ h))) hv d (K H locs ls hP hD hS hl)
theorem wm_put (C : CX D τ Γ cc y nL Ts ret rm F) {a ci ix N : Nat} {ref Cn : String} {T : u_T} {fs : List Value} {v : Value} {ty : FieldType} (d : decode cc pc = .ok (.putfield ix, 3)) (hin : ∀ w ∈ u_ws Cn T N, w ∈ Ts) (ty0 : Nat → FieldType) (hty : ∀ k, k < N → parseFieldDescriptor (T k).2.2.1 = some (ty0 k)) (hnm : ∀ a, a < N → ∀ b, b < N → a ≠ b → (T a).2.1 ≠ (T b).2.1) (q0 : Nat) (he : Wd[q0]? = some (a, .inr (ci, fs))) (hc : vwCl[ci]? = some (Cn, T, N)) (j : Nat) (hj : j < N) (hk : Cond.fieldLink y.cls ix ref (T j).2.1 (T j).2.2.1 ∈ Ts) (hs : ref = (T j).1 ∨ Cond.sameField ref (T j).1 (T j).2.1 (T j).2.2.1 ∈ Ts) (hfin : (T j).2.2.2 = false) (hd : ty0 j = ty) (hn : narrow ty v = v) (hfit : fits ty v = true) (hlen : j < fs.length) (hW : Wd.set q0 (a, .inr (ci, fs.set j v)) = Wd') (hp : pc + 3 = pc') (K : WM l D Γ nL k n Wd' pc' lv st) : WM l D Γ nL k n Wd pc lv (v :: .ref a :: st) := by
  subst hp
  subst hW
  obtain ⟨p, e, R, s, m, args, below, meth, c, A, Qc⟩ := Γ
  obtain ⟨hx, hb, hr, hml, hown, hts, hlk, hK, hA, rfl, hnm2, hQ⟩ := C
  intro H locs ls hP hD hS hl
  exact va_put hx hb hts hin ty0 hty hnm hown hK.1 hP hD hS q0 he hc j hj (hts _ hk) (hs.elim (fun h => by rw [h]; exact fun _ h9 => h9) (fun h => u_same (hts _ h))) hfin (by rw [hty j hj, hd]) hn hfit hlen d (fun H1 locs1 hP1 hD1 hS1 => K H1 locs1 ls hP1 hD1 hS1 hl)
theorem wm_iald (C : CX D τ Γ cc y nL Ts ret rm F) {a N : Nat} {cA : ClassId} {f : Nat → Int32} {i : Int32} (d : decode cc pc = .ok (.iaload, 1)) (q0 : Nat) (ha : Wd[q0]? = some (a, .inl (cA, N, .inl f))) (ht : (tysOf τ)[0]? = some (cA, .int)) (hin : vp_in i N) (hp : pc + 1 = pc') (K : WM l D Γ nL k n Wd pc' lv (.int (f i.toNatClampNeg) :: st)) : WM l D Γ nL k n Wd pc lv (.int i :: .ref a :: st) := by
  subst hp
  obtain ⟨p, e, R, s, m, args, below, meth, c, A, Qc⟩ := Γ
  obtain ⟨hx, hb, hr, hml, hown, hts, hlk, hK, hA, rfl, hnm, hQ⟩ := C
  intro H locs ls hP hD hS hl
  exact va_iald hx hb hK.1 hP q0 0 ha ht hin d (K H locs ls hP hD hS hl)
theorem wm_zald (C : CX D τ Γ cc y nL Ts ret rm F) {a N : Nat} {cA : ClassId} {f : Nat → Int32} {i : Int32} (d : decode cc pc = .ok (.baload, 1)) (q0 : Nat) (ha : Wd[q0]? = some (a, .inl (cA, N, .inl f))) (ht : (tysOf τ)[2]? = some (cA, .boolean)) (hin : vp_in i N) (hp : pc + 1 = pc') (K : WM l D Γ nL k n Wd pc' lv (.int (f i.toNatClampNeg) :: st)) : WM l D Γ nL k n Wd pc lv (.int i :: .ref a :: st) := by
  subst hp
  obtain ⟨p, e, R, s, m, args, below, meth, c, A, Qc⟩ := Γ
  obtain ⟨hx, hb, hr, hml, hown, hts, hlk, hK, hA, rfl, hnm, hQ⟩ := C
  intro H locs ls hP hD hS hl
  exact va_zald hx hb hK.1 hP q0 2 ha ht hin d (K H locs ls hP hD hS hl)
theorem wm_lald (C : CX D τ Γ cc y nL Ts ret rm F) {a N : Nat} {cA : ClassId} {f : Nat → Int64} {i : Int32} (d : decode cc pc = .ok (.laload, 1)) (q0 : Nat) (ha : Wd[q0]? = some (a, .inl (cA, N, .inr (.inl f)))) (ht : (tysOf τ)[1]? = some (cA, .long)) (hin : vp_in i N) (hp : pc + 1 = pc') (K : WM l D Γ nL k n Wd pc' lv (.long (f i.toNatClampNeg) :: st)) : WM l D Γ nL k n Wd pc lv (.int i :: .ref a :: st) := by
  subst hp
  obtain ⟨p, e, R, s, m, args, below, meth, c, A, Qc⟩ := Γ
  obtain ⟨hx, hb, hr, hml, hown, hts, hlk, hK, hA, rfl, hnm, hQ⟩ := C
  intro H locs ls hP hD hS hl
  exact va_lald hx hb hK.1 hP q0 1 ha ht hin d (K H locs ls hP hD hS hl)
theorem wm_iast (C : CX D τ Γ cc y nL Ts ret rm F) {a N : Nat} {cA : ClassId} {f : Nat → Int32} {i : Int32} {x : Int32} (d : decode cc pc = .ok (.iastore, 1)) (q0 : Nat) (ha : Wd[q0]? = some (a, .inl (cA, N, .inl f))) (ht : (tysOf τ)[0]? = some (cA, .int)) (hin : vp_in i N) (hW : Wd.set q0 (a, .inl (cA, N, .inl (upd f i.toNatClampNeg x))) = Wd') (hp : pc + 1 = pc') (K : WM l D Γ nL k n Wd' pc' lv st) : WM l D Γ nL k n Wd pc lv (.int x :: .int i :: .ref a :: st) := by
  subst hp
  subst hW
  obtain ⟨p, e, R, s, m, args, below, meth, c, A, Qc⟩ := Γ
  obtain ⟨hx, hb, hr, hml, hown, hts, hlk, hK, hA, rfl, hnm, hQ⟩ := C
  intro H locs ls hP hD hS hl
  exact va_iast hx hb hK.1 hP hD hS q0 0 ha ht hin d (fun H1 locs1 hP1 hD1 hS1 => K H1 locs1 ls hP1 hD1 hS1 hl)
theorem wm_zast (C : CX D τ Γ cc y nL Ts ret rm F) {a N : Nat} {cA : ClassId} {f : Nat → Int32} {i : Int32} {x : Int32} (d : decode cc pc = .ok (.bastore, 1)) (q0 : Nat) (ha : Wd[q0]? = some (a, .inl (cA, N, .inl f))) (ht : (tysOf τ)[2]? = some (cA, .boolean)) (hin : vp_in i N) (hW : Wd.set q0 (a, .inl (cA, N, .inl (upd f i.toNatClampNeg (vp_nar .boolean x)))) = Wd') (hp : pc + 1 = pc') (K : WM l D Γ nL k n Wd' pc' lv st) : WM l D Γ nL k n Wd pc lv (.int x :: .int i :: .ref a :: st) := by
  subst hp
  subst hW
  obtain ⟨p, e, R, s, m, args, below, meth, c, A, Qc⟩ := Γ
  obtain ⟨hx, hb, hr, hml, hown, hts, hlk, hK, hA, rfl, hnm, hQ⟩ := C
  intro H locs ls hP hD hS hl
  exact va_zast hx hb hK.1 hP hD hS q0 2 ha ht hin d (fun H1 locs1 hP1 hD1 hS1 => K H1 locs1 ls hP1 hD1 hS1 hl)
theorem wm_last (C : CX D τ Γ cc y nL Ts ret rm F) {a N : Nat} {cA : ClassId} {f : Nat → Int64} {i : Int32} {x : Int64} (d : decode cc pc = .ok (.lastore, 1)) (q0 : Nat) (ha : Wd[q0]? = some (a, .inl (cA, N, .inr (.inl f)))) (ht : (tysOf τ)[1]? = some (cA, .long)) (hin : vp_in i N) (hW : Wd.set q0 (a, .inl (cA, N, .inr (.inl (vp_updL f i.toNatClampNeg x)))) = Wd') (hp : pc + 1 = pc') (K : WM l D Γ nL k n Wd' pc' lv st) : WM l D Γ nL k n Wd pc lv (.long x :: .int i :: .ref a :: st) := by
  subst hp
  subst hW
  obtain ⟨p, e, R, s, m, args, below, meth, c, A, Qc⟩ := Γ
  obtain ⟨hx, hb, hr, hml, hown, hts, hlk, hK, hA, rfl, hnm, hQ⟩ := C
  intro H locs ls hP hD hS hl
  exact va_last hx hb hK.1 hP hD hS q0 1 ha ht hin d (fun H1 locs1 hP1 hD1 hS1 => K H1 locs1 ls hP1 hD1 hS1 hl)
theorem wm_i2b (C : CX D τ Γ cc y nL Ts ret rm F) {x : Int32} (d : decode cc pc = .ok (.i2b, 1)) (hp : pc + 1 = pc') (K : WM l D Γ nL k n Wd pc' lv (.int x.toInt8.toInt32 :: st)) : WM l D Γ nL k n Wd pc lv (.int x :: st) := by
  subst hp
  obtain ⟨p, e, R, s, m, args, below, meth, c, A, Qc⟩ := Γ
  obtain ⟨hx, hb, hr, hml, hown, hts, hlk, hK, hA, rfl, hnm, hQ⟩ := C
  intro H locs ls hP hD hS hl
  exact lv_i2b hx hb d rfl (K H locs ls hP hD hS hl)
theorem wm_i2s (C : CX D τ Γ cc y nL Ts ret rm F) {x : Int32} (d : decode cc pc = .ok (.i2s, 1)) (hp : pc + 1 = pc') (K : WM l D Γ nL k n Wd pc' lv (.int x.toInt16.toInt32 :: st)) : WM l D Γ nL k n Wd pc lv (.int x :: st) := by
  subst hp
  obtain ⟨p, e, R, s, m, args, below, meth, c, A, Qc⟩ := Γ
  obtain ⟨hx, hb, hr, hml, hown, hts, hlk, hK, hA, rfl, hnm, hQ⟩ := C
  intro H locs ls hP hD hS hl
  exact lv_i2s hx hb d rfl (K H locs ls hP hD hS hl)
theorem va_split {A : Nat → Prop} {Wc Wr Wc' : va_W} {H H1 : Heap} (hP : va_P D vwCl (Wc ++ Wr) H) (hD : va_D A (Wc ++ Wr)) (hk : ∀ q : Nat, q < H.size → ¬ va_A Wc H.size q → H1[q]? = H[q]?) (hf : ∀ q, va_A Wc H.size q → A q) (hP' : va_P D vwCl Wc' H1) (hD' : va_D (va_A Wc H.size) Wc') : va_P D vwCl (Wc' ++ Wr) H1 ∧ va_D A (Wc' ++ Wr) := by
  have hR : ∀ (k : Nat) (x : Nat × va_E), Wr[k]? = some x → (Wc ++ Wr)[Wc.length + k]? = some x := by
    intro k x h
    rw [List.getElem?_append_right (by omega), Nat.add_sub_cancel_left]
    exact h
  have hPr : va_P D vwCl Wr H := fun k x h => hP _ x (hR k x h)
  have hnot : ∀ (k : Nat) (x : Nat × va_E), Wr[k]? = some x → ¬ va_A Wc H.size x.1 := by
    intro k x h hA
    rcases hA with ⟨j, e, hj⟩ | hge
    · have hlt : j < Wc.length := (List.getElem?_eq_some_iff.mp hj).1
      have h1 : (Wc ++ Wr)[j]? = some (x.1, e) := by rw [List.getElem?_append_left hlt]; exact hj
      have := hD.1 j (Wc.length + k) (x.1, e) x h1 (hR k x h) rfl
      omega
    · exact absurd (hPr k x h).lt (Nat.not_lt.mpr hge)
  refine ⟨hP'.app (hPr.kept fun k x h => hk x.1 (hPr k x h).lt (hnot k x h)), ?_, ?_⟩
  · intro i j p q hi hj hpq
    by_cases h1 : i < Wc'.length <;> by_cases h2 : j < Wc'.length
    · rw [List.getElem?_append_left h1] at hi
      rw [List.getElem?_append_left h2] at hj
      exact hD'.1 i j p q hi hj hpq
    · rw [List.getElem?_append_left h1] at hi
      rw [List.getElem?_append_right (by omega)] at hj
      exact absurd (hpq ▸ hD'.2 i p hi) (hnot _ q hj)
    · rw [List.getElem?_append_right (by omega)] at hi
      rw [List.getElem?_append_left h2] at hj
      exact absurd (hpq ▸ hD'.2 j q hj) (hnot _ p hi)
    · rw [List.getElem?_append_right (by omega)] at hi hj
      have := hD.1 _ _ p q (hR _ p hi) (hR _ q hj) hpq
      omega
  · intro i q hi
    by_cases h1 : i < Wc'.length
    · rw [List.getElem?_append_left h1] at hi
      exact hf _ (hD'.2 i q hi)
    · rw [List.getElem?_append_right (by omega)] at hi
      exact hD.2 _ q (hR _ q hi)
theorem va_leftP {Wc Wr : va_W} {H : Heap} (hP : va_P D vwCl (Wc ++ Wr) H) : va_P D vwCl Wc H := fun k x h => hP k x (by rw [List.getElem?_append_left (List.getElem?_eq_some_iff.mp h).1]; exact h)
theorem va_leftD {A : Nat → Prop} {Wc Wr : va_W} (hD : va_D A (Wc ++ Wr)) : va_D A Wc := ⟨fun i j p q hi hj h => hD.1 i j p q (by rw [List.getElem?_append_left (List.getElem?_eq_some_iff.mp hi).1]; exact hi) (by rw [List.getElem?_append_left (List.getElem?_eq_some_iff.mp hj).1]; exact hj) h, fun k x h => hD.2 k x (by rw [List.getElem?_append_left (List.getElem?_eq_some_iff.mp h).1]; exact h)⟩
theorem va_freeA {A : Nat → Prop} {Wc : va_W} {H0 H : Heap} {locs : List Loc} (hD : va_D A Wc) (hS : va_S A H0 H locs) (hA : ∀ q, H0.size ≤ q → A q) : ∀ q, va_A Wc H.size q → A q := by
  intro q h
  rcases h with ⟨k, e, h⟩ | h
  · exact hD.2 k _ h
  · exact hA q (Nat.le_trans hS.1 h)
theorem wm_after {p : Program} {e : Env} {R : Room} {s : State} {m : MethodId} {args : Array Value} {below : List Frame} {meth : Method} {c : Code} {H : Heap} {locs : List Loc} {mc ms : Nat} {ls : Array Slot} {st0 : List Value} {A : Nat → Prop} {Q : State → Prop} {F2 : va_W → Option Value → Prop} {Wc Wr : va_W} {a : Array Value}
    (hr : va_Run p l e R s m args below meth c H locs k n mc ms (F0 m pc ls st0) rest (QcOf D Wc H.size F2 a) (va_A Wc H.size)) (hP : va_P D vwCl (Wc ++ Wr) H) (hD : va_D A (Wc ++ Wr)) (hS : va_S A s.heap H locs) (hA : ∀ q, s.heap.size ≤ q → A q)
    (kk : ∀ (v : Option Value) (Wc' : va_W) (H1 : Heap) (locs1 : List Loc), F2 Wc' v → va_P D vwCl (Wc' ++ Wr) H1 → va_D A (Wc' ++ Wr) → va_S A s.heap H1 locs1 → W p l e R s m args below meth c H1 locs1 (k + mc) (n + ms) Q (F0 m (pc + 3) ls (v.toList ++ rest))) : W p l e R s m args below meth c H locs k n Q (F0 m pc ls st0) := by
  intro T hT X
  obtain ⟨v, st₀, t, T', L, h0, X', hL, e1, e2, ⟨⟨v', Wc', hv, hF, hP', hD'⟩, hz, hk⟩, st⟩ := hr T hT X
  cases hv
  rw [h0] at hz hk
  have hf := va_freeA (va_leftD hD) hS hA
  rw [← e1] at hz hk hP'
  obtain ⟨hP2, hD2⟩ := va_split hP hD hk hf hP' hD'
  obtain ⟨t2, a1, b1⟩ := kk v Wc' T'.heap (locs ++ L) hF hP2 hD2
    ⟨Nat.le_trans hS.1 hz, fun q h1 h2 => by rw [hk q (Nat.lt_of_lt_of_le h1 hS.1) (fun z => h2 (hf q z))]; exact hS.2.1 q h1 h2, fun q hq => by
      rcases List.mem_append.mp hq with h | h
      · exact hS.2.2 q h
      · exact hf _ (hL q h)⟩ T' rfl X'
  exact ⟨t2, st t2 a1, b1⟩
theorem pc_blind {av : List Value} {sz : Nat} : FrameBlind (PcOf D τ av Wd sz) := by
  intro a U g mk q
  obtain ⟨q0, q1, qP, qK, qD⟩ := q
  exact ⟨q0, q1, qP, KK.same (u := U) (U := U.calling g mk a) rfl qK, qD⟩
/-- invokevirtual of a method of the receiver's own class, the world being the callee's and a rest -/
theorem wm_callV (C : CX D τ Γ cc y nL Ts ret rm F) {Cn : String} {T : u_T} {N ix b nn maxL ci : Nat} {y2 : MethodName} {ws2 ws2' : List Cond} {rm2 : Room} {As fs : List Value} {Wc Wr : va_W} {F2 : va_W → Option Value → Prop} {bytes : ByteArray} {ret2 : Option FieldType} (d : decode cc pc = .ok (.invokevirtual ix, 3)) (hM : Ct l D τ y2 ws2 rm2 (.ref b :: As) Wc F2)
    (hg : GoodIn Ts (wsV y.cls ix Cn y2 ws2)) (hw : ws2 = Cond.code y2 bytes maxL ret2 :: ws2') (hd : y2.cls = Cn ∧ y2.cls ≠ "java/lang/invoke/MethodHandle" ∧ y2.cls ≠ "java/lang/invoke/VarHandle" ∧ (parseMethodDescriptor y2.desc).map (fun d => d.parameters.length) = some nn) (hR : rm2.frames + 1 ≤ rm.frames ∧ 8 + (maxL + 11) + rm2.locals ≤ rm.locals) (hkn : k + rm2.cells ≤ rm.cells ∧ n + rm2.slots ≤ rm.slots)
    (hW : Wd = Wc ++ Wr) (q0 : Nat) (he : Wc[q0]? = some (b, .inr (ci, fs))) (hc : vwCl[ci]? = some (Cn, T, N)) (hn : As.length = nn) (hst : st = As.reverse ++ .ref b :: rest) (hrs : (rest.map fun v => v.category).sum ≤ 8) (hp : pc + 3 = pc')
    (K : ∀ (v : Option Value) (Wc' : va_W), F2 Wc' v → WM l D Γ nL (k + rm2.cells) (n + rm2.slots) (Wc' ++ Wr) pc' lv (v.toList ++ rest)) : WM l D Γ nL k n Wd pc lv st := by
  subst hp
  subst hW
  subst hst
  obtain ⟨p, e, R, s, m, args, below, meth, c, A, Qc⟩ := Γ
  obtain ⟨hx, hb, hr, hml, hown, hts, hlk, hK, hA, rfl, hnm, hQ⟩ := C
  intro H locs ls hP hD hS hl
  have hPc := va_leftP hP
  refine wm_after (va_runV (As := As) (rest := rest) (cc := cc) (nL := nL) (Ts := Ts) (own := y.cls) ⟨hx, hb, hml, hown, hts⟩ (hM H.size) (cwV nn hts hg hw rfl rfl hd hR) ⟨pc_blind, va_recv hK.1 hPc hc he, fun U hU hW => ⟨rfl, by rw [hU], by rw [hU]; exact hPc, KK.warm hW hK, (va_leftD hD).weaken (fun _ _ _ _ => trivial)⟩⟩ rfl hn hl.1 rfl (lv_room hrs) d hkn) hP hD hS hA ?_
  intro v Wc' H1 locs1 hF hP1 hD1 hS1
  exact K v Wc' hF H1 locs1 ls hP1 hD1 hS1 hl
/-- the same, deterministic, the whole world being the callee's -/
theorem wm_callVd (C : CX D τ Γ cc y nL Ts ret rm F) {Cn : String} {T : u_T} {N ix b nn maxL ci : Nat} {y2 : MethodName} {ws2 ws2' : List Cond} {rm2 : Room} {As fs : List Value} {W2 : va_W} {v2 : Option Value} {bytes : ByteArray} {ret2 : Option FieldType} (d : decode cc pc = .ok (.invokevirtual ix, 3)) (hM : Ct l D τ y2 ws2 rm2 (.ref b :: As) Wd (FD W2 v2))
    (hg : GoodIn Ts (wsV y.cls ix Cn y2 ws2)) (hw : ws2 = Cond.code y2 bytes maxL ret2 :: ws2') (hd : y2.cls = Cn ∧ y2.cls ≠ "java/lang/invoke/MethodHandle" ∧ y2.cls ≠ "java/lang/invoke/VarHandle" ∧ (parseMethodDescriptor y2.desc).map (fun d => d.parameters.length) = some nn) (hR : rm2.frames + 1 ≤ rm.frames ∧ 8 + (maxL + 11) + rm2.locals ≤ rm.locals) (hk0 : rm2.cells = 0) (hs0 : rm2.slots = 0) (hkn : k ≤ rm.cells ∧ n ≤ rm.slots)
    (q0 : Nat) (he : Wd[q0]? = some (b, .inr (ci, fs))) (hc : vwCl[ci]? = some (Cn, T, N)) (hn : As.length = nn) (hst : st = As.reverse ++ .ref b :: rest) (hrs : (rest.map fun v => v.category).sum ≤ 8) {st' : List Value} (hst' : v2.toList ++ rest = st') (hp : pc + 3 = pc')
    (K : WM l D Γ nL k n W2 pc' lv st') : WM l D Γ nL k n Wd pc lv st := by
  refine wm_callV (Wc := Wd) (Wr := []) C d hM hg hw hd hR (by rw [hk0, hs0]; exact hkn) (List.append_nil Wd).symm q0 he hc hn hst hrs hp (fun v Wc' hF => ?_)
  obtain ⟨rfl, rfl⟩ := hF
  rw [hk0, hs0, List.append_nil, hst']
  exact K
/-- invokestatic, the world being the callee's and a rest -/
theorem wm_callS (C : CX D τ Γ cc y nL Ts ret rm F) {ix nn maxL : Nat} {y2 : MethodName} {ws2 ws2' : List Cond} {rm2 : Room} {As : List Value} {Wc Wr : va_W} {F2 : va_W → Option Value → Prop} {bytes : ByteArray} {ret2 : Option FieldType} (d : decode cc pc = .ok (.invokestatic ix, 3)) (hM : Ct l D τ y2 ws2 rm2 As Wc F2)
    (hg : GoodIn Ts (va_wsS y.cls ix y2 ws2)) (hw : ws2 = Cond.code y2 bytes maxL ret2 :: ws2') (hd : y2.cls ≠ "java/lang/invoke/MethodHandle" ∧ y2.cls ≠ "java/lang/invoke/VarHandle" ∧ (parseMethodDescriptor y2.desc).map (fun d => d.parameters.length) = some nn) (hR : rm2.frames + 1 ≤ rm.frames ∧ 8 + (maxL + 11) + rm2.locals ≤ rm.locals) (hkn : k + rm2.cells ≤ rm.cells ∧ n + rm2.slots ≤ rm.slots)
    (hW : Wd = Wc ++ Wr) (hn : As.length = nn) (hst : st = As.reverse ++ rest) (hrs : (rest.map fun v => v.category).sum ≤ 8) (hp : pc + 3 = pc')
    (K : ∀ (v : Option Value) (Wc' : va_W), F2 Wc' v → WM l D Γ nL (k + rm2.cells) (n + rm2.slots) (Wc' ++ Wr) pc' lv (v.toList ++ rest)) : WM l D Γ nL k n Wd pc lv st := by
  subst hp
  subst hW
  subst hst
  obtain ⟨p, e, R, s, m, args, below, meth, c, A, Qc⟩ := Γ
  obtain ⟨hx, hb, hr, hml, hown, hts, hlk, hK, hA, rfl, hnm, hQ⟩ := C
  intro H locs ls hP hD hS hl
  have hPc := va_leftP hP
  refine wm_after (va_runS (As := As) (rest := rest) (cc := cc) (nL := nL) (Ts := Ts) (own := y.cls) ⟨hx, hb, hml, hown, hts⟩ (hM H.size) (va_cwS nn hts hg hw rfl rfl hd hR) ⟨pc_blind, fun U hU hW => ⟨rfl, by rw [hU], by rw [hU]; exact hPc, KK.warm hW hK, (va_leftD hD).weaken (fun _ _ _ _ => trivial)⟩⟩ rfl hn hl.1 rfl (lv_room hrs) d hkn) hP hD hS hA ?_
  intro v Wc' H1 locs1 hF hP1 hD1 hS1
  exact K v Wc' hF H1 locs1 ls hP1 hD1 hS1 hl
/-- invokestatic of a method that looks at no cell -/
theorem wm_callSd (C : CX D τ Γ cc y nL Ts ret rm F) {ix nn maxL : Nat} {y2 : MethodName} {ws2 ws2' : List Cond} {rm2 : Room} {As : List Value} {v2 : Option Value} {bytes : ByteArray} {ret2 : Option FieldType} (d : decode cc pc = .ok (.invokestatic ix, 3)) (hM : Ct l D τ y2 ws2 rm2 As [] (FD [] v2))
    (hg : GoodIn Ts (va_wsS y.cls ix y2 ws2)) (hw : ws2 = Cond.code y2 bytes maxL ret2 :: ws2') (hd : y2.cls ≠ "java/lang/invoke/MethodHandle" ∧ y2.cls ≠ "java/lang/invoke/VarHandle" ∧ (parseMethodDescriptor y2.desc).map (fun d => d.parameters.length) = some nn) (hR : rm2.frames + 1 ≤ rm.frames ∧ 8 + (maxL + 11) + rm2.locals ≤ rm.locals) (hk0 : rm2.cells = 0) (hs0 : rm2.slots = 0) (hkn : k ≤ rm.cells ∧ n ≤ rm.slots)
    (hn : As.length = nn) (hst : st = As.reverse ++ rest) (hrs : (rest.map fun v => v.category).sum ≤ 8) {st' : List Value} (hst' : v2.toList ++ rest = st') (hp : pc + 3 = pc')
    (K : WM l D Γ nL k n Wd pc' lv st') : WM l D Γ nL k n Wd pc lv st := by
  refine wm_callS (Wc := []) (Wr := Wd) C d hM hg hw hd hR (by rw [hk0, hs0]; exact hkn) rfl hn hst hrs hp (fun v Wc' hF => ?_)
  obtain ⟨rfl, rfl⟩ := hF
  rw [hk0, hs0, hst']
  exact K
end MYK
/-! the pure side: steps of a walk that may stop -/
def bnd {α β γ : Type} (x : Option (α × β)) (f : α → β → Option γ) : Option γ := match x with
  | none => none
  | some (a, b) => f a b
theorem bnd_s {α β γ : Type} {x : Option (α × β)} {f : α → β → Option γ} {z : γ} (h : bnd x f = some z) : ∃ a b, x = some (a, b) ∧ f a b = some z := by
  cases x with
  | none => cases h
  | some v => exact ⟨v.1, v.2, rfl, h⟩
theorem ite_t {α : Type} {c : Prop} [Decidable c] {a b x : α} (hc : c) (h : (if c then a else b) = x) : a = x := by rw [if_pos hc] at h; exact h
theorem ite_f {α : Type} {c : Prop} [Decidable c] {a b x : α} (hc : ¬ c) (h : (if c then a else b) = x) : b = x := by rw [if_neg hc] at h; exact h
theorem chk_s {α : Type} {c : Prop} [Decidable c] {a : Option α} {x : α} (h : (if c then a else none) = some x) : c ∧ a = some x := by
  by_cases hc : c
  · rw [if_pos hc] at h; exact ⟨hc, h⟩
  · rw [if_neg hc] at h; cases h
