def R_law : String := "WideningCracksLaw"
def lw_P (b : Addr) (xs : List Int32) (args : Array Value) (s : State) : Prop := args = #[.ref b] ∧ s.IntsAt b xs ∧ xs.length ≤ 3072 ∧ (Jvm.Cond.and given_1 narrow_1).before args s = true
def lw_Q (_ : Array Value) (s : State) (o : Outcome) (t : State) : Prop := o = .returned (some (.int 1)) ∧ Framed s o t [] 672204 7085637
def lw_Z (below : List Frame) (a : Array Value) (s : State) : State → Prop := fun t => ∃ o, t.status = .running ∧ Ended t below o ∧ lw_Q a s o t
/-- the law's own end, with 1 on the stack, nothing written that was there before, its room as the claim has it -/
theorem lw_ret {p : Program} {l : Launch} {e : Env} {s : State} {m : MethodId} {below : List Frame} {meth : Method} {c : Code} {b : Nat} (hx : p.tables.exec = Jvm.exec) (hb : c.code = code) (hr : meth.sig.returnType = ret) (hlocks : meth.locks = false) {pc : Nat} {H : Heap} {ls : Array Slot} (hdg : decode code pc = .ok (.ireturn, 1)) : W p l e room_1 s m #[Value.ref b] below meth c H [] 672204 7085637 (lw_Z below #[Value.ref b] s) (F0 m pc ls [.int 1]) := by
  intro T hT X
  obtain ⟨fs, hret, hrun, hended, hW, hframe⟩ := X.leave (v := some (.int 1)) (hlocks := hlocks) (fun h => by rw [hr] at h; cases h)
  have hmeth' : T.vm.method? m = some meth := X.method'
  refine ⟨T.setFrames fs, ?_, .returned (some (.int 1)), hrun, hended, rfl, ⟨_, rfl⟩, hW, hframe⟩
  jvm_step X.here [X.here.top, hx, hb, hdg, hmeth', hr, ret, narrow_b1]
  (try refine ⟨rfl, ?_⟩); (try refine ⟨rfl, ?_⟩)
  first | (intro acts; rw [hret _ acts rfl rfl rfl]) | rw [hret _ _ rfl rfl rfl]
  exact Steps.refl _
/-- what holds at the law's entry: the machine, the code, the tables' words (any of lw_tbl by 'hts w (by decide +kernel)'), the script of L ints xs at the cell b, what the Statement gives of the start (any of its parts by flat_of_before) -/
def lw_At (p : Program) (s : State) (m : MethodId) (meth : Method) (c : Code) (b L : Nat) (xs : Nat → Int32) : Prop :=
  p.tables.exec = Jvm.exec ∧ c.code = code ∧ meth.sig.returnType = ret ∧ c.maxLocals = 4 ∧ s.vm.findClass R_law = some m.cls ∧ (∀ w ∈ lw_tbl, w.before #[Value.ref b] s = true) ∧ va_X b L xs s s.heap ∧ b < s.heap.size ∧ meth.locks = false ∧ (Jvm.Cond.and given_1 narrow_1).before #[Value.ref b] s = true

section MYLW
variable {l : Launch} {D : va_G} {τ : CId} {Γ : CT} {cc : ByteArray} {y : MethodName} {nL k n : Nat} {Ts : List Cond} {ret : Option FieldType} {rm : Room} {F : va_W → Option Value → Prop} {Wd Wd' : va_W} {pc pc' : Nat} {lv lv' : List (Nat × Value)} {st rest : List Value}
def LX : CT → Nat → Nat → (Nat → Int32) → Prop
  | (_, _, _, s, _, _, _, _, _, A, _), b, L, xs => va_X b L xs s s.heap ∧ b < s.heap.size ∧ ¬ A b
theorem wm_sld (C : CX D τ Γ cc y nL Ts ret rm F) {b L : Nat} {xs : Nat → Int32} (X : LX Γ b L xs) {i : Int32} (d : decode cc pc = .ok (.iaload, 1)) (hin : vp_in i L) (hp : pc + 1 = pc') (K : WM l D Γ nL k n Wd pc' lv (.int (xs i.toNatClampNeg) :: st)) : WM l D Γ nL k n Wd pc lv (.int i :: .ref b :: st) := by
  subst hp
  obtain ⟨p, e, R, s, m, args, below, meth, c, A, Qc⟩ := Γ
  obtain ⟨hx, hb, hr, hml, hown, hts, hlk, hK, hA, rfl, hnm, hQ⟩ := C
  obtain ⟨x1, x2, x3⟩ := X
  intro H locs ls hP hD hS hl
  exact va_sld hx hb x1 x2 x3 hS hin d (K H locs ls hP hD hS hl)
theorem wm_slen (C : CX D τ Γ cc y nL Ts ret rm F) {b L : Nat} {xs : Nat → Int32} (X : LX Γ b L xs) (d : decode cc pc = .ok (.arraylength, 1)) (hp : pc + 1 = pc') (K : WM l D Γ nL k n Wd pc' lv (.int (nI L) :: st)) : WM l D Γ nL k n Wd pc lv (.ref b :: st) := by
  subst hp
  obtain ⟨p, e, R, s, m, args, below, meth, c, A, Qc⟩ := Γ
  obtain ⟨hx, hb, hr, hml, hown, hts, hlk, hK, hA, rfl, hnm, hQ⟩ := C
  obtain ⟨x1, x2, x3⟩ := X
  intro H locs ls hP hD hS hl
  exact va_slen hx hb x1 x2 x3 hS d (K H locs ls hP hD hS hl)
theorem wm_lshl (C : CX D τ Γ cc y nL Ts ret rm F) {x : Int64} {z : Int32} (d : decode cc pc = .ok (.lshl, 1)) (hp : pc + 1 = pc') (K : WM l D Γ nL k n Wd pc' lv (.long (x <<< (z.toInt64 &&& 63)) :: st)) : WM l D Γ nL k n Wd pc lv (.int z :: .long x :: st) := by
  subst hp
  obtain ⟨p, e, R, s, m, args, below, meth, c, A, Qc⟩ := Γ
  obtain ⟨hx, hb, hr, hml, hown, hts, hlk, hK, hA, rfl, hnm, hQ⟩ := C
  intro H locs ls hP hD hS hl
  exact lv_lshl hx hb d rfl (K H locs ls hP hD hS hl)
/-- a call whose world is the left part -/
theorem wm_callVf (C : CX D τ Γ cc y nL Ts ret rm F) {Cn : String} {T : u_T} {N ix b nn maxL ci : Nat} {y2 : MethodName} {ws2 ws2' : List Cond} {rm2 : Room} {As fs : List Value} {Wc Wr W2 : va_W} {v2 : Option Value} {bytes : ByteArray} {ret2 : Option FieldType} (d : decode cc pc = .ok (.invokevirtual ix, 3)) (hM : Ct l D τ y2 ws2 rm2 (.ref b :: As) Wc (FD W2 v2))
    (hg : GoodIn Ts (wsV y.cls ix Cn y2 ws2)) (hw : ws2 = Cond.code y2 bytes maxL ret2 :: ws2') (hd : y2.cls = Cn ∧ y2.cls ≠ "java/lang/invoke/MethodHandle" ∧ y2.cls ≠ "java/lang/invoke/VarHandle" ∧ (parseMethodDescriptor y2.desc).map (fun d => d.parameters.length) = some nn) (hR : rm2.frames + 1 ≤ rm.frames ∧ 8 + (maxL + 11) + rm2.locals ≤ rm.locals) (hk0 : rm2.cells = 0) (hs0 : rm2.slots = 0) (hkn : k ≤ rm.cells ∧ n ≤ rm.slots)
    (q0 : Nat) (he : Wc[q0]? = some (b, .inr (ci, fs))) (hc : vwCl[ci]? = some (Cn, T, N)) (hn : As.length = nn) (hst : st = As.reverse ++ .ref b :: rest) (hrs : (rest.map fun v => v.category).sum ≤ 8) {st' : List Value} (hst' : v2.toList ++ rest = st') (hp : pc + 3 = pc')
    (K : WM l D Γ nL k n (W2 ++ Wr) pc' lv st') : WM l D Γ nL k n (Wc ++ Wr) pc lv st := by
  refine wm_callV (Wc := Wc) (Wr := Wr) C d hM hg hw hd hR (by rw [hk0, hs0]; exact hkn) rfl q0 he hc hn hst hrs hp (fun v Wc' hF => ?_)
  obtain ⟨rfl, rfl⟩ := hF
  rw [hk0, hs0, hst']
  exact K
/-- a call whose world is the right part -/
theorem wm_callVr (C : CX D τ Γ cc y nL Ts ret rm F) {Cn : String} {T : u_T} {N ix b nn maxL ci : Nat} {y2 : MethodName} {ws2 ws2' : List Cond} {rm2 : Room} {As fs : List Value} {Wc Wl W2 : va_W} {v2 : Option Value} {bytes : ByteArray} {ret2 : Option FieldType} (d : decode cc pc = .ok (.invokevirtual ix, 3)) (hM : Ct l D τ y2 ws2 rm2 (.ref b :: As) Wc (FD W2 v2))
    (hg : GoodIn Ts (wsV y.cls ix Cn y2 ws2)) (hw : ws2 = Cond.code y2 bytes maxL ret2 :: ws2') (hd : y2.cls = Cn ∧ y2.cls ≠ "java/lang/invoke/MethodHandle" ∧ y2.cls ≠ "java/lang/invoke/VarHandle" ∧ (parseMethodDescriptor y2.desc).map (fun d => d.parameters.length) = some nn) (hR : rm2.frames + 1 ≤ rm.frames ∧ 8 + (maxL + 11) + rm2.locals ≤ rm.locals) (hk0 : rm2.cells = 0) (hs0 : rm2.slots = 0) (hkn : k ≤ rm.cells ∧ n ≤ rm.slots)
    (q0 : Nat) (he : Wc[q0]? = some (b, .inr (ci, fs))) (hc : vwCl[ci]? = some (Cn, T, N)) (hn : As.length = nn) (hst : st = As.reverse ++ .ref b :: rest) (hrs : (rest.map fun v => v.category).sum ≤ 8) {st' : List Value} (hst' : v2.toList ++ rest = st') (hp : pc + 3 = pc')
    (K : WM l D Γ nL k n (Wl ++ W2) pc' lv st') : WM l D Γ nL k n (Wl ++ Wc) pc lv st := by
  refine wm_swap ?_
  refine wm_callVf C d hM hg hw hd hR hk0 hs0 hkn q0 he hc hn hst hrs hst' hp ?_
  exact wm_swap K
end MYLW
theorem lg_cmp_self (x : Int64) : lg_cmp x x = 0 := by
  unfold lg_cmp
  rw [if_neg (by simp [Int64.lt_iff_toInt_lt]), if_pos rfl]

