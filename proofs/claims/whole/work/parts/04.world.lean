/-! THE REFERENCE'S WORLD: one object and 28 arrays; a state: its ints, its long, its int (and boolean) arrays, its long arrays, each by the number of the field -/
abbrev MS : Type := (Nat → Int32) × Int64 × (Nat → Nat → Int32) × (Nat → Nat → Int64)
abbrev gI (σ : MS) (k : Nat) : Int32 := σ.1 k
abbrev gL (σ : MS) : Int64 := σ.2.1
abbrev gA (σ : MS) (k : Nat) : Nat → Int32 := σ.2.2.1 k
abbrev gB (σ : MS) (k : Nat) : Nat → Int64 := σ.2.2.2 k
def sI (σ : MS) (k : Nat) (v : Int32) : MS := (upd σ.1 k v, σ.2)
def sL (σ : MS) (v : Int64) : MS := (σ.1, v, σ.2.2)
def sA (σ : MS) (k i : Nat) (v : Int32) : MS := (σ.1, σ.2.1, (fun a => if a = k then upd (σ.2.2.1 k) i v else σ.2.2.1 a), σ.2.2.2)
def sB (σ : MS) (k i : Nat) (v : Int64) : MS := (σ.1, σ.2.1, σ.2.2.1, (fun a => if a = k then vp_updL (σ.2.2.2 k) i v else σ.2.2.2 a))
/-- how far a loop may go (never reached) -/
def FU : Nat := 1000000
def mF (q : Nat → Nat) (σ : MS) : List Value := [.int (gI σ 0), .int (gI σ 1), .ref (q 2), .ref (q 3), .int (gI σ 4), .ref (q 5), .ref (q 6), .ref (q 7), .ref (q 8), .ref (q 9), .ref (q 10), .int (gI σ 11), .int (gI σ 12), .ref (q 13), .ref (q 14), .long (gL σ), .int (gI σ 16), .ref (q 17), .ref (q 18), .ref (q 19), .ref (q 20), .ref (q 21), .ref (q 22), .int (gI σ 23), .int (gI σ 24), .ref (q 25), .ref (q 26), .ref (q 27), .ref (q 28), .int (gI σ 29), .ref (q 30), .ref (q 31), .ref (q 32), .ref (q 33), .ref (q 34), .ref (q 35), .ref (q 36), .ref (q 37), .int (gI σ 38)]
def mW (τ : CId) (q : Nat → Nat) (σ : MS) : va_W := [(q 0, .inr (12, mF q σ)),
  (q 2, .inl (τ.2.2.1, 6, .inl (gA σ 2))),
  (q 3, .inl (τ.1, 6, .inl (gA σ 3))),
  (q 5, .inl (τ.1, 12, .inl (gA σ 5))),
  (q 6, .inl (τ.1, 12, .inl (gA σ 6))),
  (q 7, .inl (τ.1, 12, .inl (gA σ 7))),
  (q 8, .inl (τ.1, 12, .inl (gA σ 8))),
  (q 9, .inl (τ.1, 12, .inl (gA σ 9))),
  (q 10, .inl (τ.1, 12, .inl (gA σ 10))),
  (q 13, .inl (τ.2.2.1, 6, .inl (gA σ 13))),
  (q 14, .inl (τ.2.1, 6, .inr (.inl (gB σ 14)))),
  (q 17, .inl (τ.1, 6, .inl (gA σ 17))),
  (q 18, .inl (τ.1, 6, .inl (gA σ 18))),
  (q 19, .inl (τ.2.1, 30, .inr (.inl (gB σ 19)))),
  (q 20, .inl (τ.1, 5, .inl (gA σ 20))),
  (q 21, .inl (τ.2.2.1, 5, .inl (gA σ 21))),
  (q 22, .inl (τ.2.1, 12, .inr (.inl (gB σ 22)))),
  (q 25, .inl (τ.1, 7, .inl (gA σ 25))),
  (q 26, .inl (τ.1, 7, .inl (gA σ 26))),
  (q 27, .inl (τ.2.2.1, 6, .inl (gA σ 27))),
  (q 28, .inl (τ.2.2.1, 12, .inl (gA σ 28))),
  (q 30, .inl (τ.1, 8, .inl (gA σ 30))),
  (q 31, .inl (τ.1, 8, .inl (gA σ 31))),
  (q 32, .inl (τ.1, 96, .inl (gA σ 32))),
  (q 33, .inl (τ.1, 96, .inl (gA σ 33))),
  (q 34, .inl (τ.1, 4, .inl (gA σ 34))),
  (q 35, .inl (τ.1, 4, .inl (gA σ 35))),
  (q 36, .inl (τ.2.1, 96, .inr (.inl (gB σ 36)))),
  (q 37, .inl (τ.2.1, 24, .inr (.inl (gB σ 37))))]
theorem mL_0 {q : Nat → Nat} {σ : MS} : 0 < (mF q σ).length := Nat.le_of_ble_eq_true rfl
theorem mI_0 {τ : CId} {q : Nat → Nat} {σ : MS} (v : Int32) : (mW τ q σ).set 0 (q 0, .inr (12, (mF q σ).set 0 (.int v))) = mW τ q (sI σ 0 v) := rfl
theorem mL_1 {q : Nat → Nat} {σ : MS} : 1 < (mF q σ).length := Nat.le_of_ble_eq_true rfl
theorem mI_1 {τ : CId} {q : Nat → Nat} {σ : MS} (v : Int32) : (mW τ q σ).set 0 (q 0, .inr (12, (mF q σ).set 1 (.int v))) = mW τ q (sI σ 1 v) := rfl
theorem mA_2 {τ : CId} {q : Nat → Nat} {σ : MS} : (mW τ q σ)[1]? = some (q 2, .inl (τ.2.2.1, 6, .inl (gA σ 2))) := rfl
theorem mS_2 {τ : CId} {q : Nat → Nat} {σ : MS} (i : Nat) (v : Int32) : (mW τ q σ).set 1 (q 2, .inl (τ.2.2.1, 6, .inl (upd (gA σ 2) i v))) = mW τ q (sA σ 2 i v) := rfl
theorem mA_3 {τ : CId} {q : Nat → Nat} {σ : MS} : (mW τ q σ)[2]? = some (q 3, .inl (τ.1, 6, .inl (gA σ 3))) := rfl
theorem mS_3 {τ : CId} {q : Nat → Nat} {σ : MS} (i : Nat) (v : Int32) : (mW τ q σ).set 2 (q 3, .inl (τ.1, 6, .inl (upd (gA σ 3) i v))) = mW τ q (sA σ 3 i v) := rfl
theorem mL_4 {q : Nat → Nat} {σ : MS} : 4 < (mF q σ).length := Nat.le_of_ble_eq_true rfl
theorem mI_4 {τ : CId} {q : Nat → Nat} {σ : MS} (v : Int32) : (mW τ q σ).set 0 (q 0, .inr (12, (mF q σ).set 4 (.int v))) = mW τ q (sI σ 4 v) := rfl
theorem mA_5 {τ : CId} {q : Nat → Nat} {σ : MS} : (mW τ q σ)[3]? = some (q 5, .inl (τ.1, 12, .inl (gA σ 5))) := rfl
theorem mS_5 {τ : CId} {q : Nat → Nat} {σ : MS} (i : Nat) (v : Int32) : (mW τ q σ).set 3 (q 5, .inl (τ.1, 12, .inl (upd (gA σ 5) i v))) = mW τ q (sA σ 5 i v) := rfl
theorem mA_6 {τ : CId} {q : Nat → Nat} {σ : MS} : (mW τ q σ)[4]? = some (q 6, .inl (τ.1, 12, .inl (gA σ 6))) := rfl
theorem mS_6 {τ : CId} {q : Nat → Nat} {σ : MS} (i : Nat) (v : Int32) : (mW τ q σ).set 4 (q 6, .inl (τ.1, 12, .inl (upd (gA σ 6) i v))) = mW τ q (sA σ 6 i v) := rfl
theorem mA_7 {τ : CId} {q : Nat → Nat} {σ : MS} : (mW τ q σ)[5]? = some (q 7, .inl (τ.1, 12, .inl (gA σ 7))) := rfl
theorem mS_7 {τ : CId} {q : Nat → Nat} {σ : MS} (i : Nat) (v : Int32) : (mW τ q σ).set 5 (q 7, .inl (τ.1, 12, .inl (upd (gA σ 7) i v))) = mW τ q (sA σ 7 i v) := rfl
theorem mA_8 {τ : CId} {q : Nat → Nat} {σ : MS} : (mW τ q σ)[6]? = some (q 8, .inl (τ.1, 12, .inl (gA σ 8))) := rfl
theorem mS_8 {τ : CId} {q : Nat → Nat} {σ : MS} (i : Nat) (v : Int32) : (mW τ q σ).set 6 (q 8, .inl (τ.1, 12, .inl (upd (gA σ 8) i v))) = mW τ q (sA σ 8 i v) := rfl
theorem mA_9 {τ : CId} {q : Nat → Nat} {σ : MS} : (mW τ q σ)[7]? = some (q 9, .inl (τ.1, 12, .inl (gA σ 9))) := rfl
theorem mS_9 {τ : CId} {q : Nat → Nat} {σ : MS} (i : Nat) (v : Int32) : (mW τ q σ).set 7 (q 9, .inl (τ.1, 12, .inl (upd (gA σ 9) i v))) = mW τ q (sA σ 9 i v) := rfl
theorem mA_10 {τ : CId} {q : Nat → Nat} {σ : MS} : (mW τ q σ)[8]? = some (q 10, .inl (τ.1, 12, .inl (gA σ 10))) := rfl
theorem mS_10 {τ : CId} {q : Nat → Nat} {σ : MS} (i : Nat) (v : Int32) : (mW τ q σ).set 8 (q 10, .inl (τ.1, 12, .inl (upd (gA σ 10) i v))) = mW τ q (sA σ 10 i v) := rfl
theorem mL_11 {q : Nat → Nat} {σ : MS} : 11 < (mF q σ).length := Nat.le_of_ble_eq_true rfl
theorem mI_11 {τ : CId} {q : Nat → Nat} {σ : MS} (v : Int32) : (mW τ q σ).set 0 (q 0, .inr (12, (mF q σ).set 11 (.int v))) = mW τ q (sI σ 11 v) := rfl
theorem mL_12 {q : Nat → Nat} {σ : MS} : 12 < (mF q σ).length := Nat.le_of_ble_eq_true rfl
theorem mI_12 {τ : CId} {q : Nat → Nat} {σ : MS} (v : Int32) : (mW τ q σ).set 0 (q 0, .inr (12, (mF q σ).set 12 (.int v))) = mW τ q (sI σ 12 v) := rfl
theorem mA_13 {τ : CId} {q : Nat → Nat} {σ : MS} : (mW τ q σ)[9]? = some (q 13, .inl (τ.2.2.1, 6, .inl (gA σ 13))) := rfl
theorem mS_13 {τ : CId} {q : Nat → Nat} {σ : MS} (i : Nat) (v : Int32) : (mW τ q σ).set 9 (q 13, .inl (τ.2.2.1, 6, .inl (upd (gA σ 13) i v))) = mW τ q (sA σ 13 i v) := rfl
theorem mA_14 {τ : CId} {q : Nat → Nat} {σ : MS} : (mW τ q σ)[10]? = some (q 14, .inl (τ.2.1, 6, .inr (.inl (gB σ 14)))) := rfl
theorem mS_14 {τ : CId} {q : Nat → Nat} {σ : MS} (i : Nat) (v : Int64) : (mW τ q σ).set 10 (q 14, .inl (τ.2.1, 6, .inr (.inl (vp_updL (gB σ 14) i v)))) = mW τ q (sB σ 14 i v) := rfl
theorem mL_16 {q : Nat → Nat} {σ : MS} : 16 < (mF q σ).length := Nat.le_of_ble_eq_true rfl
theorem mI_16 {τ : CId} {q : Nat → Nat} {σ : MS} (v : Int32) : (mW τ q σ).set 0 (q 0, .inr (12, (mF q σ).set 16 (.int v))) = mW τ q (sI σ 16 v) := rfl
theorem mA_17 {τ : CId} {q : Nat → Nat} {σ : MS} : (mW τ q σ)[11]? = some (q 17, .inl (τ.1, 6, .inl (gA σ 17))) := rfl
theorem mS_17 {τ : CId} {q : Nat → Nat} {σ : MS} (i : Nat) (v : Int32) : (mW τ q σ).set 11 (q 17, .inl (τ.1, 6, .inl (upd (gA σ 17) i v))) = mW τ q (sA σ 17 i v) := rfl
theorem mA_18 {τ : CId} {q : Nat → Nat} {σ : MS} : (mW τ q σ)[12]? = some (q 18, .inl (τ.1, 6, .inl (gA σ 18))) := rfl
theorem mS_18 {τ : CId} {q : Nat → Nat} {σ : MS} (i : Nat) (v : Int32) : (mW τ q σ).set 12 (q 18, .inl (τ.1, 6, .inl (upd (gA σ 18) i v))) = mW τ q (sA σ 18 i v) := rfl
theorem mA_19 {τ : CId} {q : Nat → Nat} {σ : MS} : (mW τ q σ)[13]? = some (q 19, .inl (τ.2.1, 30, .inr (.inl (gB σ 19)))) := rfl
theorem mS_19 {τ : CId} {q : Nat → Nat} {σ : MS} (i : Nat) (v : Int64) : (mW τ q σ).set 13 (q 19, .inl (τ.2.1, 30, .inr (.inl (vp_updL (gB σ 19) i v)))) = mW τ q (sB σ 19 i v) := rfl
theorem mA_20 {τ : CId} {q : Nat → Nat} {σ : MS} : (mW τ q σ)[14]? = some (q 20, .inl (τ.1, 5, .inl (gA σ 20))) := rfl
theorem mS_20 {τ : CId} {q : Nat → Nat} {σ : MS} (i : Nat) (v : Int32) : (mW τ q σ).set 14 (q 20, .inl (τ.1, 5, .inl (upd (gA σ 20) i v))) = mW τ q (sA σ 20 i v) := rfl
theorem mA_21 {τ : CId} {q : Nat → Nat} {σ : MS} : (mW τ q σ)[15]? = some (q 21, .inl (τ.2.2.1, 5, .inl (gA σ 21))) := rfl
theorem mS_21 {τ : CId} {q : Nat → Nat} {σ : MS} (i : Nat) (v : Int32) : (mW τ q σ).set 15 (q 21, .inl (τ.2.2.1, 5, .inl (upd (gA σ 21) i v))) = mW τ q (sA σ 21 i v) := rfl
theorem mA_22 {τ : CId} {q : Nat → Nat} {σ : MS} : (mW τ q σ)[16]? = some (q 22, .inl (τ.2.1, 12, .inr (.inl (gB σ 22)))) := rfl
theorem mS_22 {τ : CId} {q : Nat → Nat} {σ : MS} (i : Nat) (v : Int64) : (mW τ q σ).set 16 (q 22, .inl (τ.2.1, 12, .inr (.inl (vp_updL (gB σ 22) i v)))) = mW τ q (sB σ 22 i v) := rfl
theorem mL_23 {q : Nat → Nat} {σ : MS} : 23 < (mF q σ).length := Nat.le_of_ble_eq_true rfl
theorem mI_23 {τ : CId} {q : Nat → Nat} {σ : MS} (v : Int32) : (mW τ q σ).set 0 (q 0, .inr (12, (mF q σ).set 23 (.int v))) = mW τ q (sI σ 23 v) := rfl
theorem mL_24 {q : Nat → Nat} {σ : MS} : 24 < (mF q σ).length := Nat.le_of_ble_eq_true rfl
theorem mI_24 {τ : CId} {q : Nat → Nat} {σ : MS} (v : Int32) : (mW τ q σ).set 0 (q 0, .inr (12, (mF q σ).set 24 (.int v))) = mW τ q (sI σ 24 v) := rfl
theorem mA_25 {τ : CId} {q : Nat → Nat} {σ : MS} : (mW τ q σ)[17]? = some (q 25, .inl (τ.1, 7, .inl (gA σ 25))) := rfl
theorem mS_25 {τ : CId} {q : Nat → Nat} {σ : MS} (i : Nat) (v : Int32) : (mW τ q σ).set 17 (q 25, .inl (τ.1, 7, .inl (upd (gA σ 25) i v))) = mW τ q (sA σ 25 i v) := rfl
theorem mA_26 {τ : CId} {q : Nat → Nat} {σ : MS} : (mW τ q σ)[18]? = some (q 26, .inl (τ.1, 7, .inl (gA σ 26))) := rfl
theorem mS_26 {τ : CId} {q : Nat → Nat} {σ : MS} (i : Nat) (v : Int32) : (mW τ q σ).set 18 (q 26, .inl (τ.1, 7, .inl (upd (gA σ 26) i v))) = mW τ q (sA σ 26 i v) := rfl
theorem mA_27 {τ : CId} {q : Nat → Nat} {σ : MS} : (mW τ q σ)[19]? = some (q 27, .inl (τ.2.2.1, 6, .inl (gA σ 27))) := rfl
theorem mS_27 {τ : CId} {q : Nat → Nat} {σ : MS} (i : Nat) (v : Int32) : (mW τ q σ).set 19 (q 27, .inl (τ.2.2.1, 6, .inl (upd (gA σ 27) i v))) = mW τ q (sA σ 27 i v) := rfl
theorem mA_28 {τ : CId} {q : Nat → Nat} {σ : MS} : (mW τ q σ)[20]? = some (q 28, .inl (τ.2.2.1, 12, .inl (gA σ 28))) := rfl
theorem mS_28 {τ : CId} {q : Nat → Nat} {σ : MS} (i : Nat) (v : Int32) : (mW τ q σ).set 20 (q 28, .inl (τ.2.2.1, 12, .inl (upd (gA σ 28) i v))) = mW τ q (sA σ 28 i v) := rfl
theorem mL_29 {q : Nat → Nat} {σ : MS} : 29 < (mF q σ).length := Nat.le_of_ble_eq_true rfl
theorem mI_29 {τ : CId} {q : Nat → Nat} {σ : MS} (v : Int32) : (mW τ q σ).set 0 (q 0, .inr (12, (mF q σ).set 29 (.int v))) = mW τ q (sI σ 29 v) := rfl
theorem mA_30 {τ : CId} {q : Nat → Nat} {σ : MS} : (mW τ q σ)[21]? = some (q 30, .inl (τ.1, 8, .inl (gA σ 30))) := rfl
theorem mS_30 {τ : CId} {q : Nat → Nat} {σ : MS} (i : Nat) (v : Int32) : (mW τ q σ).set 21 (q 30, .inl (τ.1, 8, .inl (upd (gA σ 30) i v))) = mW τ q (sA σ 30 i v) := rfl
theorem mA_31 {τ : CId} {q : Nat → Nat} {σ : MS} : (mW τ q σ)[22]? = some (q 31, .inl (τ.1, 8, .inl (gA σ 31))) := rfl
theorem mS_31 {τ : CId} {q : Nat → Nat} {σ : MS} (i : Nat) (v : Int32) : (mW τ q σ).set 22 (q 31, .inl (τ.1, 8, .inl (upd (gA σ 31) i v))) = mW τ q (sA σ 31 i v) := rfl
theorem mA_32 {τ : CId} {q : Nat → Nat} {σ : MS} : (mW τ q σ)[23]? = some (q 32, .inl (τ.1, 96, .inl (gA σ 32))) := rfl
theorem mS_32 {τ : CId} {q : Nat → Nat} {σ : MS} (i : Nat) (v : Int32) : (mW τ q σ).set 23 (q 32, .inl (τ.1, 96, .inl (upd (gA σ 32) i v))) = mW τ q (sA σ 32 i v) := rfl
theorem mA_33 {τ : CId} {q : Nat → Nat} {σ : MS} : (mW τ q σ)[24]? = some (q 33, .inl (τ.1, 96, .inl (gA σ 33))) := rfl
theorem mS_33 {τ : CId} {q : Nat → Nat} {σ : MS} (i : Nat) (v : Int32) : (mW τ q σ).set 24 (q 33, .inl (τ.1, 96, .inl (upd (gA σ 33) i v))) = mW τ q (sA σ 33 i v) := rfl
theorem mA_34 {τ : CId} {q : Nat → Nat} {σ : MS} : (mW τ q σ)[25]? = some (q 34, .inl (τ.1, 4, .inl (gA σ 34))) := rfl
theorem mS_34 {τ : CId} {q : Nat → Nat} {σ : MS} (i : Nat) (v : Int32) : (mW τ q σ).set 25 (q 34, .inl (τ.1, 4, .inl (upd (gA σ 34) i v))) = mW τ q (sA σ 34 i v) := rfl
theorem mA_35 {τ : CId} {q : Nat → Nat} {σ : MS} : (mW τ q σ)[26]? = some (q 35, .inl (τ.1, 4, .inl (gA σ 35))) := rfl
theorem mS_35 {τ : CId} {q : Nat → Nat} {σ : MS} (i : Nat) (v : Int32) : (mW τ q σ).set 26 (q 35, .inl (τ.1, 4, .inl (upd (gA σ 35) i v))) = mW τ q (sA σ 35 i v) := rfl
theorem mA_36 {τ : CId} {q : Nat → Nat} {σ : MS} : (mW τ q σ)[27]? = some (q 36, .inl (τ.2.1, 96, .inr (.inl (gB σ 36)))) := rfl
theorem mS_36 {τ : CId} {q : Nat → Nat} {σ : MS} (i : Nat) (v : Int64) : (mW τ q σ).set 27 (q 36, .inl (τ.2.1, 96, .inr (.inl (vp_updL (gB σ 36) i v)))) = mW τ q (sB σ 36 i v) := rfl
theorem mA_37 {τ : CId} {q : Nat → Nat} {σ : MS} : (mW τ q σ)[28]? = some (q 37, .inl (τ.2.1, 24, .inr (.inl (gB σ 37)))) := rfl
theorem mS_37 {τ : CId} {q : Nat → Nat} {σ : MS} (i : Nat) (v : Int64) : (mW τ q σ).set 28 (q 37, .inl (τ.2.1, 24, .inr (.inl (vp_updL (gB σ 37) i v)))) = mW τ q (sB σ 37 i v) := rfl
theorem mL_38 {q : Nat → Nat} {σ : MS} : 38 < (mF q σ).length := Nat.le_of_ble_eq_true rfl
theorem mI_38 {τ : CId} {q : Nat → Nat} {σ : MS} (v : Int32) : (mW τ q σ).set 0 (q 0, .inr (12, (mF q σ).set 38 (.int v))) = mW τ q (sI σ 38 v) := rfl
def lets {α β : Type} (x : α) (f : α → β) : β := f x
theorem lets_s {α β : Type} {x : α} {f : α → β} {z : β} (h : lets x f = z) : ∃ y, y = x ∧ f y = z := ⟨x, rfl, h⟩
section MYM
variable {l : Launch} {D : va_G} {τ : CId} {Γ : CT} {cc : ByteArray} {y : MethodName} {nL k n : Nat} {Ts : List Cond} {ret : Option FieldType} {rm : Room} {F : va_W → Option Value → Prop} {pc pc' : Nat} {lv : List (Nat × Value)} {st : List Value} {q : Nat → Nat} {σ σ' : MS}
theorem m_get (C : CX D τ Γ cc y nL Ts ret rm F) {ix : Nat} {v : Value} (d : decode cc pc = .ok (.getfield ix, 3)) (hin : ∀ w ∈ u_ws RX12 TX12 39, w ∈ Ts) (j : Nat) (hj : j < 39) (hk : Cond.fieldLink y.cls ix "WideningCracksModel" (TX12 j).2.1 (TX12 j).2.2.1 ∈ Ts) (hs : "WideningCracksModel" = (TX12 j).1) (hv : (mF q σ)[j]? = some v) (hp : pc + 3 = pc') (K : WM l D Γ nL k n (mW τ q σ) pc' lv (v :: st)) : WM l D Γ nL k n (mW τ q σ) pc lv (.ref (q 0) :: st) := wm_get C d hin 0 rfl rfl j hj hk (Or.inl hs) hv hp K
theorem m_putI (C : CX D τ Γ cc y nL Ts ret rm F) {ix : Nat} {v : Int32} (d : decode cc pc = .ok (.putfield ix, 3)) (hin : ∀ w ∈ u_ws RX12 TX12 39, w ∈ Ts) (j : Nat) (hj : j < 39) (hk : Cond.fieldLink y.cls ix "WideningCracksModel" (TX12 j).2.1 (TX12 j).2.2.1 ∈ Ts) (hs : "WideningCracksModel" = (TX12 j).1) (hfin : (TX12 j).2.2.2 = false) (hd : tyX12 j = .int) (hlen : j < (mF q σ).length) (hW : ∀ v, (mW τ q σ).set 0 (q 0, .inr (12, (mF q σ).set j (.int v))) = mW τ q (sI σ j v)) (hE : σ' = sI σ j v) (hp : pc + 3 = pc') (K : WM l D Γ nL k n (mW τ q σ') pc' lv st) : WM l D Γ nL k n (mW τ q σ) pc lv (.int v :: .ref (q 0) :: st) := wm_put C d hin tyX12 tyX12_ok nmX12 0 rfl rfl j hj hk (Or.inl hs) hfin hd rfl rfl hlen ((hW v).trans (congrArg (mW τ q) hE.symm)) hp K
theorem m_putL (C : CX D τ Γ cc y nL Ts ret rm F) {ix : Nat} {v : Int64} (d : decode cc pc = .ok (.putfield ix, 3)) (hin : ∀ w ∈ u_ws RX12 TX12 39, w ∈ Ts) (hk : Cond.fieldLink y.cls ix "WideningCracksModel" (TX12 15).2.1 (TX12 15).2.2.1 ∈ Ts) (hE : σ' = sL σ v) (hp : pc + 3 = pc') (K : WM l D Γ nL k n (mW τ q σ') pc' lv st) : WM l D Γ nL k n (mW τ q σ) pc lv (.long v :: .ref (q 0) :: st) := wm_put C d hin tyX12 tyX12_ok nmX12 0 rfl rfl 15 (by decide) hk (Or.inl rfl) rfl rfl rfl rfl (Nat.le_of_ble_eq_true rfl) (congrArg (mW τ q) hE.symm) hp K
end MYM
theorem leaf_s {α β : Type} {a c : α} {b d : β} (h : some (a, b) = some (c, d)) : a = c ∧ b = d := ⟨(Prod.mk.inj (Option.some.inj h)).1, (Prod.mk.inj (Option.some.inj h)).2⟩
theorem i32_ne {x y : Int32} (h : ¬ x = y) : ¬ x.toInt = y.toInt := fun e => h (Int32.toInt_inj.mp e)
