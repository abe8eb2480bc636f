/-- what an operation owes: both sides answer alike and stay alike -/
def OpI (Rel : Nat → Nat → MS → MS → Prop) (fx : Nat → MS → Option (Int32 × MS)) (fm : MS → Option (Int32 × MS)) : Prop := ∀ (j nc : Nat) (σx σm : MS), j < 512 → Rel j nc σx σm → ∃ (r : Int32) (σx' σm' : MS), fx nc σx = some (r, σx') ∧ fm σm = some (r, σm') ∧ Rel (j + 1) nc σx' σm'
def OpL (Rel : Nat → Nat → MS → MS → Prop) (fx : Nat → MS → Option (Int64 × MS)) (fm : MS → Option (Int64 × MS)) : Prop := ∀ (j nc : Nat) (σx σm : MS), j < 512 → Rel j nc σx σm → ∃ (r : Int64) (σx' σm' : MS), fx nc σx = some (r, σx') ∧ fm σm = some (r, σm') ∧ Rel (j + 1) nc σx' σm'
def OpC (Rel : Nat → Nat → MS → MS → Prop) (fx : Nat → MS → Option (Int32 × (Nat × MS))) (fm : MS → Option (Int32 × MS)) : Prop := ∀ (j nc : Nat) (σx σm : MS), j < 512 → Rel j nc σx σm → ∃ (r : Int32) (nc' : Nat) (σx' σm' : MS), fx nc σx = some (r, (nc', σx')) ∧ fm σm = some (r, σm') ∧ Rel (j + 1) nc' σx' σm'

