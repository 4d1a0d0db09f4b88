def Inv (w : WD) : Prop := True
theorem inv_0 : Inv W0 := trivial
theorem ops_ok : OpsOK Inv := sorry
