def Inv_ : SX → SM → Prop := fun _ _ => True
theorem steps_ : Steps Inv_ := sorry
theorem init_ : St_init Inv_ := sorry
