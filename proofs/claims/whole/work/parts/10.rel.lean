def Rel (σ τ : St) : Prop := σ.1 0 9 = τ.1 0 2
