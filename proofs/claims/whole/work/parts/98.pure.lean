def pu_Inv (SX SM : fy_S) : Prop := SX = SX ∧ SM = SM
theorem pu_start : ∃ S1 S2 S3 : fy_S, M_empties fz_Z 0 1 1 = some S1 ∧ M_empties S1 1 1 1 = some S2 ∧ M_empties S2 2 1 1 = some S3 ∧ pu_Inv X_S0 S3 := sorry
theorem pu_step : ∀ (SX SM : fy_S) (o a1 a2 a3 a4 : Int32), pu_Inv SX SM → ∃ SX' SM', lw_step SX SM (o &&& 63) a1 a2 a3 a4 SX' SM' ∧ pu_Inv SX' SM' := sorry
