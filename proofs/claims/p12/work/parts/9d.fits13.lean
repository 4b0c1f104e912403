/-! Points.fits of the reference: it answers as the class's holds. -/
section FT13
variable {Q : Int32 → jH → Prop} {H0 : jH}
def sg_in (r s : Nat) : Prop := r ≠ 0 ∧ s ≠ 0 ∧ r < nN ∧ s < nN
end FT13
