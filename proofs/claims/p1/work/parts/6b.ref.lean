/-- the reference's turn to the right -/
theorem z12_right {x n : Int32} {H : jH} : F_12_right x n H = some (zR x n, H) := rfl
