/-! The reference's SHA-256. -/
theorem jb_ok {α β : Type} {x : α} {H : jH} {k : α → jH → Option (β × jH)} : jb (some (x, H)) k = k x H := rfl
