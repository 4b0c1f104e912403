/-! What is wrong with a transaction by itself, in the reference; and which inputs are root inputs. -/
theorem jbl {r c : Bool} (h : r = true ↔ c = true) : r = c := by
  cases r <;> cases c <;> simp_all
