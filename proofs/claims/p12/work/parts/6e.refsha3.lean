theorem jfr_I {S : Nat → Nat → Prop} {H H' : jH} (h : jfr S H H') {a j : Nat} (hn : ¬ S a j) : jI H' a j = jI H a j := (h.2.2.2 a j hn).1
theorem jfr_L {S : Nat → Nat → Prop} {H H' : jH} (h : jfr S H H') {a j : Nat} (hn : ¬ S a j) : jL H' a j = jL H a j := (h.2.2.2 a j hn).2.1
theorem jfr_R {S : Nat → Nat → Prop} {H H' : jH} (h : jfr S H H') {a j : Nat} (hn : ¬ S a j) : jR H' a j = jR H a j := (h.2.2.2 a j hn).2.2.1
theorem jfr_B {S : Nat → Nat → Prop} {H H' : jH} (h : jfr S H H') {a j : Nat} (hn : ¬ S a j) : jB H' a j = jB H a j := (h.2.2.2 a j hn).2.2.2
theorem jfr_K {S : Nat → Nat → Prop} {H H' : jH} (h : jfr S H H') (a : Nat) : jK H' a = jK H a := by rw [h.1]
theorem jT_eq {α : Type} {Q : α → jH → Prop} {o o' : Option (α × jH)} (e : o = o') (h : jT o' Q) : jT o Q := e ▸ h
