theorem placesOf_lt {nr nc : Nat} {w : Sh} {x q : _} (h : f_X3_placesOf nr nc w x = some q) : q < nr := by
  unfold f_X3_placesOf at h
  have g := (gd_some h).1
  have e := Option.some.inj (gd_some h).2
  rw [← e]
  exact inb_lt g
theorem placesOf_6 {w : Sh} {x : Int32} {q : Nat} (h : f_X3_placesOf 6 40 w x = some q) : q = 0 ∨ q = 1 ∨ q = 2 ∨ q = 3 ∨ q = 4 ∨ q = 5 := by
  have := placesOf_lt h
  omega
theorem placesOf_4 {w : Sh} {x : Int32} {q : Nat} (h : f_X3_placesOf 4 60 w x = some q) : q = 0 ∨ q = 1 ∨ q = 2 ∨ q = 3 := by
  have := placesOf_lt h
  omega
