theorem ET_ws {args : Array Value} {s : State} {cw : Cond} (h : cw ∈ XT) (hte : ∀ w ∈ ET, w.before args s = true) : ∀ w ∈ cw :: ET, ∀ (a' : Array Value) (U : State), s.WarmedH U.vm → w.before a' U = true := by
  intro w hw a' U hW
  rcases List.mem_cons.mp hw with e | hw
  · rw [e]; exact word_at hW (XT_good _ h) (hte _ (XT_ET _ h))
  · exact word_at hW (ET_good _ hw) (hte _ hw)
