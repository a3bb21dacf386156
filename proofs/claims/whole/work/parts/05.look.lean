theorem lk_1 {w : Wd} {Q : Wd → Option PV → Prop} {x : Int32} (h : ∀ a b : Int32, Go 1 91 none 4 [some (vI a), some (vI b), some (vI 0)] [] w Q) : ev 1 91 none [4] Q 10 0 [some (vI x), none, none] [] w := by
  exact h _ _
