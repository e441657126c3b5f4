/-! THE STREET READ OUT OF A ROW. -/
theorem oq_100 {X : px_X} {D : pu_D} (h : rel_ D) {x1 : Int32} : op_ X D 100 [.ref 0, .int x1] 192 [.ref 85, .int x1] := oq_100x h
