theorem px_pure (X : px_X) (h : X.1 ≤ 3072) : ∃ (N : Nat) (h' : px_H), px_run X N px_law (1000, 20000) (px_ct px_law) (px_ent [.ref 1300] 4) [] ([], fun _ _ => 0, fun _ _ => 0) = some (some (.int 1), h') := by
  sorry
