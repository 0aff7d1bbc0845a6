/-- THE LAW'S RUN in the abstract machine: it ends, with 1, and the world has not grown beyond the room -/
theorem law_run (xs : List Int32) (hL : xs.length ≤ 2048) : am_G 104 0 [some (.ref 0), none, none, none] [] [.inl (0, xs)] (fun v w => v = some (.int 1) ∧ w.length ≤ 1000 ∧ am_sz w ≤ 100000) := by
  sorry
