/-- THE LAW'S RUN in the abstract machine: it ends, with 1, and the world has not grown beyond the room -/
theorem law_run (xs : List Int32) (hL : xs.length ≤ 2048) : am_G 104 0 [some (.ref 0), none, none, none] [] [.inl (0, xs)] (fun v w => v = some (.int 1) ∧ w.length ≤ 1000 ∧ am_sz w ≤ 100000) := by
  refine n_law (law_loop (S := Sim) hL ⟨?_, ?_, ?_, ?_, ?_, ?_, ?_, ?_, ?_, ?_, ?_, ?_, ?_, ?_, ?_, ?_⟩ (sz_wd hL) sim0)
  · exact fun σ x y z h => k_vertex x y z h
  · exact fun σ x y h => k_edge x y h
  · exact fun σ h => k_start h
  · exact fun σ x y h => k_put x y h
  · exact fun σ x h => k_advance x h
  · exact fun σ x h => k_close x h
  · exact fun σ x h => k_deliver x h
  · exact fun σ h => k_requests h
  · exact fun σ x y h => k_request x y h
  · exact fun σ x h => k_ahead x h
  · exact fun σ x h => k_fire x h
  · exact fun σ x h => k_waiting x h
  · exact fun σ x y z h => k_message x y z h
  · exact fun σ x h => k_total x h
  · exact fun σ h => k_points h
  · exact fun σ x h => k_times x h
