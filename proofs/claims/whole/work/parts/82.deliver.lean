theorem k_deliver {xs : List Int32} {σ : wd_S} (x : Int32) (h : Sim σ) : cmpS Sim xs 7 80 [.int x] σ := by
  sorry
