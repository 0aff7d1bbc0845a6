/-! The law's run. -/
theorem ml_le (c : Nat) : wd_ml c ≤ 216 := by
  unfold wd_ml
  split
  · omega
  · split
    · omega
    · split
      · omega
      · split
        · omega
        · split
          · omega
          · split
            · omega
            · split <;> omega
theorem sz_lf {n : Nat} {r : Nat → Int32} {t : Nat} (h : n ≤ 300) : am_sc (.inl (t, lf n r)) ≤ 300 := by
  show (lf n r).length ≤ 300
  rw [lf_len]
  exact h
theorem sz_fl (c : Nat) (r : Nat → Int32) : am_sc (fl c r) ≤ 300 := by
  unfold fl
  by_cases h1 : c = 1
  · rw [if_pos h1]
    exact Nat.le_of_ble_eq_true rfl
  rw [if_neg h1]
  by_cases h2 : c = 2
  · rw [if_pos h2]
    exact Nat.le_of_ble_eq_true rfl
  rw [if_neg h2]
  by_cases h3 : c = 3
  · rw [if_pos h3]
    exact Nat.le_of_ble_eq_true rfl
  rw [if_neg h3]
  by_cases h4 : c = 4
  · rw [if_pos h4]
    exact Nat.le_of_ble_eq_true rfl
  rw [if_neg h4]
  by_cases h5 : c = 5
  · rw [if_pos h5]
    exact sz_lf (by omega)
  rw [if_neg h5]
  by_cases h6 : c < 30
  · rw [if_pos h6]
    by_cases h7 : c % 3 = 0
    · rw [if_pos h7]
      exact Nat.le_of_ble_eq_true rfl
    · rw [if_neg h7]
      exact sz_lf (by omega)
  rw [if_neg h6]
  by_cases h8 : c < 66
  · rw [if_pos h8]
    by_cases h7 : c % 3 = 0
    · rw [if_pos h7]
      exact Nat.le_of_ble_eq_true rfl
    · rw [if_neg h7]
      exact sz_lf (by omega)
  rw [if_neg h8]
  by_cases h9 : c = 66
  · rw [if_pos h9]
    exact Nat.le_of_ble_eq_true rfl
  rw [if_neg h9]
  have := ml_le c
  exact sz_lf (by omega)
theorem sm_le {B : Nat} {w : am_W} (h : ∀ x ∈ w, am_sc x ≤ B) : am_sz w ≤ w.length * B := by
  unfold am_sz
  induction w with
  | nil => exact Nat.zero_le _
  | cons a l ih =>
    rw [List.map_cons, List.sum_cons, List.length_cons, Nat.succ_mul]
    have h1 := h a (List.mem_cons_self ..)
    have h2 := ih fun x hx => h x (List.mem_cons_of_mem _ hx)
    omega
theorem sz_wd {xs : List Int32} (hL : xs.length ≤ 2048) (σ : wd_S) : (wd xs σ).length ≤ 1000 ∧ am_sz (wd xs σ) ≤ 100000 := by
  refine ⟨by rw [wd_len]; omega, ?_⟩
  have h1 : am_sz ((List.range 83).map fun i => fl (i + 1) (σ (i + 1))) ≤ 83 * 300 := by
    have h := sm_le (B := 300) (w := (List.range 83).map fun i => fl (i + 1) (σ (i + 1))) (fun x hx => by
      obtain ⟨i, -, rfl⟩ := List.mem_map.mp hx
      exact sz_fl _ _)
    rw [List.length_map, List.length_range] at h
    exact h
  have h2 : am_sz (wd xs σ) = xs.length + am_sz ((List.range 83).map fun i => fl (i + 1) (σ (i + 1))) := by
    unfold wd
    generalize ((List.range 83).map fun i => fl (i + 1) (σ (i + 1))) = l
    rfl
  omega
