/-! Advance, close. -/
section SIM
variable {xs : List Int32} {σ τ : wd_S} {b : Bool} {nv ne : Nat} {kd dp wk fr to cn : Nat → Nat} {vl : Nat → Nat → Int32} {me : Nat → Nat → Nat} {mt : Nat → Nat → Nat × Nat} {ee : Nat → Nat} {op : Nat → Bool} {tt : Nat → Int32} {rc : Nat → Nat} {re : Nat → Nat → Nat} {rt : Nat → Nat → Nat × Nat} {rs : Nat → Nat → Int32} {q : Nat} {qg qe : Nat → Nat} {qt : Nat → Nat × Nat} {qs : Nat → Int32} {dl fi se : Int32}
theorem ri_mr (hn8 : nv ≤ 8) (c3 : cV σ nv kd dp wk) (m3 : mV τ nv kd dp wk) (x : Int32) : riB σ b nv x = mrB τ b nv x := by
  unfold riB mrB
  cases hx : inB x nv with
  | false => rfl
  | true =>
    obtain ⟨a, ha, rfl⟩ := inB_ex (by omega) hx
    rw [nI_clamp (by omega), (c3.1 a ha).1, (m3.1 a ha).1]
theorem ri_ex (hn8 : nv ≤ 8) {x : Int32} (h : riB σ b nv x = true) : ∃ j, j < nv ∧ x = nI j ∧ σ (6 + 3 * j) 0 = 0 := by
  unfold riB at h
  rw [Bool.and_eq_true, Bool.and_eq_true, decide_eq_true_iff] at h
  obtain ⟨-, hx, h0⟩ := h
  obtain ⟨a, ha, rfl⟩ := inB_ex (by omega) hx
  rw [nI_clamp (by omega)] at h0
  exact ⟨a, ha, rfl, h0⟩
theorem k_advance (x : Int32) (h : Sim σ) : cmpS Sim xs 5 70 [.int x] σ := by
  obtain ⟨b, nv, ne, kd, dp, wk, fr, to, cn, vl, me, mt, ee, op, tt, rc, re, rt, rs, q, qg, qe, qt, qs, dl, fi, se, ⟨hG, c1, m1⟩, ⟨c2, m2⟩, ⟨c3, m3⟩, ⟨c4, m4⟩, ⟨hM, c5, m5⟩, ⟨hI, c6, m6⟩, hR, c7, m7⟩ := id h
  have hn8 := hG.1
  have he12 := hG.2.1
  have heq := ri_mr (b := b) hn8 c3 m3 x
  cases hz : riB σ b nv x with
  | false => exact cmp_ev (r_advance_bad c1.1 hn8 c1.2.2 x hz) (m_advance_bad m1.1 hn8 m1.2.2 x (by rw [← heq]; exact hz)) h
  | true =>
    obtain ⟨j, hj, rfl, hk0⟩ := ri_ex hn8 hz
    obtain ⟨i1, i2, i3⟩ := c6 j hj
    obtain ⟨j1, j2, j3⟩ := m6 j hj
    have h15 := (hI j hj).1
    have hc := r_advance (xs := xs) c1.1 hn8 c1.2.2 hj hz i1 h15
    have hz' : mrB σ b nv (nI j) = true := by rw [← heq]; exact hz
    rw [i2] at hc
    cases ho : op j with
    | false =>
      rw [ho] at hc j2
      have h0n : bI false = 0 := rfl
      rw [if_pos h0n, if_pos h0n] at hc
      have hm := m_advance (xs := xs) m1.1 hn8 m1.2.2 hj hz' j1 h15
      rw [j2, if_pos h0n, if_pos h0n] at hm
      exact cmp_ev hc hm h
    | true =>
      have h1n : ¬ bI true = 0 := by decide
      rw [ho] at hc j2
      rw [if_neg h1n, if_neg h1n] at hc
      by_cases he15 : ee j < 15
      · rw [if_pos he15, if_pos he15] at hc
        have hm0 : ∀ d, d ≠ 6 + 3 * j → u2 σ (6 + 3 * j) 7 (nI (ee j + 1)) d = σ d := fun d hd => u2_row hd
        have m1' : mS (u2 σ (6 + 3 * j) 7 (nI (ee j + 1))) b nv ne := m1.of (by rw [hm0 _ (by omega)]) (by rw [hm0 _ (by omega)]) (by rw [hm0 _ (by omega)])
        have hm := m_advance (xs := xs) m1'.1 hn8 m1'.2.2 hj (show mrB (u2 σ (6 + 3 * j) 7 (nI (ee j + 1))) b nv (nI j) = true by
          unfold mrB at hz' ⊢
          rw [hm0 67 (by omega)]
          exact hz') (by rw [hm0 70 (by omega)]; exact j1) h15
        rw [hm0 71 (by omega), j2, if_neg h1n, if_neg h1n, if_pos he15, if_pos he15] at hm
        refine cmp_ev hc hm ?_
        have hr1 : ∀ d, d ≠ 6 + 3 * j → d ≠ 70 → u2 (u2 σ (6 + 3 * j) 7 (nI (ee j + 1))) 70 j (nI (ee j + 1)) d = σ d := fun d h1 h2 => by rw [u2_row h2, u2_row h1]
        have fv : ∀ v k, v < 8 → (v ≠ j ∨ k ≠ 7) → u2 (u2 σ (6 + 3 * j) 7 (nI (ee j + 1))) 70 j (nI (ee j + 1)) (6 + 3 * v) k = σ (6 + 3 * v) k := fun v k hv hk => by
          rw [u2_c (by omega), u2_ne (by omega)]
        have fv7 : u2 (u2 σ (6 + 3 * j) 7 (nI (ee j + 1))) 70 j (nI (ee j + 1)) (6 + 3 * j) 7 = nI (ee j + 1) := by rw [u2_c (by omega), u2_same]
        have f70 : ∀ v, v ≠ j → u2 (u2 σ (6 + 3 * j) 7 (nI (ee j + 1))) 70 j (nI (ee j + 1)) 70 v = σ 70 v := fun v hv => by rw [u2_k hv, u2_c (by omega)]
        have f70j : u2 (u2 σ (6 + 3 * j) 7 (nI (ee j + 1))) 70 j (nI (ee j + 1)) 70 j = nI (ee j + 1) := u2_same _ _ _ _
        generalize u2 (u2 σ (6 + 3 * j) 7 (nI (ee j + 1))) 70 j (nI (ee j + 1)) = ρ at *
        have f66 : ρ 66 = σ 66 := hr1 66 (by omega) (by omega)
        have f1 : ρ 1 = σ 1 := hr1 1 (by omega) (by omega)
        refine ⟨b, nv, ne, kd, dp, wk, fr, to, cn, vl, me, mt, up ee j (ee j + 1), op, tt, rc, re, rt, rs, q, qg, qe, qt, qs, dl, fi, se, ⟨hG, c1.of (hr1 2 (by omega) (by omega)) (by rw [f1]), m1.of (by rw [f66]) (by rw [f66]) (by rw [f66])⟩, ⟨c2.of (by rw [f1]) (by rw [f1]) (by rw [f1]), m2.of (by rw [f66]) (by rw [f66]) (by rw [f66])⟩, ⟨c3.of hn8 (fun v hv k hk => fv v k (by omega) (by omega)) (fun v h1 h2 => hr1 _ (by omega) (by omega)), m3.of (hr1 _ (by omega) (by omega)) (hr1 _ (by omega) (by omega)) (hr1 _ (by omega) (by omega)) (fun v h1 h2 => ⟨f70 v (by omega), by rw [hr1 72 (by omega) (by omega)]⟩)⟩, ⟨c4.of he12 (fun e he => by rw [hr1 _ (by omega) (by omega)]; exact ⟨rfl, rfl⟩) (fun v hv => fv v 5 (by omega) (by omega)) (fun e _ he => by rw [hr1 _ (by omega) (by omega)]), m4.of (hr1 _ (by omega) (by omega)) (hr1 _ (by omega) (by omega)) (fun e _ _ => by rw [hr1 75 (by omega) (by omega)])⟩, ⟨hM, c5.of (fun e he => ⟨by rw [hr1 _ (by omega) (by omega)], hr1 _ (by omega) (by omega), hr1 _ (by omega) (by omega)⟩), m5.of (hr1 _ (by omega) (by omega)) (hr1 _ (by omega) (by omega)) (hr1 _ (by omega) (by omega))⟩, ⟨fun v hv => ?_, fun v hv => ?_, fun v hv => ?_⟩, hR, c7.of (fun v hv => ⟨fv v 9 (by omega) (by omega), hr1 _ (by omega) (by omega), hr1 _ (by omega) (by omega)⟩), m7.of (by rw [f66]) (hr1 _ (by omega) (by omega)) (hr1 _ (by omega) (by omega)) (hr1 _ (by omega) (by omega))⟩
        · by_cases hvj : v = j
          · subst hvj
            rw [up_s]
            exact ⟨he15, (hI v hv).2⟩
          · rw [up_n hvj]
            exact hI v hv
        · rw [fv v 8 (by omega) (by omega), fv v 6 (by omega) (by omega)]
          by_cases hvj : v = j
          · subst hvj
            rw [up_s]
            exact ⟨fv7, (c6 v hv).2⟩
          · rw [up_n hvj, fv v 7 (by omega) (by omega)]
            exact c6 v hv
        · rw [hr1 71 (by omega) (by omega), hr1 72 (by omega) (by omega)]
          by_cases hvj : v = j
          · subst hvj
            rw [up_s]
            exact ⟨f70j, (m6 v hv).2⟩
          · rw [up_n hvj, f70 v hvj]
            exact m6 v hv
      · rw [if_neg he15, if_neg he15] at hc
        have hm := m_advance (xs := xs) m1.1 hn8 m1.2.2 hj hz' j1 h15
        rw [j2, if_neg h1n, if_neg h1n, if_neg he15, if_neg he15] at hm
        exact cmp_ev hc hm h
theorem k_close (x : Int32) (h : Sim σ) : cmpS Sim xs 6 71 [.int x] σ := by
  obtain ⟨b, nv, ne, kd, dp, wk, fr, to, cn, vl, me, mt, ee, op, tt, rc, re, rt, rs, q, qg, qe, qt, qs, dl, fi, se, ⟨hG, c1, m1⟩, ⟨c2, m2⟩, ⟨c3, m3⟩, ⟨c4, m4⟩, ⟨hM, c5, m5⟩, ⟨hI, c6, m6⟩, hR, c7, m7⟩ := id h
  have hn8 := hG.1
  have he12 := hG.2.1
  have heq := ri_mr (b := b) hn8 c3 m3 x
  cases hz : riB σ b nv x with
  | false => exact cmp_ev (r_close_bad c1.1 hn8 c1.2.2 x hz) (m_close_bad m1.1 hn8 m1.2.2 x (by rw [← heq]; exact hz)) h
  | true =>
    obtain ⟨j, hj, rfl, hk0⟩ := ri_ex hn8 hz
    obtain ⟨i1, i2, i3⟩ := c6 j hj
    obtain ⟨j1, j2, j3⟩ := m6 j hj
    have hc := r_close (xs := xs) c1.1 hn8 c1.2.2 hj hz
    have hz' : mrB σ b nv (nI j) = true := by rw [← heq]; exact hz
    rw [i2] at hc
    cases ho : op j with
    | false =>
      rw [ho] at hc j2
      have h0n : bI false = 0 := rfl
      rw [if_pos h0n, if_pos h0n] at hc
      have hm := m_close (xs := xs) m1.1 hn8 m1.2.2 hj hz'
      rw [j2, if_pos h0n, if_pos h0n] at hm
      exact cmp_ev hc hm h
    | true =>
      have h1n : ¬ bI true = 0 := by decide
      rw [ho] at hc j2
      rw [if_neg h1n, if_neg h1n] at hc
      have hm0 : ∀ d, d ≠ 6 + 3 * j → u2 σ (6 + 3 * j) 8 (nI 0) d = σ d := fun d hd => u2_row hd
      have m1' : mS (u2 σ (6 + 3 * j) 8 (nI 0)) b nv ne := m1.of (by rw [hm0 _ (by omega)]) (by rw [hm0 _ (by omega)]) (by rw [hm0 _ (by omega)])
      have hm := m_close (xs := xs) m1'.1 hn8 m1'.2.2 hj (show mrB (u2 σ (6 + 3 * j) 8 (nI 0)) b nv (nI j) = true by
          unfold mrB at hz' ⊢
          rw [hm0 67 (by omega)]
          exact hz')
      rw [hm0 71 (by omega), j2, if_neg h1n, if_neg h1n] at hm
      refine cmp_ev hc hm ?_
      have hr1 : ∀ d, d ≠ 6 + 3 * j → d ≠ 71 → u2 (u2 σ (6 + 3 * j) 8 (nI 0)) 71 j (nI 0) d = σ d := fun d h1 h2 => by rw [u2_row h2, u2_row h1]
      have fv : ∀ v k, v < 8 → (v ≠ j ∨ k ≠ 8) → u2 (u2 σ (6 + 3 * j) 8 (nI 0)) 71 j (nI 0) (6 + 3 * v) k = σ (6 + 3 * v) k := fun v k hv hk => by
        rw [u2_c (by omega), u2_ne (by omega)]
      have fv8 : u2 (u2 σ (6 + 3 * j) 8 (nI 0)) 71 j (nI 0) (6 + 3 * j) 8 = nI 0 := by rw [u2_c (by omega), u2_same]
      have f71 : ∀ v, v ≠ j → u2 (u2 σ (6 + 3 * j) 8 (nI 0)) 71 j (nI 0) 71 v = σ 71 v := fun v hv => by rw [u2_k hv, u2_c (by omega)]
      have f71j : u2 (u2 σ (6 + 3 * j) 8 (nI 0)) 71 j (nI 0) 71 j = nI 0 := u2_same _ _ _ _
      generalize u2 (u2 σ (6 + 3 * j) 8 (nI 0)) 71 j (nI 0) = ρ at *
      have f66 : ρ 66 = σ 66 := hr1 66 (by omega) (by omega)
      have f1 : ρ 1 = σ 1 := hr1 1 (by omega) (by omega)
      refine ⟨b, nv, ne, kd, dp, wk, fr, to, cn, vl, me, mt, ee, up op j false, tt, rc, re, rt, rs, q, qg, qe, qt, qs, dl, fi, se, ⟨hG, c1.of (hr1 2 (by omega) (by omega)) (by rw [f1]), m1.of (by rw [f66]) (by rw [f66]) (by rw [f66])⟩, ⟨c2.of (by rw [f1]) (by rw [f1]) (by rw [f1]), m2.of (by rw [f66]) (by rw [f66]) (by rw [f66])⟩, ⟨c3.of hn8 (fun v hv k hk => fv v k (by omega) (by omega)) (fun v h1 h2 => hr1 _ (by omega) (by omega)), m3.of (hr1 _ (by omega) (by omega)) (hr1 _ (by omega) (by omega)) (hr1 _ (by omega) (by omega)) (fun v h1 h2 => ⟨by rw [hr1 70 (by omega) (by omega)], by rw [hr1 72 (by omega) (by omega)]⟩)⟩, ⟨c4.of he12 (fun e he => by rw [hr1 _ (by omega) (by omega)]; exact ⟨rfl, rfl⟩) (fun v hv => fv v 5 (by omega) (by omega)) (fun e _ he => by rw [hr1 _ (by omega) (by omega)]), m4.of (hr1 _ (by omega) (by omega)) (hr1 _ (by omega) (by omega)) (fun e _ _ => by rw [hr1 75 (by omega) (by omega)])⟩, ⟨hM, c5.of (fun e he => ⟨by rw [hr1 _ (by omega) (by omega)], hr1 _ (by omega) (by omega), hr1 _ (by omega) (by omega)⟩), m5.of (hr1 _ (by omega) (by omega)) (hr1 _ (by omega) (by omega)) (hr1 _ (by omega) (by omega))⟩, ⟨fun v hv => ?_, fun v hv => ?_, fun v hv => ?_⟩, hR, c7.of (fun v hv => ⟨fv v 9 (by omega) (by omega), hr1 _ (by omega) (by omega), hr1 _ (by omega) (by omega)⟩), m7.of (by rw [f66]) (hr1 _ (by omega) (by omega)) (hr1 _ (by omega) (by omega)) (hr1 _ (by omega) (by omega))⟩
      · by_cases hvj : v = j
        · subst hvj
          rw [up_s]
          exact ⟨(hI v hv).1, (fun z => by cases z)⟩
        · rw [up_n hvj]
          exact hI v hv
      · rw [fv v 7 (by omega) (by omega), fv v 6 (by omega) (by omega)]
        by_cases hvj : v = j
        · subst hvj
          rw [up_s]
          exact ⟨(c6 v hv).1, fv8, (c6 v hv).2.2⟩
        · rw [up_n hvj, fv v 8 (by omega) (by omega)]
          exact c6 v hv
      · rw [hr1 70 (by omega) (by omega), hr1 72 (by omega) (by omega)]
        by_cases hvj : v = j
        · subst hvj
          rw [up_s]
          exact ⟨(m6 v hv).1, f71j, (m6 v hv).2.2⟩
        · rw [up_n hvj, f71 v hvj]
          exact m6 v hv
end SIM
