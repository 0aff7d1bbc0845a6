/-! Put. -/
section SIM
variable {xs : List Int32} {σ τ : wd_S} {b : Bool} {nv ne : Nat} {kd dp wk fr to cn : Nat → Nat} {vl : Nat → Nat → Int32} {me : Nat → Nat → Nat} {mt : Nat → Nat → Nat × Nat} {ee : Nat → Nat} {op : Nat → Bool} {tt : Nat → Int32} {rc : Nat → Nat} {re : Nat → Nat → Nat} {rt : Nat → Nat → Nat × Nat} {rs : Nat → Nat → Int32} {q : Nat} {qg qe : Nat → Nat} {qt : Nat → Nat × Nat} {qs : Nat → Int32} {dl fi se : Int32}
/-- full for both -/
theorem fu_ml (c5 : cM σ ne cn vl me mt) (m5 : mM τ ne cn vl me mt) (m g : Int32) {i : Nat} (hi : i < ne) : fuB σ m g i = (biB m i && mlF τ g i) := by
  unfold fuB mlF biB
  rw [(c5 i hi).1, (m5 i hi).1]
  by_cases hg : nI i = g
  · rw [if_pos hg, if_pos hg]
  · rw [if_neg hg, if_neg hg]
    have : nI (cn i) - nI 0 = nI (cn i) := by
      show nI (cn i) - 0 = nI (cn i)
      exact Int32.sub_zero _
    rw [this]
theorem any_fu (c5 : cM σ ne cn vl me mt) (m5 : mM τ ne cn vl me mt) (m g : Int32) {p : Nat → Bool} (hp : ∀ i, i < ne → biB m i = p i) : anyB (fuB σ m g) ne = anyB (fun i => p i && mlF τ g i) ne := anyB_congr fun i hi => by rw [fu_ml c5 m5 m g hi, hp i hi]
theorem bi_out (he12 : ne ≤ 12) (c4 : cE σ nv ne fr to) {v : Nat} (hv : v < nv) {i : Nat} (hi : i < ne) : biB (σ (6 + 3 * v) 5) i = decide (fr i = v) := by
  rw [biB_t (by omega), c4.2.1 v hv i (by omega), decide_eq_true hi, Bool.true_and]
theorem fr_out (hG : pG nv ne kd dp wk fr to) (m4 : mE σ ne fr to) {v : Nat} (hv : v < nv) {i : Nat} (hi : i < ne) : decide (σ 73 i = nI v) = decide (fr i = v) := by
  have h1 := (hG.2.2.2 i hi).1
  have h2 := hG.1
  rw [(m4.1 i hi).1, Bool.eq_iff_iff, decide_eq_true_iff, decide_eq_true_iff, nI_eq (by omega) (by omega)]
/-- room: fewer than six -/
theorem room_lt (he12 : ne ≤ 12) (hM : pM nv ne kd dp to cn me mt) (m5 : mM τ ne cn vl me mt) {p : Nat → Bool} (ha : anyB (fun i => p i && mlF τ (-1) i) ne = false) {i : Nat} (hi : i < ne) (hp : p i = true) : cn i < 6 := by
  have h := anyB_f.mp ha i hi
  rw [hp, Bool.true_and] at h
  have h6 := (hM i hi).1
  unfold mlF at h
  have hn : ¬ nI i = -1 := fun z => by
    have hz : nI i < 0 := by rw [z]; decide
    exact nI_pos (by omega) hz
  rw [if_neg hn, (m5 i hi).1, show nI (cn i) - nI 0 = nI (cn i) from by
    show nI (cn i) - 0 = nI (cn i)
    exact Int32.sub_zero _] at h
  rw [Bool.not_eq_false', decide_eq_true_iff] at h
  exact (nI_ltI (by omega) (by omega)).mp h
theorem k_put (x y : Int32) (h : Sim σ) : cmpS Sim xs 4 69 [.int x, .int y] σ := by
  obtain ⟨b, nv, ne, kd, dp, wk, fr, to, cn, vl, me, mt, ee, op, tt, rc, re, rt, rs, q, qg, qe, qt, qs, dl, fi, se, ⟨hG, c1, m1⟩, ⟨c2, m2⟩, ⟨c3, m3⟩, ⟨c4, m4⟩, ⟨hM, c5, m5⟩, ⟨hI, c6, m6⟩, hR, c7, m7⟩ := id h
  have hn8 := hG.1
  have he12 := hG.2.1
  have heq := ri_mr (b := b) hn8 c3 m3 x
  cases hz : riB σ b nv x with
  | false => exact cmp_ev (r_put_bad c1.1 hn8 c1.2.2 x y hz) (m_put_bad m1.1 hn8 m1.2.2 x y (by rw [← heq]; exact hz)) h
  | true =>
    obtain ⟨j, hj, rfl, hk0⟩ := ri_ex hn8 hz
    obtain ⟨i1, i2, i3⟩ := c6 j hj
    obtain ⟨j1, j2, j3⟩ := m6 j hj
    have h15 := (hI j hj).1
    have hz' : mrB σ b nv (nI j) = true := by rw [← heq]; exact hz
    have hany := any_fu c5 m5 (σ (6 + 3 * j) 5) (-1) (p := fun i => decide (fr i = j)) (fun i hi => bi_out he12 c4 hj hi)
    have hany2 : anyB (fun i => decide (σ 73 i = nI j) && mlF σ (-1) i) ne = anyB (fun i => decide (fr i = j) && mlF σ (-1) i) ne := anyB_congr fun i hi => by rw [fr_out hG m4 hj hi]
    have hpu : puR σ j ne = mpR σ j ne := by
      unfold puR mpR
      rw [i2, j2, hany, hany2]
    have hc := r_put (xs := xs) c1.1 hn8 c1.2.1 he12 c1.2.2 hj hz y i1 h15 cn (fun i hi hb ha => ⟨(c5 i hi).1, room_lt (p := fun i => decide (fr i = j)) he12 hM m5 (by rw [← hany]; exact ha) hi (by rw [← bi_out he12 c4 hj hi]; exact hb)⟩)
    by_cases hz0 : puR σ j ne = nI 0
    · rw [if_pos hz0] at hc
      have ha0 : anyB (fun i => decide (fr i = j) && mlF σ (-1) i) ne = false := by
        cases hh : anyB (fun i => decide (fr i = j) && mlF σ (-1) i) ne with
        | false => rfl
        | true =>
          exfalso
          unfold puR at hz0
          rw [hany, hh, if_pos rfl] at hz0
          revert hz0
          split <;> decide
      have hroom : ∀ i, i < ne → decide (fr i = j) = true → cn i < 6 := fun i hi hp => room_lt (p := fun i => decide (fr i = j)) he12 hM m5 ha0 hi hp
      have hcnt : cnt (biB (σ (6 + 3 * j) 5)) ne = cnt (fun i => decide (fr i = j)) ne := cnt_congr ne fun i hi => bi_out he12 c4 hj hi
      rw [hcnt] at hc
      have cM1 := sn_cM (x := y) (p := fun i => decide (fr i = j)) (ep := ee j) (t := (0, 0)) (m := σ (6 + 3 * j) 5) c5 (fun i hi => bi_out he12 c4 hj hi)
      have hse : ∀ e, _ := fun e => se_at (σ := σ) (m := σ (6 + 3 * j) 5) (x := y) (t := nI (tmE (ee j) (0, 0))) (cn := cn) e ne
      have hsc : ∀ d, d < 30 ∨ 66 ≤ d → seF σ (σ (6 + 3 * j) 5) y (nI (tmE (ee j) (0, 0))) cn ne d = σ d := fun d hd => seF_c ne (by omega)
      generalize seF σ (σ (6 + 3 * j) 5) y (nI (tmE (ee j) (0, 0))) cn ne = τ at *
      have hm0 : ∀ d, 66 ≤ d → u2 τ 1 4 (σ 1 4 + nI (cnt (fun i => decide (fr i = j)) ne)) d = σ d := fun d hd => by rw [u2_row (by omega), hsc d (by omega)]
      have hcl : ∀ d, d ≠ 1 → u2 τ 1 4 (σ 1 4 + nI (cnt (fun i => decide (fr i = j)) ne)) d = τ d := fun d hd => u2_row hd
      have h14 : u2 τ 1 4 (σ 1 4 + nI (cnt (fun i => decide (fr i = j)) ne)) 1 4 = σ 1 4 + nI (cnt (fun i => decide (fr i = j)) ne) := u2_same _ _ _ _
      have h1k : ∀ k, k ≠ 4 → u2 τ 1 4 (σ 1 4 + nI (cnt (fun i => decide (fr i = j)) ne)) 1 k = σ 1 k := fun k hk => by rw [u2_k hk, hsc 1 (by omega)]
      generalize u2 τ 1 4 (σ 1 4 + nI (cnt (fun i => decide (fr i = j)) ne)) = ρ at *
      have m1' : mS ρ b nv ne := m1.of (by rw [hm0 _ (by omega)]) (by rw [hm0 _ (by omega)]) (by rw [hm0 _ (by omega)])
      have hmp : mpR ρ j ne = nI 0 := by
        have : mpR ρ j ne = mpR σ j ne := by
          unfold mpR mlF
          rw [hm0 71 (by omega), hm0 73 (by omega), hm0 75 (by omega)]
        rw [this, ← hpu]
        exact hz0
      have hp73 : (fun i => decide (ρ 73 i = nI j)) = fun i => decide (σ 73 i = nI j) := by rw [hm0 73 (by omega)]
      have hm := m_put (xs := xs) (σ := ρ) m1'.1 hn8 m1'.2.1 he12 m1'.2.2 hj (by
        unfold mrB at hz' ⊢
        rw [hm0 67 (by omega)]
        exact hz') y cn (fun i hi hfr _ => ⟨by rw [hm0 75 (by omega)]; exact (m5 i hi).1, hroom i hi (by rw [← fr_out hG m4 hj hi, ← hm0 73 (by omega)]; exact decide_eq_true hfr)⟩)
      rw [if_pos hmp, hmp, hp73] at hm
      rw [hz0] at hc
      -- the predicate on all edges
      have hsa : ∀ (ρ' : wd_S), saF ρ' (fun i => decide (σ 73 i = nI j)) y cn ne = saF ρ' (fun i => decide (fr i = j)) y cn ne := by
        intro ρ'
        have : ∀ n, n ≤ ne → saF ρ' (fun i => decide (σ 73 i = nI j)) y cn n = saF ρ' (fun i => decide (fr i = j)) y cn n := by
          intro n
          induction n with
          | zero => intro _; rfl
          | succ n ih =>
            intro hn
            show (if decide (σ 73 n = nI j) = true then _ else _) = (if decide (fr n = j) = true then _ else _)
            rw [fr_out hG m4 hj (by omega), ih (by omega)]
        exact this ne (Nat.le_refl _)
      rw [hsa] at hm
      refine cmp_ev hc hm ?_
      rw [hm0 70 (by omega), j1]
      have t0 : ∀ d, d ≠ 66 → tiF ρ (nI (ee j)) (nI 0) (nI 0) d = ρ d := fun d hd => tiF_c hd
      have tk : ∀ k, k ≠ 21 ∧ k ≠ 22 ∧ k ≠ 23 → tiF ρ (nI (ee j)) (nI 0) (nI 0) 66 k = σ 66 k := fun k hk => by rw [tiF_k hk, hm0 66 (by omega)]
      have t21 : tiF ρ (nI (ee j)) (nI 0) (nI 0) 66 21 = nI (ee j) := by
        unfold tiF
        rw [u2_k (by omega), u2_k (by omega), u2_same]
      have t22 : tiF ρ (nI (ee j)) (nI 0) (nI 0) 66 22 = nI 0 := by
        unfold tiF
        rw [u2_k (by omega), u2_same]
      have t23 : tiF ρ (nI (ee j)) (nI 0) (nI 0) 66 23 = nI 0 := by
        unfold tiF
        rw [u2_same]
      generalize tiF ρ (nI (ee j)) (nI 0) (nI 0) = θ at *
      have m5' : mM θ ne cn vl me mt := m5.of (by rw [t0 _ (by omega), hm0 _ (by omega)]) (by rw [t0 _ (by omega), hm0 _ (by omega)]) (by rw [t0 _ (by omega), hm0 _ (by omega)])
      have mM1 := sn_mM (x := y) (p := fun i => decide (fr i = j)) (ep := ee j) (t := (0, 0)) (fun e he => (hM e he).1) hroom m5' t21 t22 t23
      have h20 := (sa_at (σ := θ) (x := y) (p := fun i => decide (fr i = j)) (cn := cn) ne hroom).1
      have s66 : ∀ k, k ≠ 20 → saF θ (fun i => decide (fr i = j)) y cn ne 66 k = θ 66 k := fun k hk => saF_66 hk ne
      have sc : ∀ d, d ≠ 66 ∧ d ≠ 75 ∧ d ≠ 76 ∧ d ≠ 77 → saF θ (fun i => decide (fr i = j)) y cn ne d = θ d := fun d hd => saF_c hd ne
      have s75 : ∀ e, ne ≤ e → saF θ (fun i => decide (fr i = j)) y cn ne 75 e = θ 75 e := fun e hd => saF_75 ne hd
      generalize saF θ (fun i => decide (fr i = j)) y cn ne = ω at *
      have hcv : ∀ d, d < 30 → d ≠ 1 → ω d = σ d := fun d h1 h2 => by rw [sc d (by omega), t0 d (by omega), hcl d h2, hsc d (by omega)]
      have hce : ∀ d, 30 ≤ d → d < 66 → ω d = τ d := fun d h1 h2 => by rw [sc d (by omega), t0 d (by omega), hcl d (by omega)]
      have hmm : ∀ d, 66 < d → d ≠ 75 ∧ d ≠ 76 ∧ d ≠ 77 → ω d = σ d := fun d h1 h2 => by rw [sc d (by omega), t0 d (by omega), hm0 d (by omega)]
      have h66 : ∀ k, k ≠ 20 ∧ k ≠ 21 ∧ k ≠ 22 ∧ k ≠ 23 → ω 66 k = σ 66 k := fun k hk => by rw [s66 k (by omega), tk k (by omega)]
      have hw1 : ∀ k, ω 1 k = ρ 1 k := fun k => by rw [sc 1 (by omega), t0 1 (by omega)]
      refine ⟨b, nv, ne, kd, dp, wk, fr, to, snC (fun i => decide (fr i = j)) cn, snV (fun i => decide (fr i = j)) cn vl y, snV (fun i => decide (fr i = j)) cn me (ee j), snV (fun i => decide (fr i = j)) cn mt (0, 0), ee, op, tt, rc, re, rt, rs, q, qg, qe, qt, qs, dl, fi, se + nI (cnt (fun i => decide (fr i = j)) ne), ⟨hG, c1.of (hcv 2 (by omega) (by omega)) (by rw [hw1, h1k 1 (by omega)]), m1.of (h66 _ (by omega)) (h66 _ (by omega)) (h66 _ (by omega))⟩, ⟨⟨by rw [hw1, h1k 2 (by omega)]; exact c2.1, by rw [hw1, h1k 3 (by omega)]; exact c2.2.1, by rw [hw1, h14, c2.2.2]⟩, ⟨by rw [h66 18 (by omega)]; exact m2.1, by rw [h66 19 (by omega)]; exact m2.2.1, by rw [h20, tk 20 (by omega), m2.2.2]⟩⟩, ⟨c3.of hn8 (fun v hv k _ => by rw [hcv _ (by omega) (by omega)]) (fun v _ hv => hcv _ (by omega) (by omega)), m3.of (hmm _ (by omega) (by omega)) (hmm _ (by omega) (by omega)) (hmm _ (by omega) (by omega)) (fun v _ _ => by rw [hmm 70 (by omega) (by omega), hmm 72 (by omega) (by omega)]; exact ⟨rfl, rfl⟩)⟩, ⟨c4.of he12 (fun e he => ?_) (fun v hv => by rw [hcv _ (by omega) (by omega)]) (fun e h1 he => ?_), m4.of (hmm _ (by omega) (by omega)) (hmm _ (by omega) (by omega)) (fun e h1 _ => by rw [s75 e h1, t0 75 (by omega), hm0 75 (by omega)])⟩, ⟨sn_pM hM hroom ⟨h15, by omega, by omega⟩ (fun e _ _ => dp_00 _), cM1.of (fun e he => ⟨by rw [hce _ (by omega) (by omega)], hce _ (by omega) (by omega), hce _ (by omega) (by omega)⟩), mM1⟩, ⟨hI, c6.of (fun v hv => by rw [hcv _ (by omega) (by omega)]; exact ⟨rfl, rfl, rfl⟩), m6.of (hmm _ (by omega) (by omega)) (hmm _ (by omega) (by omega)) (hmm _ (by omega) (by omega))⟩, hR, c7.of (fun v hv => ⟨by rw [hcv _ (by omega) (by omega)], hcv _ (by omega) (by omega), hcv _ (by omega) (by omega)⟩), m7.of (h66 _ (by omega)) (hmm _ (by omega) (by omega)) (hmm _ (by omega) (by omega)) (hmm _ (by omega) (by omega))⟩
      · rw [hce _ (by omega) (by omega), (hse e).1 0, (hse e).1 1, if_neg (by omega), if_neg (by omega)]
        exact ⟨rfl, rfl⟩
      · rw [hce _ (by omega) (by omega), (hse e).1 2, if_neg (by omega)]
    · rw [if_neg hz0] at hc
      have hm := m_put (xs := xs) (σ := σ) m1.1 hn8 m1.2.1 he12 m1.2.2 hj hz' y cn (fun i hi hfr ha => ⟨(m5 i hi).1, room_lt (p := fun i => decide (fr i = j)) he12 hM m5 (by rw [← hany2]; exact ha) hi (by rw [← fr_out hG m4 hj hi]; exact decide_eq_true hfr)⟩)
      rw [← hpu, if_neg hz0] at hm
      exact cmp_ev hc hm h
end SIM
