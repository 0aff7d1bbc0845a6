/-! Edge, start, advance, close. -/
section SIM
variable {xs : List Int32} {σ τ : wd_S} {b : Bool} {nv ne : Nat} {kd dp wk fr to cn : Nat → Nat} {vl : Nat → Nat → Int32} {me : Nat → Nat → Nat} {mt : Nat → Nat → Nat × Nat} {ee : Nat → Nat} {op : Nat → Bool} {tt : Nat → Int32} {rc : Nat → Nat} {re : Nat → Nat → Nat} {rt : Nat → Nat → Nat × Nat} {rs : Nat → Nat → Int32} {q : Nat} {qg qe : Nat → Nat} {qt : Nat → Nat × Nat} {qs : Nat → Int32} {dl fi se : Int32}
theorem in_nI {v : Nat} (hv : v < nv) (h : vOK (kd v) (dp v)) : (if nI (kd v) = nI 2 then nI (dp v) - nI 1 else nI (dp v)) = nI (gDi nv kd dp v) := by
  unfold gDi
  rw [if_pos hv]
  have hk : kd v ≤ 4 := by unfold vOK at h; omega
  by_cases h2 : kd v = 2
  · have : 1 ≤ dp v := by unfold vOK at h; omega
    rw [if_pos (by rw [h2]), if_pos h2, pk_sub this]
  · rw [if_neg (fun z => h2 ((nI_eq (by omega) (by omega)).mp z)), if_neg h2]
theorem out_nI {v : Nat} (hv : v < nv) (h : vOK (kd v) (dp v)) : (if nI (kd v) = nI 3 then nI (dp v) - nI 1 else nI (dp v)) = nI (gDo nv kd dp v) := by
  unfold gDo
  rw [if_pos hv]
  have hk : kd v ≤ 4 := by unfold vOK at h; omega
  by_cases h2 : kd v = 3
  · have : 1 ≤ dp v := by unfold vOK at h; omega
    rw [if_pos (by rw [h2]), if_pos h2, pk_sub this]
  · rw [if_neg (fun z => h2 ((nI_eq (by omega) (by omega)).mp z)), if_neg h2]
theorem anyB_congr {p p' : Nat → Bool} {n : Nat} (h : ∀ i, i < n → p i = p' i) : anyB p n = anyB p' n := by
  cases hh : anyB p' n with
  | true =>
    obtain ⟨j, h1, h2⟩ := anyB_t.mp hh
    exact anyB_t.mpr ⟨j, h1, by rw [h j h1]; exact h2⟩
  | false => exact anyB_f.mpr fun j h1 => by rw [h j h1]; exact anyB_f.mp hh j h1
theorem ml_mm (hG : pG nv ne kd dp wk fr to) (c3 : cV σ nv kd dp wk) (c4 : cE σ nv ne fr to) (m3 : mV τ nv kd dp wk) (m4 : mE τ ne fr to) {a c : Nat} (ha : a < nv) (hc : c < nv) : mlB σ ne a c = mmB τ ne a c ∧ (mlB σ ne a c = true → gDo nv kd dp a = gDi nv kd dp c) := by
  obtain ⟨a0, a1, -⟩ := c3.1 a ha
  obtain ⟨b0, b1, -⟩ := c3.1 c hc
  obtain ⟨a0', a1', -⟩ := m3.1 a ha
  obtain ⟨b0', b1', -⟩ := m3.1 c hc
  have o1 := (hG.2.2.1 a ha).1
  have o2 := (hG.2.2.1 c hc).1
  have e1 : anyB (fun e => decide (σ (30 + 3 * e) 0 = nI a) && decide (σ (30 + 3 * e) 1 = nI c)) ne = anyB (fun i => decide (τ 73 i = nI a) && decide (τ 74 i = nI c)) ne := anyB_congr fun i hi => by
    rw [(c4.1 i hi).1, (c4.1 i hi).2, (m4.1 i hi).1, (m4.1 i hi).2]
  unfold mlB mdB mmB
  rw [a0, a1, b0, b1, a0', a1', b0', b1', in_nI hc o2, out_nI ha o1, e1]
  have d1 : gDi nv kd dp c ≤ 2 := by
    unfold gDi
    rw [if_pos hc]
    unfold vOK at o2
    split <;> omega
  have d2 : gDo nv kd dp a ≤ 2 := by
    unfold gDo
    rw [if_pos ha]
    unfold vOK at o1
    split <;> omega
  refine ⟨?_, fun h => ?_⟩
  · rw [show decide (nI (gDi nv kd dp c) = nI (gDo nv kd dp a)) = decide (nI (gDo nv kd dp a) = nI (gDi nv kd dp c)) from by
      rw [Bool.eq_iff_iff, decide_eq_true_iff, decide_eq_true_iff]
      exact ⟨Eq.symm, Eq.symm⟩]
  · rw [Bool.and_eq_true, Bool.and_eq_true, decide_eq_true_iff] at h
    exact ((nI_eq (by omega) (by omega)).mp h.1.2).symm
theorem k_edge (x y : Int32) (h : Sim σ) : cmpS Sim xs 2 60 [.int x, .int y] σ := by
  obtain ⟨b, nv, ne, kd, dp, wk, fr, to, cn, vl, me, mt, ee, op, tt, rc, re, rt, rs, q, qg, qe, qt, qs, dl, fi, se, ⟨hG, c1, m1⟩, ⟨c2, m2⟩, ⟨c3, m3⟩, ⟨c4, m4⟩, ⟨hM, c5, m5⟩, ⟨hI, c6, m6⟩, hR, c7, m7⟩ := id h
  have hn8 := hG.1
  have he12 := hG.2.1
  have hc := r_edge (xs := xs) c1.1 hn8 c1.2.1 he12 c1.2.2 x y
  have hEq : ∀ τ, mV τ nv kd dp wk → mE τ ne fr to → meB τ b nv ne x y = edB σ b nv ne x y := by
    intro τ h3 h4
    unfold meB edB
    cases b with
    | false => rfl
    | true =>
      cases hx : inB x nv with
      | false => rfl
      | true =>
        cases hy : inB y nv with
        | false => rfl
        | true =>
          obtain ⟨a, ha, rfl⟩ := inB_ex (by omega) hx
          obtain ⟨c, hcn, rfl⟩ := inB_ex (by omega) hy
          rw [nI_clamp (by omega), nI_clamp (by omega), (ml_mm hG c3 c4 h3 h4 ha hcn).1]
  by_cases hv : edB σ b nv ne x y = true ∧ ne < 12
  · rw [if_pos hv] at hc
    obtain ⟨hed, hv12⟩ := id hv
    have hed2 := hed
    unfold edB at hed2
    rw [Bool.and_eq_true, Bool.and_eq_true, Bool.and_eq_true] at hed2
    obtain ⟨hb, hx, hy, hml⟩ := hed2
    obtain ⟨a, ha, rfl⟩ := inB_ex (by omega) hx
    obtain ⟨c, hcn, rfl⟩ := inB_ex (by omega) hy
    rw [nI_clamp (by omega), nI_clamp (by omega)] at hc hml
    have hdd := (ml_mm hG c3 c4 m3 m4 ha hcn).2 hml
    have a_c : ∀ d, d ≠ 2 → d ≠ 30 + 3 * ne → d ≠ 6 + 3 * a → aeF σ ne a c d = σ d := fun d h1 h2 h3 => by
      unfold aeF
      rw [u2_row h1, u2_row h3, u2_row h2, u2_row h2]
    have hm0 : ∀ d, 66 ≤ d → aeF σ ne a c d = σ d := fun d hd => a_c d (by omega) (by omega) (by omega)
    have m1' : mS (aeF σ ne a c) b nv ne := m1.of (by rw [hm0 _ (by omega)]) (by rw [hm0 _ (by omega)]) (by rw [hm0 _ (by omega)])
    have m3' : mV (aeF σ ne a c) nv kd dp wk := m3.of (hm0 _ (by omega)) (hm0 _ (by omega)) (hm0 _ (by omega)) (fun v _ _ => by rw [hm0 70 (by omega), hm0 72 (by omega)]; exact ⟨rfl, rfl⟩)
    have m4' : mE (aeF σ ne a c) ne fr to := m4.of (hm0 _ (by omega)) (hm0 _ (by omega)) (fun e _ _ => by rw [hm0 _ (by omega)])
    have hm := m_edge (xs := xs) m1'.1 hn8 m1'.2.1 he12 m1'.2.2 (nI a) (nI c)
    rw [hEq _ m3' m4', if_pos hv, nI_clamp (by omega), nI_clamp (by omega)] at hm
    refine cmp_ev hc hm ?_
    have hr : ∀ d, d < 66 → d ≠ 2 → d ≠ 30 + 3 * ne → d ≠ 6 + 3 * a → meF (aeF σ ne a c) ne a c d = σ d := fun d h0 h1 h2 h3 => by
      unfold meF
      rw [u2_row (by omega), u2_row (by omega), u2_row (by omega), a_c d h1 h2 h3]
    have hr2 : ∀ d, 66 < d → d ≠ 73 → d ≠ 74 → meF (aeF σ ne a c) ne a c d = σ d := fun d h0 h1 h2 => by
      unfold meF
      rw [u2_row (by omega), u2_row h2, u2_row h1, hm0 d (by omega)]
    have f66 : ∀ k, k ≠ 8 → meF (aeF σ ne a c) ne a c 66 k = σ 66 k := fun k hk => by
      unfold meF
      rw [u2_k hk, u2_c (by omega), u2_c (by omega), hm0 66 (by omega)]
    have f668 : meF (aeF σ ne a c) ne a c 66 8 = nI (ne + 1) := u2_same _ _ _ _
    have f73 : ∀ e, e ≠ ne → meF (aeF σ ne a c) ne a c 73 e = σ 73 e := fun e hk => by
      unfold meF
      rw [u2_c (by omega), u2_c (by omega), u2_k hk, hm0 73 (by omega)]
    have f74 : ∀ e, e ≠ ne → meF (aeF σ ne a c) ne a c 74 e = σ 74 e := fun e hk => by
      unfold meF
      rw [u2_c (by omega), u2_k hk, u2_c (by omega), hm0 74 (by omega)]
    have f73' : meF (aeF σ ne a c) ne a c 73 ne = nI a := by
      unfold meF
      rw [u2_c (by omega), u2_c (by omega), u2_same]
    have f74' : meF (aeF σ ne a c) ne a c 74 ne = nI c := by
      unfold meF
      rw [u2_c (by omega), u2_same]
    have f2 : ∀ k, k ≠ 3 → meF (aeF σ ne a c) ne a c 2 k = σ 2 k := fun k hk => by
      unfold meF aeF
      rw [u2_c (by omega), u2_c (by omega), u2_c (by omega), u2_k hk, u2_c (by omega), u2_c (by omega), u2_c (by omega)]
    have f23 : meF (aeF σ ne a c) ne a c 2 3 = nI (ne + 1) := by
      unfold meF aeF
      rw [u2_c (by omega), u2_c (by omega), u2_c (by omega), u2_same]
    have fe0 : meF (aeF σ ne a c) ne a c (30 + 3 * ne) 0 = nI a := by
      unfold meF aeF
      rw [u2_c (by omega), u2_c (by omega), u2_c (by omega), u2_c (by omega), u2_c (by omega), u2_k (by omega), u2_same]
    have fe1 : meF (aeF σ ne a c) ne a c (30 + 3 * ne) 1 = nI c := by
      unfold meF aeF
      rw [u2_c (by omega), u2_c (by omega), u2_c (by omega), u2_c (by omega), u2_c (by omega), u2_same]
    have fe2 : meF (aeF σ ne a c) ne a c (30 + 3 * ne) 2 = σ (30 + 3 * ne) 2 := by
      unfold meF aeF
      rw [u2_c (by omega), u2_c (by omega), u2_c (by omega), u2_c (by omega), u2_c (by omega), u2_k (by omega), u2_k (by omega)]
    have fa : ∀ k, k ≠ 5 → meF (aeF σ ne a c) ne a c (6 + 3 * a) k = σ (6 + 3 * a) k := fun k hk => by
      unfold meF aeF
      rw [u2_c (by omega), u2_c (by omega), u2_c (by omega), u2_c (by omega), u2_k hk, u2_c (by omega), u2_c (by omega)]
    have fa5 : meF (aeF σ ne a c) ne a c (6 + 3 * a) 5 = σ (6 + 3 * a) 5 ||| (nI 1 <<< (nI ne &&& 31)) := by
      unfold meF aeF
      rw [u2_c (by omega), u2_c (by omega), u2_c (by omega), u2_c (by omega), u2_same]
    generalize meF (aeF σ ne a c) ne a c = ρ at *
    have fV : ∀ v, v < 8 → ∀ k, k ≠ 5 → ρ (6 + 3 * v) k = σ (6 + 3 * v) k := fun v hv k hk => by
      by_cases hva : v = a
      · subst hva
        exact fa k hk
      · rw [hr _ (by omega) (by omega) (by omega) (by omega)]
    have fE : ∀ e, e < 12 → e ≠ ne → ρ (30 + 3 * e) = σ (30 + 3 * e) := fun e he hk => hr _ (by omega) (by omega) (by omega) (by omega)
    refine ⟨b, nv, ne + 1, kd, dp, wk, up fr ne a, up to ne c, up cn ne 0, vl, me, mt, ee, op, tt, rc, re, rt, rs, q, qg, qe, qt, qs, dl, fi, se, ⟨⟨hn8, hv12, hG.2.2.1, fun e he => ?_⟩, ⟨by rw [f2 2 (by omega)]; exact c1.1, f23, by rw [hr 1 (by omega) (by omega) (by omega) (by omega)]; exact c1.2.2⟩, ⟨by rw [f66 1 (by omega)]; exact m1.1, f668, by rw [f66 0 (by omega)]; exact m1.2.2⟩⟩, ⟨c2.of (by rw [hr 1 (by omega) (by omega) (by omega) (by omega)]) (by rw [hr 1 (by omega) (by omega) (by omega) (by omega)]) (by rw [hr 1 (by omega) (by omega) (by omega) (by omega)]), m2.of (f66 _ (by omega)) (f66 _ (by omega)) (f66 _ (by omega))⟩, ⟨c3.of hn8 (fun v hv k hk => fV v (by omega) k (by omega)) (fun v h1 h2 => hr _ (by omega) (by omega) (by omega) (by omega)), m3.of (hr2 _ (by omega) (by omega) (by omega)) (hr2 _ (by omega) (by omega) (by omega)) (hr2 _ (by omega) (by omega) (by omega)) (fun v _ _ => by rw [hr2 70 (by omega) (by omega) (by omega), hr2 72 (by omega) (by omega) (by omega)]; exact ⟨rfl, rfl⟩)⟩, ⟨⟨fun e he => ?_, fun v hv e he => ?_, fun e h1 h2 => ?_⟩, ⟨fun e he => ?_, fun e h1 h2 => ?_⟩⟩, ⟨fun e he => ?_, fun e he => ?_, fun e he => ?_⟩, ⟨hI, c6.of (fun v hv => ⟨fV v (by omega) _ (by omega), fV v (by omega) _ (by omega), fV v (by omega) _ (by omega)⟩), m6.of (hr2 _ (by omega) (by omega) (by omega)) (hr2 _ (by omega) (by omega) (by omega)) (hr2 _ (by omega) (by omega) (by omega))⟩, hR, c7.of (fun v hv => ⟨fV v (by omega) _ (by omega), hr _ (by omega) (by omega) (by omega) (by omega), hr _ (by omega) (by omega) (by omega) (by omega)⟩), m7.of (f66 _ (by omega)) (hr2 _ (by omega) (by omega) (by omega)) (hr2 _ (by omega) (by omega) (by omega)) (hr2 _ (by omega) (by omega) (by omega))⟩
    · by_cases hen : e = ne
      · subst hen
        rw [up_s, up_s]
        exact ⟨ha, hcn, hdd⟩
      · rw [up_n hen, up_n hen]
        exact hG.2.2.2 e (by omega)
    · by_cases hen : e = ne
      · subst hen
        rw [up_s, up_s]
        exact ⟨fe0, fe1⟩
      · rw [up_n hen, up_n hen, fE e (by omega) hen]
        exact c4.1 e (by omega)
    · have hold := c4.2.1 v hv e he
      by_cases hva : v = a
      · subst hva
        rw [fa5, tB_or, tB_1 (by omega), hold]
        by_cases hen : e = ne
        · subst hen
          rw [up_s, decide_eq_true (rfl : e = e), decide_eq_true (show e < e + 1 by omega), decide_eq_true (rfl : v = v), Bool.or_true]
          rfl
        · rw [up_n hen, decide_eq_false hen, Bool.or_false]
          rw [show decide (e < ne + 1) = decide (e < ne) from by rw [Bool.eq_iff_iff, decide_eq_true_iff, decide_eq_true_iff]; omega]
      · rw [hr _ (by omega) (by omega) (by omega) (by omega), hold]
        by_cases hen : e = ne
        · subst hen
          rw [up_s, decide_eq_false (show ¬ e < e from Nat.lt_irrefl _), Bool.false_and, decide_eq_false (show ¬ a = v from fun z => hva z.symm), Bool.and_false]
        · rw [up_n hen]
          rw [show decide (e < ne + 1) = decide (e < ne) from by rw [Bool.eq_iff_iff, decide_eq_true_iff, decide_eq_true_iff]; omega]
    · rw [fE e h2 (by omega)]
      exact c4.2.2 e (by omega) h2
    · by_cases hen : e = ne
      · subst hen
        rw [up_s, up_s]
        exact ⟨f73', f74'⟩
      · rw [up_n hen, up_n hen, f73 e hen, f74 e hen]
        exact m4.1 e (by omega)
    · rw [hr2 75 (by omega) (by omega) (by omega)]
      exact m4.2 e (by omega) h2
    · by_cases hen : e = ne
      · subst hen
        rw [up_s]
        exact ⟨by omega, fun k hk => absurd hk (Nat.not_lt_zero k)⟩
      · rw [up_n hen, up_n hen]
        exact hM e (by omega)
    · by_cases hen : e = ne
      · subst hen
        rw [up_s, fe2]
        exact ⟨c4.2.2 e (Nat.le_refl _) hv12, fun k hk => absurd hk (Nat.not_lt_zero k)⟩
      · rw [up_n hen, fE e (by omega) hen, hr (31 + 3 * e) (by omega) (by omega) (by omega) (by omega), hr (32 + 3 * e) (by omega) (by omega) (by omega) (by omega)]
        exact c5 e (by omega)
    · rw [hr2 75 (by omega) (by omega) (by omega), hr2 76 (by omega) (by omega) (by omega), hr2 77 (by omega) (by omega) (by omega)]
      by_cases hen : e = ne
      · subst hen
        rw [up_s]
        exact ⟨m4.2 e (Nat.le_refl _) hv12, fun k hk => absurd hk (Nat.not_lt_zero k)⟩
      · rw [up_n hen]
        exact m5 e (by omega)
  · rw [if_neg hv] at hc
    have hm := m_edge (xs := xs) m1.1 hn8 m1.2.1 he12 m1.2.2 x y
    rw [hEq _ m3 m4, if_neg hv] at hm
    exact cmp_ev hc hm h
theorem k_start (h : Sim σ) : cmpS Sim xs 3 62 [] σ := by
  obtain ⟨b, nv, ne, kd, dp, wk, fr, to, cn, vl, me, mt, ee, op, tt, rc, re, rt, rs, q, qg, qe, qt, qs, dl, fi, se, ⟨hG, c1, m1⟩, ⟨c2, m2⟩, ⟨c3, m3⟩, ⟨c4, m4⟩, ⟨hM, c5, m5⟩, ⟨hI, c6, m6⟩, hR, c7, m7⟩ := id h
  have hn8 := hG.1
  have he12 := hG.2.1
  have hkd : ∀ v, v < nv → kd v ≤ 4 := fun v hv => by
    have := (hG.2.2.1 v hv).1
    unfold vOK at this
    omega
  have hK : ∀ v, v < nv → (nI (kd v) = nI 4 ↔ (!(decide (kd v = 4))) = false) := fun v hv => by
    have := hkd v hv
    rw [nI_eq (by omega) (by omega)]
    cases hd : decide (kd v = 4) with
    | true => exact ⟨fun _ => rfl, fun _ => of_decide_eq_true hd⟩
    | false => exact ⟨fun z => absurd z (of_decide_eq_false hd), (fun z => by cases z)⟩
  have hc := r_start (xs := xs) c1.1 hn8 c1.2.1 he12 c1.2.2
  have hring := iw_ring (σ := σ) (fr := fr) (to := to) (K := fun v => !(decide (kd v = 4))) hn8 (fun e he => ⟨(c4.1 e he).1, (c4.1 e he).2, (hG.2.2.2 e he).1, (hG.2.2.2 e he).2.1⟩) (fun v hv => by rw [(c3.1 v hv).1]; exact hK v hv)
  have hst : ∀ τ, mS τ b nv ne → mV τ nv kd dp wk → mE τ ne fr to → _ := fun τ h1 h3 h4 => m_start (xs := xs) (σ := τ) (fr := fr) (to := to) (K := fun v => !(decide (kd v = 4))) h1.1 hn8 h1.2.1 he12 h1.2.2 (fun e he => ⟨(h4.1 e he).1, (h4.1 e he).2, (hG.2.2.2 e he).1, (hG.2.2.2 e he).2.1⟩) (fun v hv => by rw [(h3.1 v hv).1]; exact hK v hv)
  by_cases hr : rgR nv ne fr to (fun v => !(decide (kd v = 4)))
  · have hw : ¬ iwR σ ne (iwL σ nv) 8 = 0 := fun z => hring.mp z hr
    have hp := pB_t hr
    have hm := hst σ m1 m3 m4
    rw [if_neg (show ¬ (b = true ∧ iwR σ ne (iwL σ nv) 8 = 0) from fun z => hw z.2), if_neg hw] at hc
    rw [hp] at hm
    rw [if_neg (show ¬ (b = true ∧ true = false) from fun z => by cases z.2), if_neg (show ¬ (true = false) by decide)] at hm
    exact cmp_ev hc hm h
  · have hw := hring.mpr hr
    have hp := pB_f hr
    cases b with
    | false =>
      have hm := hst σ m1 m3 m4
      exact cmp_ev hc hm h
    | true =>
      rw [if_pos rfl, if_pos hw, if_pos ⟨rfl, hw⟩] at hc
      have hm0 : ∀ d, d ≠ 1 → u2 σ 1 1 (nI 0) d = σ d := fun d hd => u2_row hd
      have hm := hst (u2 σ 1 1 (nI 0)) (m1.of (by rw [hm0 _ (by omega)]) (by rw [hm0 _ (by omega)]) (by rw [hm0 _ (by omega)])) (m3.of (hm0 _ (by omega)) (hm0 _ (by omega)) (hm0 _ (by omega)) (fun v _ _ => by rw [hm0 70 (by omega), hm0 72 (by omega)]; exact ⟨rfl, rfl⟩)) (m4.of (hm0 _ (by omega)) (hm0 _ (by omega)) (fun e _ _ => by rw [hm0 _ (by omega)]))
      rw [hp, if_pos rfl, if_pos rfl, if_pos ⟨rfl, rfl⟩] at hm
      refine cmp_ev hc hm ?_
      have hr1 : ∀ d, d ≠ 1 → d ≠ 66 → u2 (u2 σ 1 1 (nI 0)) 66 0 (nI 1) d = σ d := fun d h1 h2 => by rw [u2_row h2, u2_row h1]
      have f1 : ∀ k, k ≠ 1 → u2 (u2 σ 1 1 (nI 0)) 66 0 (nI 1) 1 k = σ 1 k := fun k hk => by rw [u2_c (by omega), u2_k hk]
      have f11 : u2 (u2 σ 1 1 (nI 0)) 66 0 (nI 1) 1 1 = nI 0 := by rw [u2_c (by omega), u2_same]
      have f66 : ∀ k, k ≠ 0 → u2 (u2 σ 1 1 (nI 0)) 66 0 (nI 1) 66 k = σ 66 k := fun k hk => by rw [u2_k hk, u2_c (by omega)]
      have f660 : u2 (u2 σ 1 1 (nI 0)) 66 0 (nI 1) 66 0 = nI 1 := u2_same _ _ _ _
      generalize u2 (u2 σ 1 1 (nI 0)) 66 0 (nI 1) = ρ at *
      refine ⟨false, nv, ne, kd, dp, wk, fr, to, cn, vl, me, mt, ee, op, tt, rc, re, rt, rs, q, qg, qe, qt, qs, dl, fi, se, ⟨hG, ⟨by rw [hr1 2 (by omega) (by omega)]; exact c1.1, by rw [hr1 2 (by omega) (by omega)]; exact c1.2.1, f11⟩, ⟨by rw [f66 1 (by omega)]; exact m1.1, by rw [f66 8 (by omega)]; exact m1.2.1, f660⟩⟩, ⟨c2.of (f1 _ (by omega)) (f1 _ (by omega)) (f1 _ (by omega)), m2.of (f66 _ (by omega)) (f66 _ (by omega)) (f66 _ (by omega))⟩, ⟨c3.of hn8 (fun v hv k _ => by rw [hr1 _ (by omega) (by omega)]) (fun v _ hv => hr1 _ (by omega) (by omega)), m3.of (hr1 _ (by omega) (by omega)) (hr1 _ (by omega) (by omega)) (hr1 _ (by omega) (by omega)) (fun v _ _ => by rw [hr1 70 (by omega) (by omega), hr1 72 (by omega) (by omega)]; exact ⟨rfl, rfl⟩)⟩, ⟨c4.of he12 (fun e he => by rw [hr1 _ (by omega) (by omega)]; exact ⟨rfl, rfl⟩) (fun v hv => by rw [hr1 _ (by omega) (by omega)]) (fun e _ he => by rw [hr1 _ (by omega) (by omega)]), m4.of (hr1 _ (by omega) (by omega)) (hr1 _ (by omega) (by omega)) (fun e _ _ => by rw [hr1 75 (by omega) (by omega)])⟩, ⟨hM, c5.of (fun e he => ⟨by rw [hr1 _ (by omega) (by omega)], hr1 _ (by omega) (by omega), hr1 _ (by omega) (by omega)⟩), m5.of (hr1 _ (by omega) (by omega)) (hr1 _ (by omega) (by omega)) (hr1 _ (by omega) (by omega))⟩, ⟨hI, c6.of (fun v hv => by rw [hr1 _ (by omega) (by omega)]; exact ⟨rfl, rfl, rfl⟩), m6.of (hr1 _ (by omega) (by omega)) (hr1 _ (by omega) (by omega)) (hr1 _ (by omega) (by omega))⟩, hR, c7.of (fun v hv => ⟨by rw [hr1 _ (by omega) (by omega)], hr1 _ (by omega) (by omega), hr1 _ (by omega) (by omega)⟩), m7.of (f66 _ (by omega)) (hr1 _ (by omega) (by omega)) (hr1 _ (by omega) (by omega)) (hr1 _ (by omega) (by omega))⟩
end SIM
