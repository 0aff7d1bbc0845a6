/-! What is ahead: both count the same. Frames. -/
section SIM
variable {xs : List Int32} {σ τ : wd_S} {b : Bool} {nv ne : Nat} {kd dp wk fr to cn : Nat → Nat} {vl : Nat → Nat → Int32} {me : Nat → Nat → Nat} {mt : Nat → Nat → Nat × Nat} {ee : Nat → Nat} {op : Nat → Bool} {tt : Nat → Int32} {rc : Nat → Nat} {re : Nat → Nat → Nat} {rt : Nat → Nat → Nat × Nat} {rs : Nat → Nat → Int32} {q : Nat} {qg qe : Nat → Nat} {qt : Nat → Nat × Nat} {qs : Nat → Int32} {dl fi se : Int32}
theorem cS.of (h : cS σ b nv ne) (h1 : τ 2 = σ 2) (h2 : τ 1 1 = σ 1 1) : cS τ b nv ne := by
  unfold cS
  rw [h1, h2]
  exact h
theorem mS.of (h : mS σ b nv ne) (h0 : τ 66 0 = σ 66 0) (h1 : τ 66 1 = σ 66 1) (h2 : τ 66 8 = σ 66 8) : mS τ b nv ne := by
  unfold mS
  rw [h0, h1, h2]
  exact h
theorem cC.of (h : cC σ dl fi se) (h1 : τ 1 2 = σ 1 2) (h2 : τ 1 3 = σ 1 3) (h3 : τ 1 4 = σ 1 4) : cC τ dl fi se := by
  unfold cC
  rw [h1, h2, h3]
  exact h
theorem mC.of (h : mC σ dl fi se) (h1 : τ 66 18 = σ 66 18) (h2 : τ 66 19 = σ 66 19) (h3 : τ 66 20 = σ 66 20) : mC τ dl fi se := by
  unfold mC
  rw [h1, h2, h3]
  exact h
theorem cV.of (h : cV σ nv kd dp wk) (hn : nv ≤ 8) (h1 : ∀ v, v < nv → ∀ k, k ≤ 4 → τ (6 + 3 * v) k = σ (6 + 3 * v) k) (h2 : ∀ v, nv ≤ v → v < 8 → τ (6 + 3 * v) = σ (6 + 3 * v)) : cV τ nv kd dp wk := by
  refine ⟨fun v hv => ?_, fun v a c => ?_⟩
  · rw [h1 v hv 0 (by omega), h1 v hv 1 (by omega), h1 v hv 2 (by omega), h1 v hv 3 (by omega), h1 v hv 4 (by omega)]
    exact h.1 v hv
  · rw [h2 v a c]
    exact h.2 v a c
theorem mV.of (h : mV σ nv kd dp wk) (h1 : τ 67 = σ 67) (h2 : τ 68 = σ 68) (h3 : τ 69 = σ 69) (h4 : ∀ v, nv ≤ v → v < 8 → τ 70 v = σ 70 v ∧ τ 72 v = σ 72 v) : mV τ nv kd dp wk := by
  refine ⟨fun v hv => ?_, fun v a c => ?_⟩
  · rw [h1, h2, h3]
    exact h.1 v hv
  · rw [h1, (h4 v a c).1, (h4 v a c).2]
    exact h.2 v a c
theorem cE.of (h : cE σ nv ne fr to) (hn : ne ≤ 12) (h1 : ∀ e, e < 12 → τ (30 + 3 * e) 0 = σ (30 + 3 * e) 0 ∧ τ (30 + 3 * e) 1 = σ (30 + 3 * e) 1) (h2 : ∀ v, v < nv → τ (6 + 3 * v) 5 = σ (6 + 3 * v) 5) (h3 : ∀ e, ne ≤ e → e < 12 → τ (30 + 3 * e) 2 = σ (30 + 3 * e) 2) : cE τ nv ne fr to := by
  refine ⟨fun e he => ?_, fun v hv => ?_, fun e a c => ?_⟩
  · rw [(h1 e (by omega)).1, (h1 e (by omega)).2]
    exact h.1 e he
  · rw [h2 v hv]
    exact h.2.1 v hv
  · rw [h3 e a c]
    exact h.2.2 e a c
theorem mE.of (h : mE σ ne fr to) (h1 : τ 73 = σ 73) (h2 : τ 74 = σ 74) (h3 : ∀ e, ne ≤ e → e < 12 → τ 75 e = σ 75 e) : mE τ ne fr to := by
  refine ⟨by rw [h1, h2]; exact h.1, fun e a c => ?_⟩
  rw [h3 e a c]
  exact h.2 e a c
theorem cM.of (h : cM σ ne cn vl me mt) (h1 : ∀ e, e < ne → τ (30 + 3 * e) 2 = σ (30 + 3 * e) 2 ∧ τ (31 + 3 * e) = σ (31 + 3 * e) ∧ τ (32 + 3 * e) = σ (32 + 3 * e)) : cM τ ne cn vl me mt := by
  intro e he
  obtain ⟨a, c, d⟩ := h1 e he
  rw [a, c, d]
  exact h e he
theorem mM.of (h : mM σ ne cn vl me mt) (h1 : τ 75 = σ 75) (h2 : τ 76 = σ 76) (h3 : τ 77 = σ 77) : mM τ ne cn vl me mt := by
  unfold mM
  rw [h1, h2, h3]
  exact h
theorem cI.of (h : cI σ nv ee op tt) (h1 : ∀ v, v < nv → τ (6 + 3 * v) 6 = σ (6 + 3 * v) 6 ∧ τ (6 + 3 * v) 7 = σ (6 + 3 * v) 7 ∧ τ (6 + 3 * v) 8 = σ (6 + 3 * v) 8) : cI τ nv ee op tt := by
  intro v hv
  obtain ⟨a, c, d⟩ := h1 v hv
  rw [a, c, d]
  exact h v hv
theorem mI.of (h : mI σ nv ee op tt) (h1 : τ 70 = σ 70) (h2 : τ 71 = σ 71) (h3 : τ 72 = σ 72) : mI τ nv ee op tt := by
  unfold mI
  rw [h1, h2, h3]
  exact h
theorem cR.of (h : cR σ nv rc re rt rs) (h1 : ∀ v, v < nv → τ (6 + 3 * v) 9 = σ (6 + 3 * v) 9 ∧ τ (7 + 3 * v) = σ (7 + 3 * v) ∧ τ (8 + 3 * v) = σ (8 + 3 * v)) : cR τ nv rc re rt rs := by
  intro v hv
  obtain ⟨a, c, d⟩ := h1 v hv
  rw [a, c, d]
  exact h v hv
theorem mQ.of (h : mQ σ q qg qe qt qs) (h0 : τ 66 14 = σ 66 14) (h1 : τ 78 = σ 78) (h2 : τ 79 = σ 79) (h3 : τ 80 = σ 80) : mQ τ q qg qe qt qs := by
  unfold mQ mrO
  rw [h0, h1, h2, h3]
  exact h
/-- what lies outside of the relation -/
theorem Sim.of (h : Sim σ) (h1 : ∀ d, d ≠ 5 → d ≠ 66 → d ≠ 81 → d ≠ 82 → d ≠ 83 → τ d = σ d) (h2 : ∀ k, k ≠ 21 → k ≠ 22 → k ≠ 23 → τ 66 k = σ 66 k) : Sim τ := by
  obtain ⟨b, nv, ne, kd, dp, wk, fr, to, cn, vl, me, mt, ee, op, tt, rc, re, rt, rs, q, qg, qe, qt, qs, dl, fi, se, ⟨hG, c1, m1⟩, ⟨c2, m2⟩, ⟨c3, m3⟩, ⟨c4, m4⟩, ⟨hM, c5, m5⟩, ⟨hI, c6, m6⟩, hR, c7, m7⟩ := h
  have hn8 := hG.1
  have he12 := hG.2.1
  have hd : ∀ d, 66 < d → d < 81 → τ d = σ d := fun d a c => h1 d (by omega) (by omega) (by omega) (by omega) (by omega)
  have hc : ∀ d, d < 66 → d ≠ 5 → τ d = σ d := fun d a c => h1 d (by omega) (by omega) (by omega) (by omega) (by omega)
  refine ⟨b, nv, ne, kd, dp, wk, fr, to, cn, vl, me, mt, ee, op, tt, rc, re, rt, rs, q, qg, qe, qt, qs, dl, fi, se, ⟨hG, c1.of (hc 2 (by omega) (by omega)) (by rw [hc 1 (by omega) (by omega)]), m1.of (h2 _ (by omega) (by omega) (by omega)) (h2 _ (by omega) (by omega) (by omega)) (h2 _ (by omega) (by omega) (by omega))⟩, ⟨c2.of (by rw [hc 1 (by omega) (by omega)]) (by rw [hc 1 (by omega) (by omega)]) (by rw [hc 1 (by omega) (by omega)]), m2.of (h2 _ (by omega) (by omega) (by omega)) (h2 _ (by omega) (by omega) (by omega)) (h2 _ (by omega) (by omega) (by omega))⟩, ⟨c3.of hn8 (fun v hv k _ => by rw [hc _ (by omega) (by omega)]) (fun v _ hv => hc _ (by omega) (by omega)), m3.of (hd _ (by omega) (by omega)) (hd _ (by omega) (by omega)) (hd _ (by omega) (by omega)) (fun v _ _ => by rw [hd 70 (by omega) (by omega), hd 72 (by omega) (by omega)]; exact ⟨rfl, rfl⟩)⟩, ⟨c4.of he12 (fun e he => by rw [hc _ (by omega) (by omega)]; exact ⟨rfl, rfl⟩) (fun v hv => by rw [hc _ (by omega) (by omega)]) (fun e _ he => by rw [hc _ (by omega) (by omega)]), m4.of (hd _ (by omega) (by omega)) (hd _ (by omega) (by omega)) (fun e _ _ => by rw [hd 75 (by omega) (by omega)])⟩, ⟨hM, c5.of (fun e he => ⟨by rw [hc _ (by omega) (by omega)], hc _ (by omega) (by omega), hc _ (by omega) (by omega)⟩), m5.of (hd _ (by omega) (by omega)) (hd _ (by omega) (by omega)) (hd _ (by omega) (by omega))⟩, ⟨hI, c6.of (fun v hv => by rw [hc _ (by omega) (by omega)]; exact ⟨rfl, rfl, rfl⟩), m6.of (hd _ (by omega) (by omega)) (hd _ (by omega) (by omega)) (hd _ (by omega) (by omega))⟩, hR, c7.of (fun v hv => ⟨by rw [hc _ (by omega) (by omega)], hc _ (by omega) (by omega), hc _ (by omega) (by omega)⟩), m7.of (h2 _ (by omega) (by omega) (by omega)) (hd _ (by omega) (by omega)) (hd _ (by omega) (by omega)) (hd _ (by omega) (by omega))⟩
theorem sumN_add {f g : Nat → Nat} (n : Nat) : sumN (fun i => f i + g i) n = sumN f n + sumN g n := by
  induction n with
  | zero => rfl
  | succ n ih =>
    show sumN (fun i => f i + g i) n + (f n + g n) = sumN f n + f n + (sumN g n + g n)
    omega
theorem sumN_cnt {p : Nat → Bool} (n : Nat) : sumN (fun i => if p i then 1 else 0) n = cnt p n := by
  induction n with
  | zero => rfl
  | succ n ih =>
    show sumN (fun i => if p i then 1 else 0) n + (if p n then 1 else 0) = cnt p n + (if p n then 1 else 0)
    rw [ih]
/-- AHEAD: both count the same -/
theorem ahead_eq {fr to cd : Nat → Nat} {nvt : Nat} {kt dt tot : Nat → Nat} (hM : pM nvt ne kt dt tot cn me mt) (c5 : cM σ ne cn vl me mt) (m5 : mM τ ne cn vl me mt) (hR : pR nv kd dp wk rc re rt rs q qg qe qt qs) {v s r : Nat} (hr : r < q) (g1 : qg r = v) (g2 : qe r = re v s) (g3 : qt r = rt v s) : caA σ nv ne fr to cd cn rc ee op me mt re rt v s = maA τ nv ne q fr to cd cn ee op me mt qg qe qt r := by
  unfold caA maA
  have e1 : sumN (caM σ ne fr to cd cn me mt v (re v s) (rt v s)) ne = sumN (fun e => cnt (maM τ ne fr to cd me mt (qg r) (qe r) (qt r) e) (cn e)) ne := by
    refine sumN_congr ne fun e he => ?_
    unfold caM
    refine cnt_congr _ fun k hk => ?_
    unfold maM
    rw [ifB_st he hM c5 m5 hk, g1, g2, g3]
  have e2 : sumN (caR ne fr to cd rc ee op re rt v (re v s) (rt v s)) nv = cnt (maR ne fr to cd qg qe qt r) q + cnt (maV ne fr to cd ee op (qg r) (qe r) (qt r)) nv := by
    have a : sumN (caR ne fr to cd rc ee op re rt v (re v s) (rt v s)) nv = sumN (fun u => cnt (fun k => raB ne fr to cd v (re v s) (rt v s) u (re u k) (rt u k)) (rc u)) nv + sumN (fun u => if (op u && pB (ee u ≤ re v s ∧ AH ne fr to cd u (0, 0) v (rt v s))) then 1 else 0) nv := sumN_add nv
    rw [a, sumN_cnt, ← pR_cnt hR (fun u e t => raB ne fr to cd v (re v s) (rt v s) u e t)]
    have b1 : cnt (fun k => raB ne fr to cd v (re v s) (rt v s) (qg k) (qe k) (qt k)) q = cnt (maR ne fr to cd qg qe qt r) q := by
      refine cnt_congr q fun k hk => ?_
      unfold raB maR
      rw [g1, g2, g3]
      congr 1
      congr 1
      by_cases hkr : k = r
      · subst hkr
        rw [decide_eq_true rfl, decide_eq_true g1, pB_t ⟨g2, g3⟩]
        rfl
      · rw [decide_eq_false hkr]
        by_cases hg : qg k = v
        · rw [decide_eq_true hg, pB_f fun z => hkr (hR.2.2.2 k r hk hr (by rw [hg, g1]) (by rw [z.1, g2]) (by rw [z.2, g3]))]
          rfl
        · rw [decide_eq_false hg]
          rfl
    rw [b1]
    unfold maV
    rw [g1, g2, g3]
  rw [e1, e2, Nat.add_assoc]
theorem k_ahead (x : Int32) (h : Sim σ) : cmpS Sim xs 10 90 [.int x] σ := by
  obtain ⟨b, nv, ne, kd, dp, wk, fr, to, cn, vl, me, mt, ee, op, tt, rc, re, rt, rs, q, qg, qe, qt, qs, dl, fi, se, ⟨hG, c1, m1⟩, ⟨c2, m2⟩, ⟨c3, m3⟩, ⟨c4, m4⟩, ⟨hM, c5, m5⟩, ⟨hI, c6, m6⟩, hR, c7, m7⟩ := id h
  have hq32 := pR_32 hR hG.1
  rcases num_ok hG.1 hR c7 m7 x with ⟨a, c⟩ | ⟨v, s, r, hs, hv, hsr, hr, hrq, g1, g2, g3, g4⟩
  · exact cmp_ev (r_ahead_bad c1.1 hG.1 x a) (m_ahead_bad m7.1 hq32 x c) h
  · refine am_Ev.mono (r_ahead (sim_aOK hG c1 c3 c4 hM c5 hI c6 hR c7) x hs hsr) ?_
    rintro _ _ ⟨rfl, τ, rfl, hτ⟩
    refine ⟨_, τ, rfl, rfl, ?_⟩
    have hm : ∀ d, 66 ≤ d → τ d = σ d := fun d hd => hτ d (by omega)
    have hmA := sim_mAO (σ := τ) hG (m1.of (by rw [hm _ (by omega)]) (by rw [hm _ (by omega)]) (by rw [hm _ (by omega)])) (m3.of (hm _ (by omega)) (hm _ (by omega)) (hm _ (by omega)) (fun v _ _ => by rw [hm 70 (by omega), hm 72 (by omega)]; exact ⟨rfl, rfl⟩)) (m4.of (hm _ (by omega)) (hm _ (by omega)) (fun e _ _ => by rw [hm _ (by omega)])) hM (m5.of (hm _ (by omega)) (hm _ (by omega)) (hm _ (by omega))) hI (m6.of (hm _ (by omega)) (hm _ (by omega)) (hm _ (by omega))) hR (m7.of (by rw [hm _ (by omega)]) (hm _ (by omega)) (hm _ (by omega)) (hm _ (by omega)))
    have hr' : nuF τ q x = some r := by
      have : nuF τ q x = nuF σ q x := by
        unfold nuF erB
        rw [hm 78 (by omega), hm 79 (by omega)]
      rw [this]
      exact hr
    refine am_Ev.mono (m_ahead hmA x hr') ?_
    rintro _ _ ⟨rfl, ρ, rfl, hρ⟩
    have hA : sumN (caM σ ne fr to (gCd nv kd dp) cn me mt v (re v s) (rt v s)) ne + sumN (caR ne fr to (gCd nv kd dp) rc ee op re rt v (re v s) (rt v s)) nv = maA τ nv ne q fr to (gCd nv kd dp) cn ee op me mt qg qe qt r := ahead_eq hM c5 (m5.of (hm _ (by omega)) (hm _ (by omega)) (hm _ (by omega))) hR hrq g1 g2 g3
    refine ⟨by rw [hA], ρ, rfl, ?_⟩
    exact h.of (fun d a1 a2 a3 a4 a5 => (hρ.1 d a2 a3 a4 a5).trans (hτ d a1)) (fun k a1 a2 a3 => (hρ.2 k a2 a3).trans (by rw [hm _ (by omega)]))
end SIM
