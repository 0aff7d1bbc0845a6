/-! A delivery that is gathered. -/
section SIM
variable {xs : List Int32} {σ τ : wd_S} {b : Bool} {nv ne : Nat} {kd dp wk fr to cn : Nat → Nat} {vl : Nat → Nat → Int32} {me : Nat → Nat → Nat} {mt : Nat → Nat → Nat × Nat} {ee : Nat → Nat} {op : Nat → Bool} {tt : Nat → Int32} {rc : Nat → Nat} {re : Nat → Nat → Nat} {rt : Nat → Nat → Nat × Nat} {rs : Nat → Nat → Int32} {q : Nat} {qg qe : Nat → Nat} {qt : Nat → Nat × Nat} {qs : Nat → Int32} {dl fi se : Int32}
theorem cnt_no (n : Nat) : cnt (fun _ : Nat => false) n = 0 := by
  induction n with
  | zero => rfl
  | succ n ih => rw [cnt_f rfl, ih]
theorem sa_no (B : wd_S) (y : Int32) (n : Nat) : saF B (fun _ => false) y cn n = B := by
  induction n with
  | zero => rfl
  | succ n ih =>
    show (if false = true then _ else _) = B
    rw [if_neg (by decide), ih]
theorem cnt_one {j : Nat} (n : Nat) : cnt (fun e => decide (e = j)) n = if j < n then 1 else 0 := by
  induction n with
  | zero => rw [if_neg (by omega)]; rfl
  | succ n ih =>
    by_cases hn : n = j
    · rw [cnt_t (decide_eq_true hn), ih, if_neg (by omega), if_pos (by omega)]
    · rw [cnt_f (decide_eq_false hn), ih]
      by_cases hj : j < n
      · rw [if_pos hj, if_pos (by omega)]
      · rw [if_neg hj, if_neg (by omega)]
theorem mgF_c {d : Nat} {v x : Int32} (h : d ≠ 66 ∧ d ≠ 78 ∧ d ≠ 79 ∧ d ≠ 80) : mgF σ q v x d = σ d := by
  unfold mgF
  cases fst1 (rmB σ v) q with
  | some r => exact u2_row (by omega)
  | none =>
    show u2 (mnF σ q v) 80 q (nI 0 + x) d = σ d
    unfold mnF
    rw [u2_row (by omega), u2_row (by omega), u2_row (by omega), u2_row (by omega), u2_row (by omega), u2_row (by omega), u2_row (by omega)]
theorem mgF_k {k : Nat} {v x : Int32} (h : k ≠ 14) : mgF σ q v x 66 k = σ 66 k := by
  unfold mgF
  cases fst1 (rmB σ v) q with
  | some r => exact u2_c (by omega)
  | none =>
    show u2 (mnF σ q v) 80 q (nI 0 + x) 66 k = σ 66 k
    unfold mnF
    rw [u2_c (by omega), u2_k h, u2_c (by omega), u2_c (by omega), u2_c (by omega), u2_c (by omega), u2_c (by omega)]
theorem ga_A {A : wd_S} {v r : Nat} {T X : Int32} (hn8 : nv ≤ 8) (he12 : ne ≤ 12) (hv : v < nv) (d1 : cS A b nv ne) (d2 : cC A dl fi se) (d3 : cV A nv kd dp wk) (d4 : cE A nv ne fr to) (d5 : cM A ne cn vl me mt) (d6 : cI A nv ee op tt) : cS (gaF A v r T X) b nv ne ∧ cC (gaF A v r T X) dl fi se ∧ cV (gaF A v r T X) nv kd dp wk ∧ cE (gaF A v r T X) nv ne fr to ∧ cM (gaF A v r T X) ne cn vl me mt ∧ cI (gaF A v r T X) nv ee op tt := by
  have g1 : ∀ d, d < 6 ∨ 30 ≤ d → gaF A v r T X d = A d := fun d hd => gaF_c (by omega)
  have g2 : ∀ u k, k ≠ 9 → gaF A v r T X (6 + 3 * u) k = A (6 + 3 * u) k := fun u k hk => by
    by_cases huv : u = v
    · rw [huv]; exact gaF_v hk
    · rw [gaF_c (by omega)]
  refine ⟨d1.of (g1 _ (by omega)) (by rw [g1 _ (by omega)]), d2.of (by rw [g1 _ (by omega)]) (by rw [g1 _ (by omega)]) (by rw [g1 _ (by omega)]), d3.of hn8 (fun u _ k hk => g2 u k (by omega)) (fun u h1 _ => gaF_c (by omega)), d4.of he12 (fun e he => by rw [g1 _ (by omega)]; exact ⟨rfl, rfl⟩) (fun u _ => g2 u 5 (by omega)) (fun e _ _ => by rw [g1 _ (by omega)]), d5.of (fun e he => by rw [g1 _ (by omega), g1 _ (by omega), g1 _ (by omega)]; exact ⟨rfl, rfl, rfl⟩), d6.of (fun u _ => ⟨g2 u 6 (by omega), g2 u 7 (by omega), g2 u 8 (by omega)⟩)⟩
theorem dv_gather {i c v : Nat} {X : Int32} {rc' : Nat → Nat} {re' : Nat → Nat → Nat} {rt' : Nat → Nat → Nat × Nat} {rs' : Nat → Nat → Int32} {q' : Nat} {qg' qe' : Nat → Nat} {qt' : Nat → Nat × Nat} {qs' : Nat → Int32} (hG : pG nv ne kd dp wk fr to) (c1 : cS σ false nv ne) (m1 : mS σ false nv ne) (c2 : cC σ dl fi se) (m2 : mC σ dl fi se) (c3 : cV σ nv kd dp wk) (m3 : mV σ nv kd dp wk) (c4 : cE σ nv ne fr to) (m4 : mE σ ne fr to) (hM : pM nv ne kd dp to cn me mt) (c5 : cM σ ne cn vl me mt) (m5 : mM σ ne cn vl me mt) (hI : pI nv kd ee op) (c6 : cI σ nv ee op tt) (m6 : mI σ nv ee op tt) (hR : pR nv kd dp wk rc re rt rs q qg qe qt qs) (c7 : cR σ nv rc re rt rs) (m7 : mQ σ q qg qe qt qs)
    (hi : i < ne) (hc : cn i = c + 1) (hvi : to i = v) (hv : v < nv) (hX : vl i 0 = X) (hk1 : kd v = 1) (hw1 : wk v = 1) (hT2 : (nI (tmE (me i 0) (mt i 0)) &&& σ (6 + 3 * v) 3) + σ (6 + 3 * v) 4 = nI (tmE (me i 0) (mt i 0))) (hlt : ltB σ i v = false) (hcg : cgB σ v (rc v) (nI (tmE (me i 0) (mt i 0))) = true)
    (hrs : ∀ ρ : wd_S, (∀ d, 66 ≤ d → ρ d = σ d) → rsR (t1F ρ i) v ne q X (nI i) = 0)
    (hR' : pR nv kd dp wk rc' re' rt' rs' q' qg' qe' qt' qs')
    (hcR : ∀ A : wd_S, A (7 + 3 * v) = σ (7 + 3 * v) → cR A nv rc re rt rs → cR (gaF A v (rc v) (nI (tmE (me i 0) (mt i 0))) X) nv rc' re' rt' rs')
    (hmQ : ∀ B : wd_S, mQ B q qg qe qt qs → B 66 21 = nI (me i 0) → B 66 22 = nI (mt i 0).1 → B 66 23 = nI (mt i 0).2 → mQ (mgF B q (nI v) X) q' qg' qe' qt' qs' ∧ (fst1 (rmB B (nI v)) q = none → q < 32)) : cmpS Sim xs 7 80 [.int (nI i)] σ := by
  have hn8 := hG.1
  have he12 := hG.2.1
  have h6 := (hM i hi).1
  obtain ⟨x0, xT⟩ := (c5 i hi).2 0 (by omega)
  rw [hX] at x0
  obtain ⟨y0, -⟩ := (m5 i hi).2 0 (by omega)
  rw [Nat.add_zero, hX] at y0
  have hW : σ (6 + 3 * v) 2 = nI 1 := by rw [(c3.1 v hv).2.2.1, if_pos hk1, hw1]
  have hM2 : tgF σ v X = nI 0 := by
    unfold tgF
    rw [hW, if_neg (by decide), if_neg (by decide)]
  have hX2 : pnF σ v X = X := by
    unfold pnF
    rw [hW, if_neg (fun z => absurd z.1 (by decide))]
  have hp : ∀ e, e < ne → biB (nI 0) e = (fun _ : Nat => false) e := fun e he => by rw [biB_t (by omega), tB_0]
  have hfu : anyB (fuB σ (nI 0) (nI i)) ne = false := by
    rw [any_fu c5 m5 (nI 0) (nI i) hp]
    exact anyB_f.mpr fun j _ => rfl
  have hcl := r_deliver (xs := xs) (r := rc v) c1.2.1 he12 c1.2.2 hi (by rw [(c5 i hi).1, hc]) (show c < 6 by omega) (by rw [(c4.1 i hi).2, hvi]) (show v < 8 by omega) (c7 v hv).1 (hR.1 v hv).1 (up cn i c) (fun j hj => ((df_cM c5 hc) j hj).1) (fun j hj hb _ => by rw [x0, hM2, hp j hj] at hb; cases hb)
  have hdv : dvB σ ne i v (rc v) = true := by
    unfold dvB
    rw [x0, hM2, hfu, xT, hcg]
    rfl
  have hdl : dlF σ i c v (rc v) = gaF (u2 (u2 (dfF σ i c) 1 2 (σ 1 2 + nI 1)) (6 + 3 * v) 6 (σ (6 + 3 * v) 6 + X)) v (rc v) (nI (tmE (me i 0) (mt i 0))) X := by
    unfold dlF
    rw [if_pos hW, x0, xT]
  rw [hlt, hdv, x0, xT, hM2, hX2, hT2, hdl, cnt_congr ne hp, cnt_no] at hcl
  have hf : ¬ (false = true) := by decide
  have htt : true = true := rfl
  rw [if_neg hf, if_neg hf, if_pos htt, if_pos htt] at hcl
  obtain ⟨d1, d2, d3, d4, d5, d6, d7⟩ := take_A (A := u2 (u2 (dfF σ i c) 1 2 (σ 1 2 + nI 1)) (6 + 3 * v) 6 (σ (6 + 3 * v) 6 + X)) hG hi hv hc c1 c2 c3 c4 c5 c6 c7 rfl
  have hA14 : u2 (u2 (dfF σ i c) 1 2 (σ 1 2 + nI 1)) (6 + 3 * v) 6 (σ (6 + 3 * v) 6 + X) 1 4 = σ 1 4 := by rw [u2_c (by omega), u2_k (by omega), dfF_c (by omega)]
  have hAm : ∀ d, 66 ≤ d → u2 (u2 (dfF σ i c) 1 2 (σ 1 2 + nI 1)) (6 + 3 * v) 6 (σ (6 + 3 * v) 6 + X) d = σ d := fun d hd => by rw [u2_row (by omega), u2_row (by omega), dfF_c (by omega)]
  have hA7 : u2 (u2 (dfF σ i c) 1 2 (σ 1 2 + nI 1)) (6 + 3 * v) 6 (σ (6 + 3 * v) 6 + X) (7 + 3 * v) = σ (7 + 3 * v) := by rw [u2_row (by omega), u2_row (by omega), dfF_c (by omega)]
  generalize u2 (u2 (dfF σ i c) 1 2 (σ 1 2 + nI 1)) (6 + 3 * v) 6 (σ (6 + 3 * v) 6 + X) = A0 at *
  have a7 := hcR A0 hA7 d7
  obtain ⟨a1, a2, a3, a4, a5, a6⟩ := ga_A (r := rc v) (T := nI (tmE (me i 0) (mt i 0))) (X := X) hn8 he12 hv d1 d2 d3 d4 d5 d6
  have hB14 : gaF A0 v (rc v) (nI (tmE (me i 0) (mt i 0))) X 1 4 = σ 1 4 := by rw [gaF_c (by omega), hA14]
  have hBm : ∀ d, 66 ≤ d → gaF A0 v (rc v) (nI (tmE (me i 0) (mt i 0))) X d = σ d := fun d hd => by rw [gaF_c (by omega), hAm d hd]
  generalize gaF A0 v (rc v) (nI (tmE (me i 0) (mt i 0))) X = A at *
  have w1 : ∀ d, d ≠ 1 → u2 (seF A (nI 0) X (nI (tmE (me i 0) (mt i 0))) (up cn i c) ne) 1 4 (σ 1 4 + nI 0) d = seF A (nI 0) X (nI (tmE (me i 0) (mt i 0))) (up cn i c) ne d := fun d hd => u2_row hd
  have w2 : ∀ k, k ≠ 4 → u2 (seF A (nI 0) X (nI (tmE (me i 0) (mt i 0))) (up cn i c) ne) 1 4 (σ 1 4 + nI 0) 1 k = A 1 k := fun k hk => by rw [u2_k hk, seF_c ne (by omega)]
  have w3 : u2 (seF A (nI 0) X (nI (tmE (me i 0) (mt i 0))) (up cn i c) ne) 1 4 (σ 1 4 + nI 0) 1 4 = σ 1 4 + nI 0 := u2_same _ _ _ _
  have hm : ∀ d, 66 ≤ d → u2 (seF A (nI 0) X (nI (tmE (me i 0) (mt i 0))) (up cn i c) ne) 1 4 (σ 1 4 + nI 0) d = σ d := fun d hd => by rw [u2_row (by omega), seF_c ne (by omega), hBm d hd]
  generalize u2 (seF A (nI 0) X (nI (tmE (me i 0) (mt i 0))) (up cn i c) ne) 1 4 (σ 1 4 + nI 0) = ρ at *
  have r1 : mS ρ false nv ne := m1.of (by rw [hm _ (by omega)]) (by rw [hm _ (by omega)]) (by rw [hm _ (by omega)])
  have r2 : mC ρ dl fi se := m2.of (by rw [hm _ (by omega)]) (by rw [hm _ (by omega)]) (by rw [hm _ (by omega)])
  have r3 : mV ρ nv kd dp wk := m3.of (hm _ (by omega)) (hm _ (by omega)) (hm _ (by omega)) (fun v _ _ => by rw [hm 70 (by omega), hm 72 (by omega)]; exact ⟨rfl, rfl⟩)
  have r4 : mE ρ ne fr to := m4.of (hm _ (by omega)) (hm _ (by omega)) (fun e _ _ => by rw [hm _ (by omega)])
  have r5 : mM ρ ne cn vl me mt := m5.of (hm _ (by omega)) (hm _ (by omega)) (hm _ (by omega))
  have r6 : mI ρ nv ee op tt := m6.of (hm _ (by omega)) (hm _ (by omega)) (hm _ (by omega))
  have r7 : mQ ρ q qg qe qt qs := m7.of (by rw [hm _ (by omega)]) (hm _ (by omega)) (hm _ (by omega)) (hm _ (by omega))
  obtain ⟨b1, b2, b3, b4, b5, b6, b7, b8, b9, b10, b11⟩ := take_B (X := X) (B := u2 (u2 (tkF (t1F ρ i) i c c (3 * c)) 66 18 (ρ 66 18 + nI 1)) 72 v (ρ 72 v + X)) hG hM hi hv hc r1 r2 r3 r4 r5 r6 r7 rfl
  have y1 : ρ 76 (6 * i) = X := by rw [hm 76 (by omega)]; exact y0
  obtain ⟨e7, e8⟩ := hmQ _ b7 b8 b9 b10
  have e1 := m_work_b (xs := xs) (show v < 8 by omega) b7.1 (pR_32 hR hn8) X (by rw [(b3.1 v hv).1, hk1]) (by rw [(b3.1 v hv).2.2, hw1]) e8
  have hmo := m_deliver (xs := xs) (σ := ρ) (q := q) (R := nI 0) (σ' := mgF (u2 (u2 (tkF (t1F ρ i) i c c (3 * c)) 66 18 (ρ 66 18 + nI 1)) 72 v (ρ 72 v + X)) q (nI v) X) r1.2.1 he12 r1.2.2 hi (by rw [(r5 i hi).1, hc]) (show c < 6 by omega) (by rw [(r4.1 i hi).2, hvi]) (show v < 8 by omega) r7.1 (pR_32 hR hn8) (fun z => by rw [y1] at z; exact absurd (hrs ρ hm) z) (fun _ => by rw [y1]; exact e1)
  refine cmp_ev hcl hmo ?_
  generalize u2 (u2 (tkF (t1F ρ i) i c c (3 * c)) 66 18 (ρ 66 18 + nI 1)) 72 v (ρ 72 v + X) = B at *
  have hc' : ∀ d, d ≠ 66 ∧ d ≠ 78 ∧ d ≠ 79 ∧ d ≠ 80 → mgF B q (nI v) X d = B d := fun d hd => mgF_c hd
  have hk' : ∀ k, k ≠ 14 → mgF B q (nI v) X 66 k = B 66 k := fun k hk => mgF_k hk
  generalize mgF B q (nI v) X = B' at *
  refine sim_send (A := A) (B := B') (m := nI 0) (x := X) (p := fun _ => false) (ep := me i 0) (t := mt i 0) hG a1 (b1.of (hk' _ (by omega)) (hk' _ (by omega)) (hk' _ (by omega))) a2 (b2.of (hk' _ (by omega)) (hk' _ (by omega)) (hk' _ (by omega))) a3 (b3.of (hc' _ (by omega)) (hc' _ (by omega)) (hc' _ (by omega)) (fun u _ _ => by rw [hc' 70 (by omega), hc' 72 (by omega)]; exact ⟨rfl, rfl⟩)) a4 (b4.of (hc' _ (by omega)) (hc' _ (by omega)) (fun e _ _ => by rw [hc' 75 (by omega)])) (dr_pM hM hi hc) a5 (b5.of (hc' _ (by omega)) (hc' _ (by omega)) (hc' _ (by omega))) hI a6 (b6.of (hc' _ (by omega)) (hc' _ (by omega)) (hc' _ (by omega))) hR' a7 e7 hp (fun _ _ z => absurd z hf) (fun _ _ z => absurd z hf) (fun z => ?_) (fun d h1 h2 => by rw [hc' d (by omega), b11 d h1, w1 d h2]) (fun k hk => by rw [hc' 1 (by omega), b11 1 (by omega), w2 k hk]) (by rw [hc' 1 (by omega), b11 1 (by omega), w3, hB14, cnt_no]) (fun d _ => by rw [sa_no])
  obtain ⟨e, -, z⟩ := z
  exact absurd z hf
end SIM
