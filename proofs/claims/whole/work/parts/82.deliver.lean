/-! Deliver. -/
section SIM
variable {xs : List Int32} {σ τ : wd_S} {b : Bool} {nv ne : Nat} {kd dp wk fr to cn : Nat → Nat} {vl : Nat → Nat → Int32} {me : Nat → Nat → Nat} {mt : Nat → Nat → Nat × Nat} {ee : Nat → Nat} {op : Nat → Bool} {tt : Nat → Int32} {rc : Nat → Nat} {re : Nat → Nat → Nat} {rt : Nat → Nat → Nat × Nat} {rs : Nat → Nat → Int32} {q : Nat} {qg qe : Nat → Nat} {qt : Nat → Nat × Nat} {qs : Nat → Int32} {dl fi se : Int32}
theorem fst1_cg {p p' : Nat → Bool} : ∀ n, (∀ i, i < n → p i = p' i) → fst1 p n = fst1 p' n := by
  intro n
  induction n with
  | zero => intro _; rfl
  | succ n ih =>
    intro h
    unfold fst1
    rw [ih fun i hi => h i (by omega), h n (by omega)]
theorem ld_cg {p p' : Nat → Bool} {m n : Nat} (h : ∀ i, i < n → p i = p' i) : ldF p m n = ldF p' m n := fst1_cg n fun i hi => by rw [h i hi, cnt_congr i fun k hk => h k (by omega)]
/-- a delivery that passes on, and gathers nothing -/
theorem dv_send {i c v : Nat} {X M X' : Int32} {p : Nat → Bool} {t' : Nat × Nat} {T : wd_S → wd_S} (hG : pG nv ne kd dp wk fr to) (c1 : cS σ false nv ne) (m1 : mS σ false nv ne) (c2 : cC σ dl fi se) (m2 : mC σ dl fi se) (c3 : cV σ nv kd dp wk) (m3 : mV σ nv kd dp wk) (c4 : cE σ nv ne fr to) (m4 : mE σ ne fr to) (hM : pM nv ne kd dp to cn me mt) (c5 : cM σ ne cn vl me mt) (m5 : mM σ ne cn vl me mt) (hI : pI nv kd ee op) (c6 : cI σ nv ee op tt) (m6 : mI σ nv ee op tt) (hR : pR nv kd dp wk rc re rt rs q qg qe qt qs) (c7 : cR σ nv rc re rt rs) (m7 : mQ σ q qg qe qt qs)
    (hi : i < ne) (hc : cn i = c + 1) (hvi : to i = v) (hv : v < nv) (hX : vl i 0 = X) (hp : ∀ e, e < ne → biB M e = p e) (hM2 : tgF σ v X = M) (hX2 : pnF σ v X = X') (hW : ¬ σ (6 + 3 * v) 2 = nI 1) (hT2 : (nI (tmE (me i 0) (mt i 0)) &&& σ (6 + 3 * v) 3) + σ (6 + 3 * v) 4 = nI (tmE (me i 0) t')) (hlt : ltB σ i v = false) (hfu : anyB (fuB σ M (nI i)) ne = false) (hto : ∀ e, e < ne → p e = true → tmOK (me i 0) t' ∧ bf_dp (gDi nv kd dp (to e)) t')
    (hrs : ∀ ρ : wd_S, (∀ d, 66 ≤ d → ρ d = σ d) → rsR (t1F ρ i) v ne q X (nI i) = 0)
    (hwk : ∀ B : wd_S, mS B false nv ne → mV B nv kd dp wk → mE B ne fr to → mM B ne (up cn i c) (up vl i (drS 0 (vl i))) (up me i (drS 0 (me i))) (up mt i (drS 0 (mt i))) → B 66 21 = nI (me i 0) → B 66 22 = nI (mt i 0).1 → B 66 23 = nI (mt i 0).2 → (∀ e, e < ne → p e = true → up cn i c e < 6) → ev xs 79 [.ref 66, .int (nI v), .int X] B (nI (cnt p ne)) (saF (T B) p X' (up cn i c) ne) ∧ (∀ d, d ≠ 66 → T B d = B d) ∧ (∀ k, k ≠ 22 ∧ k ≠ 23 → T B 66 k = B 66 k) ∧ T B 66 22 = nI t'.1 ∧ T B 66 23 = nI t'.2) : cmpS Sim xs 7 80 [.int (nI i)] σ := by
  have hn8 := hG.1
  have he12 := hG.2.1
  have h6 := (hM i hi).1
  obtain ⟨x0, xT⟩ := (c5 i hi).2 0 (by omega)
  rw [hX] at x0
  obtain ⟨y0, -⟩ := (m5 i hi).2 0 (by omega)
  rw [Nat.add_zero, hX] at y0
  have hroom : ∀ e, e < ne → biB M e = true → up cn i c e < 6 := fun e he hb => by
    by_cases hei : e = i
    · subst hei
      rw [up_s]
      omega
    · rw [up_n hei]
      have hf := anyB_f.mp hfu e he
      have h6e := (hM e he).1
      unfold fuB at hf
      unfold biB at hb
      rw [hb, Bool.true_and, if_neg (fun z => hei ((nI_eq (by omega) (by omega)).mp z)), (c5 e he).1, Bool.not_eq_false', decide_eq_true_iff] at hf
      exact (nI_ltI (by omega) (by omega)).mp hf
  have hroom2 : ∀ e, e < ne → p e = true → up cn i c e < 6 := fun e he hpe => hroom e he (by rw [hp e he]; exact hpe)
  have hcl := r_deliver (xs := xs) (r := rc v) c1.2.1 he12 c1.2.2 hi (by rw [(c5 i hi).1, hc]) (show c < 6 by omega) (by rw [(c4.1 i hi).2, hvi]) (show v < 8 by omega) (c7 v hv).1 (hR.1 v hv).1 (up cn i c) (fun j hj => ((df_cM c5 hc) j hj).1) (fun j hj hb _ => hroom j hj (by rw [x0, hM2] at hb; exact hb))
  have hcg : cgB σ v (rc v) (nI (tmE (me i 0) (mt i 0))) = true := by
    unfold cgB
    rw [decide_eq_false hW]
    rfl
  have hdv : dvB σ ne i v (rc v) = true := by
    unfold dvB
    rw [x0, hM2, hfu, xT, hcg]
    rfl
  have hdl : dlF σ i c v (rc v) = u2 (u2 (dfF σ i c) 1 2 (σ 1 2 + nI 1)) (6 + 3 * v) 6 (σ (6 + 3 * v) 6 + X) := by
    unfold dlF
    rw [if_neg hW, x0]
  rw [hlt, hdv, x0, xT, hM2, hX2, hT2, hdl, cnt_congr ne hp] at hcl
  have hf : ¬ (false = true) := by decide
  have htt : true = true := rfl
  rw [if_neg hf, if_neg hf, if_pos htt, if_pos htt] at hcl
  obtain ⟨d1, d2, d3, d4, d5, d6, d7⟩ := take_A (A := u2 (u2 (dfF σ i c) 1 2 (σ 1 2 + nI 1)) (6 + 3 * v) 6 (σ (6 + 3 * v) 6 + X)) hG hi hv hc c1 c2 c3 c4 c5 c6 c7 rfl
  have hA14 : u2 (u2 (dfF σ i c) 1 2 (σ 1 2 + nI 1)) (6 + 3 * v) 6 (σ (6 + 3 * v) 6 + X) 1 4 = σ 1 4 := by rw [u2_c (by omega), u2_k (by omega), dfF_c (by omega)]
  have hAm : ∀ d, 66 ≤ d → u2 (u2 (dfF σ i c) 1 2 (σ 1 2 + nI 1)) (6 + 3 * v) 6 (σ (6 + 3 * v) 6 + X) d = σ d := fun d hd => by rw [u2_row (by omega), u2_row (by omega), dfF_c (by omega)]
  generalize u2 (u2 (dfF σ i c) 1 2 (σ 1 2 + nI 1)) (6 + 3 * v) 6 (σ (6 + 3 * v) 6 + X) = A at *
  have w1 : ∀ d, d ≠ 1 → u2 (seF A M X' (nI (tmE (me i 0) t')) (up cn i c) ne) 1 4 (σ 1 4 + nI (cnt p ne)) d = seF A M X' (nI (tmE (me i 0) t')) (up cn i c) ne d := fun d hd => u2_row hd
  have w2 : ∀ k, k ≠ 4 → u2 (seF A M X' (nI (tmE (me i 0) t')) (up cn i c) ne) 1 4 (σ 1 4 + nI (cnt p ne)) 1 k = A 1 k := fun k hk => by rw [u2_k hk, seF_c ne (by omega)]
  have w3 : u2 (seF A M X' (nI (tmE (me i 0) t')) (up cn i c) ne) 1 4 (σ 1 4 + nI (cnt p ne)) 1 4 = σ 1 4 + nI (cnt p ne) := u2_same _ _ _ _
  have hm : ∀ d, 66 ≤ d → u2 (seF A M X' (nI (tmE (me i 0) t')) (up cn i c) ne) 1 4 (σ 1 4 + nI (cnt p ne)) d = σ d := fun d hd => by rw [u2_row (by omega), seF_c ne (by omega), hAm d hd]
  generalize u2 (seF A M X' (nI (tmE (me i 0) t')) (up cn i c) ne) 1 4 (σ 1 4 + nI (cnt p ne)) = ρ at *
  have r1 : mS ρ false nv ne := m1.of (by rw [hm _ (by omega)]) (by rw [hm _ (by omega)]) (by rw [hm _ (by omega)])
  have r2 : mC ρ dl fi se := m2.of (by rw [hm _ (by omega)]) (by rw [hm _ (by omega)]) (by rw [hm _ (by omega)])
  have r3 : mV ρ nv kd dp wk := m3.of (hm _ (by omega)) (hm _ (by omega)) (hm _ (by omega)) (fun v _ _ => by rw [hm 70 (by omega), hm 72 (by omega)]; exact ⟨rfl, rfl⟩)
  have r4 : mE ρ ne fr to := m4.of (hm _ (by omega)) (hm _ (by omega)) (fun e _ _ => by rw [hm _ (by omega)])
  have r5 : mM ρ ne cn vl me mt := m5.of (hm _ (by omega)) (hm _ (by omega)) (hm _ (by omega))
  have r6 : mI ρ nv ee op tt := m6.of (hm _ (by omega)) (hm _ (by omega)) (hm _ (by omega))
  have r7 : mQ ρ q qg qe qt qs := m7.of (by rw [hm _ (by omega)]) (hm _ (by omega)) (hm _ (by omega)) (hm _ (by omega))
  obtain ⟨b1, b2, b3, b4, b5, b6, b7, b8, b9, b10, b11⟩ := take_B (X := X) (B := u2 (u2 (tkF (t1F ρ i) i c c (3 * c)) 66 18 (ρ 66 18 + nI 1)) 72 v (ρ 72 v + X)) hG hM hi hv hc r1 r2 r3 r4 r5 r6 r7 rfl
  have y1 : ρ 76 (6 * i) = X := by rw [hm 76 (by omega)]; exact y0
  obtain ⟨e1, e2, e3, e4, e5⟩ := hwk _ b1 b3 b4 b5 b8 b9 b10 hroom2
  have hmo := m_deliver (xs := xs) (σ := ρ) (q := q) (R := nI (cnt p ne)) (σ' := saF (T (u2 (u2 (tkF (t1F ρ i) i c c (3 * c)) 66 18 (ρ 66 18 + nI 1)) 72 v (ρ 72 v + X))) p X' (up cn i c) ne) r1.2.1 he12 r1.2.2 hi (by rw [(r5 i hi).1, hc]) (show c < 6 by omega) (by rw [(r4.1 i hi).2, hvi]) (show v < 8 by omega) r7.1 (pR_32 hR hn8) (fun z => by rw [y1] at z; exact absurd (hrs ρ hm) z) (fun _ => by rw [y1]; exact e1)
  refine cmp_ev hcl hmo ?_
  generalize u2 (u2 (tkF (t1F ρ i) i c c (3 * c)) 66 18 (ρ 66 18 + nI 1)) 72 v (ρ 72 v + X) = B at *
  refine sim_send (A := A) (B := T B) (m := M) (ep := me i 0) (t := t') hG d1 (b1.of (e3 _ (by omega)) (e3 _ (by omega)) (e3 _ (by omega))) d2 (b2.of (e3 _ (by omega)) (e3 _ (by omega)) (e3 _ (by omega))) d3 (b3.of (e2 _ (by omega)) (e2 _ (by omega)) (e2 _ (by omega)) (fun u _ _ => by rw [e2 70 (by omega), e2 72 (by omega)]; exact ⟨rfl, rfl⟩)) d4 (b4.of (e2 _ (by omega)) (e2 _ (by omega)) (fun e _ _ => by rw [e2 75 (by omega)])) (dr_pM hM hi hc) d5 (b5.of (e2 _ (by omega)) (e2 _ (by omega)) (e2 _ (by omega))) hI d6 (b6.of (e2 _ (by omega)) (e2 _ (by omega)) (e2 _ (by omega))) hR d7 (b7.of (e3 _ (by omega)) (e2 _ (by omega)) (e2 _ (by omega)) (e2 _ (by omega))) hp hroom2 hto (fun _ => ⟨by rw [e3 21 (by omega)]; exact b8, e4, e5⟩) (fun d h1 h2 => by rw [saF_c (by omega), e2 d (by omega), b11 d h1, w1 d h2]) (fun k hk => by rw [saF_c (by omega), e2 1 (by omega), b11 1 (by omega), w2 k hk]) (by rw [saF_c (by omega), e2 1 (by omega), b11 1 (by omega), w3, hA14]) (fun d _ => rfl)
/-- late for both -/
theorem lt_eq {i v : Nat} (hG : pG nv ne kd dp wk fr to) (hi : i < ne) (hv : v < nv) (c3 : cV σ nv kd dp wk) (hT : σ (32 + 3 * i) 0 = nI (tmE (me i 0) (mt i 0))) (ho : tmOK (me i 0) (mt i 0)) : ltB σ i v = decide (kd v = 4 ∧ (if dp v = 1 then (mt i 0).1 else (mt i 0).2) = 15) := by
  have hk := (hG.2.2.1 v hv).1
  have hk4 : kd v ≤ 4 ∧ dp v ≤ 2 := by unfold vOK at hk; omega
  unfold ltB
  rw [(c3.1 v hv).1, (c3.1 v hv).2.1, hT, nI_add, tm_part ho (dp v + 1) (by omega)]
  obtain ⟨o1, o2, o3⟩ := id ho
  rw [Bool.eq_iff_iff, Bool.and_eq_true, decide_eq_true_iff, decide_eq_true_iff, Bool.not_eq_true', decide_eq_false_iff_not, nI_eq (by omega) (by omega)]
  by_cases h4 : kd v = 4
  · have hd : dp v = 1 ∨ dp v = 2 := by unfold vOK at hk; omega
    rcases hd with hd | hd
    · rw [hd, if_neg (by decide), if_pos rfl, if_pos rfl, nI_ltI (by omega) (by omega)]
      omega
    · rw [hd, if_neg (by decide), if_neg (by decide), if_neg (by decide), nI_ltI (by omega) (by omega)]
      omega
  · constructor
    · intro z; exact absurd z.1 h4
    · intro z; exact absurd z.1 h4
theorem dv_room {i c j : Nat} {M : Int32} (he12 : ne ≤ 12) (hM : pM nv ne kd dp to cn me mt) (c5 : cM σ ne cn vl me mt) (hi : i < ne) (hc : cn i = c + 1) (hj : j < ne) (hb : biB M j = true) (hfu : anyB (fuB σ M (nI i)) ne = false) : up cn i c j < 6 := by
  have h6 := (hM i hi).1
  by_cases hei : j = i
  · subst hei
    rw [up_s]
    omega
  · rw [up_n hei]
    have hf := anyB_f.mp hfu j hj
    have h6e := (hM j hj).1
    unfold fuB at hf
    unfold biB at hb
    rw [hb, Bool.true_and, if_neg (fun z => hei ((nI_eq (by omega) (by omega)).mp z)), (c5 j hj).1, Bool.not_eq_false', decide_eq_true_iff] at hf
    exact (nI_ltI (by omega) (by omega)).mp hf
/-- a delivery that is refused -/
theorem dv_no {i c v : Nat} {R : Int32} (h : Sim σ) (he12 : ne ≤ 12) (hq32 : q ≤ 32) (m1 : mS σ false nv ne) (m4 : mE σ ne fr to) (hM : pM nv ne kd dp to cn me mt) (m5 : mM σ ne cn vl me mt) (m7 : mQ σ q qg qe qt qs) (hi : i < ne) (hc : cn i = c + 1) (hvi : to i = v) (hv : v < 8) (hcl : ev xs 7 [.ref 1, .int (nI i)] σ R σ) (hr : rsR (t1F σ i) v ne q (vl i 0) (nI i) = R) (hne : ¬ R = 0) : cmpS Sim xs 7 80 [.int (nI i)] σ := by
  have h6 := (hM i hi).1
  obtain ⟨y0, -⟩ := (m5 i hi).2 0 (by omega)
  rw [Nat.add_zero] at y0
  refine cmp_ev hcl (m_deliver (xs := xs) (σ := σ) (q := q) (R := R) (σ' := t1F σ i) (c := c) (v := v) m1.2.1 he12 m1.2.2 hi (by rw [(m5 i hi).1, hc]) (by omega) (by rw [(m4.1 i hi).2, hvi]) hv m7.1 hq32 (fun _ => ⟨by rw [y0, hr], rfl⟩) (fun z => absurd (by rw [y0, hr] at z; exact z) hne)) ?_
  exact h.of (fun d _ h2 _ _ _ => by unfold t1F; exact tiF_c h2) (fun k h1 h2 h3 => by unfold t1F; exact tiF_k ⟨h1, h2, h3⟩)
/-- the time in the fields -/
theorem t1_at {i : Nat} (m5 : mM σ ne cn vl me mt) (hi : i < ne) (hc : 0 < cn i) {ρ : wd_S} (hm : ∀ d, 66 ≤ d → ρ d = σ d) : t1F ρ i 66 21 = nI (me i 0) ∧ t1F ρ i 66 22 = nI (mt i 0).1 ∧ t1F ρ i 66 23 = nI (mt i 0).2 ∧ ∀ d, 66 < d → t1F ρ i d = σ d := by
  obtain ⟨-, x1, x2, x3⟩ := (m5 i hi).2 0 hc
  refine ⟨?_, ?_, ?_, fun d hd => ?_⟩
  · unfold t1F tiF
    rw [u2_k (by omega), u2_k (by omega), u2_same, hm 77 (by omega)]
    exact x1
  · unfold t1F tiF
    rw [u2_k (by omega), u2_same, hm 77 (by omega)]
    exact x2
  · unfold t1F tiF
    rw [u2_same, hm 77 (by omega)]
    exact x3
  · unfold t1F
    rw [tiF_c (by omega), hm d (by omega)]
theorem k_deliver (x : Int32) (h : Sim σ) : cmpS Sim xs 7 80 [.int x] σ := by
  obtain ⟨b, nv, ne, kd, dp, wk, fr, to, cn, vl, me, mt, ee, op, tt, rc, re, rt, rs, q, qg, qe, qt, qs, dl, fi, se, ⟨hG, c1, m1⟩, ⟨c2, m2⟩, ⟨c3, m3⟩, ⟨c4, m4⟩, ⟨hM, c5, m5⟩, ⟨hI, c6, m6⟩, hR, c7, m7⟩ := id h
  have hn8 := hG.1
  have he12 := hG.2.1
  cases b with
  | true => exact cmp_ev (r_deliver_bad c1.2.1 c1.2.2 x (Or.inl rfl)) (m_deliver_bad m1.2.1 m1.2.2 x (Or.inl rfl)) h
  | false =>
    cases hx : inB x ne with
    | false => exact cmp_ev (r_deliver_bad c1.2.1 c1.2.2 x (Or.inr hx)) (m_deliver_bad m1.2.1 m1.2.2 x (Or.inr hx)) h
    | true =>
      obtain ⟨i, hi, rfl⟩ := inB_ex (by omega) hx
      by_cases h0 : cn i = 0
      · exact cmp_ev (r_deliver_none c1.2.1 he12 c1.2.2 hi (by rw [(c5 i hi).1, h0])) (m_deliver_none m1.2.1 he12 m1.2.2 hi (by rw [(m5 i hi).1, h0])) h
      · obtain ⟨c, hc⟩ : ∃ c, cn i = c + 1 := ⟨cn i - 1, by omega⟩
        have h6 := (hM i hi).1
        obtain ⟨v, hvi⟩ : ∃ v, to i = v := ⟨_, rfl⟩
        have hv : v < nv := by rw [← hvi]; exact (hG.2.2.2 i hi).2.1
        obtain ⟨ho, hdp⟩ := (hM i hi).2 0 (by omega)
        rw [hvi] at hdp
        obtain ⟨hok, hwk3⟩ := hG.2.2.1 v hv
        have hlt := lt_eq (σ := σ) hG hi hv c3 ((c5 i hi).2 0 (by omega)).2 ho
        have hq32 := pR_32 hR hn8
        have hcl := r_deliver (xs := xs) (r := rc v) c1.2.1 he12 c1.2.2 hi (by rw [(c5 i hi).1, hc]) (show c < 6 by omega) (by rw [(c4.1 i hi).2, hvi]) (show v < 8 by omega) (c7 v hv).1 (hR.1 v hv).1 (up cn i c) (fun j hj => ((df_cM c5 hc) j hj).1) (fun j hj hb hfu => dv_room he12 hM c5 hi hc hj hb hfu)
        have hkd4 : kd v ≤ 4 ∧ dp v ≤ 2 := by unfold vOK at hok; omega
        have hcond : ∀ ρ : wd_S, (∀ d, 66 ≤ d → ρ d = σ d) → ((t1F ρ i 67 v = nI 4 ∧ (if t1F ρ i 68 v = nI 1 then t1F ρ i 66 22 else t1F ρ i 66 23) = nI 15) ↔ (kd v = 4 ∧ (if dp v = 1 then (mt i 0).1 else (mt i 0).2) = 15)) := by
          intro ρ hm
          obtain ⟨f1, f2, f3, f4⟩ := t1_at m5 hi (by omega) hm
          obtain ⟨o1, o2, o3⟩ := id ho
          rw [f4 67 (by omega), f4 68 (by omega), (m3.1 v hv).1, (m3.1 v hv).2.1, f2, f3, nI_eq (by omega) (by omega)]
          by_cases hd : dp v = 1
          · rw [if_pos (by rw [hd]), if_pos hd, nI_eq (by omega) (by omega)]
          · rw [if_neg (fun z => hd ((nI_eq (by omega) (by omega)).mp z)), if_neg hd, nI_eq (by omega) (by omega)]
        by_cases hL : kd v = 4 ∧ (if dp v = 1 then (mt i 0).1 else (mt i 0).2) = 15
        · rw [decide_eq_true hL] at hlt
          have htt : true = true := rfl
          rw [hlt, if_pos htt, if_pos htt] at hcl
          refine dv_no h he12 hq32 m1 m4 hM m5 m7 hi hc hvi (by omega) hcl ?_ (by decide)
          unfold rsR
          rw [if_pos ((hcond σ fun _ _ => rfl).mpr hL)]
        · rw [decide_eq_false hL] at hlt
          have hf : ¬ (false = true) := by decide
          rw [hlt, if_neg hf, if_neg hf] at hcl
          have x0 := ((c5 i hi).2 0 (by omega)).1
          have xT := ((c5 i hi).2 0 (by omega)).2
          by_cases hW0 : ¬ kd v = 1 ∨ wk v = 0
          · have hw2 : σ (6 + 3 * v) 2 = nI 0 := by
              rw [(c3.1 v hv).2.2.1]
              rcases hW0 with z | z
              · rw [if_neg z]
              · rw [z]
                split <;> rfl
            have hM2 : tgF σ v (vl i 0) = σ (6 + 3 * v) 5 := by
              unfold tgF
              rw [if_pos (show σ (6 + 3 * v) 2 = 0 from hw2)]
            have hX2 : pnF σ v (vl i 0) = vl i 0 := by
              unfold pnF
              rw [if_neg (fun z => absurd (hw2.symm.trans z.1) (by decide))]
            have hW : ¬ σ (6 + 3 * v) 2 = nI 1 := fun z => absurd (hw2.symm.trans z) (by decide)
            have hany := any_fu c5 m5 (σ (6 + 3 * v) 5) (nI i) (p := fun e => decide (fr e = v)) (fun e he => bi_out he12 c4 hv he)
            have hkw : ∀ B : wd_S, mV B nv kd dp wk → (¬ B 67 v = nI 1 ∨ B 69 v = 0) := fun B b3 => by
              rw [(b3.1 v hv).1, (b3.1 v hv).2.2]
              rcases hW0 with z | z
              · exact Or.inl fun w => z ((nI_eq (by omega) (by omega)).mp w)
              · exact Or.inr (by rw [z]; rfl)
            have hrs : ∀ ρ : wd_S, (∀ d, 66 ≤ d → ρ d = σ d) → rsR (t1F ρ i) v ne q (vl i 0) (nI i) = if anyB (fuB σ (σ (6 + 3 * v) 5) (nI i)) ne = true then -2 else nI 0 := fun ρ hm => by
              obtain ⟨f1, f2, f3, f4⟩ := t1_at m5 hi (by omega) hm
              unfold rsR
              rw [if_neg (fun z => hL ((hcond ρ hm).mp z)), if_pos (by rw [f4 67 (by omega), f4 69 (by omega)]; exact hkw σ m3), hany]
              have : anyB (fun j => decide (t1F ρ i 73 j = nI v) && mlF (t1F ρ i) (nI i) j) ne = anyB (fun e => decide (fr e = v) && mlF σ (nI i) e) ne := anyB_congr fun j hj => by
                have e1 : mlF (t1F ρ i) (nI i) j = mlF σ (nI i) j := by
                  unfold mlF
                  rw [f4 75 (by omega)]
                rw [e1, f4 73 (by omega), fr_out hG m4 hv hj]
              rw [this]
            cases hfu : anyB (fuB σ (σ (6 + 3 * v) 5) (nI i)) ne with
            | true =>
              have hdv : dvB σ ne i v (rc v) = false := by
                unfold dvB
                rw [x0, hM2, hfu]
                rfl
              rw [hdv, if_neg hf, if_neg hf] at hcl
              refine dv_no h he12 hq32 m1 m4 hM m5 m7 hi hc hvi (by omega) hcl ?_ (by decide)
              rw [hrs σ fun _ _ => rfl, hfu, if_pos rfl]
            | false =>
              have hdi : bf_dp (if kd v = 2 then dp v - 1 else dp v) (mt i 0) := by
                unfold gDi at hdp
                rw [if_pos hv] at hdp
                exact hdp
              have hcd : gCd nv kd dp v = if kd v = 2 ∨ kd v = 3 then dp v else if kd v = 4 then dp v + 2 else 0 := by
                unfold gCd
                rw [if_pos hv]
              have htm := tmT_ok hok ho hdi
              rw [← hcd] at htm
              refine dv_send (X := vl i 0) (M := σ (6 + 3 * v) 5) (X' := vl i 0) (p := fun e => decide (fr e = v)) (t' := bf_b (gCd nv kd dp v) (mt i 0)) (T := fun B => trF B v) hG c1 m1 c2 m2 c3 m3 c4 m4 hM c5 m5 hI c6 m6 hR c7 m7 hi hc hvi hv rfl (fun e he => bi_out he12 c4 hv he) hM2 hX2 hW (by rw [(c3.1 v hv).2.2.2.1, (c3.1 v hv).2.2.2.2]; exact htm) hlt hfu (fun e he hpe => ⟨?_, ?_⟩) (fun ρ hm => by rw [hrs ρ hm, hfu, if_neg hf]; rfl) (fun B b1 b3 b4 b5 b8 b9 b10 hroom => ⟨?_, fun d hd => trF_c hd, fun k hk => trF_k hk, ?_, ?_⟩)
              · obtain ⟨o1, o2, o3⟩ := id ho
                refine ⟨o1, ?_⟩
                rw [hcd]
                unfold bf_b
                rcases vOK_cases hok with ⟨a, d⟩ | ⟨a, d⟩ | ⟨a, d⟩ | ⟨a, d⟩ | ⟨a, d⟩ | ⟨a, d⟩ | ⟨a, d⟩ | ⟨a, d⟩
                · rw [a]; exact ⟨o2, o3⟩
                · rw [a]; exact ⟨o2, o3⟩
                · rw [a, d]; exact ⟨Nat.zero_le _, o3⟩
                · rw [a, d]; exact ⟨o2, Nat.zero_le _⟩
                · rw [a, d]; exact ⟨Nat.zero_le _, o3⟩
                · rw [a, d]; exact ⟨o2, Nat.zero_le _⟩
                · rw [d, if_pos rfl] at hL
                  rw [a, d]
                  exact ⟨by show (mt i 0).1 + 1 ≤ 15; omega, o3⟩
                · rw [d, if_neg (by decide)] at hL
                  rw [a, d]
                  exact ⟨o2, by show (mt i 0).2 + 1 ≤ 15; omega⟩
              · have hfe := of_decide_eq_true hpe
                rw [← (hG.2.2.2 e he).2.2, hfe]
                exact bf_dp_b (pG_ok hG v) hdp
              · have hpr : ∀ e, e < ne → decide (B 73 e = nI v) = decide (fr e = v) := fun e he => fr_out hG b4 hv he
                have := m_work_a (xs := xs) (σ := B) (show v < 8 by omega) b1.2.1 he12 (vl i 0) (hkw B b3) (up cn i c) (fun e he hfr => ⟨(b5 e he).1, hroom e he (by rw [← hpr e he]; exact decide_eq_true hfr)⟩)
                rw [cnt_congr ne hpr, sa_pred hpr] at this
                exact this
              · rw [hcd]
                exact (tr_ok hok (b3.1 v hv).1 (b3.1 v hv).2.1 b9 b10).1
              · rw [hcd]
                exact (tr_ok hok (b3.1 v hv).1 (b3.1 v hv).2.1 b9 b10).2
          · have hk1 : kd v = 1 := by
              apply Classical.byContradiction
              intro z
              exact hW0 (Or.inl z)
            have hw0 : ¬ wk v = 0 := fun z => hW0 (Or.inr z)
            have hw2 : σ (6 + 3 * v) 2 = nI (wk v) := by
              rw [(c3.1 v hv).2.2.1, if_pos hk1]
            have hdi : bf_dp (if kd v = 2 then dp v - 1 else dp v) (mt i 0) := by
              unfold gDi at hdp
              rw [if_pos hv] at hdp
              exact hdp
            have htm := tmT_ok hok ho hdi
            have hb0 : bf_b (if kd v = 2 ∨ kd v = 3 then dp v else if kd v = 4 then dp v + 2 else 0) (mt i 0) = mt i 0 := by
              rw [hk1]
              rfl
            rw [hb0] at htm
            have hwne : ∀ n, n ≤ 3 → wk v ≠ n → ¬ nI (wk v) = nI n := fun n hn z w => z ((nI_eq (by omega) (by omega)).mp w)
            by_cases hw3 : wk v = 3
            · have hM2 : tgF σ v (vl i 0) = nI 0 := by
                unfold tgF
                rw [hw2, if_neg (show ¬ nI (wk v) = 0 from hwne 0 (by omega) hw0), if_neg (hwne 2 (by omega) (by omega))]
              have hX2 : pnF σ v (vl i 0) = vl i 0 := by
                unfold pnF
                rw [hw2, if_neg (fun z => hwne 2 (by omega) (by omega) z.1)]
              have hp0 : ∀ e, e < ne → biB (nI 0) e = (fun _ : Nat => false) e := fun e he => by rw [biB_t (by omega), tB_0]
              have hfu : anyB (fuB σ (nI 0) (nI i)) ne = false := by
                rw [any_fu c5 m5 (nI 0) (nI i) hp0]
                exact anyB_f.mpr fun j _ => rfl
              have hc0 : ∀ n, cnt (fun _ : Nat => false) n = 0 := fun n => by
                induction n with
                | zero => rfl
                | succ n ih => rw [cnt_f rfl, ih]
              have hs0 : ∀ (B : wd_S) (y : Int32) (n : Nat), saF B (fun _ => false) y (up cn i c) n = B := fun B y n => by
                induction n with
                | zero => rfl
                | succ n ih =>
                  show (if false = true then _ else _) = B
                  rw [if_neg hf, ih]
              refine dv_send (X := vl i 0) (M := nI 0) (X' := vl i 0) (p := fun _ => false) (t' := mt i 0) (T := fun B => B) hG c1 m1 c2 m2 c3 m3 c4 m4 hM c5 m5 hI c6 m6 hR c7 m7 hi hc hvi hv rfl hp0 hM2 hX2 (by rw [hw2]; exact hwne 1 (by omega) (by omega)) (by rw [(c3.1 v hv).2.2.2.1, (c3.1 v hv).2.2.2.2]; exact htm) hlt hfu (fun e he hpe => absurd hpe hf) (fun ρ hm => ?_) (fun B b1 b3 b4 b5 b8 b9 b10 hroom => ⟨?_, fun d hd => rfl, fun k hk => rfl, b9, b10⟩)
              · obtain ⟨f1, f2, f3, f4⟩ := t1_at m5 hi (by omega) hm
                unfold rsR
                rw [if_neg (fun z => hL ((hcond ρ hm).mp z)), f4 67 (by omega), f4 69 (by omega), (m3.1 v hv).1, (m3.1 v hv).2.2, hk1, if_neg (by rintro (z | z); exact z rfl; exact hwne 0 (by omega) hw0 z), if_neg (hwne 1 (by omega) (by omega)), if_neg (hwne 2 (by omega) (by omega))]
                rfl
              · have := m_work_d (xs := xs) (σ := B) (show v < 8 by omega) (vl i 0) (by rw [(b3.1 v hv).1, hk1]) (by rw [(b3.1 v hv).2.2]; exact hwne 0 (by omega) hw0) (by rw [(b3.1 v hv).2.2]; exact hwne 1 (by omega) (by omega)) (by rw [(b3.1 v hv).2.2]; exact hwne 2 (by omega) (by omega))
                rw [hc0, hs0]
                exact this
            · by_cases hw22 : wk v = 2
              · have hbits : ∀ e, e < 32 → tB (σ (6 + 3 * v) 5) e = (decide (e < ne) && decide (fr e = v)) := c4.2.1 v hv
                obtain ⟨mm, hmm⟩ : ∃ mm, (if vl i 0 ≤ 0 then 1 else 0) = mm := ⟨_, rfl⟩
                have hp0 : ∀ e, e < ne → biB (tgF σ v (vl i 0)) e = decide (ldF (fun e => decide (fr e = v)) mm ne = some e) := fun e he => by
                  unfold tgF
                  rw [hw2, if_neg (show ¬ nI (wk v) = 0 from hwne 0 (by omega) hw0), if_pos (by rw [hw22]), ld_eq he, ← hmm]
                  by_cases hx0 : vl i 0 ≤ 0
                  · rw [if_pos hx0, if_pos hx0]
                    exact (tg_step (p := fun e => decide (fr e = v)) he12 hbits he).2
                  · rw [if_neg hx0, if_neg hx0]
                    exact (tg_step (p := fun e => decide (fr e = v)) he12 hbits he).1
                have hX2 : pnF σ v (vl i 0) = if vl i 0 ≤ 0 then vl i 0 else vl i 0 - nI 1 := by
                  unfold pnF
                  rw [hw2, hw22]
                  by_cases hx0 : vl i 0 ≤ 0
                  · rw [if_pos hx0, if_neg (fun z => z.2 hx0)]
                  · rw [if_neg hx0, if_pos ⟨rfl, hx0⟩]
                have hrs : ∀ ρ : wd_S, (∀ d, 66 ≤ d → ρ d = σ d) → rsR (t1F ρ i) v ne q (vl i 0) (nI i) = if anyB (fuB σ (tgF σ v (vl i 0)) (nI i)) ne = true then -2 else nI 0 := fun ρ hm => by
                  obtain ⟨f1, f2, f3, f4⟩ := t1_at m5 hi (by omega) hm
                  have hml : ∀ j, mlF (t1F ρ i) (nI i) j = mlF σ (nI i) j := fun j => by
                    unfold mlF
                    rw [f4 75 (by omega)]
                  have hl : ldF (fun j => decide (σ 73 j = nI v)) mm ne = ldF (fun e => decide (fr e = v)) mm ne := ld_cg fun j hj => fr_out hG m4 hv hj
                  unfold rsR
                  rw [if_neg (fun z => hL ((hcond ρ hm).mp z)), f4 67 (by omega), f4 69 (by omega), f4 73 (by omega), (m3.1 v hv).1, (m3.1 v hv).2.2, hk1, hw22, if_neg (by decide), if_neg (by decide), if_pos rfl, hmm, hl, any_fu c5 m5 (tgF σ v (vl i 0)) (nI i) hp0]
                  cases hld : ldF (fun e => decide (fr e = v)) mm ne with
                  | none =>
                    have ha : anyB (fun e => decide ((none : Option Nat) = some e) && mlF σ (nI i) e) ne = false := anyB_f.mpr fun e _ => by
                      rw [decide_eq_false (fun z => by cases z), Bool.false_and]
                    rw [ha, if_neg hf]
                  | some j =>
                    have hj := (ldF_lt hld).1
                    show (if mlF (t1F ρ i) (nI i) j = true then -2 else nI 0) = _
                    rw [hml]
                    refine if_cg ⟨fun z => ?_, fun z => ?_⟩
                    · exact anyB_t.mpr ⟨j, hj, by rw [decide_eq_true rfl, Bool.true_and]; exact z⟩
                    · obtain ⟨e, he, ze⟩ := anyB_t.mp z
                      rw [Bool.and_eq_true] at ze
                      have := of_decide_eq_true ze.1
                      injection this with this
                      rw [this]
                      exact ze.2
                cases hfu : anyB (fuB σ (tgF σ v (vl i 0)) (nI i)) ne with
                | true =>
                  have hdv : dvB σ ne i v (rc v) = false := by
                    unfold dvB
                    rw [x0, hfu]
                    rfl
                  rw [hdv, if_neg hf, if_neg hf] at hcl
                  refine dv_no h he12 hq32 m1 m4 hM m5 m7 hi hc hvi (by omega) hcl ?_ (by decide)
                  rw [hrs σ fun _ _ => rfl, hfu, if_pos rfl]
                | false =>
                  refine dv_send (X := vl i 0) (M := tgF σ v (vl i 0)) (X' := if vl i 0 ≤ 0 then vl i 0 else vl i 0 - nI 1) (p := fun e => decide (ldF (fun e => decide (fr e = v)) mm ne = some e)) (t' := mt i 0) (T := fun B => B) hG c1 m1 c2 m2 c3 m3 c4 m4 hM c5 m5 hI c6 m6 hR c7 m7 hi hc hvi hv rfl hp0 rfl hX2 (by rw [hw2]; exact hwne 1 (by omega) (by omega)) (by rw [(c3.1 v hv).2.2.2.1, (c3.1 v hv).2.2.2.2]; exact htm) hlt hfu (fun e he hpe => ⟨ho, ?_⟩) (fun ρ hm => by rw [hrs ρ hm, hfu, if_neg hf]; rfl) (fun B b1 b3 b4 b5 b8 b9 b10 hroom => ⟨?_, fun d hd => rfl, fun k hk => rfl, b9, b10⟩)
                  · have hfe := of_decide_eq_true (ldF_lt (of_decide_eq_true hpe)).2
                    have hgg : gDo nv kd dp v = gDi nv kd dp v := by
                      unfold gDo gDi
                      rw [hk1]
                      rfl
                    rw [← (hG.2.2.2 e he).2.2, hfe, hgg]
                    exact hdp
                  · have hl : ldF (fun j => decide (B 73 j = nI v)) mm ne = ldF (fun e => decide (fr e = v)) mm ne := ld_cg fun j hj => fr_out hG b4 hv hj
                    have hBk : B 67 v = nI 1 := by rw [(b3.1 v hv).1, hk1]
                    have hBw : B 69 v = nI 2 := by rw [(b3.1 v hv).2.2, hw22]
                    cases hld : ldF (fun e => decide (fr e = v)) mm ne with
                    | none =>
                      have hpz : ∀ e, e < ne → decide ((none : Option Nat) = some e) = (fun _ : Nat => false) e := fun e _ => decide_eq_false (fun z => by cases z)
                      rw [cnt_congr ne hpz, sa_pred hpz, cnt_no, sa_no]
                      exact m_work_c0 (xs := xs) (σ := B) (show v < 8 by omega) b1.2.1 he12 (vl i 0) hBk hBw (by rw [hmm, hl]; exact hld)
                    | some j =>
                      have hj := (ldF_lt hld).1
                      have hpz : ∀ e, e < ne → decide (some j = some e) = (fun e => decide (e = j)) e := fun e _ => by
                        show decide (some j = some e) = decide (e = j)
                        rw [Bool.eq_iff_iff, decide_eq_true_iff, decide_eq_true_iff]
                        exact ⟨fun z => by injection z with z; exact z.symm, fun z => by rw [z]⟩
                      have := m_work_c1 (xs := xs) (σ := B) (show v < 8 by omega) b1.2.1 he12 (vl i 0) hBk hBw (by rw [hmm, hl]; exact hld) (b5 j hj).1 (hroom j hj (decide_eq_true hld))
                      rw [p1_sa (cn := up cn i c) hj] at this
                      rw [cnt_congr ne hpz, sa_pred hpz, cnt_one, if_pos hj]
                      exact this
              · have hw1 : wk v = 1 := by omega
                have hT2 : (nI (tmE (me i 0) (mt i 0)) &&& σ (6 + 3 * v) 3) + σ (6 + 3 * v) 4 = nI (tmE (me i 0) (mt i 0)) := by
                  rw [(c3.1 v hv).2.2.2.1, (c3.1 v hv).2.2.2.2]
                  exact htm
                have hdv0 : bf_dp (dp v) (mt i 0) := by
                  rw [hk1] at hdi
                  exact hdi
                have hmt : ∀ ρ : wd_S, (∀ d, 66 ≤ d → ρ d = σ d) → mQ (t1F ρ i) q qg qe qt qs := fun ρ hm => by
                  obtain ⟨f1, f2, f3, f4⟩ := t1_at m5 hi (by omega) hm
                  refine m7.of ?_ (f4 _ (by omega)) (f4 _ (by omega)) (f4 _ (by omega))
                  unfold t1F
                  rw [tiF_k (by omega), hm 66 (by omega)]
                have hrs : ∀ ρ : wd_S, (∀ d, 66 ≤ d → ρ d = σ d) → rsR (t1F ρ i) v ne q (vl i 0) (nI i) = if fst1 (rmB (t1F ρ i) (nI v)) q = none ∧ rc v = 4 then -2 else nI 0 := fun ρ hm => by
                  obtain ⟨f1, f2, f3, f4⟩ := t1_at m5 hi (by omega) hm
                  unfold rsR
                  rw [if_neg (fun z => hL ((hcond ρ hm).mp z)), f4 67 (by omega), f4 69 (by omega), (m3.1 v hv).1, (m3.1 v hv).2.2, hk1, hw1, if_neg (by decide), if_pos rfl, of_cnt hn8 hR (hmt ρ hm) hv]
                obtain ⟨f1, f2, f3, f4⟩ := t1_at (ρ := σ) m5 hi (by omega) (fun _ _ => rfl)
                rcases g_cases (τ := t1F σ i) hn8 hR c7 (hmt σ fun _ _ => rfl) hv ho f1 f2 f3 with ⟨s, r, hs, hr, hsl, hfs, g1, e1, e2, e3, e4⟩ | ⟨hsl, hfs, hno⟩
                · have hfB : ∀ B : wd_S, mQ B q qg qe qt qs → B 66 21 = nI (me i 0) → B 66 22 = nI (mt i 0).1 → B 66 23 = nI (mt i 0).2 → fst1 (rmB B (nI v)) q = some r := fun B b7 b8 b9 b10 => by
                    rcases g_cases (τ := B) hn8 hR c7 b7 hv ho b8 b9 b10 with ⟨s', r', hs', hr', hsl', hfs', g1', e1', e2', e3', e4'⟩ | ⟨hsl', -, -⟩
                    · have := hR.2.2.2 r' r hr' hr (by rw [g1', g1]) (by rw [e3', e3]) (by rw [e4', e4])
                      rw [hfs', this]
                    · rw [hsl] at hsl'
                      cases hsl'
                  have hcg : cgB σ v (rc v) (nI (tmE (me i 0) (mt i 0))) = true := by
                    unfold cgB
                    rw [hsl]
                    exact Bool.or_true _
                  refine dv_gather (X := vl i 0) hG c1 m1 c2 m2 c3 m3 c4 m4 hM c5 m5 hI c6 m6 hR c7 m7 hi hc hvi hv rfl hk1 hw1 hT2 hlt hcg (fun ρ hm => ?_) (pR_more (X := vl i 0) hR hv hs hr g1 (by rw [e3, e1]) (by rw [e4, e2])) (fun A hA7 a7 => cR_more a7 hv hs ((slF_eq hA7).trans hsl)) (fun B b7 b8 b9 b10 => ⟨mQ_more b7 hr (hfB B b7 b8 b9 b10), fun z => by rw [hfB B b7 b8 b9 b10] at z; cases z⟩)
                  obtain ⟨k1, k2, k3, k4⟩ := t1_at m5 hi (by omega) hm
                  rw [hrs ρ hm, hfB _ (hmt ρ hm) k1 k2 k3, if_neg (fun z => by cases z.1)]
                  rfl
                · by_cases hr4 : rc v = 4
                  · have hcg : cgB σ v (rc v) (nI (tmE (me i 0) (mt i 0))) = false := by
                      unfold cgB
                      rw [hsl, hw2, hw1, hr4]
                      decide
                    have hdv : dvB σ ne i v (rc v) = false := by
                      unfold dvB
                      rw [xT, hcg]
                      exact Bool.and_false _
                    rw [hdv, if_neg hf, if_neg hf] at hcl
                    refine dv_no h he12 hq32 m1 m4 hM m5 m7 hi hc hvi (by omega) hcl ?_ (by decide)
                    rw [hrs σ fun _ _ => rfl, if_pos ⟨hfs, hr4⟩]
                  · have hr4' := (hR.1 v hv).1
                    have hlt4 : rc v < 4 := by omega
                    have hfB : ∀ B : wd_S, mQ B q qg qe qt qs → B 66 21 = nI (me i 0) → B 66 22 = nI (mt i 0).1 → B 66 23 = nI (mt i 0).2 → fst1 (rmB B (nI v)) q = none := fun B b7 b8 b9 b10 => by
                      rcases g_cases (τ := B) hn8 hR c7 b7 hv ho b8 b9 b10 with ⟨s', r', hs', hr', hsl', hfs', g1', e1', e2', e3', e4'⟩ | ⟨-, hfs', -⟩
                      · rw [hsl] at hsl'
                        cases hsl'
                      · exact hfs'
                    have hcg : cgB σ v (rc v) (nI (tmE (me i 0) (mt i 0))) = true := by
                      unfold cgB
                      rw [decide_eq_true hlt4, Bool.or_true, Bool.true_or]
                    obtain ⟨p0, hp0⟩ : ∃ p0, insP (σ (7 + 3 * v)) (nI (tmE (me i 0) (mt i 0))) (rc v) = p0 := ⟨_, rfl⟩
                    have hple : p0 ≤ rc v := hp0 ▸ insP_le _ _ _
                    obtain ⟨q1, q2⟩ := insP_ok (m := σ (7 + 3 * v)) (t := nI (tmE (me i 0) (mt i 0))) (rc v)
                    rw [hp0] at q1 q2
                    have hbig : ∀ k, k < rc v → tmE (re v k) (rt v k) < 20000000 := fun k hk => (tmE_lt ((hR.1 v hv).2.1 k hk).2.2.1).1
                    have hbt := (tmE_lt ho).1
                    have hhi : ∀ k, p0 ≤ k → k < rc v → tmE (me i 0) (mt i 0) < tmE (re v k) (rt v k) := fun k h1 h2 => by
                      have z := q1 k h1 h2
                      have := hbig k h2
                      rw [((c7 v hv).2 k h2).1] at z
                      exact (nI_ltI (by omega) (by omega)).mp z
                    have hlo : ∀ k, k < p0 → tmE (re v k) (rt v k) < tmE (me i 0) (mt i 0) := fun k hk => by
                      have z := q2 (p0 - 1) (by omega)
                      have hb1 := hbig (p0 - 1) (by omega)
                      rw [((c7 v hv).2 (p0 - 1) (by omega)).1, nI_ltI (by omega) (by omega)] at z
                      have hne : tmE (re v (p0 - 1)) (rt v (p0 - 1)) ≠ tmE (me i 0) (mt i 0) := fun w => hno (p0 - 1) (by omega) ((tmE_inj ((hR.1 v hv).2.1 (p0 - 1) (by omega)).2.2.1 ho).mp (by rw [w]))
                      by_cases hkp : k = p0 - 1
                      · rw [hkp]
                        omega
                      · have := (hR.1 v hv).2.2 k (p0 - 1) (by omega) (by omega)
                        omega
                    have hR' := pR_new (X := nI 0 + vl i 0) hR hv ⟨hk1, hw1⟩ ho hdv0 hlt4 hple hlo hhi
                    have hq' := pR_32 hR' hn8
                    refine dv_gather (X := vl i 0) hG c1 m1 c2 m2 c3 m3 c4 m4 hM c5 m5 hI c6 m6 hR c7 m7 hi hc hvi hv rfl hk1 hw1 hT2 hlt hcg (fun ρ hm => ?_) hR' (fun A hA7 a7 => cR_new a7 ((slF_eq hA7).trans hsl) (by rw [hA7]; exact hp0)) (fun B b7 b8 b9 b10 => ⟨mQ_new b7 b8 b9 b10 (hfB B b7 b8 b9 b10), fun _ => by omega⟩)
                    rw [hrs ρ hm, if_neg (fun z => hr4 z.2)]
                    rfl
end SIM
