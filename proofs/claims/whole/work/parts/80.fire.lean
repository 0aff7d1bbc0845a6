/-! Fire. -/
/-- place s is taken out -/
def drS {α : Type} (s : Nat) (f : Nat → α) : Nat → α := fun k => if s ≤ k then f (k + 1) else f k
section SIM
variable {xs : List Int32} {σ τ : wd_S} {b : Bool} {nv ne : Nat} {kd dp wk fr to cn : Nat → Nat} {vl : Nat → Nat → Int32} {me : Nat → Nat → Nat} {mt : Nat → Nat → Nat × Nat} {ee : Nat → Nat} {op : Nat → Bool} {tt : Nat → Int32} {rc : Nat → Nat} {re : Nat → Nat → Nat} {rt : Nat → Nat → Nat × Nat} {rs : Nat → Nat → Int32} {q : Nat} {qg qe : Nat → Nat} {qt : Nat → Nat × Nat} {qs : Nat → Int32} {dl fi se : Int32}
theorem drS_at {α : Type} {s k : Nat} (f : Nat → α) : drS s f k = f (if s ≤ k then k + 1 else k) := by
  unfold drS
  split <;> rfl
theorem up_at {α : Type} {r k o : Nat} (f : Nat → α) : up f r (f o) k = f (if k = r then o else k) := by
  unfold up
  split <;> rfl
theorem pR_fire (hR : pR nv kd dp wk rc re rt rs (q + 1) qg qe qt qs) {v s r r0 : Nat} (hv : v < nv) (hs : s ≤ r0) (hr0 : rc v = r0 + 1) (hr : r < q + 1) (g1 : qg r = v) (g2 : qe r = re v s) (g3 : qt r = rt v s) : pR nv kd dp wk (up rc v r0) (up re v (drS s (re v))) (up rt v (drS s (rt v))) (up rs v (drS s (rs v))) q (up qg r (qg q)) (up qe r (qe q)) (up qt r (qt q)) (up qs r (qs q)) := by
  obtain ⟨h1, h2, h3, h4⟩ := hR
  obtain ⟨a1, a2, a3⟩ := h1 v hv
  -- one key, one place
  have hkey : ∀ k, k < rc v → re v k = re v s → rt v k = rt v s → k = s := by
    intro k hk e1 e2
    rcases Nat.lt_trichotomy k s with z | z | z
    · have := a3 k s z (by omega)
      rw [e1, e2] at this
      exact absurd this (Nat.lt_irrefl _)
    · exact z
    · have := a3 s k z hk
      rw [e1, e2] at this
      exact absurd this (Nat.lt_irrefl _)
  refine ⟨fun u hu => ?_, fun i hi => ?_, fun u hu k hk => ?_, fun i j hi hj e1 e2 e3 => ?_⟩
  · by_cases huv : u = v
    · subst huv
      rw [up_s, up_s, up_s]
      refine ⟨by omega, fun k hk => ?_, fun k l hkl hl => ?_⟩
      · rw [drS_at, drS_at]
        exact a2 _ (by split <;> omega)
      · rw [drS_at, drS_at, drS_at, drS_at]
        exact a3 _ _ (by split <;> split <;> omega) (by split <;> omega)
    · rw [up_n huv, up_n huv, up_n huv]
      exact h1 u hu
  · rw [up_at, up_at, up_at, up_at]
    have ho : (if i = r then q else i) < q + 1 ∧ (if i = r then q else i) ≠ r := by split <;> omega
    generalize (if i = r then q else i) = o at ho
    obtain ⟨b1, k, b2, b3, b4, b5⟩ := h2 o ho.1
    refine ⟨b1, ?_⟩
    by_cases huv : qg o = v
    · rw [huv] at b2 b3 b4 b5 ⊢
      have hks : k ≠ s := fun z => ho.2 (h4 o r ho.1 hr (by rw [huv, g1]) (by rw [← b3, z, g2]) (by rw [← b4, z, g3]))
      rw [up_s, up_s, up_s, up_s]
      refine ⟨if s ≤ k then k - 1 else k, by split <;> omega, ?_⟩
      rw [drS_at, drS_at, drS_at]
      have : (if s ≤ (if s ≤ k then k - 1 else k) then (if s ≤ k then k - 1 else k) + 1 else (if s ≤ k then k - 1 else k)) = k := by
        by_cases h : s ≤ k
        · rw [if_pos h, if_pos (by omega)]
          omega
        · rw [if_neg h, if_neg h]
      rw [this]
      exact ⟨b3, b4, b5⟩
    · rw [up_n huv, up_n huv, up_n huv, up_n huv]
      exact ⟨k, b2, b3, b4, b5⟩
  · -- an old request that stays
    have main : ∀ o, o < q + 1 → o ≠ r → ∀ (e : Nat) (t : Nat × Nat), qg o = u → qe o = e → qt o = t → ∃ i, i < q ∧ up qg r (qg q) i = u ∧ up qe r (qe q) i = e ∧ up qt r (qt q) i = t := by
      intro o ho hor e t b1 b2 b3
      refine ⟨if o = q then r else o, by split <;> omega, ?_⟩
      rw [up_at, up_at, up_at]
      have : (if (if o = q then r else o) = r then q else (if o = q then r else o)) = o := by
        by_cases h : o = q
        · rw [if_pos h, if_pos rfl]
          exact h.symm
        · rw [if_neg h, if_neg hor]
      rw [this]
      exact ⟨b1, b2, b3⟩
    by_cases huv : u = v
    · subst huv
      rw [up_s] at hk
      rw [up_s, up_s, drS_at, drS_at]
      have hk0 : (if s ≤ k then k + 1 else k) < rc u ∧ (if s ≤ k then k + 1 else k) ≠ s := by split <;> omega
      generalize (if s ≤ k then k + 1 else k) = k0 at hk0
      obtain ⟨o, b0, b1, b2, b3⟩ := h3 u hu k0 hk0.1
      exact main o b0 (fun z => hk0.2 (hkey k0 hk0.1 (by rw [← b2, z, g2]) (by rw [← b3, z, g3]))) _ _ b1 b2 b3
    · rw [up_n huv] at hk
      rw [up_n huv, up_n huv]
      obtain ⟨o, b0, b1, b2, b3⟩ := h3 u hu k hk
      exact main o b0 (fun z => huv (by rw [← b1, z, g1])) _ _ b1 b2 b3
  · rw [up_at, up_at] at e1 e2 e3
    have := h4 _ _ (show (if i = r then q else i) < q + 1 by split <;> omega) (show (if j = r then q else j) < q + 1 by split <;> omega) e1 e2 e3
    by_cases hi' : i = r
    · by_cases hj' : j = r
      · omega
      · rw [if_pos hi', if_neg hj'] at this
        omega
    · by_cases hj' : j = r
      · rw [if_neg hi', if_pos hj'] at this
        omega
      · rw [if_neg hi', if_neg hj'] at this
        exact this
theorem ds_at {v r s : Nat} : (∀ d, d < 6 + 3 * v ∨ 9 + 3 * v ≤ d → dsF σ v r s d = σ d) ∧ (∀ k, k ≠ 9 → dsF σ v r s (6 + 3 * v) k = σ (6 + 3 * v) k) ∧ dsF σ v r s (6 + 3 * v) 9 = nI r ∧ dsF σ v r s (7 + 3 * v) = sh s r (σ (7 + 3 * v)) ∧ dsF σ v r s (8 + 3 * v) = sh s r (σ (8 + 3 * v)) := by
  refine ⟨fun d hd => dsF_c hd, fun k hk => dsF_v hk, ?_, ?_, ?_⟩
  · unfold dsF
    rw [rws_c (by omega), rws_c (by omega), u2_same]
  · unfold dsF
    rw [rws_c (by omega), rws_same]
  · unfold dsF
    rw [rws_same]
theorem cR_fire (c7 : cR σ nv rc re rt rs) {v s r0 : Nat} (hr0 : rc v = r0 + 1) (h1 : ∀ u, u < nv → u ≠ v → τ (6 + 3 * u) 9 = σ (6 + 3 * u) 9 ∧ τ (7 + 3 * u) = σ (7 + 3 * u) ∧ τ (8 + 3 * u) = σ (8 + 3 * u)) (h2 : τ (6 + 3 * v) 9 = nI r0) (h3 : τ (7 + 3 * v) = sh s r0 (σ (7 + 3 * v))) (h4 : τ (8 + 3 * v) = sh s r0 (σ (8 + 3 * v))) : cR τ nv (up rc v r0) (up re v (drS s (re v))) (up rt v (drS s (rt v))) (up rs v (drS s (rs v))) := by
  intro u hu
  by_cases huv : u = v
  · subst huv
    rw [up_s, up_s, up_s, up_s, h2, h3, h4]
    refine ⟨rfl, fun k hk => ?_⟩
    unfold sh drS
    by_cases hks : s ≤ k
    · have hP : s ≤ k ∧ k < r0 := ⟨hks, hk⟩
      rw [if_pos hP, if_pos hP, if_pos hks, if_pos hks, if_pos hks]
      exact (c7 u hu).2 (k + 1) (by omega)
    · have hn : ¬ (s ≤ k ∧ k < r0) := fun z => hks z.1
      rw [if_neg hn, if_neg hn, if_neg hks, if_neg hks, if_neg hks]
      exact (c7 u hu).2 k (by omega)
  · obtain ⟨a, c, d⟩ := h1 u hu huv
    rw [up_n huv, up_n huv, up_n huv, up_n huv, a, c, d]
    exact c7 u hu
theorem mo_at {r p : Nat} (hr : r < p + 1) : moF σ r p 66 14 = nI p ∧ moF σ r p 66 19 = σ 66 19 + nI 1 ∧ moF σ r p 66 21 = σ 79 (3 * r) ∧ moF σ r p 66 22 = σ 79 (3 * r + 1) ∧ moF σ r p 66 23 = σ 79 (3 * r + 2) ∧ (∀ k, moF σ r p 78 k = if k = r then σ 78 p else σ 78 k) ∧ (∀ k, moF σ r p 80 k = if k = r then σ 80 p else σ 80 k) ∧ ∀ k i, i < 3 → moF σ r p 79 (3 * k + i) = if k = r then σ 79 (3 * p + i) else σ 79 (3 * k + i) := by
  unfold moF
  refine ⟨?_, ?_, ?_, ?_, ?_, fun k => ?_, fun k => ?_, fun k i hi => ?_⟩
  · rw [u2_k (by omega), cpF_c (by omega), u2_c (by omega), u2_c (by omega), u2_same]
  · rw [u2_same]
  · rw [u2_k (by omega), cpF_c (by omega), u2_c (by omega), u2_c (by omega), u2_k (by omega)]
    unfold tiF
    rw [u2_k (by omega), u2_k (by omega), u2_same]
  · rw [u2_k (by omega), cpF_c (by omega), u2_c (by omega), u2_c (by omega), u2_k (by omega)]
    unfold tiF
    rw [u2_k (by omega), u2_same]
  · rw [u2_k (by omega), cpF_c (by omega), u2_c (by omega), u2_c (by omega), u2_k (by omega)]
    unfold tiF
    rw [u2_same]
  · rw [u2_c (by omega), cpF_c (by omega), u2_c (by omega)]
    by_cases hk : k = r
    · rw [if_pos hk, hk, u2_same]
    · rw [if_neg hk, u2_k hk, u2_c (by omega), tiF_c (by omega)]
  · rw [u2_c (by omega), cpF_c (by omega)]
    by_cases hk : k = r
    · rw [if_pos hk, hk, u2_same]
    · rw [if_neg hk, u2_k hk, u2_c (by omega), u2_c (by omega), tiF_c (by omega)]
  · rw [u2_c (by omega)]
    by_cases hk : k = r
    · subst hk
      rw [if_pos rfl]
      have : i = 0 ∨ i = 1 ∨ i = 2 := by omega
      unfold cpF
      unfold cpF
      unfold cpF
      rcases this with rfl | rfl | rfl
      · rw [u2_k (by omega), u2_k (by omega), u2_same]
      · rw [u2_k (by omega), u2_same]
      · rw [u2_same]
    · rw [if_neg hk, cpF_79 3 (fun j hj => by omega), u2_c (by omega), u2_c (by omega), u2_c (by omega), tiF_c (by omega)]
theorem mQ_fire (m7 : mQ σ (q + 1) qg qe qt qs) {r : Nat} (hr : r < q + 1) : mQ (moF σ r q) q (up qg r (qg q)) (up qe r (qe q)) (up qt r (qt q)) (up qs r (qs q)) := by
  obtain ⟨a1, -, -, -, -, a2, a3, a4⟩ := mo_at (σ := σ) hr
  refine ⟨a1, fun k hk => ?_⟩
  have b0 := a4 k 0 (by omega)
  rw [Nat.add_zero, Nat.add_zero] at b0
  unfold mrO
  rw [a2, a3, b0, a4 k 1 (by omega), a4 k 2 (by omega)]
  by_cases hkr : k = r
  · subst hkr
    rw [if_pos rfl, if_pos rfl, if_pos rfl, if_pos rfl, if_pos rfl, up_s, up_s, up_s, up_s]
    exact m7.2 q (by omega)
  · rw [if_neg hkr, if_neg hkr, if_neg hkr, if_neg hkr, if_neg hkr, up_n hkr, up_n hkr, up_n hkr, up_n hkr]
    exact m7.2 k (by omega)
theorem sa_pred {p p' : Nat → Bool} {y : Int32} (h : ∀ i, i < ne → p i = p' i) (ρ : wd_S) : saF ρ p y cn ne = saF ρ p' y cn ne := by
  have : ∀ n, n ≤ ne → saF ρ p y cn n = saF ρ p' y cn n := by
    intro n
    induction n with
    | zero => intro _; rfl
    | succ n ih =>
      intro hn
      show (if p n = true then _ else _) = (if p' n = true then _ else _)
      rw [h n (by omega), ih (by omega)]
  exact this ne (Nat.le_refl _)
theorem k_fire (x : Int32) (h : Sim σ) : cmpS Sim xs 11 91 [.int x] σ := by
  obtain ⟨b, nv, ne, kd, dp, wk, fr, to, cn, vl, me, mt, ee, op, tt, rc, re, rt, rs, q0, qg, qe, qt, qs, dl, fi, se, ⟨hG, c1, m1⟩, ⟨c2, m2⟩, ⟨c3, m3⟩, ⟨c4, m4⟩, ⟨hM, c5, m5⟩, ⟨hI, c6, m6⟩, hR, c7, m7⟩ := id h
  have hn8 := hG.1
  have he12 := hG.2.1
  have hq32 := pR_32 hR hG.1
  rcases num_ok hG.1 hR c7 m7 x with ⟨a, c⟩ | ⟨v, s, r, hs, hv, hsr, hr, hrq, g1, g2, g3, g4⟩
  · exact cmp_ev (r_fire_bad c1.1 hG.1 x a) (m_fire_bad m7.1 hq32 x c) h
  · obtain ⟨q, rfl⟩ : ∃ q, q0 = q + 1 := ⟨q0 - 1, by omega⟩
    obtain ⟨r0, hr0⟩ : ∃ r0, rc v = r0 + 1 := ⟨rc v - 1, by omega⟩
    have hany := any_fu c5 m5 (σ (6 + 3 * v) 5) (-1) (p := fun i => decide (fr i = v)) (fun i hi => bi_out he12 c4 hv hi)
    have hroom : anyB (fun i => decide (fr i = v) && mlF σ (-1) i) ne = false → ∀ i, i < ne → decide (fr i = v) = true → cn i < 6 := fun ha i hi hp => room_lt (p := fun i => decide (fr i = v)) he12 hM m5 ha hi hp
    -- the reference at any state with its rows
    have hmod : ∀ ρ : wd_S, (∀ d, 66 ≤ d → ρ d = σ d) → _ := fun ρ hm => m_fire (xs := xs) (sim_mAO (σ := ρ) hG (m1.of (by rw [hm _ (by omega)]) (by rw [hm _ (by omega)]) (by rw [hm _ (by omega)])) (m3.of (hm _ (by omega)) (hm _ (by omega)) (hm _ (by omega)) (fun v _ _ => by rw [hm 70 (by omega), hm 72 (by omega)]; exact ⟨rfl, rfl⟩)) (m4.of (hm _ (by omega)) (hm _ (by omega)) (fun e _ _ => by rw [hm _ (by omega)])) hM (m5.of (hm _ (by omega)) (hm _ (by omega)) (hm _ (by omega))) hI (m6.of (hm _ (by omega)) (hm _ (by omega)) (hm _ (by omega))) hR (m7.of (by rw [hm _ (by omega)]) (hm _ (by omega)) (hm _ (by omega)) (hm _ (by omega)))) x (r := r) (by
        have : nuF ρ (q + 1) x = nuF σ (q + 1) x := by
          unfold nuF erB
          rw [hm 78 (by omega), hm 79 (by omega)]
        rw [this]
        exact hr) (fun ha i hi hfr => hroom (by
          rw [← ha, g1]
          refine anyB_congr fun i hi => ?_
          have e1 : mlF ρ (-1) i = mlF σ (-1) i := by
            unfold mlF
            rw [hm 75 (by omega)]
          rw [e1, hm 73 (by omega), fr_out hG m4 hv hi]) i hi (by rw [← fr_out hG m4 hv hi, ← hm 73 (by omega), ← g1]; exact decide_eq_true hfr))
    have hanym : ∀ ρ : wd_S, (∀ d, 66 ≤ d → ρ d = σ d) → anyB (fun i => decide (ρ 73 i = nI (qg r)) && mlF ρ (-1) i) ne = anyB (fun i => decide (fr i = v) && mlF σ (-1) i) ne := fun ρ hm => by
      rw [g1]
      refine anyB_congr fun i hi => ?_
      have e1 : mlF ρ (-1) i = mlF σ (-1) i := by
        unfold mlF
        rw [hm 75 (by omega)]
      rw [e1, hm 73 (by omega), fr_out hG m4 hv hi]
    have hah : ∀ ρ : wd_S, (∀ d, 66 ≤ d → ρ d = σ d) → caA σ nv ne fr to (gCd nv kd dp) cn rc ee op me mt re rt v s = maA ρ nv ne (q + 1) fr to (gCd nv kd dp) cn ee op me mt qg qe qt r := fun ρ hm => ahead_eq hM c5 (m5.of (hm _ (by omega)) (hm _ (by omega)) (hm _ (by omega))) hR hrq g1 g2 g3
    refine am_Ev.mono (r_fire (sim_aOK hG c1 c3 c4 hM c5 hI c6 hR c7) x hs (show s ≤ r0 by omega) hr0 (fun i hi hb ha => hroom (by rw [← hany]; exact ha) i hi (by rw [← bi_out he12 c4 hv hi]; exact hb))) ?_
    rintro _ _ ⟨τ, hτ, ⟨k1, rfl, rfl⟩ | ⟨k1, k2, rfl, rfl⟩ | ⟨k1, k2, rfl, rfl⟩⟩
    · have hm : ∀ d, 66 ≤ d → τ d = σ d := fun d hd => hτ d (by omega)
      refine ⟨_, τ, rfl, rfl, am_Ev.mono (hmod τ hm) ?_⟩
      rintro _ _ ⟨ρ, hρ, ⟨l1, rfl, rfl⟩ | ⟨l1, l2, rfl, rfl⟩ | ⟨l1, l2, rfl, rfl⟩⟩
      · exact ⟨rfl, ρ, rfl, h.of (fun d a1 a2 a3 a4 a5 => (hρ.1 d a2 a3 a4 a5).trans (hτ d a1)) (fun k a1 a2 a3 => (hρ.2 k a2 a3).trans (by rw [hm _ (by omega)]))⟩
      · rw [← hah τ hm] at l1
        omega
      · rw [← hah τ hm] at l1
        omega
    · have hm : ∀ d, 66 ≤ d → τ d = σ d := fun d hd => hτ d (by omega)
      rw [hany] at k2
      refine ⟨_, τ, rfl, rfl, am_Ev.mono (hmod τ hm) ?_⟩
      rintro _ _ ⟨ρ, hρ, ⟨l1, rfl, rfl⟩ | ⟨l1, l2, rfl, rfl⟩ | ⟨l1, l2, rfl, rfl⟩⟩
      · rw [← hah τ hm] at l1
        omega
      · exact ⟨rfl, ρ, rfl, h.of (fun d a1 a2 a3 a4 a5 => (hρ.1 d a2 a3 a4 a5).trans (hτ d a1)) (fun k a1 a2 a3 => (hρ.2 k a2 a3).trans (by rw [hm _ (by omega)]))⟩
      · rw [hanym τ hm, k2] at l2
        cases l2
    · rw [hany] at k2
      have hroom2 := hroom k2
      obtain ⟨d1, d2⟩ := (c7 v hv).2 s hsr
      have hτ5 : τ (6 + 3 * v) 5 = σ (6 + 3 * v) 5 := by rw [hτ _ (by omega)]
      have hτ7 : τ (7 + 3 * v) s = nI (tmE (re v s) (rt v s)) := by rw [hτ _ (by omega)]; exact d1
      have hτ8 : τ (8 + 3 * v) s = rs v s := by rw [hτ _ (by omega)]; exact d2
      have hcnt : cnt (biB (σ (6 + 3 * v) 5)) ne = cnt (fun i => decide (fr i = v)) ne := cnt_congr ne fun i hi => bi_out he12 c4 hv hi
      -- the program's state
      have hfi : fiF τ v r0 s ne cn = u2 (seF (u2 (dsF τ v r0 s) 1 3 (τ 1 3 + nI 1)) (σ (6 + 3 * v) 5) (rs v s) (nI (tmE (re v s) (rt v s))) cn ne) 1 4 (τ 1 4 + nI (cnt (fun i => decide (fr i = v)) ne)) := by
        unfold fiF
        rw [hτ5, hτ7, hτ8, hcnt]
      rw [hfi, hcnt]
      obtain ⟨s1, s2, s3, s4, s5⟩ := ds_at (σ := τ) (v := v) (r := r0) (s := s)
      generalize dsF τ v r0 s = α at *
      have e1 : ∀ d, d ≠ 1 → u2 α 1 3 (τ 1 3 + nI 1) d = α d := fun d hd => u2_row hd
      have e13 : u2 α 1 3 (τ 1 3 + nI 1) 1 3 = τ 1 3 + nI 1 := u2_same _ _ _ _
      have e1k : ∀ k, k ≠ 3 → u2 α 1 3 (τ 1 3 + nI 1) 1 k = σ 1 k := fun k hk => by rw [u2_k hk, s1 1 (by omega), hτ 1 (by omega)]
      generalize u2 α 1 3 (τ 1 3 + nI 1) = β at *
      have cMβ : cM β ne cn vl me mt := c5.of (fun e he => ⟨by rw [e1 _ (by omega), s1 _ (by omega), hτ _ (by omega)], by rw [e1 _ (by omega), s1 _ (by omega), hτ _ (by omega)], by rw [e1 _ (by omega), s1 _ (by omega), hτ _ (by omega)]⟩)
      have cM1 := sn_cM (x := rs v s) (p := fun i => decide (fr i = v)) (ep := re v s) (t := rt v s) (m := σ (6 + 3 * v) 5) cMβ (fun i hi => bi_out he12 c4 hv hi)
      have hse : ∀ e, _ := fun e => se_at (σ := β) (m := σ (6 + 3 * v) 5) (x := rs v s) (t := nI (tmE (re v s) (rt v s))) (cn := cn) e ne
      have hsc : ∀ d, d < 30 ∨ 66 ≤ d → seF β (σ (6 + 3 * v) 5) (rs v s) (nI (tmE (re v s) (rt v s))) cn ne d = β d := fun d hd => seF_c ne (by omega)
      generalize seF β (σ (6 + 3 * v) 5) (rs v s) (nI (tmE (re v s) (rt v s))) cn ne = γ at *
      have f1 : ∀ d, d ≠ 1 → u2 γ 1 4 (τ 1 4 + nI (cnt (fun i => decide (fr i = v)) ne)) d = γ d := fun d hd => u2_row hd
      have f14 : u2 γ 1 4 (τ 1 4 + nI (cnt (fun i => decide (fr i = v)) ne)) 1 4 = τ 1 4 + nI (cnt (fun i => decide (fr i = v)) ne) := u2_same _ _ _ _
      have f1k : ∀ k, k ≠ 4 → u2 γ 1 4 (τ 1 4 + nI (cnt (fun i => decide (fr i = v)) ne)) 1 k = β 1 k := fun k hk => by rw [u2_k hk, hsc 1 (by omega)]
      generalize u2 γ 1 4 (τ 1 4 + nI (cnt (fun i => decide (fr i = v)) ne)) = ρ at *
      have hm : ∀ d, 66 ≤ d → ρ d = σ d := fun d hd => by rw [f1 d (by omega), hsc d (by omega), e1 d (by omega), s1 d (by omega), hτ d (by omega)]
      refine ⟨_, ρ, rfl, rfl, am_Ev.mono (hmod ρ hm) ?_⟩
      have hpred : ∀ i, i < ne → decide (ρ 73 i = nI (qg r)) = decide (fr i = v) := fun i hi => by rw [g1, hm 73 (by omega), fr_out hG m4 hv hi]
      rintro _ _ ⟨θ, hθ, ⟨l1, rfl, rfl⟩ | ⟨l1, l2, rfl, rfl⟩ | ⟨l1, l2, rfl, rfl⟩⟩
      · rw [← hah ρ hm] at l1
        omega
      · rw [hanym ρ hm, k2] at l2
        cases l2
      · refine ⟨by rw [cnt_congr ne hpred], _, rfl, ?_⟩
        have hx80 : ρ 80 r = rs v s := by rw [hm 80 (by omega), (m7.2 r hrq).2, g4]
        rw [sa_pred hpred, hx80]
        have hθm : ∀ d, 66 < d → d < 81 → θ d = σ d := fun d h1 h2 => by rw [hθ.1 d (by omega) (by omega) (by omega) (by omega), hm d (by omega)]
        have hθc : ∀ d, d < 66 → θ d = ρ d := fun d h1 => hθ.1 d (by omega) (by omega) (by omega) (by omega)
        have hθ66 : ∀ k, k ≠ 22 → k ≠ 23 → θ 66 k = σ 66 k := fun k h1 h2 => by rw [hθ.2 k h1 h2, hm 66 (by omega)]
        have m7θ : mQ θ (q + 1) qg qe qt qs := m7.of (hθ66 _ (by omega) (by omega)) (hθm _ (by omega) (by omega)) (hθm _ (by omega) (by omega)) (hθm _ (by omega) (by omega))
        have mq1 := mQ_fire m7θ hrq
        obtain ⟨o14, o19, o21, o22, o23, -⟩ := mo_at (σ := θ) hrq
        obtain ⟨⟨n0, n1, n2, n3⟩, -⟩ := m7θ.2 r hrq
        rw [n1, g2] at o21
        rw [n2, g3] at o22
        rw [n3, g3] at o23
        rw [hθ66 19 (by omega) (by omega)] at o19
        have oc : ∀ d, d ≠ 66 ∧ d ≠ 78 ∧ d ≠ 79 ∧ d ≠ 80 → moF θ r q d = θ d := fun d hd => moF_c hd
        have o66 : ∀ k, k ≠ 14 ∧ k ≠ 19 ∧ k ≠ 21 ∧ k ≠ 22 ∧ k ≠ 23 → moF θ r q 66 k = σ 66 k := fun k hk => by rw [moF_66 hk, hθ66 k (by omega) (by omega)]
        generalize moF θ r q = μ at *
        have m5μ : mM μ ne cn vl me mt := m5.of (by rw [oc _ (by omega), hθm _ (by omega) (by omega)]) (by rw [oc _ (by omega), hθm _ (by omega) (by omega)]) (by rw [oc _ (by omega), hθm _ (by omega) (by omega)])
        have mM1 := sn_mM (x := rs v s) (p := fun i => decide (fr i = v)) (ep := re v s) (t := rt v s) (fun e he => (hM e he).1) hroom2 m5μ o21 o22 o23
        have h20 := (sa_at (σ := μ) (x := rs v s) (p := fun i => decide (fr i = v)) (cn := cn) ne hroom2).1
        have s66 : ∀ k, k ≠ 20 → saF μ (fun i => decide (fr i = v)) (rs v s) cn ne 66 k = μ 66 k := fun k hk => saF_66 hk ne
        have sc : ∀ d, d ≠ 66 ∧ d ≠ 75 ∧ d ≠ 76 ∧ d ≠ 77 → saF μ (fun i => decide (fr i = v)) (rs v s) cn ne d = μ d := fun d hd => saF_c hd ne
        have s75 : ∀ e, ne ≤ e → saF μ (fun i => decide (fr i = v)) (rs v s) cn ne 75 e = μ 75 e := fun e hd => saF_75 ne hd
        generalize saF μ (fun i => decide (fr i = v)) (rs v s) cn ne = ω at *
        have wc : ∀ d, d < 66 → ω d = ρ d := fun d hd => by rw [sc d (by omega), oc d (by omega), hθc d hd]
        have wv : ∀ d, d < 30 → d ≠ 1 → ω d = α d := fun d h1 h2 => by rw [wc d (by omega), f1 d h2, hsc d (by omega), e1 d h2]
        have we : ∀ d, 30 ≤ d → d < 66 → ω d = γ d := fun d h1 h2 => by rw [wc d h2, f1 d (by omega)]
        have wm : ∀ d, 66 < d → d < 81 → d ≠ 75 ∧ d ≠ 76 ∧ d ≠ 77 ∧ d ≠ 78 ∧ d ≠ 79 ∧ d ≠ 80 → ω d = σ d := fun d h1 h2 h3 => by rw [sc d (by omega), oc d (by omega), hθm d h1 h2]
        have w66 : ∀ k, k ≠ 14 ∧ k ≠ 19 ∧ k ≠ 20 ∧ k ≠ 21 ∧ k ≠ 22 ∧ k ≠ 23 → ω 66 k = σ 66 k := fun k hk => by rw [s66 k (by omega), o66 k (by omega)]
        have av : ∀ u k, u < 8 → (u ≠ v ∨ k ≠ 9) → α (6 + 3 * u) k = σ (6 + 3 * u) k := fun u k hu hk => by
          by_cases huv : u = v
          · subst huv
            rw [s2 k (by omega), hτ _ (by omega)]
          · rw [s1 _ (by omega), hτ _ (by omega)]
        have hτ1 : τ 1 = σ 1 := hτ 1 (by omega)
        have hkind := (hR.1 v hv).2.1 s hsr
        refine ⟨b, nv, ne, kd, dp, wk, fr, to, snC (fun i => decide (fr i = v)) cn, snV (fun i => decide (fr i = v)) cn vl (rs v s), snV (fun i => decide (fr i = v)) cn me (re v s), snV (fun i => decide (fr i = v)) cn mt (rt v s), ee, op, tt, up rc v r0, up re v (drS s (re v)), up rt v (drS s (rt v)), up rs v (drS s (rs v)), q, up qg r (qg q), up qe r (qe q), up qt r (qt q), up qs r (qs q), dl, fi + nI 1, se + nI (cnt (fun i => decide (fr i = v)) ne), ⟨hG, c1.of (by rw [wv 2 (by omega) (by omega), s1 2 (by omega), hτ 2 (by omega)]) (by rw [wc 1 (by omega), f1k 1 (by omega), e1k 1 (by omega)]), m1.of (w66 _ (by omega)) (w66 _ (by omega)) (w66 _ (by omega))⟩, ⟨⟨by rw [wc 1 (by omega), f1k 2 (by omega), e1k 2 (by omega)]; exact c2.1, by rw [wc 1 (by omega), f1k 3 (by omega), e13, hτ1, c2.2.1], by rw [wc 1 (by omega), f14, hτ1, c2.2.2]⟩, ⟨by rw [w66 18 (by omega)]; exact m2.1, by rw [s66 19 (by omega), o19, m2.2.1], by rw [h20, o66 20 (by omega), m2.2.2]⟩⟩, ⟨c3.of hn8 (fun u hu k hk => by rw [wv _ (by omega) (by omega), av u k (by omega) (by omega)]) (fun u h1 h2 => by rw [wv _ (by omega) (by omega), s1 _ (by omega), hτ _ (by omega)]), m3.of (wm _ (by omega) (by omega) (by omega)) (wm _ (by omega) (by omega) (by omega)) (wm _ (by omega) (by omega) (by omega)) (fun u _ _ => by rw [wm 70 (by omega) (by omega) (by omega), wm 72 (by omega) (by omega) (by omega)]; exact ⟨rfl, rfl⟩)⟩, ⟨c4.of he12 (fun e he => ?_) (fun u hu => by rw [wv _ (by omega) (by omega), av u 5 (by omega) (by omega)]) (fun e h1 he => ?_), m4.of (wm _ (by omega) (by omega) (by omega)) (wm _ (by omega) (by omega) (by omega)) (fun e h1 _ => by rw [s75 e h1, oc 75 (by omega), hθm 75 (by omega) (by omega)])⟩, ⟨sn_pM hM hroom2 hkind.2.2.1 (fun e he hp => ?_), cM1.of (fun e he => ⟨by rw [we _ (by omega) (by omega)], we _ (by omega) (by omega), we _ (by omega) (by omega)⟩), mM1⟩, ⟨hI, c6.of (fun u hu => by rw [wv _ (by omega) (by omega), av u 6 (by omega) (by omega), av u 7 (by omega) (by omega), av u 8 (by omega) (by omega)]; exact ⟨rfl, rfl, rfl⟩), m6.of (wm _ (by omega) (by omega) (by omega)) (wm _ (by omega) (by omega) (by omega)) (wm _ (by omega) (by omega) (by omega))⟩, pR_fire hR hv (by omega) hr0 hrq g1 g2 g3, cR_fire c7 hr0 (fun u hu huv => ⟨by rw [wv _ (by omega) (by omega), av u 9 (by omega) (Or.inl huv)], by rw [wv _ (by omega) (by omega), s1 _ (by omega), hτ _ (by omega)], by rw [wv _ (by omega) (by omega), s1 _ (by omega), hτ _ (by omega)]⟩) (by rw [wv _ (by omega) (by omega)]; exact s3) (by rw [wv _ (by omega) (by omega), s4, hτ _ (by omega)]) (by rw [wv _ (by omega) (by omega), s5, hτ _ (by omega)]), mq1.of (s66 _ (by omega)) (sc _ (by omega)) (sc _ (by omega)) (sc _ (by omega))⟩
        · rw [we _ (by omega) (by omega), (hse e).1 0, (hse e).1 1, if_neg (by omega), if_neg (by omega), e1 _ (by omega), s1 _ (by omega), hτ _ (by omega)]
          exact ⟨rfl, rfl⟩
        · rw [we _ (by omega) (by omega), (hse e).1 2, if_neg (by omega), e1 _ (by omega), s1 _ (by omega), hτ _ (by omega)]
        · have hfe := of_decide_eq_true hp
          obtain ⟨x1, x2, x3⟩ := hG.2.2.2 e he
          rw [← x3, hfe]
          unfold gDo
          rw [if_pos hv, hkind.1, if_neg (by decide)]
          exact hkind.2.2.2
end SIM
