/-! The calls that only ask. -/
/-- the program and the reference answer the same, and what is behind them keeps S -/
def cmpS (S : wd_S → Prop) (xs : List Int32) (m1 m2 : Nat) (As : List Value) (σ : wd_S) : Prop := am_Ev m1 (.ref 1 :: As) (wd xs σ) (fun v w => ∃ R σ1, v = some (.int R) ∧ w = wd xs σ1 ∧ am_Ev m2 (.ref 66 :: As) (wd xs σ1) (fun v w => v = some (.int R) ∧ ∃ σ2, w = wd xs σ2 ∧ S σ2))
theorem cmp_ev {S : wd_S → Prop} {xs : List Int32} {m1 m2 : Nat} {As : List Value} {σ σ1 σ2 : wd_S} {R : Int32} (h1 : ev xs m1 (.ref 1 :: As) σ R σ1) (h2 : ev xs m2 (.ref 66 :: As) σ1 R σ2) (hS : S σ2) : cmpS S xs m1 m2 As σ :=
  am_Ev.mono h1 fun v w h => ⟨R, σ1, h.1, h.2, am_Ev.mono h2 fun v' w' h' => ⟨h'.1, σ2, h'.2, hS⟩⟩
theorem cmp_ev' {S : wd_S → Prop} {xs : List Int32} {m1 m2 : Nat} {As : List Value} {σ σ1 σ2 : wd_S} {R R' : Int32} (h1 : ev xs m1 (.ref 1 :: As) σ R σ1) (h2 : ev xs m2 (.ref 66 :: As) σ1 R' σ2) (hR : R = R') (hS : S σ2) : cmpS S xs m1 m2 As σ := by
  subst hR
  exact cmp_ev h1 h2 hS
section SIM
variable {xs : List Int32} {σ τ : wd_S} {b : Bool} {nv ne : Nat} {kd dp wk fr to cn : Nat → Nat} {vl : Nat → Nat → Int32} {me : Nat → Nat → Nat} {mt : Nat → Nat → Nat × Nat} {ee : Nat → Nat} {op : Nat → Bool} {tt : Nat → Int32} {rc : Nat → Nat} {re : Nat → Nat → Nat} {rt : Nat → Nat → Nat × Nat} {rs : Nat → Nat → Int32} {q : Nat} {qg qe : Nat → Nat} {qt : Nat → Nat × Nat} {qs : Nat → Int32} {dl fi se : Int32}
theorem k_times (x : Int32) (h : Sim σ) : cmpS Sim xs 16 96 [.int x] σ := by
  obtain ⟨b, nv, ne, kd, dp, wk, fr, to, cn, vl, me, mt, ee, op, tt, rc, re, rt, rs, q, qg, qe, qt, qs, dl, fi, se, hA⟩ := id h
  obtain ⟨-, ⟨⟨a1, a2, a3⟩, ⟨b1, b2, b3⟩⟩, -⟩ := hA
  refine cmp_ev' (r_times x) (m_times x) ?_ h
  rw [a1, a2, a3, b1, b2, b3]
theorem k_total (x : Int32) (h : Sim σ) : cmpS Sim xs 14 94 [.int x] σ := by
  obtain ⟨b, nv, ne, kd, dp, wk, fr, to, cn, vl, me, mt, ee, op, tt, rc, re, rt, rs, q, qg, qe, qt, qs, dl, fi, se, hA⟩ := id h
  obtain ⟨⟨hG, c1, m1⟩, -, -, -, -, ⟨-, c5, m5⟩, -⟩ := hA
  have hn8 := hG.1
  refine cmp_ev' (r_total c1.1 hG.1 x) (m_total m1.1 hG.1 x) ?_ h
  by_cases hx : inB x nv = true
  · obtain ⟨j, hj, rfl⟩ := inB_ex (by omega) hx
    rw [if_pos hx, if_pos hx, nI_clamp (by omega), (c5 j hj).2.2, (m5 j hj).2.2]
  · rw [if_neg hx, if_neg hx]
theorem k_waiting (x : Int32) (h : Sim σ) : cmpS Sim xs 12 92 [.int x] σ := by
  obtain ⟨b, nv, ne, kd, dp, wk, fr, to, cn, vl, me, mt, ee, op, tt, rc, re, rt, rs, q, qg, qe, qt, qs, dl, fi, se, hA⟩ := id h
  obtain ⟨⟨hG, c1, m1⟩, -, -, -, ⟨-, c4, m4⟩, -⟩ := hA
  have hn8 := hG.2.1
  refine cmp_ev' (r_waiting c1.2.1 hG.2.1 x) (m_waiting m1.2.1 hG.2.1 x) ?_ h
  by_cases hx : inB x ne = true
  · obtain ⟨j, hj, rfl⟩ := inB_ex (by omega) hx
    rw [if_pos hx, if_pos hx, nI_clamp (by omega), (c4 j hj).1, (m4 j hj).1]
  · rw [if_neg hx, if_neg hx]
theorem sI_nI {f : Nat → Int32} {g : Nat → Nat} : ∀ n, (∀ i, i < n → f i = nI (g i)) → sI f n = nI (sumN g n) := by
  intro n
  induction n with
  | zero => intro _; rfl
  | succ n ih =>
    intro h
    show sI f n + f n = nI (sumN g n + g n)
    rw [ih fun i hi => h i (by omega), h n (by omega), nI_add]
theorem k_requests (h : Sim σ) : cmpS Sim xs 8 81 [] σ := by
  obtain ⟨b, nv, ne, kd, dp, wk, fr, to, cn, vl, me, mt, ee, op, tt, rc, re, rt, rs, q, qg, qe, qt, qs, dl, fi, se, hA⟩ := id h
  obtain ⟨⟨hG, c1, m1⟩, -, -, -, -, -, hR, c6, m6⟩ := hA
  refine cmp_ev' (r_requests c1.1 hG.1) m_requests ?_ h
  rw [m6.1, pR_q hR]
  exact sI_nI nv fun v hv => (c6 v hv).1
/-- the first of a time is the first for both -/
theorem ifB_st {e : Nat} (he : e < ne) (hM : pM nv ne kd dp to cn me mt) (c4 : cM σ ne cn vl me mt) (m4 : mM τ ne cn vl me mt) {k : Nat} (hk : k < cn e) : ifB σ e k = !(anyB (stB τ e k) k) := by
  unfold ifB
  congr 1
  have hj : ∀ j, j < k → decide (σ (32 + 3 * e) j = σ (32 + 3 * e) k) = stB τ e k j := by
    intro j hj
    obtain ⟨-, a⟩ := (c4 e he).2 j (by omega)
    obtain ⟨-, a'⟩ := (c4 e he).2 k hk
    obtain ⟨-, d1, d2, d3⟩ := (m4 e he).2 j (by omega)
    obtain ⟨-, f1, f2, f3⟩ := (m4 e he).2 k hk
    obtain ⟨o1, -⟩ := (hM e he).2 j (by omega)
    obtain ⟨o2, -⟩ := (hM e he).2 k hk
    have hinj := tmE_inj o1 o2
    obtain ⟨p1, p2, p3⟩ := o1
    obtain ⟨r1, r2, r3⟩ := o2
    unfold stB
    rw [a, a', d1, d2, d3, f1, f2, f3]
    rw [Bool.eq_iff_iff, decide_eq_true_iff, hinj, Bool.and_eq_true, Bool.and_eq_true, decide_eq_true_iff, decide_eq_true_iff, decide_eq_true_iff, nI_eq (by omega) (by omega), nI_eq (by omega) (by omega), nI_eq (by omega) (by omega), Prod.ext_iff]
  cases h : anyB (stB τ e k) k with
  | true =>
    obtain ⟨j, h1, h2⟩ := anyB_t.mp h
    exact anyB_t.mpr ⟨j, h1, by rw [hj j h1]; exact h2⟩
  | false => exact anyB_f.mpr fun j h1 => by rw [hj j h1]; exact anyB_f.mp h j h1
theorem k_points (h : Sim σ) : cmpS Sim xs 15 95 [] σ := by
  obtain ⟨b, nv, ne, kd, dp, wk, fr, to, cn, vl, me, mt, ee, op, tt, rc, re, rt, rs, q, qg, qe, qt, qs, dl, fi, se, hA⟩ := id h
  obtain ⟨⟨hG, c1, m1⟩, -, -, -, ⟨hM, c4, m4⟩, ⟨-, c5, m5⟩, hR, c6, m6⟩ := hA
  refine cmp_ev' (r_points c1.1 hG.1 c1.2.1 hG.2.1 cn (fun i hi => ⟨(c4 i hi).1, (hM i hi).1⟩) op (fun v hv => (c5 v hv).2.1)) (m_points m1.1 hG.1 m1.2.1 hG.2.1 cn (fun i hi => ⟨(m4 i hi).1, (hM i hi).1⟩) op (fun v hv => (m5 v hv).2.1)) ?_ h
  have e1 : sI (fun v => σ (6 + 3 * v) 9) nv = σ 66 14 := by
    rw [m6.1, pR_q hR]
    exact sI_nI nv fun v hv => (c6 v hv).1
  have e2 : sumN (fun i => cnt (ifB σ i) (cn i)) ne = sumN (fun i => cnt (fun k => !(anyB (stB σ i k) k)) (cn i)) ne := sumN_congr ne fun i hi => cnt_congr (cn i) fun k hk => ifB_st hi hM c4 m4 hk
  rw [e1, e2]
theorem k_message (x y z : Int32) (h : Sim σ) : cmpS Sim xs 13 93 [.int x, .int y, .int z] σ := by
  obtain ⟨b, nv, ne, kd, dp, wk, fr, to, cn, vl, me, mt, ee, op, tt, rc, re, rt, rs, q, qg, qe, qt, qs, dl, fi, se, hA⟩ := id h
  obtain ⟨⟨hG, c1, m1⟩, -, -, -, ⟨hM, c4, m4⟩, -⟩ := hA
  have hn8 := hG.2.1
  refine cmp_ev' (r_message c1.2.1 hG.2.1 cn (fun i hi => ⟨(c4 i hi).1, (hM i hi).1⟩) x y z) (m_message m1.2.1 hG.2.1 cn (fun i hi => ⟨(m4 i hi).1, (hM i hi).1⟩) x y z) ?_ h
  by_cases hx : inB x ne = true ∧ inB z 4 = true ∧ inB y (cn x.toNatClampNeg) = true
  · rw [if_pos hx, if_pos hx]
    obtain ⟨hx, hz, hy⟩ := hx
    obtain ⟨i, hi, rfl⟩ := inB_ex (by omega) hx
    rw [nI_clamp (by omega)] at hy ⊢
    have h6 := (hM i hi).1
    obtain ⟨k, hk, rfl⟩ := inB_ex (by omega) hy
    obtain ⟨w, hw, rfl⟩ := inB_ex (by omega) hz
    rw [nI_clamp (by omega), nI_clamp (by omega)]
    obtain ⟨a1, a2⟩ := (c4 i hi).2 k hk
    obtain ⟨d1, d2, d3, d4⟩ := (m4 i hi).2 k hk
    obtain ⟨o1, -⟩ := (hM i hi).2 k hk
    by_cases hw0 : w = 0
    · subst hw0
      have z0 : nI 0 = (0 : Int32) := rfl
      rw [if_pos z0, if_pos z0, a1, d1]
    · have hn : ¬ nI w = 0 := fun z => hw0 ((nI_eq (b := 0) (by omega) (by omega)).mp z)
      rw [if_neg hn, if_neg hn, a2, tm_part o1 w (by omega)]
      have : w = 1 ∨ w = 2 ∨ w = 3 := by omega
      rcases this with rfl | rfl | rfl
      · rw [if_pos rfl, Nat.add_sub_cancel, d2]
      · rw [if_neg (by decide), if_pos rfl, show 18 * i + 3 * k + 2 - 1 = 18 * i + 3 * k + 1 by omega, d3]
      · rw [if_neg (by decide), if_neg (by decide), show 18 * i + 3 * k + 3 - 1 = 18 * i + 3 * k + 2 by omega, d4]
  · rw [if_neg hx, if_neg hx]
end SIM
