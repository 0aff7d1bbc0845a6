/-! The masks of STEP; the two states behind a taking. -/
set_option maxRecDepth 100000 in
theorem st_bits : ∀ k, k < 4096 → ∀ e, e < 12 → tB (nI k &&& -nI k) e = (k.testBit e && decide (cnt (fun j => k.testBit j) e = 0)) ∧ tB ((nI k - (nI k &&& -nI k)) &&& -(nI k - (nI k &&& -nI k))) e = (k.testBit e && decide (cnt (fun j => k.testBit j) e = 1)) := by decide +kernel
section SIM
variable {xs : List Int32} {σ τ : wd_S} {b : Bool} {nv ne : Nat} {kd dp wk fr to cn : Nat → Nat} {vl : Nat → Nat → Int32} {me : Nat → Nat → Nat} {mt : Nat → Nat → Nat × Nat} {ee : Nat → Nat} {op : Nat → Bool} {tt : Nat → Int32} {rc : Nat → Nat} {re : Nat → Nat → Nat} {rt : Nat → Nat → Nat × Nat} {rs : Nat → Nat → Int32} {q : Nat} {qg qe : Nat → Nat} {qt : Nat → Nat × Nat} {qs : Nat → Int32} {dl fi se : Int32}
theorem tg_step {m : Int32} {p : Nat → Bool} (he12 : ne ≤ 12) (hb : ∀ e, e < 32 → tB m e = (decide (e < ne) && p e)) {e : Nat} (he : e < ne) : biB (m &&& -m) e = (p e && decide (cnt p e = 0)) ∧ biB ((m - (m &&& -m)) &&& -(m - (m &&& -m))) e = (p e && decide (cnt p e = 1)) := by
  have hk : m = nI m.toBitVec.toNat := by
    apply Int32.toBitVec_inj.mp
    show m.toBitVec = BitVec.ofNat 32 m.toBitVec.toNat
    simp
  have hbit : ∀ j, j < 32 → m.toBitVec.toNat.testBit j = (decide (j < ne) && p j) := fun j hj => hb j hj
  have hlt : m.toBitVec.toNat < 4096 := by
    refine Nat.lt_pow_two_of_testBit (n := 12) _ fun j hj => ?_
    rcases Nat.lt_or_ge j 32 with z | z
    · rw [hbit j z, decide_eq_false (by omega), Bool.false_and]
    · exact Nat.testBit_lt_two_pow (Nat.lt_of_lt_of_le m.toBitVec.isLt (Nat.pow_le_pow_right (by omega) z))
  have hs := st_bits _ hlt e (by omega)
  rw [← hk] at hs
  have hc : cnt (fun j => m.toBitVec.toNat.testBit j) e = cnt p e := cnt_congr e fun j hj => by rw [hbit j (by omega), decide_eq_true (by omega), Bool.true_and]
  have hpe : m.toBitVec.toNat.testBit e = p e := by rw [hbit e (by omega), decide_eq_true he, Bool.true_and]
  rw [hc, hpe] at hs
  rw [biB_t (by omega), biB_t (by omega)]
  exact hs
theorem ld_eq {p : Nat → Bool} {m n e : Nat} (he : e < n) : decide (ldF p m n = some e) = (p e && decide (cnt p e = m)) := by
  cases hp : (p e && decide (cnt p e = m)) with
  | true =>
    refine decide_eq_true (fst1_some he hp fun i hi => ?_)
    rw [Bool.and_eq_true, decide_eq_true_iff] at hp
    cases hpi : p i with
    | false => rfl
    | true =>
      rw [Bool.true_and]
      refine decide_eq_false fun z => ?_
      have h1 : cnt p (i + 1) = cnt p i + 1 := cnt_t hpi
      have h2 : ∀ d, cnt p (i + 1) ≤ cnt p (i + 1 + d) := fun d => by
        induction d with
        | zero => exact Nat.le_refl _
        | succ d ih => exact Nat.le_trans ih (Nat.le_add_right _ _)
      have h3 := h2 (e - (i + 1))
      rw [show i + 1 + (e - (i + 1)) = e by omega] at h3
      omega
  | false =>
    refine decide_eq_false fun z => ?_
    have := (fst1_lt z).2
    rw [this] at hp
    cases hp
theorem p1_sa {j : Nat} {x : Int32} (hj : j < ne) : p1F σ j (cn j) x = saF σ (fun e => decide (e = j)) x cn ne := by
  have : ∀ n, saF σ (fun e => decide (e = j)) x cn n = if j < n then p1F σ j (cn j) x else σ := by
    intro n
    induction n with
    | zero => rw [if_neg (by omega)]; rfl
    | succ n ih =>
      show (if decide (n = j) = true then p1F (saF σ (fun e => decide (e = j)) x cn n) n (cn n) x else saF σ (fun e => decide (e = j)) x cn n) = _
      by_cases hn : n = j
      · subst hn
        rw [if_pos (decide_eq_true rfl), ih, if_neg (Nat.lt_irrefl _), if_pos (by omega)]
      · have hd : ¬ decide (n = j) = true := fun z => hn (of_decide_eq_true z)
        rw [if_neg hd, ih]
        by_cases hjn : j < n
        · rw [if_pos hjn, if_pos (by omega)]
        · rw [if_neg hjn, if_neg (by omega)]
  rw [this ne, if_pos hj]
theorem take_A {i c v : Nat} {X : Int32} (hG : pG nv ne kd dp wk fr to) (hi : i < ne) (hv : v < nv) (hc : cn i = c + 1) (c1 : cS σ b nv ne) (c2 : cC σ dl fi se) (c3 : cV σ nv kd dp wk) (c4 : cE σ nv ne fr to) (c5 : cM σ ne cn vl me mt) (c6 : cI σ nv ee op tt) (c7 : cR σ nv rc re rt rs) {A : wd_S} (hA : A = u2 (u2 (dfF σ i c) 1 2 (σ 1 2 + nI 1)) (6 + 3 * v) 6 (σ (6 + 3 * v) 6 + X)) : cS A b nv ne ∧ cC A (dl + nI 1) fi se ∧ cV A nv kd dp wk ∧ cE A nv ne fr to ∧ cM A ne (up cn i c) (up vl i (drS 0 (vl i))) (up me i (drS 0 (me i))) (up mt i (drS 0 (mt i))) ∧ cI A nv ee op (up tt v (tt v + X)) ∧ cR A nv rc re rt rs := by
  have hn8 := hG.1
  have he12 := hG.2.1
  have a1 : ∀ d, d ≠ 1 → d ≠ 6 + 3 * v → A d = dfF σ i c d := fun d h1 h2 => by rw [hA, u2_row h2, u2_row h1]
  have a2 : ∀ d, d < 30 → d ≠ 1 → d ≠ 6 + 3 * v → A d = σ d := fun d h1 h2 h3 => by rw [a1 d h2 h3, dfF_c (by omega)]
  have a3 : ∀ k, k ≠ 2 → A 1 k = σ 1 k := fun k hk => by rw [hA, u2_c (by omega), u2_k hk, dfF_c (by omega)]
  have a4 : A 1 2 = σ 1 2 + nI 1 := by rw [hA, u2_c (by omega), u2_same]
  have a5 : ∀ k, k ≠ 6 → A (6 + 3 * v) k = σ (6 + 3 * v) k := fun k hk => by rw [hA, u2_k hk, u2_c (by omega), dfF_c (by omega)]
  have a6 : A (6 + 3 * v) 6 = σ (6 + 3 * v) 6 + X := by rw [hA, u2_same]
  have av : ∀ u k, u < 8 → (u ≠ v ∨ k ≠ 6) → A (6 + 3 * u) k = σ (6 + 3 * u) k := fun u k hu hk => by
    by_cases huv : u = v
    · subst huv
      exact a5 k (by omega)
    · rw [a2 _ (by omega) (by omega) (by omega)]
  have ae : ∀ e k, e < 12 → k ≠ 2 → A (30 + 3 * e) k = σ (30 + 3 * e) k := fun e k he hk => by
    rw [a1 _ (by omega) (by omega)]
    by_cases hei : e = i
    · subst hei
      unfold dfF
      rw [rws_c (by omega), rws_c (by omega), u2_k hk]
    · rw [dfF_c (by omega)]
  refine ⟨c1.of (a2 2 (by omega) (by omega) (by omega)) (a3 1 (by omega)), ⟨by rw [a4, c2.1], by rw [a3 3 (by omega)]; exact c2.2.1, by rw [a3 4 (by omega)]; exact c2.2.2⟩, c3.of hn8 (fun u hu k hk => av u k (by omega) (by omega)) (fun u h1 h2 => a2 _ (by omega) (by omega) (by omega)), c4.of he12 (fun e he => ⟨ae e 0 he (by omega), ae e 1 he (by omega)⟩) (fun u hu => av u 5 (by omega) (by omega)) (fun e h1 h2 => by rw [a1 _ (by omega) (by omega), dfF_c (by omega)]), (df_cM c5 hc).of (fun e he => ⟨by rw [a1 _ (by omega) (by omega)], a1 _ (by omega) (by omega), a1 _ (by omega) (by omega)⟩), fun u hu => ?_, c7.of (fun u hu => ⟨av u 9 (by omega) (by omega), a2 _ (by omega) (by omega) (by omega), a2 _ (by omega) (by omega) (by omega)⟩)⟩
  rw [av u 7 (by omega) (by omega), av u 8 (by omega) (by omega)]
  by_cases huv : u = v
  · subst huv
    rw [a6, up_s, (c6 u hu).2.2]
    exact ⟨(c6 u hu).1, (c6 u hu).2.1, rfl⟩
  · rw [av u 6 (by omega) (by omega), up_n huv]
    exact c6 u hu
theorem take_B {i c v : Nat} {X : Int32} (hG : pG nv ne kd dp wk fr to) (hM : pM nv ne kd dp to cn me mt) (hi : i < ne) (hv : v < nv) (hc : cn i = c + 1) (m1 : mS σ b nv ne) (m2 : mC σ dl fi se) (m3 : mV σ nv kd dp wk) (m4 : mE σ ne fr to) (m5 : mM σ ne cn vl me mt) (m6 : mI σ nv ee op tt) (m7 : mQ σ q qg qe qt qs) {B : wd_S} (hB : B = u2 (u2 (tkF (t1F σ i) i c c (3 * c)) 66 18 (σ 66 18 + nI 1)) 72 v (σ 72 v + X)) : mS B b nv ne ∧ mC B (dl + nI 1) fi se ∧ mV B nv kd dp wk ∧ mE B ne fr to ∧ mM B ne (up cn i c) (up vl i (drS 0 (vl i))) (up me i (drS 0 (me i))) (up mt i (drS 0 (mt i))) ∧ mI B nv ee op (up tt v (tt v + X)) ∧ mQ B q qg qe qt qs ∧ B 66 21 = nI (me i 0) ∧ B 66 22 = nI (mt i 0).1 ∧ B 66 23 = nI (mt i 0).2 ∧ ∀ d, d < 66 → B d = σ d := by
  have hn8 := hG.1
  have he12 := hG.2.1
  have t0 : ∀ d, d ≠ 66 → t1F σ i d = σ d := fun d hd => by
    unfold t1F
    exact tiF_c hd
  have k0 : ∀ d, d ≠ 75 → d ≠ 76 → d ≠ 77 → tkF (t1F σ i) i c c (3 * c) d = t1F σ i d := fun d h1 h2 h3 => by
    unfold tkF
    rw [rws_c h3, rws_c h2, u2_row h1]
  have k75 : ∀ e, e ≠ i → tkF (t1F σ i) i c c (3 * c) 75 e = σ 75 e := fun e he => by
    unfold tkF
    rw [rws_c (by omega), rws_c (by omega), u2_k he, t0 75 (by omega)]
  have b0 : ∀ d, d ≠ 66 → d ≠ 72 → d ≠ 75 → d ≠ 76 → d ≠ 77 → B d = σ d := fun d h1 h2 h3 h4 h5 => by rw [hB, u2_row h2, u2_row h1, k0 d h3 h4 h5, t0 d h1]
  have b1 : ∀ d, d = 75 ∨ d = 76 ∨ d = 77 → B d = tkF (t1F σ i) i c c (3 * c) d := fun d h1 => by rw [hB, u2_row (by omega), u2_row (by omega)]
  have b66 : ∀ k, k ≠ 18 → B 66 k = t1F σ i 66 k := fun k hk => by rw [hB, u2_c (by omega), u2_k hk, k0 66 (by omega) (by omega) (by omega)]
  have bk : ∀ k, k ≠ 18 ∧ k ≠ 21 ∧ k ≠ 22 ∧ k ≠ 23 → B 66 k = σ 66 k := fun k hk => by
    rw [b66 k hk.1]
    unfold t1F
    rw [tiF_k hk.2]
  have b18 : B 66 18 = σ 66 18 + nI 1 := by rw [hB, u2_c (by omega), u2_same]
  have b72 : ∀ u, u ≠ v → B 72 u = σ 72 u := fun u hu => by rw [hB, u2_k hu, u2_c (by omega), k0 72 (by omega) (by omega) (by omega), t0 72 (by omega)]
  have b72v : B 72 v = σ 72 v + X := by rw [hB, u2_same]
  obtain ⟨x0, x1, x2, x3⟩ := (m5 i hi).2 0 (by omega)
  have m5t : mM (t1F σ i) ne cn vl me mt := m5.of (t0 _ (by omega)) (t0 _ (by omega)) (t0 _ (by omega))
  refine ⟨m1.of (bk _ (by omega)) (bk _ (by omega)) (bk _ (by omega)), ⟨by rw [b18, m2.1], by rw [bk 19 (by omega)]; exact m2.2.1, by rw [bk 20 (by omega)]; exact m2.2.2⟩, m3.of (b0 _ (by omega) (by omega) (by omega) (by omega) (by omega)) (b0 _ (by omega) (by omega) (by omega) (by omega) (by omega)) (b0 _ (by omega) (by omega) (by omega) (by omega) (by omega)) (fun u h1 h2 => ⟨by rw [b0 70 (by omega) (by omega) (by omega) (by omega) (by omega)], b72 u (by omega)⟩), m4.of (b0 _ (by omega) (by omega) (by omega) (by omega) (by omega)) (b0 _ (by omega) (by omega) (by omega) (by omega) (by omega)) (fun e h1 _ => by rw [b1 75 (by omega), k75 e (by omega)]), (tk_mM (fun e he => (hM e he).1) m5t hi hc).of (b1 _ (by omega)) (b1 _ (by omega)) (b1 _ (by omega)), fun u hu => ?_, m7.of (bk _ (by omega)) (b0 _ (by omega) (by omega) (by omega) (by omega) (by omega)) (b0 _ (by omega) (by omega) (by omega) (by omega) (by omega)) (b0 _ (by omega) (by omega) (by omega) (by omega) (by omega)), ?_, ?_, ?_, fun d hd => b0 d (by omega) (by omega) (by omega) (by omega) (by omega)⟩
  · rw [b0 70 (by omega) (by omega) (by omega) (by omega) (by omega), b0 71 (by omega) (by omega) (by omega) (by omega) (by omega)]
    by_cases huv : u = v
    · subst huv
      rw [b72v, up_s, (m6 u hu).2.2]
      exact ⟨(m6 u hu).1, (m6 u hu).2.1, rfl⟩
    · rw [b72 u huv, up_n huv]
      exact m6 u hu
  · rw [b66 21 (by omega)]
    unfold t1F tiF
    rw [u2_k (by omega), u2_k (by omega), u2_same]
    exact x1
  · rw [b66 22 (by omega)]
    unfold t1F tiF
    rw [u2_k (by omega), u2_same]
    exact x2
  · rw [b66 23 (by omega)]
    unfold t1F tiF
    rw [u2_same]
    exact x3
end SIM
