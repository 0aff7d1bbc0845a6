/-! Taking a message, passing it on. -/
section SIM
variable {xs : List Int32} {σ τ : wd_S} {b : Bool} {nv ne : Nat} {kd dp wk fr to cn : Nat → Nat} {vl : Nat → Nat → Int32} {me : Nat → Nat → Nat} {mt : Nat → Nat → Nat × Nat} {ee : Nat → Nat} {op : Nat → Bool} {tt : Nat → Int32} {rc : Nat → Nat} {re : Nat → Nat → Nat} {rt : Nat → Nat → Nat × Nat} {rs : Nat → Nat → Int32} {q : Nat} {qg qe : Nat → Nat} {qt : Nat → Nat × Nat} {qs : Nat → Int32} {dl fi se : Int32}
theorem tm_bit {e i : Nat} {t : Nat × Nat} (h : tmOK e t) : (tmE e t).testBit i = if i < 20 then (enT t).testBit i else e.testBit (i - 20) := by
  have h2 := (tmE_lt h).2.1
  show (e * 1048576 + enT t).testBit i = _
  rw [Nat.mul_comm, show (1048576 : Nat) = 2 ^ 20 from rfl]
  exact Nat.testBit_two_pow_mul_add e (by omega) i
/-- what a vertex does to a whole time -/
theorem tmT_ok {k d e : Nat} (h : vOK k d) {t : Nat × Nat} (ho : tmOK e t) (ht : bf_dp (if k = 2 then d - 1 else d) t) : (nI (tmE e t) &&& stF k d) + adF k d = nI (tmE e (bf_b (if k = 2 ∨ k = 3 then d else if k = 4 then d + 2 else 0) t)) := by
  obtain ⟨a, c⟩ := t
  obtain ⟨o1, o2, o3⟩ := id ho
  change a ≤ 15 at o2
  change c ≤ 15 at o3
  have e0 : ∀ x : Int32, x + nI 0 = x := fun x => by
    show x + 0 = x
    exact Int32.add_zero x
  rcases vOK_cases h with ⟨rfl, rfl⟩ | ⟨rfl, hd⟩ | ⟨rfl, rfl⟩ | ⟨rfl, rfl⟩ | ⟨rfl, rfl⟩ | ⟨rfl, rfl⟩ | ⟨rfl, rfl⟩ | ⟨rfl, rfl⟩
  · show (nI (tmE e (a, c)) &&& (-1)) + nI 0 = _
    rw [and_m, e0]
    rfl
  · show (nI (tmE e (a, c)) &&& (-1)) + nI 0 = _
    rw [and_m, e0]
    rfl
  · show (nI (tmE e (a, c)) &&& (-1)) + nI 0 = _
    rw [and_m, e0]
    have hz := ht.1 rfl
    rw [hz]
    rfl
  · show (nI (tmE e (a, c)) &&& (-1)) + nI 0 = _
    rw [and_m, e0]
    have hz : c = 0 := ht.2 rfl
    subst hz
    rfl
  · show (nI (tmE e (a, c)) &&& stF 3 1) + nI 0 = nI (tmE e (0, c))
    rw [e0]
    have hz : c = 0 := ht.2 rfl
    subst hz
    refine tB_ext fun i hi => ?_
    rw [tB_and, st_1 i hi, tB_nI hi, tB_nI hi, tm_bit ho, tm_bit ⟨o1, by show 0 ≤ 15; omega, by show 0 ≤ 15; omega⟩, enT_bit (by omega), enT_bit (by omega)]
    by_cases h20 : i < 20
    · rw [if_pos h20, if_pos h20]
      by_cases h10 : i < 10
      · rw [if_pos h10, if_pos h10, Nat.zero_testBit, Bool.false_and]
      · rw [if_neg h10, if_neg h10, Nat.zero_testBit, decide_eq_false h10, decide_eq_false (show ¬ 20 ≤ i by omega), Bool.or_false, Bool.and_false]
    · rw [if_neg h20, if_neg h20, decide_eq_true (show 20 ≤ i by omega), Bool.or_true, Bool.and_true]
  · show (nI (tmE e (a, c)) &&& stF 3 2) + nI 0 = nI (tmE e (a, 0))
    rw [e0]
    refine tB_ext fun i hi => ?_
    rw [tB_and, st_2 i hi, tB_nI hi, tB_nI hi, tm_bit ho, tm_bit ⟨o1, o2, by show 0 ≤ 15; omega⟩, enT_bit (by omega), enT_bit (by omega)]
    by_cases h20 : i < 20
    · rw [if_pos h20, if_pos h20]
      by_cases h10 : i < 10
      · rw [if_pos h10, if_pos h10, Nat.zero_testBit, decide_eq_false (show ¬ 10 ≤ i by omega), Bool.and_false]
      · rw [if_neg h10, if_neg h10, decide_eq_true (show 10 ≤ i by omega), Bool.and_true]
    · rw [if_neg h20, if_neg h20, decide_eq_true (show 10 ≤ i by omega), Bool.and_true]
  · show (nI (tmE e (a, c)) &&& (-1)) + adF 4 1 = nI (tmE e (a + 1, c))
    rw [and_m, show adF 4 1 = nI 1024 by decide, nI_add]
    show nI (e * 1048576 + (a * 1024 + c) + 1024) = nI (e * 1048576 + ((a + 1) * 1024 + c))
    rw [show e * 1048576 + (a * 1024 + c) + 1024 = e * 1048576 + ((a + 1) * 1024 + c) by omega]
  · show (nI (tmE e (a, c)) &&& (-1)) + adF 4 2 = nI (tmE e (a, c + 1))
    rw [and_m, show adF 4 2 = nI 1 by decide, nI_add]
    show nI (e * 1048576 + (a * 1024 + c) + 1) = nI (e * 1048576 + (a * 1024 + (c + 1)))
    rw [show e * 1048576 + (a * 1024 + c) + 1 = e * 1048576 + (a * 1024 + (c + 1)) by omega]
theorem df_cM (c5 : cM σ ne cn vl me mt) {i c : Nat} (hc : cn i = c + 1) : cM (dfF σ i c) ne (up cn i c) (up vl i (drS 0 (vl i))) (up me i (drS 0 (me i))) (up mt i (drS 0 (mt i))) := by
  intro e he
  by_cases hei : e = i
  · subst hei
    rw [up_s, up_s, up_s, up_s, dfF_n]
    refine ⟨rfl, fun k hk => ?_⟩
    have h1 : dfF σ e c (31 + 3 * e) k = σ (31 + 3 * e) (k + 1) := by
      unfold dfF
      rw [rws_c (by omega), rws_same]
      unfold sh
      rw [if_pos ⟨Nat.zero_le _, hk⟩]
    have h2 : dfF σ e c (32 + 3 * e) k = σ (32 + 3 * e) (k + 1) := by
      unfold dfF
      rw [rws_same]
      unfold sh
      rw [if_pos ⟨Nat.zero_le _, hk⟩]
    rw [h1, h2, drS_at, drS_at, drS_at, if_pos (Nat.zero_le _)]
    exact (c5 e he).2 (k + 1) (by omega)
  · rw [up_n hei, up_n hei, up_n hei, up_n hei, dfF_c (by omega), dfF_c (by omega), dfF_c (by omega)]
    exact c5 e he
theorem tk_mM (hM : ∀ e, e < ne → cn e ≤ 6) (m5 : mM σ ne cn vl me mt) {i c : Nat} (hi : i < ne) (hc : cn i = c + 1) : mM (tkF σ i c c (3 * c)) ne (up cn i c) (up vl i (drS 0 (vl i))) (up me i (drS 0 (me i))) (up mt i (drS 0 (mt i))) := by
  intro e he
  have h6 := hM i hi
  have h6e := hM e he
  have k75 : tkF σ i c c (3 * c) 75 e = if e = i then nI c else σ 75 e := by
    unfold tkF
    rw [rws_c (by omega), rws_c (by omega)]
    by_cases hei : e = i
    · rw [if_pos hei, hei, u2_same]
    · rw [if_neg hei, u2_k hei]
  have k76 : ∀ j, tkF σ i c c (3 * c) 76 j = sh (6 * i) (6 * i + c) (σ 76) j := fun j => by
    unfold tkF
    rw [rws_c (by omega), rws_same]
  have k77 : ∀ j, tkF σ i c c (3 * c) 77 j = sh3 (18 * i) (18 * i + 3 * c) (σ 77) j := fun j => by
    unfold tkF
    rw [rws_same]
  rw [k75]
  by_cases hei : e = i
  · subst hei
    rw [if_pos rfl, up_s, up_s, up_s, up_s]
    refine ⟨rfl, fun k hk => ?_⟩
    rw [k76, k77, k77, k77, drS_at, drS_at, drS_at, if_pos (Nat.zero_le _)]
    unfold sh sh3
    have a0 : 6 * e ≤ 6 * e + k ∧ 6 * e + k < 6 * e + c := ⟨by omega, by omega⟩
    have a1 : 18 * e ≤ 18 * e + 3 * k ∧ 18 * e + 3 * k < 18 * e + 3 * c := ⟨by omega, by omega⟩
    have a2 : 18 * e ≤ 18 * e + 3 * k + 1 ∧ 18 * e + 3 * k + 1 < 18 * e + 3 * c := ⟨by omega, by omega⟩
    have a3 : 18 * e ≤ 18 * e + 3 * k + 2 ∧ 18 * e + 3 * k + 2 < 18 * e + 3 * c := ⟨by omega, by omega⟩
    rw [if_pos a0, if_pos a1, if_pos a2, if_pos a3]
    have := (m5 e he).2 (k + 1) (by omega)
    rw [show 6 * e + k + 1 = 6 * e + (k + 1) by omega, show 18 * e + 3 * k + 3 = 18 * e + 3 * (k + 1) by omega, show 18 * e + 3 * k + 1 + 3 = 18 * e + 3 * (k + 1) + 1 by omega, show 18 * e + 3 * k + 2 + 3 = 18 * e + 3 * (k + 1) + 2 by omega]
    exact this
  · rw [if_neg hei, up_n hei, up_n hei, up_n hei, up_n hei]
    refine ⟨(m5 e he).1, fun k hk => ?_⟩
    rw [k76, k77, k77, k77]
    unfold sh sh3
    have a0 : ¬ (6 * i ≤ 6 * e + k ∧ 6 * e + k < 6 * i + c) := by omega
    have a1 : ¬ (18 * i ≤ 18 * e + 3 * k ∧ 18 * e + 3 * k < 18 * i + 3 * c) := by omega
    have a2 : ¬ (18 * i ≤ 18 * e + 3 * k + 1 ∧ 18 * e + 3 * k + 1 < 18 * i + 3 * c) := by omega
    have a3 : ¬ (18 * i ≤ 18 * e + 3 * k + 2 ∧ 18 * e + 3 * k + 2 < 18 * i + 3 * c) := by omega
    rw [if_neg a0, if_neg a1, if_neg a2, if_neg a3]
    exact (m5 e he).2 k hk
theorem dr_pM (hM : pM nv ne kd dp to cn me mt) {i c : Nat} (hi : i < ne) (hc : cn i = c + 1) : pM nv ne kd dp to (up cn i c) (up me i (drS 0 (me i))) (up mt i (drS 0 (mt i))) := by
  intro e he
  by_cases hei : e = i
  · subst hei
    rw [up_s, up_s, up_s]
    have := (hM e he).1
    refine ⟨by omega, fun k hk => ?_⟩
    rw [drS_at, drS_at, if_pos (Nat.zero_le _)]
    exact (hM e he).2 (k + 1) (by omega)
  · rw [up_n hei, up_n hei, up_n hei]
    exact hM e he
/-- SENDING keeps the relation -/
theorem sim_send {A B ω : wd_S} {p : Nat → Bool} {m x : Int32} {ep : Nat} {t : Nat × Nat} (hG : pG nv ne kd dp wk fr to) (c1 : cS A b nv ne) (m1 : mS B b nv ne) (c2 : cC A dl fi se) (m2 : mC B dl fi se) (c3 : cV A nv kd dp wk) (m3 : mV B nv kd dp wk) (c4 : cE A nv ne fr to) (m4 : mE B ne fr to) (hM : pM nv ne kd dp to cn me mt) (c5 : cM A ne cn vl me mt) (m5 : mM B ne cn vl me mt) (hI : pI nv kd ee op) (c6 : cI A nv ee op tt) (m6 : mI B nv ee op tt) (hR : pR nv kd dp wk rc re rt rs q qg qe qt qs) (c7 : cR A nv rc re rt rs) (m7 : mQ B q qg qe qt qs)
    (hp : ∀ e, e < ne → biB m e = p e) (hroom : ∀ e, e < ne → p e = true → cn e < 6) (ht : ∀ e, e < ne → p e = true → tmOK ep t ∧ bf_dp (gDi nv kd dp (to e)) t) (t1 : (∃ e, e < ne ∧ p e = true) → B 66 21 = nI ep ∧ B 66 22 = nI t.1 ∧ B 66 23 = nI t.2)
    (w1 : ∀ d, d < 66 → d ≠ 1 → ω d = seF A m x (nI (tmE ep t)) cn ne d) (w2 : ∀ k, k ≠ 4 → ω 1 k = A 1 k) (w3 : ω 1 4 = A 1 4 + nI (cnt p ne)) (w4 : ∀ d, 66 ≤ d → ω d = saF B p x cn ne d) : Sim ω := by
  have hn8 := hG.1
  have he12 := hG.2.1
  have hsc : ∀ d, d < 30 → d ≠ 1 → ω d = A d := fun d h1 h2 => by rw [w1 d (by omega) h2, seF_c ne (by omega)]
  have hse : ∀ e, _ := fun e => se_at (σ := A) (m := m) (x := x) (t := nI (tmE ep t)) (cn := cn) e ne
  have cM1 := sn_cM (x := x) (p := p) (ep := ep) (t := t) (m := m) c5 hp
  have h20 := (sa_at (σ := B) (x := x) (p := p) (cn := cn) ne hroom).1
  have s66 : ∀ k, k ≠ 20 → ω 66 k = B 66 k := fun k hk => by rw [w4 66 (by omega)]; exact saF_66 hk ne
  have sc : ∀ d, 66 < d → d ≠ 75 ∧ d ≠ 76 ∧ d ≠ 77 → ω d = B d := fun d h1 hd => by rw [w4 d (by omega)]; exact saF_c (by omega) ne
  have s75 : ∀ e, ne ≤ e → ω 75 e = B 75 e := fun e hd => by rw [w4 75 (by omega)]; exact saF_75 ne hd
  have mpM : pM nv ne kd dp to (snC p cn) (snV p cn me ep) (snV p cn mt t) ∧ mM ω ne (snC p cn) (snV p cn vl x) (snV p cn me ep) (snV p cn mt t) := by
    by_cases hex : ∃ e, e < ne ∧ p e = true
    · obtain ⟨a1, a2, a3⟩ := t1 hex
      refine ⟨sn_pM hM hroom ?_ (fun e he hpe => (ht e he hpe).2), ?_⟩
      · obtain ⟨e, he, hpe⟩ := hex
        exact (ht e he hpe).1
      · have := sn_mM (x := x) (p := p) (ep := ep) (t := t) (fun e he => (hM e he).1) hroom m5 a1 a2 a3
        exact this.of (w4 75 (by omega)) (w4 76 (by omega)) (w4 77 (by omega))
    · have hnp : ∀ e, e < ne → ¬ p e = true := fun e he hpe => hex ⟨e, he, hpe⟩
      have e1 : ∀ e, e < ne → snC p cn e = cn e := fun e he => if_neg (hnp e he)
      have e2 : ∀ {α : Type} (f : Nat → Nat → α) (y : α) (e k : Nat), e < ne → snV p cn f y e k = f e k := fun f y e k he => if_neg (fun z => hnp e he z.1)
      have hsa : ∀ n, n ≤ ne → saF B p x cn n = B := by
        intro n
        induction n with
        | zero => intro _; rfl
        | succ n ih =>
          intro hn
          show (if p n = true then _ else _) = B
          rw [if_neg (hnp n (by omega)), ih (by omega)]
      have hB := hsa ne (Nat.le_refl _)
      refine ⟨fun e he => ?_, fun e he => ?_⟩
      · rw [e1 e he]
        refine ⟨(hM e he).1, fun k hk => ?_⟩
        rw [e2 _ _ e k he, e2 _ _ e k he]
        exact (hM e he).2 k hk
      · rw [w4 75 (by omega), w4 76 (by omega), w4 77 (by omega), hB, e1 e he]
        refine ⟨(m5 e he).1, fun k hk => ?_⟩
        rw [e2 _ _ e k he, e2 _ _ e k he, e2 _ _ e k he]
        exact (m5 e he).2 k hk
  refine ⟨b, nv, ne, kd, dp, wk, fr, to, snC p cn, snV p cn vl x, snV p cn me ep, snV p cn mt t, ee, op, tt, rc, re, rt, rs, q, qg, qe, qt, qs, dl, fi, se + nI (cnt p ne), ⟨hG, c1.of (hsc 2 (by omega) (by omega)) (w2 1 (by omega)), m1.of (s66 _ (by omega)) (s66 _ (by omega)) (s66 _ (by omega))⟩, ⟨⟨by rw [w2 2 (by omega)]; exact c2.1, by rw [w2 3 (by omega)]; exact c2.2.1, by rw [w3, c2.2.2]⟩, ⟨by rw [s66 18 (by omega)]; exact m2.1, by rw [s66 19 (by omega)]; exact m2.2.1, by rw [w4 66 (by omega), h20, m2.2.2]⟩⟩, ⟨c3.of hn8 (fun v hv k _ => by rw [hsc _ (by omega) (by omega)]) (fun v _ hv => hsc _ (by omega) (by omega)), m3.of (sc _ (by omega) (by omega)) (sc _ (by omega) (by omega)) (sc _ (by omega) (by omega)) (fun v _ _ => by rw [sc 70 (by omega) (by omega), sc 72 (by omega) (by omega)]; exact ⟨rfl, rfl⟩)⟩, ⟨c4.of he12 (fun e he => ?_) (fun v hv => by rw [hsc _ (by omega) (by omega)]) (fun e h1 he => ?_), m4.of (sc _ (by omega) (by omega)) (sc _ (by omega) (by omega)) (fun e h1 _ => s75 e h1)⟩, ⟨mpM.1, cM1.of (fun e he => ⟨by rw [w1 _ (by omega) (by omega)], w1 _ (by omega) (by omega), w1 _ (by omega) (by omega)⟩), mpM.2⟩, ⟨hI, c6.of (fun v hv => by rw [hsc _ (by omega) (by omega)]; exact ⟨rfl, rfl, rfl⟩), m6.of (sc _ (by omega) (by omega)) (sc _ (by omega) (by omega)) (sc _ (by omega) (by omega))⟩, hR, c7.of (fun v hv => ⟨by rw [hsc _ (by omega) (by omega)], hsc _ (by omega) (by omega), hsc _ (by omega) (by omega)⟩), m7.of (s66 _ (by omega)) (sc _ (by omega) (by omega)) (sc _ (by omega) (by omega)) (sc _ (by omega) (by omega))⟩
  · rw [w1 _ (by omega) (by omega), (hse e).1 0, (hse e).1 1, if_neg (by omega), if_neg (by omega)]
    exact ⟨rfl, rfl⟩
  · rw [w1 _ (by omega) (by omega), (hse e).1 2, if_neg (by omega)]
end SIM
