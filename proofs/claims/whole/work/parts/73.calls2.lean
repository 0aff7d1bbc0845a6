/-! Requests by their numbers. -/
section SIM
variable {xs : List Int32} {σ τ : wd_S} {b : Bool} {nv ne : Nat} {kd dp wk fr to cn : Nat → Nat} {vl : Nat → Nat → Int32} {me : Nat → Nat → Nat} {mt : Nat → Nat → Nat × Nat} {ee : Nat → Nat} {op : Nat → Bool} {tt : Nat → Int32} {rc : Nat → Nat} {re : Nat → Nat → Nat} {rt : Nat → Nat → Nat × Nat} {rs : Nat → Nat → Int32} {q : Nat} {qg qe : Nat → Nat} {qt : Nat → Nat × Nat} {qs : Nat → Int32} {dl fi se : Int32}
/-- earlier: by vertex, then by time -/
def erP (v : Nat) (e : Nat) (t : Nat × Nat) (u e' : Nat) (t' : Nat × Nat) : Bool := decide (u < v) || (decide (u = v) && decide (tmE e' t' < tmE e t))
theorem er_ok {r s : Nat} {g e g' e' : Nat} {t t' : Nat × Nat} (h1 : mrO σ r g e t) (h2 : mrO σ s g' e' t') (hg : g < 8) (hg' : g' < 8) (ht : tmOK e t) (ht' : tmOK e' t') : erB σ r s = erP g' e' t' g e t := by
  obtain ⟨a1, a2, a3, a4⟩ := h1
  obtain ⟨b1, b2, b3, b4⟩ := h2
  obtain ⟨x1, x2, x3⟩ := ht
  obtain ⟨y1, y2, y3⟩ := ht'
  have cmp : ∀ {m n : Nat}, m ≤ 15 → n ≤ 15 → ((!(decide (nI m ≤ nI n))) = true ↔ n < m) := by
    intro m n hm hn
    rw [Bool.not_eq_true', decide_eq_false_iff_not]
    constructor
    · intro z
      rcases Nat.lt_or_ge n m with w | w
      · exact w
      · exact absurd (nI_le w (by omega)) z
    · intro z w
      exact absurd w (nI_ge z (by omega))
  unfold erB erP
  rw [a1, a2, a3, a4, b1, b2, b3, b4, Bool.eq_iff_iff, Bool.or_eq_true, Bool.and_eq_true, decide_eq_true_iff, decide_eq_true_iff, decide_eq_true_iff]
  unfold tmE enT
  by_cases h1 : g = g'
  · subst h1
    rw [if_pos rfl]
    by_cases h2 : e = e'
    · subst h2
      rw [if_pos rfl]
      by_cases h3 : t.1 = t'.1
      · rw [if_pos (by rw [h3])]
        by_cases h4 : t.2 = t'.2
        · rw [if_pos (by rw [h4])]
          constructor
          · intro z; cases z
          · intro z; omega
        · rw [if_neg (fun z => h4 ((nI_eq (by omega) (by omega)).mp z)), cmp (by omega) (by omega)]
          omega
      · rw [if_neg (fun z => h3 ((nI_eq (by omega) (by omega)).mp z)), cmp (by omega) (by omega)]
        omega
    · rw [if_neg (fun z => h2 ((nI_eq (by omega) (by omega)).mp z)), cmp (by omega) (by omega)]
      omega
  · rw [if_neg (fun z => h1 ((nI_eq (by omega) (by omega)).mp z)), cmp (by omega) (by omega)]
    omega
/-- how many stand before place s of v -/
theorem er_cnt (hR : pR nv kd dp wk rc re rt rs q qg qe qt qs) {v s : Nat} (hv : v < nv) (hs : s < rc v) : cnt (fun r => erP v (re v s) (rt v s) (qg r) (qe r) (qt r)) q = sumN rc v + s := by
  rw [pR_cnt hR (fun u e t => erP v (re v s) (rt v s) u e t)]
  have hlt : ∀ u, u < v → cnt (fun k => erP v (re v s) (rt v s) u (re u k) (rt u k)) (rc u) = rc u := fun u hu => by
    rw [cnt_congr (p' := fun _ => true) (rc u) fun k _ => by unfold erP; rw [decide_eq_true hu]; rfl, cnt_all]
  have hgt : ∀ u, v < u → cnt (fun k => erP v (re v s) (rt v s) u (re u k) (rt u k)) (rc u) = 0 := fun u hu => by
    have : ∀ n, cnt (fun k => erP v (re v s) (rt v s) u (re u k) (rt u k)) n = 0 := fun n => by
      induction n with
      | zero => rfl
      | succ n ih =>
        rw [cnt_f (by unfold erP; rw [decide_eq_false (by omega), decide_eq_false (by omega)]; rfl), ih]
    exact this _
  have heq : cnt (fun k => erP v (re v s) (rt v s) v (re v k) (rt v k)) (rc v) = s := by
    have hso := (hR.1 v hv).2.2
    have : ∀ n, n ≤ rc v → cnt (fun k => erP v (re v s) (rt v s) v (re v k) (rt v k)) n = if n ≤ s then n else s := by
      intro n
      induction n with
      | zero => intro _; rw [if_pos (Nat.zero_le _)]; rfl
      | succ n ih =>
        intro hn
        have ih := ih (by omega)
        by_cases hns : n < s
        · rw [cnt_t (by unfold erP; rw [decide_eq_true rfl, decide_eq_true (hso n s hns hs)]; simp), ih, if_pos (by omega), if_pos (by omega)]
        · have hno : ¬ tmE (re v n) (rt v n) < tmE (re v s) (rt v s) := by
            rcases Nat.lt_or_ge s n with z | z
            · have := hso s n z (by omega)
              omega
            · have : n = s := by omega
              rw [this]
              omega
          rw [cnt_f (by unfold erP; rw [decide_eq_false hno]; simp), ih]
          split <;> split <;> omega
    have h := this (rc v) (Nat.le_refl _)
    rw [if_neg (by omega)] at h
    exact h
  have hsum : ∀ n, n ≤ nv → sumN (fun u => cnt (fun k => erP v (re v s) (rt v s) u (re u k) (rt u k)) (rc u)) n = if n ≤ v then sumN rc n else sumN rc v + s := by
    intro n
    induction n with
    | zero => intro _; rw [if_pos (Nat.zero_le _)]; rfl
    | succ n ih =>
      intro hn
      have ih := ih (by omega)
      show sumN (fun u => cnt (fun k => erP v (re v s) (rt v s) u (re u k) (rt u k)) (rc u)) n + cnt (fun k => erP v (re v s) (rt v s) n (re n k) (rt n k)) (rc n) = _
      rw [ih]
      rcases Nat.lt_trichotomy n v with z | z | z
      · rw [if_pos (by omega), if_pos (by omega), hlt n z]
        rfl
      · subst z
        rw [if_pos (by omega), if_neg (by omega), heq]
      · rw [if_neg (by omega), if_neg (by omega), hgt n z]
        rfl
  rw [hsum nv (Nat.le_refl _), if_neg (by omega)]
theorem sumN_mono {f : Nat → Nat} {m n : Nat} (h : m ≤ n) : sumN f m ≤ sumN f n := by
  induction n with
  | zero =>
    have : m = 0 := by omega
    rw [this]
    exact Nat.le_refl _
  | succ n ih =>
    by_cases hm : m = n + 1
    · rw [hm]
      exact Nat.le_refl _
    · exact Nat.le_trans (ih (by omega)) (Nat.le_add_right _ _)
/-- the place of number j -/
theorem place_ex {f : Nat → Nat} {j : Nat} : ∀ n, j < sumN f n → ∃ v, v < n ∧ sumN f v ≤ j ∧ j < sumN f (v + 1) := by
  intro n
  induction n with
  | zero => intro h; exact absurd h (Nat.not_lt_zero _)
  | succ n ih =>
    intro h
    rcases Nat.lt_or_ge j (sumN f n) with z | z
    · obtain ⟨v, a, c⟩ := ih z
      exact ⟨v, by omega, c⟩
    · exact ⟨n, by omega, z, h⟩
theorem place_un {f : Nat → Nat} {v v' s s' : Nat} (h : sumN f v + s = sumN f v' + s') (hs : s < f v) (hs' : s' < f v') : v = v' ∧ s = s' := by
  have e1 : sumN f (v + 1) = sumN f v + f v := rfl
  have e2 : sumN f (v' + 1) = sumN f v' + f v' := rfl
  rcases Nat.lt_trichotomy v v' with z | z | z
  · have := sumN_mono (f := f) (show v + 1 ≤ v' from z)
    omega
  · subst z
    exact ⟨rfl, by omega⟩
  · have := sumN_mono (f := f) (show v' + 1 ≤ v from z)
    omega
/-- NUMBERS: the two name one request by one number -/
theorem num_ok (hn8 : nv ≤ 8) (hR : pR nv kd dp wk rc re rt rs q qg qe qt qs) (c6 : cR σ nv rc re rt rs) (m6 : mQ τ q qg qe qt qs) (x : Int32) : (rqF σ nv x = none ∧ nuF τ q x = none) ∨ ∃ v s r, slOK σ nv x v s ∧ v < nv ∧ s < rc v ∧ nuF τ q x = some r ∧ r < q ∧ qg r = v ∧ qe r = re v s ∧ qt r = rt v s ∧ qs r = rs v s := by
  have hq32 := pR_32 hR hn8
  have hqs := pR_q hR
  obtain ⟨h1, h2, h3, h4⟩ := id hR
  -- the number of r
  have hnum : ∀ r, r < q → ∃ s, s < rc (qg r) ∧ re (qg r) s = qe r ∧ rt (qg r) s = qt r ∧ rs (qg r) s = qs r ∧ cnt (fun k => erB τ k r) q = sumN rc (qg r) + s := by
    intro r hr
    obtain ⟨hg, s, a, c, d, e⟩ := h2 r hr
    refine ⟨s, a, c, d, e, ?_⟩
    rw [← er_cnt hR hg a, c, d]
    refine cnt_congr q fun k hk => ?_
    obtain ⟨hg', s', a', c', d', -⟩ := h2 k hk
    have o1 := ((h1 _ hg).2.1 s a).2.2.1
    have o2 := ((h1 _ hg').2.1 s' a').2.2.1
    rw [c, d] at o1
    rw [c', d'] at o2
    exact er_ok (m6.2 k hk).1 (m6.2 r hr).1 (by omega) (by omega) o2 o1
  have hlt : ∀ r, r < q → cnt (fun k => erB τ k r) q < q := by
    intro r hr
    obtain ⟨s, a, -, -, -, e⟩ := hnum r hr
    have := sumN_mono (f := rc) (show qg r + 1 ≤ nv from (h2 r hr).1)
    have e1 : sumN rc (qg r + 1) = sumN rc (qg r) + rc (qg r) := rfl
    omega
  have sIr : ∀ v, v ≤ nv → sI (fun u => σ (6 + 3 * u) 9) v = nI (sumN rc v) := fun v hv => sI_nI v fun u hu => (c6 u (by omega)).1
  by_cases hx0 : 0 ≤ x
  · obtain ⟨j, hj, rfl⟩ := nI_of (x := x) (fun z => by
      rw [Int32.lt_iff_toInt_lt] at z
      rw [Int32.le_iff_toInt_le] at hx0
      omega)
    by_cases hjq : j < q
    · right
      obtain ⟨v, hv, hlo, hhi⟩ := place_ex nv (by rw [← hqs]; exact hjq)
      have e1 : sumN rc (v + 1) = sumN rc v + rc v := rfl
      obtain ⟨r, hr, g1, g2, g3⟩ := h3 v hv (j - sumN rc v) (by omega)
      obtain ⟨s', a', c', d', e', hc⟩ := hnum r hr
      have hs' : s' = j - sumN rc v := by
        have hso := (h1 v hv).2.2
        rw [g1] at a' c' d'
        rcases Nat.lt_trichotomy s' (j - sumN rc v) with z | z | z
        · have := hso _ _ z (by omega)
          rw [c', d', g2, g3] at this
          exact absurd this (Nat.lt_irrefl _)
        · exact z
        · have := hso _ _ z a'
          rw [c', d', g2, g3] at this
          exact absurd this (Nat.lt_irrefl _)
      have hcj : cnt (fun k => erB τ k r) q = j := by
        rw [hc, g1, hs']
        omega
      have so : ∀ u, u ≤ v → soF σ (nI j) u = nI (j - sumN rc u) ∧ sumN rc u ≤ j := by
        intro u
        induction u with
        | zero => intro _; exact ⟨rfl, Nat.zero_le _⟩
        | succ u ih =>
          intro hu
          obtain ⟨i1, i2⟩ := ih (by omega)
          have hm := sumN_mono (f := rc) (show u + 1 ≤ v from hu)
          have e2 : sumN rc (u + 1) = sumN rc u + rc u := rfl
          refine ⟨?_, by omega⟩
          show soF σ (nI j) u - σ (6 + 3 * u) 9 = _
          rw [i1, (c6 u (by omega)).1, pk_sub (by omega), show j - sumN rc u - rc u = j - sumN rc (u + 1) by omega]
      have h4v := (h1 v hv).1
      refine ⟨v, j - sumN rc v, r, ⟨?_, fun u hu => ?_, ?_, (so v (Nat.le_refl _)).1, by omega⟩, hv, by omega, ?_, hr, g1, g2, g3, ?_⟩
      · unfold rqF voF
        rw [if_pos hx0]
        refine fst1_some hv (decide_eq_true ?_) fun u hu => decide_eq_false ?_
        · rw [sIr (v + 1) (by omega), nI_ltI (by omega) (by omega)]
          exact hhi
        · have hm := sumN_mono (f := rc) (show u + 1 ≤ v from hu)
          rw [sIr (u + 1) (by omega), nI_ltI (by omega) (by omega)]
          omega
      · have hm := sumN_mono (f := rc) (show u + 1 ≤ v from hu)
        have e2 : sumN rc (u + 1) = sumN rc u + rc u := rfl
        rw [(so u (by omega)).1, (c6 u (by omega)).1, nI_ltI (by omega) (by have := (h1 u (by omega)).1; omega)]
        omega
      · rw [(so v (Nat.le_refl _)).1, (c6 v hv).1, nI_ltI (by omega) (by omega)]
        omega
      · unfold nuF
        refine fst1_some hr (decide_eq_true (by rw [hcj])) fun i hi => decide_eq_false fun z => ?_
        have hi' := hlt i (by omega)
        have hz := (nI_eq (by omega) (by omega)).mp z
        obtain ⟨t, a2, c2, d2, -, e2⟩ := hnum i (by omega)
        obtain ⟨u1, u2'⟩ := place_un (f := rc) (v := qg i) (v' := v) (s := t) (s' := j - sumN rc v) (by omega) a2 (by omega)
        have := h4 i r (by omega) hr (by rw [u1, g1]) (by rw [← c2, u1, u2', g2]) (by rw [← d2, u1, u2', g3])
        omega
      · rw [← e', g1, hs']
    · left
      refine ⟨?_, ?_⟩
      · unfold rqF voF
        rw [if_pos hx0]
        refine fst1_none.mpr fun u hu => decide_eq_false ?_
        have hm := sumN_mono (f := rc) (show u + 1 ≤ nv from hu)
        rw [sIr (u + 1) (by omega), nI_ltI (by omega) (by omega)]
        omega
      · unfold nuF
        refine fst1_none.mpr fun r hr => decide_eq_false fun z => ?_
        have hi' := hlt r hr
        have hz := (nI_eq (by omega) (by omega)).mp z
        omega
  · left
    refine ⟨?_, ?_⟩
    · unfold rqF
      rw [if_neg hx0]
    · unfold nuF
      refine fst1_none.mpr fun r hr => decide_eq_false fun z => ?_
      have hi' := hlt r hr
      apply hx0
      rw [← z, Int32.le_iff_toInt_le]
      have := nI_pos (n := cnt (fun k => erB τ k r) q) (by omega)
      rw [Int32.lt_iff_toInt_lt] at this
      omega
theorem k_request (x y : Int32) (h : Sim σ) : cmpS Sim xs 9 84 [.int x, .int y] σ := by
  obtain ⟨b, nv, ne, kd, dp, wk, fr, to, cn, vl, me, mt, ee, op, tt, rc, re, rt, rs, q, qg, qe, qt, qs, dl, fi, se, hA⟩ := id h
  obtain ⟨⟨hG, c1, m1⟩, -, -, -, -, -, hR, c6, m6⟩ := hA
  have hq32 := pR_32 hR hG.1
  have hn8 := hG.1
  cases hy : inB y 5 with
  | false => exact cmp_ev (r_request_bad c1.1 hG.1 x y (Or.inr hy)) (m_request_bad m6.1 hq32 x y (Or.inr hy)) h
  | true =>
    rcases num_ok hG.1 hR c6 m6 x with ⟨a, c⟩ | ⟨v, s, r, hs, hv, hsr, hr, hrq, g1, g2, g3, g4⟩
    · exact cmp_ev (r_request_bad c1.1 hG.1 x y (Or.inl a)) (m_request_bad m6.1 hq32 x y (Or.inl c)) h
    · obtain ⟨w, hw, rfl⟩ := inB_ex (by omega) hy
      refine cmp_ev' (r_request c1.1 hG.1 x hs hw) (m_request m6.1 hq32 x hr hw) ?_ h
      obtain ⟨⟨a1, a2, a3, a4⟩, a5⟩ := m6.2 r hrq
      obtain ⟨d1, d2⟩ := (c6 v hv).2 s hsr
      have o := ((hR.1 v hv).2.1 s hsr).2.2.1
      by_cases hw0 : w = 0
      · rw [if_pos hw0, if_pos hw0, a1, g1]
      · rw [if_neg hw0, if_neg hw0]
        by_cases hw4 : w = 4
        · rw [if_pos hw4, if_pos hw4, d2, a5, g4]
        · rw [if_neg hw4, if_neg hw4, d1, tm_part o w (by omega)]
          have : w = 1 ∨ w = 2 ∨ w = 3 := by omega
          rcases this with rfl | rfl | rfl
          · rw [if_pos rfl, Nat.add_sub_cancel, a2, g2]
          · rw [if_neg (by decide), if_pos rfl, show 3 * r + 2 - 1 = 3 * r + 1 by omega, a3, g3]
          · rw [if_neg (by decide), if_neg (by decide), show 3 * r + 3 - 1 = 3 * r + 2 by omega, a4, g3]
end SIM
