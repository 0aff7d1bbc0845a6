/-! Gathering. -/
def inS {α : Type} (p : Nat) (f : Nat → α) (x : α) : Nat → α := fun k => if k < p then f k else if k = p then x else f (k - 1)
theorem inS_l {α : Type} {p k : Nat} {f : Nat → α} {x : α} (h : k < p) : inS p f x k = f k := if_pos h
theorem inS_s {α : Type} {p : Nat} {f : Nat → α} {x : α} : inS p f x p = x := by
  unfold inS
  rw [if_neg (Nat.lt_irrefl _), if_pos rfl]
theorem inS_g {α : Type} {p k : Nat} {f : Nat → α} {x : α} (h : p < k) : inS p f x k = f (k - 1) := by
  unfold inS
  rw [if_neg (by omega), if_neg (by omega)]
section SIM
variable {xs : List Int32} {σ τ : wd_S} {b : Bool} {nv ne : Nat} {kd dp wk fr to cn : Nat → Nat} {vl : Nat → Nat → Int32} {me : Nat → Nat → Nat} {mt : Nat → Nat → Nat × Nat} {ee : Nat → Nat} {op : Nat → Bool} {tt : Nat → Int32} {rc : Nat → Nat} {re : Nat → Nat → Nat} {rt : Nat → Nat → Nat × Nat} {rs : Nat → Nat → Int32} {q : Nat} {qg qe : Nat → Nat} {qt : Nat → Nat × Nat} {qs : Nat → Int32} {dl fi se : Int32}
theorem pR_key (hR : pR nv kd dp wk rc re rt rs q qg qe qt qs) {v k s : Nat} (hv : v < nv) (hk : k < rc v) (hs : s < rc v) (e1 : re v k = re v s) (e2 : rt v k = rt v s) : k = s := by
  have a3 := (hR.1 v hv).2.2
  rcases Nat.lt_trichotomy k s with z | z | z
  · have := a3 k s z hs
    rw [e1, e2] at this
    exact absurd this (Nat.lt_irrefl _)
  · exact z
  · have := a3 s k z hk
    rw [e1, e2] at this
    exact absurd this (Nat.lt_irrefl _)
theorem pR_more (hR : pR nv kd dp wk rc re rt rs q qg qe qt qs) {v s r : Nat} {X : Int32} (hv : v < nv) (hs : s < rc v) (hr : r < q) (g1 : qg r = v) (g2 : qe r = re v s) (g3 : qt r = rt v s) : pR nv kd dp wk rc re rt (up rs v (up (rs v) s (rs v s + X))) q qg qe qt (up qs r (qs r + X)) := by
  refine ⟨hR.1, fun i hi => ?_, hR.2.2.1, hR.2.2.2⟩
  obtain ⟨b1, k, b2, b3, b4, b5⟩ := hR.2.1 i hi
  refine ⟨b1, k, b2, b3, b4, ?_⟩
  by_cases hir : i = r
  · subst hir
    rw [g1] at b2 b3 b4 b5 ⊢
    have hk := pR_key hR hv b2 hs (by rw [b3, g2]) (by rw [b4, g3])
    subst hk
    rw [up_s, up_s, up_s, b5]
  · rw [up_n hir]
    by_cases huv : qg i = v
    · rw [huv] at b2 b3 b4 b5 ⊢
      have hks : k ≠ s := fun z => hir (hR.2.2.2 i r hi hr (by rw [huv, g1]) (by rw [← b3, z, g2]) (by rw [← b4, z, g3]))
      rw [up_s, up_n hks]
      exact b5
    · rw [up_n huv]
      exact b5
theorem pR_new (hR : pR nv kd dp wk rc re rt rs q qg qe qt qs) {v p0 e : Nat} {t : Nat × Nat} {X : Int32} (hv : v < nv) (hkd : kd v = 1 ∧ wk v = 1) (ho : tmOK e t) (hd : bf_dp (dp v) t) (hr4 : rc v < 4) (hp0 : p0 ≤ rc v) (hlo : ∀ k, k < p0 → tmE (re v k) (rt v k) < tmE e t) (hhi : ∀ k, p0 ≤ k → k < rc v → tmE e t < tmE (re v k) (rt v k)) : pR nv kd dp wk (up rc v (rc v + 1)) (up re v (inS p0 (re v) e)) (up rt v (inS p0 (rt v) t)) (up rs v (inS p0 (rs v) X)) (q + 1) (up qg q v) (up qe q e) (up qt q t) (up qs q X) := by
  obtain ⟨h1, h2, h3, h4⟩ := hR
  obtain ⟨a1, a2, a3⟩ := h1 v hv
  have hno : ∀ k, k < rc v → ¬ (re v k = e ∧ rt v k = t) := fun k hk z => by
    rcases Nat.lt_or_ge k p0 with w | w
    · have := hlo k w
      rw [z.1, z.2] at this
      exact absurd this (Nat.lt_irrefl _)
    · have := hhi k w hk
      rw [z.1, z.2] at this
      exact absurd this (Nat.lt_irrefl _)
  have hnq : ∀ r, r < q → ¬ (qg r = v ∧ qe r = e ∧ qt r = t) := fun r hr z => by
    obtain ⟨b1, k, b2, b3, b4, -⟩ := h2 r hr
    rw [z.1] at b2 b3 b4
    exact hno k b2 ⟨by rw [b3, z.2.1], by rw [b4, z.2.2]⟩
  refine ⟨fun u hu => ?_, fun i hi => ?_, fun u hu k hk => ?_, fun i j hi hj e1 e2 e3 => ?_⟩
  · by_cases huv : u = v
    · subst huv
      rw [up_s, up_s, up_s]
      refine ⟨by omega, fun k hk => ?_, fun k l hkl hl => ?_⟩
      · rcases Nat.lt_trichotomy k p0 with z | z | z
        · rw [inS_l z, inS_l z]
          exact a2 k (by omega)
        · subst z
          rw [inS_s, inS_s]
          exact ⟨hkd.1, hkd.2, ho, hd⟩
        · rw [inS_g z, inS_g z]
          exact a2 (k - 1) (by omega)
      · rcases Nat.lt_trichotomy k p0 with z | z | z
        · rw [inS_l z, inS_l z]
          rcases Nat.lt_trichotomy l p0 with w | w | w
          · rw [inS_l w, inS_l w]
            exact a3 k l hkl (by omega)
          · subst w
            rw [inS_s, inS_s]
            exact hlo k z
          · rw [inS_g w, inS_g w]
            exact a3 k (l - 1) (by omega) (by omega)
        · subst z
          rw [inS_s, inS_s, inS_g hkl, inS_g hkl]
          exact hhi (l - 1) (by omega) (by omega)
        · rw [inS_g z, inS_g z, inS_g (show p0 < l by omega), inS_g (show p0 < l by omega)]
          exact a3 (k - 1) (l - 1) (by omega) (by omega)
    · rw [up_n huv, up_n huv, up_n huv]
      exact h1 u hu
  · by_cases hiq : i = q
    · subst hiq
      rw [up_s, up_s, up_s, up_s, up_s, up_s, up_s, up_s]
      exact ⟨hv, p0, by omega, inS_s, inS_s, inS_s⟩
    · rw [up_n hiq, up_n hiq, up_n hiq, up_n hiq]
      obtain ⟨b1, k, b2, b3, b4, b5⟩ := h2 i (by omega)
      refine ⟨b1, ?_⟩
      by_cases huv : qg i = v
      · rw [huv] at b2 b3 b4 b5 ⊢
        rw [up_s, up_s, up_s, up_s]
        by_cases hk : k < p0
        · exact ⟨k, by omega, by rw [inS_l hk]; exact b3, by rw [inS_l hk]; exact b4, by rw [inS_l hk]; exact b5⟩
        · exact ⟨k + 1, by omega, by rw [inS_g (show p0 < k + 1 by omega)]; exact b3, by rw [inS_g (show p0 < k + 1 by omega)]; exact b4, by rw [inS_g (show p0 < k + 1 by omega)]; exact b5⟩
      · rw [up_n huv, up_n huv, up_n huv, up_n huv]
        exact ⟨k, b2, b3, b4, b5⟩
  · have main : ∀ k', k' < rc u → ∃ r, r < q + 1 ∧ up qg q v r = u ∧ up qe q e r = re u k' ∧ up qt q t r = rt u k' := fun k' hk' => by
      obtain ⟨r, b0, b1, b2, b3⟩ := h3 u hu k' hk'
      refine ⟨r, by omega, ?_⟩
      rw [up_n (show r ≠ q by omega), up_n (show r ≠ q by omega), up_n (show r ≠ q by omega)]
      exact ⟨b1, b2, b3⟩
    by_cases huv : u = v
    · subst huv
      rw [up_s] at hk
      rw [up_s, up_s]
      rcases Nat.lt_trichotomy k p0 with z | z | z
      · rw [inS_l z, inS_l z]
        exact main k (by omega)
      · subst z
        rw [inS_s, inS_s]
        exact ⟨q, by omega, up_s _ _ _, up_s _ _ _, up_s _ _ _⟩
      · rw [inS_g z, inS_g z]
        exact main (k - 1) (by omega)
    · rw [up_n huv] at hk
      rw [up_n huv, up_n huv]
      exact main k hk
  · by_cases hiq : i = q
    · by_cases hjq : j = q
      · omega
      · exfalso
        rw [hiq, up_s, up_n hjq] at e1 e2 e3
        exact hnq j (by omega) ⟨e1.symm, e2.symm, e3.symm⟩
    · by_cases hjq : j = q
      · exfalso
        rw [hjq, up_s, up_n hiq] at e1 e2 e3
        exact hnq i (by omega) ⟨e1, e2, e3⟩
      · rw [up_n hiq, up_n hjq] at e1 e2 e3
        exact h4 i j (by omega) (by omega) e1 e2 e3
/-- both find the request, or neither -/
theorem g_cases (hn8 : nv ≤ 8) (hR : pR nv kd dp wk rc re rt rs q qg qe qt qs) (c7 : cR σ nv rc re rt rs) (m7 : mQ τ q qg qe qt qs) {v e : Nat} {t : Nat × Nat} (hv : v < nv) (ho : tmOK e t) (t1 : τ 66 21 = nI e) (t2 : τ 66 22 = nI t.1) (t3 : τ 66 23 = nI t.2) : (∃ s r, s < rc v ∧ r < q ∧ slF σ v (rc v) (nI (tmE e t)) = some s ∧ fst1 (rmB τ (nI v)) q = some r ∧ qg r = v ∧ re v s = e ∧ rt v s = t ∧ qe r = e ∧ qt r = t) ∨ (slF σ v (rc v) (nI (tmE e t)) = none ∧ fst1 (rmB τ (nI v)) q = none ∧ ∀ s, s < rc v → ¬ (re v s = e ∧ rt v s = t)) := by
  have hsl : ∀ s, s < rc v → (decide (σ (7 + 3 * v) s = nI (tmE e t)) = true ↔ re v s = e ∧ rt v s = t) := fun s hs => by
    rw [decide_eq_true_iff, ((c7 v hv).2 s hs).1]
    exact tmE_inj ((hR.1 v hv).2.1 s hs).2.2.1 ho
  have hrm : ∀ r, r < q → (rmB τ (nI v) r = true ↔ qg r = v ∧ qe r = e ∧ qt r = t) := fun r hr => by
    obtain ⟨⟨a1, a2, a3, a4⟩, -⟩ := m7.2 r hr
    obtain ⟨b1, k, b2, b3, b4, -⟩ := hR.2.1 r hr
    have o := ((hR.1 _ b1).2.1 k b2).2.2.1
    rw [b3, b4] at o
    obtain ⟨o1, o2, o3⟩ := o
    obtain ⟨o4, o5, o6⟩ := id ho
    unfold rmB
    rw [a1, a2, a3, a4, t1, t2, t3, Bool.and_eq_true, Bool.and_eq_true, Bool.and_eq_true, decide_eq_true_iff, decide_eq_true_iff, decide_eq_true_iff, decide_eq_true_iff, nI_eq (by omega) (by omega), nI_eq (by omega) (by omega), nI_eq (by omega) (by omega), nI_eq (by omega) (by omega), Prod.ext_iff]
  by_cases hex : ∃ s, s < rc v ∧ re v s = e ∧ rt v s = t
  · left
    obtain ⟨s, hs, e1, e2⟩ := hex
    obtain ⟨r, hr, g1, g2, g3⟩ := hR.2.2.1 v hv s hs
    refine ⟨s, r, hs, hr, ?_, ?_, g1, e1, e2, by rw [g2, e1], by rw [g3, e2]⟩
    · refine fst1_some hs ((hsl s hs).mpr ⟨e1, e2⟩) fun k hk => ?_
      cases hd : decide (σ (7 + 3 * v) k = nI (tmE e t)) with
      | false => rfl
      | true =>
        obtain ⟨f1, f2⟩ := (hsl k (by omega)).mp hd
        have := pR_key hR hv (show k < rc v by omega) hs (by rw [f1, e1]) (by rw [f2, e2])
        omega
    · refine fst1_some hr ((hrm r hr).mpr ⟨g1, by rw [g2, e1], by rw [g3, e2]⟩) fun k hk => ?_
      cases hd : rmB τ (nI v) k with
      | false => rfl
      | true =>
        obtain ⟨f1, f2, f3⟩ := (hrm k (by omega)).mp hd
        have := hR.2.2.2 k r (by omega) hr (by rw [f1, g1]) (by rw [f2, g2, e1]) (by rw [f3, g3, e2])
        omega
  · right
    refine ⟨fst1_none.mpr fun s hs => ?_, fst1_none.mpr fun r hr => ?_, fun s hs z => hex ⟨s, hs, z⟩⟩
    · cases hd : decide (σ (7 + 3 * v) s = nI (tmE e t)) with
      | false => rfl
      | true => exact absurd ⟨s, hs, (hsl s hs).mp hd⟩ hex
    · cases hd : rmB τ (nI v) r with
      | false => rfl
      | true =>
        obtain ⟨f1, f2, f3⟩ := (hrm r hr).mp hd
        obtain ⟨b1, k, b2, b3, b4, -⟩ := hR.2.1 r hr
        rw [f1] at b2 b3 b4
        exact absurd ⟨k, b2, by rw [b3, f2], by rw [b4, f3]⟩ hex
theorem of_cnt (hn8 : nv ≤ 8) (hR : pR nv kd dp wk rc re rt rs q qg qe qt qs) (m7 : mQ τ q qg qe qt qs) {v : Nat} (hv : v < nv) : cnt (fun r => decide (τ 78 r = nI v)) q = rc v := by
  have h1 : cnt (fun r => decide (τ 78 r = nI v)) q = cnt (fun r => decide (qg r = v)) q := cnt_congr q fun r hr => by
    have := (hR.2.1 r hr).1
    rw [(m7.2 r hr).1.1, Bool.eq_iff_iff, decide_eq_true_iff, decide_eq_true_iff, nI_eq (by omega) (by omega)]
  rw [h1, pR_cnt hR (fun u _ _ => decide (u = v))]
  have h2 : ∀ u, cnt (fun _ : Nat => decide (u = v)) (rc u) = if u = v then rc v else 0 := fun u => by
    by_cases huv : u = v
    · subst huv
      rw [if_pos rfl, cnt_congr (p' := fun _ => true) (rc u) fun k _ => decide_eq_true rfl, cnt_all]
    · rw [if_neg huv]
      have : ∀ n, cnt (fun _ : Nat => decide (u = v)) n = 0 := fun n => by
        induction n with
        | zero => rfl
        | succ n ih => rw [cnt_f (decide_eq_false huv), ih]
      exact this _
  have h3 : ∀ n, sumN (fun u => cnt (fun _ : Nat => decide (u = v)) (rc u)) n = if v < n then rc v else 0 := fun n => by
    induction n with
    | zero => rw [if_neg (by omega)]; rfl
    | succ n ih =>
      show sumN (fun u => cnt (fun _ : Nat => decide (u = v)) (rc u)) n + cnt (fun _ : Nat => decide (n = v)) (rc n) = _
      rw [ih, h2]
      rcases Nat.lt_trichotomy v n with z | z | z
      · rw [if_pos z, if_neg (by omega), if_pos (by omega), Nat.add_zero]
      · rw [if_neg (by omega), if_pos z.symm, if_pos (by omega), Nat.zero_add]
      · rw [if_neg (by omega), if_neg (by omega), if_neg (by omega)]
  rw [h3 nv, if_pos hv]
theorem insP_ok {m : Nat → Int32} {t : Int32} : ∀ r, (∀ k, insP m t r ≤ k → k < r → t < m k) ∧ (∀ k, insP m t r = k + 1 → ¬ t < m k) := by
  intro r
  induction r with
  | zero => exact ⟨fun k _ h => absurd h (Nat.not_lt_zero k), fun k h => by cases h⟩
  | succ r ih =>
    have hs : insP m t (r + 1) = if t < m r then insP m t r else r + 1 := rfl
    rw [hs]
    by_cases h : t < m r
    · rw [if_pos h]
      refine ⟨fun k h1 h2 => ?_, ih.2⟩
      by_cases hk : k = r
      · rw [hk]; exact h
      · exact ih.1 k h1 (by omega)
    · rw [if_neg h]
      refine ⟨fun k h1 h2 => by omega, fun k hk => ?_⟩
      have : k = r := by omega
      rw [this]
      exact h
end SIM
