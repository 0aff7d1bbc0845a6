/-! What the relation gives for 'ahead'; counting. -/
theorem tr_ok {τ : wd_S} {v k d : Nat} {t : Nat × Nat} (h : vOK k d) (h1 : τ 67 v = nI k) (h2 : τ 68 v = nI d) (ha : τ 66 22 = nI t.1) (hb : τ 66 23 = nI t.2) : trF τ v 66 22 = nI (bf_b (if k = 2 ∨ k = 3 then d else if k = 4 then d + 2 else 0) t).1 ∧ trF τ v 66 23 = nI (bf_b (if k = 2 ∨ k = 3 then d else if k = 4 then d + 2 else 0) t).2 := by
  unfold trF
  rw [h1, h2]
  rcases vOK_cases h with ⟨rfl, rfl⟩ | ⟨rfl, hd⟩ | ⟨rfl, rfl⟩ | ⟨rfl, rfl⟩ | ⟨rfl, rfl⟩ | ⟨rfl, rfl⟩ | ⟨rfl, rfl⟩ | ⟨rfl, rfl⟩
  · rw [if_neg (by decide), if_neg (by decide), if_neg (by decide), if_neg (by decide)]
    exact ⟨ha, hb⟩
  · have n1 : ¬ (nI 1 = nI 3) := by decide
    have n2 : ¬ (nI 1 = nI 2) := by decide
    have n3 : ¬ (nI 1 = nI 4) := by decide
    rw [if_neg (by rintro (⟨z, _⟩ | ⟨z, _⟩); exact n1 z; exact n2 z), if_neg (by rintro (z | z); exact n1 z; exact n2 z), if_neg fun z => n3 z.1, if_neg n3]
    exact ⟨ha, hb⟩
  · rw [if_pos (by decide)]
    exact ⟨u2_same _ _ _ _, by rw [u2_k (by omega)]; exact hb⟩
  · rw [if_neg (by decide), if_pos (by decide)]
    exact ⟨by rw [u2_k (by omega)]; exact ha, u2_same _ _ _ _⟩
  · rw [if_pos (by decide)]
    exact ⟨u2_same _ _ _ _, by rw [u2_k (by omega)]; exact hb⟩
  · rw [if_neg (by decide), if_pos (by decide)]
    exact ⟨by rw [u2_k (by omega)]; exact ha, u2_same _ _ _ _⟩
  · rw [if_neg (by decide), if_neg (by decide), if_pos (by decide)]
    refine ⟨?_, by rw [u2_k (by omega)]; exact hb⟩
    rw [u2_same, ha, nI_add]
    rfl
  · rw [if_neg (by decide), if_neg (by decide), if_neg (by decide), if_pos (by decide)]
    refine ⟨by rw [u2_k (by omega)]; exact ha, ?_⟩
    rw [u2_same, hb, nI_add]
    rfl
section SIM
variable {σ τ : wd_S} {b : Bool} {nv ne : Nat} {kd dp wk fr to cn : Nat → Nat} {vl : Nat → Nat → Int32} {me : Nat → Nat → Nat} {mt : Nat → Nat → Nat × Nat} {ee : Nat → Nat} {op : Nat → Bool} {tt : Nat → Int32} {rc : Nat → Nat} {re : Nat → Nat → Nat} {rt : Nat → Nat → Nat × Nat} {rs : Nat → Nat → Int32} {q : Nat} {qg qe : Nat → Nat} {qt : Nat → Nat × Nat} {qs : Nat → Int32} {dl fi se : Int32}
theorem sim_gOK (hG : pG nv ne kd dp wk fr to) (h1 : cS σ b nv ne) (h2 : cV σ nv kd dp wk) (h3 : cE σ nv ne fr to) : gOK σ ne fr to (gCd nv kd dp) (gDi nv kd dp) := by
  refine ⟨h1.2.1, hG.2.1, h3.1, fun v t hv ht ht1 ht2 => ?_⟩
  unfold gDi at ht
  unfold gCd
  by_cases hvn : v < nv
  · rw [if_pos hvn] at ht ⊢
    obtain ⟨-, -, -, a, c⟩ := h2.1 v hvn
    rw [a, c]
    exact tmB_ok (hG.2.2.1 v hvn).1 ht ht1 ht2
  · rw [if_neg hvn] at ht ⊢
    obtain ⟨a, c, -⟩ := h2.2 v (by omega) hv
    rw [a, c, ht.1 rfl]
    decide
theorem sim_mgO (hG : pG nv ne kd dp wk fr to) (h1 : mS σ b nv ne) (h2 : mV σ nv kd dp wk) (h3 : mE σ ne fr to) : mgO σ ne fr to (gCd nv kd dp) := by
  have hn8 := hG.1
  refine ⟨h1.2.1, hG.2.1, fun e he => ?_, fun v hv τ t hτ ha hb => ?_⟩
  · obtain ⟨a, c⟩ := h3.1 e he
    obtain ⟨f1, f2, -⟩ := hG.2.2.2 e he
    exact ⟨a, c, by omega, by omega⟩
  · unfold gCd
    by_cases hvn : v < nv
    · rw [if_pos hvn]
      obtain ⟨a, c, -⟩ := h2.1 v hvn
      exact tr_ok (hG.2.2.1 v hvn).1 (by rw [hτ _ (by omega)]; exact a) (by rw [hτ _ (by omega)]; exact c) ha hb
    · rw [if_neg hvn]
      obtain ⟨a, -⟩ := h2.2 v (by omega) hv
      unfold trF
      rw [hτ 67 (by omega), a]
      have n1 : ¬ (nI 0 = nI 3) := by decide
      have n2 : ¬ (nI 0 = nI 2) := by decide
      have n3 : ¬ (nI 0 = nI 4) := by decide
      rw [if_neg (by rintro (⟨z, _⟩ | ⟨z, _⟩); exact n1 z; exact n2 z), if_neg (by rintro (z | z); exact n1 z; exact n2 z), if_neg fun z => n3 z.1, if_neg n3]
      exact ⟨ha, hb⟩
theorem gDi_plain {v : Nat} (hv : v < nv) (h : kd v = 1) : gDi nv kd dp v = dp v := by
  unfold gDi
  rw [if_pos hv, h, if_neg (by decide)]
theorem gDi_input {v : Nat} (hG : pG nv ne kd dp wk fr to) (hv : v < nv) (h : kd v = 0) : gDi nv kd dp v = 0 := by
  unfold gDi
  rw [if_pos hv, h, if_neg (by decide)]
  have := (hG.2.2.1 v hv).1
  unfold vOK at this
  omega
theorem dp_00 (d : Nat) : bf_dp d (0, 0) := ⟨fun _ => rfl, fun _ => rfl⟩
theorem sim_aOK (hG : pG nv ne kd dp wk fr to) (h1 : cS σ b nv ne) (h2 : cV σ nv kd dp wk) (h3 : cE σ nv ne fr to) (hM : pM nv ne kd dp to cn me mt) (h4 : cM σ ne cn vl me mt) (hI : pI nv kd ee op) (h5 : cI σ nv ee op tt) (hR : pR nv kd dp wk rc re rt rs q qg qe qt qs) (h6 : cR σ nv rc re rt rs) : aOK σ nv ne fr to (gCd nv kd dp) (gDi nv kd dp) (gDo nv kd dp) cn rc ee op me mt re rt := by
  refine ⟨sim_gOK hG h1 h2 h3, h1.1, hG.1, fun e he => ?_, fun u hu => ?_⟩
  · obtain ⟨a, c⟩ := h4 e he
    obtain ⟨a', c'⟩ := hM e he
    refine ⟨a, a', fun k hk => ⟨(c k hk).2, (c' k hk).1, pG_gr hG (hG.2.2.2 e he).2.1 (c' k hk).2⟩⟩
  · obtain ⟨a, c⟩ := h6 u hu
    obtain ⟨a', c', -⟩ := hR.1 u hu
    obtain ⟨i1, i2, i3⟩ := h5 u hu
    obtain ⟨j1, j2⟩ := hI u hu
    refine ⟨a, a', fun k hk => ?_, i2, i1, j1, fun _ => pG_gr hG hu (dp_00 _)⟩
    obtain ⟨c1, c2, c3, c4⟩ := c' k hk
    exact ⟨(c k hk).1, c3, pG_gr hG hu (by rw [gDi_plain hu c1]; exact c4)⟩
/-! counting -/
theorem cnt_congr {p p' : Nat → Bool} : ∀ n, (∀ i, i < n → p i = p' i) → cnt p n = cnt p' n := by
  intro n
  induction n with
  | zero => intro _; rfl
  | succ n ih =>
    intro h
    show cnt p n + (if p n then 1 else 0) = cnt p' n + (if p' n then 1 else 0)
    rw [ih fun i hi => h i (by omega), h n (by omega)]
theorem cnt_rem {p : Nat → Bool} {j : Nat} : ∀ n, j < n → p j = true → cnt p n = cnt (fun i => p i && !(decide (i = j))) n + 1 := by
  intro n
  induction n with
  | zero => intro h; exact absurd h (Nat.not_lt_zero j)
  | succ n ih =>
    intro hj hp
    by_cases hjn : j = n
    · subst hjn
      rw [cnt_t hp, cnt_f (p := fun i => p i && !(decide (i = j))) (by rw [decide_eq_true rfl]; simp)]
      rw [cnt_congr (p' := fun i => p i && !(decide (i = j))) j fun i hi => by rw [decide_eq_false (show ¬ i = j by omega), Bool.not_false, Bool.and_true]]
    · have h1 := ih (by omega) hp
      have h2 : (p n && !(decide (n = j))) = p n := by rw [decide_eq_false (fun z => hjn z.symm), Bool.not_false, Bool.and_true]
      show cnt p n + (if p n then 1 else 0) = cnt (fun i => p i && !(decide (i = j))) n + (if (p n && !(decide (n = j))) then 1 else 0) + 1
      rw [h1, h2]
      omega
/-- as many as are sent one to one -/
theorem cnt_inj {p : Nat → Bool} {f : Nat → Nat} {m : Nat} : ∀ (n : Nat) (p' : Nat → Bool), (∀ i, i < n → p i = true → f i < m ∧ p' (f i) = true) → (∀ i j, i < n → j < n → p i = true → p j = true → f i = f j → i = j) → cnt p n ≤ cnt p' m := by
  intro n
  induction n with
  | zero => intro p' _ _; exact Nat.zero_le _
  | succ n ih =>
    intro p' h1 h2
    cases hp : p n with
    | false =>
      rw [cnt_f hp]
      exact ih p' (fun i hi => h1 i (by omega)) (fun i j hi hj => h2 i j (by omega) (by omega))
    | true =>
      obtain ⟨a, c⟩ := h1 n (by omega) hp
      rw [cnt_t hp, cnt_rem m a c]
      have := ih (fun i => p' i && !(decide (i = f n))) (fun i hi hpi => ?_) (fun i j hi hj => h2 i j (by omega) (by omega))
      · omega
      · obtain ⟨x, y⟩ := h1 i (by omega) hpi
        refine ⟨x, ?_⟩
        have hne : f i ≠ f n := fun z => by
          have := h2 i n (by omega) (by omega) hpi hp z
          omega
        rw [y, decide_eq_false hne]
        rfl
/-- the places of vertices, four for each, in one row -/
theorem cnt_flat {rc : Nat → Nat} (P : Nat → Nat → Bool) : ∀ n, (∀ v, v < n → rc v ≤ 4) → cnt (fun j => decide (j % 4 < rc (j / 4)) && P (j / 4) (j % 4)) (4 * n) = sumN (fun v => cnt (P v) (rc v)) n := by
  intro n
  induction n with
  | zero => intro _; rfl
  | succ n ih =>
    intro h
    have h4 := h n (by omega)
    have hm : ∀ k, k ≤ 4 → cnt (fun j => decide (j % 4 < rc (j / 4)) && P (j / 4) (j % 4)) (4 * n + k) = cnt (fun j => decide (j % 4 < rc (j / 4)) && P (j / 4) (j % 4)) (4 * n) + cnt (P n) (if k < rc n then k else rc n) := by
      intro k
      induction k with
      | zero =>
        intro _
        have e : (if 0 < rc n then 0 else rc n) = 0 := by split <;> omega
        rw [e]
        rfl
      | succ k ihk =>
        intro hk
        have e1 := ihk (by omega)
        have d1 : (4 * n + k) / 4 = n := by omega
        have d2 : (4 * n + k) % 4 = k := by omega
        show cnt (fun j => decide (j % 4 < rc (j / 4)) && P (j / 4) (j % 4)) (4 * n + k) + (if (decide ((4 * n + k) % 4 < rc ((4 * n + k) / 4)) && P ((4 * n + k) / 4) ((4 * n + k) % 4)) then 1 else 0) = _
        rw [e1, d1, d2]
        by_cases hkr : k < rc n
        · have e2 : (if k + 1 < rc n then k + 1 else rc n) = k + 1 := by split <;> omega
          rw [if_pos hkr, e2, decide_eq_true hkr, Bool.true_and, Nat.add_assoc]
          rfl
        · have e2 : (if k + 1 < rc n then k + 1 else rc n) = rc n := by split <;> omega
          rw [if_neg hkr, e2, decide_eq_false hkr]
          rfl
    have e := hm 4 (Nat.le_refl _)
    have e2 : (if 4 < rc n then 4 else rc n) = rc n := by split <;> omega
    rw [e2, ih fun v hv => h v (by omega)] at e
    exact e
/-- THE TRANSFER: counting over the list of requests is counting over the vertices' places -/
theorem pR_cnt (hR : pR nv kd dp wk rc re rt rs q qg qe qt qs) (P : Nat → Nat → Nat × Nat → Bool) : cnt (fun r => P (qg r) (qe r) (qt r)) q = sumN (fun v => cnt (fun k => P v (re v k) (rt v k)) (rc v)) nv := by
  obtain ⟨h1, h2, h3, h4⟩ := hR
  rw [← cnt_flat (fun v k => P v (re v k) (rt v k)) nv fun v hv => (h1 v hv).1]
  have hx : ∀ r, ∃ k, r < q → k < rc (qg r) ∧ re (qg r) k = qe r ∧ rt (qg r) k = qt r := fun r => by
    by_cases hr : r < q
    · obtain ⟨-, k, a, c, d, -⟩ := h2 r hr
      exact ⟨k, fun _ => ⟨a, c, d⟩⟩
    · exact ⟨0, fun z => absurd z hr⟩
  have hy : ∀ j, ∃ r, (j / 4 < nv ∧ j % 4 < rc (j / 4)) → r < q ∧ qg r = j / 4 ∧ qe r = re (j / 4) (j % 4) ∧ qt r = rt (j / 4) (j % 4) := fun j => by
    by_cases hj : j / 4 < nv ∧ j % 4 < rc (j / 4)
    · obtain ⟨r, a⟩ := h3 _ hj.1 _ hj.2
      exact ⟨r, fun _ => a⟩
    · exact ⟨0, fun z => absurd z hj⟩
  refine Nat.le_antisymm ?_ ?_
  · refine cnt_inj (f := fun r => 4 * qg r + Classical.choose (hx r)) q _ (fun r hr hp => ?_) (fun r s hr hs hp hp' he => ?_)
    · obtain ⟨a, c, d⟩ := Classical.choose_spec (hx r) hr
      have hg := (h2 r hr).1
      have h4' := (h1 _ hg).1
      generalize Classical.choose (hx r) = k at a c d ⊢
      have d1 : (4 * qg r + k) / 4 = qg r := by omega
      have d2 : (4 * qg r + k) % 4 = k := by omega
      refine ⟨by show 4 * qg r + k < 4 * nv; omega, ?_⟩
      show (decide ((4 * qg r + k) % 4 < rc ((4 * qg r + k) / 4)) && P ((4 * qg r + k) / 4) (re ((4 * qg r + k) / 4) ((4 * qg r + k) % 4)) (rt ((4 * qg r + k) / 4) ((4 * qg r + k) % 4))) = true
      rw [d1, d2, decide_eq_true a, c, d]
      exact hp
    · obtain ⟨a, c, d⟩ := Classical.choose_spec (hx r) hr
      obtain ⟨a', c', d'⟩ := Classical.choose_spec (hx s) hs
      change 4 * qg r + Classical.choose (hx r) = 4 * qg s + Classical.choose (hx s) at he
      have g1 := (h1 _ (h2 r hr).1).1
      have g2 := (h1 _ (h2 s hs).1).1
      generalize Classical.choose (hx r) = k at a c d he
      generalize Classical.choose (hx s) = l at a' c' d' he
      have e1 : qg r = qg s := by omega
      have e2 : k = l := by omega
      subst e2
      exact h4 r s hr hs e1 (by rw [← c, ← c', e1]) (by rw [← d, ← d', e1])
  · refine cnt_inj (f := fun j => Classical.choose (hy j)) (4 * nv) _ (fun j hj hp => ?_) (fun i j hi hj hp hp' he => ?_)
    · rw [Bool.and_eq_true, decide_eq_true_iff] at hp
      obtain ⟨a, c, d, e⟩ := Classical.choose_spec (hy j) ⟨by omega, hp.1⟩
      refine ⟨a, ?_⟩
      show P (qg (Classical.choose (hy j))) (qe (Classical.choose (hy j))) (qt (Classical.choose (hy j))) = true
      rw [c, d, e]
      exact hp.2
    · rw [Bool.and_eq_true, decide_eq_true_iff] at hp hp'
      obtain ⟨a, c, d, e⟩ := Classical.choose_spec (hy i) ⟨by omega, hp.1⟩
      obtain ⟨a', c', d', e'⟩ := Classical.choose_spec (hy j) ⟨by omega, hp'.1⟩
      change Classical.choose (hy i) = Classical.choose (hy j) at he
      rw [he] at c d e
      have e1 : i / 4 = j / 4 := c.symm.trans c'
      rw [e1] at d e hp
      have d2 : re (j / 4) (i % 4) = re (j / 4) (j % 4) := d.symm.trans d'
      have e2 : rt (j / 4) (i % 4) = rt (j / 4) (j % 4) := e.symm.trans e'
      have hs := (h1 (j / 4) (by omega)).2.2
      rcases Nat.lt_trichotomy (i % 4) (j % 4) with z | z | z
      · have := hs _ _ z hp'.1
        rw [d2, e2] at this
        exact absurd this (Nat.lt_irrefl _)
      · omega
      · have := hs _ _ z hp.1
        rw [d2, e2] at this
        exact absurd this (Nat.lt_irrefl _)
theorem sumN_congr {f g : Nat → Nat} : ∀ n, (∀ i, i < n → f i = g i) → sumN f n = sumN g n := by
  intro n
  induction n with
  | zero => intro _; rfl
  | succ n ih =>
    intro h
    show sumN f n + f n = sumN g n + g n
    rw [ih fun i hi => h i (by omega), h n (by omega)]
theorem cnt_all (n : Nat) : cnt (fun _ => true) n = n := by
  induction n with
  | zero => rfl
  | succ n ih => rw [cnt_t rfl, ih]
theorem pR_q (hR : pR nv kd dp wk rc re rt rs q qg qe qt qs) : q = sumN rc nv := by
  have h := pR_cnt hR (fun _ _ _ => true)
  rw [cnt_all] at h
  rw [h]
  exact sumN_congr nv fun v _ => cnt_all _
theorem pR_32 (hR : pR nv kd dp wk rc re rt rs q qg qe qt qs) (hn : nv ≤ 8) : q ≤ 32 := by
  rw [pR_q hR]
  have := sumN_le' (f := rc) (B := 4) (n := nv) fun v hv => (hR.1 v hv).1
  omega
theorem sim_mAO (hG : pG nv ne kd dp wk fr to) (h1 : mS σ b nv ne) (h2 : mV σ nv kd dp wk) (h3 : mE σ ne fr to) (hM : pM nv ne kd dp to cn me mt) (h4 : mM σ ne cn vl me mt) (hI : pI nv kd ee op) (h5 : mI σ nv ee op tt) (hR : pR nv kd dp wk rc re rt rs q qg qe qt qs) (h6 : mQ σ q qg qe qt qs) : mAO σ nv ne q fr to (gCd nv kd dp) (gDi nv kd dp) (gDo nv kd dp) cn ee op me mt qg qe qt := by
  have hn8 := hG.1
  refine ⟨sim_mgO hG h1 h2 h3, ⟨h1.1, hG.1⟩, ⟨h6.1, pR_32 hR hG.1⟩, fun e he => ?_, fun r hr => ?_, fun v hv => ?_⟩
  · obtain ⟨a, c⟩ := h4 e he
    obtain ⟨a', c'⟩ := hM e he
    refine ⟨a, a', fun k hk => ?_⟩
    obtain ⟨-, x1, x2, x3⟩ := c k hk
    exact ⟨x1, x2, x3, (c' k hk).1, pG_gr hG (hG.2.2.2 e he).2.1 (c' k hk).2⟩
  · obtain ⟨hg, k, a, c, d, -⟩ := hR.2.1 r hr
    obtain ⟨c1, c2, c3, c4⟩ := (hR.1 _ hg).2.1 k a
    rw [c, d] at c3
    rw [d] at c4
    exact ⟨(h6.2 r hr).1, by omega, c3, pG_gr hG hg (by rw [gDi_plain hg c1]; exact c4)⟩
  · obtain ⟨i1, i2, i3⟩ := h5 v hv
    exact ⟨i2, fun _ => ⟨i1, (hI v hv).1, pG_gr hG hv (dp_00 _)⟩⟩
end SIM
