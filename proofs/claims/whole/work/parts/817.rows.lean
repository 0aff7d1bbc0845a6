/-! The rows behind a gathering. -/
section SIM
variable {σ τ : wd_S} {nv : Nat} {rc : Nat → Nat} {re : Nat → Nat → Nat} {rt : Nat → Nat → Nat × Nat} {rs : Nat → Nat → Int32} {q : Nat} {qg qe : Nat → Nat} {qt : Nat → Nat × Nat} {qs : Nat → Int32}
theorem cR_more (c7 : cR σ nv rc re rt rs) {v s : Nat} {T X : Int32} (hv : v < nv) (hs : s < rc v) (h : slF σ v (rc v) T = some s) : cR (gaF σ v (rc v) T X) nv rc re rt (up rs v (up (rs v) s (rs v s + X))) := by
  have hg : gaF σ v (rc v) T X = u2 σ (8 + 3 * v) s (σ (8 + 3 * v) s + X) := by
    unfold gaF
    rw [h]
  rw [hg]
  intro u hu
  rw [u2_c (by omega)]
  refine ⟨(c7 u hu).1, fun k hk => ?_⟩
  obtain ⟨a, c⟩ := (c7 u hu).2 k hk
  rw [u2_c (by omega)]
  refine ⟨a, ?_⟩
  by_cases huv : u = v
  · subst huv
    rw [up_s]
    by_cases hks : k = s
    · subst hks
      rw [u2_same, up_s, c]
    · rw [u2_k hks, up_n hks, c]
  · rw [u2_c (by omega), up_n huv, c]
theorem mk_at {v r : Nat} {T : Int32} {p : Nat} (hp : insP (σ (7 + 3 * v)) T r = p) : mkF σ v r T (6 + 3 * v) 9 = nI (r + 1) ∧ (∀ k, mkF σ v r T (7 + 3 * v) k = if k = p then T else insR (σ (7 + 3 * v)) p r k) ∧ ∀ k, mkF σ v r T (8 + 3 * v) k = if k = p then nI 0 else insR (σ (8 + 3 * v)) p r k := by
  unfold mkF
  rw [hp]
  refine ⟨u2_same _ _ _ _, fun k => ?_, fun k => ?_⟩
  · rw [u2_c (by omega), rws_c (by omega), rws_same]
    rfl
  · rw [u2_c (by omega), rws_same]
    rfl
theorem cR_new (c7 : cR σ nv rc re rt rs) {v e p : Nat} {t : Nat × Nat} {X : Int32} (h : slF σ v (rc v) (nI (tmE e t)) = none) (hp : insP (σ (7 + 3 * v)) (nI (tmE e t)) (rc v) = p) : cR (gaF σ v (rc v) (nI (tmE e t)) X) nv (up rc v (rc v + 1)) (up re v (inS p (re v) e)) (up rt v (inS p (rt v) t)) (up rs v (inS p (rs v) (nI 0 + X))) := by
  have hg : gaF σ v (rc v) (nI (tmE e t)) X = u2 (mkF σ v (rc v) (nI (tmE e t))) (8 + 3 * v) p (nI 0 + X) := by
    unfold gaF
    rw [h]
    show u2 _ _ (insP (σ (7 + 3 * v)) (nI (tmE e t)) (rc v)) _ = _
    rw [hp]
  have hle : p ≤ rc v := hp ▸ insP_le (σ (7 + 3 * v)) (nI (tmE e t)) (rc v)
  obtain ⟨a1, a2, a3⟩ := mk_at (σ := σ) hp
  rw [hg]
  intro u hu
  by_cases huv : u = v
  · subst huv
    rw [up_s, up_s, up_s, up_s, u2_c (by omega)]
    refine ⟨a1, fun k hk => ?_⟩
    rw [u2_c (by omega), a2]
    rcases Nat.lt_trichotomy k p with z | z | z
    · have hn : ¬ (p < k ∧ k ≤ rc u) := by omega
      rw [u2_k (by omega), a3, if_neg (by omega), if_neg (by omega), inS_l z, inS_l z, inS_l z]
      unfold insR
      rw [if_neg hn, if_neg hn]
      exact (c7 u hu).2 k (by omega)
    · subst z
      rw [u2_same, if_pos rfl, inS_s, inS_s, inS_s]
      exact ⟨rfl, rfl⟩
    · have hn : p < k ∧ k ≤ rc u := by omega
      rw [u2_k (by omega), a3, if_neg (by omega), if_neg (by omega), inS_g z, inS_g z, inS_g z]
      unfold insR
      rw [if_pos hn, if_pos hn]
      exact (c7 u hu).2 (k - 1) (by omega)
  · rw [up_n huv, up_n huv, up_n huv, up_n huv, u2_row (by omega), u2_row (by omega), u2_row (by omega), mkF_c (by omega), mkF_c (by omega), mkF_c (by omega)]
    exact c7 u hu
theorem mQ_more (m7 : mQ σ q qg qe qt qs) {r v : Nat} {X : Int32} (hr : r < q) (h : fst1 (rmB σ (nI v)) q = some r) : mQ (mgF σ q (nI v) X) q qg qe qt (up qs r (qs r + X)) := by
  have hg : mgF σ q (nI v) X = u2 σ 80 r (σ 80 r + X) := by
    unfold mgF
    rw [h]
  rw [hg]
  refine ⟨by rw [u2_c (by omega)]; exact m7.1, fun k hk => ?_⟩
  obtain ⟨a, c⟩ := m7.2 k hk
  unfold mrO
  rw [u2_row (by omega), u2_row (by omega)]
  refine ⟨a, ?_⟩
  by_cases hkr : k = r
  · subst hkr
    rw [u2_same, up_s, c]
  · rw [u2_k hkr, up_n hkr, c]
theorem mQ_new (m7 : mQ σ q qg qe qt qs) {v e : Nat} {t : Nat × Nat} {X : Int32} (t1 : σ 66 21 = nI e) (t2 : σ 66 22 = nI t.1) (t3 : σ 66 23 = nI t.2) (h : fst1 (rmB σ (nI v)) q = none) : mQ (mgF σ q (nI v) X) (q + 1) (up qg q v) (up qe q e) (up qt q t) (up qs q (nI 0 + X)) := by
  have hg : mgF σ q (nI v) X = u2 (mnF σ q (nI v)) 80 q (nI 0 + X) := by
    unfold mgF
    rw [h]
  rw [hg]
  have n14 : mnF σ q (nI v) 66 14 = nI (q + 1) := u2_same _ _ _ _
  have n78 : ∀ k, mnF σ q (nI v) 78 k = if k = q then nI v else σ 78 k := fun k => by
    unfold mnF
    rw [u2_c (by omega), u2_c (by omega), u2_c (by omega), u2_c (by omega), u2_c (by omega)]
    by_cases hk : k = q
    · rw [if_pos hk, hk, u2_same]
    · rw [if_neg hk, u2_k hk]
  have n80 : ∀ k, k ≠ q → mnF σ q (nI v) 80 k = σ 80 k := fun k hk => by
    unfold mnF
    rw [u2_c (by omega), u2_k hk, u2_c (by omega), u2_c (by omega), u2_c (by omega), u2_c (by omega)]
  have n79 : ∀ j, j ≠ 3 * q → j ≠ 3 * q + 1 → j ≠ 3 * q + 2 → mnF σ q (nI v) 79 j = σ 79 j := fun j h1 h2 h3 => by
    unfold mnF
    rw [u2_c (by omega), u2_c (by omega), u2_k h3, u2_k h2, u2_k h1, u2_c (by omega)]
  have q0 : mnF σ q (nI v) 79 (3 * q) = nI e := by
    unfold mnF
    rw [u2_c (by omega), u2_c (by omega), u2_k (by omega), u2_k (by omega), u2_same, t1]
  have q1 : mnF σ q (nI v) 79 (3 * q + 1) = nI t.1 := by
    unfold mnF
    rw [u2_c (by omega), u2_c (by omega), u2_k (by omega), u2_same, t2]
  have q2 : mnF σ q (nI v) 79 (3 * q + 2) = nI t.2 := by
    unfold mnF
    rw [u2_c (by omega), u2_c (by omega), u2_same, t3]
  refine ⟨by rw [u2_c (by omega)]; exact n14, fun k hk => ?_⟩
  unfold mrO
  rw [u2_row (by omega), u2_row (by omega), n78]
  by_cases hkq : k = q
  · subst hkq
    rw [if_pos rfl, up_s, up_s, up_s, up_s, u2_same]
    exact ⟨⟨rfl, q0, q1, q2⟩, rfl⟩
  · rw [if_neg hkq, up_n hkq, up_n hkq, up_n hkq, up_n hkq, n79 _ (by omega) (by omega) (by omega), n79 _ (by omega) (by omega) (by omega), n79 _ (by omega) (by omega) (by omega), u2_k hkq, n80 k hkq]
    exact m7.2 k (by omega)
end SIM
