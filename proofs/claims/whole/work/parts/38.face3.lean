/-! The class's face: requests and messages. -/
theorem tm_part {e : Nat} {t : Nat × Nat} (h : tmOK e t) (y : Nat) (hy : y = 1 ∨ y = 2 ∨ y = 3) : (nI (tmE e t) >>> ((nI 3 - nI y) * nI 10 &&& 31)) &&& nI 1023 = nI (if y = 1 then e else if y = 2 then t.1 else t.2) := by
  have a := tmE_lt h
  obtain ⟨h1, h2, h3⟩ := h
  rcases hy with rfl | rfl | rfl
  · rw [pk_shrN (by omega) _ 20 (by decide), pk_andN (by unfold tmE enT; omega) 10 (by decide)]
    congr 1
    unfold tmE enT
    simp
    omega
  · rw [pk_shrN (by omega) _ 10 (by decide), pk_andN (by unfold tmE enT; omega) 10 (by decide)]
    congr 1
    unfold tmE enT
    simp
    omega
  · rw [pk_shrN (by omega) _ 0 (by decide), pk_andN (by unfold tmE enT; omega) 10 (by decide)]
    congr 1
    unfold tmE enT
    simp
    omega
theorem r_message {xs : List Int32} {σ : wd_S} {e : Nat} (he : σ 2 3 = nI e) (he12 : e ≤ 12) (cn : Nat → Nat) (hc : ∀ i, i < e → σ (30 + 3 * i) 2 = nI (cn i) ∧ cn i ≤ 6) (x y z : Int32) : ev xs 13 [.ref 1, .int x, .int y, .int z] σ (if inB x e = true ∧ inB z 4 = true ∧ inB y (cn x.toNatClampNeg) = true then (if z = 0 then σ (31 + 3 * x.toNatClampNeg) y.toNatClampNeg else (σ (32 + 3 * x.toNatClampNeg) y.toNatClampNeg >>> ((nI 3 - z) * nI 10 &&& 31)) &&& nI 1023) else nI 0) σ := by
  refine am_Ev.of (n := 5) rfl rfl rfl rfl ?_
  have bad : ¬ (inB x e = true ∧ inB z 4 = true ∧ inB y (cn x.toNatClampNeg) = true) → ∀ lo, am_G 13 20 lo [] (wd xs σ) (po xs (if inB x e = true ∧ inB z 4 = true ∧ inB y (cn x.toNatClampNeg) = true then (if z = 0 then σ (31 + 3 * x.toNatClampNeg) y.toNatClampNeg else (σ (32 + 3 * x.toNatClampNeg) y.toNatClampNeg >>> ((nI 3 - z) * nI 10 &&& 31)) &&& nI 1023) else nI 0) σ) := by
    intro hz lo
    rw [if_neg hz]
    refine s_ic (v := nI 0) rfl rfl ?_
    refine g_iret rfl rfl ?_
    exact ⟨rfl, rfl⟩
  have bad2 : ¬ (inB x e = true ∧ inB z 4 = true ∧ inB y (cn x.toNatClampNeg) = true) → ∀ lo, am_G 13 46 lo [] (wd xs σ) (po xs (if inB x e = true ∧ inB z 4 = true ∧ inB y (cn x.toNatClampNeg) = true then (if z = 0 then σ (31 + 3 * x.toNatClampNeg) y.toNatClampNeg else (σ (32 + 3 * x.toNatClampNeg) y.toNatClampNeg >>> ((nI 3 - z) * nI 10 &&& 31)) &&& nI 1023) else nI 0) σ) := by
    intro hz lo
    rw [if_neg hz]
    refine s_ic (v := nI 0) rfl rfl ?_
    refine g_iret rfl rfl ?_
    exact ⟨rfl, rfl⟩
  refine g_aload_n rfl rfl ?_
  refine g_get rfl rfl wd_F rfl ?_
  refine g_iload_n rfl rfl ?_
  refine c_V rfl rfl rfl rfl wd_G rfl (r_hasE he x) rfl rfl rfl ?_
  cases hx : inB x e with
  | false =>
    refine g_if_eq rfl (fun _ => ?_) (fun h => absurd (rfl) h)
    rw [hx] at bad
    exact bad (fun q => by cases q.1) _
  | true =>
    rw [hx] at bad bad2
    refine g_if_eq rfl (fun h => absurd h (by decide)) (fun _ => ?_)
    obtain ⟨i, hi, rfl⟩ := inB_ex (by omega) hx
    rw [nI_clamp (by omega)] at bad bad2 ⊢
    obtain ⟨c1, c2⟩ := hc i hi
    refine g_iload_n rfl rfl ?_
    refine g_if_lt rfl (fun h => ?_) (fun h => ?_)
    · exact bad (fun q => by
        have := q.2.1
        unfold inB at this
        rw [Bool.and_eq_true, decide_eq_true_eq] at this
        simp only [lt_i, le_i] at *
        omega) _
    · refine g_iload_n rfl rfl ?_
      refine s_ic (v := nI 3) rfl rfl ?_
      refine g_icmp_le rfl (fun h3 => ?_) (fun h3 => ?_)
      · have hz : inB z 4 = true := by
          unfold inB
          have n3 : (nI 3).toInt = 3 := by decide
          have n4 : (nI 4).toInt = 4 := by decide
          rw [Bool.and_eq_true, decide_eq_true_eq, decide_eq_true_eq]
          simp only [lt_i, le_i, i0, n3, n4] at *
          omega
        refine g_aload_n rfl rfl ?_
        refine g_get rfl rfl wd_F rfl ?_
        refine g_get rfl rfl wd_G rfl ?_
        refine g_iload_n rfl rfl ?_
        refine s_aE rfl rfl (by omega) ?_
        refine g_astore rfl (Nat.le_of_ble_eq_true rfl) ?_
        refine g_iload_n rfl rfl ?_
        refine g_if_lt rfl (fun h4 => ?_) (fun h4 => ?_)
        · exact bad2 (fun q => by
            have := q.2.2
            unfold inB at this
            rw [Bool.and_eq_true, decide_eq_true_eq] at this
            simp only [lt_i, le_i] at *
            omega) _
        · refine g_iload_n rfl rfl ?_
          refine g_aload rfl rfl ?_
          refine g_get rfl rfl (wd_E (by omega)) rfl ?_
          rw [c1]
          refine g_icmp_lt rfl (fun h5 => ?_) (fun h5 => ?_)
          · have hy : inB y (cn i) = true := by
              unfold inB
              rw [Bool.and_eq_true, decide_eq_true_eq, decide_eq_true_eq]
              refine ⟨?_, h5⟩
              simp only [lt_i, le_i, i0] at *
              omega
            obtain ⟨k, hk, rfl⟩ := inB_ex (by omega) hy
            rw [if_pos ⟨rfl, hz, hy⟩, nI_clamp (by omega)]
            refine g_iload_n rfl rfl ?_
            refine g_if_ne rfl (fun h6 => ?_) (fun h6 => ?_)
            · rw [if_neg h6]
              refine g_aload rfl rfl ?_
              refine g_get rfl rfl (wd_E (by omega)) rfl ?_
              refine g_iload_n rfl rfl ?_
              refine s_iald rfl (a_EM (by omega)) rfl (by omega) ?_
              refine g_iload_n rfl rfl ?_
              refine c_S rfl rfl rfl rfl (r_part _ _) rfl rfl rfl ?_
              refine g_iret rfl rfl ?_
              exact ⟨rfl, rfl⟩
            · rw [if_pos h6]
              refine g_aload rfl rfl ?_
              refine g_get rfl rfl (wd_E (by omega)) rfl ?_
              refine g_iload_n rfl rfl ?_
              refine s_iald rfl (a_EV (by omega)) rfl (by omega) ?_
              refine g_goto rfl ?_
              refine g_iret rfl rfl ?_
              exact ⟨rfl, rfl⟩
          · exact bad2 (fun q => by
              have := q.2.2
              unfold inB at this
              rw [Bool.and_eq_true, decide_eq_true_eq, decide_eq_true_eq] at this
              exact h5 this.2) _
      · exact bad (fun q => by
          have := q.2.1
          unfold inB at this
          have n3 : (nI 3).toInt = 3 := by decide
          have n4 : (nI 4).toInt = 4 := by decide
          rw [Bool.and_eq_true, decide_eq_true_eq, decide_eq_true_eq] at this
          simp only [lt_i, le_i, n3, n4] at *
          omega) _
/-- the vertex of request x, if there is one -/
def rqF (σ : wd_S) (n : Nat) (x : Int32) : Option Nat := if 0 ≤ x then voF σ x n else none
theorem r_vertexOf' {xs : List Int32} {σ : wd_S} {n : Nat} (hn : σ 2 2 = nI n) (hn8 : n ≤ 8) (x : Int32) : ev xs 29 [.ref 2, .int x] σ (oI (rqF σ n x)) σ := by
  have h := r_vertexOf (xs := xs) hn hn8 x
  have e : (if 0 ≤ x then oI (voF σ x n) else -1) = oI (rqF σ n x) := by
    unfold rqF
    by_cases h0 : 0 ≤ x
    · rw [if_pos h0, if_pos h0]
    · rw [if_neg h0, if_neg h0]
      rfl
  rw [e] at h
  exact h
theorem rqF_lt {σ : wd_S} {n v : Nat} {x : Int32} (h : rqF σ n x = some v) : v < n := by
  unfold rqF at h
  split at h
  · exact (fst1_lt h).1
  · cases h
/-- request x is the one in slot s of v -/
def slOK (σ : wd_S) (n : Nat) (x : Int32) (v s : Nat) : Prop := rqF σ n x = some v ∧ (∀ u, u < v → ¬ soF σ x u < σ (6 + 3 * u) 9) ∧ soF σ x v < σ (6 + 3 * v) 9 ∧ soF σ x v = nI s ∧ s < 4
theorem r_request_bad {xs : List Int32} {σ : wd_S} {n : Nat} (hn : σ 2 2 = nI n) (hn8 : n ≤ 8) (x y : Int32) (h : rqF σ n x = none ∨ inB y 5 = false) : ev xs 9 [.ref 1, .int x, .int y] σ (-1) σ := by
  refine am_Ev.of (n := 5) rfl rfl rfl rfl ?_
  have bad : ∀ lo, am_G 9 23 lo [] (wd xs σ) (po xs (-1) σ) := by
    intro lo
    refine s_ic (v := -1) rfl rfl ?_
    refine g_iret rfl rfl ?_
    exact ⟨rfl, rfl⟩
  refine g_aload_n rfl rfl ?_
  refine g_get rfl rfl wd_F rfl ?_
  refine g_iload_n rfl rfl ?_
  refine c_V rfl rfl rfl rfl wd_G rfl (r_vertexOf' hn hn8 x) rfl rfl rfl ?_
  refine g_istore_n rfl (Nat.le_of_ble_eq_true rfl) ?_
  refine g_iload_n rfl rfl ?_
  refine s_ic (v := -1) rfl rfl ?_
  cases hq : rqF σ n x with
  | none =>
    refine g_icmp_eq rfl (fun _ => ?_) (fun h => absurd (rfl) h)
    exact bad _
  | some v =>
    have hv := rqF_lt hq
    refine g_icmp_eq rfl (fun h => absurd h (fun z => absurd ((oI_m1 (o := some v) (r := n) (fun j h => by cases h; exact hv) (by omega)).mp z) (by simp))) (fun _ => ?_)
    have hy : inB y 5 = false := by
      rcases h with h | h
      · rw [hq] at h
        cases h
      · exact h
    refine g_iload_n rfl rfl ?_
    refine g_if_lt rfl (fun h1 => ?_) (fun h1 => ?_)
    · exact bad _
    · refine g_iload_n rfl rfl ?_
      refine s_ic (v := nI 4) rfl rfl ?_
      refine g_icmp_le rfl (fun h2 => ?_) (fun h2 => ?_)
      · exfalso
        unfold inB at hy
        have n5 : (nI 5).toInt = 5 := by decide
        have n4 : (nI 4).toInt = 4 := by decide
        rw [Bool.and_eq_false_iff, decide_eq_false_iff_not, decide_eq_false_iff_not] at hy
        simp only [lt_i, le_i, i0, n5, n4] at *
        omega
      · exact bad _
theorem r_request {xs : List Int32} {σ : wd_S} {n v s : Nat} (hn : σ 2 2 = nI n) (hn8 : n ≤ 8) (x : Int32) (hs : slOK σ n x v s) {y : Nat} (hy : y < 5) : ev xs 9 [.ref 1, .int x, .int (nI y)] σ (if y = 0 then nI v else if y = 4 then σ (8 + 3 * v) s else (σ (7 + 3 * v) s >>> ((nI 3 - nI y) * nI 10 &&& 31)) &&& nI 1023) σ := by
  obtain ⟨s1, s2, s3, s4, s5⟩ := hs
  have hv := rqF_lt s1
  refine am_Ev.of (n := 5) rfl rfl rfl rfl ?_
  refine g_aload_n rfl rfl ?_
  refine g_get rfl rfl wd_F rfl ?_
  refine g_iload_n rfl rfl ?_
  refine c_V rfl rfl rfl rfl wd_G rfl (r_vertexOf' hn hn8 x) rfl rfl rfl ?_
  rw [s1]
  refine g_istore_n rfl (Nat.le_of_ble_eq_true rfl) ?_
  refine g_iload_n rfl rfl ?_
  refine s_ic (v := -1) rfl rfl ?_
  refine g_icmp_eq rfl (fun h => absurd h (fun z => absurd ((oI_m1 (o := some v) (r := n) (fun j h => by cases h; exact hv) (by omega)).mp z) (by simp))) (fun _ => ?_)
  refine g_iload_n rfl rfl ?_
  refine g_if_lt rfl (fun h => absurd h (nI_pos (by omega))) (fun _ => ?_)
  refine g_iload_n rfl rfl ?_
  refine s_ic (v := nI 4) rfl rfl ?_
  refine g_icmp_le rfl (fun _ => ?_) (fun h => absurd (nI_le (by omega) (by omega)) h)
  refine g_aload_n rfl rfl ?_
  refine g_get rfl rfl wd_F rfl ?_
  refine g_iload_n rfl rfl ?_
  refine c_V rfl rfl rfl rfl wd_G rfl (r_slotOf2 hn hn8 x hv s2 s3) rfl rfl rfl ?_
  rw [s4]
  refine g_istore rfl (Nat.le_of_ble_eq_true rfl) ?_
  refine g_iload_n rfl rfl ?_
  by_cases h0 : y = 0
  · subst h0
    refine g_if_ne rfl (fun h => absurd (rfl) h) (fun _ => ?_)
    refine g_iload_n rfl rfl ?_
    refine g_iret rfl rfl ?_
    exact ⟨rfl, rfl⟩
  · refine g_if_ne rfl (fun _ => ?_) (fun h => absurd h (nI_ne0 (by omega) (by omega)))
    rw [if_neg h0]
    refine g_iload_n rfl rfl ?_
    refine s_ic (v := nI 4) rfl rfl ?_
    by_cases h4 : y = 4
    · subst h4
      refine g_icmp_ne rfl (fun h => absurd (rfl) h) (fun _ => ?_)
      refine g_aload_n rfl rfl ?_
      refine g_get rfl rfl wd_F rfl ?_
      refine g_get rfl rfl wd_G rfl ?_
      refine g_iload_n rfl rfl ?_
      refine s_aV rfl (v := v) rfl (by omega) ?_
      refine g_get rfl rfl (wd_V (by omega)) rfl ?_
      refine g_iload rfl rfl ?_
      refine s_iald rfl (a_VG (by omega)) rfl (by omega) ?_
      refine g_iret rfl rfl ?_
      exact ⟨rfl, rfl⟩
    · refine g_icmp_ne rfl (fun _ => ?_) (fun h => absurd h (fun z => h4 ((nI_eq (by omega) (by omega)).mp z)))
      rw [if_neg h4]
      refine g_aload_n rfl rfl ?_
      refine g_get rfl rfl wd_F rfl ?_
      refine g_get rfl rfl wd_G rfl ?_
      refine g_iload_n rfl rfl ?_
      refine s_aV rfl (v := v) rfl (by omega) ?_
      refine g_get rfl rfl (wd_V (by omega)) rfl ?_
      refine g_iload rfl rfl ?_
      refine s_iald rfl (a_VM (by omega)) rfl (by omega) ?_
      refine g_iload_n rfl rfl ?_
      refine c_S rfl rfl rfl rfl (r_part _ _) rfl rfl rfl ?_
      refine g_iret rfl rfl ?_
      exact ⟨rfl, rfl⟩
theorem r_ahead_bad {xs : List Int32} {σ : wd_S} {n : Nat} (hn : σ 2 2 = nI n) (hn8 : n ≤ 8) (x : Int32) (h : rqF σ n x = none) : ev xs 10 [.ref 1, .int x] σ (-1) σ := by
  refine am_Ev.of (n := 3) rfl rfl rfl rfl ?_
  refine g_aload_n rfl rfl ?_
  refine g_get rfl rfl wd_F rfl ?_
  refine g_iload_n rfl rfl ?_
  refine c_V rfl rfl rfl rfl wd_G rfl (r_vertexOf' hn hn8 x) rfl rfl rfl ?_
  rw [h]
  refine g_istore_n rfl (Nat.le_of_ble_eq_true rfl) ?_
  refine g_iload_n rfl rfl ?_
  refine s_ic (v := -1) rfl rfl ?_
  refine g_icmp_ne rfl (fun h => absurd (rfl) h) (fun _ => ?_)
  refine s_ic (v := -1) rfl rfl ?_
  refine g_iret rfl rfl ?_
  exact ⟨rfl, rfl⟩
theorem r_ahead {xs : List Int32} {σ : wd_S} {nv ne : Nat} {fr to cd di do_ : Nat → Nat} {cn rc ee : Nat → Nat} {op : Nat → Bool} {me : Nat → Nat → Nat} {mt : Nat → Nat → Nat × Nat} {re : Nat → Nat → Nat} {rt : Nat → Nat → Nat × Nat} (h : aOK σ nv ne fr to cd di do_ cn rc ee op me mt re rt) (x : Int32) {v s : Nat} (hs : slOK σ nv x v s) (hsr : s < rc v) :
    am_Ev 10 [.ref 1, .int x] (wd xs σ) (qE xs σ (nI (sumN (caM σ ne fr to cd cn me mt v (re v s) (rt v s)) ne + sumN (caR ne fr to cd rc ee op re rt v (re v s) (rt v s)) nv))) := by
  obtain ⟨s1, s2, s3, s4, s5⟩ := hs
  have hv := rqF_lt s1
  have hn := h.2.1
  have hn8 := h.2.2.1
  refine am_Ev.of (n := 3) rfl rfl rfl rfl ?_
  refine g_aload_n rfl rfl ?_
  refine g_get rfl rfl wd_F rfl ?_
  refine g_iload_n rfl rfl ?_
  refine c_V rfl rfl rfl rfl wd_G rfl (r_vertexOf' hn hn8 x) rfl rfl rfl ?_
  rw [s1]
  refine g_istore_n rfl (Nat.le_of_ble_eq_true rfl) ?_
  refine g_iload_n rfl rfl ?_
  refine s_ic (v := -1) rfl rfl ?_
  refine g_icmp_ne rfl (fun _ => ?_) (fun h => absurd h (fun z => absurd ((oI_m1 (o := some v) (r := nv) (fun j h => by cases h; exact hv) (by omega)).mp z) (by simp)))
  refine g_aload_n rfl rfl ?_
  refine g_get rfl rfl wd_F rfl ?_
  refine g_iload_n rfl rfl ?_
  refine g_aload_n rfl rfl ?_
  refine g_get rfl rfl wd_F rfl ?_
  refine g_iload_n rfl rfl ?_
  refine c_V rfl rfl rfl rfl wd_G rfl (r_slotOf2 hn hn8 x hv s2 s3) rfl rfl rfl ?_
  rw [s4]
  refine c_Vq rfl rfl rfl rfl wd_G rfl (r_countAhead h hv hsr) rfl rfl rfl fun τ hτ => ?_
  refine g_iret rfl rfl ?_
  exact ⟨rfl, τ, rfl, hτ⟩
