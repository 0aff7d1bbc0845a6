/-! The reference: fire. -/
/-- the last request's time comes to place r -/
def cpF (τ : wd_S) (r p : Nat) (f : Nat → Int32) : Nat → wd_S
  | 0 => τ
  | j + 1 => u2 (cpF τ r p f j) 79 (3 * r + j) (f (3 * p + j))
theorem cpF_c {τ : wd_S} {r p d : Nat} {f : Nat → Int32} (h : d ≠ 79) : ∀ j, cpF τ r p f j d = τ d := by
  intro j
  induction j with
  | zero => rfl
  | succ j ih =>
    show u2 (cpF τ r p f j) 79 (3 * r + j) _ d = _
    rw [u2_row h, ih]
theorem cpF_79 {τ : wd_S} {r p k : Nat} {f : Nat → Int32} : ∀ j, (∀ i, i < j → k ≠ 3 * r + i) → cpF τ r p f j 79 k = τ 79 k := by
  intro j
  induction j with
  | zero => intro _; rfl
  | succ j ih =>
    intro h
    show u2 (cpF τ r p f j) 79 (3 * r + j) _ 79 k = _
    rw [u2_k (h j (by omega)), ih fun i hi => h i (by omega)]
/-- request r is taken out: p is the last -/
def moF (τ : wd_S) (r p : Nat) : wd_S := u2 (cpF (u2 (u2 (u2 (tiF τ (τ 79 (3 * r)) (τ 79 (3 * r + 1)) (τ 79 (3 * r + 2))) 66 14 (nI p)) 78 r (τ 78 p)) 80 r (τ 80 p)) r p (τ 79) 3) 66 19 (τ 66 19 + nI 1)
theorem moF_c {τ : wd_S} {r p d : Nat} (h : d ≠ 66 ∧ d ≠ 78 ∧ d ≠ 79 ∧ d ≠ 80) : moF τ r p d = τ d := by
  unfold moF
  rw [u2_row h.1, cpF_c h.2.2.1, u2_row h.2.2.2, u2_row h.2.1, u2_row h.1, tiF_c h.1]
theorem moF_66 {τ : wd_S} {r p k : Nat} (h : k ≠ 14 ∧ k ≠ 19 ∧ k ≠ 21 ∧ k ≠ 22 ∧ k ≠ 23) : moF τ r p 66 k = τ 66 k := by
  unfold moF
  rw [u2_k h.2.1, cpF_c (by omega), u2_c (by omega), u2_c (by omega), u2_k h.1, tiF_k h.2.2]
theorem m_fire_bad {xs : List Int32} {σ : wd_S} {q : Nat} (hq : σ 66 14 = nI q) (hq32 : q ≤ 32) (x : Int32) (h : nuF σ q x = none) : ev xs 91 [.ref 66, .int x] σ (-1) σ := by
  refine am_Ev.of (n := 7) rfl rfl rfl rfl ?_
  refine g_aload_n rfl rfl ?_
  refine g_iload_n rfl rfl ?_
  refine c_V rfl rfl rfl rfl wd_M rfl (m_numbered hq hq32 x) rfl rfl rfl ?_
  rw [h]
  refine g_istore_n rfl (Nat.le_of_ble_eq_true rfl) ?_
  refine g_iload_n rfl rfl ?_
  refine g_if_ge rfl (fun h => absurd h (by decide)) (fun _ => ?_)
  refine s_ic (v := -1) rfl rfl ?_
  refine g_iret rfl rfl ?_
  exact ⟨rfl, rfl⟩
theorem maA_lt {σ : wd_S} {nv ne q : Nat} {fr to cd di do_ : Nat → Nat} {cn ee : Nat → Nat} {op : Nat → Bool} {me : Nat → Nat → Nat} {mt : Nat → Nat → Nat × Nat} {qg qe : Nat → Nat} {qt : Nat → Nat × Nat} (h : mAO σ nv ne q fr to cd di do_ cn ee op me mt qg qe qt) (r : Nat) : maA σ nv ne q fr to cd cn ee op me mt qg qe qt r < 1000 := by
  obtain ⟨hg, ⟨hnv, hnv8⟩, ⟨hq, hq32⟩, hE, hR, hV⟩ := h
  have hne := hg.2.1
  have h1 : sumN (fun e => cnt (maM σ ne fr to cd me mt (qg r) (qe r) (qt r) e) (cn e)) ne ≤ ne * 6 := sumN_le' fun e he => by
    have h2 := cnt_le (maM σ ne fr to cd me mt (qg r) (qe r) (qt r) e) (cn e)
    have := (hE e he).2.1
    show cnt _ _ ≤ 6
    omega
  have h2 := cnt_le (maR ne fr to cd qg qe qt r) q
  have h3 := cnt_le (maV ne fr to cd ee op (qg r) (qe r) (qt r)) nv
  unfold maA
  omega
theorem m_fire {xs : List Int32} {σ : wd_S} {nv ne q : Nat} {fr to cd di do_ : Nat → Nat} {cn ee : Nat → Nat} {op : Nat → Bool} {me : Nat → Nat → Nat} {mt : Nat → Nat → Nat × Nat} {qg qe : Nat → Nat} {qt : Nat → Nat × Nat} (h : mAO σ nv ne (q + 1) fr to cd di do_ cn ee op me mt qg qe qt) (x : Int32) {r : Nat} (hr : nuF σ (q + 1) x = some r)
    (hc : anyB (fun i => decide (σ 73 i = nI (qg r)) && mlF σ (-1) i) ne = false → ∀ i, i < ne → σ 73 i = nI (qg r) → cn i < 6) :
    am_Ev 91 [.ref 66, .int x] (wd xs σ) (fun a w => ∃ τ, sc6 σ τ ∧ ((0 < maA σ nv ne (q + 1) fr to cd cn ee op me mt qg qe qt r ∧ a = some (.int (-6)) ∧ w = wd xs τ) ∨ (maA σ nv ne (q + 1) fr to cd cn ee op me mt qg qe qt r = 0 ∧ anyB (fun i => decide (σ 73 i = nI (qg r)) && mlF σ (-1) i) ne = true ∧ a = some (.int (-2)) ∧ w = wd xs τ) ∨ (maA σ nv ne (q + 1) fr to cd cn ee op me mt qg qe qt r = 0 ∧ anyB (fun i => decide (σ 73 i = nI (qg r)) && mlF σ (-1) i) ne = false ∧ a = some (.int (nI (cnt (fun i => decide (σ 73 i = nI (qg r))) ne))) ∧ w = wd xs (saF (moF τ r q) (fun i => decide (σ 73 i = nI (qg r))) (σ 80 r) cn ne)))) := by
  obtain ⟨hg, ⟨hnv, hnv8⟩, ⟨hq, hq32⟩, hE, hR, hV⟩ := id h
  have hrq : r < q + 1 := (fst1_lt hr).1
  obtain ⟨r1, r2, r3, r4⟩ := hR r hrq
  have hne12 := hg.2.1
  have hA := maA_lt h r
  refine am_Ev.of (n := 7) rfl rfl rfl rfl ?_
  refine g_aload_n rfl rfl ?_
  refine g_iload_n rfl rfl ?_
  refine c_V rfl rfl rfl rfl wd_M rfl (m_numbered hq hq32 x) rfl rfl rfl ?_
  rw [hr, show oI (some r) = nI r from rfl]
  refine g_istore_n rfl (Nat.le_of_ble_eq_true rfl) ?_
  refine g_iload_n rfl rfl ?_
  refine g_if_ge rfl (fun _ => ?_) (fun h => absurd ((oI_neg (o := some r) (r := q + 1) (fun j h => by cases h; exact hrq) (by omega)).mpr rfl) h)
  refine g_aload_n rfl rfl ?_
  refine g_iload_n rfl rfl ?_
  refine c_Vm rfl rfl rfl rfl wd_M rfl (m_aheadOf h hrq) rfl rfl rfl fun τ hs => ?_
  have hk : ∀ d, d ≠ 66 → d ≠ 81 → d ≠ 82 → d ≠ 83 → τ d = σ d := hs.1
  have h73 : τ 73 = σ 73 := hk 73 (by omega) (by omega) (by omega) (by omega)
  have h75 : τ 75 = σ 75 := hk 75 (by omega) (by omega) (by omega) (by omega)
  have h80 : τ 80 = σ 80 := hk 80 (by omega) (by omega) (by omega) (by omega)
  have hany : anyB (fun i => decide (τ 73 i = nI (qg r)) && mlF τ (-1) i) ne = anyB (fun i => decide (σ 73 i = nI (qg r)) && mlF σ (-1) i) ne := by
    unfold mlF
    rw [h73, h75]
  obtain ⟨w1, w2, w3, w4⟩ := r1.of hs
  refine g_istore_n rfl (Nat.le_of_ble_eq_true rfl) ?_
  refine g_iload_n rfl rfl ?_
  by_cases hA0 : maA σ nv ne (q + 1) fr to cd cn ee op me mt qg qe qt r = 0
  · rw [hA0]
    refine g_if_le rfl (fun _ => ?_) (fun h => absurd (by decide) h)
    refine g_aload_n rfl rfl ?_
    refine g_get rfl rfl wd_M rfl ?_
    refine g_iload_n rfl rfl ?_
    refine s_iald rfl a_78 rfl (by omega) ?_
    rw [w1]
    refine g_istore rfl (Nat.le_of_ble_eq_true rfl) ?_
    refine g_aload_n rfl rfl ?_
    refine g_iload rfl rfl ?_
    refine s_ic (v := -1) rfl rfl ?_
    refine c_V rfl rfl rfl rfl wd_M rfl (m_anyFull (e := ne) (by rw [hs.2 _ (by omega) (by omega)]; exact hg.1) hne12 _ _) rfl rfl rfl ?_
    rw [hany]
    cases ha : anyB (fun i => decide (σ 73 i = nI (qg r)) && mlF σ (-1) i) ne with
    | true =>
      refine g_if_eq rfl (fun h => absurd h (by decide)) (fun _ => ?_)
      refine s_bp (v := -2) rfl rfl ?_
      refine g_iret rfl rfl ?_
      exact ⟨τ, hs, Or.inr (Or.inl ⟨rfl, rfl, rfl, rfl⟩)⟩
    | false =>
      have hc2 := hc ha
      refine g_if_eq rfl (fun _ => ?_) (fun h => absurd (rfl) h)
      refine g_aload_n rfl rfl ?_
      refine g_aload_n rfl rfl ?_
      refine g_get rfl rfl wd_M rfl ?_
      refine s_ic (v := nI 3) rfl rfl ?_
      refine g_iload_n rfl rfl ?_
      refine g_imul rfl ?_
      rw [pk_mul]
      refine s_iald rfl a_79 rfl (by omega) ?_
      refine s_putM rfl rfl (by decide) ?_
      refine g_aload_n rfl rfl ?_
      refine g_aload_n rfl rfl ?_
      refine g_get rfl rfl wd_M rfl ?_
      refine s_ic (v := nI 3) rfl rfl ?_
      refine g_iload_n rfl rfl ?_
      refine g_imul rfl ?_
      rw [pk_mul]
      refine s_ic (v := nI 1) rfl rfl ?_
      refine g_iadd rfl ?_
      rw [nI_add]
      refine s_iald rfl a_79 rfl (by omega) ?_
      refine s_putM rfl rfl (by decide) ?_
      refine g_aload_n rfl rfl ?_
      refine g_aload_n rfl rfl ?_
      refine g_get rfl rfl wd_M rfl ?_
      refine s_ic (v := nI 3) rfl rfl ?_
      refine g_iload_n rfl rfl ?_
      refine g_imul rfl ?_
      rw [pk_mul]
      refine s_ic (v := nI 2) rfl rfl ?_
      refine g_iadd rfl ?_
      rw [nI_add]
      refine s_iald rfl a_79 rfl (by omega) ?_
      refine s_putM rfl rfl (by decide) ?_
      rw [u2_c (by omega), u2_c (by omega), u2_c (by omega)]
      have hti : u2 (u2 (u2 τ 66 21 (τ 79 (3 * r))) 66 22 (τ 79 (3 * r + 1))) 66 23 (τ 79 (3 * r + 2)) = tiF τ (τ 79 (3 * r)) (τ 79 (3 * r + 1)) (τ 79 (3 * r + 2)) := rfl
      rw [hti]
      refine g_aload_n rfl rfl ?_
      refine g_get rfl rfl wd_M rfl ?_
      refine g_iload_n rfl rfl ?_
      refine s_iald rfl a_80 rfl (by omega) ?_
      rw [tiF_c (by omega), h80]
      refine g_istore rfl (Nat.le_of_ble_eq_true rfl) ?_
      refine g_aload_n rfl rfl ?_
      refine g_dup rfl rfl ?_
      refine g_get rfl rfl wd_M rfl ?_
      rw [tiF_k (by omega), hs.2 _ (by omega) (by omega), hq]
      refine s_ic (v := nI 1) rfl rfl ?_
      refine g_isub rfl ?_
      rw [pk_sub (by omega), Nat.add_sub_cancel]
      refine s_putM rfl rfl (by decide) ?_
      refine g_aload_n rfl rfl ?_
      refine g_get rfl rfl wd_M rfl ?_
      refine g_iload_n rfl rfl ?_
      refine g_aload_n rfl rfl ?_
      refine g_get rfl rfl wd_M rfl ?_
      refine g_aload_n rfl rfl ?_
      refine g_get rfl rfl wd_M rfl ?_
      rw [u2_same]
      refine s_iald rfl a_78 rfl (by omega) ?_
      rw [u2_c (by omega), tiF_c (by omega)]
      refine s_iast rfl a_78 rfl (by omega) ?_
      refine g_aload_n rfl rfl ?_
      refine g_get rfl rfl wd_M rfl ?_
      refine g_iload_n rfl rfl ?_
      refine g_aload_n rfl rfl ?_
      refine g_get rfl rfl wd_M rfl ?_
      refine g_aload_n rfl rfl ?_
      refine g_get rfl rfl wd_M rfl ?_
      rw [u2_c (by omega), u2_same]
      refine s_iald rfl a_80 rfl (by omega) ?_
      rw [u2_c (by omega), u2_c (by omega), tiF_c (by omega)]
      refine s_iast rfl a_80 rfl (by omega) ?_
      refine s_ic (v := nI 0) rfl rfl ?_
      refine g_istore rfl (Nat.le_of_ble_eq_true rfl) ?_
      have hb : u2 (u2 (u2 (tiF τ (τ 79 (3 * r)) (τ 79 (3 * r + 1)) (τ 79 (3 * r + 2))) 66 14 (nI q)) 78 r (τ 78 q)) 80 r (τ 80 q) = u2 (u2 (u2 (tiF τ (τ 79 (3 * r)) (τ 79 (3 * r + 1)) (τ 79 (3 * r + 2))) 66 14 (nI q)) 78 r (τ 78 q)) 80 r (τ 80 q) := rfl
      generalize hρ : u2 (u2 (u2 (tiF τ (τ 79 (3 * r)) (τ 79 (3 * r + 1)) (τ 79 (3 * r + 2))) 66 14 (nI q)) 78 r (τ 78 q)) 80 r (τ 80 q) = ρ at hb ⊢
      have ρ14 : ρ 66 14 = nI q := by rw [← hρ, u2_c (by omega), u2_c (by omega), u2_same]
      have ρ79 : ρ 79 = τ 79 := by rw [← hρ, u2_row (by omega), u2_row (by omega), u2_row (by omega), tiF_c (by omega)]
      have ρ19 : ρ 66 19 = τ 66 19 := by rw [← hρ, u2_c (by omega), u2_c (by omega), u2_k (by omega), tiF_k (by omega)]
      have hmo : moF τ r q = u2 (cpF ρ r q (τ 79) 3) 66 19 (τ 66 19 + nI 1) := by
        unfold moF
        rw [hρ]
      refine am_for 3 (fun j lo τ' => lo = [some (.ref 66), some (.int x), some (.int (nI r)), some (.int (nI 0)), some (.int (nI (qg r))), some (.int (σ 80 r)), some (.int (nI j))] ∧ τ' = cpF ρ r q (τ 79) j) ?_ ?_ 0 _ _ (Nat.zero_le _) ⟨rfl, rfl⟩
      · rintro j _ _ hj ⟨rfl, rfl⟩ kk
        refine g_iload rfl rfl ?_
        refine s_ic (v := nI 3) rfl rfl ?_
        refine g_icmp_ge rfl (fun h => absurd h (nI_ge hj (by omega))) (fun _ => ?_)
        refine g_aload_n rfl rfl ?_
        refine g_get rfl rfl wd_M rfl ?_
        refine s_ic (v := nI 3) rfl rfl ?_
        refine g_iload_n rfl rfl ?_
        refine g_imul rfl ?_
        rw [pk_mul]
        refine g_iload rfl rfl ?_
        refine g_iadd rfl ?_
        rw [nI_add]
        refine g_aload_n rfl rfl ?_
        refine g_get rfl rfl wd_M rfl ?_
        refine s_ic (v := nI 3) rfl rfl ?_
        refine g_aload_n rfl rfl ?_
        refine g_get rfl rfl wd_M rfl ?_
        rw [cpF_c (by omega), ρ14]
        refine g_imul rfl ?_
        rw [pk_mul]
        refine g_iload rfl rfl ?_
        refine g_iadd rfl ?_
        rw [nI_add]
        refine s_iald rfl a_79 rfl (by omega) ?_
        rw [cpF_79 j (fun i hi => by omega), ρ79]
        refine s_iast rfl a_79 rfl (by omega) ?_
        refine s_inc rfl rfl (nI_1 _) ?_
        refine g_goto rfl ?_
        exact kk _ _ ⟨rfl, rfl⟩
      · rintro _ _ ⟨rfl, rfl⟩
        refine g_iload rfl rfl ?_
        refine s_ic (v := nI 3) rfl rfl ?_
        refine g_icmp_ge rfl (fun _ => ?_) (fun h => absurd (nI_le (Nat.le_refl _) (by omega)) h)
        refine g_aload_n rfl rfl ?_
        refine g_dup rfl rfl ?_
        refine g_get rfl rfl wd_M rfl ?_
        rw [cpF_c (by omega), ρ19]
        refine s_ic (v := nI 1) rfl rfl ?_
        refine g_iadd rfl ?_
        refine s_putM rfl rfl (by decide) ?_
        refine g_aload_n rfl rfl ?_
        refine g_iload rfl rfl ?_
        refine g_iload rfl rfl ?_
        rw [← hmo]
        refine c_V rfl rfl rfl rfl wd_M rfl (m_sendAll (e := ne) (by rw [moF_66 (by omega), hs.2 _ (by omega) (by omega)]; exact hg.1) hne12 _ _ cn (fun i hi hv => ?_)) rfl rfl rfl ?_
        · rw [moF_c (by omega), h73] at hv
          rw [moF_c (by omega), h75]
          exact ⟨(hE i hi).1, hc2 i hi hv⟩
        refine g_iret rfl rfl ?_
        rw [moF_c (by omega), h73]
        exact ⟨τ, hs, Or.inr (Or.inr ⟨rfl, rfl, rfl, rfl⟩)⟩
  · refine g_if_le rfl (fun h => absurd h (nI_nle (by omega) (by omega))) (fun _ => ?_)
    refine s_bp (v := -6) rfl rfl ?_
    refine g_iret rfl rfl ?_
    exact ⟨τ, hs, Or.inl ⟨by omega, rfl, rfl⟩⟩
