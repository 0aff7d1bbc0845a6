/-! The class's face. -/
theorem ix_in {x : Int32} {n : Nat} (hn : n < 1000) (h0 : 0 ≤ x) (h1 : x < nI n) : ∃ j, j < n ∧ x = nI j := by
  rcases pk_ix x (n := n) (by omega) with h | h | h
  · simp only [lt_i, le_i] at *
    omega
  · simp only [lt_i, le_i] at *
    omega
  · exact h
/-- is x the number of one of n things? -/
def inB (x : Int32) (n : Nat) : Bool := decide (0 ≤ x) && decide (x < nI n)
theorem inB_t {j n : Nat} (h : j < n) (hn : n < 1000) : inB (nI j) n = true := by
  unfold inB
  rw [decide_eq_true (nI_pos' (by omega)), decide_eq_true (nI_lt h (by omega))]
  rfl
theorem inB_ex {x : Int32} {n : Nat} (hn : n < 1000) (h : inB x n = true) : ∃ j, j < n ∧ x = nI j := by
  unfold inB at h
  rw [Bool.and_eq_true, decide_eq_true_eq, decide_eq_true_eq] at h
  exact ix_in hn h.1 h.2
theorem r_hasV {xs : List Int32} {σ : wd_S} {n : Nat} (hn : σ 2 2 = nI n) (x : Int32) : ev xs 21 [.ref 2, .int x] σ (bI (inB x n)) σ := by
  have h := r_hasVertex (xs := xs) (σ := σ) x
  have e : (if 0 ≤ x ∧ x < σ 2 2 then nI 1 else nI 0) = bI (inB x n) := by
    rw [hn]
    unfold inB bI
    by_cases h1 : 0 ≤ x <;> by_cases h2 : x < nI n <;> simp [h1, h2]
  rw [e] at h
  exact h
theorem r_hasE {xs : List Int32} {σ : wd_S} {n : Nat} (hn : σ 2 3 = nI n) (x : Int32) : ev xs 22 [.ref 2, .int x] σ (bI (inB x n)) σ := by
  have h := r_hasEdge (xs := xs) (σ := σ) x
  have e : (if 0 ≤ x ∧ x < σ 2 3 then nI 1 else nI 0) = bI (inB x n) := by
    rw [hn]
    unfold inB bI
    by_cases h1 : 0 ≤ x <;> by_cases h2 : x < nI n <;> simp [h1, h2]
  rw [e] at h
  exact h
/-- do kind and depth fit? -/
def fitB (k d : Int32) : Bool := (decide (k = nI 0) && decide (d = 0)) || (decide (k = nI 1) && decide (0 ≤ d) && decide (d ≤ nI 2)) || ((decide (k = nI 2) || decide (k = nI 3) || decide (k = nI 4)) && decide (nI 1 ≤ d) && decide (d ≤ nI 2))
theorem r_fits {xs : List Int32} {σ : wd_S} (k d : Int32) : ev xs 17 [.int k, .int d] σ (bI (fitB k d)) σ := by
  refine am_Ev.of (n := 2) rfl rfl rfl rfl ?_
  refine g_iload_n rfl rfl ?_
  have ne : ∀ a b : Nat, a < 10 → b < 10 → a ≠ b → ¬ nI a = nI b := fun a b ha hb hab z => hab ((nI_eq (by omega) (by omega)).mp z)
  rcases pk_ix k (n := 5) (by omega) with h | h | ⟨j, hj, rfl⟩
  · refine g_tswo (t := 77) rfl (Or.inl (by rw [lt_i, i0] at h; exact h)) rfl ?_
    refine s_ic (v := nI 0) rfl rfl ?_
    refine g_zret rfl rfl (by decide) ?_
    refine ⟨?_, rfl⟩
    have hz : fitB k d = false := by
      unfold fitB
      have hq : ∀ a : Nat, a < 10 → ¬ k = nI a := fun a ha z => by
        rw [z] at h
        exact nI_pos (by omega) h
      simp [hq]
    rw [hz]
    rfl
  · refine g_tswo (t := 77) rfl (Or.inr (by rw [le_i] at h; have h5 : (nI 5).toInt = 5 := (by decide); omega)) rfl ?_
    refine s_ic (v := nI 0) rfl rfl ?_
    refine g_zret rfl rfl (by decide) ?_
    refine ⟨?_, rfl⟩
    have hz : fitB k d = false := by
      unfold fitB
      have hq : ∀ a : Nat, a < 5 → ¬ k = nI a := fun a ha z => by
        rw [z] at h
        exact nI_ge ha (by omega) h
      simp [hq]
    rw [hz]
    rfl
  · rcases (show j = 0 ∨ j = 1 ∨ j = 2 ∨ j = 3 ∨ j = 4 by omega) with rfl | rfl | rfl | rfl | rfl
    · refine g_tsw (t := 36) (off := 35) rfl (by decide) (by decide) (by decide) rfl ?_
      refine g_iload_n rfl rfl ?_
      refine g_if_ne rfl (fun h37 => ?_) (fun h37 => ?_)
      · refine s_ic (v := nI 0) rfl rfl ?_
        refine g_zret rfl rfl (by decide) ?_
        refine ⟨?_, rfl⟩
        unfold fitB
        simp [ne, h37, bI]
      · refine s_ic (v := nI 1) rfl rfl ?_
        refine g_goto rfl ?_
        refine g_zret rfl rfl (by decide) ?_
        refine ⟨?_, rfl⟩
        unfold fitB
        simp [ne, h37, bI]
    · refine g_tsw (t := 46) (off := 45) rfl (by decide) (by decide) (by decide) rfl ?_
      refine g_iload_n rfl rfl ?_
      refine g_if_lt rfl (fun h47 => ?_) (fun h47 => ?_)
      · refine s_ic (v := nI 0) rfl rfl ?_
        refine g_zret rfl rfl (by decide) ?_
        refine ⟨?_, rfl⟩
        unfold fitB
        simp only [lt_i, le_i, i0] at *
        first | (have hz : (0 : Int) ≤ d.toInt := (by omega); have hy : d.toInt ≤ (nI 2).toInt := (by omega); simp [ne, hz, hy, bI]; done) | (have hy : ¬ d.toInt ≤ (nI 2).toInt := (by omega); simp [ne, hy, bI]; done) | (have hz : ¬ (0 : Int) ≤ d.toInt := (by omega); simp [ne, hz, bI])
      · refine g_iload_n rfl rfl ?_
        refine s_ic (v := nI 2) rfl rfl ?_
        refine g_icmp_gt rfl (fun h52 => ?_) (fun h52 => ?_)
        · refine s_ic (v := nI 0) rfl rfl ?_
          refine g_zret rfl rfl (by decide) ?_
          refine ⟨?_, rfl⟩
          unfold fitB
          simp only [lt_i, le_i, i0] at *
          first | (have hz : (0 : Int) ≤ d.toInt := (by omega); have hy : d.toInt ≤ (nI 2).toInt := (by omega); simp [ne, hz, hy, bI]; done) | (have hy : ¬ d.toInt ≤ (nI 2).toInt := (by omega); simp [ne, hy, bI]; done) | (have hz : ¬ (0 : Int) ≤ d.toInt := (by omega); simp [ne, hz, bI])
        · refine s_ic (v := nI 1) rfl rfl ?_
          refine g_goto rfl ?_
          refine g_zret rfl rfl (by decide) ?_
          refine ⟨?_, rfl⟩
          unfold fitB
          simp only [lt_i, le_i, i0] at *
          first | (have hz : (0 : Int) ≤ d.toInt := (by omega); have hy : d.toInt ≤ (nI 2).toInt := (by omega); simp [ne, hz, hy, bI]; done) | (have hy : ¬ d.toInt ≤ (nI 2).toInt := (by omega); simp [ne, hy, bI]; done) | (have hz : ¬ (0 : Int) ≤ d.toInt := (by omega); simp [ne, hz, bI])
    · refine g_tsw (t := 61) (off := 60) rfl (by decide) (by decide) (by decide) rfl ?_
      refine g_iload_n rfl rfl ?_
      refine s_ic (v := nI 1) rfl rfl ?_
      refine g_icmp_lt rfl (fun h63 => ?_) (fun h63 => ?_)
      · refine s_ic (v := nI 0) rfl rfl ?_
        refine g_zret rfl rfl (by decide) ?_
        refine ⟨?_, rfl⟩
        unfold fitB
        simp only [lt_i, le_i, i0] at *
        first | (have hz : (nI 1).toInt ≤ d.toInt := (by omega); have hy : d.toInt ≤ (nI 2).toInt := (by omega); simp [ne, hz, hy, bI]; done) | (have hy : ¬ d.toInt ≤ (nI 2).toInt := (by omega); simp [ne, hy, bI]; done) | (have hz : ¬ (nI 1).toInt ≤ d.toInt := (by omega); simp [ne, hz, bI])
      · refine g_iload_n rfl rfl ?_
        refine s_ic (v := nI 2) rfl rfl ?_
        refine g_icmp_gt rfl (fun h68 => ?_) (fun h68 => ?_)
        · refine s_ic (v := nI 0) rfl rfl ?_
          refine g_zret rfl rfl (by decide) ?_
          refine ⟨?_, rfl⟩
          unfold fitB
          simp only [lt_i, le_i, i0] at *
          first | (have hz : (nI 1).toInt ≤ d.toInt := (by omega); have hy : d.toInt ≤ (nI 2).toInt := (by omega); simp [ne, hz, hy, bI]; done) | (have hy : ¬ d.toInt ≤ (nI 2).toInt := (by omega); simp [ne, hy, bI]; done) | (have hz : ¬ (nI 1).toInt ≤ d.toInt := (by omega); simp [ne, hz, bI])
        · refine s_ic (v := nI 1) rfl rfl ?_
          refine g_goto rfl ?_
          refine g_zret rfl rfl (by decide) ?_
          refine ⟨?_, rfl⟩
          unfold fitB
          simp only [lt_i, le_i, i0] at *
          first | (have hz : (nI 1).toInt ≤ d.toInt := (by omega); have hy : d.toInt ≤ (nI 2).toInt := (by omega); simp [ne, hz, hy, bI]; done) | (have hy : ¬ d.toInt ≤ (nI 2).toInt := (by omega); simp [ne, hy, bI]; done) | (have hz : ¬ (nI 1).toInt ≤ d.toInt := (by omega); simp [ne, hz, bI])
    · refine g_tsw (t := 61) (off := 60) rfl (by decide) (by decide) (by decide) rfl ?_
      refine g_iload_n rfl rfl ?_
      refine s_ic (v := nI 1) rfl rfl ?_
      refine g_icmp_lt rfl (fun h63 => ?_) (fun h63 => ?_)
      · refine s_ic (v := nI 0) rfl rfl ?_
        refine g_zret rfl rfl (by decide) ?_
        refine ⟨?_, rfl⟩
        unfold fitB
        simp only [lt_i, le_i, i0] at *
        first | (have hz : (nI 1).toInt ≤ d.toInt := (by omega); have hy : d.toInt ≤ (nI 2).toInt := (by omega); simp [ne, hz, hy, bI]; done) | (have hy : ¬ d.toInt ≤ (nI 2).toInt := (by omega); simp [ne, hy, bI]; done) | (have hz : ¬ (nI 1).toInt ≤ d.toInt := (by omega); simp [ne, hz, bI])
      · refine g_iload_n rfl rfl ?_
        refine s_ic (v := nI 2) rfl rfl ?_
        refine g_icmp_gt rfl (fun h68 => ?_) (fun h68 => ?_)
        · refine s_ic (v := nI 0) rfl rfl ?_
          refine g_zret rfl rfl (by decide) ?_
          refine ⟨?_, rfl⟩
          unfold fitB
          simp only [lt_i, le_i, i0] at *
          first | (have hz : (nI 1).toInt ≤ d.toInt := (by omega); have hy : d.toInt ≤ (nI 2).toInt := (by omega); simp [ne, hz, hy, bI]; done) | (have hy : ¬ d.toInt ≤ (nI 2).toInt := (by omega); simp [ne, hy, bI]; done) | (have hz : ¬ (nI 1).toInt ≤ d.toInt := (by omega); simp [ne, hz, bI])
        · refine s_ic (v := nI 1) rfl rfl ?_
          refine g_goto rfl ?_
          refine g_zret rfl rfl (by decide) ?_
          refine ⟨?_, rfl⟩
          unfold fitB
          simp only [lt_i, le_i, i0] at *
          first | (have hz : (nI 1).toInt ≤ d.toInt := (by omega); have hy : d.toInt ≤ (nI 2).toInt := (by omega); simp [ne, hz, hy, bI]; done) | (have hy : ¬ d.toInt ≤ (nI 2).toInt := (by omega); simp [ne, hy, bI]; done) | (have hz : ¬ (nI 1).toInt ≤ d.toInt := (by omega); simp [ne, hz, bI])
    · refine g_tsw (t := 61) (off := 60) rfl (by decide) (by decide) (by decide) rfl ?_
      refine g_iload_n rfl rfl ?_
      refine s_ic (v := nI 1) rfl rfl ?_
      refine g_icmp_lt rfl (fun h63 => ?_) (fun h63 => ?_)
      · refine s_ic (v := nI 0) rfl rfl ?_
        refine g_zret rfl rfl (by decide) ?_
        refine ⟨?_, rfl⟩
        unfold fitB
        simp only [lt_i, le_i, i0] at *
        first | (have hz : (nI 1).toInt ≤ d.toInt := (by omega); have hy : d.toInt ≤ (nI 2).toInt := (by omega); simp [ne, hz, hy, bI]; done) | (have hy : ¬ d.toInt ≤ (nI 2).toInt := (by omega); simp [ne, hy, bI]; done) | (have hz : ¬ (nI 1).toInt ≤ d.toInt := (by omega); simp [ne, hz, bI])
      · refine g_iload_n rfl rfl ?_
        refine s_ic (v := nI 2) rfl rfl ?_
        refine g_icmp_gt rfl (fun h68 => ?_) (fun h68 => ?_)
        · refine s_ic (v := nI 0) rfl rfl ?_
          refine g_zret rfl rfl (by decide) ?_
          refine ⟨?_, rfl⟩
          unfold fitB
          simp only [lt_i, le_i, i0] at *
          first | (have hz : (nI 1).toInt ≤ d.toInt := (by omega); have hy : d.toInt ≤ (nI 2).toInt := (by omega); simp [ne, hz, hy, bI]; done) | (have hy : ¬ d.toInt ≤ (nI 2).toInt := (by omega); simp [ne, hy, bI]; done) | (have hz : ¬ (nI 1).toInt ≤ d.toInt := (by omega); simp [ne, hz, bI])
        · refine s_ic (v := nI 1) rfl rfl ?_
          refine g_goto rfl ?_
          refine g_zret rfl rfl (by decide) ?_
          refine ⟨?_, rfl⟩
          unfold fitB
          simp only [lt_i, le_i, i0] at *
          first | (have hz : (nI 1).toInt ≤ d.toInt := (by omega); have hy : d.toInt ≤ (nI 2).toInt := (by omega); simp [ne, hz, hy, bI]; done) | (have hy : ¬ d.toInt ≤ (nI 2).toInt := (by omega); simp [ne, hy, bI]; done) | (have hz : ¬ (nI 1).toInt ≤ d.toInt := (by omega); simp [ne, hz, bI])
def vxB (b : Bool) (k d w : Int32) : Bool := b && (fitB k d && (decide (0 ≤ w) && decide (w ≤ nI 3)))
theorem r_vertex {xs : List Int32} {σ : wd_S} {n : Nat} {b : Bool} (hn : σ 2 2 = nI n) (hn8 : n ≤ 8) (hb : σ 1 1 = bI b) (k d w : Int32) : ev xs 1 [.ref 1, .int k, .int d, .int w] σ (if vxB b k d w = true then (if n < 8 then nI n else -2) else -1) (if vxB b k d w = true ∧ n < 8 then avF σ n k d w else σ) := by
  refine am_Ev.of (n := 4) rfl rfl rfl rfl ?_
  have bad : vxB b k d w = false → ∀ lo, am_G 1 24 lo [] (wd xs σ) (po xs (if vxB b k d w = true then (if n < 8 then nI n else -2) else -1) (if vxB b k d w = true ∧ n < 8 then avF σ n k d w else σ)) := by
    intro hz lo
    refine s_ic (v := -1) rfl rfl ?_
    refine g_iret rfl rfl ?_
    rw [hz]
    exact ⟨rfl, rfl⟩
  refine g_aload_n rfl rfl ?_
  refine g_get rfl rfl wd_F rfl ?_
  rw [hb]
  cases b with
  | false =>
    refine g_if_eq rfl (fun _ => ?_) (fun h => absurd (rfl) h)
    exact bad rfl _
  | true =>
    refine g_if_eq rfl (fun h => absurd h (by decide)) (fun _ => ?_)
    refine g_iload_n rfl rfl ?_
    refine g_iload_n rfl rfl ?_
    refine c_S rfl rfl rfl rfl (r_fits k d) rfl rfl rfl ?_
    cases hf : fitB k d with
    | false =>
      refine g_if_eq rfl (fun _ => ?_) (fun h => absurd (rfl) h)
      exact bad (by simp [vxB, hf]) _
    | true =>
      refine g_if_eq rfl (fun h => absurd h (by decide)) (fun _ => ?_)
      refine g_iload_n rfl rfl ?_
      refine g_if_lt rfl (fun h => ?_) (fun h => ?_)
      · exact bad (by unfold vxB; rw [decide_eq_false (by simp only [lt_i, le_i, i0] at *; omega)]; simp) _
      · have h0 : 0 ≤ w := by
          simp only [lt_i, le_i, i0] at *
          omega
        refine g_iload_n rfl rfl ?_
        refine s_ic (v := nI 3) rfl rfl ?_
        refine g_icmp_le rfl (fun h3 => ?_) (fun h3 => ?_)
        · have hz : vxB true k d w = true := by
            unfold vxB
            rw [hf, decide_eq_true h0, decide_eq_true h3]
            rfl
          rw [hz]
          refine g_aload_n rfl rfl ?_
          refine g_get rfl rfl wd_F rfl ?_
          refine g_get rfl rfl wd_G rfl ?_
          refine s_bp (v := nI 8) rfl rfl ?_
          rw [hn]
          by_cases hn2 : n < 8
          · refine g_icmp_lt rfl (fun _ => ?_) (fun h => absurd (nI_lt hn2 (by omega)) h)
            refine g_aload_n rfl rfl ?_
            refine g_get rfl rfl wd_F rfl ?_
            refine g_iload_n rfl rfl ?_
            refine g_iload_n rfl rfl ?_
            refine g_iload_n rfl rfl ?_
            refine c_V rfl rfl rfl rfl wd_G rfl (r_addVertex hn hn2 k d w) rfl rfl rfl ?_
            refine g_iret rfl rfl ?_
            exact ⟨by rw [if_pos rfl, if_pos hn2], by rw [if_pos ⟨rfl, hn2⟩]⟩
          · refine g_icmp_lt rfl (fun h => absurd h (nI_nlt (by omega) (by omega))) (fun _ => ?_)
            refine s_bp (v := -2) rfl rfl ?_
            refine g_iret rfl rfl ?_
            exact ⟨by rw [if_pos rfl, if_neg hn2], by rw [if_neg fun z => hn2 z.2]⟩
        · exact bad (by unfold vxB; rw [decide_eq_false h3]; simp) _
def edB (σ : wd_S) (b : Bool) (n e : Nat) (x y : Int32) : Bool := b && (inB x n && (inB y n && mlB σ e x.toNatClampNeg y.toNatClampNeg))
theorem r_edge {xs : List Int32} {σ : wd_S} {n e : Nat} {b : Bool} (hn : σ 2 2 = nI n) (hn8 : n ≤ 8) (he : σ 2 3 = nI e) (he12 : e ≤ 12) (hb : σ 1 1 = bI b) (x y : Int32) : ev xs 2 [.ref 1, .int x, .int y] σ (if edB σ b n e x y = true then (if e < 12 then nI e else -2) else -1) (if edB σ b n e x y = true ∧ e < 12 then aeF σ e x.toNatClampNeg y.toNatClampNeg else σ) := by
  refine am_Ev.of (n := 3) rfl rfl rfl rfl ?_
  have bad : edB σ b n e x y = false → ∀ lo, am_G 2 41 lo [] (wd xs σ) (po xs (if edB σ b n e x y = true then (if e < 12 then nI e else -2) else -1) (if edB σ b n e x y = true ∧ e < 12 then aeF σ e x.toNatClampNeg y.toNatClampNeg else σ)) := by
    intro hz lo
    refine s_ic (v := -1) rfl rfl ?_
    refine g_iret rfl rfl ?_
    rw [hz]
    exact ⟨rfl, rfl⟩
  refine g_aload_n rfl rfl ?_
  refine g_get rfl rfl wd_F rfl ?_
  rw [hb]
  cases b with
  | false =>
    refine g_if_eq rfl (fun _ => ?_) (fun h => absurd (rfl) h)
    exact bad rfl _
  | true =>
    refine g_if_eq rfl (fun h => absurd h (by decide)) (fun _ => ?_)
    refine g_aload_n rfl rfl ?_
    refine g_get rfl rfl wd_F rfl ?_
    refine g_iload_n rfl rfl ?_
    refine c_V rfl rfl rfl rfl wd_G rfl (r_hasV hn x) rfl rfl rfl ?_
    cases hx : inB x n with
    | false =>
      refine g_if_eq rfl (fun _ => ?_) (fun h => absurd (rfl) h)
      exact bad (by simp [edB, hx]) _
    | true =>
      refine g_if_eq rfl (fun h => absurd h (by decide)) (fun _ => ?_)
      refine g_aload_n rfl rfl ?_
      refine g_get rfl rfl wd_F rfl ?_
      refine g_iload_n rfl rfl ?_
      refine c_V rfl rfl rfl rfl wd_G rfl (r_hasV hn y) rfl rfl rfl ?_
      cases hy : inB y n with
      | false =>
        refine g_if_eq rfl (fun _ => ?_) (fun h => absurd (rfl) h)
        exact bad (by simp [edB, hy]) _
      | true =>
        refine g_if_eq rfl (fun h => absurd h (by decide)) (fun _ => ?_)
        obtain ⟨i, hi, rfl⟩ := inB_ex (by omega) hx
        obtain ⟨j, hj, rfl⟩ := inB_ex (by omega) hy
        rw [nI_clamp (by omega), nI_clamp (by omega)]
        rw [nI_clamp (by omega), nI_clamp (by omega)] at bad
        refine g_aload_n rfl rfl ?_
        refine g_get rfl rfl wd_F rfl ?_
        refine g_iload_n rfl rfl ?_
        refine g_iload_n rfl rfl ?_
        refine c_V rfl rfl rfl rfl wd_G rfl (r_mayLead he he12 (by omega) (by omega)) rfl rfl rfl ?_
        cases hm : mlB σ e i j with
        | false =>
          refine g_if_ne rfl (fun h => absurd (rfl) h) (fun _ => ?_)
          exact bad (by unfold edB; rw [nI_clamp (by omega), nI_clamp (by omega), hm]; simp) _
        | true =>
          refine g_if_ne rfl (fun _ => ?_) (fun h => absurd h (by decide))
          have hz : edB σ true n e (nI i) (nI j) = true := by
            unfold edB
            rw [nI_clamp (by omega), nI_clamp (by omega), hm, hx, hy]
            rfl
          rw [hz]
          refine g_aload_n rfl rfl ?_
          refine g_get rfl rfl wd_F rfl ?_
          refine g_get rfl rfl wd_G rfl ?_
          refine s_bp (v := nI 12) rfl rfl ?_
          rw [he]
          by_cases he2 : e < 12
          · refine g_icmp_lt rfl (fun _ => ?_) (fun h => absurd (nI_lt he2 (by omega)) h)
            refine g_aload_n rfl rfl ?_
            refine g_get rfl rfl wd_F rfl ?_
            refine g_iload_n rfl rfl ?_
            refine g_iload_n rfl rfl ?_
            refine c_V rfl rfl rfl rfl wd_G rfl (r_addEdge he he2 (by omega)) rfl rfl rfl ?_
            refine g_iret rfl rfl ?_
            exact ⟨by rw [if_pos rfl, if_pos he2], by rw [if_pos ⟨rfl, he2⟩]⟩
          · refine g_icmp_lt rfl (fun h => absurd h (nI_nlt (by omega) (by omega))) (fun _ => ?_)
            refine s_bp (v := -2) rfl rfl ?_
            refine g_iret rfl rfl ?_
            exact ⟨by rw [if_pos rfl, if_neg he2], by rw [if_neg fun z => he2 z.2]⟩
theorem r_start {xs : List Int32} {σ : wd_S} {n e : Nat} {b : Bool} (hn : σ 2 2 = nI n) (hn8 : n ≤ 8) (he : σ 2 3 = nI e) (he12 : e ≤ 12) (hb : σ 1 1 = bI b) : ev xs 3 [.ref 1] σ (if b = true then (if iwR σ e (iwL σ n) 8 = 0 then nI 0 else -5) else -1) (if b = true ∧ iwR σ e (iwL σ n) 8 = 0 then u2 σ 1 1 (nI 0) else σ) := by
  refine am_Ev.of (n := 1) rfl rfl rfl rfl ?_
  refine g_aload_n rfl rfl ?_
  refine g_get rfl rfl wd_F rfl ?_
  rw [hb]
  cases b with
  | false =>
    refine g_if_ne rfl (fun h => absurd (rfl) h) (fun _ => ?_)
    refine s_ic (v := -1) rfl rfl ?_
    refine g_iret rfl rfl ?_
    exact ⟨rfl, rfl⟩
  | true =>
    refine g_if_ne rfl (fun _ => ?_) (fun h => absurd h (by decide))
    refine g_aload_n rfl rfl ?_
    refine g_get rfl rfl wd_F rfl ?_
    refine c_V rfl rfl rfl rfl wd_G rfl (r_isWhole hn hn8 he he12) rfl rfl rfl ?_
    by_cases hw : iwR σ e (iwL σ n) 8 = 0
    · rw [decide_eq_true hw]
      refine g_if_ne rfl (fun _ => ?_) (fun h => absurd h (by decide))
      refine g_aload_n rfl rfl ?_
      refine s_ic (v := nI 0) rfl rfl ?_
      refine s_putzF rfl rfl (by decide) ?_
      refine s_ic (v := nI 0) rfl rfl ?_
      refine g_iret rfl rfl ?_
      exact ⟨by rw [if_pos rfl, if_pos hw], by rw [if_pos ⟨rfl, hw⟩]⟩
    · rw [decide_eq_false hw]
      refine g_if_ne rfl (fun h => absurd (rfl) h) (fun _ => ?_)
      refine s_bp (v := -5) rfl rfl ?_
      refine g_iret rfl rfl ?_
      exact ⟨by rw [if_pos rfl, if_neg hw], by rw [if_neg fun z => hw z.2]⟩
