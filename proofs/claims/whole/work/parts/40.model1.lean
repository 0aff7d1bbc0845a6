/-! The reference: its vertices, edges, lines. -/
theorem m_isVertex {xs : List Int32} {σ : wd_S} {n : Nat} (hn : σ 66 1 = nI n) (x : Int32) : ev xs 55 [.ref 66, .int x] σ (bI (inB x n)) σ := by
  refine am_Ev.of (n := 2) rfl rfl rfl rfl ?_
  refine g_iload_n rfl rfl ?_
  refine g_if_lt rfl (fun h1 => ?_) (fun h1 => ?_)
  · refine s_ic (v := nI 0) rfl rfl ?_
    refine g_zret rfl rfl (by decide) ?_
    refine ⟨?_, rfl⟩
    unfold inB
    try rw [hn] at h9
    first | (rw [decide_eq_false (by simp only [lt_i, le_i, i0] at *; omega)]; rfl) | (rw [decide_eq_true (by simp only [lt_i, le_i, i0] at *; omega), decide_eq_true (by simp only [lt_i, le_i, i0] at *; omega)]; rfl) | (rw [decide_eq_true (by simp only [lt_i, le_i, i0] at *; omega), decide_eq_false (by simp only [lt_i, le_i, i0] at *; omega)]; rfl)
  · refine g_iload_n rfl rfl ?_
    refine g_aload_n rfl rfl ?_
    refine g_get rfl rfl wd_M rfl ?_
    refine g_icmp_ge rfl (fun h9 => ?_) (fun h9 => ?_)
    · refine s_ic (v := nI 0) rfl rfl ?_
      refine g_zret rfl rfl (by decide) ?_
      refine ⟨?_, rfl⟩
      unfold inB
      try rw [hn] at h9
      first | (rw [decide_eq_false (by simp only [lt_i, le_i, i0] at *; omega)]; rfl) | (rw [decide_eq_true (by simp only [lt_i, le_i, i0] at *; omega), decide_eq_true (by simp only [lt_i, le_i, i0] at *; omega)]; rfl) | (rw [decide_eq_true (by simp only [lt_i, le_i, i0] at *; omega), decide_eq_false (by simp only [lt_i, le_i, i0] at *; omega)]; rfl)
    · refine s_ic (v := nI 1) rfl rfl ?_
      refine g_goto rfl ?_
      refine g_zret rfl rfl (by decide) ?_
      refine ⟨?_, rfl⟩
      unfold inB
      try rw [hn] at h9
      first | (rw [decide_eq_false (by simp only [lt_i, le_i, i0] at *; omega)]; rfl) | (rw [decide_eq_true (by simp only [lt_i, le_i, i0] at *; omega), decide_eq_true (by simp only [lt_i, le_i, i0] at *; omega)]; rfl) | (rw [decide_eq_true (by simp only [lt_i, le_i, i0] at *; omega), decide_eq_false (by simp only [lt_i, le_i, i0] at *; omega)]; rfl)
theorem m_isEdge {xs : List Int32} {σ : wd_S} {n : Nat} (hn : σ 66 8 = nI n) (x : Int32) : ev xs 56 [.ref 66, .int x] σ (bI (inB x n)) σ := by
  refine am_Ev.of (n := 2) rfl rfl rfl rfl ?_
  refine g_iload_n rfl rfl ?_
  refine g_if_lt rfl (fun h1 => ?_) (fun h1 => ?_)
  · refine s_ic (v := nI 0) rfl rfl ?_
    refine g_zret rfl rfl (by decide) ?_
    refine ⟨?_, rfl⟩
    unfold inB
    try rw [hn] at h9
    first | (rw [decide_eq_false (by simp only [lt_i, le_i, i0] at *; omega)]; rfl) | (rw [decide_eq_true (by simp only [lt_i, le_i, i0] at *; omega), decide_eq_true (by simp only [lt_i, le_i, i0] at *; omega)]; rfl) | (rw [decide_eq_true (by simp only [lt_i, le_i, i0] at *; omega), decide_eq_false (by simp only [lt_i, le_i, i0] at *; omega)]; rfl)
  · refine g_iload_n rfl rfl ?_
    refine g_aload_n rfl rfl ?_
    refine g_get rfl rfl wd_M rfl ?_
    refine g_icmp_ge rfl (fun h9 => ?_) (fun h9 => ?_)
    · refine s_ic (v := nI 0) rfl rfl ?_
      refine g_zret rfl rfl (by decide) ?_
      refine ⟨?_, rfl⟩
      unfold inB
      try rw [hn] at h9
      first | (rw [decide_eq_false (by simp only [lt_i, le_i, i0] at *; omega)]; rfl) | (rw [decide_eq_true (by simp only [lt_i, le_i, i0] at *; omega), decide_eq_true (by simp only [lt_i, le_i, i0] at *; omega)]; rfl) | (rw [decide_eq_true (by simp only [lt_i, le_i, i0] at *; omega), decide_eq_false (by simp only [lt_i, le_i, i0] at *; omega)]; rfl)
    · refine s_ic (v := nI 1) rfl rfl ?_
      refine g_goto rfl ?_
      refine g_zret rfl rfl (by decide) ?_
      refine ⟨?_, rfl⟩
      unfold inB
      try rw [hn] at h9
      first | (rw [decide_eq_false (by simp only [lt_i, le_i, i0] at *; omega)]; rfl) | (rw [decide_eq_true (by simp only [lt_i, le_i, i0] at *; omega), decide_eq_true (by simp only [lt_i, le_i, i0] at *; omega)]; rfl) | (rw [decide_eq_true (by simp only [lt_i, le_i, i0] at *; omega), decide_eq_false (by simp only [lt_i, le_i, i0] at *; omega)]; rfl)
theorem m_inDepth {xs : List Int32} {σ : wd_S} {v : Nat} (hv : v < 8) : ev xs 57 [.ref 66, .int (nI v)] σ (if σ 67 v = nI 2 then σ 68 v - nI 1 else σ 68 v) σ := by
  refine am_Ev.of (n := 2) rfl rfl rfl rfl ?_
  refine g_aload_n rfl rfl ?_
  refine g_get rfl rfl wd_M rfl ?_
  refine g_iload_n rfl rfl ?_
  refine s_iald rfl a_67 rfl (by omega) ?_
  refine s_ic (v := nI 2) rfl rfl ?_
  refine g_icmp_ne rfl (fun h7 => ?_) (fun h7 => ?_)
  · refine g_aload_n rfl rfl ?_
    refine g_get rfl rfl wd_M rfl ?_
    refine g_iload_n rfl rfl ?_
    refine s_iald rfl a_68 rfl (by omega) ?_
    refine g_iret rfl rfl ?_
    refine ⟨?_, rfl⟩
    first | rw [if_pos h7] | rw [if_neg h7]
  · refine g_aload_n rfl rfl ?_
    refine g_get rfl rfl wd_M rfl ?_
    refine g_iload_n rfl rfl ?_
    refine s_iald rfl a_68 rfl (by omega) ?_
    refine s_ic (v := nI 1) rfl rfl ?_
    refine g_isub rfl ?_
    refine g_goto rfl ?_
    refine g_iret rfl rfl ?_
    refine ⟨?_, rfl⟩
    first | rw [if_pos h7] | rw [if_neg h7]
theorem m_outDepth {xs : List Int32} {σ : wd_S} {v : Nat} (hv : v < 8) : ev xs 58 [.ref 66, .int (nI v)] σ (if σ 67 v = nI 3 then σ 68 v - nI 1 else σ 68 v) σ := by
  refine am_Ev.of (n := 2) rfl rfl rfl rfl ?_
  refine g_aload_n rfl rfl ?_
  refine g_get rfl rfl wd_M rfl ?_
  refine g_iload_n rfl rfl ?_
  refine s_iald rfl a_67 rfl (by omega) ?_
  refine s_ic (v := nI 3) rfl rfl ?_
  refine g_icmp_ne rfl (fun h7 => ?_) (fun h7 => ?_)
  · refine g_aload_n rfl rfl ?_
    refine g_get rfl rfl wd_M rfl ?_
    refine g_iload_n rfl rfl ?_
    refine s_iald rfl a_68 rfl (by omega) ?_
    refine g_iret rfl rfl ?_
    refine ⟨?_, rfl⟩
    first | rw [if_pos h7] | rw [if_neg h7]
  · refine g_aload_n rfl rfl ?_
    refine g_get rfl rfl wd_M rfl ?_
    refine g_iload_n rfl rfl ?_
    refine s_iald rfl a_68 rfl (by omega) ?_
    refine s_ic (v := nI 1) rfl rfl ?_
    refine g_isub rfl ?_
    refine g_goto rfl ?_
    refine g_iret rfl rfl ?_
    refine ⟨?_, rfl⟩
    first | rw [if_pos h7] | rw [if_neg h7]
/-- do kind and depth fit, as the reference asks it -/
def mfB (k d : Int32) : Bool := if k = 0 then decide (d = 0) else if k = nI 1 then decide (0 ≤ d) && decide (d ≤ nI 2) else decide (d = nI 1) || decide (d = nI 2)
theorem fitB_m (k d : Int32) : fitB k d = (decide (0 ≤ k) && decide (k ≤ nI 4) && mfB k d) := by
  have n1 : (nI 1).toInt = 1 := by decide
  have n2 : (nI 2).toInt = 2 := by decide
  have n3 : (nI 3).toInt = 3 := by decide
  have n4 : (nI 4).toInt = 4 := by decide
  have n0 : (nI 0).toInt = 0 := by decide
  have eqi : ∀ a b : Int32, a = b ↔ a.toInt = b.toInt := fun a b => ⟨fun h => by rw [h], fun h => Int32.toInt_inj.mp h⟩
  rw [Bool.eq_iff_iff]
  unfold fitB mfB
  by_cases h0 : k = 0
  · rw [if_pos h0]
    simp only [Bool.or_eq_true, Bool.and_eq_true, decide_eq_true_eq, lt_i, le_i, eqi, n1, n2, n3, n4, n0, i0] at *
    omega
  · rw [if_neg h0]
    by_cases h1 : k = nI 1
    · rw [if_pos h1]
      simp only [Bool.or_eq_true, Bool.and_eq_true, decide_eq_true_eq, lt_i, le_i, eqi, n1, n2, n3, n4, n0, i0] at *
      omega
    · rw [if_neg h1]
      simp only [Bool.or_eq_true, Bool.and_eq_true, decide_eq_true_eq, lt_i, le_i, eqi, n1, n2, n3, n4, n0, i0] at *
      omega
def mvF (σ : wd_S) (n : Nat) (k d w : Int32) : wd_S := u2 (u2 (u2 (u2 (u2 σ 67 n k) 68 n d) 69 n w) 71 n (if k = 0 then nI 1 else nI 0)) 66 1 (nI (n + 1))
theorem m_vertex {xs : List Int32} {σ : wd_S} {n : Nat} {b : Bool} (hn : σ 66 1 = nI n) (hn8 : n ≤ 8) (hb : σ 66 0 = bI (!b)) (k d w : Int32) : ev xs 59 [.ref 66, .int k, .int d, .int w] σ (if vxB b k d w = true then (if n < 8 then nI n else -2) else -1) (if vxB b k d w = true ∧ n < 8 then mvF σ n k d w else σ) := by
  refine am_Ev.of (n := 5) rfl rfl rfl rfl ?_
  have bad : vxB b k d w = false → ∀ lo, am_G 59 85 lo [] (wd xs σ) (po xs (if vxB b k d w = true then (if n < 8 then nI n else -2) else -1) (if vxB b k d w = true ∧ n < 8 then mvF σ n k d w else σ)) := by
    intro hz lo
    rw [hz]
    refine s_ic (v := -1) rfl rfl ?_
    refine g_iret rfl rfl ?_
    exact ⟨rfl, rfl⟩
  have main : am_G 59 55 [some (.ref 66), some (.int k), some (.int d), some (.int w), some (.int (bI (mfB k d)))] [] (wd xs σ) (po xs (if vxB b k d w = true then (if n < 8 then nI n else -2) else -1) (if vxB b k d w = true ∧ n < 8 then mvF σ n k d w else σ)) := by
    refine g_aload_n rfl rfl ?_
    refine g_get rfl rfl wd_M rfl ?_
    rw [hb]
    cases b with
    | false =>
      refine g_if_ne rfl (fun _ => ?_) (fun h => absurd h (by decide))
      exact bad rfl _
    | true =>
      refine g_if_ne rfl (fun h => absurd (rfl) h) (fun _ => ?_)
      refine g_iload_n rfl rfl ?_
      refine g_if_lt rfl (fun h => ?_) (fun h => ?_)
      · exact bad (by unfold vxB; rw [fitB_m, decide_eq_false (show ¬ 0 ≤ k by simp only [lt_i, le_i, i0] at *; omega)]; simp) _
      · have k0 : 0 ≤ k := by
          simp only [lt_i, le_i, i0] at *
          omega
        refine g_iload_n rfl rfl ?_
        refine s_ic (v := nI 4) rfl rfl ?_
        refine g_icmp_gt rfl (fun h2 => ?_) (fun h2 => ?_)
        · exact bad (by unfold vxB; rw [fitB_m, decide_eq_false (show ¬ k ≤ nI 4 by simp only [lt_i, le_i, i0] at *; omega)]; simp) _
        · have k4 : k ≤ nI 4 := by
            simp only [lt_i, le_i, i0] at *
            omega
          have hfit : fitB k d = mfB k d := by
            rw [fitB_m, decide_eq_true k0, decide_eq_true k4]
            simp
          refine g_iload rfl rfl ?_
          cases hm : mfB k d with
          | false =>
            refine g_if_eq rfl (fun _ => ?_) (fun h => absurd (rfl) h)
            exact bad (by unfold vxB; rw [hfit, hm]; simp) _
          | true =>
            refine g_if_eq rfl (fun h => absurd h (by decide)) (fun _ => ?_)
            refine g_iload_n rfl rfl ?_
            refine g_if_lt rfl (fun h3 => ?_) (fun h3 => ?_)
            · exact bad (by unfold vxB; rw [decide_eq_false (show ¬ 0 ≤ w by simp only [lt_i, le_i, i0] at *; omega)]; simp) _
            · have w0 : 0 ≤ w := by
                simp only [lt_i, le_i, i0] at *
                omega
              refine g_iload_n rfl rfl ?_
              refine s_ic (v := nI 3) rfl rfl ?_
              refine g_icmp_le rfl (fun h4 => ?_) (fun h4 => ?_)
              · have hz : vxB true k d w = true := by
                  unfold vxB
                  rw [hfit, hm, decide_eq_true w0, decide_eq_true h4]
                  rfl
                rw [hz]
                refine g_aload_n rfl rfl ?_
                refine g_get rfl rfl wd_M rfl ?_
                rw [hn]
                refine s_bp (v := nI 8) rfl rfl ?_
                by_cases hn2 : n < 8
                · refine g_icmp_ne rfl (fun _ => ?_) (fun h => absurd h (fun z => absurd ((nI_eq (by omega) (by omega)).mp z) (by omega)))
                  rw [if_pos rfl, if_pos hn2, if_pos ⟨rfl, hn2⟩]
                  refine g_aload_n rfl rfl ?_
                  refine g_get rfl rfl wd_M rfl ?_
                  refine g_aload_n rfl rfl ?_
                  refine g_get rfl rfl wd_M rfl ?_
                  try simp (disch := omega) only [u2_c, u2_k, u2_same, hn]
                  refine g_iload_n rfl rfl ?_
                  refine s_iast rfl a_67 rfl (by omega) ?_
                  refine g_aload_n rfl rfl ?_
                  refine g_get rfl rfl wd_M rfl ?_
                  refine g_aload_n rfl rfl ?_
                  refine g_get rfl rfl wd_M rfl ?_
                  try simp (disch := omega) only [u2_c, u2_k, u2_same, hn]
                  refine g_iload_n rfl rfl ?_
                  refine s_iast rfl a_68 rfl (by omega) ?_
                  refine g_aload_n rfl rfl ?_
                  refine g_get rfl rfl wd_M rfl ?_
                  refine g_aload_n rfl rfl ?_
                  refine g_get rfl rfl wd_M rfl ?_
                  try simp (disch := omega) only [u2_c, u2_k, u2_same, hn]
                  refine g_iload_n rfl rfl ?_
                  refine s_iast rfl a_69 rfl (by omega) ?_
                  refine g_aload_n rfl rfl ?_
                  refine g_get rfl rfl wd_M rfl ?_
                  refine g_aload_n rfl rfl ?_
                  refine g_get rfl rfl wd_M rfl ?_
                  try simp (disch := omega) only [u2_c, u2_k, u2_same, hn]
                  refine g_iload_n rfl rfl ?_
                  refine g_if_ne rfl (fun h138 => ?_) (fun h138 => ?_)
                  · refine s_ic (v := nI 0) rfl rfl ?_
                    refine s_zast rfl a_71 rfl (by omega) (by decide) ?_
                    refine g_aload_n rfl rfl ?_
                    refine g_dup rfl rfl ?_
                    refine g_get rfl rfl wd_M rfl ?_
                    try simp (disch := omega) only [u2_c, u2_k, u2_same, hn]
                    refine s_ic (v := nI 1) rfl rfl ?_
                    refine g_iadd rfl ?_
                    rw [nI_add]
                    refine s_putM rfl rfl (by decide) ?_
                    refine g_aload_n rfl rfl ?_
                    refine g_get rfl rfl wd_M rfl ?_
                    try simp (disch := omega) only [u2_c, u2_k, u2_same, hn]
                    refine s_ic (v := nI 1) rfl rfl ?_
                    refine g_isub rfl ?_
                    rw [pk_sub (by omega), Nat.add_sub_cancel]
                    refine g_iret rfl rfl ?_
                    refine ⟨rfl, ?_⟩
                    unfold mvF
                    first | rw [if_pos h138] | rw [if_neg h138]
                  · refine s_ic (v := nI 1) rfl rfl ?_
                    refine g_goto rfl ?_
                    refine s_zast rfl a_71 rfl (by omega) (by decide) ?_
                    refine g_aload_n rfl rfl ?_
                    refine g_dup rfl rfl ?_
                    refine g_get rfl rfl wd_M rfl ?_
                    try simp (disch := omega) only [u2_c, u2_k, u2_same, hn]
                    refine s_ic (v := nI 1) rfl rfl ?_
                    refine g_iadd rfl ?_
                    rw [nI_add]
                    refine s_putM rfl rfl (by decide) ?_
                    refine g_aload_n rfl rfl ?_
                    refine g_get rfl rfl wd_M rfl ?_
                    try simp (disch := omega) only [u2_c, u2_k, u2_same, hn]
                    refine s_ic (v := nI 1) rfl rfl ?_
                    refine g_isub rfl ?_
                    rw [pk_sub (by omega), Nat.add_sub_cancel]
                    refine g_iret rfl rfl ?_
                    refine ⟨rfl, ?_⟩
                    unfold mvF
                    first | rw [if_pos h138] | rw [if_neg h138]
                · have h8 : n = 8 := by omega
                  subst h8
                  refine g_icmp_ne rfl (fun h => absurd (rfl) h) (fun _ => ?_)
                  refine s_bp (v := -2) rfl rfl ?_
                  refine g_iret rfl rfl ?_
                  exact ⟨by rw [if_pos rfl, if_neg hn2], by rw [if_neg fun z => hn2 z.2]⟩
              · exact bad (by unfold vxB; rw [decide_eq_false h4]; simp) _
  have n1 : (nI 1).toInt = 1 := by decide
  have n2 : (nI 2).toInt = 2 := by decide
  have fin : ∀ q : Bool, mfB k d = q → am_G 59 55 [some (.ref 66), some (.int k), some (.int d), some (.int w), some (.int (bI q))] [] (wd xs σ) (po xs (if vxB b k d w = true then (if n < 8 then nI n else -2) else -1) (if vxB b k d w = true ∧ n < 8 then mvF σ n k d w else σ)) := by
    rintro q rfl
    exact main
  refine g_iload_n rfl rfl ?_
  refine g_if_ne rfl (fun h1 => ?_) (fun h1 => ?_)
  · refine g_iload_n rfl rfl ?_
    refine s_ic (v := nI 1) rfl rfl ?_
    refine g_icmp_ne rfl (fun h18 => ?_) (fun h18 => ?_)
    · refine g_iload_n rfl rfl ?_
      refine s_ic (v := nI 1) rfl rfl ?_
      refine g_icmp_eq rfl (fun h40 => ?_) (fun h40 => ?_)
      · refine s_ic (v := nI 1) rfl rfl ?_
        refine g_goto rfl ?_
        refine g_istore rfl (Nat.le_of_ble_eq_true rfl) ?_
        first | refine fin true ?_ | refine fin false ?_
        unfold mfB
        first | (rw [if_pos h1]; first | rw [decide_eq_true h5] | rw [decide_eq_false h5]; done) | skip
        all_goals (rw [if_neg h1]; first | (rw [if_pos h18]; first | (rw [decide_eq_false (by simp only [lt_i, le_i, i0] at *; omega)]; rfl) | (rw [decide_eq_true (by simp only [lt_i, le_i, i0] at *; omega), decide_eq_false (by simp only [lt_i, le_i, i0] at *; omega)]; rfl) | (rw [decide_eq_true (by simp only [lt_i, le_i, i0] at *; omega), decide_eq_true (by simp only [lt_i, le_i, i0] at *; omega)]; rfl)) | (rw [if_neg h18]; first | (rw [decide_eq_true h40]; rfl) | (rw [decide_eq_true h45]; simp; done) | (rw [decide_eq_false h40, decide_eq_false h45]; rfl)))
      · refine g_iload_n rfl rfl ?_
        refine s_ic (v := nI 2) rfl rfl ?_
        refine g_icmp_ne rfl (fun h45 => ?_) (fun h45 => ?_)
        · refine s_ic (v := nI 0) rfl rfl ?_
          refine g_istore rfl (Nat.le_of_ble_eq_true rfl) ?_
          first | refine fin true ?_ | refine fin false ?_
          unfold mfB
          first | (rw [if_pos h1]; first | rw [decide_eq_true h5] | rw [decide_eq_false h5]; done) | skip
          all_goals (rw [if_neg h1]; first | (rw [if_pos h18]; first | (rw [decide_eq_false (by simp only [lt_i, le_i, i0] at *; omega)]; rfl) | (rw [decide_eq_true (by simp only [lt_i, le_i, i0] at *; omega), decide_eq_false (by simp only [lt_i, le_i, i0] at *; omega)]; rfl) | (rw [decide_eq_true (by simp only [lt_i, le_i, i0] at *; omega), decide_eq_true (by simp only [lt_i, le_i, i0] at *; omega)]; rfl)) | (rw [if_neg h18]; first | (rw [decide_eq_true h40]; rfl) | (rw [decide_eq_true h45]; simp; done) | (rw [decide_eq_false h40, decide_eq_false h45]; rfl)))
        · refine s_ic (v := nI 1) rfl rfl ?_
          refine g_goto rfl ?_
          refine g_istore rfl (Nat.le_of_ble_eq_true rfl) ?_
          first | refine fin true ?_ | refine fin false ?_
          unfold mfB
          first | (rw [if_pos h1]; first | rw [decide_eq_true h5] | rw [decide_eq_false h5]; done) | skip
          all_goals (rw [if_neg h1]; first | (rw [if_pos h18]; first | (rw [decide_eq_false (by simp only [lt_i, le_i, i0] at *; omega)]; rfl) | (rw [decide_eq_true (by simp only [lt_i, le_i, i0] at *; omega), decide_eq_false (by simp only [lt_i, le_i, i0] at *; omega)]; rfl) | (rw [decide_eq_true (by simp only [lt_i, le_i, i0] at *; omega), decide_eq_true (by simp only [lt_i, le_i, i0] at *; omega)]; rfl)) | (rw [if_neg h18]; first | (rw [decide_eq_true h40]; rfl) | (rw [decide_eq_true h45]; simp; done) | (rw [decide_eq_false h40, decide_eq_false h45]; rfl)))
    · refine g_iload_n rfl rfl ?_
      refine g_if_lt rfl (fun h22 => ?_) (fun h22 => ?_)
      · refine s_ic (v := nI 0) rfl rfl ?_
        refine g_goto rfl ?_
        refine g_istore rfl (Nat.le_of_ble_eq_true rfl) ?_
        first | refine fin true ?_ | refine fin false ?_
        unfold mfB
        first | (rw [if_pos h1]; first | rw [decide_eq_true h5] | rw [decide_eq_false h5]; done) | skip
        all_goals (rw [if_neg h1]; first | (rw [if_pos h18]; first | (rw [decide_eq_false (by simp only [lt_i, le_i, i0] at *; omega)]; rfl) | (rw [decide_eq_true (by simp only [lt_i, le_i, i0] at *; omega), decide_eq_false (by simp only [lt_i, le_i, i0] at *; omega)]; rfl) | (rw [decide_eq_true (by simp only [lt_i, le_i, i0] at *; omega), decide_eq_true (by simp only [lt_i, le_i, i0] at *; omega)]; rfl)) | (rw [if_neg h18]; first | (rw [decide_eq_true h40]; rfl) | (rw [decide_eq_true h45]; simp; done) | (rw [decide_eq_false h40, decide_eq_false h45]; rfl)))
      · refine g_iload_n rfl rfl ?_
        refine s_ic (v := nI 2) rfl rfl ?_
        refine g_icmp_gt rfl (fun h27 => ?_) (fun h27 => ?_)
        · refine s_ic (v := nI 0) rfl rfl ?_
          refine g_goto rfl ?_
          refine g_istore rfl (Nat.le_of_ble_eq_true rfl) ?_
          first | refine fin true ?_ | refine fin false ?_
          unfold mfB
          first | (rw [if_pos h1]; first | rw [decide_eq_true h5] | rw [decide_eq_false h5]; done) | skip
          all_goals (rw [if_neg h1]; first | (rw [if_pos h18]; first | (rw [decide_eq_false (by simp only [lt_i, le_i, i0] at *; omega)]; rfl) | (rw [decide_eq_true (by simp only [lt_i, le_i, i0] at *; omega), decide_eq_false (by simp only [lt_i, le_i, i0] at *; omega)]; rfl) | (rw [decide_eq_true (by simp only [lt_i, le_i, i0] at *; omega), decide_eq_true (by simp only [lt_i, le_i, i0] at *; omega)]; rfl)) | (rw [if_neg h18]; first | (rw [decide_eq_true h40]; rfl) | (rw [decide_eq_true h45]; simp; done) | (rw [decide_eq_false h40, decide_eq_false h45]; rfl)))
        · refine s_ic (v := nI 1) rfl rfl ?_
          refine g_goto rfl ?_
          refine g_istore rfl (Nat.le_of_ble_eq_true rfl) ?_
          first | refine fin true ?_ | refine fin false ?_
          unfold mfB
          first | (rw [if_pos h1]; first | rw [decide_eq_true h5] | rw [decide_eq_false h5]; done) | skip
          all_goals (rw [if_neg h1]; first | (rw [if_pos h18]; first | (rw [decide_eq_false (by simp only [lt_i, le_i, i0] at *; omega)]; rfl) | (rw [decide_eq_true (by simp only [lt_i, le_i, i0] at *; omega), decide_eq_false (by simp only [lt_i, le_i, i0] at *; omega)]; rfl) | (rw [decide_eq_true (by simp only [lt_i, le_i, i0] at *; omega), decide_eq_true (by simp only [lt_i, le_i, i0] at *; omega)]; rfl)) | (rw [if_neg h18]; first | (rw [decide_eq_true h40]; rfl) | (rw [decide_eq_true h45]; simp; done) | (rw [decide_eq_false h40, decide_eq_false h45]; rfl)))
  · refine g_iload_n rfl rfl ?_
    refine g_if_ne rfl (fun h5 => ?_) (fun h5 => ?_)
    · refine s_ic (v := nI 0) rfl rfl ?_
      refine g_goto rfl ?_
      refine g_istore rfl (Nat.le_of_ble_eq_true rfl) ?_
      first | refine fin true ?_ | refine fin false ?_
      unfold mfB
      first | (rw [if_pos h1]; first | rw [decide_eq_true h5] | rw [decide_eq_false h5]; done) | skip
      all_goals (rw [if_neg h1]; first | (rw [if_pos h18]; first | (rw [decide_eq_false (by simp only [lt_i, le_i, i0] at *; omega)]; rfl) | (rw [decide_eq_true (by simp only [lt_i, le_i, i0] at *; omega), decide_eq_false (by simp only [lt_i, le_i, i0] at *; omega)]; rfl) | (rw [decide_eq_true (by simp only [lt_i, le_i, i0] at *; omega), decide_eq_true (by simp only [lt_i, le_i, i0] at *; omega)]; rfl)) | (rw [if_neg h18]; first | (rw [decide_eq_true h40]; rfl) | (rw [decide_eq_true h45]; simp; done) | (rw [decide_eq_false h40, decide_eq_false h45]; rfl)))
    · refine s_ic (v := nI 1) rfl rfl ?_
      refine g_goto rfl ?_
      refine g_istore rfl (Nat.le_of_ble_eq_true rfl) ?_
      first | refine fin true ?_ | refine fin false ?_
      unfold mfB
      first | (rw [if_pos h1]; first | rw [decide_eq_true h5] | rw [decide_eq_false h5]; done) | skip
      all_goals (rw [if_neg h1]; first | (rw [if_pos h18]; first | (rw [decide_eq_false (by simp only [lt_i, le_i, i0] at *; omega)]; rfl) | (rw [decide_eq_true (by simp only [lt_i, le_i, i0] at *; omega), decide_eq_false (by simp only [lt_i, le_i, i0] at *; omega)]; rfl) | (rw [decide_eq_true (by simp only [lt_i, le_i, i0] at *; omega), decide_eq_true (by simp only [lt_i, le_i, i0] at *; omega)]; rfl)) | (rw [if_neg h18]; first | (rw [decide_eq_true h40]; rfl) | (rw [decide_eq_true h45]; simp; done) | (rw [decide_eq_false h40, decide_eq_false h45]; rfl)))
def meF (σ : wd_S) (e : Nat) (a b : Nat) : wd_S := u2 (u2 (u2 σ 73 e (nI a)) 74 e (nI b)) 66 8 (nI (e + 1))
/-- may an edge lead from a to b, by the reference? -/
def mmB (σ : wd_S) (e a b : Nat) : Bool := (!(decide (σ 67 b = 0)) && decide ((if σ 67 a = nI 3 then σ 68 a - nI 1 else σ 68 a) = (if σ 67 b = nI 2 then σ 68 b - nI 1 else σ 68 b))) && !(anyB (fun i => decide (σ 73 i = nI a) && decide (σ 74 i = nI b)) e)
def meB (σ : wd_S) (b : Bool) (n e : Nat) (x y : Int32) : Bool := b && (inB x n && (inB y n && mmB σ e x.toNatClampNeg y.toNatClampNeg))
theorem m_edge {xs : List Int32} {σ : wd_S} {n e : Nat} {b : Bool} (hn : σ 66 1 = nI n) (hn8 : n ≤ 8) (he : σ 66 8 = nI e) (he12 : e ≤ 12) (hb : σ 66 0 = bI (!b)) (x y : Int32) : ev xs 60 [.ref 66, .int x, .int y] σ (if meB σ b n e x y = true then (if e < 12 then nI e else -2) else -1) (if meB σ b n e x y = true ∧ e < 12 then meF σ e x.toNatClampNeg y.toNatClampNeg else σ) := by
  refine am_Ev.of (n := 4) rfl rfl rfl rfl ?_
  have bad : meB σ b n e x y = false → ∀ lo, am_G 60 45 lo [] (wd xs σ) (po xs (if meB σ b n e x y = true then (if e < 12 then nI e else -2) else -1) (if meB σ b n e x y = true ∧ e < 12 then meF σ e x.toNatClampNeg y.toNatClampNeg else σ)) := by
    intro hz lo
    rw [hz]
    refine s_ic (v := -1) rfl rfl ?_
    refine g_iret rfl rfl ?_
    exact ⟨rfl, rfl⟩
  refine g_aload_n rfl rfl ?_
  refine g_get rfl rfl wd_M rfl ?_
  rw [hb]
  cases b with
  | false =>
    refine g_if_ne rfl (fun _ => ?_) (fun h => absurd h (by decide))
    exact bad rfl _
  | true =>
    refine g_if_ne rfl (fun h => absurd (rfl) h) (fun _ => ?_)
    refine g_aload_n rfl rfl ?_
    refine g_iload_n rfl rfl ?_
    refine c_V rfl rfl rfl rfl wd_M rfl (m_isVertex hn x) rfl rfl rfl ?_
    cases hx : inB x n with
    | false =>
      refine g_if_eq rfl (fun _ => ?_) (fun h => absurd (rfl) h)
      exact bad (by simp [meB, hx]) _
    | true =>
      refine g_if_eq rfl (fun h => absurd h (by decide)) (fun _ => ?_)
      refine g_aload_n rfl rfl ?_
      refine g_iload_n rfl rfl ?_
      refine c_V rfl rfl rfl rfl wd_M rfl (m_isVertex hn y) rfl rfl rfl ?_
      cases hy : inB y n with
      | false =>
        refine g_if_eq rfl (fun _ => ?_) (fun h => absurd (rfl) h)
        exact bad (by simp [meB, hy]) _
      | true =>
        refine g_if_eq rfl (fun h => absurd h (by decide)) (fun _ => ?_)
        obtain ⟨i, hi, rfl⟩ := inB_ex (by omega) hx
        obtain ⟨j, hj, rfl⟩ := inB_ex (by omega) hy
        rw [nI_clamp (by omega), nI_clamp (by omega)]
        rw [nI_clamp (by omega), nI_clamp (by omega)] at bad
        have hme : meB σ true n e (nI i) (nI j) = mmB σ e i j := by
          unfold meB
          rw [hx, hy, nI_clamp (by omega), nI_clamp (by omega)]
          rfl
        rw [hme] at bad ⊢
        refine g_aload_n rfl rfl ?_
        refine g_get rfl rfl wd_M rfl ?_
        refine g_iload_n rfl rfl ?_
        refine s_iald rfl a_67 rfl (by omega) ?_
        refine g_if_eq rfl (fun h => ?_) (fun h => ?_)
        · exact bad (by unfold mmB; rw [decide_eq_true h]; rfl) _
        · refine g_aload_n rfl rfl ?_
          refine g_iload_n rfl rfl ?_
          refine c_V rfl rfl rfl rfl wd_M rfl (m_outDepth (show i < 8 by omega)) rfl rfl rfl ?_
          refine g_aload_n rfl rfl ?_
          refine g_iload_n rfl rfl ?_
          refine c_V rfl rfl rfl rfl wd_M rfl (m_inDepth (show j < 8 by omega)) rfl rfl rfl ?_
          refine g_icmp_eq rfl (fun h2 => ?_) (fun h2 => ?_)
          · refine s_ic (v := nI 0) rfl rfl ?_
            refine g_istore_n rfl (Nat.le_of_ble_eq_true rfl) ?_
            refine am_for e (fun k lo σ' => lo = [some (.ref 66), some (.int (nI i)), some (.int (nI j)), some (.int (nI k))] ∧ σ = σ' ∧ ∀ q, q < k → (decide (σ 73 q = nI i) && decide (σ 74 q = nI j)) = false) ?_ ?_ 0 _ _ (Nat.zero_le _) ⟨rfl, rfl, fun q h => absurd h (Nat.not_lt_zero q)⟩
            · rintro k _ _ hk ⟨rfl, rfl, hq⟩ kk
              refine g_iload_n rfl rfl ?_
              refine g_aload_n rfl rfl ?_
              refine g_get rfl rfl wd_M rfl ?_
              rw [he]
              refine g_icmp_ge rfl (fun h => absurd h (nI_ge hk (by omega))) (fun _ => ?_)
              refine g_aload_n rfl rfl ?_
              refine g_get rfl rfl wd_M rfl ?_
              refine g_iload_n rfl rfl ?_
              refine s_iald rfl a_73 rfl (by omega) ?_
              refine g_iload_n rfl rfl ?_
              refine g_icmp_ne rfl (fun h64 => ?_) (fun h64 => ?_)
              · refine s_inc rfl rfl (nI_1 _) ?_
                refine g_goto rfl ?_
                refine kk _ _ ⟨rfl, rfl, lt_s hq ?_⟩
                first | (rw [decide_eq_false h64]; rfl) | (rw [decide_eq_false h74]; simp)
              · refine g_aload_n rfl rfl ?_
                refine g_get rfl rfl wd_M rfl ?_
                refine g_iload_n rfl rfl ?_
                refine s_iald rfl a_74 rfl (by omega) ?_
                refine g_iload_n rfl rfl ?_
                refine g_icmp_ne rfl (fun h74 => ?_) (fun h74 => ?_)
                · refine s_inc rfl rfl (nI_1 _) ?_
                  refine g_goto rfl ?_
                  refine kk _ _ ⟨rfl, rfl, lt_s hq ?_⟩
                  first | (rw [decide_eq_false h64]; rfl) | (rw [decide_eq_false h74]; simp)
                · refine s_ic (v := -1) rfl rfl ?_
                  refine g_iret rfl rfl ?_
                  have hz : mmB σ e i j = false := by (unfold mmB; rw [anyB_t.mpr ⟨k, hk, by rw [decide_eq_true h64, decide_eq_true h74]; rfl⟩]; simp)
                  rw [hz]
                  exact ⟨rfl, rfl⟩
            · rintro _ _ ⟨rfl, rfl, hq⟩
              have hz : mmB σ e i j = true := by
                unfold mmB
                rw [anyB_f.mpr hq, decide_eq_false h, decide_eq_true h2]
                rfl
              rw [hz]
              refine g_iload_n rfl rfl ?_
              refine g_aload_n rfl rfl ?_
              refine g_get rfl rfl wd_M rfl ?_
              rw [he]
              refine g_icmp_ge rfl (fun _ => ?_) (fun h => absurd (nI_le (Nat.le_refl _) (by omega)) h)
              refine g_aload_n rfl rfl ?_
              refine g_get rfl rfl wd_M rfl ?_
              rw [he]
              refine s_bp (v := nI 12) rfl rfl ?_
              by_cases he2 : e < 12
              · refine g_icmp_ne rfl (fun _ => ?_) (fun h => absurd h (fun z => absurd ((nI_eq (by omega) (by omega)).mp z) (by omega)))
                rw [if_pos rfl, if_pos he2, if_pos ⟨rfl, he2⟩]
                refine g_aload_n rfl rfl ?_
                refine g_get rfl rfl wd_M rfl ?_
                refine g_aload_n rfl rfl ?_
                refine g_get rfl rfl wd_M rfl ?_
                try simp (disch := omega) only [u2_c, u2_k, u2_same, he]
                refine g_iload_n rfl rfl ?_
                refine s_iast rfl a_73 rfl (by omega) ?_
                refine g_aload_n rfl rfl ?_
                refine g_get rfl rfl wd_M rfl ?_
                refine g_aload_n rfl rfl ?_
                refine g_get rfl rfl wd_M rfl ?_
                try simp (disch := omega) only [u2_c, u2_k, u2_same, he]
                refine g_iload_n rfl rfl ?_
                refine s_iast rfl a_74 rfl (by omega) ?_
                refine g_aload_n rfl rfl ?_
                refine g_dup rfl rfl ?_
                refine g_get rfl rfl wd_M rfl ?_
                try simp (disch := omega) only [u2_c, u2_k, u2_same, he]
                refine s_ic (v := nI 1) rfl rfl ?_
                refine g_iadd rfl ?_
                rw [nI_add]
                refine s_putM rfl rfl (by decide) ?_
                refine g_aload_n rfl rfl ?_
                refine g_get rfl rfl wd_M rfl ?_
                try simp (disch := omega) only [u2_c, u2_k, u2_same, he]
                refine s_ic (v := nI 1) rfl rfl ?_
                refine g_isub rfl ?_
                rw [pk_sub (by omega), Nat.add_sub_cancel]
                refine g_iret rfl rfl ?_
                exact ⟨rfl, rfl⟩
              · have h12 : e = 12 := by omega
                subst h12
                refine g_icmp_ne rfl (fun h => absurd (rfl) h) (fun _ => ?_)
                refine s_bp (v := -2) rfl rfl ?_
                refine g_iret rfl rfl ?_
                exact ⟨by rw [if_pos rfl, if_neg he2], by rw [if_neg fun z => he2 z.2]⟩
          · exact bad (by unfold mmB; rw [decide_eq_false h2]; simp) _
/-- is line e full, one message of it being gone if e is g? -/
def mlF (σ : wd_S) (g : Int32) (e : Nat) : Bool := !(decide (σ 75 e - (if nI e = g then nI 1 else nI 0) < nI 6))
theorem m_full {xs : List Int32} {σ : wd_S} {e : Nat} (he : e < 12) (g : Int32) : ev xs 63 [.ref 66, .int (nI e), .int g] σ (bI (mlF σ g e)) σ := by
  refine am_Ev.of (n := 3) rfl rfl rfl rfl ?_
  refine g_aload_n rfl rfl ?_
  refine g_get rfl rfl wd_M rfl ?_
  refine g_iload_n rfl rfl ?_
  refine s_iald rfl a_75 rfl (by omega) ?_
  refine g_iload_n rfl rfl ?_
  refine g_iload_n rfl rfl ?_
  refine g_icmp_ne rfl (fun h8 => ?_) (fun h8 => ?_)
  · refine s_ic (v := nI 0) rfl rfl ?_
    refine g_isub rfl ?_
    refine s_bp (v := nI 6) rfl rfl ?_
    refine g_icmp_lt rfl (fun h19 => ?_) (fun h19 => ?_)
    · refine s_ic (v := nI 0) rfl rfl ?_
      refine g_zret rfl rfl (by decide) ?_
      refine ⟨?_, rfl⟩
      unfold mlF
      (first | rw [if_pos h8] | rw [if_neg h8]); (first | rw [decide_eq_true h19] | rw [decide_eq_false h19]); rfl
    · refine s_ic (v := nI 1) rfl rfl ?_
      refine g_goto rfl ?_
      refine g_zret rfl rfl (by decide) ?_
      refine ⟨?_, rfl⟩
      unfold mlF
      (first | rw [if_pos h8] | rw [if_neg h8]); (first | rw [decide_eq_true h19] | rw [decide_eq_false h19]); rfl
  · refine s_ic (v := nI 1) rfl rfl ?_
    refine g_goto rfl ?_
    refine g_isub rfl ?_
    refine s_bp (v := nI 6) rfl rfl ?_
    refine g_icmp_lt rfl (fun h19 => ?_) (fun h19 => ?_)
    · refine s_ic (v := nI 0) rfl rfl ?_
      refine g_zret rfl rfl (by decide) ?_
      refine ⟨?_, rfl⟩
      unfold mlF
      (first | rw [if_pos h8] | rw [if_neg h8]); (first | rw [decide_eq_true h19] | rw [decide_eq_false h19]); rfl
    · refine s_ic (v := nI 1) rfl rfl ?_
      refine g_goto rfl ?_
      refine g_zret rfl rfl (by decide) ?_
      refine ⟨?_, rfl⟩
      unfold mlF
      (first | rw [if_pos h8] | rw [if_neg h8]); (first | rw [decide_eq_true h19] | rw [decide_eq_false h19]); rfl
theorem m_anyFull {xs : List Int32} {σ : wd_S} {e : Nat} (he : σ 66 8 = nI e) (he12 : e ≤ 12) (x g : Int32) : ev xs 64 [.ref 66, .int x, .int g] σ (bI (anyB (fun i => decide (σ 73 i = x) && mlF σ g i) e)) σ := by
  refine am_Ev.of (n := 5) rfl rfl rfl rfl ?_
  refine s_ic (v := nI 0) rfl rfl ?_
  refine g_istore_n rfl (Nat.le_of_ble_eq_true rfl) ?_
  refine s_ic (v := nI 0) rfl rfl ?_
  refine g_istore rfl (Nat.le_of_ble_eq_true rfl) ?_
  refine am_for e (fun i lo σ' => lo = [some (.ref 66), some (.int x), some (.int g), some (.int (bI (anyB (fun i => decide (σ 73 i = x) && mlF σ g i) i))), some (.int (nI i))] ∧ σ = σ') ?_ ?_ 0 _ _ (Nat.zero_le _) ⟨rfl, rfl⟩
  · rintro i _ _ hi ⟨rfl, rfl⟩ kk
    have kk2 : ∀ q : Bool, anyB (fun i => decide (σ 73 i = x) && mlF σ g i) (i + 1) = q → am_G 64 5 [some (.ref 66), some (.int x), some (.int g), some (.int (bI q)), some (.int (nI (i + 1)))] [] (wd xs σ) (po xs (bI (anyB (fun i => decide (σ 73 i = x) && mlF σ g i) e)) σ) := by
      rintro q rfl
      exact kk _ _ ⟨rfl, rfl⟩
    have hs : anyB (fun i => decide (σ 73 i = x) && mlF σ g i) (i + 1) = (anyB (fun i => decide (σ 73 i = x) && mlF σ g i) i || (decide (σ 73 i = x) && mlF σ g i)) := rfl
    refine g_iload rfl rfl ?_
    refine g_aload_n rfl rfl ?_
    refine g_get rfl rfl wd_M rfl ?_
    rw [he]
    refine g_icmp_ge rfl (fun h => absurd h (nI_ge hi (by omega))) (fun _ => ?_)
    refine g_iload_n rfl rfl ?_
    cases ha : anyB (fun i => decide (σ 73 i = x) && mlF σ g i) i with
    | true =>
      refine g_if_ne rfl (fun _ => ?_) (fun h => absurd h (by decide))
      refine s_ic (v := nI 1) rfl rfl ?_
      refine g_goto rfl ?_
      refine g_istore_n rfl (Nat.le_of_ble_eq_true rfl) ?_
      refine s_inc rfl rfl (nI_1 _) ?_
      refine g_goto rfl ?_
      exact kk2 true (by rw [hs, ha]; rfl)
    | false =>
      refine g_if_ne rfl (fun h => absurd (rfl) h) (fun _ => ?_)
      refine g_aload_n rfl rfl ?_
      refine g_get rfl rfl wd_M rfl ?_
      refine g_iload rfl rfl ?_
      refine s_iald rfl a_73 rfl (by omega) ?_
      refine g_iload_n rfl rfl ?_
      refine g_icmp_ne rfl (fun h => ?_) (fun h => ?_)
      · refine s_ic (v := nI 0) rfl rfl ?_
        refine g_istore_n rfl (Nat.le_of_ble_eq_true rfl) ?_
        refine s_inc rfl rfl (nI_1 _) ?_
        refine g_goto rfl ?_
        exact kk2 false (by rw [hs, ha, decide_eq_false h]; rfl)
      · refine g_aload_n rfl rfl ?_
        refine g_iload rfl rfl ?_
        refine g_iload_n rfl rfl ?_
        refine c_V rfl rfl rfl rfl wd_M rfl (m_full (show i < 12 by omega) g) rfl rfl rfl ?_
        cases hf : mlF σ g i with
        | true =>
          refine g_if_eq rfl (fun h => absurd h (by decide)) (fun _ => ?_)
          refine s_ic (v := nI 1) rfl rfl ?_
          refine g_goto rfl ?_
          refine g_istore_n rfl (Nat.le_of_ble_eq_true rfl) ?_
          refine s_inc rfl rfl (nI_1 _) ?_
          refine g_goto rfl ?_
          exact kk2 true (by rw [hs, ha, decide_eq_true h, hf]; rfl)
        | false =>
          refine g_if_eq rfl (fun _ => ?_) (fun h => absurd (rfl) h)
          refine s_ic (v := nI 0) rfl rfl ?_
          refine g_istore_n rfl (Nat.le_of_ble_eq_true rfl) ?_
          refine s_inc rfl rfl (nI_1 _) ?_
          refine g_goto rfl ?_
          exact kk2 false (by rw [hs, ha, hf]; simp)
  · rintro _ _ ⟨rfl, rfl⟩
    refine g_iload rfl rfl ?_
    refine g_aload_n rfl rfl ?_
    refine g_get rfl rfl wd_M rfl ?_
    rw [he]
    refine g_icmp_ge rfl (fun _ => ?_) (fun h => absurd (nI_le (Nat.le_refl _) (by omega)) h)
    refine g_iload_n rfl rfl ?_
    refine g_zret rfl rfl (bI_or _) ?_
    exact ⟨rfl, rfl⟩
/-- the m-th below n of which p holds -/
def ldF (p : Nat → Bool) (m n : Nat) : Option Nat := fst1 (fun j => p j && decide (cnt p j = m)) n
theorem m_leading {xs : List Int32} {σ : wd_S} {e : Nat} (he : σ 66 8 = nI e) (he12 : e ≤ 12) (x : Int32) {q : Nat} (hq : q < 100) : ev xs 65 [.ref 66, .int x, .int (nI q)] σ (oI (ldF (fun i => decide (σ 73 i = x)) q e)) σ := by
  refine am_Ev.of (n := 5) rfl rfl rfl rfl ?_
  refine g_iload_n rfl rfl ?_
  refine g_istore_n rfl (Nat.le_of_ble_eq_true rfl) ?_
  refine s_ic (v := nI 0) rfl rfl ?_
  refine g_istore rfl (Nat.le_of_ble_eq_true rfl) ?_
  refine am_for e (fun i lo σ' => lo = [some (.ref 66), some (.int x), some (.int (nI q)), some (.int (nI (q - cnt (fun i => decide (σ 73 i = x)) i))), some (.int (nI i))] ∧ σ = σ' ∧ cnt (fun i => decide (σ 73 i = x)) i ≤ q ∧ ∀ j, j < i → (decide (σ 73 j = x) && decide (cnt (fun i => decide (σ 73 i = x)) j = q)) = false) ?_ ?_ 0 _ _ (Nat.zero_le _) ⟨rfl, rfl, Nat.zero_le _, fun j h => absurd h (Nat.not_lt_zero j)⟩
  · rintro i _ _ hi ⟨rfl, rfl, hle, hn⟩ kk
    refine g_iload rfl rfl ?_
    refine g_aload_n rfl rfl ?_
    refine g_get rfl rfl wd_M rfl ?_
    rw [he]
    refine g_icmp_ge rfl (fun h => absurd h (nI_ge hi (by omega))) (fun _ => ?_)
    refine g_aload_n rfl rfl ?_
    refine g_get rfl rfl wd_M rfl ?_
    refine g_iload rfl rfl ?_
    refine s_iald rfl a_73 rfl (by omega) ?_
    refine g_iload_n rfl rfl ?_
    refine g_icmp_ne rfl (fun h => ?_) (fun h => ?_)
    · refine s_inc rfl rfl (nI_1 _) ?_
      refine g_goto rfl ?_
      refine kk _ _ ⟨?_, rfl, ?_, lt_s hn ?_⟩
      · rw [cnt_f (decide_eq_false h)]
        rfl
      · rw [cnt_f (decide_eq_false h)]
        exact hle
      · rw [decide_eq_false h]
        rfl
    · refine g_iload_n rfl rfl ?_
      refine g_if_ne rfl (fun h2 => ?_) (fun h2 => ?_)
      · have hlt : cnt (fun i => decide (σ 73 i = x)) i < q := by
          rcases Nat.lt_or_ge (cnt (fun i => decide (σ 73 i = x)) i) q with z | z
          · exact z
          · rw [show q - cnt (fun i => decide (σ 73 i = x)) i = 0 by omega] at h2
            exact absurd rfl h2
        rw [show q - cnt (fun i => decide (σ 73 i = x)) i = (q - (cnt (fun i => decide (σ 73 i = x)) i + 1)) + 1 by omega]
        refine s_inc rfl rfl (dec1 _) ?_
        refine s_inc rfl rfl (nI_1 _) ?_
        refine g_goto rfl ?_
        refine kk _ _ ⟨?_, rfl, ?_, lt_s hn ?_⟩
        · rw [cnt_t (decide_eq_true h)]
          rfl
        · rw [cnt_t (decide_eq_true h)]
          omega
        · rw [decide_eq_false (show ¬ cnt (fun i => decide (σ 73 i = x)) i = q by omega)]
          simp
      · refine g_iload rfl rfl ?_
        refine g_iret rfl rfl ?_
        refine ⟨?_, rfl⟩
        have hz : q - cnt (fun i => decide (σ 73 i = x)) i = 0 := by
          rcases Nat.eq_zero_or_pos (q - cnt (fun i => decide (σ 73 i = x)) i) with z | z
          · exact z
          · exact absurd h2 (nI_ne0 z (by omega))
        unfold ldF
        rw [fst1_some hi (by rw [decide_eq_true h, decide_eq_true (show cnt (fun i => decide (σ 73 i = x)) i = q by omega)]; rfl) hn]
        rfl
  · rintro _ _ ⟨rfl, rfl, hle, hn⟩
    refine g_iload rfl rfl ?_
    refine g_aload_n rfl rfl ?_
    refine g_get rfl rfl wd_M rfl ?_
    rw [he]
    refine g_icmp_ge rfl (fun _ => ?_) (fun h => absurd (nI_le (Nat.le_refl _) (by omega)) h)
    refine s_ic (v := -1) rfl rfl ?_
    refine g_iret rfl rfl ?_
    refine ⟨?_, rfl⟩
    unfold ldF
    rw [fst1_none.mpr hn]
    rfl
/-- a message is put at the end of line e, with the time that stands in the fields -/
def p1F (σ : wd_S) (e c : Nat) (x : Int32) : wd_S := u2 (u2 (u2 (u2 (u2 (u2 σ 76 (6 * e + c) x) 77 (3 * (6 * e + c)) (σ 66 21)) 77 (3 * (6 * e + c) + 1) (σ 66 22)) 77 (3 * (6 * e + c) + 2) (σ 66 23)) 75 e (nI (c + 1))) 66 20 (σ 66 20 + nI 1)
theorem m_put1 {xs : List Int32} {σ : wd_S} {e c : Nat} (he : e < 12) (hc : σ 75 e = nI c) (hc6 : c < 6) (x : Int32) : ev xs 66 [.ref 66, .int (nI e), .int x] σ (nI 1) (p1F σ e c x) := by
  refine am_Ev.of (n := 4) rfl rfl rfl rfl ?_
  refine s_bp (v := nI 6) rfl rfl ?_
  refine g_iload_n rfl rfl ?_
  refine g_imul rfl ?_
  rw [pk_mul]
  refine g_aload_n rfl rfl ?_
  refine g_get rfl rfl wd_M rfl ?_
  refine g_iload_n rfl rfl ?_
  refine s_iald rfl a_75 rfl (by omega) ?_
  try simp (disch := omega) only [u2_c, u2_k, u2_same, hc]
  refine g_iadd rfl ?_
  rw [nI_add]
  refine g_istore_n rfl (Nat.le_of_ble_eq_true rfl) ?_
  refine g_aload_n rfl rfl ?_
  refine g_get rfl rfl wd_M rfl ?_
  refine g_iload_n rfl rfl ?_
  refine g_iload_n rfl rfl ?_
  refine s_iast rfl a_76 rfl (by omega) ?_
  refine g_aload_n rfl rfl ?_
  refine g_get rfl rfl wd_M rfl ?_
  refine s_ic (v := nI 3) rfl rfl ?_
  refine g_iload_n rfl rfl ?_
  refine g_imul rfl ?_
  rw [pk_mul]
  refine g_aload_n rfl rfl ?_
  refine g_get rfl rfl wd_M rfl ?_
  try simp (disch := omega) only [u2_c, u2_k, u2_same, hc]
  refine s_iast rfl a_77 rfl (by omega) ?_
  refine g_aload_n rfl rfl ?_
  refine g_get rfl rfl wd_M rfl ?_
  refine s_ic (v := nI 3) rfl rfl ?_
  refine g_iload_n rfl rfl ?_
  refine g_imul rfl ?_
  rw [pk_mul]
  refine s_ic (v := nI 1) rfl rfl ?_
  refine g_iadd rfl ?_
  rw [nI_add]
  refine g_aload_n rfl rfl ?_
  refine g_get rfl rfl wd_M rfl ?_
  try simp (disch := omega) only [u2_c, u2_k, u2_same, hc]
  refine s_iast rfl a_77 rfl (by omega) ?_
  refine g_aload_n rfl rfl ?_
  refine g_get rfl rfl wd_M rfl ?_
  refine s_ic (v := nI 3) rfl rfl ?_
  refine g_iload_n rfl rfl ?_
  refine g_imul rfl ?_
  rw [pk_mul]
  refine s_ic (v := nI 2) rfl rfl ?_
  refine g_iadd rfl ?_
  rw [nI_add]
  refine g_aload_n rfl rfl ?_
  refine g_get rfl rfl wd_M rfl ?_
  try simp (disch := omega) only [u2_c, u2_k, u2_same, hc]
  refine s_iast rfl a_77 rfl (by omega) ?_
  refine g_aload_n rfl rfl ?_
  refine g_get rfl rfl wd_M rfl ?_
  refine g_iload_n rfl rfl ?_
  refine g_dup2 rfl rfl rfl ?_
  refine s_iald rfl a_75 rfl (by omega) ?_
  try simp (disch := omega) only [u2_c, u2_k, u2_same, hc]
  refine s_ic (v := nI 1) rfl rfl ?_
  refine g_iadd rfl ?_
  rw [nI_add]
  refine s_iast rfl a_75 rfl (by omega) ?_
  refine g_aload_n rfl rfl ?_
  refine g_dup rfl rfl ?_
  refine g_get rfl rfl wd_M rfl ?_
  try simp (disch := omega) only [u2_c, u2_k, u2_same, hc]
  refine s_ic (v := nI 1) rfl rfl ?_
  refine g_iadd rfl ?_
  refine s_putM rfl rfl (by decide) ?_
  refine s_ic (v := nI 1) rfl rfl ?_
  refine g_iret rfl rfl ?_
  exact ⟨rfl, rfl⟩
