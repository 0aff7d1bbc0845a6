/-! The class's leaves: times. -/
theorem r_ofEpoch {xs : List Int32} {σ : wd_S} (x : Int32) : ev xs 97 [.int x] σ (x <<< (nI 20 &&& 31)) σ := by
  refine am_Ev.of (n := 1) rfl rfl rfl rfl ?_
  refine g_iload_n rfl rfl ?_
  refine s_bp (v := nI 20) rfl rfl ?_
  refine g_ishl rfl ?_
  refine g_iret rfl rfl ?_
  exact ⟨rfl, rfl⟩
theorem r_epochOf {xs : List Int32} {σ : wd_S} (x : Int32) : ev xs 98 [.int x] σ (x >>> (nI 20 &&& 31)) σ := by
  refine am_Ev.of (n := 1) rfl rfl rfl rfl ?_
  refine g_iload_n rfl rfl ?_
  refine s_bp (v := nI 20) rfl rfl ?_
  refine g_ishr rfl ?_
  refine g_iret rfl rfl ?_
  exact ⟨rfl, rfl⟩
theorem r_countersOf {xs : List Int32} {σ : wd_S} (x : Int32) : ev xs 99 [.int x] σ (x &&& 1048575) σ := by
  refine am_Ev.of (n := 1) rfl rfl rfl rfl ?_
  refine g_iload_n rfl rfl ?_
  refine g_ldc rfl rfl ?_
  refine g_iand rfl ?_
  refine g_iret rfl rfl ?_
  exact ⟨rfl, rfl⟩
theorem r_part {xs : List Int32} {σ : wd_S} (x y : Int32) : ev xs 100 [.int x, .int y] σ ((x >>> ((nI 3 - y) * nI 10 &&& 31)) &&& nI 1023) σ := by
  refine am_Ev.of (n := 2) rfl rfl rfl rfl ?_
  refine g_iload_n rfl rfl ?_
  refine s_ic (v := nI 3) rfl rfl ?_
  refine g_iload_n rfl rfl ?_
  refine g_isub rfl ?_
  refine s_bp (v := nI 10) rfl rfl ?_
  refine g_imul rfl ?_
  refine g_ishr rfl ?_
  refine s_sp (v := nI 1023) rfl rfl ?_
  refine g_iand rfl ?_
  refine g_iret rfl rfl ?_
  exact ⟨rfl, rfl⟩
theorem r_lastCounter {xs : List Int32} {σ : wd_S} (x y : Int32) : ev xs 101 [.int x, .int y] σ ((x >>> ((nI 3 - (y + nI 1)) * nI 10 &&& 31)) &&& nI 1023) σ := by
  refine am_Ev.of (n := 2) rfl rfl rfl rfl ?_
  refine g_iload_n rfl rfl ?_
  refine g_iload_n rfl rfl ?_
  refine s_ic (v := nI 1) rfl rfl ?_
  refine g_iadd rfl ?_
  refine c_S rfl rfl rfl rfl (r_part _ _) rfl rfl rfl ?_
  refine g_iret rfl rfl ?_
  exact ⟨rfl, rfl⟩
theorem r_oneMore {xs : List Int32} {σ : wd_S} (x : Int32) : ev xs 102 [.int x] σ (nI 1 <<< ((nI 2 - x) * nI 10 &&& 31)) σ := by
  refine am_Ev.of (n := 1) rfl rfl rfl rfl ?_
  refine s_ic (v := nI 1) rfl rfl ?_
  refine s_ic (v := nI 2) rfl rfl ?_
  refine g_iload_n rfl rfl ?_
  refine g_isub rfl ?_
  refine s_bp (v := nI 10) rfl rfl ?_
  refine g_imul rfl ?_
  refine g_ishl rfl ?_
  refine g_iret rfl rfl ?_
  exact ⟨rfl, rfl⟩
theorem r_butLast {xs : List Int32} {σ : wd_S} (x : Int32) : ev xs 103 [.int x] σ ((nI 1023 <<< ((nI 2 - x) * nI 10 &&& 31)) ^^^ (-1)) σ := by
  refine am_Ev.of (n := 1) rfl rfl rfl rfl ?_
  refine s_sp (v := nI 1023) rfl rfl ?_
  refine s_ic (v := nI 2) rfl rfl ?_
  refine g_iload_n rfl rfl ?_
  refine g_isub rfl ?_
  refine s_bp (v := nI 10) rfl rfl ?_
  refine g_imul rfl ?_
  refine g_ishl rfl ?_
  refine s_ic (v := -1) rfl rfl ?_
  refine g_ixor rfl ?_
  refine g_iret rfl rfl ?_
  exact ⟨rfl, rfl⟩
theorem r_hasVertex {xs : List Int32} {σ : wd_S} (x : Int32) : ev xs 21 [.ref 2, .int x] σ (if 0 ≤ x ∧ x < σ 2 2 then nI 1 else nI 0) σ := by
  refine am_Ev.of (n := 2) rfl rfl rfl rfl ?_
  refine g_iload_n rfl rfl ?_
  refine g_if_lt rfl (fun h1 => ?_) (fun h1 => ?_)
  · refine s_ic (v := nI 0) rfl rfl ?_
    refine g_zret rfl rfl (by decide) ?_
    refine ⟨?_, rfl⟩
    split <;> first | rfl | (exfalso; simp only [lt_i, le_i, i0] at *; omega)
  · refine g_iload_n rfl rfl ?_
    refine g_aload_n rfl rfl ?_
    refine g_get rfl rfl wd_G rfl ?_
    refine g_icmp_ge rfl (fun h9 => ?_) (fun h9 => ?_)
    · refine s_ic (v := nI 0) rfl rfl ?_
      refine g_zret rfl rfl (by decide) ?_
      refine ⟨?_, rfl⟩
      split <;> first | rfl | (exfalso; simp only [lt_i, le_i, i0] at *; omega)
    · refine s_ic (v := nI 1) rfl rfl ?_
      refine g_goto rfl ?_
      refine g_zret rfl rfl (by decide) ?_
      refine ⟨?_, rfl⟩
      split <;> first | rfl | (exfalso; simp only [lt_i, le_i, i0] at *; omega)
theorem r_hasEdge {xs : List Int32} {σ : wd_S} (x : Int32) : ev xs 22 [.ref 2, .int x] σ (if 0 ≤ x ∧ x < σ 2 3 then nI 1 else nI 0) σ := by
  refine am_Ev.of (n := 2) rfl rfl rfl rfl ?_
  refine g_iload_n rfl rfl ?_
  refine g_if_lt rfl (fun h1 => ?_) (fun h1 => ?_)
  · refine s_ic (v := nI 0) rfl rfl ?_
    refine g_zret rfl rfl (by decide) ?_
    refine ⟨?_, rfl⟩
    split <;> first | rfl | (exfalso; simp only [lt_i, le_i, i0] at *; omega)
  · refine g_iload_n rfl rfl ?_
    refine g_aload_n rfl rfl ?_
    refine g_get rfl rfl wd_G rfl ?_
    refine g_icmp_ge rfl (fun h9 => ?_) (fun h9 => ?_)
    · refine s_ic (v := nI 0) rfl rfl ?_
      refine g_zret rfl rfl (by decide) ?_
      refine ⟨?_, rfl⟩
      split <;> first | rfl | (exfalso; simp only [lt_i, le_i, i0] at *; omega)
    · refine s_ic (v := nI 1) rfl rfl ?_
      refine g_goto rfl ?_
      refine g_zret rfl rfl (by decide) ?_
      refine ⟨?_, rfl⟩
      split <;> first | rfl | (exfalso; simp only [lt_i, le_i, i0] at *; omega)
theorem r_inDepth {xs : List Int32} {σ : wd_S} {v : Nat} (hv : v < 8) : ev xs 39 [.ref (6 + 3 * v)] σ (if σ (6 + 3 * v) 0 = nI 2 then σ (6 + 3 * v) 1 - nI 1 else σ (6 + 3 * v) 1) σ := by
  refine am_Ev.of (n := 1) rfl rfl rfl rfl ?_
  refine g_aload_n rfl rfl ?_
  refine g_get rfl rfl (wd_V (by omega)) rfl ?_
  refine s_ic (v := nI 2) rfl rfl ?_
  refine g_icmp_ne rfl (fun h5 => ?_) (fun h5 => ?_)
  · refine g_aload_n rfl rfl ?_
    refine g_get rfl rfl (wd_V (by omega)) rfl ?_
    refine g_iret rfl rfl ?_
    exact ⟨by simp_all, rfl⟩
  · refine g_aload_n rfl rfl ?_
    refine g_get rfl rfl (wd_V (by omega)) rfl ?_
    refine s_ic (v := nI 1) rfl rfl ?_
    refine g_isub rfl ?_
    refine g_goto rfl ?_
    refine g_iret rfl rfl ?_
    exact ⟨by simp_all, rfl⟩
theorem r_outDepth {xs : List Int32} {σ : wd_S} {v : Nat} (hv : v < 8) : ev xs 40 [.ref (6 + 3 * v)] σ (if σ (6 + 3 * v) 0 = nI 3 then σ (6 + 3 * v) 1 - nI 1 else σ (6 + 3 * v) 1) σ := by
  refine am_Ev.of (n := 1) rfl rfl rfl rfl ?_
  refine g_aload_n rfl rfl ?_
  refine g_get rfl rfl (wd_V (by omega)) rfl ?_
  refine s_ic (v := nI 3) rfl rfl ?_
  refine g_icmp_ne rfl (fun h5 => ?_) (fun h5 => ?_)
  · refine g_aload_n rfl rfl ?_
    refine g_get rfl rfl (wd_V (by omega)) rfl ?_
    refine g_iret rfl rfl ?_
    exact ⟨by simp_all, rfl⟩
  · refine g_aload_n rfl rfl ?_
    refine g_get rfl rfl (wd_V (by omega)) rfl ?_
    refine s_ic (v := nI 1) rfl rfl ?_
    refine g_isub rfl ?_
    refine g_goto rfl ?_
    refine g_iret rfl rfl ?_
    exact ⟨by simp_all, rfl⟩
theorem r_timeBehind {xs : List Int32} {σ : wd_S} {v : Nat} (hv : v < 8) (t : Int32) : ev xs 41 [.ref (6 + 3 * v), .int t] σ ((t &&& σ (6 + 3 * v) 3) + σ (6 + 3 * v) 4) σ := by
  refine am_Ev.of (n := 2) rfl rfl rfl rfl ?_
  refine g_iload_n rfl rfl ?_
  refine g_aload_n rfl rfl ?_
  refine g_get rfl rfl (wd_V (by omega)) rfl ?_
  refine g_iand rfl ?_
  refine g_aload_n rfl rfl ?_
  refine g_get rfl rfl (wd_V (by omega)) rfl ?_
  refine g_iadd rfl ?_
  refine g_iret rfl rfl ?_
  exact ⟨rfl, rfl⟩
