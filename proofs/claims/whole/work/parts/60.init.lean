/-! The constructors. -/
theorem ap_at {w l : am_W} {a : Nat} {x : am_E} (h : w[a]? = some x) : (w ++ l)[a]? = some x := by
  have ha : a < w.length := by
    rcases Nat.lt_or_ge a w.length with z | z
    · exact z
    · rw [List.getElem?_eq_none z] at h
      cases h
  rw [List.getElem?_append_left ha, h]
theorem st_at {w : am_W} {a : Nat} {x y : am_E} (h : w[a]? = some x) : (w.set a y)[a]? = some y := by
  have ha : a < w.length := by
    rcases Nat.lt_or_ge a w.length with z | z
    · exact z
    · rw [List.getElem?_eq_none z] at h
      cases h
  rw [List.getElem?_set, if_pos rfl, if_pos ha]
def wn (w : am_W) (a ci k n : Nat) (z : Nat) (fs : List Value) : am_W := List.set (α := am_E) (w ++ ([.inl (z, List.replicate n 0)] : am_W)) a (.inr (.inr (ci, fs.set k (.ref (List.length w)))))
def fn (w : am_W) (k : Nat) (fs : List Value) : List Value := fs.set k (.ref (List.length w))
theorem wn_at {w : am_W} {a ci k n z : Nat} {fs : List Value} (h : w[a]? = some (.inr (.inr (ci, fs)))) : (wn w a ci k n z fs)[a]? = some (.inr (.inr (ci, fn w k fs))) := st_at (ap_at h)
def wl (a ci : Nat) : List (Nat × Nat × Nat) → am_W → List Value → am_W
  | [], w, _ => w
  | (k, n, z) :: l, w, fs => wl a ci l (wn w a ci k n z fs) (fn w k fs)
theorem n_v {w : am_W} {a : Nat} (ha : a ≠ 0) (h0 : w[a]? = some (.inr (.inr (2, am_df 2)))) : am_Ev 37 [.ref a] w (fun v w' => v = none ∧ w' = wl a 2 [(10, 4, 0), (11, 4, 0)] w (am_df 2)) := by
  refine am_Ev.of (n := 1) rfl rfl rfl rfl ?_
  refine g_aload_n rfl rfl ?_
  refine g_objI rfl rfl rfl rfl ?_
  refine g_aload_n rfl rfl ?_
  refine s_ic (v := nI 4) rfl rfl ?_
  refine g_newi (N := 4) rfl (by decide) rfl (by decide) ?_
  refine g_putr rfl rfl (ap_at h0) ha rfl ?_
  have h1 := wn_at (k := 10) (n := 4) (z := 0) h0
  refine g_aload_n rfl rfl ?_
  refine s_ic (v := nI 4) rfl rfl ?_
  refine g_newi (N := 4) rfl (by decide) rfl (by decide) ?_
  refine g_putr rfl rfl (ap_at h1) ha rfl ?_
  have h2 := wn_at (k := 11) (n := 4) (z := 0) h1
  refine g_vret rfl rfl ?_
  exact ⟨rfl, rfl⟩
theorem n_e {w : am_W} {a : Nat} (ha : a ≠ 0) (h0 : w[a]? = some (.inr (.inr (3, am_df 3)))) : am_Ev 49 [.ref a] w (fun v w' => v = none ∧ w' = wl a 3 [(3, 6, 0), (4, 6, 0)] w (am_df 3)) := by
  refine am_Ev.of (n := 1) rfl rfl rfl rfl ?_
  refine g_aload_n rfl rfl ?_
  refine g_objI rfl rfl rfl rfl ?_
  refine g_aload_n rfl rfl ?_
  refine s_bp (v := nI 6) rfl rfl ?_
  refine g_newi (N := 6) rfl (by decide) rfl (by decide) ?_
  refine g_putr rfl rfl (ap_at h0) ha rfl ?_
  have h1 := wn_at (k := 3) (n := 6) (z := 0) h0
  refine g_aload_n rfl rfl ?_
  refine s_bp (v := nI 6) rfl rfl ?_
  refine g_newi (N := 6) rfl (by decide) rfl (by decide) ?_
  refine g_putr rfl rfl (ap_at h1) ha rfl ?_
  have h2 := wn_at (k := 4) (n := 6) (z := 0) h1
  refine g_vret rfl rfl ?_
  exact ⟨rfl, rfl⟩
theorem n_m {w : am_W} {a : Nat} (ha : a ≠ 0) (h0 : w[a]? = some (.inr (.inr (4, am_df 4)))) : am_Ev 54 [.ref a] w (fun v w' => v = none ∧ w' = wl a 4 [(2, 8, 0), (3, 8, 0), (4, 8, 0), (5, 8, 0), (6, 8, 1), (7, 8, 0), (9, 12, 0), (10, 12, 0), (11, 12, 0), (12, 72, 0), (13, 216, 0), (15, 32, 0), (16, 96, 0), (17, 32, 0), (24, 20, 1), (25, 20, 0), (26, 20, 0)] w (am_df 4)) := by
  refine am_Ev.of (n := 1) rfl rfl rfl rfl ?_
  refine g_aload_n rfl rfl ?_
  refine g_objI rfl rfl rfl rfl ?_
  refine g_aload_n rfl rfl ?_
  refine s_bp (v := nI 8) rfl rfl ?_
  refine g_newi (N := 8) rfl (by decide) rfl (by decide) ?_
  refine g_putr rfl rfl (ap_at h0) ha rfl ?_
  have h1 := wn_at (k := 2) (n := 8) (z := 0) h0
  refine g_aload_n rfl rfl ?_
  refine s_bp (v := nI 8) rfl rfl ?_
  refine g_newi (N := 8) rfl (by decide) rfl (by decide) ?_
  refine g_putr rfl rfl (ap_at h1) ha rfl ?_
  have h2 := wn_at (k := 3) (n := 8) (z := 0) h1
  refine g_aload_n rfl rfl ?_
  refine s_bp (v := nI 8) rfl rfl ?_
  refine g_newi (N := 8) rfl (by decide) rfl (by decide) ?_
  refine g_putr rfl rfl (ap_at h2) ha rfl ?_
  have h3 := wn_at (k := 4) (n := 8) (z := 0) h2
  refine g_aload_n rfl rfl ?_
  refine s_bp (v := nI 8) rfl rfl ?_
  refine g_newi (N := 8) rfl (by decide) rfl (by decide) ?_
  refine g_putr rfl rfl (ap_at h3) ha rfl ?_
  have h4 := wn_at (k := 5) (n := 8) (z := 0) h3
  refine g_aload_n rfl rfl ?_
  refine s_bp (v := nI 8) rfl rfl ?_
  refine g_newz (N := 8) rfl (by decide) rfl (by decide) ?_
  refine g_putr rfl rfl (ap_at h4) ha rfl ?_
  have h5 := wn_at (k := 6) (n := 8) (z := 1) h4
  refine g_aload_n rfl rfl ?_
  refine s_bp (v := nI 8) rfl rfl ?_
  refine g_newi (N := 8) rfl (by decide) rfl (by decide) ?_
  refine g_putr rfl rfl (ap_at h5) ha rfl ?_
  have h6 := wn_at (k := 7) (n := 8) (z := 0) h5
  refine g_aload_n rfl rfl ?_
  refine s_bp (v := nI 12) rfl rfl ?_
  refine g_newi (N := 12) rfl (by decide) rfl (by decide) ?_
  refine g_putr rfl rfl (ap_at h6) ha rfl ?_
  have h7 := wn_at (k := 9) (n := 12) (z := 0) h6
  refine g_aload_n rfl rfl ?_
  refine s_bp (v := nI 12) rfl rfl ?_
  refine g_newi (N := 12) rfl (by decide) rfl (by decide) ?_
  refine g_putr rfl rfl (ap_at h7) ha rfl ?_
  have h8 := wn_at (k := 10) (n := 12) (z := 0) h7
  refine g_aload_n rfl rfl ?_
  refine s_bp (v := nI 12) rfl rfl ?_
  refine g_newi (N := 12) rfl (by decide) rfl (by decide) ?_
  refine g_putr rfl rfl (ap_at h8) ha rfl ?_
  have h9 := wn_at (k := 11) (n := 12) (z := 0) h8
  refine g_aload_n rfl rfl ?_
  refine s_bp (v := nI 72) rfl rfl ?_
  refine g_newi (N := 72) rfl (by decide) rfl (by decide) ?_
  refine g_putr rfl rfl (ap_at h9) ha rfl ?_
  have h10 := wn_at (k := 12) (n := 72) (z := 0) h9
  refine g_aload_n rfl rfl ?_
  refine s_sp (v := nI 216) rfl rfl ?_
  refine g_newi (N := 216) rfl (by decide) rfl (by decide) ?_
  refine g_putr rfl rfl (ap_at h10) ha rfl ?_
  have h11 := wn_at (k := 13) (n := 216) (z := 0) h10
  refine g_aload_n rfl rfl ?_
  refine s_bp (v := nI 32) rfl rfl ?_
  refine g_newi (N := 32) rfl (by decide) rfl (by decide) ?_
  refine g_putr rfl rfl (ap_at h11) ha rfl ?_
  have h12 := wn_at (k := 15) (n := 32) (z := 0) h11
  refine g_aload_n rfl rfl ?_
  refine s_bp (v := nI 96) rfl rfl ?_
  refine g_newi (N := 96) rfl (by decide) rfl (by decide) ?_
  refine g_putr rfl rfl (ap_at h12) ha rfl ?_
  have h13 := wn_at (k := 16) (n := 96) (z := 0) h12
  refine g_aload_n rfl rfl ?_
  refine s_bp (v := nI 32) rfl rfl ?_
  refine g_newi (N := 32) rfl (by decide) rfl (by decide) ?_
  refine g_putr rfl rfl (ap_at h13) ha rfl ?_
  have h14 := wn_at (k := 17) (n := 32) (z := 0) h13
  refine g_aload_n rfl rfl ?_
  refine s_bp (v := nI 20) rfl rfl ?_
  refine g_newz (N := 20) rfl (by decide) rfl (by decide) ?_
  refine g_putr rfl rfl (ap_at h14) ha rfl ?_
  have h15 := wn_at (k := 24) (n := 20) (z := 1) h14
  refine g_aload_n rfl rfl ?_
  refine s_bp (v := nI 20) rfl rfl ?_
  refine g_newi (N := 20) rfl (by decide) rfl (by decide) ?_
  refine g_putr rfl rfl (ap_at h15) ha rfl ?_
  have h16 := wn_at (k := 25) (n := 20) (z := 0) h15
  refine g_aload_n rfl rfl ?_
  refine s_bp (v := nI 20) rfl rfl ?_
  refine g_newi (N := 20) rfl (by decide) rfl (by decide) ?_
  refine g_putr rfl rfl (ap_at h16) ha rfl ?_
  have h17 := wn_at (k := 26) (n := 20) (z := 0) h16
  refine g_vret rfl rfl ?_
  exact ⟨rfl, rfl⟩
def ini : Nat → Int32 := fun _ => 0
def gW (xs : List Int32) (i k : Nat) : am_W := [.inl (0, xs), .inr (.inr (0, am_df 0)), .inr (.inr (1, [.ref 3, .ref 4, .int 0, .int 0, .ref 5])), .inr (.inl (2, (List.range 8).map fun v => if v < i then .ref (6 + 3 * v) else .null)), .inr (.inl (3, (List.range 12).map fun e => if e < k then .ref (30 + 3 * e) else .null)), .inl (0, List.replicate 8 0)] ++ (List.range (3 * i + 3 * k)).map fun j => fl (6 + j) ini
theorem gW_V (xs : List Int32) : ∀ i, i < 8 → (gW xs i 0).length = 6 + 3 * i ∧ (wl (6 + 3 * i) 2 [(10, 4, 0), (11, 4, 0)] (gW xs i 0 ++ ([.inr (.inr (2, am_df 2))] : am_W)) (am_df 2))[3]? = some (.inr (.inl (2, (List.range 8).map fun v => if v < i then .ref (6 + 3 * v) else .null))) ∧ (∃ fs, (wl (6 + 3 * i) 2 [(10, 4, 0), (11, 4, 0)] (gW xs i 0 ++ ([.inr (.inr (2, am_df 2))] : am_W)) (am_df 2))[6 + 3 * i]? = some (.inr (.inr (2, fs)))) ∧ List.set (α := am_E) (wl (6 + 3 * i) 2 [(10, 4, 0), (11, 4, 0)] (gW xs i 0 ++ ([.inr (.inr (2, am_df 2))] : am_W)) (am_df 2)) 3 (.inr (.inl (2, ((List.range 8).map fun v => if v < i then Value.ref (6 + 3 * v) else .null).set (nI i).toNatClampNeg (.ref (6 + 3 * i))))) = gW xs (i + 1) 0 := by
  intro i hi
  match i, hi with
  | 0, _ => exact ⟨rfl, rfl, ⟨_, rfl⟩, rfl⟩
  | 1, _ => exact ⟨rfl, rfl, ⟨_, rfl⟩, rfl⟩
  | 2, _ => exact ⟨rfl, rfl, ⟨_, rfl⟩, rfl⟩
  | 3, _ => exact ⟨rfl, rfl, ⟨_, rfl⟩, rfl⟩
  | 4, _ => exact ⟨rfl, rfl, ⟨_, rfl⟩, rfl⟩
  | 5, _ => exact ⟨rfl, rfl, ⟨_, rfl⟩, rfl⟩
  | 6, _ => exact ⟨rfl, rfl, ⟨_, rfl⟩, rfl⟩
  | 7, _ => exact ⟨rfl, rfl, ⟨_, rfl⟩, rfl⟩
theorem gW_E (xs : List Int32) : ∀ i, i < 12 → (gW xs 8 i).length = 30 + 3 * i ∧ (wl (30 + 3 * i) 3 [(3, 6, 0), (4, 6, 0)] (gW xs 8 i ++ ([.inr (.inr (3, am_df 3))] : am_W)) (am_df 3))[4]? = some (.inr (.inl (3, (List.range 12).map fun v => if v < i then .ref (30 + 3 * v) else .null))) ∧ (∃ fs, (wl (30 + 3 * i) 3 [(3, 6, 0), (4, 6, 0)] (gW xs 8 i ++ ([.inr (.inr (3, am_df 3))] : am_W)) (am_df 3))[30 + 3 * i]? = some (.inr (.inr (3, fs)))) ∧ List.set (α := am_E) (wl (30 + 3 * i) 3 [(3, 6, 0), (4, 6, 0)] (gW xs 8 i ++ ([.inr (.inr (3, am_df 3))] : am_W)) (am_df 3)) 4 (.inr (.inl (3, ((List.range 12).map fun v => if v < i then Value.ref (30 + 3 * v) else .null).set (nI i).toNatClampNeg (.ref (30 + 3 * i))))) = gW xs 8 (i + 1) := by
  intro i hi
  match i, hi with
  | 0, _ => exact ⟨rfl, rfl, ⟨_, rfl⟩, rfl⟩
  | 1, _ => exact ⟨rfl, rfl, ⟨_, rfl⟩, rfl⟩
  | 2, _ => exact ⟨rfl, rfl, ⟨_, rfl⟩, rfl⟩
  | 3, _ => exact ⟨rfl, rfl, ⟨_, rfl⟩, rfl⟩
  | 4, _ => exact ⟨rfl, rfl, ⟨_, rfl⟩, rfl⟩
  | 5, _ => exact ⟨rfl, rfl, ⟨_, rfl⟩, rfl⟩
  | 6, _ => exact ⟨rfl, rfl, ⟨_, rfl⟩, rfl⟩
  | 7, _ => exact ⟨rfl, rfl, ⟨_, rfl⟩, rfl⟩
  | 8, _ => exact ⟨rfl, rfl, ⟨_, rfl⟩, rfl⟩
  | 9, _ => exact ⟨rfl, rfl, ⟨_, rfl⟩, rfl⟩
  | 10, _ => exact ⟨rfl, rfl, ⟨_, rfl⟩, rfl⟩
  | 11, _ => exact ⟨rfl, rfl, ⟨_, rfl⟩, rfl⟩
