/-! The class's constructors, the law's beginning. -/
theorem n_g (xs : List Int32) : am_Ev 20 [.ref 2] [.inl (0, xs), .inr (.inr (0, am_df 0)), .inr (.inr (1, am_df 1))] (fun v w' => v = none ∧ w' = gW xs 8 12) := by
  refine am_Ev.of (n := 2) rfl rfl rfl rfl ?_
  refine g_aload_n rfl rfl ?_
  refine g_objI rfl rfl rfl rfl ?_
  refine g_aload_n rfl rfl ?_
  refine s_bp (v := nI 8) rfl rfl ?_
  refine g_newq (N := 8) rfl rfl (by decide) rfl (by decide) ?_
  refine g_putr rfl rfl rfl (by decide) rfl ?_
  refine g_aload_n rfl rfl ?_
  refine s_bp (v := nI 12) rfl rfl ?_
  refine g_newq (N := 12) rfl rfl (by decide) rfl (by decide) ?_
  refine g_putr rfl rfl rfl (by decide) rfl ?_
  refine g_aload_n rfl rfl ?_
  refine s_bp (v := nI 8) rfl rfl ?_
  refine g_newi (N := 8) rfl (by decide) rfl (by decide) ?_
  refine g_putr rfl rfl rfl (by decide) rfl ?_
  have hV : ∀ i, i < 8 → am_G 20 32 [some (.ref 2), some (.int (nI (i + 1)))] [] (gW xs (i + 1) 0) (fun v w' => v = none ∧ w' = gW xs 8 12) → am_G 20 32 [some (.ref 2), some (.int (nI i))] [] (gW xs i 0) (fun v w' => v = none ∧ w' = gW xs 8 12) := by
    intro i hi kk
    obtain ⟨g1, g2, ⟨fs, g3⟩, g4⟩ := gW_V xs i hi
    refine g_iload_n rfl rfl ?_
    refine s_bp (v := nI 8) rfl rfl ?_
    refine g_icmp_ge rfl (fun h => absurd h (nI_ge hi (by omega))) (fun _ => ?_)
    refine g_aload_n rfl rfl ?_
    refine g_get rfl rfl (show (gW xs i 0)[2]? = _ from rfl) rfl ?_
    refine g_iload_n rfl rfl ?_
    refine g_new rfl rfl ?_
    rw [g1]
    refine g_dup rfl rfl ?_
    refine g_callI rfl rfl rfl rfl (n_v (a := 6 + 3 * i) (by omega) ?_) rfl rfl rfl ?_
    · rw [List.getElem?_append_right (by rw [g1]; exact Nat.le_refl _), g1, Nat.sub_self]
      rfl
    rintro _ _ ⟨rfl, rfl⟩
    refine g_aast rfl g2 g3 (by decide) (nI_pos (by omega)) (by rw [nI_clamp (by omega)]; simpa using hi) ?_
    rw [g4]
    refine s_inc rfl rfl (nI_1 _) ?_
    refine g_goto rfl ?_
    exact kk
  have hE : ∀ i, i < 12 → am_G 20 59 [some (.ref 2), some (.int (nI (i + 1)))] [] (gW xs 8 (i + 1)) (fun v w' => v = none ∧ w' = gW xs 8 12) → am_G 20 59 [some (.ref 2), some (.int (nI i))] [] (gW xs 8 i) (fun v w' => v = none ∧ w' = gW xs 8 12) := by
    intro i hi kk
    obtain ⟨g1, g2, ⟨fs, g3⟩, g4⟩ := gW_E xs i hi
    refine g_iload_n rfl rfl ?_
    refine s_bp (v := nI 12) rfl rfl ?_
    refine g_icmp_ge rfl (fun h => absurd h (nI_ge hi (by omega))) (fun _ => ?_)
    refine g_aload_n rfl rfl ?_
    refine g_get rfl rfl (show (gW xs 8 i)[2]? = _ from rfl) rfl ?_
    refine g_iload_n rfl rfl ?_
    refine g_new rfl rfl ?_
    rw [g1]
    refine g_dup rfl rfl ?_
    refine g_callI rfl rfl rfl rfl (n_e (a := 30 + 3 * i) (by omega) ?_) rfl rfl rfl ?_
    · rw [List.getElem?_append_right (by rw [g1]; exact Nat.le_refl _), g1, Nat.sub_self]
      rfl
    rintro _ _ ⟨rfl, rfl⟩
    refine g_aast rfl g2 g3 (by decide) (nI_pos (by omega)) (by rw [nI_clamp (by omega)]; simpa using hi) ?_
    rw [g4]
    refine s_inc rfl rfl (nI_1 _) ?_
    refine g_goto rfl ?_
    exact kk
  refine s_ic (v := nI 0) rfl rfl ?_
  refine g_istore_n rfl (Nat.le_of_ble_eq_true rfl) ?_
  refine hV 0 (by omega) (hV 1 (by omega) (hV 2 (by omega) (hV 3 (by omega) (hV 4 (by omega) (hV 5 (by omega) (hV 6 (by omega) (hV 7 (by omega) ?_)))))))
  refine g_iload_n rfl rfl ?_
  refine s_bp (v := nI 8) rfl rfl ?_
  refine g_icmp_ge rfl (fun _ => ?_) (fun h => absurd (nI_le (Nat.le_refl _) (by omega)) h)
  refine s_ic (v := nI 0) rfl rfl ?_
  refine g_istore_n rfl (Nat.le_of_ble_eq_true rfl) ?_
  refine hE 0 (by omega) (hE 1 (by omega) (hE 2 (by omega) (hE 3 (by omega) (hE 4 (by omega) (hE 5 (by omega) (hE 6 (by omega) (hE 7 (by omega) (hE 8 (by omega) (hE 9 (by omega) (hE 10 (by omega) (hE 11 (by omega) ?_)))))))))))
  refine g_iload_n rfl rfl ?_
  refine s_bp (v := nI 12) rfl rfl ?_
  refine g_icmp_ge rfl (fun _ => ?_) (fun h => absurd (nI_le (Nat.le_refl _) (by omega)) h)
  refine g_vret rfl rfl ?_
  exact ⟨rfl, rfl⟩
/-- the beginning: building, all else 0 -/
def ini0 : wd_S := fun c k => if c = 1 ∧ k = 1 then nI 1 else 0
theorem n_f (xs : List Int32) : am_Ev 0 [.ref 1] [.inl (0, xs), .inr (.inr (0, am_df 0))] (fun v w' => v = none ∧ w' = (wd xs ini0).take 66) := by
  refine am_Ev.of (n := 1) rfl rfl rfl rfl ?_
  refine g_aload_n rfl rfl ?_
  refine g_objI rfl rfl rfl rfl ?_
  refine g_aload_n rfl rfl ?_
  refine g_new rfl rfl ?_
  refine g_dup rfl rfl ?_
  refine g_callI rfl rfl rfl rfl (n_g xs) rfl rfl rfl ?_
  rintro _ _ ⟨rfl, rfl⟩
  refine g_putr rfl rfl (show (gW xs 8 12)[1]? = _ from rfl) (by decide) rfl ?_
  refine g_aload_n rfl rfl ?_
  refine s_ic (v := nI 1) rfl rfl ?_
  refine g_putz rfl rfl rfl (by decide) (by decide) ?_
  refine g_vret rfl rfl ?_
  exact ⟨rfl, rfl⟩
theorem wn_step {w0 l : am_W} {x : am_E} {a ci k n z : Nat} {fs : List Value} (h : w0.length = a) : wn (w0 ++ x :: l) a ci k n z fs = w0 ++ (.inr (.inr (ci, fs.set k (.ref (a + 1 + l.length)))) :: (l ++ ([.inl (z, List.replicate n 0)] : am_W))) := by
  unfold wn
  have e : List.length (w0 ++ x :: l) = a + 1 + l.length := by
    rw [List.length_append, h, List.length_cons]
    omega
  rw [e, List.append_assoc, List.set_append_right _ _ (by omega), h, Nat.sub_self]
  rfl
theorem fn_step {w0 l : am_W} {x : am_E} {a k : Nat} {fs : List Value} (h : w0.length = a) : fn (w0 ++ x :: l) k fs = fs.set k (.ref (a + 1 + l.length)) := by
  unfold fn
  have e : List.length (w0 ++ x :: l) = a + 1 + l.length := by
    rw [List.length_append, h, List.length_cons]
    omega
  rw [e]
/-- the arrays, one behind the other -/
def ml (a ci : Nat) : List (Nat × Nat × Nat) → List Value → am_W → am_W
  | [], fs, l => .inr (.inr (ci, fs)) :: l
  | (k, n, z) :: r, fs, l => ml a ci r (fs.set k (.ref (a + 1 + l.length))) (l ++ ([.inl (z, List.replicate n 0)] : am_W))
theorem wl_ml {w0 : am_W} {a ci : Nat} (h : w0.length = a) : ∀ (r : List (Nat × Nat × Nat)) (fs : List Value) (l : am_W), wl a ci r (w0 ++ (.inr (.inr (ci, fs)) :: l)) fs = w0 ++ ml a ci r fs l
  | [], fs, l => rfl
  | (k, n, z) :: r, fs, l => by
    show wl a ci r (wn (w0 ++ (.inr (.inr (ci, fs)) :: l)) a ci k n z fs) (fn (w0 ++ (.inr (.inr (ci, fs)) :: l)) k fs) = _
    rw [wn_step h, fn_step h]
    exact wl_ml h r _ _
theorem lf_0 {n : Nat} {r : Nat → Int32} (h : ∀ k, r k = 0) : lf n r = List.replicate n 0 := by
  unfold lf
  refine List.ext_getElem? fun j => ?_
  by_cases hj : j < n
  · simp [hj, h]
  · simp [hj]
theorem ml_M (xs : List Int32) : ml 66 4 [(2, 8, 0), (3, 8, 0), (4, 8, 0), (5, 8, 0), (6, 8, 1), (7, 8, 0), (9, 12, 0), (10, 12, 0), (11, 12, 0), (12, 72, 0), (13, 216, 0), (15, 32, 0), (16, 96, 0), (17, 32, 0), (24, 20, 1), (25, 20, 0), (26, 20, 0)] (am_df 4) [] = (wd xs ini0).drop 66 := by
  have e : (wd xs ini0).drop 66 = [fl 66 (ini0 66), fl 67 (ini0 67), fl 68 (ini0 68), fl 69 (ini0 69), fl 70 (ini0 70), fl 71 (ini0 71), fl 72 (ini0 72), fl 73 (ini0 73), fl 74 (ini0 74), fl 75 (ini0 75), fl 76 (ini0 76), fl 77 (ini0 77), fl 78 (ini0 78), fl 79 (ini0 79), fl 80 (ini0 80), fl 81 (ini0 81), fl 82 (ini0 82), fl 83 (ini0 83)] := rfl
  have r0 : ∀ c, c ≠ 1 → ∀ k, ini0 c k = 0 := fun c hc k => if_neg fun z => hc z.1
  have h76 : fl 76 (ini0 76) = .inl (0, List.replicate 72 0) := by
    show (.inl (0, lf 72 (ini0 76)) : am_E) = _
    rw [lf_0 (r0 76 (by omega))]
  have h77 : fl 77 (ini0 77) = .inl (0, List.replicate 216 0) := by
    show (.inl (0, lf 216 (ini0 77)) : am_E) = _
    rw [lf_0 (r0 77 (by omega))]
  have h78 : fl 78 (ini0 78) = .inl (0, List.replicate 32 0) := by
    show (.inl (0, lf 32 (ini0 78)) : am_E) = _
    rw [lf_0 (r0 78 (by omega))]
  have h79 : fl 79 (ini0 79) = .inl (0, List.replicate 96 0) := by
    show (.inl (0, lf 96 (ini0 79)) : am_E) = _
    rw [lf_0 (r0 79 (by omega))]
  have h80 : fl 80 (ini0 80) = .inl (0, List.replicate 32 0) := by
    show (.inl (0, lf 32 (ini0 80)) : am_E) = _
    rw [lf_0 (r0 80 (by omega))]
  rw [e, h76, h77, h78, h79, h80]
  rfl
theorem n_law {xs : List Int32} {P : Option Value → am_W → Prop} (kk : am_G 104 18 [some (.ref 0), some (.ref 1), some (.ref 66), some (.int (nI 0))] [] (wd xs ini0) P) : am_G 104 0 [some (.ref 0), none, none, none] [] [.inl (0, xs)] P := by
  refine g_new rfl rfl ?_
  refine g_dup rfl rfl ?_
  refine g_callI rfl rfl rfl rfl (n_f xs) rfl rfl rfl ?_
  rintro _ _ ⟨rfl, rfl⟩
  refine g_astore_n rfl (Nat.le_of_ble_eq_true rfl) ?_
  refine g_new rfl rfl ?_
  have hl : ((wd xs ini0).take 66).length = 66 := rfl
  rw [hl]
  refine g_dup rfl rfl ?_
  refine g_callI rfl rfl rfl rfl (n_m (a := 66) (by omega) (by rw [List.getElem?_append_right (by rw [hl]; exact Nat.le_refl _), hl]; rfl)) rfl rfl rfl ?_
  intro v w' h
  have h1 : v = none := h.1
  have h2 : w' = wl 66 4 [(2, 8, 0), (3, 8, 0), (4, 8, 0), (5, 8, 0), (6, 8, 1), (7, 8, 0), (9, 12, 0), (10, 12, 0), (11, 12, 0), (12, 72, 0), (13, 216, 0), (15, 32, 0), (16, 96, 0), (17, 32, 0), (24, 20, 1), (25, 20, 0), (26, 20, 0)] ((wd xs ini0).take 66 ++ (.inr (.inr (4, am_df 4)) :: ([] : am_W))) (am_df 4) := h.2
  rw [wl_ml hl, ml_M xs, List.take_append_drop] at h2
  rw [h1, h2]
  refine g_astore_n rfl (Nat.le_of_ble_eq_true rfl) ?_
  refine s_ic (v := nI 0) rfl rfl ?_
  refine g_istore_n rfl (Nat.le_of_ble_eq_true rfl) ?_
  exact kk
