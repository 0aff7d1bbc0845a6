/-! Vertices. -/
def beF (σ : wd_S) (v : Nat) (k d w : Int32) : wd_S := u2 (u2 (u2 (u2 (u2 (u2 σ (6 + 3 * v) 0 k) (6 + 3 * v) 1 d) (6 + 3 * v) 2 (if k = nI 1 then w else nI 0)) (6 + 3 * v) 3 (if k = nI 3 then (nI 1023 <<< ((nI 2 - d) * nI 10 &&& 31)) ^^^ (-1) else -1)) (6 + 3 * v) 4 (if k = nI 4 then nI 1 <<< ((nI 2 - d) * nI 10 &&& 31) else nI 0)) (6 + 3 * v) 8 (if k = nI 0 then nI 1 else nI 0)
theorem r_become {xs : List Int32} {σ : wd_S} {v : Nat} (hv : v < 8) (k d w : Int32) : evv xs 38 [.ref (6 + 3 * v), .int k, .int d, .int w] σ (beF σ v k d w) := by
  refine am_Ev.of (n := 4) rfl rfl rfl rfl ?_
  refine g_aload_n rfl rfl ?_
  refine g_iload_n rfl rfl ?_
  refine s_putV (by omega) rfl rfl (by decide) ?_
  refine g_aload_n rfl rfl ?_
  refine g_iload_n rfl rfl ?_
  refine s_putV (by omega) rfl rfl (by decide) ?_
  refine g_aload_n rfl rfl ?_
  refine g_iload_n rfl rfl ?_
  refine s_ic (v := nI 1) rfl rfl ?_
  refine g_icmp_ne rfl (fun h13 => ?_) (fun h13 => ?_)
  · refine s_ic (v := nI 0) rfl rfl ?_
    refine s_putV (by omega) rfl rfl (by decide) ?_
    refine g_aload_n rfl rfl ?_
    refine g_iload_n rfl rfl ?_
    refine s_ic (v := nI 3) rfl rfl ?_
    refine g_icmp_ne rfl (fun h27 => ?_) (fun h27 => ?_)
    · refine s_ic (v := -1) rfl rfl ?_
      refine s_putV (by omega) rfl rfl (by decide) ?_
      refine g_aload_n rfl rfl ?_
      refine g_iload_n rfl rfl ?_
      refine s_ic (v := nI 4) rfl rfl ?_
      refine g_icmp_ne rfl (fun h44 => ?_) (fun h44 => ?_)
      · refine s_ic (v := nI 0) rfl rfl ?_
        refine s_putV (by omega) rfl rfl (by decide) ?_
        refine g_aload_n rfl rfl ?_
        refine g_iload_n rfl rfl ?_
        refine g_if_ne rfl (fun h60 => ?_) (fun h60 => ?_)
        · refine s_ic (v := nI 0) rfl rfl ?_
          refine s_putzV (by omega) rfl rfl (by decide) ?_
          refine g_vret rfl rfl ?_
          refine ⟨rfl, ?_⟩
          unfold beF
          rw [nI_0]
          (first | rw [if_pos h13] | rw [if_neg h13]); (first | rw [if_pos h27] | rw [if_neg h27]); (first | rw [if_pos h44] | rw [if_neg h44]); (first | rw [if_pos h60] | rw [if_neg h60])
        · refine s_ic (v := nI 1) rfl rfl ?_
          refine g_goto rfl ?_
          refine s_putzV (by omega) rfl rfl (by decide) ?_
          refine g_vret rfl rfl ?_
          refine ⟨rfl, ?_⟩
          unfold beF
          rw [nI_0]
          (first | rw [if_pos h13] | rw [if_neg h13]); (first | rw [if_pos h27] | rw [if_neg h27]); (first | rw [if_pos h44] | rw [if_neg h44]); (first | rw [if_pos h60] | rw [if_neg h60])
      · refine g_iload_n rfl rfl ?_
        refine c_S rfl rfl rfl rfl (r_oneMore _) rfl rfl rfl ?_
        refine g_goto rfl ?_
        refine s_putV (by omega) rfl rfl (by decide) ?_
        refine g_aload_n rfl rfl ?_
        refine g_iload_n rfl rfl ?_
        refine g_if_ne rfl (fun h60 => ?_) (fun h60 => ?_)
        · refine s_ic (v := nI 0) rfl rfl ?_
          refine s_putzV (by omega) rfl rfl (by decide) ?_
          refine g_vret rfl rfl ?_
          refine ⟨rfl, ?_⟩
          unfold beF
          rw [nI_0]
          (first | rw [if_pos h13] | rw [if_neg h13]); (first | rw [if_pos h27] | rw [if_neg h27]); (first | rw [if_pos h44] | rw [if_neg h44]); (first | rw [if_pos h60] | rw [if_neg h60])
        · refine s_ic (v := nI 1) rfl rfl ?_
          refine g_goto rfl ?_
          refine s_putzV (by omega) rfl rfl (by decide) ?_
          refine g_vret rfl rfl ?_
          refine ⟨rfl, ?_⟩
          unfold beF
          rw [nI_0]
          (first | rw [if_pos h13] | rw [if_neg h13]); (first | rw [if_pos h27] | rw [if_neg h27]); (first | rw [if_pos h44] | rw [if_neg h44]); (first | rw [if_pos h60] | rw [if_neg h60])
    · refine g_iload_n rfl rfl ?_
      refine c_S rfl rfl rfl rfl (r_butLast _) rfl rfl rfl ?_
      refine g_goto rfl ?_
      refine s_putV (by omega) rfl rfl (by decide) ?_
      refine g_aload_n rfl rfl ?_
      refine g_iload_n rfl rfl ?_
      refine s_ic (v := nI 4) rfl rfl ?_
      refine g_icmp_ne rfl (fun h44 => ?_) (fun h44 => ?_)
      · refine s_ic (v := nI 0) rfl rfl ?_
        refine s_putV (by omega) rfl rfl (by decide) ?_
        refine g_aload_n rfl rfl ?_
        refine g_iload_n rfl rfl ?_
        refine g_if_ne rfl (fun h60 => ?_) (fun h60 => ?_)
        · refine s_ic (v := nI 0) rfl rfl ?_
          refine s_putzV (by omega) rfl rfl (by decide) ?_
          refine g_vret rfl rfl ?_
          refine ⟨rfl, ?_⟩
          unfold beF
          rw [nI_0]
          (first | rw [if_pos h13] | rw [if_neg h13]); (first | rw [if_pos h27] | rw [if_neg h27]); (first | rw [if_pos h44] | rw [if_neg h44]); (first | rw [if_pos h60] | rw [if_neg h60])
        · refine s_ic (v := nI 1) rfl rfl ?_
          refine g_goto rfl ?_
          refine s_putzV (by omega) rfl rfl (by decide) ?_
          refine g_vret rfl rfl ?_
          refine ⟨rfl, ?_⟩
          unfold beF
          rw [nI_0]
          (first | rw [if_pos h13] | rw [if_neg h13]); (first | rw [if_pos h27] | rw [if_neg h27]); (first | rw [if_pos h44] | rw [if_neg h44]); (first | rw [if_pos h60] | rw [if_neg h60])
      · refine g_iload_n rfl rfl ?_
        refine c_S rfl rfl rfl rfl (r_oneMore _) rfl rfl rfl ?_
        refine g_goto rfl ?_
        refine s_putV (by omega) rfl rfl (by decide) ?_
        refine g_aload_n rfl rfl ?_
        refine g_iload_n rfl rfl ?_
        refine g_if_ne rfl (fun h60 => ?_) (fun h60 => ?_)
        · refine s_ic (v := nI 0) rfl rfl ?_
          refine s_putzV (by omega) rfl rfl (by decide) ?_
          refine g_vret rfl rfl ?_
          refine ⟨rfl, ?_⟩
          unfold beF
          rw [nI_0]
          (first | rw [if_pos h13] | rw [if_neg h13]); (first | rw [if_pos h27] | rw [if_neg h27]); (first | rw [if_pos h44] | rw [if_neg h44]); (first | rw [if_pos h60] | rw [if_neg h60])
        · refine s_ic (v := nI 1) rfl rfl ?_
          refine g_goto rfl ?_
          refine s_putzV (by omega) rfl rfl (by decide) ?_
          refine g_vret rfl rfl ?_
          refine ⟨rfl, ?_⟩
          unfold beF
          rw [nI_0]
          (first | rw [if_pos h13] | rw [if_neg h13]); (first | rw [if_pos h27] | rw [if_neg h27]); (first | rw [if_pos h44] | rw [if_neg h44]); (first | rw [if_pos h60] | rw [if_neg h60])
  · refine g_iload_n rfl rfl ?_
    refine g_goto rfl ?_
    refine s_putV (by omega) rfl rfl (by decide) ?_
    refine g_aload_n rfl rfl ?_
    refine g_iload_n rfl rfl ?_
    refine s_ic (v := nI 3) rfl rfl ?_
    refine g_icmp_ne rfl (fun h27 => ?_) (fun h27 => ?_)
    · refine s_ic (v := -1) rfl rfl ?_
      refine s_putV (by omega) rfl rfl (by decide) ?_
      refine g_aload_n rfl rfl ?_
      refine g_iload_n rfl rfl ?_
      refine s_ic (v := nI 4) rfl rfl ?_
      refine g_icmp_ne rfl (fun h44 => ?_) (fun h44 => ?_)
      · refine s_ic (v := nI 0) rfl rfl ?_
        refine s_putV (by omega) rfl rfl (by decide) ?_
        refine g_aload_n rfl rfl ?_
        refine g_iload_n rfl rfl ?_
        refine g_if_ne rfl (fun h60 => ?_) (fun h60 => ?_)
        · refine s_ic (v := nI 0) rfl rfl ?_
          refine s_putzV (by omega) rfl rfl (by decide) ?_
          refine g_vret rfl rfl ?_
          refine ⟨rfl, ?_⟩
          unfold beF
          rw [nI_0]
          (first | rw [if_pos h13] | rw [if_neg h13]); (first | rw [if_pos h27] | rw [if_neg h27]); (first | rw [if_pos h44] | rw [if_neg h44]); (first | rw [if_pos h60] | rw [if_neg h60])
        · refine s_ic (v := nI 1) rfl rfl ?_
          refine g_goto rfl ?_
          refine s_putzV (by omega) rfl rfl (by decide) ?_
          refine g_vret rfl rfl ?_
          refine ⟨rfl, ?_⟩
          unfold beF
          rw [nI_0]
          (first | rw [if_pos h13] | rw [if_neg h13]); (first | rw [if_pos h27] | rw [if_neg h27]); (first | rw [if_pos h44] | rw [if_neg h44]); (first | rw [if_pos h60] | rw [if_neg h60])
      · refine g_iload_n rfl rfl ?_
        refine c_S rfl rfl rfl rfl (r_oneMore _) rfl rfl rfl ?_
        refine g_goto rfl ?_
        refine s_putV (by omega) rfl rfl (by decide) ?_
        refine g_aload_n rfl rfl ?_
        refine g_iload_n rfl rfl ?_
        refine g_if_ne rfl (fun h60 => ?_) (fun h60 => ?_)
        · refine s_ic (v := nI 0) rfl rfl ?_
          refine s_putzV (by omega) rfl rfl (by decide) ?_
          refine g_vret rfl rfl ?_
          refine ⟨rfl, ?_⟩
          unfold beF
          rw [nI_0]
          (first | rw [if_pos h13] | rw [if_neg h13]); (first | rw [if_pos h27] | rw [if_neg h27]); (first | rw [if_pos h44] | rw [if_neg h44]); (first | rw [if_pos h60] | rw [if_neg h60])
        · refine s_ic (v := nI 1) rfl rfl ?_
          refine g_goto rfl ?_
          refine s_putzV (by omega) rfl rfl (by decide) ?_
          refine g_vret rfl rfl ?_
          refine ⟨rfl, ?_⟩
          unfold beF
          rw [nI_0]
          (first | rw [if_pos h13] | rw [if_neg h13]); (first | rw [if_pos h27] | rw [if_neg h27]); (first | rw [if_pos h44] | rw [if_neg h44]); (first | rw [if_pos h60] | rw [if_neg h60])
    · refine g_iload_n rfl rfl ?_
      refine c_S rfl rfl rfl rfl (r_butLast _) rfl rfl rfl ?_
      refine g_goto rfl ?_
      refine s_putV (by omega) rfl rfl (by decide) ?_
      refine g_aload_n rfl rfl ?_
      refine g_iload_n rfl rfl ?_
      refine s_ic (v := nI 4) rfl rfl ?_
      refine g_icmp_ne rfl (fun h44 => ?_) (fun h44 => ?_)
      · refine s_ic (v := nI 0) rfl rfl ?_
        refine s_putV (by omega) rfl rfl (by decide) ?_
        refine g_aload_n rfl rfl ?_
        refine g_iload_n rfl rfl ?_
        refine g_if_ne rfl (fun h60 => ?_) (fun h60 => ?_)
        · refine s_ic (v := nI 0) rfl rfl ?_
          refine s_putzV (by omega) rfl rfl (by decide) ?_
          refine g_vret rfl rfl ?_
          refine ⟨rfl, ?_⟩
          unfold beF
          rw [nI_0]
          (first | rw [if_pos h13] | rw [if_neg h13]); (first | rw [if_pos h27] | rw [if_neg h27]); (first | rw [if_pos h44] | rw [if_neg h44]); (first | rw [if_pos h60] | rw [if_neg h60])
        · refine s_ic (v := nI 1) rfl rfl ?_
          refine g_goto rfl ?_
          refine s_putzV (by omega) rfl rfl (by decide) ?_
          refine g_vret rfl rfl ?_
          refine ⟨rfl, ?_⟩
          unfold beF
          rw [nI_0]
          (first | rw [if_pos h13] | rw [if_neg h13]); (first | rw [if_pos h27] | rw [if_neg h27]); (first | rw [if_pos h44] | rw [if_neg h44]); (first | rw [if_pos h60] | rw [if_neg h60])
      · refine g_iload_n rfl rfl ?_
        refine c_S rfl rfl rfl rfl (r_oneMore _) rfl rfl rfl ?_
        refine g_goto rfl ?_
        refine s_putV (by omega) rfl rfl (by decide) ?_
        refine g_aload_n rfl rfl ?_
        refine g_iload_n rfl rfl ?_
        refine g_if_ne rfl (fun h60 => ?_) (fun h60 => ?_)
        · refine s_ic (v := nI 0) rfl rfl ?_
          refine s_putzV (by omega) rfl rfl (by decide) ?_
          refine g_vret rfl rfl ?_
          refine ⟨rfl, ?_⟩
          unfold beF
          rw [nI_0]
          (first | rw [if_pos h13] | rw [if_neg h13]); (first | rw [if_pos h27] | rw [if_neg h27]); (first | rw [if_pos h44] | rw [if_neg h44]); (first | rw [if_pos h60] | rw [if_neg h60])
        · refine s_ic (v := nI 1) rfl rfl ?_
          refine g_goto rfl ?_
          refine s_putzV (by omega) rfl rfl (by decide) ?_
          refine g_vret rfl rfl ?_
          refine ⟨rfl, ?_⟩
          unfold beF
          rw [nI_0]
          (first | rw [if_pos h13] | rw [if_neg h13]); (first | rw [if_pos h27] | rw [if_neg h27]); (first | rw [if_pos h44] | rw [if_neg h44]); (first | rw [if_pos h60] | rw [if_neg h60])
theorem r_targetsFor {xs : List Int32} {σ : wd_S} {v : Nat} (hv : v < 8) (x : Int32) : ev xs 42 [.ref (6 + 3 * v), .int x] σ (if σ (6 + 3 * v) 2 = 0 then σ (6 + 3 * v) 5 else if σ (6 + 3 * v) 2 = nI 2 then (if x ≤ 0 then (σ (6 + 3 * v) 5 - (σ (6 + 3 * v) 5 &&& -σ (6 + 3 * v) 5)) &&& -(σ (6 + 3 * v) 5 - (σ (6 + 3 * v) 5 &&& -σ (6 + 3 * v) 5)) else σ (6 + 3 * v) 5 &&& -σ (6 + 3 * v) 5) else nI 0) σ := by
  refine am_Ev.of (n := 4) rfl rfl rfl rfl ?_
  refine g_aload_n rfl rfl ?_
  refine g_get rfl rfl (wd_V (by omega)) rfl ?_
  refine g_if_ne rfl (fun h4 => ?_) (fun h4 => ?_)
  · refine g_aload_n rfl rfl ?_
    refine g_get rfl rfl (wd_V (by omega)) rfl ?_
    refine s_ic (v := nI 2) rfl rfl ?_
    refine g_icmp_eq rfl (fun h17 => ?_) (fun h17 => ?_)
    · refine g_aload_n rfl rfl ?_
      refine g_get rfl rfl (wd_V (by omega)) rfl ?_
      refine g_aload_n rfl rfl ?_
      refine g_get rfl rfl (wd_V (by omega)) rfl ?_
      refine g_ineg rfl ?_
      refine g_iand rfl ?_
      refine g_istore_n rfl (Nat.le_of_ble_eq_true rfl) ?_
      refine g_aload_n rfl rfl ?_
      refine g_get rfl rfl (wd_V (by omega)) rfl ?_
      refine g_iload_n rfl rfl ?_
      refine g_isub rfl ?_
      refine g_istore_n rfl (Nat.le_of_ble_eq_true rfl) ?_
      refine g_iload_n rfl rfl ?_
      refine g_if_le rfl (fun h41 => ?_) (fun h41 => ?_)
      · refine g_iload_n rfl rfl ?_
        refine g_iload_n rfl rfl ?_
        refine g_ineg rfl ?_
        refine g_iand rfl ?_
        refine g_iret rfl rfl ?_
        refine ⟨?_, rfl⟩
        (try (first | rw [if_pos h4] | rw [if_neg h4])); (try (first | rw [if_pos h17] | rw [if_neg h17])); (try (first | rw [if_pos h41] | rw [if_neg h41]))
      · refine g_iload_n rfl rfl ?_
        refine g_goto rfl ?_
        refine g_iret rfl rfl ?_
        refine ⟨?_, rfl⟩
        (try (first | rw [if_pos h4] | rw [if_neg h4])); (try (first | rw [if_pos h17] | rw [if_neg h17])); (try (first | rw [if_pos h41] | rw [if_neg h41]))
    · refine s_ic (v := nI 0) rfl rfl ?_
      refine g_iret rfl rfl ?_
      refine ⟨?_, rfl⟩
      (try (first | rw [if_pos h4] | rw [if_neg h4])); (try (first | rw [if_pos h17] | rw [if_neg h17])); (try (first | rw [if_pos h41] | rw [if_neg h41]))
  · refine g_aload_n rfl rfl ?_
    refine g_get rfl rfl (wd_V (by omega)) rfl ?_
    refine g_iret rfl rfl ?_
    refine ⟨?_, rfl⟩
    (try (first | rw [if_pos h4] | rw [if_neg h4])); (try (first | rw [if_pos h17] | rw [if_neg h17])); (try (first | rw [if_pos h41] | rw [if_neg h41]))
theorem r_passedOn {xs : List Int32} {σ : wd_S} {v : Nat} (hv : v < 8) (x : Int32) : ev xs 43 [.ref (6 + 3 * v), .int x] σ (if σ (6 + 3 * v) 2 = nI 2 ∧ ¬ x ≤ 0 then x - nI 1 else x) σ := by
  refine am_Ev.of (n := 2) rfl rfl rfl rfl ?_
  refine g_aload_n rfl rfl ?_
  refine g_get rfl rfl (wd_V (by omega)) rfl ?_
  refine s_ic (v := nI 2) rfl rfl ?_
  refine g_icmp_ne rfl (fun h5 => ?_) (fun h5 => ?_)
  · refine g_iload_n rfl rfl ?_
    refine g_iret rfl rfl ?_
    exact ⟨by simp_all, rfl⟩
  · refine g_iload_n rfl rfl ?_
    refine g_if_le rfl (fun h9 => ?_) (fun h9 => ?_)
    · refine g_iload_n rfl rfl ?_
      refine g_iret rfl rfl ?_
      exact ⟨by simp_all, rfl⟩
    · refine g_iload_n rfl rfl ?_
      refine s_ic (v := nI 1) rfl rfl ?_
      refine g_isub rfl ?_
      refine g_goto rfl ?_
      refine g_iret rfl rfl ?_
      exact ⟨by simp_all, rfl⟩
/-- the slot of a time among the requests of v -/
def slF (σ : wd_S) (v r : Nat) (t : Int32) : Option Nat := fst1 (fun s => decide (σ (7 + 3 * v) s = t)) r
theorem r_slotOf {xs : List Int32} {σ : wd_S} {v r : Nat} (hv : v < 8) (hr : σ (6 + 3 * v) 9 = nI r) (hr4 : r ≤ 4) (t : Int32) : ev xs 45 [.ref (6 + 3 * v), .int t] σ (oI (slF σ v r t)) σ := by
  refine am_Ev.of (n := 3) rfl rfl rfl rfl ?_
  refine s_ic (v := nI 0) rfl rfl ?_
  refine g_istore_n rfl (Nat.le_of_ble_eq_true rfl) ?_
  refine am_for r (fun i lo σ' => lo = [some (.ref (6 + 3 * v)), some (.int t), some (.int (nI i))] ∧ σ = σ' ∧ ∀ j, j < i → ¬ σ (7 + 3 * v) j = t) ?_ ?_ 0 _ _ (Nat.zero_le _) ⟨rfl, rfl, fun j h => absurd h (Nat.not_lt_zero j)⟩
  · rintro i _ _ hi ⟨rfl, rfl, hb⟩ kk
    refine g_iload_n rfl rfl ?_
    refine g_aload_n rfl rfl ?_
    refine g_get rfl rfl (wd_V (by omega)) rfl ?_
    rw [hr]
    refine g_icmp_ge rfl (fun h => absurd h (nI_ge hi (by omega))) (fun _ => ?_)
    refine g_aload_n rfl rfl ?_
    refine g_get rfl rfl (wd_V (by omega)) rfl ?_
    refine g_iload_n rfl rfl ?_
    refine s_iald rfl (a_VM (by omega)) rfl (by omega) ?_
    refine g_iload_n rfl rfl ?_
    refine g_icmp_ne rfl (fun h => ?_) (fun h => ?_)
    · refine s_inc rfl rfl (nI_1 _) ?_
      refine g_goto rfl ?_
      exact kk _ _ ⟨rfl, rfl, lt_s hb h⟩
    · refine g_iload_n rfl rfl ?_
      refine g_iret rfl rfl ?_
      refine ⟨?_, rfl⟩
      unfold slF
      rw [fst1_some hi (by simp [h]) fun j hj => by simp [hb j hj]]
      rfl
  · rintro _ _ ⟨rfl, rfl, hb⟩
    refine g_iload_n rfl rfl ?_
    refine g_aload_n rfl rfl ?_
    refine g_get rfl rfl (wd_V (by omega)) rfl ?_
    rw [hr]
    refine g_icmp_ge rfl (fun _ => ?_) (fun h => absurd (nI_le (Nat.le_refl _) (by omega)) h)
    refine s_ic (v := -1) rfl rfl ?_
    refine g_iret rfl rfl ?_
    refine ⟨?_, rfl⟩
    unfold slF
    rw [fst1_none.mpr fun j hj => by simp [hb j hj]]
    rfl
theorem oI_m1 {o : Option Nat} {r : Nat} (h : ∀ j, o = some j → j < r) (hr : r ≤ 1000) : oI o = -1 ↔ o = none := by
  cases o with
  | none => exact ⟨fun _ => rfl, fun _ => rfl⟩
  | some j =>
    constructor
    · intro z
      have hj := h j rfl
      have h1 : (nI j).toInt = (j : Int) := nI_toInt (by omega)
      have h2 : nI j = -1 := z
      rw [h2] at h1
      have h3 : (-1 : Int32).toInt = -1 := by decide
      omega
    · intro z; cases z
theorem fst1_lt {p : Nat → Bool} {n j : Nat} (h : fst1 p n = some j) : j < n ∧ p j = true := by
  induction n with
  | zero => cases h
  | succ n ih =>
    unfold fst1 at h
    cases hf : fst1 p n with
    | some i =>
      rw [hf] at h
      have := ih (hf.trans h)
      exact ⟨by omega, this.2⟩
    | none =>
      rw [hf] at h
      cases hp : p n with
      | true =>
        simp [hp] at h
        subst h
        exact ⟨by omega, hp⟩
      | false => simp [hp] at h
theorem slF_lt {σ : wd_S} {v r j : Nat} {t : Int32} (h : slF σ v r t = some j) : j < r := (fst1_lt h).1
/-- can vertex v gather at this time? -/
def cgB (σ : wd_S) (v r : Nat) (t : Int32) : Bool := !(decide (σ (6 + 3 * v) 2 = nI 1)) || decide (r < 4) || (slF σ v r t).isSome
theorem r_canGather {xs : List Int32} {σ : wd_S} {v r : Nat} (hv : v < 8) (hr : σ (6 + 3 * v) 9 = nI r) (hr4 : r ≤ 4) (t : Int32) : ev xs 44 [.ref (6 + 3 * v), .int t] σ (bI (cgB σ v r t)) σ := by
  refine am_Ev.of (n := 2) rfl rfl rfl rfl ?_
  refine g_aload_n rfl rfl ?_
  refine g_get rfl rfl (wd_V (by omega)) rfl ?_
  refine s_ic (v := nI 1) rfl rfl ?_
  refine g_icmp_ne rfl (fun h5 => ?_) (fun h5 => ?_)
  · refine s_ic (v := nI 1) rfl rfl ?_
    refine g_goto rfl ?_
    refine g_zret rfl rfl (by decide) ?_
    refine ⟨?_, rfl⟩
    unfold cgB
    try rw [hr, nI_ltI (by omega) (by omega)] at h13
    try rw [oI_m1 (fun j h => slF_lt h) (by omega)] at h22
    first | (have e1 : (slF σ v r t).isSome = true := by (cases hq : slF σ v r t with | none => exact absurd hq h22 | some j => rfl); simp_all [bI]; done) | (simp_all [bI]; done) | (simp_all [bI]; intro hz; omega)
  · refine g_aload_n rfl rfl ?_
    refine g_get rfl rfl (wd_V (by omega)) rfl ?_
    refine s_ic (v := nI 4) rfl rfl ?_
    refine g_icmp_lt rfl (fun h13 => ?_) (fun h13 => ?_)
    · refine s_ic (v := nI 1) rfl rfl ?_
      refine g_goto rfl ?_
      refine g_zret rfl rfl (by decide) ?_
      refine ⟨?_, rfl⟩
      unfold cgB
      try rw [hr, nI_ltI (by omega) (by omega)] at h13
      try rw [oI_m1 (fun j h => slF_lt h) (by omega)] at h22
      first | (have e1 : (slF σ v r t).isSome = true := by (cases hq : slF σ v r t with | none => exact absurd hq h22 | some j => rfl); simp_all [bI]; done) | (simp_all [bI]; done) | (simp_all [bI]; intro hz; omega)
    · refine g_aload_n rfl rfl ?_
      refine g_iload_n rfl rfl ?_
      refine c_V rfl rfl rfl rfl (wd_V (by omega)) rfl (r_slotOf hv hr hr4 t) rfl rfl rfl ?_
      refine s_ic (v := -1) rfl rfl ?_
      refine g_icmp_eq rfl (fun h22 => ?_) (fun h22 => ?_)
      · refine s_ic (v := nI 0) rfl rfl ?_
        refine g_zret rfl rfl (by decide) ?_
        refine ⟨?_, rfl⟩
        unfold cgB
        try rw [hr, nI_ltI (by omega) (by omega)] at h13
        try rw [oI_m1 (fun j h => slF_lt h) (by omega)] at h22
        first | (have e1 : (slF σ v r t).isSome = true := by (cases hq : slF σ v r t with | none => exact absurd hq h22 | some j => rfl); simp_all [bI]; done) | (simp_all [bI]; done) | (simp_all [bI]; intro hz; omega)
      · refine s_ic (v := nI 1) rfl rfl ?_
        refine g_goto rfl ?_
        refine g_zret rfl rfl (by decide) ?_
        refine ⟨?_, rfl⟩
        unfold cgB
        try rw [hr, nI_ltI (by omega) (by omega)] at h13
        try rw [oI_m1 (fun j h => slF_lt h) (by omega)] at h22
        first | (have e1 : (slF σ v r t).isSome = true := by (cases hq : slF σ v r t with | none => exact absurd hq h22 | some j => rfl); simp_all [bI]; done) | (simp_all [bI]; done) | (simp_all [bI]; intro hz; omega)
/-- where a time goes among the requests, which stand in growing order -/
def insP (m : Nat → Int32) (t : Int32) : Nat → Nat
  | 0 => 0
  | s + 1 => if t < m s then insP m t s else s + 1
/-- place p is made free -/
def insR (f : Nat → Int32) (p r : Nat) : Nat → Int32 := fun j => if p < j ∧ j ≤ r then f (j - 1) else f j
theorem insP_le (m : Nat → Int32) (t : Int32) (r : Nat) : insP m t r ≤ r := by
  induction r with
  | zero => exact Nat.le_refl _
  | succ r ih =>
    unfold insP
    split <;> omega
theorem insR_r (f : Nat → Int32) (r : Nat) : insR f r r = f := by
  funext j
  unfold insR
  rw [if_neg (by omega)]
theorem insR_s {f : Nat → Int32} {s r : Nat} (h : s < r) : upd (insR f (s + 1) r) (s + 1) (f s) = insR f s r := by
  funext j
  unfold upd insR
  by_cases h1 : j = s + 1
  · subst h1
    rw [if_pos rfl, if_pos (by omega)]
    rfl
  · rw [if_neg h1]
    by_cases h2 : s + 1 < j ∧ j ≤ r
    · rw [if_pos h2, if_pos (by omega)]
    · rw [if_neg h2, if_neg (by omega)]
theorem insR_at (f : Nat → Int32) (s r : Nat) : insR f (s + 1) r s = f s := by
  unfold insR
  rw [if_neg (by omega)]
def mkF (σ : wd_S) (v r : Nat) (t : Int32) : wd_S := u2 (rws (rws σ (7 + 3 * v) (upd (insR (σ (7 + 3 * v)) (insP (σ (7 + 3 * v)) t r) r) (insP (σ (7 + 3 * v)) t r) t)) (8 + 3 * v) (upd (insR (σ (8 + 3 * v)) (insP (σ (7 + 3 * v)) t r) r) (insP (σ (7 + 3 * v)) t r) (nI 0))) (6 + 3 * v) 9 (nI (r + 1))
theorem r_makeSlot {xs : List Int32} {σ : wd_S} {v r : Nat} (hv : v < 8) (hr : σ (6 + 3 * v) 9 = nI r) (hr4 : r < 4) (t : Int32) : ev xs 47 [.ref (6 + 3 * v), .int t] σ (nI (insP (σ (7 + 3 * v)) t r)) (mkF σ v r t) := by
  refine am_Ev.of (n := 3) rfl rfl rfl rfl ?_
  refine g_aload_n rfl rfl ?_
  refine g_get rfl rfl (wd_V (by omega)) rfl ?_
  rw [hr]
  refine g_istore_n rfl (Nat.le_of_ble_eq_true rfl) ?_
  have fin : ∀ p, p ≤ r → insP (σ (7 + 3 * v)) t r = p → am_G 47 55 [some (.ref (6 + 3 * v)), some (.int t), some (.int (nI p))] [] (wd xs (rws (rws σ (7 + 3 * v) (insR (σ (7 + 3 * v)) p r)) (8 + 3 * v) (insR (σ (8 + 3 * v)) p r))) (po xs (nI (insP (σ (7 + 3 * v)) t r)) (mkF σ v r t)) := by
    intro p hp he
    refine g_aload_n rfl rfl ?_
    refine g_get rfl rfl (wd_V (by omega)) rfl ?_
    refine g_iload_n rfl rfl ?_
    refine g_iload_n rfl rfl ?_
    refine s_iast rfl (a_VM (by omega)) rfl (by omega) ?_
    refine g_aload_n rfl rfl ?_
    refine g_get rfl rfl (wd_V (by omega)) rfl ?_
    refine g_iload_n rfl rfl ?_
    refine s_ic (v := nI 0) rfl rfl ?_
    refine s_iast rfl (a_VG (by omega)) rfl (by omega) ?_
    refine g_aload_n rfl rfl ?_
    refine g_dup rfl rfl ?_
    refine g_get rfl rfl (wd_V (by omega)) rfl ?_
    rw [u2_c (by omega), u2_c (by omega), rws_c (by omega), rws_c (by omega), hr]
    refine s_ic (v := nI 1) rfl rfl ?_
    refine g_iadd rfl ?_
    rw [nI_add]
    refine s_putV (by omega) rfl rfl (by decide) ?_
    refine g_iload_n rfl rfl ?_
    refine g_iret rfl rfl ?_
    refine ⟨by rw [he], ?_⟩
    unfold mkF
    rw [he, u2_rws_c (by omega), u2_rws, u2_rws]
  have key : ∀ s, s ≤ r → insP (σ (7 + 3 * v)) t r = insP (σ (7 + 3 * v)) t s → am_G 47 5 [some (.ref (6 + 3 * v)), some (.int t), some (.int (nI s))] [] (wd xs (rws (rws σ (7 + 3 * v) (insR (σ (7 + 3 * v)) s r)) (8 + 3 * v) (insR (σ (8 + 3 * v)) s r))) (po xs (nI (insP (σ (7 + 3 * v)) t r)) (mkF σ v r t)) := by
    intro s
    induction s with
    | zero =>
      intro _ he
      refine g_iload_n rfl rfl ?_
      refine g_if_le rfl (fun _ => ?_) (fun h => absurd (by decide) h)
      exact fin 0 (Nat.zero_le _) he
    | succ s ih =>
      intro hs he
      refine g_iload_n rfl rfl ?_
      refine g_if_le rfl (fun h => absurd h (nI_nle (by omega) (by omega))) (fun _ => ?_)
      refine g_aload_n rfl rfl ?_
      refine g_get rfl rfl (wd_V (by omega)) rfl ?_
      refine g_iload_n rfl rfl ?_
      refine s_ic (v := nI 1) rfl rfl ?_
      refine g_isub rfl ?_
      rw [pk_sub (by omega), Nat.add_sub_cancel]
      refine s_iald rfl (a_VM (by omega)) rfl (by omega) ?_
      rw [rws_c (by omega), rws_same, insR_at]
      refine g_iload_n rfl rfl ?_
      refine g_icmp_le rfl (fun h => ?_) (fun h => ?_)
      · refine fin (s + 1) hs ?_
        rw [he]
        show (if t < σ (7 + 3 * v) s then insP (σ (7 + 3 * v)) t s else s + 1) = s + 1
        rw [if_neg (by simp only [lt_i, le_i] at *; omega)]
      · refine g_aload_n rfl rfl ?_
        refine g_get rfl rfl (wd_V (by omega)) rfl ?_
        refine g_iload_n rfl rfl ?_
        refine g_aload_n rfl rfl ?_
        refine g_get rfl rfl (wd_V (by omega)) rfl ?_
        refine g_iload_n rfl rfl ?_
        refine s_ic (v := nI 1) rfl rfl ?_
        refine g_isub rfl ?_
        rw [pk_sub (by omega), Nat.add_sub_cancel]
        refine s_iald rfl (a_VM (by omega)) rfl (by omega) ?_
        rw [rws_c (by omega), rws_same, insR_at]
        refine s_iast rfl (a_VM (by omega)) rfl (by omega) ?_
        refine g_aload_n rfl rfl ?_
        refine g_get rfl rfl (wd_V (by omega)) rfl ?_
        refine g_iload_n rfl rfl ?_
        refine g_aload_n rfl rfl ?_
        refine g_get rfl rfl (wd_V (by omega)) rfl ?_
        refine g_iload_n rfl rfl ?_
        refine s_ic (v := nI 1) rfl rfl ?_
        refine g_isub rfl ?_
        rw [pk_sub (by omega), Nat.add_sub_cancel]
        refine s_iald rfl (a_VG (by omega)) rfl (by omega) ?_
        rw [u2_c (by omega), rws_same, insR_at]
        refine s_iast rfl (a_VG (by omega)) rfl (by omega) ?_
        refine s_inc rfl rfl (dec1 _) ?_
        refine g_goto rfl ?_
        rw [u2_rws_c (by omega), u2_rws, u2_rws, insR_s (by omega), insR_s (by omega)]
        refine ih (by omega) ?_
        rw [he]
        show (if t < σ (7 + 3 * v) s then insP (σ (7 + 3 * v)) t s else s + 1) = insP (σ (7 + 3 * v)) t s
        rw [if_pos (by simp only [lt_i, le_i] at *; omega)]
  have := key r (Nat.le_refl _) rfl
  rw [insR_r, insR_r, rws_self] at this
  have h2 : rws σ (8 + 3 * v) (σ (8 + 3 * v)) = σ := rws_self σ _
  rw [h2] at this
  exact this
def dsF (σ : wd_S) (v r s : Nat) : wd_S := rws (rws (u2 σ (6 + 3 * v) 9 (nI r)) (7 + 3 * v) (sh s r (σ (7 + 3 * v)))) (8 + 3 * v) (sh s r (σ (8 + 3 * v)))
theorem r_dropSlot {xs : List Int32} {σ : wd_S} {v r s : Nat} (hv : v < 8) (hr : σ (6 + 3 * v) 9 = nI (r + 1)) (hr4 : r < 4) (hs : s ≤ r) : evv xs 48 [.ref (6 + 3 * v), .int (nI s)] σ (dsF σ v r s) := by
  refine am_Ev.of (n := 3) rfl rfl rfl rfl ?_
  refine g_aload_n rfl rfl ?_
  refine g_dup rfl rfl ?_
  refine g_get rfl rfl (wd_V (by omega)) rfl ?_
  rw [hr]
  refine s_ic (v := nI 1) rfl rfl ?_
  refine g_isub rfl ?_
  rw [pk_sub (by omega), Nat.add_sub_cancel]
  refine s_putV (by omega) rfl rfl (by decide) ?_
  refine g_iload_n rfl rfl ?_
  refine g_istore_n rfl (Nat.le_of_ble_eq_true rfl) ?_
  refine am_for r (fun i lo σ' => s ≤ i ∧ lo = [some (.ref (6 + 3 * v)), some (.int (nI s)), some (.int (nI i))] ∧ σ' = rws (rws (u2 σ (6 + 3 * v) 9 (nI r)) (7 + 3 * v) (sh s i (σ (7 + 3 * v)))) (8 + 3 * v) (sh s i (σ (8 + 3 * v)))) ?_ ?_ s _ _ hs ⟨Nat.le_refl _, rfl, ?_⟩
  · rintro i _ _ hi ⟨hsi, rfl, rfl⟩ kk
    have hcn : rws (rws (u2 σ (6 + 3 * v) 9 (nI r)) (7 + 3 * v) (sh s i (σ (7 + 3 * v)))) (8 + 3 * v) (sh s i (σ (8 + 3 * v))) (6 + 3 * v) 9 = nI r := by
      rw [rws_c (by omega), rws_c (by omega), u2_same]
    refine g_iload_n rfl rfl ?_
    refine g_aload_n rfl rfl ?_
    refine g_get rfl rfl (wd_V (by omega)) rfl ?_
    rw [hcn]
    refine g_icmp_ge rfl (fun h => absurd h (nI_ge hi (by omega))) (fun _ => ?_)
    refine g_aload_n rfl rfl ?_
    refine g_get rfl rfl (wd_V (by omega)) rfl ?_
    refine g_iload_n rfl rfl ?_
    refine g_aload_n rfl rfl ?_
    refine g_get rfl rfl (wd_V (by omega)) rfl ?_
    refine g_iload_n rfl rfl ?_
    refine s_ic (v := nI 1) rfl rfl ?_
    refine g_iadd rfl ?_
    rw [nI_add]
    refine s_iald rfl (a_VM (by omega)) rfl (by omega) ?_
    rw [rws_c (by omega), rws_same, sh_at]
    refine s_iast rfl (a_VM (by omega)) rfl (by omega) ?_
    refine g_aload_n rfl rfl ?_
    refine g_get rfl rfl (wd_V (by omega)) rfl ?_
    refine g_iload_n rfl rfl ?_
    refine g_aload_n rfl rfl ?_
    refine g_get rfl rfl (wd_V (by omega)) rfl ?_
    refine g_iload_n rfl rfl ?_
    refine s_ic (v := nI 1) rfl rfl ?_
    refine g_iadd rfl ?_
    rw [nI_add]
    refine s_iald rfl (a_VG (by omega)) rfl (by omega) ?_
    rw [u2_c (by omega), rws_same, sh_at]
    refine s_iast rfl (a_VG (by omega)) rfl (by omega) ?_
    refine s_inc rfl rfl (nI_1 _) ?_
    refine g_goto rfl ?_
    refine kk _ _ ⟨by omega, rfl, ?_⟩
    rw [u2_rws_c (by omega), u2_rws, u2_rws, sh_s _ hsi, sh_s _ hsi]
  · rintro _ _ ⟨hsi, rfl, rfl⟩
    have hcn : rws (rws (u2 σ (6 + 3 * v) 9 (nI r)) (7 + 3 * v) (sh s r (σ (7 + 3 * v)))) (8 + 3 * v) (sh s r (σ (8 + 3 * v))) (6 + 3 * v) 9 = nI r := by
      rw [rws_c (by omega), rws_c (by omega), u2_same]
    refine g_iload_n rfl rfl ?_
    refine g_aload_n rfl rfl ?_
    refine g_get rfl rfl (wd_V (by omega)) rfl ?_
    rw [hcn]
    refine g_icmp_ge rfl (fun _ => ?_) (fun h => absurd (nI_le (Nat.le_refl _) (by omega)) h)
    refine g_vret rfl rfl ?_
    exact ⟨rfl, rfl⟩
  · rw [sh_0, sh_0]
    funext d
    unfold rws u2
    by_cases h1 : d = 8 + 3 * v
    · subst h1
      simp
    · by_cases h2 : d = 7 + 3 * v
      · subst h2
        simp
      · simp [h1, h2]
theorem mkF_g (σ : wd_S) (v r : Nat) (t : Int32) : mkF σ v r t (8 + 3 * v) (insP (σ (7 + 3 * v)) t r) = nI 0 := by
  unfold mkF
  rw [u2_c (by omega), rws_same]
  simp [upd]
def gaF (σ : wd_S) (v r : Nat) (t x : Int32) : wd_S := match slF σ v r t with
  | some s => u2 σ (8 + 3 * v) s (σ (8 + 3 * v) s + x)
  | none => u2 (mkF σ v r t) (8 + 3 * v) (insP (σ (7 + 3 * v)) t r) (nI 0 + x)
theorem r_gather {xs : List Int32} {σ : wd_S} {v r : Nat} (hv : v < 8) (hr : σ (6 + 3 * v) 9 = nI r) (hr4 : r ≤ 4) (t x : Int32) (hok : slF σ v r t = none → r < 4) : evv xs 46 [.ref (6 + 3 * v), .int t, .int x] σ (gaF σ v r t x) := by
  refine am_Ev.of (n := 4) rfl rfl rfl rfl ?_
  refine g_aload_n rfl rfl ?_
  refine g_iload_n rfl rfl ?_
  refine c_V rfl rfl rfl rfl (wd_V (by omega)) rfl (r_slotOf hv hr hr4 t) rfl rfl rfl ?_
  refine g_istore_n rfl (Nat.le_of_ble_eq_true rfl) ?_
  refine g_iload_n rfl rfl ?_
  refine s_ic (v := -1) rfl rfl ?_
  cases hq : slF σ v r t with
  | some s =>
    have hs := slF_lt hq
    refine g_icmp_ne rfl (fun _ => ?_) (fun h => absurd h (fun z => absurd ((oI_m1 (o := some s) (r := r) (fun j h => by cases h; exact hs) (by omega)).mp z) (by simp)))
    refine g_aload_n rfl rfl ?_
    refine g_get rfl rfl (wd_V (by omega)) rfl ?_
    refine g_iload_n rfl rfl ?_
    refine g_dup2 rfl rfl rfl ?_
    refine s_iald rfl (a_VG (by omega)) (j := s) rfl (by omega) ?_
    refine g_iload_n rfl rfl ?_
    refine g_iadd rfl ?_
    refine s_iast rfl (a_VG (by omega)) (j := s) rfl (by omega) ?_
    refine g_vret rfl rfl ?_
    refine ⟨rfl, ?_⟩
    unfold gaF
    rw [hq]
  | none =>
    refine g_icmp_ne rfl (fun h => absurd (rfl) h) (fun _ => ?_)
    refine g_aload_n rfl rfl ?_
    refine g_iload_n rfl rfl ?_
    refine c_V rfl rfl rfl rfl (wd_V (by omega)) rfl (r_makeSlot hv hr (hok hq) t) rfl rfl rfl ?_
    have hp := insP_le (σ (7 + 3 * v)) t r
    have hr5 := hok hq
    refine g_istore_n rfl (Nat.le_of_ble_eq_true rfl) ?_
    refine g_aload_n rfl rfl ?_
    refine g_get rfl rfl (wd_V (by omega)) rfl ?_
    refine g_iload_n rfl rfl ?_
    refine g_dup2 rfl rfl rfl ?_
    refine s_iald rfl (a_VG (by omega)) rfl (by omega) ?_
    rw [mkF_g]
    refine g_iload_n rfl rfl ?_
    refine g_iadd rfl ?_
    refine s_iast rfl (a_VG (by omega)) rfl (by omega) ?_
    refine g_vret rfl rfl ?_
    refine ⟨rfl, ?_⟩
    unfold gaF
    rw [hq]
