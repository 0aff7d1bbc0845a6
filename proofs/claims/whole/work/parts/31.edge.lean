/-! Edges: their messages. -/
def apF (σ : wd_S) (e c : Nat) (x t : Int32) : wd_S := u2 (u2 (u2 σ (31 + 3 * e) c x) (32 + 3 * e) c t) (30 + 3 * e) 2 (nI (c + 1))
theorem r_append {xs : List Int32} {σ : wd_S} {e c : Nat} (he : e < 12) (hc : σ (30 + 3 * e) 2 = nI c) (hc6 : c < 6) (x t : Int32) : evv xs 50 [.ref (30 + 3 * e), .int x, .int t] σ (apF σ e c x t) := by
  refine am_Ev.of (n := 3) rfl rfl rfl rfl ?_
  refine g_aload_n rfl rfl ?_
  refine g_get rfl rfl (wd_E (by omega)) rfl ?_
  refine g_aload_n rfl rfl ?_
  refine g_get rfl rfl (wd_E (by omega)) rfl ?_
  try simp (disch := omega) only [u2_c, u2_k, u2_same, hc]
  refine g_iload_n rfl rfl ?_
  refine s_iast rfl (a_EV (by omega)) rfl (by omega) ?_
  refine g_aload_n rfl rfl ?_
  refine g_get rfl rfl (wd_E (by omega)) rfl ?_
  refine g_aload_n rfl rfl ?_
  refine g_get rfl rfl (wd_E (by omega)) rfl ?_
  try simp (disch := omega) only [u2_c, u2_k, u2_same, hc]
  refine g_iload_n rfl rfl ?_
  refine s_iast rfl (a_EM (by omega)) rfl (by omega) ?_
  refine g_aload_n rfl rfl ?_
  refine g_dup rfl rfl ?_
  refine g_get rfl rfl (wd_E (by omega)) rfl ?_
  try simp (disch := omega) only [u2_c, u2_k, u2_same, hc]
  refine s_ic (v := nI 1) rfl rfl ?_
  refine g_iadd rfl ?_
  rw [nI_add]
  refine s_putE (by omega) rfl rfl (by decide) ?_
  refine g_vret rfl rfl ?_
  exact ⟨rfl, rfl⟩
def dfF (σ : wd_S) (e c : Nat) : wd_S := rws (rws (u2 σ (30 + 3 * e) 2 (nI c)) (31 + 3 * e) (sh 0 c (σ (31 + 3 * e)))) (32 + 3 * e) (sh 0 c (σ (32 + 3 * e)))
theorem r_dropFirst {xs : List Int32} {σ : wd_S} {e c : Nat} (he : e < 12) (hc : σ (30 + 3 * e) 2 = nI (c + 1)) (hc6 : c < 6) : evv xs 51 [.ref (30 + 3 * e)] σ (dfF σ e c) := by
  refine am_Ev.of (n := 2) rfl rfl rfl rfl ?_
  refine g_aload_n rfl rfl ?_
  refine g_dup rfl rfl ?_
  refine g_get rfl rfl (wd_E (by omega)) rfl ?_
  rw [hc]
  refine s_ic (v := nI 1) rfl rfl ?_
  refine g_isub rfl ?_
  rw [pk_sub (by omega), Nat.add_sub_cancel]
  refine s_putE (by omega) rfl rfl (by decide) ?_
  refine s_ic (v := nI 0) rfl rfl ?_
  refine g_istore_n rfl (Nat.le_of_ble_eq_true rfl) ?_
  refine am_for c (fun i lo σ' => lo = [some (.ref (30 + 3 * e)), some (.int (nI i))] ∧ σ' = rws (rws (u2 σ (30 + 3 * e) 2 (nI c)) (31 + 3 * e) (sh 0 i (σ (31 + 3 * e)))) (32 + 3 * e) (sh 0 i (σ (32 + 3 * e)))) ?_ ?_ 0 _ _ (Nat.zero_le _) ⟨rfl, ?_⟩
  · rintro i _ _ hi ⟨rfl, rfl⟩ kk
    have hcn : rws (rws (u2 σ (30 + 3 * e) 2 (nI c)) (31 + 3 * e) (sh 0 i (σ (31 + 3 * e)))) (32 + 3 * e) (sh 0 i (σ (32 + 3 * e))) (30 + 3 * e) 2 = nI c := by
      rw [rws_c (by omega), rws_c (by omega), u2_same]
    refine g_iload_n rfl rfl ?_
    refine g_aload_n rfl rfl ?_
    refine g_get rfl rfl (wd_E (by omega)) rfl ?_
    rw [hcn]
    refine g_icmp_ge rfl (fun h => absurd h (nI_ge hi (by omega))) (fun _ => ?_)
    refine g_aload_n rfl rfl ?_
    refine g_get rfl rfl (wd_E (by omega)) rfl ?_
    refine g_iload_n rfl rfl ?_
    refine g_aload_n rfl rfl ?_
    refine g_get rfl rfl (wd_E (by omega)) rfl ?_
    refine g_iload_n rfl rfl ?_
    refine s_ic (v := nI 1) rfl rfl ?_
    refine g_iadd rfl ?_
    rw [nI_add]
    refine s_iald rfl (a_EV (by omega)) rfl (by omega) ?_
    rw [rws_c (by omega), rws_same, sh_at]
    refine s_iast rfl (a_EV (by omega)) rfl (by omega) ?_
    refine g_aload_n rfl rfl ?_
    refine g_get rfl rfl (wd_E (by omega)) rfl ?_
    refine g_iload_n rfl rfl ?_
    refine g_aload_n rfl rfl ?_
    refine g_get rfl rfl (wd_E (by omega)) rfl ?_
    refine g_iload_n rfl rfl ?_
    refine s_ic (v := nI 1) rfl rfl ?_
    refine g_iadd rfl ?_
    rw [nI_add]
    refine s_iald rfl (a_EM (by omega)) rfl (by omega) ?_
    rw [u2_c (by omega), rws_same, sh_at]
    refine s_iast rfl (a_EM (by omega)) rfl (by omega) ?_
    refine s_inc rfl rfl (nI_1 _) ?_
    refine g_goto rfl ?_
    refine kk _ _ ⟨rfl, ?_⟩
    rw [u2_rws_c (by omega), u2_rws, u2_rws, sh_s _ (Nat.zero_le _), sh_s _ (Nat.zero_le _)]
  · rintro _ _ ⟨rfl, rfl⟩
    have hcn : rws (rws (u2 σ (30 + 3 * e) 2 (nI c)) (31 + 3 * e) (sh 0 c (σ (31 + 3 * e)))) (32 + 3 * e) (sh 0 c (σ (32 + 3 * e))) (30 + 3 * e) 2 = nI c := by
      rw [rws_c (by omega), rws_c (by omega), u2_same]
    refine g_iload_n rfl rfl ?_
    refine g_aload_n rfl rfl ?_
    refine g_get rfl rfl (wd_E (by omega)) rfl ?_
    rw [hcn]
    refine g_icmp_ge rfl (fun _ => ?_) (fun h => absurd (nI_le (Nat.le_refl _) (by omega)) h)
    refine g_vret rfl rfl ?_
    exact ⟨rfl, rfl⟩
  · rw [sh_0, sh_0]
    funext d
    unfold rws u2
    by_cases h1 : d = 32 + 3 * e
    · subst h1
      simp
    · by_cases h2 : d = 31 + 3 * e
      · subst h2
        simp
      · simp [h1, h2]
/-- no earlier message of edge e has the time of message k -/
def ifB (σ : wd_S) (e k : Nat) : Bool := !(anyB (fun j => decide (σ (32 + 3 * e) j = σ (32 + 3 * e) k)) k)
theorem r_isFirst {xs : List Int32} {σ : wd_S} {e k : Nat} (he : e < 12) (hk : k < 6) : ev xs 52 [.ref (30 + 3 * e), .int (nI k)] σ (bI (ifB σ e k)) σ := by
  refine am_Ev.of (n := 3) rfl rfl rfl rfl ?_
  refine s_ic (v := nI 0) rfl rfl ?_
  refine g_istore_n rfl (Nat.le_of_ble_eq_true rfl) ?_
  refine am_for k (fun i lo σ' => lo = [some (.ref (30 + 3 * e)), some (.int (nI k)), some (.int (nI i))] ∧ σ = σ' ∧ ∀ j, j < i → ¬ σ (32 + 3 * e) j = σ (32 + 3 * e) k) ?_ ?_ 0 _ _ (Nat.zero_le _) ⟨rfl, rfl, fun j h => absurd h (Nat.not_lt_zero j)⟩
  · rintro i _ _ hi ⟨rfl, rfl, hb⟩ kk
    refine g_iload_n rfl rfl ?_
    refine g_iload_n rfl rfl ?_
    refine g_icmp_ge rfl (fun h => absurd h (nI_ge hi (by omega))) (fun _ => ?_)
    refine g_aload_n rfl rfl ?_
    refine g_get rfl rfl (wd_E (by omega)) rfl ?_
    refine g_iload_n rfl rfl ?_
    refine s_iald rfl (a_EM (by omega)) rfl (by omega) ?_
    refine g_aload_n rfl rfl ?_
    refine g_get rfl rfl (wd_E (by omega)) rfl ?_
    refine g_iload_n rfl rfl ?_
    refine s_iald rfl (a_EM (by omega)) rfl (by omega) ?_
    refine g_icmp_ne rfl (fun h => ?_) (fun h => ?_)
    · refine s_inc rfl rfl (nI_1 _) ?_
      refine g_goto rfl ?_
      exact kk _ _ ⟨rfl, rfl, lt_s hb h⟩
    · refine s_ic (v := nI 0) rfl rfl ?_
      refine g_zret rfl rfl (by decide) ?_
      refine ⟨?_, rfl⟩
      have : ifB σ e k = false := by
        unfold ifB
        rw [anyB_t.mpr ⟨i, hi, by simp [h]⟩]
        rfl
      rw [this]
      rfl
  · rintro _ _ ⟨rfl, rfl, hb⟩
    refine g_iload_n rfl rfl ?_
    refine g_iload_n rfl rfl ?_
    refine g_icmp_ge rfl (fun _ => ?_) (fun h => absurd (nI_le (Nat.le_refl _) (by omega)) h)
    refine s_ic (v := nI 1) rfl rfl ?_
    refine g_zret rfl rfl (by decide) ?_
    refine ⟨?_, rfl⟩
    have : ifB σ e k = true := by
      unfold ifB
      rw [anyB_f.mpr fun j hj => by simp [hb j hj]]
      rfl
    rw [this]
    rfl
theorem r_countMoments {xs : List Int32} {σ : wd_S} {e c : Nat} (he : e < 12) (hc : σ (30 + 3 * e) 2 = nI c) (hc6 : c ≤ 6) : ev xs 53 [.ref (30 + 3 * e)] σ (nI (cnt (ifB σ e) c)) σ := by
  refine am_Ev.of (n := 3) rfl rfl rfl rfl ?_
  refine s_ic (v := nI 0) rfl rfl ?_
  refine g_istore_n rfl (Nat.le_of_ble_eq_true rfl) ?_
  refine s_ic (v := nI 0) rfl rfl ?_
  refine g_istore_n rfl (Nat.le_of_ble_eq_true rfl) ?_
  refine am_for c (fun i lo σ' => lo = [some (.ref (30 + 3 * e)), some (.int (nI (cnt (ifB σ e) i))), some (.int (nI i))] ∧ σ = σ') ?_ ?_ 0 _ _ (Nat.zero_le _) ⟨rfl, rfl⟩
  · rintro i _ _ hi ⟨rfl, rfl⟩ kk
    refine g_iload_n rfl rfl ?_
    refine g_aload_n rfl rfl ?_
    refine g_get rfl rfl (wd_E (by omega)) rfl ?_
    rw [hc]
    refine g_icmp_ge rfl (fun h => absurd h (nI_ge hi (by omega))) (fun _ => ?_)
    refine g_aload_n rfl rfl ?_
    refine g_iload_n rfl rfl ?_
    refine c_V rfl rfl rfl rfl (wd_E (by omega)) rfl (r_isFirst he (by omega)) rfl rfl rfl ?_
    cases hb : ifB σ e i with
    | true =>
      refine g_if_eq rfl (fun h => absurd h (by decide)) (fun _ => ?_)
      refine s_inc rfl rfl (nI_1 _) ?_
      refine s_inc rfl rfl (nI_1 _) ?_
      refine g_goto rfl ?_
      refine kk _ _ ⟨?_, rfl⟩
      rw [cnt_t hb]
      rfl
    | false =>
      refine g_if_eq rfl (fun _ => ?_) (fun h => absurd (by decide) h)
      refine s_inc rfl rfl (nI_1 _) ?_
      refine g_goto rfl ?_
      refine kk _ _ ⟨?_, rfl⟩
      rw [cnt_f hb]
      rfl
  · rintro _ _ ⟨rfl, rfl⟩
    refine g_iload_n rfl rfl ?_
    refine g_aload_n rfl rfl ?_
    refine g_get rfl rfl (wd_E (by omega)) rfl ?_
    rw [hc]
    refine g_icmp_ge rfl (fun _ => ?_) (fun h => absurd (nI_le (Nat.le_refl _) (by omega)) h)
    refine g_iload_n rfl rfl ?_
    refine g_iret rfl rfl ?_
    exact ⟨rfl, rfl⟩
