/-! Following the ways of a point. -/
def enT (t : Nat × Nat) : Nat := t.1 * 1024 + t.2
def enE (o : Option (Nat × Nat)) : Int32 := match o with
  | none => 2147483647
  | some t => nI (enT t)
theorem never_toInt : (2147483647 : Int32).toInt = 2147483647 := by decide
theorem enT_lt {t : Nat × Nat} {B : Nat} (h1 : t.1 ≤ B) (h2 : t.2 ≤ B) (hB : B ≤ 400) : enT t < 1000000 := by
  unfold enT
  omega
theorem enE_ne {t : Nat × Nat} (h : enT t < 1000000) : ¬ enE (some t) = 2147483647 := by
  intro z
  have h1 : (nI (enT t)).toInt = (enT t : Int) := nI_toInt (by omega)
  have h2 : nI (enT t) = 2147483647 := z
  rw [h2, never_toInt] at h1
  omega
theorem enE_le {o : Option (Nat × Nat)} {t : Nat × Nat} {B : Nat} (ho : ∀ s, o = some s → s.1 ≤ B ∧ s.2 ≤ B) (h1 : t.1 ≤ B) (h2 : t.2 ≤ B) (hB : B ≤ 400) : enE o ≤ nI (enT t) ↔ rx_has o t = true := by
  have ht := enT_lt h1 h2 hB
  cases o with
  | none =>
    constructor
    · intro z
      have z : (2147483647 : Int32) ≤ nI (enT t) := z
      rw [le_i, never_toInt, nI_toInt (by omega)] at z
      omega
    · intro z; cases z
  | some s =>
    obtain ⟨h3, h4⟩ := ho s rfl
    have hs := enT_lt h3 h4 hB
    show nI (enT s) ≤ nI (enT t) ↔ _
    rw [nI_leI (by omega) (by omega)]
    unfold enT rx_has
    simp only [Bool.or_eq_true, Bool.and_eq_true, decide_eq_true_eq]
    omega
/-- the graph as the class holds it -/
def gOK (σ : wd_S) (ne : Nat) (fr to cd di : Nat → Nat) : Prop := σ 2 3 = nI ne ∧ ne ≤ 12 ∧ (∀ e, e < ne → σ (30 + 3 * e) 0 = nI (fr e) ∧ σ (30 + 3 * e) 1 = nI (to e)) ∧ ∀ v t, v < 8 → bf_dp (di v) t → t.1 ≤ 400 → t.2 ≤ 400 → (nI (enT t) &&& σ (6 + 3 * v) 3) + σ (6 + 3 * v) 4 = nI (enT (bf_b (cd v) t))
theorem gOK.of {σ τ : wd_S} {ne : Nat} {fr to cd di : Nat → Nat} (h : gOK σ ne fr to cd di) (ht : ∀ d, d ≠ 5 → τ d = σ d) : gOK τ ne fr to cd di := by
  obtain ⟨h1, h2, h3, h4⟩ := h
  refine ⟨by rw [ht _ (by omega)]; exact h1, h2, fun e he => by rw [ht _ (by omega)]; exact h3 e he, fun v t hv => by rw [ht _ (by omega)]; exact h4 v t hv⟩
theorem r_followEdges {xs : List Int32} {σ : wd_S} {ne u : Nat} {t0 : Nat × Nat} {fr to cd di do_ : Nat → Nat} {E : rx_E} {B : Nat} (G : bf_gr ne u t0 fr to cd di do_) (hg : gOK σ ne fr to cd di) (hE : rx_ok ne u t0 fr to cd B E) (hB : B + 12 ≤ 400) (h5 : ∀ v, v < 8 → σ 5 v = enE (E v)) :
    am_Ev 36 [.ref 2] (wd xs σ) (fun v w => v = some (.int (bI (rx_rc fr to cd E ne))) ∧ ∃ τ, w = wd xs τ ∧ (∀ d, d ≠ 5 → τ d = σ d) ∧ ∀ v, v < 8 → τ 5 v = enE (rx_r fr to cd E ne v)) := by
  refine am_Ev.of (n := 6) rfl rfl rfl rfl ?_
  refine s_ic (v := nI 0) rfl rfl ?_
  refine g_istore_n rfl (Nat.le_of_ble_eq_true rfl) ?_
  refine s_ic (v := nI 0) rfl rfl ?_
  refine g_istore_n rfl (Nat.le_of_ble_eq_true rfl) ?_
  obtain ⟨hne, hne12, hft, htb⟩ := id hg
  refine am_for ne (fun i lo τ => (∃ z3 z4 z5, lo = [some (.ref 2), some (.int (bI (rx_rc fr to cd E i))), some (.int (nI i)), z3, z4, z5]) ∧ (∀ d, d ≠ 5 → τ d = σ d) ∧ ∀ v, v < 8 → τ 5 v = enE (rx_r fr to cd E i v)) ?_ ?_ 0 _ _ (Nat.zero_le _) ⟨⟨_, _, _, rfl⟩, fun _ _ => rfl, h5⟩
  · rintro i _ τ hi ⟨⟨z3, z4, z5, rfl⟩, hτ, h5⟩ kk
    obtain ⟨hf, ht⟩ := hft i hi
    obtain ⟨hf8, ht8, hdd⟩ := G.2.2.2 i hi
    have hok := rx_r_ok hE i (by omega)
    refine g_iload_n rfl rfl ?_
    refine g_aload_n rfl rfl ?_
    refine g_get rfl rfl wd_G rfl ?_
    rw [hτ _ (by omega), hne]
    refine g_icmp_ge rfl (fun h => absurd h (nI_ge hi (by omega))) (fun _ => ?_)
    refine g_aload_n rfl rfl ?_
    refine g_get rfl rfl wd_G rfl ?_
    refine g_iload_n rfl rfl ?_
    refine s_aE rfl rfl (by omega) ?_
    refine g_get rfl rfl (wd_E (by omega)) rfl ?_
    rw [hτ _ (by omega), hf]
    refine g_istore_n rfl (Nat.le_of_ble_eq_true rfl) ?_
    refine g_aload_n rfl rfl ?_
    refine g_get rfl rfl wd_G rfl ?_
    refine g_iload_n rfl rfl ?_
    refine s_aE rfl rfl (by omega) ?_
    refine g_get rfl rfl (wd_E (by omega)) rfl ?_
    rw [hτ _ (by omega), ht]
    refine g_istore rfl (Nat.le_of_ble_eq_true rfl) ?_
    refine g_aload_n rfl rfl ?_
    refine g_get rfl rfl wd_G rfl ?_
    refine g_iload_n rfl rfl ?_
    refine s_iald rfl a_5 rfl (by omega) ?_
    rw [h5 _ hf8]
    refine g_ldc rfl rfl ?_
    cases hs : rx_r fr to cd E i (fr i) with
    | none =>
      have hst : rx_r fr to cd E (i + 1) = rx_r fr to cd E i := rx_step_none hs
      have hch : rx_rc fr to cd E (i + 1) = rx_rc fr to cd E i := by
        show (rx_rc fr to cd E i || rx_ch (rx_r fr to cd E i) (fr i) (to i) (cd (fr i))) = _
        unfold rx_ch
        rw [hs]
        simp
      refine g_icmp_eq rfl (fun _ => ?_) (fun h => absurd (rfl) h)
      refine s_inc rfl rfl (nI_1 _) ?_
      refine g_goto rfl ?_
      refine kk _ _ ⟨?_, hτ, by rw [hst]; exact h5⟩
      rw [hch]
      exact ⟨_, _, _, rfl⟩
    | some t =>
      obtain ⟨⟨k, hk⟩, b1, b2⟩ := hok _ _ hs
      have hdp := (bf_R_dp G hk).1
      have hbn := bf_b_bnd (c := cd (fr i)) b1 b2
      refine g_icmp_eq rfl (fun h => absurd h (enE_ne (enT_lt b1 b2 (by omega)))) (fun _ => ?_)
      refine g_aload_n rfl rfl ?_
      refine g_get rfl rfl wd_G rfl ?_
      refine g_iload_n rfl rfl ?_
      refine s_aV rfl rfl (by omega) ?_
      refine g_aload_n rfl rfl ?_
      refine g_get rfl rfl wd_G rfl ?_
      refine g_iload_n rfl rfl ?_
      refine s_iald rfl a_5 rfl (by omega) ?_
      rw [h5 _ hf8, hs]
      refine c_V rfl rfl rfl rfl (wd_V (by omega)) rfl (r_timeBehind hf8 _) rfl rfl rfl ?_
      rw [hτ _ (by omega)]
      rw [show (enE (some t) &&& σ (6 + 3 * fr i) 3) + σ (6 + 3 * fr i) 4 = nI (enT (bf_b (cd (fr i)) t)) from htb _ _ hf8 hdp (by omega) (by omega)]
      refine g_istore rfl (Nat.le_of_ble_eq_true rfl) ?_
      refine g_iload rfl rfl ?_
      refine g_aload_n rfl rfl ?_
      refine g_get rfl rfl wd_G rfl ?_
      refine g_iload rfl rfl ?_
      refine s_iald rfl a_5 rfl (by omega) ?_
      rw [h5 _ ht8]
      have hle := enE_le (o := rx_r fr to cd E i (to i)) (t := bf_b (cd (fr i)) t) (B := B + i + 1) (fun s hs => by
        obtain ⟨-, q1, q2⟩ := hok _ _ hs
        exact ⟨by omega, by omega⟩) (by omega) (by omega) (by omega)
      refine g_icmp_ge rfl (fun h => ?_) (fun h => ?_)
      · have hh := hle.mp h
        have hch0 : rx_ch (rx_r fr to cd E i) (fr i) (to i) (cd (fr i)) = false := by
          unfold rx_ch
          rw [hs]
          simp [hh]
        have hst : rx_r fr to cd E (i + 1) = rx_r fr to cd E i := rx_step_same hch0
        have hch : rx_rc fr to cd E (i + 1) = rx_rc fr to cd E i := by
          show (rx_rc fr to cd E i || rx_ch (rx_r fr to cd E i) (fr i) (to i) (cd (fr i))) = _
          rw [hch0]
          simp
        refine s_inc rfl rfl (nI_1 _) ?_
        refine g_goto rfl ?_
        refine kk _ _ ⟨?_, hτ, by rw [hst]; exact h5⟩
        rw [hch]
        exact ⟨_, _, _, rfl⟩
      · have hh : ¬ rx_has (rx_r fr to cd E i (to i)) (bf_b (cd (fr i)) t) = true := fun z => h (hle.mpr z)
        have hch0 : rx_ch (rx_r fr to cd E i) (fr i) (to i) (cd (fr i)) = true := by
          unfold rx_ch
          rw [hs]
          simp [hh]
        have hst : ∀ v, rx_r fr to cd E (i + 1) v = if v = to i then some (bf_b (cd (fr i)) t) else rx_r fr to cd E i v := fun v => by
          show rx_step (rx_r fr to cd E i) (fr i) (to i) (cd (fr i)) v = _
          rw [rx_step_some hs, rx_put_new hh]
        have hch : rx_rc fr to cd E (i + 1) = true := by
          show (rx_rc fr to cd E i || rx_ch (rx_r fr to cd E i) (fr i) (to i) (cd (fr i))) = _
          rw [hch0]
          simp
        refine g_aload_n rfl rfl ?_
        refine g_get rfl rfl wd_G rfl ?_
        refine g_iload rfl rfl ?_
        refine g_iload rfl rfl ?_
        refine s_iast rfl a_5 rfl (by omega) ?_
        refine s_ic (v := nI 1) rfl rfl ?_
        refine g_istore_n rfl (Nat.le_of_ble_eq_true rfl) ?_
        refine s_inc rfl rfl (nI_1 _) ?_
        refine g_goto rfl ?_
        refine kk _ _ ⟨?_, fun d hd => by rw [u2_row hd]; exact hτ d hd, fun v hv => ?_⟩
        · rw [hch]
          exact ⟨_, _, _, rfl⟩
        · rw [hst]
          by_cases hvt : v = to i
          · rw [if_pos hvt, hvt, u2_same]
            rfl
          · rw [if_neg hvt, u2_k hvt]
            exact h5 v hv
  · rintro _ τ ⟨⟨z3, z4, z5, rfl⟩, hτ, h5⟩
    refine g_iload_n rfl rfl ?_
    refine g_aload_n rfl rfl ?_
    refine g_get rfl rfl wd_G rfl ?_
    rw [hτ _ (by omega), hne]
    refine g_icmp_ge rfl (fun _ => ?_) (fun h => absurd (nI_le (Nat.le_refl _) (by omega)) h)
    refine g_iload_n rfl rfl ?_
    refine g_zret rfl rfl (bI_or _) ?_
    exact ⟨rfl, τ, rfl, hτ, h5⟩
/-- at the beginning the point's own vertex alone has counters -/
def beE (u : Nat) (t0 : Nat × Nat) : rx_E := fun v => if v = u then some t0 else none
theorem beE_ok {ne u : Nat} {t0 : Nat × Nat} {fr to cd : Nat → Nat} (h1 : t0.1 ≤ 15) (h2 : t0.2 ≤ 15) : rx_ok ne u t0 fr to cd 15 (beE u t0) := by
  intro v t h
  unfold beE at h
  by_cases hv : v = u
  · rw [if_pos hv] at h
    cases h
    rw [hv]
    exact ⟨⟨0, bf_R_0⟩, h1, h2⟩
  · rw [if_neg hv] at h
    cases h
theorem beE_u (u : Nat) (t0 : Nat × Nat) : ∃ x, beE u t0 u = some x ∧ bf_le x t0 := ⟨t0, by unfold beE; rw [if_pos rfl], bf_le.refl _⟩
theorem c_Vw {mi pc nx tg : Nat} {lo : am_L} {st stk : List Value} {xs : List Int32} {σ : wd_S} {P P' : Option Value → am_W → Prop} {i mi2 a ci : Nat} {As fs : List Value} (h : am_tb mi pc = some (.invokevirtual i, nx, tg)) (hr : am_r2 am_mR (am_ow mi) i = some mi2) (hk : Nat.blt (am_rk mi2) (am_rk mi) = true) (hkd : am_kd mi2 = 0) (hw : (wd xs σ)[a]? = some (.inr (.inr (ci, fs)))) (hci : am_ow mi2 = ci) (hE : am_Ev mi2 (.ref a :: As) (wd xs σ) P') (hst : stk = As.reverse ++ .ref a :: st) (hnp : am_np mi2 = As.length) (hrest : Nat.ble (am_cs st) 8 = true) (kk : ∀ v w', P' v w' → am_G mi nx lo (v.toList ++ st) w' P) : am_G mi pc lo stk (wd xs σ) P :=
  g_callV h hr hk hkd hw hci hE hst hnp hrest kk
theorem r_follow {xs : List Int32} {σ : wd_S} {ne u : Nat} {t0 : Nat × Nat} {fr to cd di do_ : Nat → Nat} (G : bf_gr ne u t0 fr to cd di do_) (hg : gOK σ ne fr to cd di) (h1 : t0.1 ≤ 15) (h2 : t0.2 ≤ 15) :
    am_Ev 35 [.ref 2, .int (nI u), .int (nI (enT t0))] (wd xs σ) (fun v w => v = none ∧ ∃ τ, w = wd xs τ ∧ (∀ d, d ≠ 5 → τ d = σ d) ∧ ∃ E, rx_least ne u t0 fr to cd E ∧ (∀ v s, E v = some s → s.1 ≤ 400 ∧ s.2 ≤ 400) ∧ ∀ v, v < 8 → τ 5 v = enE (E v)) := by
  refine am_Ev.of (n := 5) rfl rfl rfl rfl ?_
  have hu8 := G.1
  have hne12 := hg.2.1
  refine s_ic (v := nI 0) rfl rfl ?_
  refine g_istore_n rfl (Nat.le_of_ble_eq_true rfl) ?_
  refine am_for 8 (fun i lo τ => (∃ z4, lo = [some (.ref 2), some (.int (nI u)), some (.int (nI (enT t0))), some (.int (nI i)), z4]) ∧ (∀ d, d ≠ 5 → τ d = σ d) ∧ ∀ v, v < i → τ 5 v = 2147483647) ?_ ?_ 0 _ _ (Nat.zero_le _) ⟨⟨_, rfl⟩, fun _ _ => rfl, fun v h => absurd h (Nat.not_lt_zero v)⟩
  · rintro i _ τ hi ⟨⟨z4, rfl⟩, hτ, h5⟩ kk
    refine g_iload_n rfl rfl ?_
    refine s_bp (v := nI 8) rfl rfl ?_
    refine g_icmp_ge rfl (fun h => absurd h (nI_ge hi (by omega))) (fun _ => ?_)
    refine g_aload_n rfl rfl ?_
    refine g_get rfl rfl wd_G rfl ?_
    refine g_iload_n rfl rfl ?_
    refine g_ldc rfl rfl ?_
    refine s_iast rfl a_5 rfl (by omega) ?_
    refine s_inc rfl rfl (nI_1 _) ?_
    refine g_goto rfl ?_
    refine kk _ _ ⟨⟨_, rfl⟩, fun d hd => by rw [u2_row hd]; exact hτ d hd, fun v hv => ?_⟩
    by_cases hvi : v = i
    · rw [hvi, u2_same]
    · rw [u2_k hvi]
      exact h5 v (by omega)
  · rintro _ τ ⟨⟨z4, rfl⟩, hτ, h5⟩
    refine g_iload_n rfl rfl ?_
    refine s_bp (v := nI 8) rfl rfl ?_
    refine g_icmp_ge rfl (fun _ => ?_) (fun h => absurd (nI_le (Nat.le_refl _) (by omega)) h)
    refine g_aload_n rfl rfl ?_
    refine g_get rfl rfl wd_G rfl ?_
    refine g_iload_n rfl rfl ?_
    refine g_iload_n rfl rfl ?_
    refine s_iast rfl a_5 rfl (by omega) ?_
    refine s_ic (v := nI 1) rfl rfl ?_
    refine g_istore_n rfl (Nat.le_of_ble_eq_true rfl) ?_
    refine s_ic (v := nI 0) rfl rfl ?_
    refine g_istore rfl (Nat.le_of_ble_eq_true rfl) ?_
    have hn : ∀ k, k ≤ 24 → rx_ok ne u t0 fr to cd (15 + k * 12) (rx_n fr to cd ne (beE u t0) k) := by
      intro k hk v t hv
      obtain ⟨q1, q2, q3⟩ := rx_n_ok (beE_ok h1 h2) k v t hv
      have : k * ne ≤ k * 12 := Nat.mul_le_mul_left k hne12
      exact ⟨q1, by omega, by omega⟩
    have fin : ∀ (k : Nat) (lo : am_L) (τ : wd_S), k ≤ 24 → rx_least ne u t0 fr to cd (rx_n fr to cd ne (beE u t0) k) → (∀ d, d ≠ 5 → τ d = σ d) → (∀ v, v < 8 → τ 5 v = enE (rx_n fr to cd ne (beE u t0) k v)) → am_G 35 56 lo [] (wd xs τ) (fun v w => v = none ∧ ∃ τ, w = wd xs τ ∧ (∀ d, d ≠ 5 → τ d = σ d) ∧ ∃ E, rx_least ne u t0 fr to cd E ∧ (∀ v s, E v = some s → s.1 ≤ 400 ∧ s.2 ≤ 400) ∧ ∀ v, v < 8 → τ 5 v = enE (E v)) := by
      intro k lo τ hk hl hτ h5
      refine g_vret rfl rfl ?_
      exact ⟨rfl, τ, rfl, hτ, _, hl, fun v s hs => by
        obtain ⟨-, q2, q3⟩ := hn k hk v s hs
        exact ⟨by omega, by omega⟩, h5⟩
    refine am_for 24 (fun k lo τ => (∃ fl, lo = [some (.ref 2), some (.int (nI u)), some (.int (nI (enT t0))), some (.int (bI fl)), some (.int (nI k))] ∧ (fl = false → rx_least ne u t0 fr to cd (rx_n fr to cd ne (beE u t0) k))) ∧ (∀ d, d ≠ 5 → τ d = σ d) ∧ ∀ v, v < 8 → τ 5 v = enE (rx_n fr to cd ne (beE u t0) k v)) ?_ ?_ 0 _ _ (Nat.zero_le _) ⟨⟨true, rfl, fun h => by cases h⟩, fun d hd => by rw [u2_row hd]; exact hτ d hd, fun v hv => ?_⟩
    · rintro k _ τ hk ⟨⟨fl, rfl, hfl⟩, hτ, h5⟩ kk
      refine g_iload rfl rfl ?_
      refine s_bp (v := nI 24) rfl rfl ?_
      refine g_icmp_ge rfl (fun h => absurd h (nI_ge hk (by omega))) (fun _ => ?_)
      refine g_iload_n rfl rfl ?_
      cases fl with
      | false =>
        refine g_if_eq rfl (fun _ => ?_) (fun h => absurd (rfl) h)
        exact fin k _ τ (by omega) (hfl rfl) hτ h5
      | true =>
        refine g_if_eq rfl (fun h => absurd h (by decide)) (fun _ => ?_)
        refine g_aload_n rfl rfl ?_
        refine c_Vw rfl rfl rfl rfl wd_G rfl (r_followEdges G (hg.of hτ) (hn k (by omega)) (by omega) h5) rfl rfl rfl ?_
        rintro _ _ ⟨rfl, τ', rfl, hτ', h5'⟩
        show am_G 35 49 _ [.int (bI (rx_rc fr to cd (rx_n fr to cd ne (beE u t0) k) ne))] (wd xs τ') _
        refine g_istore_n rfl (Nat.le_of_ble_eq_true rfl) ?_
        refine s_inc rfl rfl (nI_1 _) ?_
        refine g_goto rfl ?_
        refine kk _ _ ⟨⟨_, rfl, fun hz => ?_⟩, fun d hd => by rw [hτ' d hd]; exact hτ d hd, h5'⟩
        have hs := rx_stable G (hn k (by omega)) ?_ hz
        · have hsame := (rx_r_same ne hz).1
          show rx_least ne u t0 fr to cd (rx_r fr to cd (rx_n fr to cd ne (beE u t0) k) ne)
          rw [hsame]
          exact hs
        · exact rx_n_le G (beE_ok h1 h2) (beE_u u t0) k 0 (Nat.zero_le _) _ _ bf_R_0
    · rintro _ τ ⟨⟨fl, rfl, hfl⟩, hτ, h5⟩
      refine g_iload rfl rfl ?_
      refine s_bp (v := nI 24) rfl rfl ?_
      refine g_icmp_ge rfl (fun _ => ?_) (fun h => absurd (nI_le (Nat.le_refl _) (by omega)) h)
      exact fin 24 _ τ (Nat.le_refl _) (rx_24 G (beE_ok h1 h2) (beE_u u t0) (by omega)) hτ h5
    · show u2 τ 5 u (nI (enT t0)) 5 v = enE (beE u t0 v)
      unfold beE
      by_cases hvu : v = u
      · rw [if_pos hvu, hvu, u2_same]
        rfl
      · rw [if_neg hvu, u2_k hvu]
        exact h5 v hv
