/-! The reference: ahead, fire. -/
/-- what isAhead leaves -/
def qM (xs : List Int32) (σ : wd_S) (R : Int32) : Option Value → am_W → Prop := fun v w => v = some (.int R) ∧ ∃ τ, w = wd xs τ ∧ sc6 σ τ
theorem c_Vm {mi pc nx tg : Nat} {lo : am_L} {st stk : List Value} {xs : List Int32} {σ : wd_S} {P : Option Value → am_W → Prop} {R : Int32} {i mi2 a ci : Nat} {As fs : List Value} (h : am_tb mi pc = some (.invokevirtual i, nx, tg)) (hr : am_r2 am_mR (am_ow mi) i = some mi2) (hk : Nat.blt (am_rk mi2) (am_rk mi) = true) (hkd : am_kd mi2 = 0) (hw : (wd xs σ)[a]? = some (.inr (.inr (ci, fs)))) (hci : am_ow mi2 = ci) (hE : am_Ev mi2 (.ref a :: As) (wd xs σ) (qM xs σ R)) (hst : stk = As.reverse ++ .ref a :: st) (hnp : am_np mi2 = As.length) (hrest : Nat.ble (am_cs st) 8 = true) (kk : ∀ τ, sc6 σ τ → am_G mi nx lo (.int R :: st) (wd xs τ) P) : am_G mi pc lo stk (wd xs σ) P :=
  c_Vw h hr hk hkd hw hci hE hst hnp hrest (by
    rintro _ _ ⟨rfl, τ, rfl, hτ⟩
    exact kk τ hτ)
theorem m_isAhead_v {xs : List Int32} {σ : wd_S} {ne u g ep eg r : Nat} {t0 tg : Nat × Nat} {fr to cd di do_ : Nat → Nat} (G : bf_gr ne u t0 fr to cd di do_) (hg : mgO σ ne fr to cd) (h0 : tmOK ep t0) (h1 : tmOK eg tg) (hg8 : g < 8) (hr : r < 32) (hro : mrO σ r g eg tg) :
    am_Ev 87 [.ref 66, .int (nI u), .int (nI ep), .int (nI t0.1), .int (nI t0.2), .int (nI r)] (wd xs σ) (qM xs σ (bI (pB (ep ≤ eg ∧ AH ne fr to cd u t0 g tg)))) := by
  have hu := G.1
  refine m_isAhead (S0 := (beE u t0, fun _ => none)) G hg h0 h1 hg8 hr hro (show u < 20 by omega) (fun p hp => ?_) ⟨beE_ok h0.2.1 h0.2.2, fun e t h => by cases h⟩ (Or.inl (beE_u u t0))
  unfold plE beE
  dsimp only
  by_cases hp8 : p < 8
  · rw [if_pos hp8]
  · rw [if_neg hp8, if_neg (by omega)]
theorem m_isAhead_e {xs : List Int32} {σ : wd_S} {ne e g ep eg r : Nat} {t0 tg : Nat × Nat} {fr to cd di do_ : Nat → Nat} (he : e < ne) (G : bf_gr ne (to e) t0 fr to cd di do_) (hg : mgO σ ne fr to cd) (h0 : tmOK ep t0) (h1 : tmOK eg tg) (hg8 : g < 8) (hr : r < 32) (hro : mrO σ r g eg tg) :
    am_Ev 87 [.ref 66, .int (nI (8 + e)), .int (nI ep), .int (nI t0.1), .int (nI t0.2), .int (nI r)] (wd xs σ) (qM xs σ (bI (pB (ep ≤ eg ∧ AH ne fr to cd (to e) t0 g tg)))) := by
  have hne := hg.2.1
  refine m_isAhead (S0 := (fun _ => none, beE e t0)) G hg h0 h1 hg8 hr hro (show 8 + e < 20 by omega) (fun p hp => ?_) ⟨(fun e t h => by cases h), fun i t h => ?_⟩ (Or.inr ⟨e, he, rfl, beE_u e t0⟩)
  · unfold plE beE
    dsimp only
    by_cases hp8 : p < 8
    · rw [if_pos hp8, if_neg (by omega)]
    · rw [if_neg hp8]
      by_cases hpe : p - 8 = e
      · rw [if_pos hpe, if_pos (by omega)]
      · rw [if_neg hpe, if_neg (by omega)]
  · change beE e t0 i = some t at h
    unfold beE at h
    split at h
    · rename_i hie
      cases h
      rw [hie]
      exact ⟨⟨0, bf_R_0⟩, h0.2.1, h0.2.2⟩
    · cases h
/-- the reference's state as far as 'ahead' looks at it -/
def mAO (σ : wd_S) (nv ne q : Nat) (fr to cd di do_ : Nat → Nat) (cn ee : Nat → Nat) (op : Nat → Bool) (me : Nat → Nat → Nat) (mt : Nat → Nat → Nat × Nat) (qg qe : Nat → Nat) (qt : Nat → Nat × Nat) : Prop :=
  mgO σ ne fr to cd ∧ (σ 66 1 = nI nv ∧ nv ≤ 8) ∧ (σ 66 14 = nI q ∧ q ≤ 32) ∧
  (∀ e, e < ne → σ 75 e = nI (cn e) ∧ cn e ≤ 6 ∧ ∀ k, k < cn e → σ 77 (18 * e + 3 * k) = nI (me e k) ∧ σ 77 (18 * e + 3 * k + 1) = nI (mt e k).1 ∧ σ 77 (18 * e + 3 * k + 2) = nI (mt e k).2 ∧ tmOK (me e k) (mt e k) ∧ bf_gr ne (to e) (mt e k) fr to cd di do_) ∧
  (∀ r, r < q → mrO σ r (qg r) (qe r) (qt r) ∧ qg r < 8 ∧ tmOK (qe r) (qt r) ∧ bf_gr ne (qg r) (qt r) fr to cd di do_) ∧
  (∀ v, v < nv → σ 71 v = bI (op v) ∧ (op v = true → σ 70 v = nI (ee v) ∧ ee v ≤ 15 ∧ bf_gr ne v (0, 0) fr to cd di do_))
theorem mAO.of {σ τ : wd_S} {nv ne q : Nat} {fr to cd di do_ : Nat → Nat} {cn ee : Nat → Nat} {op : Nat → Bool} {me : Nat → Nat → Nat} {mt : Nat → Nat → Nat × Nat} {qg qe : Nat → Nat} {qt : Nat → Nat × Nat} (h : mAO σ nv ne q fr to cd di do_ cn ee op me mt qg qe qt) (hs : sc6 σ τ) : mAO τ nv ne q fr to cd di do_ cn ee op me mt qg qe qt := by
  obtain ⟨h1, h2, h3, h4, h5, h6⟩ := h
  refine ⟨h1.of hs, by rw [hs.2 _ (by omega) (by omega)]; exact h2, by rw [hs.2 _ (by omega) (by omega)]; exact h3, ?_, fun r hr => ?_, ?_⟩
  · rw [hs.1 75 (by omega) (by omega) (by omega) (by omega), hs.1 77 (by omega) (by omega) (by omega) (by omega)]
    exact h4
  · obtain ⟨a, b⟩ := h5 r hr
    exact ⟨a.of hs, b⟩
  · rw [hs.1 71 (by omega) (by omega) (by omega) (by omega), hs.1 70 (by omega) (by omega) (by omega) (by omega)]
    exact h6
noncomputable def maM (σ : wd_S) (ne : Nat) (fr to cd : Nat → Nat) (me : Nat → Nat → Nat) (mt : Nat → Nat → Nat × Nat) (g eg : Nat) (tg : Nat × Nat) (e k : Nat) : Bool := !(anyB (stB σ e k) k) && pB (me e k ≤ eg ∧ AH ne fr to cd (to e) (mt e k) g tg)
noncomputable def maR (ne : Nat) (fr to cd : Nat → Nat) (qg qe : Nat → Nat) (qt : Nat → Nat × Nat) (r s : Nat) : Bool := !(decide (s = r)) && pB (qe s ≤ qe r ∧ AH ne fr to cd (qg s) (qt s) (qg r) (qt r))
noncomputable def maV (ne : Nat) (fr to cd ee : Nat → Nat) (op : Nat → Bool) (g eg : Nat) (tg : Nat × Nat) (v : Nat) : Bool := op v && pB (ee v ≤ eg ∧ AH ne fr to cd v (0, 0) g tg)
noncomputable def maA (σ : wd_S) (nv ne q : Nat) (fr to cd : Nat → Nat) (cn ee : Nat → Nat) (op : Nat → Bool) (me : Nat → Nat → Nat) (mt : Nat → Nat → Nat × Nat) (qg qe : Nat → Nat) (qt : Nat → Nat × Nat) (r : Nat) : Nat := sumN (fun e => cnt (maM σ ne fr to cd me mt (qg r) (qe r) (qt r) e) (cn e)) ne + cnt (maR ne fr to cd qg qe qt r) q + cnt (maV ne fr to cd ee op (qg r) (qe r) (qt r)) nv
theorem cnt_b {p : Nat → Bool} {n : Nat} {b : Bool} (h : p n = b) : cnt p (n + 1) = cnt p n + b.toNat := by
  cases b with
  | true => exact cnt_t h
  | false => exact cnt_f h
theorem bI_toNat (b : Bool) : bI b = nI b.toNat := by cases b <;> rfl
theorem m_aheadOf {xs : List Int32} {σ : wd_S} {nv ne q : Nat} {fr to cd di do_ : Nat → Nat} {cn ee : Nat → Nat} {op : Nat → Bool} {me : Nat → Nat → Nat} {mt : Nat → Nat → Nat × Nat} {qg qe : Nat → Nat} {qt : Nat → Nat × Nat} (h : mAO σ nv ne q fr to cd di do_ cn ee op me mt qg qe qt) {r : Nat} (hr : r < q) :
    am_Ev 89 [.ref 66, .int (nI r)] (wd xs σ) (qM xs σ (nI (maA σ nv ne q fr to cd cn ee op me mt qg qe qt r))) := by
  obtain ⟨hg, ⟨hnv, hnv8⟩, ⟨hq, hq32⟩, hE, hR, hV⟩ := id h
  obtain ⟨r1, r2, r3, r4⟩ := hR r hr
  have hne12 := hg.2.1
  refine am_Ev.of (n := 7) rfl rfl rfl rfl ?_
  refine s_ic (v := nI 0) rfl rfl ?_
  refine g_istore_n rfl (Nat.le_of_ble_eq_true rfl) ?_
  refine s_ic (v := nI 0) rfl rfl ?_
  refine g_istore_n rfl (Nat.le_of_ble_eq_true rfl) ?_
  refine am_for ne (fun i lo τ => (∃ z4 z5 z6, lo = [some (.ref 66), some (.int (nI r)), some (.int (nI (sumN (fun e => cnt (maM σ ne fr to cd me mt (qg r) (qe r) (qt r) e) (cn e)) i))), some (.int (nI i)), z4, z5, z6]) ∧ sc6 σ τ) ?_ ?_ 0 _ _ (Nat.zero_le _) ⟨⟨_, _, _, rfl⟩, sc6.refl σ⟩
  · rintro i _ τ hi ⟨⟨z4, z5, z6, rfl⟩, hs⟩ kk
    obtain ⟨c1, c2, c3⟩ := hE i hi
    refine g_iload_n rfl rfl ?_
    refine g_aload_n rfl rfl ?_
    refine g_get rfl rfl wd_M rfl ?_
    rw [hs.2 _ (by omega) (by omega), hg.1]
    refine g_icmp_ge rfl (fun h => absurd h (nI_ge hi (by omega))) (fun _ => ?_)
    refine s_ic (v := nI 0) rfl rfl ?_
    refine g_istore rfl (Nat.le_of_ble_eq_true rfl) ?_
    refine am_for (cn i) (fun k lo τ => (∃ z5 z6, lo = [some (.ref 66), some (.int (nI r)), some (.int (nI (sumN (fun e => cnt (maM σ ne fr to cd me mt (qg r) (qe r) (qt r) e) (cn e)) i + cnt (maM σ ne fr to cd me mt (qg r) (qe r) (qt r) i) k))), some (.int (nI i)), some (.int (nI k)), z5, z6]) ∧ sc6 σ τ) ?_ ?_ 0 _ _ (Nat.zero_le _) ⟨⟨_, _, rfl⟩, hs⟩
    · rintro k _ τ hk ⟨⟨z5, z6, rfl⟩, hs⟩ kk2
      obtain ⟨k1, k2, k3, k4, k5⟩ := c3 k hk
      have h77 := hs.1 77 (by omega) (by omega) (by omega) (by omega)
      have e1 : τ 77 (18 * i + 3 * k) = nI (me i k) := by rw [h77]; exact k1
      have e2 : τ 77 (18 * i + 3 * k + 1) = nI (mt i k).1 := by rw [h77]; exact k2
      have e3 : τ 77 (18 * i + 3 * k + 2) = nI (mt i k).2 := by rw [h77]; exact k3
      have hst : stB τ i k = stB σ i k := funext fun j => by
        unfold stB
        rw [h77]
      have last : ∀ (b : Bool) (τ2 : wd_S) (z5 : Option Value), maM σ ne fr to cd me mt (qg r) (qe r) (qt r) i k = b → sc6 σ τ2 → am_G 89 89 [some (.ref 66), some (.int (nI r)), some (.int (nI (sumN (fun e => cnt (maM σ ne fr to cd me mt (qg r) (qe r) (qt r) e) (cn e)) i + cnt (maM σ ne fr to cd me mt (qg r) (qe r) (qt r) i) k))), some (.int (nI i)), some (.int (nI k)), z5, z6] [.int (bI b)] (wd xs τ2) (qM xs σ (nI (maA σ nv ne q fr to cd cn ee op me mt qg qe qt r))) := by
        intro b τ2 z5 hb hs2
        refine g_istore rfl (Nat.le_of_ble_eq_true rfl) ?_
        refine g_iload_n rfl rfl ?_
        refine g_iload rfl rfl ?_
        cases b with
        | true =>
          refine g_if_eq rfl (fun h => absurd h (by decide)) (fun _ => ?_)
          refine s_ic (v := nI 1) rfl rfl ?_
          refine g_goto rfl ?_
          refine g_iadd rfl ?_
          rw [nI_add]
          refine g_istore_n rfl (Nat.le_of_ble_eq_true rfl) ?_
          refine s_inc rfl rfl (nI_1 _) ?_
          refine g_goto rfl ?_
          refine kk2 _ _ ⟨?_, hs2⟩
          rw [cnt_t hb]
          exact ⟨_, _, rfl⟩
        | false =>
          refine g_if_eq rfl (fun _ => ?_) (fun h => absurd (rfl) h)
          refine s_ic (v := nI 0) rfl rfl ?_
          refine g_iadd rfl ?_
          rw [nI_add]
          refine g_istore_n rfl (Nat.le_of_ble_eq_true rfl) ?_
          refine s_inc rfl rfl (nI_1 _) ?_
          refine g_goto rfl ?_
          refine kk2 _ _ ⟨?_, hs2⟩
          rw [cnt_f hb]
          exact ⟨_, _, rfl⟩
      refine g_iload rfl rfl ?_
      refine g_aload_n rfl rfl ?_
      refine g_get rfl rfl wd_M rfl ?_
      refine g_iload_n rfl rfl ?_
      refine s_iald rfl a_75 rfl (by omega) ?_
      rw [hs.1 75 (by omega) (by omega) (by omega) (by omega), c1]
      refine g_icmp_ge rfl (fun h => absurd h (nI_ge hk (by omega))) (fun _ => ?_)
      refine s_bp (v := nI 18) rfl rfl ?_
      refine g_iload_n rfl rfl ?_
      refine g_imul rfl ?_
      rw [pk_mul]
      refine s_ic (v := nI 3) rfl rfl ?_
      refine g_iload rfl rfl ?_
      refine g_imul rfl ?_
      rw [pk_mul]
      refine g_iadd rfl ?_
      rw [nI_add]
      refine g_istore rfl (Nat.le_of_ble_eq_true rfl) ?_
      refine g_aload_n rfl rfl ?_
      refine g_iload_n rfl rfl ?_
      refine g_iload rfl rfl ?_
      refine c_V rfl rfl rfl rfl wd_M rfl (m_again (show i < 12 by omega) (show k < 6 by omega)) rfl rfl rfl ?_
      rw [hst]
      cases ha : anyB (stB σ i k) k with
      | true =>
        refine g_if_ne rfl (fun _ => ?_) (fun h => absurd h (by decide))
        refine s_ic (v := nI 0) rfl rfl ?_
        exact last false τ _ (by unfold maM; rw [ha]; rfl) hs
      | false =>
        refine g_if_ne rfl (fun h => absurd (rfl) h) (fun _ => ?_)
        refine g_aload_n rfl rfl ?_
        refine s_bp (v := nI 8) rfl rfl ?_
        refine g_iload_n rfl rfl ?_
        refine g_iadd rfl ?_
        rw [nI_add]
        refine g_aload_n rfl rfl ?_
        refine g_get rfl rfl wd_M rfl ?_
        refine g_iload rfl rfl ?_
        refine s_iald rfl a_77 rfl (by omega) ?_
        rw [e1]
        refine g_aload_n rfl rfl ?_
        refine g_get rfl rfl wd_M rfl ?_
        refine g_iload rfl rfl ?_
        refine s_ic (v := nI 1) rfl rfl ?_
        refine g_iadd rfl ?_
        rw [nI_add]
        refine s_iald rfl a_77 rfl (by omega) ?_
        rw [e2]
        refine g_aload_n rfl rfl ?_
        refine g_get rfl rfl wd_M rfl ?_
        refine g_iload rfl rfl ?_
        refine s_ic (v := nI 2) rfl rfl ?_
        refine g_iadd rfl ?_
        rw [nI_add]
        refine s_iald rfl a_77 rfl (by omega) ?_
        rw [e3]
        refine g_iload_n rfl rfl ?_
        refine c_Vm rfl rfl rfl rfl wd_M rfl (m_isAhead_e hi k5 (hg.of hs) k4 r3 r2 (by omega) (r1.of hs)) rfl rfl rfl fun τ2 hs2 => ?_
        cases hp : pB (me i k ≤ qe r ∧ AH ne fr to cd (to i) (mt i k) (qg r) (qt r)) with
        | true =>
          refine g_if_eq rfl (fun h => absurd h (by decide)) (fun _ => ?_)
          refine s_ic (v := nI 1) rfl rfl ?_
          refine g_goto rfl ?_
          exact last true τ2 _ (by unfold maM; rw [ha, hp]; rfl) (hs.trans hs2)
        | false =>
          refine g_if_eq rfl (fun _ => ?_) (fun h => absurd (rfl) h)
          refine s_ic (v := nI 0) rfl rfl ?_
          exact last false τ2 _ (by unfold maM; rw [ha, hp]; rfl) (hs.trans hs2)
    · rintro _ τ ⟨⟨z5, z6, rfl⟩, hs⟩
      refine g_iload rfl rfl ?_
      refine g_aload_n rfl rfl ?_
      refine g_get rfl rfl wd_M rfl ?_
      refine g_iload_n rfl rfl ?_
      refine s_iald rfl a_75 rfl (by omega) ?_
      rw [hs.1 75 (by omega) (by omega) (by omega) (by omega), c1]
      refine g_icmp_ge rfl (fun _ => ?_) (fun h => absurd (nI_le (Nat.le_refl _) (by omega)) h)
      refine s_inc rfl rfl (nI_1 _) ?_
      refine g_goto rfl ?_
      exact kk _ _ ⟨⟨_, _, _, rfl⟩, hs⟩
  · rintro _ τ ⟨⟨z4, z5, z6, rfl⟩, hs⟩
    refine g_iload_n rfl rfl ?_
    refine g_aload_n rfl rfl ?_
    refine g_get rfl rfl wd_M rfl ?_
    rw [hs.2 _ (by omega) (by omega), hg.1]
    refine g_icmp_ge rfl (fun _ => ?_) (fun h => absurd (nI_le (Nat.le_refl _) (by omega)) h)
    refine s_ic (v := nI 0) rfl rfl ?_
    refine g_istore_n rfl (Nat.le_of_ble_eq_true rfl) ?_
    have hA : maA σ nv ne q fr to cd cn ee op me mt qg qe qt r = sumN (fun e => cnt (maM σ ne fr to cd me mt (qg r) (qe r) (qt r) e) (cn e)) ne + cnt (maR ne fr to cd qg qe qt r) q + cnt (maV ne fr to cd ee op (qg r) (qe r) (qt r)) nv := rfl
    generalize sumN (fun e => cnt (maM σ ne fr to cd me mt (qg r) (qe r) (qt r) e) (cn e)) ne = A at hA ⊢
    refine am_for q (fun i lo τ => (∃ z4 z5 z6, lo = [some (.ref 66), some (.int (nI r)), some (.int (nI (A + cnt (maR ne fr to cd qg qe qt r) i))), some (.int (nI i)), z4, z5, z6]) ∧ sc6 σ τ) ?_ ?_ 0 _ _ (Nat.zero_le _) ⟨⟨_, _, _, rfl⟩, hs⟩
    · rintro i _ τ hi ⟨⟨z4, z5, z6, rfl⟩, hs⟩ kk
      obtain ⟨i1, i2, i3, i4⟩ := hR i hi
      obtain ⟨e0, e1, e2, e3⟩ := i1.of hs
      have last : ∀ (b : Bool) (τ2 : wd_S), maR ne fr to cd qg qe qt r i = b → sc6 σ τ2 → am_G 89 178 [some (.ref 66), some (.int (nI r)), some (.int (nI (A + cnt (maR ne fr to cd qg qe qt r) i))), some (.int (nI i)), z4, z5, z6] [.int (bI b)] (wd xs τ2) (qM xs σ (nI (maA σ nv ne q fr to cd cn ee op me mt qg qe qt r))) := by
        intro b τ2 hb hs2
        refine g_istore rfl (Nat.le_of_ble_eq_true rfl) ?_
        refine g_iload_n rfl rfl ?_
        refine g_iload rfl rfl ?_
        cases b with
        | true =>
          refine g_if_eq rfl (fun h => absurd h (by decide)) (fun _ => ?_)
          refine s_ic (v := nI 1) rfl rfl ?_
          refine g_goto rfl ?_
          refine g_iadd rfl ?_
          rw [nI_add]
          refine g_istore_n rfl (Nat.le_of_ble_eq_true rfl) ?_
          refine s_inc rfl rfl (nI_1 _) ?_
          refine g_goto rfl ?_
          refine kk _ _ ⟨?_, hs2⟩
          rw [cnt_t hb]
          exact ⟨_, _, _, rfl⟩
        | false =>
          refine g_if_eq rfl (fun _ => ?_) (fun h => absurd (rfl) h)
          refine s_ic (v := nI 0) rfl rfl ?_
          refine g_iadd rfl ?_
          rw [nI_add]
          refine g_istore_n rfl (Nat.le_of_ble_eq_true rfl) ?_
          refine s_inc rfl rfl (nI_1 _) ?_
          refine g_goto rfl ?_
          refine kk _ _ ⟨?_, hs2⟩
          rw [cnt_f hb]
          exact ⟨_, _, _, rfl⟩
      refine g_iload_n rfl rfl ?_
      refine g_aload_n rfl rfl ?_
      refine g_get rfl rfl wd_M rfl ?_
      rw [hs.2 _ (by omega) (by omega), hq]
      refine g_icmp_ge rfl (fun h => absurd h (nI_ge hi (by omega))) (fun _ => ?_)
      refine g_iload_n rfl rfl ?_
      refine g_iload_n rfl rfl ?_
      by_cases hir : i = r
      · refine g_icmp_eq rfl (fun _ => ?_) (fun h => absurd ((show nI i = nI r by rw [hir])) h)
        refine s_ic (v := nI 0) rfl rfl ?_
        exact last false τ (by unfold maR; rw [decide_eq_true hir]; rfl) hs
      · refine g_icmp_eq rfl (fun h => absurd h ((fun z => hir ((nI_eq (by omega) (by omega)).mp z)))) (fun _ => ?_)
        refine g_aload_n rfl rfl ?_
        refine g_aload_n rfl rfl ?_
        refine g_get rfl rfl wd_M rfl ?_
        refine g_iload_n rfl rfl ?_
        refine s_iald rfl a_78 rfl (by omega) ?_
        rw [e0]
        refine g_aload_n rfl rfl ?_
        refine g_get rfl rfl wd_M rfl ?_
        refine s_ic (v := nI 3) rfl rfl ?_
        refine g_iload_n rfl rfl ?_
        refine g_imul rfl ?_
        rw [pk_mul]
        refine s_iald rfl a_79 rfl (by omega) ?_
        rw [e1]
        refine g_aload_n rfl rfl ?_
        refine g_get rfl rfl wd_M rfl ?_
        refine s_ic (v := nI 3) rfl rfl ?_
        refine g_iload_n rfl rfl ?_
        refine g_imul rfl ?_
        rw [pk_mul]
        refine s_ic (v := nI 1) rfl rfl ?_
        refine g_iadd rfl ?_
        rw [nI_add]
        refine s_iald rfl a_79 rfl (by omega) ?_
        rw [e2]
        refine g_aload_n rfl rfl ?_
        refine g_get rfl rfl wd_M rfl ?_
        refine s_ic (v := nI 3) rfl rfl ?_
        refine g_iload_n rfl rfl ?_
        refine g_imul rfl ?_
        rw [pk_mul]
        refine s_ic (v := nI 2) rfl rfl ?_
        refine g_iadd rfl ?_
        rw [nI_add]
        refine s_iald rfl a_79 rfl (by omega) ?_
        rw [e3]
        refine g_iload_n rfl rfl ?_
        refine c_Vm rfl rfl rfl rfl wd_M rfl (m_isAhead_v i4 (hg.of hs) i3 r3 r2 (by omega) (r1.of hs)) rfl rfl rfl fun τ2 hs2 => ?_
        cases hp : pB (qe i ≤ qe r ∧ AH ne fr to cd (qg i) (qt i) (qg r) (qt r)) with
        | true =>
          refine g_if_eq rfl (fun h => absurd h (by decide)) (fun _ => ?_)
          refine s_ic (v := nI 1) rfl rfl ?_
          refine g_goto rfl ?_
          exact last true τ2 (by unfold maR; rw [decide_eq_false hir, hp]; rfl) (hs.trans hs2)
        | false =>
          refine g_if_eq rfl (fun _ => ?_) (fun h => absurd (rfl) h)
          refine s_ic (v := nI 0) rfl rfl ?_
          exact last false τ2 (by unfold maR; rw [decide_eq_false hir, hp]; rfl) (hs.trans hs2)
    · rintro _ τ ⟨⟨z4, z5, z6, rfl⟩, hs⟩
      refine g_iload_n rfl rfl ?_
      refine g_aload_n rfl rfl ?_
      refine g_get rfl rfl wd_M rfl ?_
      rw [hs.2 _ (by omega) (by omega), hq]
      refine g_icmp_ge rfl (fun _ => ?_) (fun h => absurd (nI_le (Nat.le_refl _) (by omega)) h)
      refine s_ic (v := nI 0) rfl rfl ?_
      refine g_istore_n rfl (Nat.le_of_ble_eq_true rfl) ?_
      generalize A + cnt (maR ne fr to cd qg qe qt r) q = A at hA ⊢
      refine am_for nv (fun i lo τ => (∃ z4 z5 z6, lo = [some (.ref 66), some (.int (nI r)), some (.int (nI (A + cnt (maV ne fr to cd ee op (qg r) (qe r) (qt r)) i))), some (.int (nI i)), z4, z5, z6]) ∧ sc6 σ τ) ?_ ?_ 0 _ _ (Nat.zero_le _) ⟨⟨_, _, _, rfl⟩, hs⟩
      · rintro i _ τ hi ⟨⟨z4, z5, z6, rfl⟩, hs⟩ kk
        obtain ⟨i1, i2⟩ := hV i hi
        have last : ∀ (b : Bool) (τ2 : wd_S), maV ne fr to cd ee op (qg r) (qe r) (qt r) i = b → sc6 σ τ2 → am_G 89 240 [some (.ref 66), some (.int (nI r)), some (.int (nI (A + cnt (maV ne fr to cd ee op (qg r) (qe r) (qt r)) i))), some (.int (nI i)), z4, z5, z6] [.int (bI b)] (wd xs τ2) (qM xs σ (nI (maA σ nv ne q fr to cd cn ee op me mt qg qe qt r))) := by
          intro b τ2 hb hs2
          refine g_istore rfl (Nat.le_of_ble_eq_true rfl) ?_
          refine g_iload_n rfl rfl ?_
          refine g_iload rfl rfl ?_
          cases b with
          | true =>
            refine g_if_eq rfl (fun h => absurd h (by decide)) (fun _ => ?_)
            refine s_ic (v := nI 1) rfl rfl ?_
            refine g_goto rfl ?_
            refine g_iadd rfl ?_
            rw [nI_add]
            refine g_istore_n rfl (Nat.le_of_ble_eq_true rfl) ?_
            refine s_inc rfl rfl (nI_1 _) ?_
            refine g_goto rfl ?_
            refine kk _ _ ⟨?_, hs2⟩
            rw [cnt_t hb]
            exact ⟨_, _, _, rfl⟩
          | false =>
            refine g_if_eq rfl (fun _ => ?_) (fun h => absurd (rfl) h)
            refine s_ic (v := nI 0) rfl rfl ?_
            refine g_iadd rfl ?_
            rw [nI_add]
            refine g_istore_n rfl (Nat.le_of_ble_eq_true rfl) ?_
            refine s_inc rfl rfl (nI_1 _) ?_
            refine g_goto rfl ?_
            refine kk _ _ ⟨?_, hs2⟩
            rw [cnt_f hb]
            exact ⟨_, _, _, rfl⟩
        refine g_iload_n rfl rfl ?_
        refine g_aload_n rfl rfl ?_
        refine g_get rfl rfl wd_M rfl ?_
        rw [hs.2 _ (by omega) (by omega), hnv]
        refine g_icmp_ge rfl (fun h => absurd h (nI_ge hi (by omega))) (fun _ => ?_)
        refine g_aload_n rfl rfl ?_
        refine g_get rfl rfl wd_M rfl ?_
        refine g_iload_n rfl rfl ?_
        refine s_zald rfl a_71 rfl (by omega) ?_
        rw [hs.1 71 (by omega) (by omega) (by omega) (by omega), i1]
        cases ho : op i with
        | false =>
          refine g_if_eq rfl (fun _ => ?_) (fun h => absurd (rfl) h)
          refine s_ic (v := nI 0) rfl rfl ?_
          exact last false τ (by unfold maV; rw [ho]; rfl) hs
        | true =>
          obtain ⟨v1, v2, v3⟩ := i2 ho
          refine g_if_eq rfl (fun h => absurd h (by decide)) (fun _ => ?_)
          refine g_aload_n rfl rfl ?_
          refine g_iload_n rfl rfl ?_
          refine g_aload_n rfl rfl ?_
          refine g_get rfl rfl wd_M rfl ?_
          refine g_iload_n rfl rfl ?_
          refine s_iald rfl a_70 rfl (by omega) ?_
          rw [hs.1 70 (by omega) (by omega) (by omega) (by omega), v1]
          refine s_ic (v := nI 0) rfl rfl ?_
          refine s_ic (v := nI 0) rfl rfl ?_
          refine g_iload_n rfl rfl ?_
          refine c_Vm rfl rfl rfl rfl wd_M rfl (m_isAhead_v (t0 := (0, 0)) v3 (hg.of hs) ⟨v2, Nat.zero_le _, Nat.zero_le _⟩ r3 r2 (by omega) (r1.of hs)) rfl rfl rfl fun τ2 hs2 => ?_
          cases hp : pB (ee i ≤ qe r ∧ AH ne fr to cd i (0, 0) (qg r) (qt r)) with
          | true =>
            refine g_if_eq rfl (fun h => absurd h (by decide)) (fun _ => ?_)
            refine s_ic (v := nI 1) rfl rfl ?_
            refine g_goto rfl ?_
            exact last true τ2 (by unfold maV; rw [ho, hp]; rfl) (hs.trans hs2)
          | false =>
            refine g_if_eq rfl (fun _ => ?_) (fun h => absurd (rfl) h)
            refine s_ic (v := nI 0) rfl rfl ?_
            exact last false τ2 (by unfold maV; rw [ho, hp]; rfl) (hs.trans hs2)
      · rintro _ τ ⟨⟨z4, z5, z6, rfl⟩, hs⟩
        refine g_iload_n rfl rfl ?_
        refine g_aload_n rfl rfl ?_
        refine g_get rfl rfl wd_M rfl ?_
        rw [hs.2 _ (by omega) (by omega), hnv]
        refine g_icmp_ge rfl (fun _ => ?_) (fun h => absurd (nI_le (Nat.le_refl _) (by omega)) h)
        refine g_iload_n rfl rfl ?_
        refine g_iret rfl rfl ?_
        rw [hA]
        exact ⟨rfl, τ, rfl, hs⟩
theorem m_ahead_bad {xs : List Int32} {σ : wd_S} {q : Nat} (hq : σ 66 14 = nI q) (hq32 : q ≤ 32) (x : Int32) (h : nuF σ q x = none) : ev xs 90 [.ref 66, .int x] σ (-1) σ := by
  refine am_Ev.of (n := 3) rfl rfl rfl rfl ?_
  refine g_aload_n rfl rfl ?_
  refine g_iload_n rfl rfl ?_
  refine c_V rfl rfl rfl rfl wd_M rfl (m_numbered hq hq32 x) rfl rfl rfl ?_
  rw [h]
  refine g_istore_n rfl (Nat.le_of_ble_eq_true rfl) ?_
  refine g_iload_n rfl rfl ?_
  refine g_if_ge rfl (fun h => absurd h (by decide)) (fun _ => ?_)
  refine s_ic (v := -1) rfl rfl ?_
  refine g_goto rfl ?_
  refine g_iret rfl rfl ?_
  exact ⟨rfl, rfl⟩
theorem m_ahead {xs : List Int32} {σ : wd_S} {nv ne q : Nat} {fr to cd di do_ : Nat → Nat} {cn ee : Nat → Nat} {op : Nat → Bool} {me : Nat → Nat → Nat} {mt : Nat → Nat → Nat × Nat} {qg qe : Nat → Nat} {qt : Nat → Nat × Nat} (h : mAO σ nv ne q fr to cd di do_ cn ee op me mt qg qe qt) (x : Int32) {r : Nat} (hr : nuF σ q x = some r) :
    am_Ev 90 [.ref 66, .int x] (wd xs σ) (qM xs σ (nI (maA σ nv ne q fr to cd cn ee op me mt qg qe qt r))) := by
  obtain ⟨hq, hq32⟩ := h.2.2.1
  have hrq : r < q := (fst1_lt hr).1
  refine am_Ev.of (n := 3) rfl rfl rfl rfl ?_
  refine g_aload_n rfl rfl ?_
  refine g_iload_n rfl rfl ?_
  refine c_V rfl rfl rfl rfl wd_M rfl (m_numbered hq hq32 x) rfl rfl rfl ?_
  rw [hr]
  refine g_istore_n rfl (Nat.le_of_ble_eq_true rfl) ?_
  refine g_iload_n rfl rfl ?_
  refine g_if_ge rfl (fun _ => ?_) (fun h => absurd ((oI_neg (o := some r) (r := q) (fun j h => by cases h; exact hrq) (by omega)).mpr rfl) h)
  refine g_aload_n rfl rfl ?_
  refine g_iload_n rfl rfl ?_
  refine c_Vm rfl rfl rfl rfl wd_M rfl (m_aheadOf h hrq) rfl rfl rfl fun τ hs => ?_
  refine g_iret rfl rfl ?_
  exact ⟨rfl, τ, rfl, hs⟩
