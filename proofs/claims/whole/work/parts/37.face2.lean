/-! The class's face: inputs. -/
def riB (σ : wd_S) (b : Bool) (n : Nat) (x : Int32) : Bool := !b && (inB x n && decide (σ (6 + 3 * x.toNatClampNeg) 0 = 0))
theorem r_running {xs : List Int32} {σ : wd_S} {n : Nat} {b : Bool} (hn : σ 2 2 = nI n) (hn8 : n ≤ 8) (hb : σ 1 1 = bI b) (x : Int32) : ev xs 18 [.ref 1, .int x] σ (bI (riB σ b n x)) σ := by
  refine am_Ev.of (n := 2) rfl rfl rfl rfl ?_
  have bad : riB σ b n x = false → ∀ lo, am_G 18 37 lo [] (wd xs σ) (po xs (bI (riB σ b n x)) σ) := by
    intro hz lo
    refine s_ic (v := nI 0) rfl rfl ?_
    refine g_zret rfl rfl (by decide) ?_
    rw [hz]
    exact ⟨rfl, rfl⟩
  refine g_aload_n rfl rfl ?_
  refine g_get rfl rfl wd_F rfl ?_
  rw [hb]
  cases b with
  | true =>
    refine g_if_ne rfl (fun _ => ?_) (fun h => absurd h (by decide))
    exact bad rfl _
  | false =>
    refine g_if_ne rfl (fun h => absurd (rfl) h) (fun _ => ?_)
    refine g_aload_n rfl rfl ?_
    refine g_get rfl rfl wd_F rfl ?_
    refine g_iload_n rfl rfl ?_
    refine c_V rfl rfl rfl rfl wd_G rfl (r_hasV hn x) rfl rfl rfl ?_
    cases hx : inB x n with
    | false =>
      refine g_if_eq rfl (fun _ => ?_) (fun h => absurd (rfl) h)
      exact bad (by simp [riB, hx]) _
    | true =>
      refine g_if_eq rfl (fun h => absurd h (by decide)) (fun _ => ?_)
      obtain ⟨i, hi, rfl⟩ := inB_ex (by omega) hx
      refine g_aload_n rfl rfl ?_
      refine g_get rfl rfl wd_F rfl ?_
      refine g_get rfl rfl wd_G rfl ?_
      refine g_iload_n rfl rfl ?_
      refine s_aV rfl rfl (by omega) ?_
      refine g_get rfl rfl (wd_V (by omega)) rfl ?_
      refine g_if_ne rfl (fun h => ?_) (fun h => ?_)
      · exact bad (by unfold riB; rw [nI_clamp (by omega), decide_eq_false h]; simp) _
      · refine s_ic (v := nI 1) rfl rfl ?_
        refine g_goto rfl ?_
        refine g_zret rfl rfl (by decide) ?_
        refine ⟨?_, rfl⟩
        have hz : riB σ false n (nI i) = true := by
          unfold riB
          rw [nI_clamp (by omega), decide_eq_true h, hx]
          rfl
        rw [hz]
        rfl
theorem riB_ex {σ : wd_S} {b : Bool} {n : Nat} {x : Int32} (hn : n ≤ 8) (h : riB σ b n x = true) : ∃ j, j < n ∧ x = nI j ∧ b = false ∧ σ (6 + 3 * j) 0 = 0 := by
  unfold riB at h
  rw [Bool.and_eq_true, Bool.and_eq_true, decide_eq_true_eq] at h
  obtain ⟨h1, h2, h3⟩ := h
  obtain ⟨j, hj, rfl⟩ := inB_ex (by omega) h2
  rw [nI_clamp (by omega)] at h3
  exact ⟨j, hj, rfl, by simpa using h1, h3⟩
/-- edge e is among the targets -/
def biB (m : Int32) (e : Nat) : Bool := !(decide (m &&& (nI 1 <<< (nI e &&& 31)) = 0))
def seF (σ : wd_S) (m x t : Int32) (cn : Nat → Nat) : Nat → wd_S
  | 0 => σ
  | n + 1 => if biB m n = true then apF (seF σ m x t cn n) n (cn n) x t else seF σ m x t cn n
theorem apF_c {σ : wd_S} {e c d : Nat} {x t : Int32} (h : d < 30 + 3 * e ∨ 33 + 3 * e ≤ d) : apF σ e c x t d = σ d := by
  unfold apF
  rw [u2_row (by omega), u2_row (by omega), u2_row (by omega)]
theorem seF_c {σ : wd_S} {m x t : Int32} {cn : Nat → Nat} {d : Nat} : ∀ n, d < 30 ∨ 30 + 3 * n ≤ d → seF σ m x t cn n d = σ d := by
  intro n
  induction n with
  | zero => intro _; rfl
  | succ n ih =>
    intro h
    unfold seF
    split
    · rw [apF_c (by omega), ih (by omega)]
    · exact ih (by omega)
theorem r_send {xs : List Int32} {σ : wd_S} {n : Nat} (hn : σ 2 3 = nI n) (hn12 : n ≤ 12) (m x t : Int32) (cn : Nat → Nat) (hc : ∀ e, e < n → biB m e = true → σ (30 + 3 * e) 2 = nI (cn e) ∧ cn e < 6) : ev xs 19 [.ref 1, .int m, .int x, .int t] σ (nI (cnt (biB m) n)) (u2 (seF σ m x t cn n) 1 4 (σ 1 4 + nI (cnt (biB m) n))) := by
  refine am_Ev.of (n := 6) rfl rfl rfl rfl ?_
  refine s_ic (v := nI 0) rfl rfl ?_
  refine g_istore rfl (Nat.le_of_ble_eq_true rfl) ?_
  refine s_ic (v := nI 0) rfl rfl ?_
  refine g_istore rfl (Nat.le_of_ble_eq_true rfl) ?_
  refine am_for n (fun i lo σ' => lo = [some (.ref 1), some (.int m), some (.int x), some (.int t), some (.int (nI (cnt (biB m) i))), some (.int (nI i))] ∧ σ' = seF σ m x t cn i) ?_ ?_ 0 _ _ (Nat.zero_le _) ⟨rfl, rfl⟩
  · rintro i _ _ hi ⟨rfl, rfl⟩ kk
    refine g_iload rfl rfl ?_
    refine g_aload_n rfl rfl ?_
    refine g_get rfl rfl wd_F rfl ?_
    refine g_get rfl rfl wd_G rfl ?_
    rw [seF_c i (by omega), hn]
    refine g_icmp_ge rfl (fun h => absurd h (nI_ge hi (by omega))) (fun _ => ?_)
    refine g_iload_n rfl rfl ?_
    refine s_ic (v := nI 1) rfl rfl ?_
    refine g_iload rfl rfl ?_
    refine g_ishl rfl ?_
    refine g_iand rfl ?_
    refine g_if_eq rfl (fun h => ?_) (fun h => ?_)
    · have hz : biB m i = false := by
        unfold biB
        rw [decide_eq_true h]
        rfl
      refine s_inc rfl rfl (nI_1 _) ?_
      refine g_goto rfl ?_
      refine kk _ _ ⟨?_, ?_⟩
      · rw [cnt_f hz]
        rfl
      · show _ = if biB m i = true then _ else _
        rw [hz]
        rfl
    · have hz : biB m i = true := by
        unfold biB
        rw [decide_eq_false h]
        rfl
      obtain ⟨c1, c2⟩ := hc i hi hz
      refine g_aload_n rfl rfl ?_
      refine g_get rfl rfl wd_F rfl ?_
      refine g_get rfl rfl wd_G rfl ?_
      refine g_iload rfl rfl ?_
      refine s_aE rfl rfl (by omega) ?_
      refine g_iload_n rfl rfl ?_
      refine g_iload_n rfl rfl ?_
      refine c_Vv rfl rfl rfl rfl (wd_E (by omega)) rfl (r_append (by omega) (by rw [seF_c i (by omega)]; exact c1) c2 x t) rfl rfl rfl ?_
      refine s_inc rfl rfl (nI_1 _) ?_
      refine s_inc rfl rfl (nI_1 _) ?_
      refine g_goto rfl ?_
      refine kk _ _ ⟨?_, ?_⟩
      · rw [cnt_t hz]
        rfl
      · show _ = if biB m i = true then _ else _
        rw [hz]
        rfl
  · rintro _ _ ⟨rfl, rfl⟩
    refine g_iload rfl rfl ?_
    refine g_aload_n rfl rfl ?_
    refine g_get rfl rfl wd_F rfl ?_
    refine g_get rfl rfl wd_G rfl ?_
    rw [seF_c n (by omega), hn]
    refine g_icmp_ge rfl (fun _ => ?_) (fun h => absurd (nI_le (Nat.le_refl _) (by omega)) h)
    refine g_aload_n rfl rfl ?_
    refine g_dup rfl rfl ?_
    refine g_get rfl rfl wd_F rfl ?_
    rw [seF_c n (by omega)]
    refine g_iload rfl rfl ?_
    refine g_iadd rfl ?_
    refine s_putF rfl rfl (by decide) ?_
    refine g_iload rfl rfl ?_
    refine g_iret rfl rfl ?_
    exact ⟨rfl, rfl⟩
def puR (σ : wd_S) (j e : Nat) : Int32 := if σ (6 + 3 * j) 8 = 0 then -3 else if anyB (fuB σ (σ (6 + 3 * j) 5) (-1)) e = true then -2 else nI 0
theorem r_put_bad {xs : List Int32} {σ : wd_S} {n : Nat} {b : Bool} (hn : σ 2 2 = nI n) (hn8 : n ≤ 8) (hb : σ 1 1 = bI b) (x y : Int32) (hz : riB σ b n x = false) : ev xs 4 [.ref 1, .int x, .int y] σ (-1) σ := by
  refine am_Ev.of (n := 4) rfl rfl rfl rfl ?_
  refine g_aload_n rfl rfl ?_
  refine g_iload_n rfl rfl ?_
  refine c_V rfl rfl rfl rfl wd_F rfl (r_running hn hn8 hb x) rfl rfl rfl ?_
  rw [hz]
  refine g_if_ne rfl (fun h => absurd (rfl) h) (fun _ => ?_)
  refine s_ic (v := -1) rfl rfl ?_
  refine g_iret rfl rfl ?_
  exact ⟨rfl, rfl⟩
theorem r_put {xs : List Int32} {σ : wd_S} {n e j ep : Nat} {b : Bool} (hn : σ 2 2 = nI n) (hn8 : n ≤ 8) (he : σ 2 3 = nI e) (he12 : e ≤ 12) (hb : σ 1 1 = bI b) (hj : j < n) (hz : riB σ b n (nI j) = true) (y : Int32) (hep : σ (6 + 3 * j) 7 = nI ep) (hep15 : ep ≤ 15) (cn : Nat → Nat) (hc : ∀ i, i < e → biB (σ (6 + 3 * j) 5) i = true → anyB (fuB σ (σ (6 + 3 * j) 5) (-1)) e = false → σ (30 + 3 * i) 2 = nI (cn i) ∧ cn i < 6) : ev xs 4 [.ref 1, .int (nI j), .int y] σ (puR σ j e) (if puR σ j e = nI 0 then u2 (seF σ (σ (6 + 3 * j) 5) y (nI (tmE ep (0, 0))) cn e) 1 4 (σ 1 4 + nI (cnt (biB (σ (6 + 3 * j) 5)) e)) else σ) := by
  refine am_Ev.of (n := 4) rfl rfl rfl rfl ?_
  refine g_aload_n rfl rfl ?_
  refine g_iload_n rfl rfl ?_
  refine c_V rfl rfl rfl rfl wd_F rfl (r_running hn hn8 hb (nI j)) rfl rfl rfl ?_
  rw [hz]
  refine g_if_ne rfl (fun _ => ?_) (fun h => absurd h (by decide))
  refine g_aload_n rfl rfl ?_
  refine g_get rfl rfl wd_F rfl ?_
  refine g_get rfl rfl wd_G rfl ?_
  refine g_iload_n rfl rfl ?_
  refine s_aV rfl rfl (by omega) ?_
  refine g_astore_n rfl (Nat.le_of_ble_eq_true rfl) ?_
  refine g_aload_n rfl rfl ?_
  refine g_get rfl rfl (wd_V (by omega)) rfl ?_
  refine g_if_ne rfl (fun h => ?_) (fun h => ?_)
  · refine g_aload_n rfl rfl ?_
    refine g_get rfl rfl wd_F rfl ?_
    refine g_aload_n rfl rfl ?_
    refine g_get rfl rfl (wd_V (by omega)) rfl ?_
    refine s_ic (v := -1) rfl rfl ?_
    refine c_V rfl rfl rfl rfl wd_G rfl (r_hasRoom he he12 _ _) rfl rfl rfl ?_
    cases ha : anyB (fuB σ (σ (6 + 3 * j) 5) (-1)) e with
    | true =>
      refine g_if_ne rfl (fun h => absurd (rfl) h) (fun _ => ?_)
      refine s_bp (v := -2) rfl rfl ?_
      refine g_iret rfl rfl ?_
      unfold puR
      rw [if_neg h, ha]
      exact ⟨rfl, rfl⟩
    | false =>
      refine g_if_ne rfl (fun _ => ?_) (fun h => absurd h (by decide))
      refine g_aload_n rfl rfl ?_
      refine g_aload_n rfl rfl ?_
      refine g_get rfl rfl (wd_V (by omega)) rfl ?_
      refine g_iload_n rfl rfl ?_
      refine g_aload_n rfl rfl ?_
      refine g_get rfl rfl (wd_V (by omega)) rfl ?_
      rw [hep]
      refine c_S rfl rfl rfl rfl (r_ofEpoch _) rfl rfl rfl ?_
      rw [tm_ofEpoch hep15]
      refine c_V rfl rfl rfl rfl wd_F rfl (r_send he he12 _ _ _ cn (fun i hi hb => hc i hi hb ha)) rfl rfl rfl ?_
      refine g_pop rfl rfl ?_
      refine s_ic (v := nI 0) rfl rfl ?_
      refine g_iret rfl rfl ?_
      unfold puR
      rw [if_neg h, ha]
      exact ⟨rfl, rfl⟩
  · refine s_bp (v := -3) rfl rfl ?_
    refine g_iret rfl rfl ?_
    unfold puR
    rw [if_pos h]
    exact ⟨rfl, rfl⟩
theorem r_advance_bad {xs : List Int32} {σ : wd_S} {n : Nat} {b : Bool} (hn : σ 2 2 = nI n) (hn8 : n ≤ 8) (hb : σ 1 1 = bI b) (x : Int32) (hz : riB σ b n x = false) : ev xs 5 [.ref 1, .int x] σ (-1) σ := by
  refine am_Ev.of (n := 3) rfl rfl rfl rfl ?_
  refine g_aload_n rfl rfl ?_
  refine g_iload_n rfl rfl ?_
  refine c_V rfl rfl rfl rfl wd_F rfl (r_running hn hn8 hb x) rfl rfl rfl ?_
  rw [hz]
  refine g_if_ne rfl (fun h => absurd (rfl) h) (fun _ => ?_)
  refine s_ic (v := -1) rfl rfl ?_
  refine g_iret rfl rfl ?_
  exact ⟨rfl, rfl⟩
theorem r_advance {xs : List Int32} {σ : wd_S} {n j ep : Nat} {b : Bool} (hn : σ 2 2 = nI n) (hn8 : n ≤ 8) (hb : σ 1 1 = bI b) (hj : j < n) (hz : riB σ b n (nI j) = true) (hep : σ (6 + 3 * j) 7 = nI ep) (hep15 : ep ≤ 15) : ev xs 5 [.ref 1, .int (nI j)] σ (if σ (6 + 3 * j) 8 = 0 then -3 else if ep < 15 then nI (ep + 1) else -4) (if σ (6 + 3 * j) 8 = 0 then σ else if ep < 15 then u2 σ (6 + 3 * j) 7 (nI (ep + 1)) else σ) := by
  refine am_Ev.of (n := 3) rfl rfl rfl rfl ?_
  refine g_aload_n rfl rfl ?_
  refine g_iload_n rfl rfl ?_
  refine c_V rfl rfl rfl rfl wd_F rfl (r_running hn hn8 hb (nI j)) rfl rfl rfl ?_
  rw [hz]
  refine g_if_ne rfl (fun _ => ?_) (fun h => absurd h (by decide))
  refine g_aload_n rfl rfl ?_
  refine g_get rfl rfl wd_F rfl ?_
  refine g_get rfl rfl wd_G rfl ?_
  refine g_iload_n rfl rfl ?_
  refine s_aV rfl rfl (by omega) ?_
  refine g_astore_n rfl (Nat.le_of_ble_eq_true rfl) ?_
  refine g_aload_n rfl rfl ?_
  refine g_get rfl rfl (wd_V (by omega)) rfl ?_
  refine g_if_ne rfl (fun h => ?_) (fun h => ?_)
  · rw [if_neg h, if_neg h]
    refine g_aload_n rfl rfl ?_
    refine g_get rfl rfl (wd_V (by omega)) rfl ?_
    rw [hep]
    refine s_bp (v := nI 15) rfl rfl ?_
    by_cases hl : ep < 15
    · rw [if_pos hl, if_pos hl]
      refine g_icmp_lt rfl (fun _ => ?_) (fun h => absurd (nI_lt hl (by omega)) h)
      refine g_aload_n rfl rfl ?_
      refine g_dup rfl rfl ?_
      refine g_get rfl rfl (wd_V (by omega)) rfl ?_
      rw [hep]
      refine s_ic (v := nI 1) rfl rfl ?_
      refine g_iadd rfl ?_
      rw [nI_add]
      refine s_putV (by omega) rfl rfl (by decide) ?_
      refine g_aload_n rfl rfl ?_
      refine g_get rfl rfl (wd_V (by omega)) rfl ?_
      rw [u2_same]
      refine g_iret rfl rfl ?_
      exact ⟨rfl, rfl⟩
    · rw [if_neg hl, if_neg hl]
      refine g_icmp_lt rfl (fun h => absurd h (nI_nlt (by omega) (by omega))) (fun _ => ?_)
      refine s_bp (v := -4) rfl rfl ?_
      refine g_iret rfl rfl ?_
      exact ⟨rfl, rfl⟩
  · rw [if_pos h, if_pos h]
    refine s_bp (v := -3) rfl rfl ?_
    refine g_iret rfl rfl ?_
    exact ⟨rfl, rfl⟩
theorem r_close_bad {xs : List Int32} {σ : wd_S} {n : Nat} {b : Bool} (hn : σ 2 2 = nI n) (hn8 : n ≤ 8) (hb : σ 1 1 = bI b) (x : Int32) (hz : riB σ b n x = false) : ev xs 6 [.ref 1, .int x] σ (-1) σ := by
  refine am_Ev.of (n := 3) rfl rfl rfl rfl ?_
  refine g_aload_n rfl rfl ?_
  refine g_iload_n rfl rfl ?_
  refine c_V rfl rfl rfl rfl wd_F rfl (r_running hn hn8 hb x) rfl rfl rfl ?_
  rw [hz]
  refine g_if_ne rfl (fun h => absurd (rfl) h) (fun _ => ?_)
  refine s_ic (v := -1) rfl rfl ?_
  refine g_iret rfl rfl ?_
  exact ⟨rfl, rfl⟩
theorem r_close {xs : List Int32} {σ : wd_S} {n j : Nat} {b : Bool} (hn : σ 2 2 = nI n) (hn8 : n ≤ 8) (hb : σ 1 1 = bI b) (hj : j < n) (hz : riB σ b n (nI j) = true) : ev xs 6 [.ref 1, .int (nI j)] σ (if σ (6 + 3 * j) 8 = 0 then -3 else nI 0) (if σ (6 + 3 * j) 8 = 0 then σ else u2 σ (6 + 3 * j) 8 (nI 0)) := by
  refine am_Ev.of (n := 3) rfl rfl rfl rfl ?_
  refine g_aload_n rfl rfl ?_
  refine g_iload_n rfl rfl ?_
  refine c_V rfl rfl rfl rfl wd_F rfl (r_running hn hn8 hb (nI j)) rfl rfl rfl ?_
  rw [hz]
  refine g_if_ne rfl (fun _ => ?_) (fun h => absurd h (by decide))
  refine g_aload_n rfl rfl ?_
  refine g_get rfl rfl wd_F rfl ?_
  refine g_get rfl rfl wd_G rfl ?_
  refine g_iload_n rfl rfl ?_
  refine s_aV rfl rfl (by omega) ?_
  refine g_astore_n rfl (Nat.le_of_ble_eq_true rfl) ?_
  refine g_aload_n rfl rfl ?_
  refine g_get rfl rfl (wd_V (by omega)) rfl ?_
  refine g_if_ne rfl (fun h => ?_) (fun h => ?_)
  · rw [if_neg h, if_neg h]
    refine g_aload_n rfl rfl ?_
    refine s_ic (v := nI 0) rfl rfl ?_
    refine s_putzV (by omega) rfl rfl (by decide) ?_
    refine s_ic (v := nI 0) rfl rfl ?_
    refine g_iret rfl rfl ?_
    exact ⟨rfl, rfl⟩
  · rw [if_pos h, if_pos h]
    refine s_bp (v := -3) rfl rfl ?_
    refine g_iret rfl rfl ?_
    exact ⟨rfl, rfl⟩
theorem r_requests {xs : List Int32} {σ : wd_S} {n : Nat} (hn : σ 2 2 = nI n) (hn8 : n ≤ 8) : ev xs 8 [.ref 1] σ (sI (fun v => σ (6 + 3 * v) 9) n) σ := by
  refine am_Ev.of (n := 3) rfl rfl rfl rfl ?_
  refine s_ic (v := nI 0) rfl rfl ?_
  refine g_istore_n rfl (Nat.le_of_ble_eq_true rfl) ?_
  refine s_ic (v := nI 0) rfl rfl ?_
  refine g_istore_n rfl (Nat.le_of_ble_eq_true rfl) ?_
  refine am_for n (fun i lo σ' => lo = [some (.ref 1), some (.int (sI (fun v => σ (6 + 3 * v) 9) i)), some (.int (nI i))] ∧ σ = σ') ?_ ?_ 0 _ _ (Nat.zero_le _) ⟨rfl, rfl⟩
  · rintro i _ _ hi ⟨rfl, rfl⟩ kk
    refine g_iload_n rfl rfl ?_
    refine g_aload_n rfl rfl ?_
    refine g_get rfl rfl wd_F rfl ?_
    refine g_get rfl rfl wd_G rfl ?_
    rw [hn]
    refine g_icmp_ge rfl (fun h => absurd h (nI_ge hi (by omega))) (fun _ => ?_)
    refine g_iload_n rfl rfl ?_
    refine g_aload_n rfl rfl ?_
    refine g_get rfl rfl wd_F rfl ?_
    refine g_get rfl rfl wd_G rfl ?_
    refine g_iload_n rfl rfl ?_
    refine s_aV rfl rfl (by omega) ?_
    refine g_get rfl rfl (wd_V (by omega)) rfl ?_
    refine g_iadd rfl ?_
    refine g_istore_n rfl (Nat.le_of_ble_eq_true rfl) ?_
    refine s_inc rfl rfl (nI_1 _) ?_
    refine g_goto rfl ?_
    exact kk _ _ ⟨rfl, rfl⟩
  · rintro _ _ ⟨rfl, rfl⟩
    refine g_iload_n rfl rfl ?_
    refine g_aload_n rfl rfl ?_
    refine g_get rfl rfl wd_F rfl ?_
    refine g_get rfl rfl wd_G rfl ?_
    rw [hn]
    refine g_icmp_ge rfl (fun _ => ?_) (fun h => absurd (nI_le (Nat.le_refl _) (by omega)) h)
    refine g_iload_n rfl rfl ?_
    refine g_iret rfl rfl ?_
    exact ⟨rfl, rfl⟩
theorem r_waiting {xs : List Int32} {σ : wd_S} {e : Nat} (he : σ 2 3 = nI e) (he12 : e ≤ 12) (x : Int32) : ev xs 12 [.ref 1, .int x] σ (if inB x e = true then σ (30 + 3 * x.toNatClampNeg) 2 else -1) σ := by
  refine am_Ev.of (n := 2) rfl rfl rfl rfl ?_
  refine g_aload_n rfl rfl ?_
  refine g_get rfl rfl wd_F rfl ?_
  refine g_iload_n rfl rfl ?_
  refine c_V rfl rfl rfl rfl wd_G rfl (r_hasE he x) rfl rfl rfl ?_
  cases hx : inB x e with
  | false =>
    refine g_if_eq rfl (fun _ => ?_) (fun h => absurd (rfl) h)
    refine s_ic (v := -1) rfl rfl ?_
    refine g_iret rfl rfl ?_
    exact ⟨rfl, rfl⟩
  | true =>
    refine g_if_eq rfl (fun h => absurd h (by decide)) (fun _ => ?_)
    obtain ⟨i, hi, rfl⟩ := inB_ex (by omega) hx
    refine g_aload_n rfl rfl ?_
    refine g_get rfl rfl wd_F rfl ?_
    refine g_get rfl rfl wd_G rfl ?_
    refine g_iload_n rfl rfl ?_
    refine s_aE rfl rfl (by omega) ?_
    refine g_get rfl rfl (wd_E (by omega)) rfl ?_
    refine g_goto rfl ?_
    refine g_iret rfl rfl ?_
    exact ⟨by rw [if_pos rfl, nI_clamp (by omega)], rfl⟩
theorem r_total {xs : List Int32} {σ : wd_S} {n : Nat} (hn : σ 2 2 = nI n) (hn8 : n ≤ 8) (x : Int32) : ev xs 14 [.ref 1, .int x] σ (if inB x n = true then σ (6 + 3 * x.toNatClampNeg) 6 else nI 0) σ := by
  refine am_Ev.of (n := 2) rfl rfl rfl rfl ?_
  refine g_aload_n rfl rfl ?_
  refine g_get rfl rfl wd_F rfl ?_
  refine g_iload_n rfl rfl ?_
  refine c_V rfl rfl rfl rfl wd_G rfl (r_hasV hn x) rfl rfl rfl ?_
  cases hx : inB x n with
  | false =>
    refine g_if_eq rfl (fun _ => ?_) (fun h => absurd (rfl) h)
    refine s_ic (v := nI 0) rfl rfl ?_
    refine g_iret rfl rfl ?_
    exact ⟨rfl, rfl⟩
  | true =>
    refine g_if_eq rfl (fun h => absurd h (by decide)) (fun _ => ?_)
    obtain ⟨i, hi, rfl⟩ := inB_ex (by omega) hx
    refine g_aload_n rfl rfl ?_
    refine g_get rfl rfl wd_F rfl ?_
    refine g_get rfl rfl wd_G rfl ?_
    refine g_iload_n rfl rfl ?_
    refine s_aV rfl rfl (by omega) ?_
    refine g_get rfl rfl (wd_V (by omega)) rfl ?_
    refine g_goto rfl ?_
    refine g_iret rfl rfl ?_
    exact ⟨by rw [if_pos rfl, nI_clamp (by omega)], rfl⟩
theorem r_times {xs : List Int32} {σ : wd_S} (x : Int32) : ev xs 16 [.ref 1, .int x] σ (if x = nI 0 then σ 1 2 else if x = nI 1 then σ 1 3 else if x = nI 2 then σ 1 4 else -1) σ := by
  refine am_Ev.of (n := 2) rfl rfl rfl rfl ?_
  refine g_iload_n rfl rfl ?_
  have ne : ∀ a b : Nat, a < 10 → b < 10 → a ≠ b → ¬ nI a = nI b := fun a b ha hb hab z => hab ((nI_eq (by omega) (by omega)).mp z)
  rcases pk_ix x (n := 3) (by omega) with h | h | ⟨j, hj, rfl⟩
  · refine g_tswo (t := 43) rfl (Or.inl (by rw [lt_i, i0] at h; exact h)) rfl ?_
    refine s_ic (v := -1) rfl rfl ?_
    refine g_iret rfl rfl ?_
    have hq : ∀ a : Nat, a < 10 → ¬ x = nI a := fun a ha z => by
      rw [z] at h
      exact nI_pos (by omega) h
    exact ⟨by rw [if_neg (hq 0 (by omega)), if_neg (hq 1 (by omega)), if_neg (hq 2 (by omega))], rfl⟩
  · refine g_tswo (t := 43) rfl (Or.inr (by rw [le_i] at h; have h5 : (nI 3).toInt = 3 := (by decide); omega)) rfl ?_
    refine s_ic (v := -1) rfl rfl ?_
    refine g_iret rfl rfl ?_
    have hq : ∀ a : Nat, a < 3 → ¬ x = nI a := fun a ha z => by
      rw [z] at h
      exact nI_ge ha (by omega) h
    exact ⟨by rw [if_neg (hq 0 (by omega)), if_neg (hq 1 (by omega)), if_neg (hq 2 (by omega))], rfl⟩
  · rcases (show j = 0 ∨ j = 1 ∨ j = 2 by omega) with rfl | rfl | rfl
    · refine g_tsw (t := 28) (off := 27) rfl (by decide) (by decide) (by decide) rfl ?_
      refine g_aload_n rfl rfl ?_
      refine g_get rfl rfl wd_F rfl ?_
      refine g_iret rfl rfl ?_
      exact ⟨by rw [if_pos rfl], rfl⟩
    · refine g_tsw (t := 33) (off := 32) rfl (by decide) (by decide) (by decide) rfl ?_
      refine g_aload_n rfl rfl ?_
      refine g_get rfl rfl wd_F rfl ?_
      refine g_iret rfl rfl ?_
      exact ⟨by rw [if_neg (ne _ _ (by omega) (by omega) (by omega)), if_pos rfl], rfl⟩
    · refine g_tsw (t := 38) (off := 37) rfl (by decide) (by decide) (by decide) rfl ?_
      refine g_aload_n rfl rfl ?_
      refine g_get rfl rfl wd_F rfl ?_
      refine g_iret rfl rfl ?_
      exact ⟨by rw [if_neg (ne _ _ (by omega) (by omega) (by omega)), if_neg (ne _ _ (by omega) (by omega) (by omega)), if_pos rfl], rfl⟩
theorem r_points {xs : List Int32} {σ : wd_S} {n e : Nat} (hn : σ 2 2 = nI n) (hn8 : n ≤ 8) (he : σ 2 3 = nI e) (he12 : e ≤ 12) (cn : Nat → Nat) (hc : ∀ i, i < e → σ (30 + 3 * i) 2 = nI (cn i) ∧ cn i ≤ 6) (op : Nat → Bool) (ho : ∀ v, v < n → σ (6 + 3 * v) 8 = bI (op v)) : ev xs 15 [.ref 1] σ (sI (fun v => σ (6 + 3 * v) 9) n + nI (sumN (fun i => cnt (ifB σ i) (cn i)) e) + nI (cnt op n)) σ := by
  refine am_Ev.of (n := 3) rfl rfl rfl rfl ?_
  refine g_aload_n rfl rfl ?_
  refine c_V rfl rfl rfl rfl wd_F rfl (r_requests hn hn8) rfl rfl rfl ?_
  refine g_istore_n rfl (Nat.le_of_ble_eq_true rfl) ?_
  refine s_ic (v := nI 0) rfl rfl ?_
  refine g_istore_n rfl (Nat.le_of_ble_eq_true rfl) ?_
  refine am_for e (fun i lo σ' => lo = [some (.ref 1), some (.int (sI (fun v => σ (6 + 3 * v) 9) n + nI (sumN (fun i => cnt (ifB σ i) (cn i)) i))), some (.int (nI i))] ∧ σ = σ') ?_ ?_ 0 _ _ (Nat.zero_le _) ⟨?_, rfl⟩
  · rintro i _ _ hi ⟨rfl, rfl⟩ kk
    refine g_iload_n rfl rfl ?_
    refine g_aload_n rfl rfl ?_
    refine g_get rfl rfl wd_F rfl ?_
    refine g_get rfl rfl wd_G rfl ?_
    rw [he]
    refine g_icmp_ge rfl (fun h => absurd h (nI_ge hi (by omega))) (fun _ => ?_)
    refine g_iload_n rfl rfl ?_
    refine g_aload_n rfl rfl ?_
    refine g_get rfl rfl wd_F rfl ?_
    refine g_get rfl rfl wd_G rfl ?_
    refine g_iload_n rfl rfl ?_
    refine s_aE rfl rfl (by omega) ?_
    refine c_V rfl rfl rfl rfl (wd_E (by omega)) rfl (r_countMoments (by omega) (hc i hi).1 (hc i hi).2) rfl rfl rfl ?_
    refine g_iadd rfl ?_
    refine g_istore_n rfl (Nat.le_of_ble_eq_true rfl) ?_
    refine s_inc rfl rfl (nI_1 _) ?_
    refine g_goto rfl ?_
    refine kk _ _ ⟨?_, rfl⟩
    rw [Int32.add_assoc, nI_add]
    rfl
  · rintro _ _ ⟨rfl, rfl⟩
    refine g_iload_n rfl rfl ?_
    refine g_aload_n rfl rfl ?_
    refine g_get rfl rfl wd_F rfl ?_
    refine g_get rfl rfl wd_G rfl ?_
    rw [he]
    refine g_icmp_ge rfl (fun _ => ?_) (fun h => absurd (nI_le (Nat.le_refl _) (by omega)) h)
    refine s_ic (v := nI 0) rfl rfl ?_
    refine g_istore_n rfl (Nat.le_of_ble_eq_true rfl) ?_
    refine am_for n (fun i lo σ' => lo = [some (.ref 1), some (.int (sI (fun v => σ (6 + 3 * v) 9) n + nI (sumN (fun i => cnt (ifB σ i) (cn i)) e) + nI (cnt op i))), some (.int (nI i))] ∧ σ = σ') ?_ ?_ 0 _ _ (Nat.zero_le _) ⟨?_, rfl⟩
    · rintro i _ _ hi ⟨rfl, rfl⟩ kk
      refine g_iload_n rfl rfl ?_
      refine g_aload_n rfl rfl ?_
      refine g_get rfl rfl wd_F rfl ?_
      refine g_get rfl rfl wd_G rfl ?_
      rw [hn]
      refine g_icmp_ge rfl (fun h => absurd h (nI_ge hi (by omega))) (fun _ => ?_)
      refine g_aload_n rfl rfl ?_
      refine g_get rfl rfl wd_F rfl ?_
      refine g_get rfl rfl wd_G rfl ?_
      refine g_iload_n rfl rfl ?_
      refine s_aV rfl rfl (by omega) ?_
      refine g_get rfl rfl (wd_V (by omega)) rfl ?_
      rw [ho i hi]
      cases hz : op i with
      | false =>
        refine g_if_eq rfl (fun _ => ?_) (fun h => absurd (rfl) h)
        refine s_inc rfl rfl (nI_1 _) ?_
        refine g_goto rfl ?_
        refine kk _ _ ⟨?_, rfl⟩
        rw [cnt_f hz]
        rfl
      | true =>
        refine g_if_eq rfl (fun h => absurd h (by decide)) (fun _ => ?_)
        refine s_inc rfl rfl (v := sI (fun v => σ (6 + 3 * v) 9) n + nI (sumN (fun i => cnt (ifB σ i) (cn i)) e) + nI (cnt op i + 1)) (by rw [Int32.add_assoc]; exact congrArg _ (nI_1 _)) ?_
        refine s_inc rfl rfl (nI_1 _) ?_
        refine g_goto rfl ?_
        refine kk _ _ ⟨?_, rfl⟩
        rw [cnt_t hz]
        rfl
    · rintro _ _ ⟨rfl, rfl⟩
      refine g_iload_n rfl rfl ?_
      refine g_aload_n rfl rfl ?_
      refine g_get rfl rfl wd_F rfl ?_
      refine g_get rfl rfl wd_G rfl ?_
      rw [hn]
      refine g_icmp_ge rfl (fun _ => ?_) (fun h => absurd (nI_le (Nat.le_refl _) (by omega)) h)
      refine g_iload_n rfl rfl ?_
      refine g_iret rfl rfl ?_
      exact ⟨rfl, rfl⟩
    · show _ = [_, some (Value.int (_ + nI 0)), _]
      rw [nI_0, Int32.add_zero]
      rfl
  · show _ = [_, some (Value.int (_ + nI 0)), _]
    rw [nI_0, Int32.add_zero]
    rfl
