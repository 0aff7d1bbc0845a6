/-! The reference: sending, taking. -/
theorem p1F_c {σ : wd_S} {e c d : Nat} {x : Int32} (h : d ≠ 66 ∧ d ≠ 75 ∧ d ≠ 76 ∧ d ≠ 77) : p1F σ e c x d = σ d := by
  obtain ⟨h1, h2, h3, h4⟩ := h
  unfold p1F
  rw [u2_row h1, u2_row h2, u2_row h4, u2_row h4, u2_row h4, u2_row h3]
theorem p1F_66 {σ : wd_S} {e c k : Nat} {x : Int32} (h : k ≠ 20) : p1F σ e c x 66 k = σ 66 k := by
  unfold p1F
  rw [u2_k h, u2_c (by omega), u2_c (by omega), u2_c (by omega), u2_c (by omega), u2_c (by omega)]
theorem p1F_75 {σ : wd_S} {e c k : Nat} {x : Int32} (h : k ≠ e) : p1F σ e c x 75 k = σ 75 k := by
  unfold p1F
  rw [u2_c (by omega), u2_k h, u2_c (by omega), u2_c (by omega), u2_c (by omega), u2_c (by omega)]
theorem p1F_20 {σ : wd_S} {e c : Nat} {x : Int32} : p1F σ e c x 66 20 = σ 66 20 + nI 1 := by
  unfold p1F
  rw [u2_same]
def saF (σ : wd_S) (p : Nat → Bool) (x : Int32) (cn : Nat → Nat) : Nat → wd_S
  | 0 => σ
  | n + 1 => if p n = true then p1F (saF σ p x cn n) n (cn n) x else saF σ p x cn n
theorem saF_c {σ : wd_S} {p : Nat → Bool} {x : Int32} {cn : Nat → Nat} {d : Nat} (h : d ≠ 66 ∧ d ≠ 75 ∧ d ≠ 76 ∧ d ≠ 77) : ∀ n, saF σ p x cn n d = σ d := by
  intro n
  induction n with
  | zero => rfl
  | succ n ih =>
    unfold saF
    split
    · rw [p1F_c h, ih]
    · exact ih
theorem saF_66 {σ : wd_S} {p : Nat → Bool} {x : Int32} {cn : Nat → Nat} {k : Nat} (h : k ≠ 20) : ∀ n, saF σ p x cn n 66 k = σ 66 k := by
  intro n
  induction n with
  | zero => rfl
  | succ n ih =>
    unfold saF
    split
    · rw [p1F_66 h, ih]
    · exact ih
theorem saF_75 {σ : wd_S} {p : Nat → Bool} {x : Int32} {cn : Nat → Nat} {k : Nat} : ∀ n, n ≤ k → saF σ p x cn n 75 k = σ 75 k := by
  intro n
  induction n with
  | zero => intro _; rfl
  | succ n ih =>
    intro h
    unfold saF
    split
    · rw [p1F_75 (by omega), ih (by omega)]
    · exact ih (by omega)
theorem m_sendAll {xs : List Int32} {σ : wd_S} {e : Nat} (he : σ 66 8 = nI e) (he12 : e ≤ 12) (v x : Int32) (cn : Nat → Nat) (hc : ∀ i, i < e → σ 73 i = v → σ 75 i = nI (cn i) ∧ cn i < 6) : ev xs 67 [.ref 66, .int v, .int x] σ (nI (cnt (fun i => decide (σ 73 i = v)) e)) (saF σ (fun i => decide (σ 73 i = v)) x cn e) := by
  refine am_Ev.of (n := 5) rfl rfl rfl rfl ?_
  refine s_ic (v := nI 0) rfl rfl ?_
  refine g_istore_n rfl (Nat.le_of_ble_eq_true rfl) ?_
  refine s_ic (v := nI 0) rfl rfl ?_
  refine g_istore rfl (Nat.le_of_ble_eq_true rfl) ?_
  refine am_for e (fun i lo σ' => lo = [some (.ref 66), some (.int v), some (.int x), some (.int (nI (cnt (fun i => decide (σ 73 i = v)) i))), some (.int (nI i))] ∧ σ' = saF σ (fun i => decide (σ 73 i = v)) x cn i) ?_ ?_ 0 _ _ (Nat.zero_le _) ⟨rfl, rfl⟩
  · rintro i _ _ hi ⟨rfl, rfl⟩ kk
    refine g_iload rfl rfl ?_
    refine g_aload_n rfl rfl ?_
    refine g_get rfl rfl wd_M rfl ?_
    rw [saF_66 (by omega), he]
    refine g_icmp_ge rfl (fun h => absurd h (nI_ge hi (by omega))) (fun _ => ?_)
    refine g_iload_n rfl rfl ?_
    refine g_aload_n rfl rfl ?_
    refine g_get rfl rfl wd_M rfl ?_
    refine g_iload rfl rfl ?_
    refine s_iald rfl a_73 rfl (by omega) ?_
    rw [saF_c (by omega)]
    refine g_iload_n rfl rfl ?_
    refine g_icmp_ne rfl (fun h => ?_) (fun h => ?_)
    · refine s_ic (v := nI 0) rfl rfl ?_
      refine g_iadd rfl ?_
      rw [nI_add]
      refine g_istore_n rfl (Nat.le_of_ble_eq_true rfl) ?_
      refine s_inc rfl rfl (nI_1 _) ?_
      refine g_goto rfl ?_
      refine kk _ _ ⟨?_, ?_⟩
      · rw [cnt_f (decide_eq_false h)]
        rfl
      · show _ = if decide (σ 73 i = v) = true then _ else _
        rw [decide_eq_false h]
        rfl
    · obtain ⟨c1, c2⟩ := hc i hi h
      refine g_aload_n rfl rfl ?_
      refine g_iload rfl rfl ?_
      refine g_iload_n rfl rfl ?_
      refine c_V rfl rfl rfl rfl wd_M rfl (m_put1 (show i < 12 by omega) (by rw [saF_75 i (Nat.le_refl _)]; exact c1) c2 x) rfl rfl rfl ?_
      refine g_goto rfl ?_
      refine g_iadd rfl ?_
      rw [nI_add]
      refine g_istore_n rfl (Nat.le_of_ble_eq_true rfl) ?_
      refine s_inc rfl rfl (nI_1 _) ?_
      refine g_goto rfl ?_
      refine kk _ _ ⟨?_, ?_⟩
      · rw [cnt_t (decide_eq_true h)]
        rfl
      · show _ = if decide (σ 73 i = v) = true then _ else _
        rw [decide_eq_true h]
        rfl
  · rintro _ _ ⟨rfl, rfl⟩
    refine g_iload rfl rfl ?_
    refine g_aload_n rfl rfl ?_
    refine g_get rfl rfl wd_M rfl ?_
    rw [saF_66 (by omega), he]
    refine g_icmp_ge rfl (fun _ => ?_) (fun h => absurd (nI_le (Nat.le_refl _) (by omega)) h)
    refine g_iload_n rfl rfl ?_
    refine g_iret rfl rfl ?_
    exact ⟨rfl, rfl⟩
/-- is x a running input, by the reference? -/
def mrB (σ : wd_S) (b : Bool) (n : Nat) (x : Int32) : Bool := !b && (inB x n && decide (σ 67 x.toNatClampNeg = 0))
theorem m_noInput {xs : List Int32} {σ : wd_S} {n : Nat} {b : Bool} (hn : σ 66 1 = nI n) (hn8 : n ≤ 8) (hb : σ 66 0 = bI (!b)) (x : Int32) : ev xs 68 [.ref 66, .int x] σ (bI (!(mrB σ b n x))) σ := by
  refine am_Ev.of (n := 2) rfl rfl rfl rfl ?_
  have bad : mrB σ b n x = false → ∀ lo, am_G 68 24 lo [] (wd xs σ) (po xs (bI (!(mrB σ b n x))) σ) := by
    intro hz lo
    refine s_ic (v := nI 1) rfl rfl ?_
    refine g_goto rfl ?_
    refine g_zret rfl rfl (by decide) ?_
    rw [hz]
    exact ⟨rfl, rfl⟩
  refine g_aload_n rfl rfl ?_
  refine g_get rfl rfl wd_M rfl ?_
  rw [hb]
  cases b with
  | true =>
    refine g_if_eq rfl (fun _ => ?_) (fun h => absurd (rfl) h)
    exact bad rfl _
  | false =>
    refine g_if_eq rfl (fun h => absurd h (by decide)) (fun _ => ?_)
    refine g_aload_n rfl rfl ?_
    refine g_iload_n rfl rfl ?_
    refine c_V rfl rfl rfl rfl wd_M rfl (m_isVertex hn x) rfl rfl rfl ?_
    cases hx : inB x n with
    | false =>
      refine g_if_eq rfl (fun _ => ?_) (fun h => absurd (rfl) h)
      exact bad (by simp [mrB, hx]) _
    | true =>
      refine g_if_eq rfl (fun h => absurd h (by decide)) (fun _ => ?_)
      obtain ⟨i, hi, rfl⟩ := inB_ex (by omega) hx
      refine g_aload_n rfl rfl ?_
      refine g_get rfl rfl wd_M rfl ?_
      refine g_iload_n rfl rfl ?_
      refine s_iald rfl a_67 rfl (by omega) ?_
      refine g_if_eq rfl (fun h => ?_) (fun h => ?_)
      · refine s_ic (v := nI 0) rfl rfl ?_
        refine g_zret rfl rfl (by decide) ?_
        refine ⟨?_, rfl⟩
        have hz : mrB σ false n (nI i) = true := by
          unfold mrB
          rw [nI_clamp (by omega), decide_eq_true h, hx]
          rfl
        rw [hz]
        rfl
      · exact bad (by unfold mrB; rw [nI_clamp (by omega), decide_eq_false h]; simp) _
def mpR (σ : wd_S) (j e : Nat) : Int32 := if σ 71 j = 0 then -3 else if anyB (fun i => decide (σ 73 i = nI j) && mlF σ (-1) i) e = true then -2 else nI 0
theorem m_put_bad {xs : List Int32} {σ : wd_S} {n : Nat} {b : Bool} (hn : σ 66 1 = nI n) (hn8 : n ≤ 8) (hb : σ 66 0 = bI (!b)) (x y : Int32) (hz : mrB σ b n x = false) : ev xs 69 [.ref 66, .int x, .int y] σ (-1) σ := by
  refine am_Ev.of (n := 3) rfl rfl rfl rfl ?_
  refine g_aload_n rfl rfl ?_
  refine g_iload_n rfl rfl ?_
  refine c_V rfl rfl rfl rfl wd_M rfl (m_noInput hn hn8 hb x) rfl rfl rfl ?_
  rw [hz]
  refine g_if_eq rfl (fun h => absurd h (by decide)) (fun _ => ?_)
  refine s_ic (v := -1) rfl rfl ?_
  refine g_iret rfl rfl ?_
  exact ⟨rfl, rfl⟩
/-- the fields hold this time -/
def tiF (σ : wd_S) (e a b : Int32) : wd_S := u2 (u2 (u2 σ 66 21 e) 66 22 a) 66 23 b
theorem tiF_c {σ : wd_S} {d : Nat} {e a b : Int32} (h : d ≠ 66) : tiF σ e a b d = σ d := by
  unfold tiF
  rw [u2_row h, u2_row h, u2_row h]
theorem tiF_k {σ : wd_S} {k : Nat} {e a b : Int32} (h : k ≠ 21 ∧ k ≠ 22 ∧ k ≠ 23) : tiF σ e a b 66 k = σ 66 k := by
  unfold tiF
  rw [u2_k h.2.2, u2_k h.2.1, u2_k h.1]
theorem m_put {xs : List Int32} {σ : wd_S} {n e j : Nat} {b : Bool} (hn : σ 66 1 = nI n) (hn8 : n ≤ 8) (he : σ 66 8 = nI e) (he12 : e ≤ 12) (hb : σ 66 0 = bI (!b)) (hj : j < n) (hz : mrB σ b n (nI j) = true) (y : Int32) (cn : Nat → Nat) (hc : ∀ i, i < e → σ 73 i = nI j → anyB (fun i => decide (σ 73 i = nI j) && mlF σ (-1) i) e = false → σ 75 i = nI (cn i) ∧ cn i < 6) : ev xs 69 [.ref 66, .int (nI j), .int y] σ (mpR σ j e) (if mpR σ j e = nI 0 then saF (tiF σ (σ 70 j) (nI 0) (nI 0)) (fun i => decide (σ 73 i = nI j)) y cn e else σ) := by
  refine am_Ev.of (n := 3) rfl rfl rfl rfl ?_
  refine g_aload_n rfl rfl ?_
  refine g_iload_n rfl rfl ?_
  refine c_V rfl rfl rfl rfl wd_M rfl (m_noInput hn hn8 hb (nI j)) rfl rfl rfl ?_
  rw [hz]
  refine g_if_eq rfl (fun _ => ?_) (fun h => absurd (rfl) h)
  refine g_aload_n rfl rfl ?_
  refine g_get rfl rfl wd_M rfl ?_
  refine g_iload_n rfl rfl ?_
  refine s_zald rfl a_71 rfl (by omega) ?_
  refine g_if_ne rfl (fun h => ?_) (fun h => ?_)
  · refine g_aload_n rfl rfl ?_
    refine g_iload_n rfl rfl ?_
    refine s_ic (v := -1) rfl rfl ?_
    refine c_V rfl rfl rfl rfl wd_M rfl (m_anyFull he he12 _ _) rfl rfl rfl ?_
    cases ha : anyB (fun i => decide (σ 73 i = nI j) && mlF σ (-1) i) e with
    | true =>
      refine g_if_eq rfl (fun h => absurd h (by decide)) (fun _ => ?_)
      refine s_bp (v := -2) rfl rfl ?_
      refine g_iret rfl rfl ?_
      unfold mpR
      rw [if_neg h, ha]
      exact ⟨rfl, rfl⟩
    | false =>
      refine g_if_eq rfl (fun _ => ?_) (fun h => absurd (rfl) h)
      refine g_aload_n rfl rfl ?_
      refine g_aload_n rfl rfl ?_
      refine g_get rfl rfl wd_M rfl ?_
      refine g_iload_n rfl rfl ?_
      refine s_iald rfl a_70 rfl (by omega) ?_
      refine s_putM rfl rfl (by decide) ?_
      refine g_aload_n rfl rfl ?_
      refine s_ic (v := nI 0) rfl rfl ?_
      refine s_putM rfl rfl (by decide) ?_
      refine g_aload_n rfl rfl ?_
      refine s_ic (v := nI 0) rfl rfl ?_
      refine s_putM rfl rfl (by decide) ?_
      refine g_aload_n rfl rfl ?_
      refine g_iload_n rfl rfl ?_
      refine g_iload_n rfl rfl ?_
      have hs := m_sendAll (xs := xs) (σ := tiF σ (σ 70 j) (nI 0) (nI 0)) (e := e) (by rw [tiF_k (by omega)]; exact he) he12 (nI j) y cn (fun i hi hb => by
        rw [tiF_c (by omega)] at hb ⊢
        exact hc i hi hb ha)
      rw [tiF_c (by omega)] at hs
      refine c_V rfl rfl rfl rfl wd_M rfl hs rfl rfl rfl ?_
      refine g_pop rfl rfl ?_
      refine s_ic (v := nI 0) rfl rfl ?_
      refine g_iret rfl rfl ?_
      unfold mpR
      rw [if_neg h, ha]
      exact ⟨rfl, rfl⟩
  · refine s_bp (v := -3) rfl rfl ?_
    refine g_iret rfl rfl ?_
    unfold mpR
    rw [if_pos h]
    exact ⟨rfl, rfl⟩
theorem m_advance_bad {xs : List Int32} {σ : wd_S} {n : Nat} {b : Bool} (hn : σ 66 1 = nI n) (hn8 : n ≤ 8) (hb : σ 66 0 = bI (!b)) (x : Int32) (hz : mrB σ b n x = false) : ev xs 70 [.ref 66, .int x] σ (-1) σ := by
  refine am_Ev.of (n := 2) rfl rfl rfl rfl ?_
  refine g_aload_n rfl rfl ?_
  refine g_iload_n rfl rfl ?_
  refine c_V rfl rfl rfl rfl wd_M rfl (m_noInput hn hn8 hb x) rfl rfl rfl ?_
  rw [hz]
  refine g_if_eq rfl (fun h => absurd h (by decide)) (fun _ => ?_)
  refine s_ic (v := -1) rfl rfl ?_
  refine g_iret rfl rfl ?_
  exact ⟨rfl, rfl⟩
theorem m_advance {xs : List Int32} {σ : wd_S} {n j ep : Nat} {b : Bool} (hn : σ 66 1 = nI n) (hn8 : n ≤ 8) (hb : σ 66 0 = bI (!b)) (hj : j < n) (hz : mrB σ b n (nI j) = true) (hep : σ 70 j = nI ep) (hep15 : ep ≤ 15) : ev xs 70 [.ref 66, .int (nI j)] σ (if σ 71 j = 0 then -3 else if ep < 15 then nI (ep + 1) else -4) (if σ 71 j = 0 then σ else if ep < 15 then u2 σ 70 j (nI (ep + 1)) else σ) := by
  refine am_Ev.of (n := 2) rfl rfl rfl rfl ?_
  refine g_aload_n rfl rfl ?_
  refine g_iload_n rfl rfl ?_
  refine c_V rfl rfl rfl rfl wd_M rfl (m_noInput hn hn8 hb (nI j)) rfl rfl rfl ?_
  rw [hz]
  refine g_if_eq rfl (fun _ => ?_) (fun h => absurd (rfl) h)
  refine g_aload_n rfl rfl ?_
  refine g_get rfl rfl wd_M rfl ?_
  refine g_iload_n rfl rfl ?_
  refine s_zald rfl a_71 rfl (by omega) ?_
  refine g_if_ne rfl (fun h => ?_) (fun h => ?_)
  · rw [if_neg h, if_neg h]
    refine g_aload_n rfl rfl ?_
    refine g_get rfl rfl wd_M rfl ?_
    refine g_iload_n rfl rfl ?_
    refine s_iald rfl a_70 rfl (by omega) ?_
    rw [hep]
    refine s_bp (v := nI 15) rfl rfl ?_
    by_cases hl : ep < 15
    · rw [if_pos hl, if_pos hl]
      refine g_icmp_ne rfl (fun _ => ?_) (fun h => absurd h (fun z => absurd ((nI_eq (by omega) (by omega)).mp z) (by omega)))
      refine g_aload_n rfl rfl ?_
      refine g_get rfl rfl wd_M rfl ?_
      refine g_iload_n rfl rfl ?_
      refine g_dup2 rfl rfl rfl ?_
      refine s_iald rfl a_70 rfl (by omega) ?_
      rw [hep]
      refine s_ic (v := nI 1) rfl rfl ?_
      refine g_iadd rfl ?_
      rw [nI_add]
      refine s_iast rfl a_70 rfl (by omega) ?_
      refine g_aload_n rfl rfl ?_
      refine g_get rfl rfl wd_M rfl ?_
      refine g_iload_n rfl rfl ?_
      refine s_iald rfl a_70 rfl (by omega) ?_
      rw [u2_same]
      refine g_iret rfl rfl ?_
      exact ⟨rfl, rfl⟩
    · rw [if_neg hl, if_neg hl]
      have h15 : ep = 15 := by omega
      subst h15
      refine g_icmp_ne rfl (fun h => absurd (rfl) h) (fun _ => ?_)
      refine s_bp (v := -4) rfl rfl ?_
      refine g_iret rfl rfl ?_
      exact ⟨rfl, rfl⟩
  · rw [if_pos h, if_pos h]
    refine s_bp (v := -3) rfl rfl ?_
    refine g_iret rfl rfl ?_
    exact ⟨rfl, rfl⟩
theorem m_close_bad {xs : List Int32} {σ : wd_S} {n : Nat} {b : Bool} (hn : σ 66 1 = nI n) (hn8 : n ≤ 8) (hb : σ 66 0 = bI (!b)) (x : Int32) (hz : mrB σ b n x = false) : ev xs 71 [.ref 66, .int x] σ (-1) σ := by
  refine am_Ev.of (n := 2) rfl rfl rfl rfl ?_
  refine g_aload_n rfl rfl ?_
  refine g_iload_n rfl rfl ?_
  refine c_V rfl rfl rfl rfl wd_M rfl (m_noInput hn hn8 hb x) rfl rfl rfl ?_
  rw [hz]
  refine g_if_eq rfl (fun h => absurd h (by decide)) (fun _ => ?_)
  refine s_ic (v := -1) rfl rfl ?_
  refine g_iret rfl rfl ?_
  exact ⟨rfl, rfl⟩
theorem m_close {xs : List Int32} {σ : wd_S} {n j : Nat} {b : Bool} (hn : σ 66 1 = nI n) (hn8 : n ≤ 8) (hb : σ 66 0 = bI (!b)) (hj : j < n) (hz : mrB σ b n (nI j) = true) : ev xs 71 [.ref 66, .int (nI j)] σ (if σ 71 j = 0 then -3 else nI 0) (if σ 71 j = 0 then σ else u2 σ 71 j (nI 0)) := by
  refine am_Ev.of (n := 2) rfl rfl rfl rfl ?_
  refine g_aload_n rfl rfl ?_
  refine g_iload_n rfl rfl ?_
  refine c_V rfl rfl rfl rfl wd_M rfl (m_noInput hn hn8 hb (nI j)) rfl rfl rfl ?_
  rw [hz]
  refine g_if_eq rfl (fun _ => ?_) (fun h => absurd (rfl) h)
  refine g_aload_n rfl rfl ?_
  refine g_get rfl rfl wd_M rfl ?_
  refine g_iload_n rfl rfl ?_
  refine s_zald rfl a_71 rfl (by omega) ?_
  refine g_if_ne rfl (fun h => ?_) (fun h => ?_)
  · rw [if_neg h, if_neg h]
    refine g_aload_n rfl rfl ?_
    refine g_get rfl rfl wd_M rfl ?_
    refine g_iload_n rfl rfl ?_
    refine s_ic (v := nI 0) rfl rfl ?_
    refine s_zast rfl a_71 rfl (by omega) (by decide) ?_
    refine s_ic (v := nI 0) rfl rfl ?_
    refine g_iret rfl rfl ?_
    exact ⟨rfl, rfl⟩
  · rw [if_pos h, if_pos h]
    refine s_bp (v := -3) rfl rfl ?_
    refine g_iret rfl rfl ?_
    exact ⟨rfl, rfl⟩
/-- times move three places down -/
def sh3 (lo hi : Nat) (f : Nat → Int32) : Nat → Int32 := fun j => if lo ≤ j ∧ j < hi then f (j + 3) else f j
theorem sh3_0 (lo : Nat) (f : Nat → Int32) : sh3 lo lo f = f := by
  funext j
  unfold sh3
  rw [if_neg (by omega)]
theorem sh3_s {lo hi : Nat} (f : Nat → Int32) (h : lo ≤ hi) : upd (sh3 lo hi f) hi (f (hi + 3)) = sh3 lo (hi + 1) f := by
  funext j
  unfold upd sh3
  by_cases h1 : j = hi
  · subst h1
    rw [if_pos rfl, if_pos (by omega)]
  · rw [if_neg h1]
    by_cases h2 : lo ≤ j ∧ j < hi
    · rw [if_pos h2, if_pos (by omega)]
    · rw [if_neg h2, if_neg (by omega)]
theorem sh3_at (lo hi : Nat) (f : Nat → Int32) : sh3 lo hi f (hi + 3) = f (hi + 3) := by
  unfold sh3
  rw [if_neg (by omega)]
def tkF (σ : wd_S) (e c i j : Nat) : wd_S := rws (rws (u2 σ 75 e (nI c)) 76 (sh (6 * e) (6 * e + i) (σ 76))) 77 (sh3 (18 * e) (18 * e + j) (σ 77))
theorem tkF_75 {σ : wd_S} {e c i j : Nat} : tkF σ e c i j 75 e = nI c := by
  unfold tkF
  rw [rws_c (by omega), rws_c (by omega), u2_same]
theorem m_take {xs : List Int32} {σ : wd_S} {e c : Nat} (he : e < 12) (hc : σ 75 e = nI (c + 1)) (hc6 : c < 6) : evv xs 72 [.ref 66, .int (nI e)] σ (tkF σ e c c (3 * c)) := by
  refine am_Ev.of (n := 4) rfl rfl rfl rfl ?_
  refine g_aload_n rfl rfl ?_
  refine g_get rfl rfl wd_M rfl ?_
  refine g_iload_n rfl rfl ?_
  refine g_dup2 rfl rfl rfl ?_
  refine s_iald rfl a_75 rfl (by omega) ?_
  rw [hc]
  refine s_ic (v := nI 1) rfl rfl ?_
  refine g_isub rfl ?_
  rw [pk_sub (by omega), Nat.add_sub_cancel]
  refine s_iast rfl a_75 rfl (by omega) ?_
  refine s_bp (v := nI 6) rfl rfl ?_
  refine g_iload_n rfl rfl ?_
  refine g_imul rfl ?_
  rw [pk_mul]
  refine g_istore_n rfl (Nat.le_of_ble_eq_true rfl) ?_
  refine am_for c (fun i lo σ' => (∃ z, lo = [some (.ref 66), some (.int (nI e)), some (.int (nI (6 * e + i))), z]) ∧ σ' = tkF σ e c i (3 * i)) ?_ ?_ 0 _ _ (Nat.zero_le _) ⟨⟨_, rfl⟩, ?_⟩
  · rintro i _ _ hi ⟨⟨z, rfl⟩, rfl⟩ kk
    refine g_iload_n rfl rfl ?_
    refine s_bp (v := nI 6) rfl rfl ?_
    refine g_iload_n rfl rfl ?_
    refine g_imul rfl ?_
    rw [pk_mul]
    refine g_aload_n rfl rfl ?_
    refine g_get rfl rfl wd_M rfl ?_
    refine g_iload_n rfl rfl ?_
    refine s_iald rfl a_75 rfl (by omega) ?_
    rw [tkF_75]
    refine g_iadd rfl ?_
    rw [nI_add]
    refine g_icmp_ge rfl (fun h => absurd h (nI_ge (by omega) (by omega))) (fun _ => ?_)
    refine g_aload_n rfl rfl ?_
    refine g_get rfl rfl wd_M rfl ?_
    refine g_iload_n rfl rfl ?_
    refine g_aload_n rfl rfl ?_
    refine g_get rfl rfl wd_M rfl ?_
    refine g_iload_n rfl rfl ?_
    refine s_ic (v := nI 1) rfl rfl ?_
    refine g_iadd rfl ?_
    rw [nI_add]
    refine s_iald rfl a_76 rfl (by omega) ?_
    have r76 : tkF σ e c i (3 * i) 76 (6 * e + i + 1) = σ 76 (6 * e + i + 1) := by
      unfold tkF
      rw [rws_c (by omega), rws_same, sh_at]
    rw [r76]
    refine s_iast rfl a_76 rfl (by omega) ?_
    refine s_ic (v := nI 0) rfl rfl ?_
    refine g_istore_n rfl (Nat.le_of_ble_eq_true rfl) ?_
    have hu : u2 (tkF σ e c i (3 * i)) 76 (6 * e + i) (σ 76 (6 * e + i + 1)) = tkF σ e c (i + 1) (3 * i) := by
      unfold tkF
      rw [u2_rws_c (by omega), u2_rws, sh_s _ (by omega), show 6 * e + (i + 1) = 6 * e + i + 1 by omega]
    rw [hu]
    refine am_for 3 (fun q lo σ' => lo = [some (.ref 66), some (.int (nI e)), some (.int (nI (6 * e + i))), some (.int (nI q))] ∧ σ' = tkF σ e c (i + 1) (3 * i + q)) ?_ ?_ 0 _ _ (Nat.zero_le _) ⟨rfl, rfl⟩
    · rintro q _ _ hq ⟨rfl, rfl⟩ kk2
      refine g_iload_n rfl rfl ?_
      refine s_ic (v := nI 3) rfl rfl ?_
      refine g_icmp_ge rfl (fun h => absurd h (nI_ge hq (by omega))) (fun _ => ?_)
      refine g_aload_n rfl rfl ?_
      refine g_get rfl rfl wd_M rfl ?_
      refine s_ic (v := nI 3) rfl rfl ?_
      refine g_iload_n rfl rfl ?_
      refine g_imul rfl ?_
      rw [pk_mul]
      refine g_iload_n rfl rfl ?_
      refine g_iadd rfl ?_
      rw [nI_add]
      refine g_aload_n rfl rfl ?_
      refine g_get rfl rfl wd_M rfl ?_
      refine s_ic (v := nI 3) rfl rfl ?_
      refine g_iload_n rfl rfl ?_
      refine g_imul rfl ?_
      rw [pk_mul]
      refine s_ic (v := nI 3) rfl rfl ?_
      refine g_iadd rfl ?_
      rw [nI_add]
      refine g_iload_n rfl rfl ?_
      refine g_iadd rfl ?_
      rw [nI_add]
      refine s_iald rfl a_77 rfl (by omega) ?_
      have r77 : tkF σ e c (i + 1) (3 * i + q) 77 (3 * (6 * e + i) + 3 + q) = σ 77 (18 * e + (3 * i + q) + 3) := by
        unfold tkF
        rw [rws_same, show 3 * (6 * e + i) + 3 + q = 18 * e + (3 * i + q) + 3 by omega, sh3_at]
      rw [r77]
      refine s_iast rfl a_77 rfl (by omega) ?_
      refine s_inc rfl rfl (nI_1 _) ?_
      refine g_goto rfl ?_
      refine kk2 _ _ ⟨rfl, ?_⟩
      unfold tkF
      rw [u2_rws, show 3 * (6 * e + i) + q = 18 * e + (3 * i + q) by omega, sh3_s _ (by omega)]
      rfl
    · rintro _ _ ⟨rfl, rfl⟩
      refine g_iload_n rfl rfl ?_
      refine s_ic (v := nI 3) rfl rfl ?_
      refine g_icmp_ge rfl (fun _ => ?_) (fun h => absurd (nI_le (Nat.le_refl _) (by omega)) h)
      refine s_inc rfl rfl (nI_1 _) ?_
      refine g_goto rfl ?_
      refine kk _ _ ⟨⟨_, rfl⟩, ?_⟩
      rw [show 3 * i + 3 = 3 * (i + 1) by omega]
  · rintro _ _ ⟨⟨z, rfl⟩, rfl⟩
    refine g_iload_n rfl rfl ?_
    refine s_bp (v := nI 6) rfl rfl ?_
    refine g_iload_n rfl rfl ?_
    refine g_imul rfl ?_
    rw [pk_mul]
    refine g_aload_n rfl rfl ?_
    refine g_get rfl rfl wd_M rfl ?_
    refine g_iload_n rfl rfl ?_
    refine s_iald rfl a_75 rfl (by omega) ?_
    rw [tkF_75]
    refine g_iadd rfl ?_
    rw [nI_add]
    refine g_icmp_ge rfl (fun _ => ?_) (fun h => absurd (nI_le (Nat.le_refl _) (by omega)) h)
    refine g_vret rfl rfl ?_
    exact ⟨rfl, rfl⟩
  · unfold tkF
    rw [Nat.add_zero, show 3 * 0 = 0 from rfl, Nat.add_zero, sh_0, sh3_0]
    funext d
    unfold rws u2
    by_cases h1 : d = 77
    · subst h1
      simp
    · by_cases h2 : d = 76
      · subst h2
        simp
      · simp [h1, h2]
