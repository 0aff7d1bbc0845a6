/-! The reference: the order of requests; messages with one time. -/
/-- is request r before request q? -/
def erB (σ : wd_S) (r q : Nat) : Bool :=
  if σ 78 r = σ 78 q then
    (if σ 79 (3 * r) = σ 79 (3 * q) then
      (if σ 79 (3 * r + 1) = σ 79 (3 * q + 1) then
        (if σ 79 (3 * r + 2) = σ 79 (3 * q + 2) then false else !(decide (σ 79 (3 * q + 2) ≤ σ 79 (3 * r + 2))))
      else !(decide (σ 79 (3 * q + 1) ≤ σ 79 (3 * r + 1))))
    else !(decide (σ 79 (3 * q) ≤ σ 79 (3 * r))))
  else !(decide (σ 78 q ≤ σ 78 r))
theorem m_earlier {xs : List Int32} {σ : wd_S} {r q : Nat} (hr : r < 32) (hq : q < 32) : ev xs 82 [.ref 66, .int (nI r), .int (nI q)] σ (bI (erB σ r q)) σ := by
  refine am_Ev.of (n := 4) rfl rfl rfl rfl ?_
  have step : ∀ (j : Nat) (P : Option Value → am_W → Prop), j < 3 → (σ 79 (3 * r + j) = σ 79 (3 * q + j) → am_G 82 38 [some (.ref 66), some (.int (nI r)), some (.int (nI q)), some (.int (nI (j + 1)))] [] (wd xs σ) P) → (¬ σ 79 (3 * r + j) = σ 79 (3 * q + j) → P (some (.int (bI (!(decide (σ 79 (3 * q + j) ≤ σ 79 (3 * r + j))))))) (wd xs σ)) → am_G 82 38 [some (.ref 66), some (.int (nI r)), some (.int (nI q)), some (.int (nI j))] [] (wd xs σ) P := by
    intro j P hj h1 h2
    refine g_iload_n rfl rfl ?_
    refine s_ic (v := nI 3) rfl rfl ?_
    refine g_icmp_ge rfl (fun h => absurd h (nI_ge hj (by omega))) (fun _ => ?_)
    refine g_aload_n rfl rfl ?_
    refine g_get rfl rfl wd_M rfl ?_
    refine s_ic (v := nI 3) rfl rfl ?_
    refine g_iload_n rfl rfl ?_
    refine g_imul rfl ?_
    rw [pk_mul]
    refine g_iload_n rfl rfl ?_
    refine g_iadd rfl ?_
    rw [nI_add]
    refine s_iald rfl a_79 rfl (by omega) ?_
    refine g_aload_n rfl rfl ?_
    refine g_get rfl rfl wd_M rfl ?_
    refine s_ic (v := nI 3) rfl rfl ?_
    refine g_iload_n rfl rfl ?_
    refine g_imul rfl ?_
    rw [pk_mul]
    refine g_iload_n rfl rfl ?_
    refine g_iadd rfl ?_
    rw [nI_add]
    refine s_iald rfl a_79 rfl (by omega) ?_
    refine g_icmp_eq rfl (fun h => ?_) (fun h => ?_)
    · refine s_inc rfl rfl (nI_1 _) ?_
      refine g_goto rfl ?_
      exact h1 h
    · refine g_aload_n rfl rfl ?_
      refine g_get rfl rfl wd_M rfl ?_
      refine s_ic (v := nI 3) rfl rfl ?_
      refine g_iload_n rfl rfl ?_
      refine g_imul rfl ?_
      rw [pk_mul]
      refine g_iload_n rfl rfl ?_
      refine g_iadd rfl ?_
      rw [nI_add]
      refine s_iald rfl a_79 rfl (by omega) ?_
      refine g_aload_n rfl rfl ?_
      refine g_get rfl rfl wd_M rfl ?_
      refine s_ic (v := nI 3) rfl rfl ?_
      refine g_iload_n rfl rfl ?_
      refine g_imul rfl ?_
      rw [pk_mul]
      refine g_iload_n rfl rfl ?_
      refine g_iadd rfl ?_
      rw [nI_add]
      refine s_iald rfl a_79 rfl (by omega) ?_
      refine g_icmp_ge rfl (fun h3 => ?_) (fun h3 => ?_)
      · refine s_ic (v := nI 0) rfl rfl ?_
        refine g_zret rfl rfl (by decide) ?_
        have h4 := h2 h
        rw [decide_eq_true h3] at h4
        exact h4
      · refine s_ic (v := nI 1) rfl rfl ?_
        refine g_goto rfl ?_
        refine g_zret rfl rfl (by decide) ?_
        have h4 := h2 h
        rw [decide_eq_false h3] at h4
        exact h4
  refine g_aload_n rfl rfl ?_
  refine g_get rfl rfl wd_M rfl ?_
  refine g_iload_n rfl rfl ?_
  refine s_iald rfl a_78 rfl (by omega) ?_
  refine g_aload_n rfl rfl ?_
  refine g_get rfl rfl wd_M rfl ?_
  refine g_iload_n rfl rfl ?_
  refine s_iald rfl a_78 rfl (by omega) ?_
  refine g_icmp_eq rfl (fun h => ?_) (fun h => ?_)
  · unfold erB
    rw [if_pos h]
    refine s_ic (v := nI 0) rfl rfl ?_
    refine g_istore_n rfl (Nat.le_of_ble_eq_true rfl) ?_
    refine step 0 _ (by omega) (fun h0 => ?_) (fun h0 => ?_)
    · rw [Nat.add_zero, Nat.add_zero] at h0
      rw [if_pos h0]
      refine step 1 _ (by omega) (fun h1 => ?_) (fun h1 => ?_)
      · rw [if_pos h1]
        refine step 2 _ (by omega) (fun h2 => ?_) (fun h2 => ?_)
        · rw [if_pos h2]
          refine g_iload_n rfl rfl ?_
          refine s_ic (v := nI 3) rfl rfl ?_
          refine g_icmp_ge rfl (fun _ => ?_) (fun h => absurd (nI_le (Nat.le_refl _) (by omega)) h)
          refine s_ic (v := nI 0) rfl rfl ?_
          refine g_zret rfl rfl (by decide) ?_
          exact ⟨rfl, rfl⟩
        · rw [if_neg h2]
          exact ⟨rfl, rfl⟩
      · rw [if_neg h1]
        exact ⟨rfl, rfl⟩
    · rw [Nat.add_zero, Nat.add_zero] at h0 ⊢
      rw [if_neg h0]
      exact ⟨rfl, rfl⟩
  · unfold erB
    rw [if_neg h]
    refine g_aload_n rfl rfl ?_
    refine g_get rfl rfl wd_M rfl ?_
    refine g_iload_n rfl rfl ?_
    refine s_iald rfl a_78 rfl (by omega) ?_
    refine g_aload_n rfl rfl ?_
    refine g_get rfl rfl wd_M rfl ?_
    refine g_iload_n rfl rfl ?_
    refine s_iald rfl a_78 rfl (by omega) ?_
    refine g_icmp_ge rfl (fun h3 => ?_) (fun h3 => ?_)
    · rw [decide_eq_true h3]
      refine s_ic (v := nI 0) rfl rfl ?_
      refine g_zret rfl rfl (by decide) ?_
      exact ⟨rfl, rfl⟩
    · rw [decide_eq_false h3]
      refine s_ic (v := nI 1) rfl rfl ?_
      refine g_goto rfl ?_
      refine g_zret rfl rfl (by decide) ?_
      exact ⟨rfl, rfl⟩
/-- the request with number x -/
def nuF (σ : wd_S) (q : Nat) (x : Int32) : Option Nat := fst1 (fun r => decide (nI (cnt (fun k => erB σ k r) q) = x)) q
theorem m_numbered {xs : List Int32} {σ : wd_S} {q : Nat} (hq : σ 66 14 = nI q) (hq32 : q ≤ 32) (x : Int32) : ev xs 83 [.ref 66, .int x] σ (oI (nuF σ q x)) σ := by
  refine am_Ev.of (n := 5) rfl rfl rfl rfl ?_
  refine s_ic (v := nI 0) rfl rfl ?_
  refine g_istore_n rfl (Nat.le_of_ble_eq_true rfl) ?_
  refine am_for q (fun i lo σ' => (∃ z3 z4, lo = [some (.ref 66), some (.int x), some (.int (nI i)), z3, z4]) ∧ σ = σ' ∧ ∀ j, j < i → ¬ nI (cnt (fun k => erB σ k j) q) = x) ?_ ?_ 0 _ _ (Nat.zero_le _) ⟨⟨_, _, rfl⟩, rfl, fun j h => absurd h (Nat.not_lt_zero j)⟩
  · rintro i _ _ hi ⟨⟨z3, z4, rfl⟩, rfl, hn⟩ kk
    refine g_iload_n rfl rfl ?_
    refine g_aload_n rfl rfl ?_
    refine g_get rfl rfl wd_M rfl ?_
    rw [hq]
    refine g_icmp_ge rfl (fun h => absurd h (nI_ge hi (by omega))) (fun _ => ?_)
    refine s_ic (v := nI 0) rfl rfl ?_
    refine g_istore_n rfl (Nat.le_of_ble_eq_true rfl) ?_
    refine s_ic (v := nI 0) rfl rfl ?_
    refine g_istore rfl (Nat.le_of_ble_eq_true rfl) ?_
    refine am_for q (fun j lo σ' => lo = [some (.ref 66), some (.int x), some (.int (nI i)), some (.int (nI (cnt (fun k => erB σ k i) j))), some (.int (nI j))] ∧ σ = σ') ?_ ?_ 0 _ _ (Nat.zero_le _) ⟨rfl, rfl⟩
    · rintro j _ _ hj ⟨rfl, rfl⟩ kk2
      refine g_iload rfl rfl ?_
      refine g_aload_n rfl rfl ?_
      refine g_get rfl rfl wd_M rfl ?_
      rw [hq]
      refine g_icmp_ge rfl (fun h => absurd h (nI_ge hj (by omega))) (fun _ => ?_)
      refine g_iload_n rfl rfl ?_
      refine g_aload_n rfl rfl ?_
      refine g_iload rfl rfl ?_
      refine g_iload_n rfl rfl ?_
      refine c_V rfl rfl rfl rfl wd_M rfl (m_earlier (show j < 32 by omega) (show i < 32 by omega)) rfl rfl rfl ?_
      cases he : erB σ j i with
      | true =>
        refine g_if_eq rfl (fun h => absurd h (by decide)) (fun _ => ?_)
        refine s_ic (v := nI 1) rfl rfl ?_
        refine g_goto rfl ?_
        refine g_iadd rfl ?_
        rw [nI_add]
        refine g_istore_n rfl (Nat.le_of_ble_eq_true rfl) ?_
        refine s_inc rfl rfl (nI_1 _) ?_
        refine g_goto rfl ?_
        refine kk2 _ _ ⟨?_, rfl⟩
        rw [cnt_t (p := fun k => erB σ k i) he]
        rfl
      | false =>
        refine g_if_eq rfl (fun _ => ?_) (fun h => absurd (rfl) h)
        refine s_ic (v := nI 0) rfl rfl ?_
        refine g_iadd rfl ?_
        rw [nI_add]
        refine g_istore_n rfl (Nat.le_of_ble_eq_true rfl) ?_
        refine s_inc rfl rfl (nI_1 _) ?_
        refine g_goto rfl ?_
        refine kk2 _ _ ⟨?_, rfl⟩
        rw [cnt_f (p := fun k => erB σ k i) he]
        rfl
    · rintro _ _ ⟨rfl, rfl⟩
      refine g_iload rfl rfl ?_
      refine g_aload_n rfl rfl ?_
      refine g_get rfl rfl wd_M rfl ?_
      rw [hq]
      refine g_icmp_ge rfl (fun _ => ?_) (fun h => absurd (nI_le (Nat.le_refl _) (by omega)) h)
      refine g_iload_n rfl rfl ?_
      refine g_iload_n rfl rfl ?_
      refine g_icmp_ne rfl (fun h => ?_) (fun h => ?_)
      · refine s_inc rfl rfl (nI_1 _) ?_
        refine g_goto rfl ?_
        exact kk _ _ ⟨⟨_, _, rfl⟩, rfl, lt_s hn h⟩
      · refine g_iload_n rfl rfl ?_
        refine g_iret rfl rfl ?_
        refine ⟨?_, rfl⟩
        unfold nuF
        rw [fst1_some hi (decide_eq_true h) fun j hj => decide_eq_false (hn j hj)]
        rfl
  · rintro _ _ ⟨⟨z3, z4, rfl⟩, rfl, hn⟩
    refine g_iload_n rfl rfl ?_
    refine g_aload_n rfl rfl ?_
    refine g_get rfl rfl wd_M rfl ?_
    rw [hq]
    refine g_icmp_ge rfl (fun _ => ?_) (fun h => absurd (nI_le (Nat.le_refl _) (by omega)) h)
    refine s_ic (v := -1) rfl rfl ?_
    refine g_iret rfl rfl ?_
    refine ⟨?_, rfl⟩
    unfold nuF
    rw [fst1_none.mpr fun j hj => decide_eq_false (hn j hj)]
    rfl
theorem m_request_bad {xs : List Int32} {σ : wd_S} {q : Nat} (hq : σ 66 14 = nI q) (hq32 : q ≤ 32) (x y : Int32) (h : nuF σ q x = none ∨ inB y 5 = false) : ev xs 84 [.ref 66, .int x, .int y] σ (-1) σ := by
  refine am_Ev.of (n := 4) rfl rfl rfl rfl ?_
  have bad : ∀ lo, am_G 84 19 lo [] (wd xs σ) (po xs (-1) σ) := by
    intro lo
    refine s_ic (v := -1) rfl rfl ?_
    refine g_iret rfl rfl ?_
    exact ⟨rfl, rfl⟩
  refine g_aload_n rfl rfl ?_
  refine g_iload_n rfl rfl ?_
  refine c_V rfl rfl rfl rfl wd_M rfl (m_numbered hq hq32 x) rfl rfl rfl ?_
  refine g_istore_n rfl (Nat.le_of_ble_eq_true rfl) ?_
  refine g_iload_n rfl rfl ?_
  cases hr : nuF σ q x with
  | none =>
    refine g_if_lt rfl (fun _ => ?_) (fun h => absurd (by decide) h)
    exact bad _
  | some r =>
    have hr2 := (fst1_lt hr).1
    refine g_if_lt rfl (fun h => absurd h (nI_pos (by omega))) (fun _ => ?_)
    have hy : inB y 5 = false := by
      rcases h with h | h
      · rw [hr] at h
        cases h
      · exact h
    refine g_iload_n rfl rfl ?_
    refine g_if_lt rfl (fun h1 => ?_) (fun h1 => ?_)
    · exact bad _
    · refine g_iload_n rfl rfl ?_
      refine s_ic (v := nI 4) rfl rfl ?_
      refine g_icmp_le rfl (fun h2 => ?_) (fun h2 => ?_)
      · exfalso
        unfold inB at hy
        have n5 : (nI 5).toInt = 5 := by decide
        have n4 : (nI 4).toInt = 4 := by decide
        rw [Bool.and_eq_false_iff, decide_eq_false_iff_not, decide_eq_false_iff_not] at hy
        simp only [lt_i, le_i, i0, n5, n4] at *
        omega
      · exact bad _
theorem m_request {xs : List Int32} {σ : wd_S} {q r : Nat} (hq : σ 66 14 = nI q) (hq32 : q ≤ 32) (x : Int32) (hr : nuF σ q x = some r) {y : Nat} (hy : y < 5) : ev xs 84 [.ref 66, .int x, .int (nI y)] σ (if y = 0 then σ 78 r else if y = 4 then σ 80 r else σ 79 (3 * r + y - 1)) σ := by
  have hr2 := (fst1_lt hr).1
  refine am_Ev.of (n := 4) rfl rfl rfl rfl ?_
  refine g_aload_n rfl rfl ?_
  refine g_iload_n rfl rfl ?_
  refine c_V rfl rfl rfl rfl wd_M rfl (m_numbered hq hq32 x) rfl rfl rfl ?_
  rw [hr]
  refine g_istore_n rfl (Nat.le_of_ble_eq_true rfl) ?_
  refine g_iload_n rfl rfl ?_
  refine g_if_lt rfl (fun h => absurd h (nI_pos (by omega))) (fun _ => ?_)
  refine g_iload_n rfl rfl ?_
  refine g_if_lt rfl (fun h => absurd h (nI_pos (by omega))) (fun _ => ?_)
  refine g_iload_n rfl rfl ?_
  refine s_ic (v := nI 4) rfl rfl ?_
  refine g_icmp_le rfl (fun _ => ?_) (fun h => absurd (nI_le (by omega) (by omega)) h)
  refine g_iload_n rfl rfl ?_
  by_cases h0 : y = 0
  · subst h0
    refine g_if_ne rfl (fun h => absurd (rfl) h) (fun _ => ?_)
    refine g_aload_n rfl rfl ?_
    refine g_get rfl rfl wd_M rfl ?_
    refine g_iload_n rfl rfl ?_
    refine s_iald rfl a_78 (j := r) rfl (by omega) ?_
    refine g_goto rfl ?_
    refine g_iret rfl rfl ?_
    exact ⟨rfl, rfl⟩
  · refine g_if_ne rfl (fun _ => ?_) (fun h => absurd h (nI_ne0 (by omega) (by omega)))
    rw [if_neg h0]
    refine g_iload_n rfl rfl ?_
    refine s_ic (v := nI 4) rfl rfl ?_
    by_cases h4 : y = 4
    · subst h4
      refine g_icmp_ne rfl (fun h => absurd (rfl) h) (fun _ => ?_)
      refine g_aload_n rfl rfl ?_
      refine g_get rfl rfl wd_M rfl ?_
      refine g_iload_n rfl rfl ?_
      refine s_iald rfl a_80 (j := r) rfl (by omega) ?_
      refine g_goto rfl ?_
      refine g_iret rfl rfl ?_
      exact ⟨rfl, rfl⟩
    · refine g_icmp_ne rfl (fun _ => ?_) (fun h => absurd h (fun z => h4 ((nI_eq (by omega) (by omega)).mp z)))
      rw [if_neg h4]
      refine g_aload_n rfl rfl ?_
      refine g_get rfl rfl wd_M rfl ?_
      refine s_ic (v := nI 3) rfl rfl ?_
      refine g_iload_n rfl rfl ?_
      refine g_imul rfl ?_
      rw [show nI 3 * oI (some r) = nI (3 * r) from pk_mul 3 r]
      refine g_iload_n rfl rfl ?_
      refine g_iadd rfl ?_
      rw [nI_add]
      refine s_ic (v := nI 1) rfl rfl ?_
      refine g_isub rfl ?_
      rw [pk_sub (by omega)]
      refine s_iald rfl a_79 rfl (by omega) ?_
      refine g_iret rfl rfl ?_
      exact ⟨rfl, rfl⟩
/-- do messages j and k of line e have one time? -/
def stB (σ : wd_S) (e k j : Nat) : Bool := decide (σ 77 (18 * e + 3 * j) = σ 77 (18 * e + 3 * k)) && (decide (σ 77 (18 * e + 3 * j + 1) = σ 77 (18 * e + 3 * k + 1)) && decide (σ 77 (18 * e + 3 * j + 2) = σ 77 (18 * e + 3 * k + 2)))
theorem m_again {xs : List Int32} {σ : wd_S} {e k : Nat} (he : e < 12) (hk : k < 6) : ev xs 88 [.ref 66, .int (nI e), .int (nI k)] σ (bI (anyB (stB σ e k) k)) σ := by
  refine am_Ev.of (n := 7) rfl rfl rfl rfl ?_
  refine s_ic (v := nI 0) rfl rfl ?_
  refine g_istore_n rfl (Nat.le_of_ble_eq_true rfl) ?_
  refine s_ic (v := nI 0) rfl rfl ?_
  refine g_istore rfl (Nat.le_of_ble_eq_true rfl) ?_
  refine am_for k (fun i lo σ' => (∃ z5 z6, lo = [some (.ref 66), some (.int (nI e)), some (.int (nI k)), some (.int (bI (anyB (stB σ e k) i))), some (.int (nI i)), z5, z6]) ∧ σ = σ') ?_ ?_ 0 _ _ (Nat.zero_le _) ⟨⟨_, _, rfl⟩, rfl⟩
  · rintro i _ _ hi ⟨⟨z5, z6, rfl⟩, rfl⟩ kk
    have kk2 : ∀ (b : Bool) z5 z6, anyB (stB σ e k) (i + 1) = b → am_G 88 5 [some (.ref 66), some (.int (nI e)), some (.int (nI k)), some (.int (bI b)), some (.int (nI (i + 1))), z5, z6] [] (wd xs σ) (po xs (bI (anyB (stB σ e k) k)) σ) := by
      rintro b z5 z6 rfl
      exact kk _ _ ⟨⟨_, _, rfl⟩, rfl⟩
    have hs : anyB (stB σ e k) (i + 1) = (anyB (stB σ e k) i || stB σ e k i) := rfl
    refine g_iload rfl rfl ?_
    refine g_iload_n rfl rfl ?_
    refine g_icmp_ge rfl (fun h => absurd h (nI_ge hi (by omega))) (fun _ => ?_)
    refine s_bp (v := nI 18) rfl rfl ?_
    refine g_iload_n rfl rfl ?_
    refine g_imul rfl ?_
    rw [pk_mul]
    refine s_ic (v := nI 3) rfl rfl ?_
    refine g_iload rfl rfl ?_
    refine g_imul rfl ?_
    rw [pk_mul]
    refine g_iadd rfl ?_
    rw [nI_add]
    refine g_istore rfl (Nat.le_of_ble_eq_true rfl) ?_
    refine s_bp (v := nI 18) rfl rfl ?_
    refine g_iload_n rfl rfl ?_
    refine g_imul rfl ?_
    rw [pk_mul]
    refine s_ic (v := nI 3) rfl rfl ?_
    refine g_iload_n rfl rfl ?_
    refine g_imul rfl ?_
    rw [pk_mul]
    refine g_iadd rfl ?_
    rw [nI_add]
    refine g_istore rfl (Nat.le_of_ble_eq_true rfl) ?_
    refine g_iload_n rfl rfl ?_
    cases ha : anyB (stB σ e k) i with
    | true =>
      refine g_if_ne rfl (fun _ => ?_) (fun h => absurd h (by decide))
      refine s_ic (v := nI 1) rfl rfl ?_
      refine g_goto rfl ?_
      refine g_istore_n rfl (Nat.le_of_ble_eq_true rfl) ?_
      refine s_inc rfl rfl (nI_1 _) ?_
      refine g_goto rfl ?_
      exact kk2 true _ _ (by rw [hs, ha]; rfl)
    | false =>
      refine g_if_ne rfl (fun h => absurd (rfl) h) (fun _ => ?_)
      refine g_aload_n rfl rfl ?_
      refine g_get rfl rfl wd_M rfl ?_
      refine g_iload rfl rfl ?_
      refine s_iald rfl a_77 rfl (by omega) ?_
      refine g_aload_n rfl rfl ?_
      refine g_get rfl rfl wd_M rfl ?_
      refine g_iload rfl rfl ?_
      refine s_iald rfl a_77 rfl (by omega) ?_
      refine g_icmp_ne rfl (fun h50 => ?_) (fun h50 => ?_)
      · refine s_ic (v := nI 0) rfl rfl ?_
        refine g_istore_n rfl (Nat.le_of_ble_eq_true rfl) ?_
        refine s_inc rfl rfl (nI_1 _) ?_
        refine g_goto rfl ?_
        first | exact kk2 true _ _ (by rw [hs, ha]; unfold stB; rw [decide_eq_true h50, decide_eq_true h71, decide_eq_true h92]; rfl) | exact kk2 false _ _ (by rw [hs, ha]; unfold stB; first | (rw [decide_eq_false h50]; rfl) | (rw [decide_eq_false h71]; simp; done) | (rw [decide_eq_false h92]; simp))
      · refine g_aload_n rfl rfl ?_
        refine g_get rfl rfl wd_M rfl ?_
        refine g_iload rfl rfl ?_
        refine s_ic (v := nI 1) rfl rfl ?_
        refine g_iadd rfl ?_
        rw [nI_add]
        refine s_iald rfl a_77 rfl (by omega) ?_
        refine g_aload_n rfl rfl ?_
        refine g_get rfl rfl wd_M rfl ?_
        refine g_iload rfl rfl ?_
        refine s_ic (v := nI 1) rfl rfl ?_
        refine g_iadd rfl ?_
        rw [nI_add]
        refine s_iald rfl a_77 rfl (by omega) ?_
        refine g_icmp_ne rfl (fun h71 => ?_) (fun h71 => ?_)
        · refine s_ic (v := nI 0) rfl rfl ?_
          refine g_istore_n rfl (Nat.le_of_ble_eq_true rfl) ?_
          refine s_inc rfl rfl (nI_1 _) ?_
          refine g_goto rfl ?_
          first | exact kk2 true _ _ (by rw [hs, ha]; unfold stB; rw [decide_eq_true h50, decide_eq_true h71, decide_eq_true h92]; rfl) | exact kk2 false _ _ (by rw [hs, ha]; unfold stB; first | (rw [decide_eq_false h50]; rfl) | (rw [decide_eq_false h71]; simp; done) | (rw [decide_eq_false h92]; simp))
        · refine g_aload_n rfl rfl ?_
          refine g_get rfl rfl wd_M rfl ?_
          refine g_iload rfl rfl ?_
          refine s_ic (v := nI 2) rfl rfl ?_
          refine g_iadd rfl ?_
          rw [nI_add]
          refine s_iald rfl a_77 rfl (by omega) ?_
          refine g_aload_n rfl rfl ?_
          refine g_get rfl rfl wd_M rfl ?_
          refine g_iload rfl rfl ?_
          refine s_ic (v := nI 2) rfl rfl ?_
          refine g_iadd rfl ?_
          rw [nI_add]
          refine s_iald rfl a_77 rfl (by omega) ?_
          refine g_icmp_ne rfl (fun h92 => ?_) (fun h92 => ?_)
          · refine s_ic (v := nI 0) rfl rfl ?_
            refine g_istore_n rfl (Nat.le_of_ble_eq_true rfl) ?_
            refine s_inc rfl rfl (nI_1 _) ?_
            refine g_goto rfl ?_
            first | exact kk2 true _ _ (by rw [hs, ha]; unfold stB; rw [decide_eq_true h50, decide_eq_true h71, decide_eq_true h92]; rfl) | exact kk2 false _ _ (by rw [hs, ha]; unfold stB; first | (rw [decide_eq_false h50]; rfl) | (rw [decide_eq_false h71]; simp; done) | (rw [decide_eq_false h92]; simp))
          · refine s_ic (v := nI 1) rfl rfl ?_
            refine g_goto rfl ?_
            refine g_istore_n rfl (Nat.le_of_ble_eq_true rfl) ?_
            refine s_inc rfl rfl (nI_1 _) ?_
            refine g_goto rfl ?_
            first | exact kk2 true _ _ (by rw [hs, ha]; unfold stB; rw [decide_eq_true h50, decide_eq_true h71, decide_eq_true h92]; rfl) | exact kk2 false _ _ (by rw [hs, ha]; unfold stB; first | (rw [decide_eq_false h50]; rfl) | (rw [decide_eq_false h71]; simp; done) | (rw [decide_eq_false h92]; simp))
  · rintro _ _ ⟨⟨z5, z6, rfl⟩, rfl⟩
    refine g_iload rfl rfl ?_
    refine g_iload_n rfl rfl ?_
    refine g_icmp_ge rfl (fun _ => ?_) (fun h => absurd (nI_le (Nat.le_refl _) (by omega)) h)
    refine g_iload_n rfl rfl ?_
    refine g_zret rfl rfl (bI_or _) ?_
    exact ⟨rfl, rfl⟩
theorem m_points {xs : List Int32} {σ : wd_S} {n e : Nat} (hn : σ 66 1 = nI n) (hn8 : n ≤ 8) (he : σ 66 8 = nI e) (he12 : e ≤ 12) (cn : Nat → Nat) (hc : ∀ i, i < e → σ 75 i = nI (cn i) ∧ cn i ≤ 6) (op : Nat → Bool) (ho : ∀ v, v < n → σ 71 v = bI (op v)) : ev xs 95 [.ref 66] σ (σ 66 14 + nI (sumN (fun i => cnt (fun k => !(anyB (stB σ i k) k)) (cn i)) e) + nI (cnt op n)) σ := by
  refine am_Ev.of (n := 4) rfl rfl rfl rfl ?_
  refine g_aload_n rfl rfl ?_
  refine g_get rfl rfl wd_M rfl ?_
  refine g_istore_n rfl (Nat.le_of_ble_eq_true rfl) ?_
  refine s_ic (v := nI 0) rfl rfl ?_
  refine g_istore_n rfl (Nat.le_of_ble_eq_true rfl) ?_
  refine am_for e (fun i lo σ' => (∃ z3, lo = [some (.ref 66), some (.int (σ 66 14 + nI (sumN (fun i => cnt (fun k => !(anyB (stB σ i k) k)) (cn i)) i))), some (.int (nI i)), z3]) ∧ σ = σ') ?_ ?_ 0 _ _ (Nat.zero_le _) ⟨⟨none, ?_⟩, rfl⟩
  · rintro i _ _ hi ⟨⟨z3, rfl⟩, rfl⟩ kk
    obtain ⟨c1, c2⟩ := hc i hi
    refine g_iload_n rfl rfl ?_
    refine g_aload_n rfl rfl ?_
    refine g_get rfl rfl wd_M rfl ?_
    rw [he]
    refine g_icmp_ge rfl (fun h => absurd h (nI_ge hi (by omega))) (fun _ => ?_)
    refine s_ic (v := nI 0) rfl rfl ?_
    refine g_istore_n rfl (Nat.le_of_ble_eq_true rfl) ?_
    refine am_for (cn i) (fun k lo σ' => lo = [some (.ref 66), some (.int (σ 66 14 + nI (sumN (fun i => cnt (fun k => !(anyB (stB σ i k) k)) (cn i)) i + cnt (fun k => !(anyB (stB σ i k) k)) k))), some (.int (nI i)), some (.int (nI k))] ∧ σ = σ') ?_ ?_ 0 _ _ (Nat.zero_le _) ⟨rfl, rfl⟩
    · rintro k _ _ hk ⟨rfl, rfl⟩ kk2
      refine g_iload_n rfl rfl ?_
      refine g_aload_n rfl rfl ?_
      refine g_get rfl rfl wd_M rfl ?_
      refine g_iload_n rfl rfl ?_
      refine s_iald rfl a_75 rfl (by omega) ?_
      rw [c1]
      refine g_icmp_ge rfl (fun h => absurd h (nI_ge hk (by omega))) (fun _ => ?_)
      refine g_iload_n rfl rfl ?_
      refine g_aload_n rfl rfl ?_
      refine g_iload_n rfl rfl ?_
      refine g_iload_n rfl rfl ?_
      refine c_V rfl rfl rfl rfl wd_M rfl (m_again (show i < 12 by omega) (show k < 6 by omega)) rfl rfl rfl ?_
      cases ha : anyB (stB σ i k) k with
      | true =>
        refine g_if_eq rfl (fun h => absurd h (by decide)) (fun _ => ?_)
        refine s_ic (v := nI 0) rfl rfl ?_
        refine g_goto rfl ?_
        refine g_iadd rfl ?_
        rw [Int32.add_assoc, nI_add]
        refine g_istore_n rfl (Nat.le_of_ble_eq_true rfl) ?_
        refine s_inc rfl rfl (nI_1 _) ?_
        refine g_goto rfl ?_
        refine kk2 _ _ ⟨?_, rfl⟩
        rw [cnt_f (by rw [ha]; rfl)]
        rfl
      | false =>
        refine g_if_eq rfl (fun _ => ?_) (fun h => absurd (rfl) h)
        refine s_ic (v := nI 1) rfl rfl ?_
        refine g_iadd rfl ?_
        rw [Int32.add_assoc, nI_add]
        refine g_istore_n rfl (Nat.le_of_ble_eq_true rfl) ?_
        refine s_inc rfl rfl (nI_1 _) ?_
        refine g_goto rfl ?_
        refine kk2 _ _ ⟨?_, rfl⟩
        rw [cnt_t (by rw [ha]; rfl)]
        rfl
    · rintro _ _ ⟨rfl, rfl⟩
      refine g_iload_n rfl rfl ?_
      refine g_aload_n rfl rfl ?_
      refine g_get rfl rfl wd_M rfl ?_
      refine g_iload_n rfl rfl ?_
      refine s_iald rfl a_75 rfl (by omega) ?_
      rw [c1]
      refine g_icmp_ge rfl (fun _ => ?_) (fun h => absurd (nI_le (Nat.le_refl _) (by omega)) h)
      refine s_inc rfl rfl (nI_1 _) ?_
      refine g_goto rfl ?_
      exact kk _ _ ⟨⟨_, rfl⟩, rfl⟩
  · rintro _ _ ⟨⟨z3, rfl⟩, rfl⟩
    refine g_iload_n rfl rfl ?_
    refine g_aload_n rfl rfl ?_
    refine g_get rfl rfl wd_M rfl ?_
    rw [he]
    refine g_icmp_ge rfl (fun _ => ?_) (fun h => absurd (nI_le (Nat.le_refl _) (by omega)) h)
    refine s_ic (v := nI 0) rfl rfl ?_
    refine g_istore_n rfl (Nat.le_of_ble_eq_true rfl) ?_
    refine am_for n (fun i lo σ' => (∃ z3, lo = [some (.ref 66), some (.int (σ 66 14 + nI (sumN (fun i => cnt (fun k => !(anyB (stB σ i k) k)) (cn i)) e) + nI (cnt op i))), some (.int (nI i)), z3]) ∧ σ = σ') ?_ ?_ 0 _ _ (Nat.zero_le _) ⟨⟨z3, ?_⟩, rfl⟩
    · rintro i _ _ hi ⟨⟨z3, rfl⟩, rfl⟩ kk
      refine g_iload_n rfl rfl ?_
      refine g_aload_n rfl rfl ?_
      refine g_get rfl rfl wd_M rfl ?_
      rw [hn]
      refine g_icmp_ge rfl (fun h => absurd h (nI_ge hi (by omega))) (fun _ => ?_)
      refine g_iload_n rfl rfl ?_
      refine g_aload_n rfl rfl ?_
      refine g_get rfl rfl wd_M rfl ?_
      refine g_iload_n rfl rfl ?_
      refine s_zald rfl a_71 rfl (by omega) ?_
      rw [ho i hi]
      cases hz : op i with
      | false =>
        refine g_if_eq rfl (fun _ => ?_) (fun h => absurd (rfl) h)
        refine s_ic (v := nI 0) rfl rfl ?_
        refine g_iadd rfl ?_
        rw [Int32.add_assoc _ (nI (cnt op i)), nI_add]
        refine g_istore_n rfl (Nat.le_of_ble_eq_true rfl) ?_
        refine s_inc rfl rfl (nI_1 _) ?_
        refine g_goto rfl ?_
        refine kk _ _ ⟨?_, rfl⟩
        rw [cnt_f hz]
        exact ⟨_, rfl⟩
      | true =>
        refine g_if_eq rfl (fun h => absurd h (by decide)) (fun _ => ?_)
        refine s_ic (v := nI 1) rfl rfl ?_
        refine g_goto rfl ?_
        refine g_iadd rfl ?_
        rw [Int32.add_assoc _ (nI (cnt op i)), nI_add]
        refine g_istore_n rfl (Nat.le_of_ble_eq_true rfl) ?_
        refine s_inc rfl rfl (nI_1 _) ?_
        refine g_goto rfl ?_
        refine kk _ _ ⟨?_, rfl⟩
        rw [cnt_t hz]
        exact ⟨_, rfl⟩
    · rintro _ _ ⟨⟨z3, rfl⟩, rfl⟩
      refine g_iload_n rfl rfl ?_
      refine g_aload_n rfl rfl ?_
      refine g_get rfl rfl wd_M rfl ?_
      rw [hn]
      refine g_icmp_ge rfl (fun _ => ?_) (fun h => absurd (nI_le (Nat.le_refl _) (by omega)) h)
      refine g_iload_n rfl rfl ?_
      refine g_iret rfl rfl ?_
      exact ⟨rfl, rfl⟩
    · show _ = [_, some (Value.int (_ + nI 0)), _, _]
      rw [nI_0, Int32.add_zero]
      rfl
  · show _ = [_, some (Value.int (_ + nI 0)), _, _]
    rw [nI_0, Int32.add_zero]
    rfl
