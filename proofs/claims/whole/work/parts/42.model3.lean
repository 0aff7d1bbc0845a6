/-! The reference: requests, work, deliver. -/
/-- request r is that of x at the time in the fields -/
def rmB (σ : wd_S) (x : Int32) (r : Nat) : Bool := decide (σ 78 r = x) && (decide (σ 79 (3 * r) = σ 66 21) && (decide (σ 79 (3 * r + 1) = σ 66 22) && decide (σ 79 (3 * r + 2) = σ 66 23)))
theorem m_requestFor {xs : List Int32} {σ : wd_S} {q : Nat} (hq : σ 66 14 = nI q) (hq32 : q ≤ 32) (x : Int32) : ev xs 73 [.ref 66, .int x] σ (oI (fst1 (rmB σ x) q)) σ := by
  refine am_Ev.of (n := 3) rfl rfl rfl rfl ?_
  refine s_ic (v := nI 0) rfl rfl ?_
  refine g_istore_n rfl (Nat.le_of_ble_eq_true rfl) ?_
  refine am_for q (fun i lo σ' => lo = [some (.ref 66), some (.int x), some (.int (nI i))] ∧ σ = σ' ∧ ∀ j, j < i → rmB σ x j = false) ?_ ?_ 0 _ _ (Nat.zero_le _) ⟨rfl, rfl, fun j h => absurd h (Nat.not_lt_zero j)⟩
  · rintro i _ _ hi ⟨rfl, rfl, hn⟩ kk
    refine g_iload_n rfl rfl ?_
    refine g_aload_n rfl rfl ?_
    refine g_get rfl rfl wd_M rfl ?_
    rw [hq]
    refine g_icmp_ge rfl (fun h => absurd h (nI_ge hi (by omega))) (fun _ => ?_)
    refine g_aload_n rfl rfl ?_
    refine g_get rfl rfl wd_M rfl ?_
    refine g_iload_n rfl rfl ?_
    refine s_iald rfl a_78 rfl (by omega) ?_
    refine g_iload_n rfl rfl ?_
    refine g_icmp_ne rfl (fun h17 => ?_) (fun h17 => ?_)
    · refine s_inc rfl rfl (nI_1 _) ?_
      refine g_goto rfl ?_
      refine kk _ _ ⟨rfl, rfl, lt_s hn ?_⟩
      unfold rmB
      first | (rw [decide_eq_false h17]; rfl) | (rw [decide_eq_false h32]; simp; done) | (rw [decide_eq_false h49]; simp; done) | (rw [decide_eq_false h66]; simp)
    · refine g_aload_n rfl rfl ?_
      refine g_get rfl rfl wd_M rfl ?_
      refine s_ic (v := nI 3) rfl rfl ?_
      refine g_iload_n rfl rfl ?_
      refine g_imul rfl ?_
      rw [pk_mul]
      refine s_iald rfl a_79 rfl (by omega) ?_
      refine g_aload_n rfl rfl ?_
      refine g_get rfl rfl wd_M rfl ?_
      refine g_icmp_ne rfl (fun h32 => ?_) (fun h32 => ?_)
      · refine s_inc rfl rfl (nI_1 _) ?_
        refine g_goto rfl ?_
        refine kk _ _ ⟨rfl, rfl, lt_s hn ?_⟩
        unfold rmB
        first | (rw [decide_eq_false h17]; rfl) | (rw [decide_eq_false h32]; simp; done) | (rw [decide_eq_false h49]; simp; done) | (rw [decide_eq_false h66]; simp)
      · refine g_aload_n rfl rfl ?_
        refine g_get rfl rfl wd_M rfl ?_
        refine s_ic (v := nI 3) rfl rfl ?_
        refine g_iload_n rfl rfl ?_
        refine g_imul rfl ?_
        rw [pk_mul]
        refine s_ic (v := nI 1) rfl rfl ?_
        refine g_iadd rfl ?_
        rw [nI_add]
        refine s_iald rfl a_79 rfl (by omega) ?_
        refine g_aload_n rfl rfl ?_
        refine g_get rfl rfl wd_M rfl ?_
        refine g_icmp_ne rfl (fun h49 => ?_) (fun h49 => ?_)
        · refine s_inc rfl rfl (nI_1 _) ?_
          refine g_goto rfl ?_
          refine kk _ _ ⟨rfl, rfl, lt_s hn ?_⟩
          unfold rmB
          first | (rw [decide_eq_false h17]; rfl) | (rw [decide_eq_false h32]; simp; done) | (rw [decide_eq_false h49]; simp; done) | (rw [decide_eq_false h66]; simp)
        · refine g_aload_n rfl rfl ?_
          refine g_get rfl rfl wd_M rfl ?_
          refine s_ic (v := nI 3) rfl rfl ?_
          refine g_iload_n rfl rfl ?_
          refine g_imul rfl ?_
          rw [pk_mul]
          refine s_ic (v := nI 2) rfl rfl ?_
          refine g_iadd rfl ?_
          rw [nI_add]
          refine s_iald rfl a_79 rfl (by omega) ?_
          refine g_aload_n rfl rfl ?_
          refine g_get rfl rfl wd_M rfl ?_
          refine g_icmp_ne rfl (fun h66 => ?_) (fun h66 => ?_)
          · refine s_inc rfl rfl (nI_1 _) ?_
            refine g_goto rfl ?_
            refine kk _ _ ⟨rfl, rfl, lt_s hn ?_⟩
            unfold rmB
            first | (rw [decide_eq_false h17]; rfl) | (rw [decide_eq_false h32]; simp; done) | (rw [decide_eq_false h49]; simp; done) | (rw [decide_eq_false h66]; simp)
          · refine g_iload_n rfl rfl ?_
            refine g_iret rfl rfl ?_
            refine ⟨?_, rfl⟩
            rw [fst1_some hi (by unfold rmB; rw [decide_eq_true h17, decide_eq_true h32, decide_eq_true h49, decide_eq_true h66]; rfl) hn]
            rfl
  · rintro _ _ ⟨rfl, rfl, hn⟩
    refine g_iload_n rfl rfl ?_
    refine g_aload_n rfl rfl ?_
    refine g_get rfl rfl wd_M rfl ?_
    rw [hq]
    refine g_icmp_ge rfl (fun _ => ?_) (fun h => absurd (nI_le (Nat.le_refl _) (by omega)) h)
    refine s_ic (v := -1) rfl rfl ?_
    refine g_iret rfl rfl ?_
    refine ⟨?_, rfl⟩
    rw [fst1_none.mpr hn]
    rfl
theorem m_requestsOf {xs : List Int32} {σ : wd_S} {q : Nat} (hq : σ 66 14 = nI q) (hq32 : q ≤ 32) (x : Int32) : ev xs 74 [.ref 66, .int x] σ (nI (cnt (fun r => decide (σ 78 r = x)) q)) σ := by
  refine am_Ev.of (n := 4) rfl rfl rfl rfl ?_
  refine s_ic (v := nI 0) rfl rfl ?_
  refine g_istore_n rfl (Nat.le_of_ble_eq_true rfl) ?_
  refine s_ic (v := nI 0) rfl rfl ?_
  refine g_istore_n rfl (Nat.le_of_ble_eq_true rfl) ?_
  refine am_for q (fun i lo σ' => lo = [some (.ref 66), some (.int x), some (.int (nI (cnt (fun r => decide (σ 78 r = x)) i))), some (.int (nI i))] ∧ σ = σ') ?_ ?_ 0 _ _ (Nat.zero_le _) ⟨rfl, rfl⟩
  · rintro i _ _ hi ⟨rfl, rfl⟩ kk
    refine g_iload_n rfl rfl ?_
    refine g_aload_n rfl rfl ?_
    refine g_get rfl rfl wd_M rfl ?_
    rw [hq]
    refine g_icmp_ge rfl (fun h => absurd h (nI_ge hi (by omega))) (fun _ => ?_)
    refine g_iload_n rfl rfl ?_
    refine g_aload_n rfl rfl ?_
    refine g_get rfl rfl wd_M rfl ?_
    refine g_iload_n rfl rfl ?_
    refine s_iald rfl a_78 rfl (by omega) ?_
    refine g_iload_n rfl rfl ?_
    refine g_icmp_ne rfl (fun h20 => ?_) (fun h20 => ?_)
    · refine s_ic (v := nI 0) rfl rfl ?_
      refine g_iadd rfl ?_
      rw [nI_add]
      refine g_istore_n rfl (Nat.le_of_ble_eq_true rfl) ?_
      refine s_inc rfl rfl (nI_1 _) ?_
      refine g_goto rfl ?_
      refine kk _ _ ⟨?_, rfl⟩
      first | rw [cnt_f (decide_eq_false h20)] | rw [cnt_t (decide_eq_true h20)]
      rfl
    · refine s_ic (v := nI 1) rfl rfl ?_
      refine g_goto rfl ?_
      refine g_iadd rfl ?_
      rw [nI_add]
      refine g_istore_n rfl (Nat.le_of_ble_eq_true rfl) ?_
      refine s_inc rfl rfl (nI_1 _) ?_
      refine g_goto rfl ?_
      refine kk _ _ ⟨?_, rfl⟩
      first | rw [cnt_f (decide_eq_false h20)] | rw [cnt_t (decide_eq_true h20)]
      rfl
  · rintro _ _ ⟨rfl, rfl⟩
    refine g_iload_n rfl rfl ?_
    refine g_aload_n rfl rfl ?_
    refine g_get rfl rfl wd_M rfl ?_
    rw [hq]
    refine g_icmp_ge rfl (fun _ => ?_) (fun h => absurd (nI_le (Nat.le_refl _) (by omega)) h)
    refine g_iload_n rfl rfl ?_
    refine g_iret rfl rfl ?_
    exact ⟨rfl, rfl⟩
theorem oI_neg {o : Option Nat} {r : Nat} (h : ∀ j, o = some j → j < r) (hr : r ≤ 1000) : (0 ≤ oI o ↔ o.isSome = true) := by
  cases o with
  | none =>
    constructor
    · intro z
      exact absurd z (by decide)
    · intro z; cases z
  | some j =>
    have := h j rfl
    exact ⟨fun _ => rfl, fun _ => nI_pos' (by omega)⟩
/-- a new request of v at the time in the fields -/
def mnF (σ : wd_S) (q : Nat) (v : Int32) : wd_S := u2 (u2 (u2 (u2 (u2 (u2 σ 78 q v) 79 (3 * q) (σ 66 21)) 79 (3 * q + 1) (σ 66 22)) 79 (3 * q + 2) (σ 66 23)) 80 q (nI 0)) 66 14 (nI (q + 1))
def mgF (σ : wd_S) (q : Nat) (v x : Int32) : wd_S := match fst1 (rmB σ v) q with
  | some r => u2 σ 80 r (σ 80 r + x)
  | none => u2 (mnF σ q v) 80 q (nI 0 + x)
theorem m_gather {xs : List Int32} {σ : wd_S} {q : Nat} (hq : σ 66 14 = nI q) (hq32 : q ≤ 32) (v x : Int32) (hok : fst1 (rmB σ v) q = none → q < 32) : evv xs 75 [.ref 66, .int v, .int x] σ (mgF σ q v x) := by
  refine am_Ev.of (n := 4) rfl rfl rfl rfl ?_
  refine g_aload_n rfl rfl ?_
  refine g_iload_n rfl rfl ?_
  refine c_V rfl rfl rfl rfl wd_M rfl (m_requestFor hq hq32 v) rfl rfl rfl ?_
  refine g_istore_n rfl (Nat.le_of_ble_eq_true rfl) ?_
  refine g_iload_n rfl rfl ?_
  cases hr : fst1 (rmB σ v) q with
  | some r =>
    have hr2 := (fst1_lt hr).1
    refine g_if_ge rfl (fun _ => ?_) (fun h => absurd (nI_pos' (by omega)) h)
    refine g_aload_n rfl rfl ?_
    refine g_get rfl rfl wd_M rfl ?_
    refine g_iload_n rfl rfl ?_
    refine g_dup2 rfl rfl rfl ?_
    refine s_iald rfl a_80 (j := r) rfl (by omega) ?_
    refine g_iload_n rfl rfl ?_
    refine g_iadd rfl ?_
    refine s_iast rfl a_80 (j := r) rfl (by omega) ?_
    refine g_vret rfl rfl ?_
    refine ⟨rfl, ?_⟩
    unfold mgF
    rw [hr]
  | none =>
    have hq2 := hok hr
    refine g_if_ge rfl (fun h => absurd h (by decide)) (fun _ => ?_)
    refine g_aload_n rfl rfl ?_
    refine g_get rfl rfl wd_M rfl ?_
    rw [hq]
    refine g_istore_n rfl (Nat.le_of_ble_eq_true rfl) ?_
    refine g_aload_n rfl rfl ?_
    refine g_get rfl rfl wd_M rfl ?_
    refine g_iload_n rfl rfl ?_
    refine g_iload_n rfl rfl ?_
    refine s_iast rfl a_78 rfl (by omega) ?_
    refine g_aload_n rfl rfl ?_
    refine g_get rfl rfl wd_M rfl ?_
    refine s_ic (v := nI 3) rfl rfl ?_
    refine g_iload_n rfl rfl ?_
    refine g_imul rfl ?_
    rw [pk_mul]
    refine g_aload_n rfl rfl ?_
    refine g_get rfl rfl wd_M rfl ?_
    try simp (disch := omega) only [u2_c, u2_k, u2_same, hq]
    refine s_iast rfl a_79 rfl (by omega) ?_
    refine g_aload_n rfl rfl ?_
    refine g_get rfl rfl wd_M rfl ?_
    refine s_ic (v := nI 3) rfl rfl ?_
    refine g_iload_n rfl rfl ?_
    refine g_imul rfl ?_
    rw [pk_mul]
    refine s_ic (v := nI 1) rfl rfl ?_
    refine g_iadd rfl ?_
    rw [nI_add]
    refine g_aload_n rfl rfl ?_
    refine g_get rfl rfl wd_M rfl ?_
    try simp (disch := omega) only [u2_c, u2_k, u2_same, hq]
    refine s_iast rfl a_79 rfl (by omega) ?_
    refine g_aload_n rfl rfl ?_
    refine g_get rfl rfl wd_M rfl ?_
    refine s_ic (v := nI 3) rfl rfl ?_
    refine g_iload_n rfl rfl ?_
    refine g_imul rfl ?_
    rw [pk_mul]
    refine s_ic (v := nI 2) rfl rfl ?_
    refine g_iadd rfl ?_
    rw [nI_add]
    refine g_aload_n rfl rfl ?_
    refine g_get rfl rfl wd_M rfl ?_
    try simp (disch := omega) only [u2_c, u2_k, u2_same, hq]
    refine s_iast rfl a_79 rfl (by omega) ?_
    refine g_aload_n rfl rfl ?_
    refine g_get rfl rfl wd_M rfl ?_
    refine g_iload_n rfl rfl ?_
    refine s_ic (v := nI 0) rfl rfl ?_
    refine s_iast rfl a_80 rfl (by omega) ?_
    refine g_aload_n rfl rfl ?_
    refine g_dup rfl rfl ?_
    refine g_get rfl rfl wd_M rfl ?_
    try simp (disch := omega) only [u2_c, u2_k, u2_same, hq]
    refine s_ic (v := nI 1) rfl rfl ?_
    refine g_iadd rfl ?_
    rw [nI_add]
    refine s_putM rfl rfl (by decide) ?_
    refine g_aload_n rfl rfl ?_
    refine g_get rfl rfl wd_M rfl ?_
    refine g_iload_n rfl rfl ?_
    refine g_dup2 rfl rfl rfl ?_
    refine s_iald rfl a_80 rfl (by omega) ?_
    try simp (disch := omega) only [u2_c, u2_k, u2_same, hq]
    refine g_iload_n rfl rfl ?_
    refine g_iadd rfl ?_
    refine s_iast rfl a_80 rfl (by omega) ?_
    refine g_vret rfl rfl ?_
    refine ⟨rfl, ?_⟩
    unfold mgF
    rw [hr]
    rfl
theorem m_last {xs : List Int32} {σ : wd_S} {v : Nat} (hv : v < 8) : ev xs 76 [.ref 66, .int (nI v)] σ (if σ 68 v = nI 1 then σ 66 22 else σ 66 23) σ := by
  refine am_Ev.of (n := 2) rfl rfl rfl rfl ?_
  refine g_aload_n rfl rfl ?_
  refine g_get rfl rfl wd_M rfl ?_
  refine g_iload_n rfl rfl ?_
  refine s_iald rfl a_68 rfl (by omega) ?_
  refine s_ic (v := nI 1) rfl rfl ?_
  refine g_icmp_ne rfl (fun h7 => ?_) (fun h7 => ?_)
  · refine g_aload_n rfl rfl ?_
    refine g_get rfl rfl wd_M rfl ?_
    refine g_iret rfl rfl ?_
    refine ⟨?_, rfl⟩
    first | rw [if_pos h7] | rw [if_neg h7]
  · refine g_aload_n rfl rfl ?_
    refine g_get rfl rfl wd_M rfl ?_
    refine g_goto rfl ?_
    refine g_iret rfl rfl ?_
    refine ⟨?_, rfl⟩
    first | rw [if_pos h7] | rw [if_neg h7]
/-- what a vertex does to the counters in the fields -/
def trF (σ : wd_S) (v : Nat) : wd_S :=
  if (σ 67 v = nI 3 ∧ σ 68 v = nI 1) ∨ (σ 67 v = nI 2 ∧ σ 68 v = nI 1) then u2 σ 66 22 (nI 0)
  else if σ 67 v = nI 3 ∨ σ 67 v = nI 2 then u2 σ 66 23 (nI 0)
  else if σ 67 v = nI 4 ∧ σ 68 v = nI 1 then u2 σ 66 22 (σ 66 22 + nI 1)
  else if σ 67 v = nI 4 then u2 σ 66 23 (σ 66 23 + nI 1) else σ
theorem m_turn {xs : List Int32} {σ : wd_S} {v : Nat} (hv : v < 8) : evv xs 77 [.ref 66, .int (nI v)] σ (trF σ v) := by
  refine am_Ev.of (n := 2) rfl rfl rfl rfl ?_
  have e1 : ¬ (nI 3 : Int32) = nI 2 := by decide
  have e2 : ¬ (nI 2 : Int32) = nI 3 := by decide
  refine g_aload_n rfl rfl ?_
  refine g_get rfl rfl wd_M rfl ?_
  refine g_iload_n rfl rfl ?_
  refine s_iald rfl a_67 rfl (by omega) ?_
  refine s_ic (v := nI 3) rfl rfl ?_
  refine g_icmp_ne rfl (fun h7 => ?_) (fun h7 => ?_)
  · refine g_aload_n rfl rfl ?_
    refine g_get rfl rfl wd_M rfl ?_
    refine g_iload_n rfl rfl ?_
    refine s_iald rfl a_67 rfl (by omega) ?_
    refine s_ic (v := nI 2) rfl rfl ?_
    refine g_icmp_ne rfl (fun h27 => ?_) (fun h27 => ?_)
    · refine g_aload_n rfl rfl ?_
      refine g_get rfl rfl wd_M rfl ?_
      refine g_iload_n rfl rfl ?_
      refine s_iald rfl a_67 rfl (by omega) ?_
      refine s_ic (v := nI 3) rfl rfl ?_
      refine g_icmp_eq rfl (fun h55 => ?_) (fun h55 => ?_)
      · refine g_aload_n rfl rfl ?_
        refine s_ic (v := nI 0) rfl rfl ?_
        refine s_putM rfl rfl (by decide) ?_
        refine g_goto rfl ?_
        refine g_vret rfl rfl ?_
        refine ⟨rfl, ?_⟩
        unfold trF
        first | (rw [if_pos (by simp_all)]; done) | (rw [if_neg (by simp_all), if_pos (by simp_all)]; done) | (rw [if_neg (by simp_all), if_neg (by simp_all), if_pos (by simp_all)]; done) | (rw [if_neg (by simp_all), if_neg (by simp_all), if_neg (by simp_all), if_pos (by simp_all)]; done) | (rw [if_neg (by simp_all), if_neg (by simp_all), if_neg (by simp_all), if_neg (by simp_all)])
      · refine g_aload_n rfl rfl ?_
        refine g_get rfl rfl wd_M rfl ?_
        refine g_iload_n rfl rfl ?_
        refine s_iald rfl a_67 rfl (by omega) ?_
        refine s_ic (v := nI 2) rfl rfl ?_
        refine g_icmp_ne rfl (fun h65 => ?_) (fun h65 => ?_)
        · refine g_aload_n rfl rfl ?_
          refine g_get rfl rfl wd_M rfl ?_
          refine g_iload_n rfl rfl ?_
          refine s_iald rfl a_67 rfl (by omega) ?_
          refine s_ic (v := nI 4) rfl rfl ?_
          refine g_icmp_ne rfl (fun h83 => ?_) (fun h83 => ?_)
          · refine g_aload_n rfl rfl ?_
            refine g_get rfl rfl wd_M rfl ?_
            refine g_iload_n rfl rfl ?_
            refine s_iald rfl a_67 rfl (by omega) ?_
            refine s_ic (v := nI 4) rfl rfl ?_
            refine g_icmp_ne rfl (fun h116 => ?_) (fun h116 => ?_)
            · refine g_vret rfl rfl ?_
              refine ⟨rfl, ?_⟩
              unfold trF
              first | (rw [if_pos (by simp_all)]; done) | (rw [if_neg (by simp_all), if_pos (by simp_all)]; done) | (rw [if_neg (by simp_all), if_neg (by simp_all), if_pos (by simp_all)]; done) | (rw [if_neg (by simp_all), if_neg (by simp_all), if_neg (by simp_all), if_pos (by simp_all)]; done) | (rw [if_neg (by simp_all), if_neg (by simp_all), if_neg (by simp_all), if_neg (by simp_all)])
            · refine g_aload_n rfl rfl ?_
              refine g_dup rfl rfl ?_
              refine g_get rfl rfl wd_M rfl ?_
              refine s_ic (v := nI 1) rfl rfl ?_
              refine g_iadd rfl ?_
              refine s_putM rfl rfl (by decide) ?_
              refine g_vret rfl rfl ?_
              refine ⟨rfl, ?_⟩
              unfold trF
              first | (rw [if_pos (by simp_all)]; done) | (rw [if_neg (by simp_all), if_pos (by simp_all)]; done) | (rw [if_neg (by simp_all), if_neg (by simp_all), if_pos (by simp_all)]; done) | (rw [if_neg (by simp_all), if_neg (by simp_all), if_neg (by simp_all), if_pos (by simp_all)]; done) | (rw [if_neg (by simp_all), if_neg (by simp_all), if_neg (by simp_all), if_neg (by simp_all)])
          · refine g_aload_n rfl rfl ?_
            refine g_get rfl rfl wd_M rfl ?_
            refine g_iload_n rfl rfl ?_
            refine s_iald rfl a_68 rfl (by omega) ?_
            refine s_ic (v := nI 1) rfl rfl ?_
            refine g_icmp_ne rfl (fun h93 => ?_) (fun h93 => ?_)
            · refine g_aload_n rfl rfl ?_
              refine g_get rfl rfl wd_M rfl ?_
              refine g_iload_n rfl rfl ?_
              refine s_iald rfl a_67 rfl (by omega) ?_
              refine s_ic (v := nI 4) rfl rfl ?_
              refine g_icmp_ne rfl (fun h116 => ?_) (fun h116 => ?_)
              · refine g_vret rfl rfl ?_
                refine ⟨rfl, ?_⟩
                unfold trF
                first | (rw [if_pos (by simp_all)]; done) | (rw [if_neg (by simp_all), if_pos (by simp_all)]; done) | (rw [if_neg (by simp_all), if_neg (by simp_all), if_pos (by simp_all)]; done) | (rw [if_neg (by simp_all), if_neg (by simp_all), if_neg (by simp_all), if_pos (by simp_all)]; done) | (rw [if_neg (by simp_all), if_neg (by simp_all), if_neg (by simp_all), if_neg (by simp_all)])
              · refine g_aload_n rfl rfl ?_
                refine g_dup rfl rfl ?_
                refine g_get rfl rfl wd_M rfl ?_
                refine s_ic (v := nI 1) rfl rfl ?_
                refine g_iadd rfl ?_
                refine s_putM rfl rfl (by decide) ?_
                refine g_vret rfl rfl ?_
                refine ⟨rfl, ?_⟩
                unfold trF
                first | (rw [if_pos (by simp_all)]; done) | (rw [if_neg (by simp_all), if_pos (by simp_all)]; done) | (rw [if_neg (by simp_all), if_neg (by simp_all), if_pos (by simp_all)]; done) | (rw [if_neg (by simp_all), if_neg (by simp_all), if_neg (by simp_all), if_pos (by simp_all)]; done) | (rw [if_neg (by simp_all), if_neg (by simp_all), if_neg (by simp_all), if_neg (by simp_all)])
            · refine g_aload_n rfl rfl ?_
              refine g_dup rfl rfl ?_
              refine g_get rfl rfl wd_M rfl ?_
              refine s_ic (v := nI 1) rfl rfl ?_
              refine g_iadd rfl ?_
              refine s_putM rfl rfl (by decide) ?_
              refine g_goto rfl ?_
              refine g_vret rfl rfl ?_
              refine ⟨rfl, ?_⟩
              unfold trF
              first | (rw [if_pos (by simp_all)]; done) | (rw [if_neg (by simp_all), if_pos (by simp_all)]; done) | (rw [if_neg (by simp_all), if_neg (by simp_all), if_pos (by simp_all)]; done) | (rw [if_neg (by simp_all), if_neg (by simp_all), if_neg (by simp_all), if_pos (by simp_all)]; done) | (rw [if_neg (by simp_all), if_neg (by simp_all), if_neg (by simp_all), if_neg (by simp_all)])
        · refine g_aload_n rfl rfl ?_
          refine s_ic (v := nI 0) rfl rfl ?_
          refine s_putM rfl rfl (by decide) ?_
          refine g_goto rfl ?_
          refine g_vret rfl rfl ?_
          refine ⟨rfl, ?_⟩
          unfold trF
          first | (rw [if_pos (by simp_all)]; done) | (rw [if_neg (by simp_all), if_pos (by simp_all)]; done) | (rw [if_neg (by simp_all), if_neg (by simp_all), if_pos (by simp_all)]; done) | (rw [if_neg (by simp_all), if_neg (by simp_all), if_neg (by simp_all), if_pos (by simp_all)]; done) | (rw [if_neg (by simp_all), if_neg (by simp_all), if_neg (by simp_all), if_neg (by simp_all)])
    · refine g_aload_n rfl rfl ?_
      refine g_get rfl rfl wd_M rfl ?_
      refine g_iload_n rfl rfl ?_
      refine s_iald rfl a_68 rfl (by omega) ?_
      refine s_ic (v := nI 1) rfl rfl ?_
      refine g_icmp_ne rfl (fun h37 => ?_) (fun h37 => ?_)
      · refine g_aload_n rfl rfl ?_
        refine g_get rfl rfl wd_M rfl ?_
        refine g_iload_n rfl rfl ?_
        refine s_iald rfl a_67 rfl (by omega) ?_
        refine s_ic (v := nI 3) rfl rfl ?_
        refine g_icmp_eq rfl (fun h55 => ?_) (fun h55 => ?_)
        · refine g_aload_n rfl rfl ?_
          refine s_ic (v := nI 0) rfl rfl ?_
          refine s_putM rfl rfl (by decide) ?_
          refine g_goto rfl ?_
          refine g_vret rfl rfl ?_
          refine ⟨rfl, ?_⟩
          unfold trF
          first | (rw [if_pos (by simp_all)]; done) | (rw [if_neg (by simp_all), if_pos (by simp_all)]; done) | (rw [if_neg (by simp_all), if_neg (by simp_all), if_pos (by simp_all)]; done) | (rw [if_neg (by simp_all), if_neg (by simp_all), if_neg (by simp_all), if_pos (by simp_all)]; done) | (rw [if_neg (by simp_all), if_neg (by simp_all), if_neg (by simp_all), if_neg (by simp_all)])
        · refine g_aload_n rfl rfl ?_
          refine g_get rfl rfl wd_M rfl ?_
          refine g_iload_n rfl rfl ?_
          refine s_iald rfl a_67 rfl (by omega) ?_
          refine s_ic (v := nI 2) rfl rfl ?_
          refine g_icmp_ne rfl (fun h65 => ?_) (fun h65 => ?_)
          · refine g_aload_n rfl rfl ?_
            refine g_get rfl rfl wd_M rfl ?_
            refine g_iload_n rfl rfl ?_
            refine s_iald rfl a_67 rfl (by omega) ?_
            refine s_ic (v := nI 4) rfl rfl ?_
            refine g_icmp_ne rfl (fun h83 => ?_) (fun h83 => ?_)
            · refine g_aload_n rfl rfl ?_
              refine g_get rfl rfl wd_M rfl ?_
              refine g_iload_n rfl rfl ?_
              refine s_iald rfl a_67 rfl (by omega) ?_
              refine s_ic (v := nI 4) rfl rfl ?_
              refine g_icmp_ne rfl (fun h116 => ?_) (fun h116 => ?_)
              · refine g_vret rfl rfl ?_
                refine ⟨rfl, ?_⟩
                unfold trF
                first | (rw [if_pos (by simp_all)]; done) | (rw [if_neg (by simp_all), if_pos (by simp_all)]; done) | (rw [if_neg (by simp_all), if_neg (by simp_all), if_pos (by simp_all)]; done) | (rw [if_neg (by simp_all), if_neg (by simp_all), if_neg (by simp_all), if_pos (by simp_all)]; done) | (rw [if_neg (by simp_all), if_neg (by simp_all), if_neg (by simp_all), if_neg (by simp_all)])
              · refine g_aload_n rfl rfl ?_
                refine g_dup rfl rfl ?_
                refine g_get rfl rfl wd_M rfl ?_
                refine s_ic (v := nI 1) rfl rfl ?_
                refine g_iadd rfl ?_
                refine s_putM rfl rfl (by decide) ?_
                refine g_vret rfl rfl ?_
                refine ⟨rfl, ?_⟩
                unfold trF
                first | (rw [if_pos (by simp_all)]; done) | (rw [if_neg (by simp_all), if_pos (by simp_all)]; done) | (rw [if_neg (by simp_all), if_neg (by simp_all), if_pos (by simp_all)]; done) | (rw [if_neg (by simp_all), if_neg (by simp_all), if_neg (by simp_all), if_pos (by simp_all)]; done) | (rw [if_neg (by simp_all), if_neg (by simp_all), if_neg (by simp_all), if_neg (by simp_all)])
            · refine g_aload_n rfl rfl ?_
              refine g_get rfl rfl wd_M rfl ?_
              refine g_iload_n rfl rfl ?_
              refine s_iald rfl a_68 rfl (by omega) ?_
              refine s_ic (v := nI 1) rfl rfl ?_
              refine g_icmp_ne rfl (fun h93 => ?_) (fun h93 => ?_)
              · refine g_aload_n rfl rfl ?_
                refine g_get rfl rfl wd_M rfl ?_
                refine g_iload_n rfl rfl ?_
                refine s_iald rfl a_67 rfl (by omega) ?_
                refine s_ic (v := nI 4) rfl rfl ?_
                refine g_icmp_ne rfl (fun h116 => ?_) (fun h116 => ?_)
                · refine g_vret rfl rfl ?_
                  refine ⟨rfl, ?_⟩
                  unfold trF
                  first | (rw [if_pos (by simp_all)]; done) | (rw [if_neg (by simp_all), if_pos (by simp_all)]; done) | (rw [if_neg (by simp_all), if_neg (by simp_all), if_pos (by simp_all)]; done) | (rw [if_neg (by simp_all), if_neg (by simp_all), if_neg (by simp_all), if_pos (by simp_all)]; done) | (rw [if_neg (by simp_all), if_neg (by simp_all), if_neg (by simp_all), if_neg (by simp_all)])
                · refine g_aload_n rfl rfl ?_
                  refine g_dup rfl rfl ?_
                  refine g_get rfl rfl wd_M rfl ?_
                  refine s_ic (v := nI 1) rfl rfl ?_
                  refine g_iadd rfl ?_
                  refine s_putM rfl rfl (by decide) ?_
                  refine g_vret rfl rfl ?_
                  refine ⟨rfl, ?_⟩
                  unfold trF
                  first | (rw [if_pos (by simp_all)]; done) | (rw [if_neg (by simp_all), if_pos (by simp_all)]; done) | (rw [if_neg (by simp_all), if_neg (by simp_all), if_pos (by simp_all)]; done) | (rw [if_neg (by simp_all), if_neg (by simp_all), if_neg (by simp_all), if_pos (by simp_all)]; done) | (rw [if_neg (by simp_all), if_neg (by simp_all), if_neg (by simp_all), if_neg (by simp_all)])
              · refine g_aload_n rfl rfl ?_
                refine g_dup rfl rfl ?_
                refine g_get rfl rfl wd_M rfl ?_
                refine s_ic (v := nI 1) rfl rfl ?_
                refine g_iadd rfl ?_
                refine s_putM rfl rfl (by decide) ?_
                refine g_goto rfl ?_
                refine g_vret rfl rfl ?_
                refine ⟨rfl, ?_⟩
                unfold trF
                first | (rw [if_pos (by simp_all)]; done) | (rw [if_neg (by simp_all), if_pos (by simp_all)]; done) | (rw [if_neg (by simp_all), if_neg (by simp_all), if_pos (by simp_all)]; done) | (rw [if_neg (by simp_all), if_neg (by simp_all), if_neg (by simp_all), if_pos (by simp_all)]; done) | (rw [if_neg (by simp_all), if_neg (by simp_all), if_neg (by simp_all), if_neg (by simp_all)])
          · refine g_aload_n rfl rfl ?_
            refine s_ic (v := nI 0) rfl rfl ?_
            refine s_putM rfl rfl (by decide) ?_
            refine g_goto rfl ?_
            refine g_vret rfl rfl ?_
            refine ⟨rfl, ?_⟩
            unfold trF
            first | (rw [if_pos (by simp_all)]; done) | (rw [if_neg (by simp_all), if_pos (by simp_all)]; done) | (rw [if_neg (by simp_all), if_neg (by simp_all), if_pos (by simp_all)]; done) | (rw [if_neg (by simp_all), if_neg (by simp_all), if_neg (by simp_all), if_pos (by simp_all)]; done) | (rw [if_neg (by simp_all), if_neg (by simp_all), if_neg (by simp_all), if_neg (by simp_all)])
      · refine g_aload_n rfl rfl ?_
        refine s_ic (v := nI 0) rfl rfl ?_
        refine s_putM rfl rfl (by decide) ?_
        refine g_goto rfl ?_
        refine g_vret rfl rfl ?_
        refine ⟨rfl, ?_⟩
        unfold trF
        first | (rw [if_pos (by simp_all)]; done) | (rw [if_neg (by simp_all), if_pos (by simp_all)]; done) | (rw [if_neg (by simp_all), if_neg (by simp_all), if_pos (by simp_all)]; done) | (rw [if_neg (by simp_all), if_neg (by simp_all), if_neg (by simp_all), if_pos (by simp_all)]; done) | (rw [if_neg (by simp_all), if_neg (by simp_all), if_neg (by simp_all), if_neg (by simp_all)])
  · refine g_aload_n rfl rfl ?_
    refine g_get rfl rfl wd_M rfl ?_
    refine g_iload_n rfl rfl ?_
    refine s_iald rfl a_68 rfl (by omega) ?_
    refine s_ic (v := nI 1) rfl rfl ?_
    refine g_icmp_eq rfl (fun h17 => ?_) (fun h17 => ?_)
    · refine g_aload_n rfl rfl ?_
      refine s_ic (v := nI 0) rfl rfl ?_
      refine s_putM rfl rfl (by decide) ?_
      refine g_goto rfl ?_
      refine g_vret rfl rfl ?_
      refine ⟨rfl, ?_⟩
      unfold trF
      first | (rw [if_pos (by simp_all)]; done) | (rw [if_neg (by simp_all), if_pos (by simp_all)]; done) | (rw [if_neg (by simp_all), if_neg (by simp_all), if_pos (by simp_all)]; done) | (rw [if_neg (by simp_all), if_neg (by simp_all), if_neg (by simp_all), if_pos (by simp_all)]; done) | (rw [if_neg (by simp_all), if_neg (by simp_all), if_neg (by simp_all), if_neg (by simp_all)])
    · refine g_aload_n rfl rfl ?_
      refine g_get rfl rfl wd_M rfl ?_
      refine g_iload_n rfl rfl ?_
      refine s_iald rfl a_67 rfl (by omega) ?_
      refine s_ic (v := nI 2) rfl rfl ?_
      refine g_icmp_ne rfl (fun h27 => ?_) (fun h27 => ?_)
      · refine g_aload_n rfl rfl ?_
        refine g_get rfl rfl wd_M rfl ?_
        refine g_iload_n rfl rfl ?_
        refine s_iald rfl a_67 rfl (by omega) ?_
        refine s_ic (v := nI 3) rfl rfl ?_
        refine g_icmp_eq rfl (fun h55 => ?_) (fun h55 => ?_)
        · refine g_aload_n rfl rfl ?_
          refine s_ic (v := nI 0) rfl rfl ?_
          refine s_putM rfl rfl (by decide) ?_
          refine g_goto rfl ?_
          refine g_vret rfl rfl ?_
          refine ⟨rfl, ?_⟩
          unfold trF
          first | (rw [if_pos (by simp_all)]; done) | (rw [if_neg (by simp_all), if_pos (by simp_all)]; done) | (rw [if_neg (by simp_all), if_neg (by simp_all), if_pos (by simp_all)]; done) | (rw [if_neg (by simp_all), if_neg (by simp_all), if_neg (by simp_all), if_pos (by simp_all)]; done) | (rw [if_neg (by simp_all), if_neg (by simp_all), if_neg (by simp_all), if_neg (by simp_all)])
        · refine g_aload_n rfl rfl ?_
          refine g_get rfl rfl wd_M rfl ?_
          refine g_iload_n rfl rfl ?_
          refine s_iald rfl a_67 rfl (by omega) ?_
          refine s_ic (v := nI 2) rfl rfl ?_
          refine g_icmp_ne rfl (fun h65 => ?_) (fun h65 => ?_)
          · refine g_aload_n rfl rfl ?_
            refine g_get rfl rfl wd_M rfl ?_
            refine g_iload_n rfl rfl ?_
            refine s_iald rfl a_67 rfl (by omega) ?_
            refine s_ic (v := nI 4) rfl rfl ?_
            refine g_icmp_ne rfl (fun h83 => ?_) (fun h83 => ?_)
            · refine g_aload_n rfl rfl ?_
              refine g_get rfl rfl wd_M rfl ?_
              refine g_iload_n rfl rfl ?_
              refine s_iald rfl a_67 rfl (by omega) ?_
              refine s_ic (v := nI 4) rfl rfl ?_
              refine g_icmp_ne rfl (fun h116 => ?_) (fun h116 => ?_)
              · refine g_vret rfl rfl ?_
                refine ⟨rfl, ?_⟩
                unfold trF
                first | (rw [if_pos (by simp_all)]; done) | (rw [if_neg (by simp_all), if_pos (by simp_all)]; done) | (rw [if_neg (by simp_all), if_neg (by simp_all), if_pos (by simp_all)]; done) | (rw [if_neg (by simp_all), if_neg (by simp_all), if_neg (by simp_all), if_pos (by simp_all)]; done) | (rw [if_neg (by simp_all), if_neg (by simp_all), if_neg (by simp_all), if_neg (by simp_all)])
              · refine g_aload_n rfl rfl ?_
                refine g_dup rfl rfl ?_
                refine g_get rfl rfl wd_M rfl ?_
                refine s_ic (v := nI 1) rfl rfl ?_
                refine g_iadd rfl ?_
                refine s_putM rfl rfl (by decide) ?_
                refine g_vret rfl rfl ?_
                refine ⟨rfl, ?_⟩
                unfold trF
                first | (rw [if_pos (by simp_all)]; done) | (rw [if_neg (by simp_all), if_pos (by simp_all)]; done) | (rw [if_neg (by simp_all), if_neg (by simp_all), if_pos (by simp_all)]; done) | (rw [if_neg (by simp_all), if_neg (by simp_all), if_neg (by simp_all), if_pos (by simp_all)]; done) | (rw [if_neg (by simp_all), if_neg (by simp_all), if_neg (by simp_all), if_neg (by simp_all)])
            · refine g_aload_n rfl rfl ?_
              refine g_get rfl rfl wd_M rfl ?_
              refine g_iload_n rfl rfl ?_
              refine s_iald rfl a_68 rfl (by omega) ?_
              refine s_ic (v := nI 1) rfl rfl ?_
              refine g_icmp_ne rfl (fun h93 => ?_) (fun h93 => ?_)
              · refine g_aload_n rfl rfl ?_
                refine g_get rfl rfl wd_M rfl ?_
                refine g_iload_n rfl rfl ?_
                refine s_iald rfl a_67 rfl (by omega) ?_
                refine s_ic (v := nI 4) rfl rfl ?_
                refine g_icmp_ne rfl (fun h116 => ?_) (fun h116 => ?_)
                · refine g_vret rfl rfl ?_
                  refine ⟨rfl, ?_⟩
                  unfold trF
                  first | (rw [if_pos (by simp_all)]; done) | (rw [if_neg (by simp_all), if_pos (by simp_all)]; done) | (rw [if_neg (by simp_all), if_neg (by simp_all), if_pos (by simp_all)]; done) | (rw [if_neg (by simp_all), if_neg (by simp_all), if_neg (by simp_all), if_pos (by simp_all)]; done) | (rw [if_neg (by simp_all), if_neg (by simp_all), if_neg (by simp_all), if_neg (by simp_all)])
                · refine g_aload_n rfl rfl ?_
                  refine g_dup rfl rfl ?_
                  refine g_get rfl rfl wd_M rfl ?_
                  refine s_ic (v := nI 1) rfl rfl ?_
                  refine g_iadd rfl ?_
                  refine s_putM rfl rfl (by decide) ?_
                  refine g_vret rfl rfl ?_
                  refine ⟨rfl, ?_⟩
                  unfold trF
                  first | (rw [if_pos (by simp_all)]; done) | (rw [if_neg (by simp_all), if_pos (by simp_all)]; done) | (rw [if_neg (by simp_all), if_neg (by simp_all), if_pos (by simp_all)]; done) | (rw [if_neg (by simp_all), if_neg (by simp_all), if_neg (by simp_all), if_pos (by simp_all)]; done) | (rw [if_neg (by simp_all), if_neg (by simp_all), if_neg (by simp_all), if_neg (by simp_all)])
              · refine g_aload_n rfl rfl ?_
                refine g_dup rfl rfl ?_
                refine g_get rfl rfl wd_M rfl ?_
                refine s_ic (v := nI 1) rfl rfl ?_
                refine g_iadd rfl ?_
                refine s_putM rfl rfl (by decide) ?_
                refine g_goto rfl ?_
                refine g_vret rfl rfl ?_
                refine ⟨rfl, ?_⟩
                unfold trF
                first | (rw [if_pos (by simp_all)]; done) | (rw [if_neg (by simp_all), if_pos (by simp_all)]; done) | (rw [if_neg (by simp_all), if_neg (by simp_all), if_pos (by simp_all)]; done) | (rw [if_neg (by simp_all), if_neg (by simp_all), if_neg (by simp_all), if_pos (by simp_all)]; done) | (rw [if_neg (by simp_all), if_neg (by simp_all), if_neg (by simp_all), if_neg (by simp_all)])
          · refine g_aload_n rfl rfl ?_
            refine s_ic (v := nI 0) rfl rfl ?_
            refine s_putM rfl rfl (by decide) ?_
            refine g_goto rfl ?_
            refine g_vret rfl rfl ?_
            refine ⟨rfl, ?_⟩
            unfold trF
            first | (rw [if_pos (by simp_all)]; done) | (rw [if_neg (by simp_all), if_pos (by simp_all)]; done) | (rw [if_neg (by simp_all), if_neg (by simp_all), if_pos (by simp_all)]; done) | (rw [if_neg (by simp_all), if_neg (by simp_all), if_neg (by simp_all), if_pos (by simp_all)]; done) | (rw [if_neg (by simp_all), if_neg (by simp_all), if_neg (by simp_all), if_neg (by simp_all)])
      · refine g_aload_n rfl rfl ?_
        refine g_get rfl rfl wd_M rfl ?_
        refine g_iload_n rfl rfl ?_
        refine s_iald rfl a_68 rfl (by omega) ?_
        refine s_ic (v := nI 1) rfl rfl ?_
        refine g_icmp_ne rfl (fun h37 => ?_) (fun h37 => ?_)
        · refine g_aload_n rfl rfl ?_
          refine g_get rfl rfl wd_M rfl ?_
          refine g_iload_n rfl rfl ?_
          refine s_iald rfl a_67 rfl (by omega) ?_
          refine s_ic (v := nI 3) rfl rfl ?_
          refine g_icmp_eq rfl (fun h55 => ?_) (fun h55 => ?_)
          · refine g_aload_n rfl rfl ?_
            refine s_ic (v := nI 0) rfl rfl ?_
            refine s_putM rfl rfl (by decide) ?_
            refine g_goto rfl ?_
            refine g_vret rfl rfl ?_
            refine ⟨rfl, ?_⟩
            unfold trF
            first | (rw [if_pos (by simp_all)]; done) | (rw [if_neg (by simp_all), if_pos (by simp_all)]; done) | (rw [if_neg (by simp_all), if_neg (by simp_all), if_pos (by simp_all)]; done) | (rw [if_neg (by simp_all), if_neg (by simp_all), if_neg (by simp_all), if_pos (by simp_all)]; done) | (rw [if_neg (by simp_all), if_neg (by simp_all), if_neg (by simp_all), if_neg (by simp_all)])
          · refine g_aload_n rfl rfl ?_
            refine g_get rfl rfl wd_M rfl ?_
            refine g_iload_n rfl rfl ?_
            refine s_iald rfl a_67 rfl (by omega) ?_
            refine s_ic (v := nI 2) rfl rfl ?_
            refine g_icmp_ne rfl (fun h65 => ?_) (fun h65 => ?_)
            · refine g_aload_n rfl rfl ?_
              refine g_get rfl rfl wd_M rfl ?_
              refine g_iload_n rfl rfl ?_
              refine s_iald rfl a_67 rfl (by omega) ?_
              refine s_ic (v := nI 4) rfl rfl ?_
              refine g_icmp_ne rfl (fun h83 => ?_) (fun h83 => ?_)
              · refine g_aload_n rfl rfl ?_
                refine g_get rfl rfl wd_M rfl ?_
                refine g_iload_n rfl rfl ?_
                refine s_iald rfl a_67 rfl (by omega) ?_
                refine s_ic (v := nI 4) rfl rfl ?_
                refine g_icmp_ne rfl (fun h116 => ?_) (fun h116 => ?_)
                · refine g_vret rfl rfl ?_
                  refine ⟨rfl, ?_⟩
                  unfold trF
                  first | (rw [if_pos (by simp_all)]; done) | (rw [if_neg (by simp_all), if_pos (by simp_all)]; done) | (rw [if_neg (by simp_all), if_neg (by simp_all), if_pos (by simp_all)]; done) | (rw [if_neg (by simp_all), if_neg (by simp_all), if_neg (by simp_all), if_pos (by simp_all)]; done) | (rw [if_neg (by simp_all), if_neg (by simp_all), if_neg (by simp_all), if_neg (by simp_all)])
                · refine g_aload_n rfl rfl ?_
                  refine g_dup rfl rfl ?_
                  refine g_get rfl rfl wd_M rfl ?_
                  refine s_ic (v := nI 1) rfl rfl ?_
                  refine g_iadd rfl ?_
                  refine s_putM rfl rfl (by decide) ?_
                  refine g_vret rfl rfl ?_
                  refine ⟨rfl, ?_⟩
                  unfold trF
                  first | (rw [if_pos (by simp_all)]; done) | (rw [if_neg (by simp_all), if_pos (by simp_all)]; done) | (rw [if_neg (by simp_all), if_neg (by simp_all), if_pos (by simp_all)]; done) | (rw [if_neg (by simp_all), if_neg (by simp_all), if_neg (by simp_all), if_pos (by simp_all)]; done) | (rw [if_neg (by simp_all), if_neg (by simp_all), if_neg (by simp_all), if_neg (by simp_all)])
              · refine g_aload_n rfl rfl ?_
                refine g_get rfl rfl wd_M rfl ?_
                refine g_iload_n rfl rfl ?_
                refine s_iald rfl a_68 rfl (by omega) ?_
                refine s_ic (v := nI 1) rfl rfl ?_
                refine g_icmp_ne rfl (fun h93 => ?_) (fun h93 => ?_)
                · refine g_aload_n rfl rfl ?_
                  refine g_get rfl rfl wd_M rfl ?_
                  refine g_iload_n rfl rfl ?_
                  refine s_iald rfl a_67 rfl (by omega) ?_
                  refine s_ic (v := nI 4) rfl rfl ?_
                  refine g_icmp_ne rfl (fun h116 => ?_) (fun h116 => ?_)
                  · refine g_vret rfl rfl ?_
                    refine ⟨rfl, ?_⟩
                    unfold trF
                    first | (rw [if_pos (by simp_all)]; done) | (rw [if_neg (by simp_all), if_pos (by simp_all)]; done) | (rw [if_neg (by simp_all), if_neg (by simp_all), if_pos (by simp_all)]; done) | (rw [if_neg (by simp_all), if_neg (by simp_all), if_neg (by simp_all), if_pos (by simp_all)]; done) | (rw [if_neg (by simp_all), if_neg (by simp_all), if_neg (by simp_all), if_neg (by simp_all)])
                  · refine g_aload_n rfl rfl ?_
                    refine g_dup rfl rfl ?_
                    refine g_get rfl rfl wd_M rfl ?_
                    refine s_ic (v := nI 1) rfl rfl ?_
                    refine g_iadd rfl ?_
                    refine s_putM rfl rfl (by decide) ?_
                    refine g_vret rfl rfl ?_
                    refine ⟨rfl, ?_⟩
                    unfold trF
                    first | (rw [if_pos (by simp_all)]; done) | (rw [if_neg (by simp_all), if_pos (by simp_all)]; done) | (rw [if_neg (by simp_all), if_neg (by simp_all), if_pos (by simp_all)]; done) | (rw [if_neg (by simp_all), if_neg (by simp_all), if_neg (by simp_all), if_pos (by simp_all)]; done) | (rw [if_neg (by simp_all), if_neg (by simp_all), if_neg (by simp_all), if_neg (by simp_all)])
                · refine g_aload_n rfl rfl ?_
                  refine g_dup rfl rfl ?_
                  refine g_get rfl rfl wd_M rfl ?_
                  refine s_ic (v := nI 1) rfl rfl ?_
                  refine g_iadd rfl ?_
                  refine s_putM rfl rfl (by decide) ?_
                  refine g_goto rfl ?_
                  refine g_vret rfl rfl ?_
                  refine ⟨rfl, ?_⟩
                  unfold trF
                  first | (rw [if_pos (by simp_all)]; done) | (rw [if_neg (by simp_all), if_pos (by simp_all)]; done) | (rw [if_neg (by simp_all), if_neg (by simp_all), if_pos (by simp_all)]; done) | (rw [if_neg (by simp_all), if_neg (by simp_all), if_neg (by simp_all), if_pos (by simp_all)]; done) | (rw [if_neg (by simp_all), if_neg (by simp_all), if_neg (by simp_all), if_neg (by simp_all)])
            · refine g_aload_n rfl rfl ?_
              refine s_ic (v := nI 0) rfl rfl ?_
              refine s_putM rfl rfl (by decide) ?_
              refine g_goto rfl ?_
              refine g_vret rfl rfl ?_
              refine ⟨rfl, ?_⟩
              unfold trF
              first | (rw [if_pos (by simp_all)]; done) | (rw [if_neg (by simp_all), if_pos (by simp_all)]; done) | (rw [if_neg (by simp_all), if_neg (by simp_all), if_pos (by simp_all)]; done) | (rw [if_neg (by simp_all), if_neg (by simp_all), if_neg (by simp_all), if_pos (by simp_all)]; done) | (rw [if_neg (by simp_all), if_neg (by simp_all), if_neg (by simp_all), if_neg (by simp_all)])
        · refine g_aload_n rfl rfl ?_
          refine s_ic (v := nI 0) rfl rfl ?_
          refine s_putM rfl rfl (by decide) ?_
          refine g_goto rfl ?_
          refine g_vret rfl rfl ?_
          refine ⟨rfl, ?_⟩
          unfold trF
          first | (rw [if_pos (by simp_all)]; done) | (rw [if_neg (by simp_all), if_pos (by simp_all)]; done) | (rw [if_neg (by simp_all), if_neg (by simp_all), if_pos (by simp_all)]; done) | (rw [if_neg (by simp_all), if_neg (by simp_all), if_neg (by simp_all), if_pos (by simp_all)]; done) | (rw [if_neg (by simp_all), if_neg (by simp_all), if_neg (by simp_all), if_neg (by simp_all)])
/-- why the reference refuses a message for v -/
def rsR (σ : wd_S) (v e q : Nat) (x g : Int32) : Int32 :=
  if σ 67 v = nI 4 ∧ (if σ 68 v = nI 1 then σ 66 22 else σ 66 23) = nI 15 then -4
  else if ¬ σ 67 v = nI 1 ∨ σ 69 v = 0 then (if anyB (fun i => decide (σ 73 i = nI v) && mlF σ g i) e = true then -2 else nI 0)
  else if σ 69 v = nI 1 then (if fst1 (rmB σ (nI v)) q = none ∧ cnt (fun r => decide (σ 78 r = nI v)) q = 4 then -2 else nI 0)
  else if σ 69 v = nI 2 then (match ldF (fun i => decide (σ 73 i = nI v)) (if x ≤ 0 then 1 else 0) e with
    | some j => if mlF σ g j = true then -2 else nI 0
    | none => nI 0)
  else nI 0
theorem ldF_lt {p : Nat → Bool} {m n j : Nat} (h : ldF p m n = some j) : j < n ∧ p j = true := by
  have := fst1_lt h
  rw [Bool.and_eq_true] at this
  exact ⟨this.1, this.2.1⟩
theorem m_refusal {xs : List Int32} {σ : wd_S} {v e q : Nat} (hv : v < 8) (he : σ 66 8 = nI e) (he12 : e ≤ 12) (hq : σ 66 14 = nI q) (hq32 : q ≤ 32) (x g : Int32) : ev xs 78 [.ref 66, .int (nI v), .int x, .int g] σ (rsR σ v e q x g) σ := by
  refine am_Ev.of (n := 6) rfl rfl rfl rfl ?_
  -- the ways of work
  have all : ¬ (σ 67 v = nI 4 ∧ (if σ 68 v = nI 1 then σ 66 22 else σ 66 23) = nI 15) → (¬ σ 67 v = nI 1 ∨ σ 69 v = 0) → ∀ lo, am_get lo 0 = some (.ref 66) → am_get lo 1 = some (.int (nI v)) → am_get lo 3 = some (.int g) → am_G 78 54 lo [] (wd xs σ) (po xs (rsR σ v e q x g) σ) := by
    intro h1 h2 lo l0 l1 l3
    refine g_aload_n rfl l0 ?_
    refine g_iload_n rfl l1 ?_
    refine g_iload_n rfl l3 ?_
    refine c_V rfl rfl rfl rfl wd_M rfl (m_anyFull he he12 _ _) rfl rfl rfl ?_
    unfold rsR
    rw [if_neg h1, if_pos h2]
    cases ha : anyB (fun i => decide (σ 73 i = nI v) && mlF σ g i) e with
    | true =>
      refine g_if_eq rfl (fun h => absurd h (by decide)) (fun _ => ?_)
      refine s_bp (v := -2) rfl rfl ?_
      refine g_goto rfl ?_
      refine g_iret rfl rfl ?_
      exact ⟨rfl, rfl⟩
    | false =>
      refine g_if_eq rfl (fun _ => ?_) (fun h => absurd (rfl) h)
      refine s_ic (v := nI 0) rfl rfl ?_
      refine g_iret rfl rfl ?_
      exact ⟨rfl, rfl⟩
  have plain : ¬ (σ 67 v = nI 4 ∧ (if σ 68 v = nI 1 then σ 66 22 else σ 66 23) = nI 15) → σ 67 v = nI 1 → ∀ z5, am_G 78 40 [some (.ref 66), some (.int (nI v)), some (.int x), some (.int g), some (.int (nI 1)), z5] [] (wd xs σ) (po xs (rsR σ v e q x g) σ) := by
    intro h1 hk z5
    refine g_iload rfl rfl ?_
    refine g_if_eq rfl (fun h => absurd h (by decide)) (fun _ => ?_)
    refine g_aload_n rfl rfl ?_
    refine g_get rfl rfl wd_M rfl ?_
    refine g_iload_n rfl rfl ?_
    refine s_iald rfl a_69 rfl (by omega) ?_
    refine g_if_ne rfl (fun h => ?_) (fun h => ?_)
    · refine g_aload_n rfl rfl ?_
      refine g_get rfl rfl wd_M rfl ?_
      refine g_iload_n rfl rfl ?_
      refine s_iald rfl a_69 rfl (by omega) ?_
      refine s_ic (v := nI 1) rfl rfl ?_
      refine g_icmp_ne rfl (fun h2 => ?_) (fun h2 => ?_)
      · refine g_aload_n rfl rfl ?_
        refine g_get rfl rfl wd_M rfl ?_
        refine g_iload_n rfl rfl ?_
        refine s_iald rfl a_69 rfl (by omega) ?_
        refine s_ic (v := nI 2) rfl rfl ?_
        refine g_icmp_ne rfl (fun h3 => ?_) (fun h3 => ?_)
        · refine s_ic (v := -1) rfl rfl ?_
          refine g_istore rfl (Nat.le_of_ble_eq_true rfl) ?_
          refine g_iload rfl rfl ?_
          refine g_if_lt rfl (fun _ => ?_) (fun h => absurd (by decide) h)
          refine s_ic (v := nI 0) rfl rfl ?_
          refine g_iret rfl rfl ?_
          refine ⟨?_, rfl⟩
          unfold rsR
          rw [if_neg h1, if_neg (fun z => z.elim (fun y => y hk) h), if_neg h2, if_neg h3]
        · have hR : rsR σ v e q x g = (match ldF (fun i => decide (σ 73 i = nI v)) (if x ≤ 0 then 1 else 0) e with | some j => if mlF σ g j = true then -2 else nI 0 | none => nI 0) := by
            unfold rsR
            rw [if_neg h1, if_neg (fun z => z.elim (fun y => y hk) h), if_neg h2, if_pos h3]
          rw [hR]
          have tail : am_G 78 132 [some (.ref 66), some (.int (nI v)), some (.int x), some (.int g), some (.int (nI 1)), z5] [.int (oI (ldF (fun i => decide (σ 73 i = nI v)) (if x ≤ 0 then 1 else 0) e))] (wd xs σ) (po xs (match ldF (fun i => decide (σ 73 i = nI v)) (if x ≤ 0 then 1 else 0) e with | some j => if mlF σ g j = true then -2 else nI 0 | none => nI 0) σ) := by
            cases hl : ldF (fun i => decide (σ 73 i = nI v)) (if x ≤ 0 then 1 else 0) e with
            | none =>
              refine g_istore rfl (Nat.le_of_ble_eq_true rfl) ?_
              refine g_iload rfl rfl ?_
              refine g_if_lt rfl (fun _ => ?_) (fun h => absurd (by decide) h)
              refine s_ic (v := nI 0) rfl rfl ?_
              refine g_iret rfl rfl ?_
              exact ⟨rfl, rfl⟩
            | some j =>
              have hj := (ldF_lt hl).1
              refine g_istore rfl (Nat.le_of_ble_eq_true rfl) ?_
              refine g_iload rfl rfl ?_
              refine g_if_lt rfl (fun h => absurd h (nI_pos (by omega))) (fun _ => ?_)
              refine g_aload_n rfl rfl ?_
              refine g_iload rfl rfl ?_
              refine g_iload_n rfl rfl ?_
              refine c_V rfl rfl rfl rfl wd_M rfl (m_full (show j < 12 by omega) g) rfl rfl rfl ?_
              cases hf : mlF σ g j with
              | true =>
                refine g_if_eq rfl (fun h => absurd h (by decide)) (fun _ => ?_)
                refine s_bp (v := -2) rfl rfl ?_
                refine g_goto rfl ?_
                refine g_iret rfl rfl ?_
                exact ⟨by show some (Value.int _) = some (Value.int (if mlF σ g j = true then -2 else nI 0)); rw [hf]; rfl, rfl⟩
              | false =>
                refine g_if_eq rfl (fun _ => ?_) (fun h => absurd (rfl) h)
                refine s_ic (v := nI 0) rfl rfl ?_
                refine g_iret rfl rfl ?_
                exact ⟨by show some (Value.int _) = some (Value.int (if mlF σ g j = true then -2 else nI 0)); rw [hf]; rfl, rfl⟩
          refine g_aload_n rfl rfl ?_
          refine g_iload_n rfl rfl ?_
          refine g_iload_n rfl rfl ?_
          refine g_if_le rfl (fun h4 => ?_) (fun h4 => ?_)
          · rw [if_pos h4] at tail ⊢
            refine s_ic (v := nI 1) rfl rfl ?_
            refine c_V rfl rfl rfl rfl wd_M rfl (m_leading he he12 (nI v) (show 1 < 100 by omega)) rfl rfl rfl ?_
            refine g_goto rfl ?_
            exact tail
          · rw [if_neg h4] at tail ⊢
            refine s_ic (v := nI 0) rfl rfl ?_
            refine g_goto rfl ?_
            refine c_V rfl rfl rfl rfl wd_M rfl (m_leading he he12 (nI v) (show 0 < 100 by omega)) rfl rfl rfl ?_
            refine g_goto rfl ?_
            exact tail
      · have hR : rsR σ v e q x g = (if fst1 (rmB σ (nI v)) q = none ∧ cnt (fun r => decide (σ 78 r = nI v)) q = 4 then -2 else nI 0) := by
          unfold rsR
          rw [if_neg h1, if_neg (fun z => z.elim (fun y => y hk) h), if_pos h2]
        rw [hR]
        refine g_aload_n rfl rfl ?_
        refine g_iload_n rfl rfl ?_
        refine c_V rfl rfl rfl rfl wd_M rfl (m_requestFor hq hq32 (nI v)) rfl rfl rfl ?_
        cases hr : fst1 (rmB σ (nI v)) q with
        | some r =>
          have hr2 := (fst1_lt hr).1
          refine g_if_ge rfl (fun _ => ?_) (fun h => absurd (nI_pos' (by omega)) h)
          refine s_ic (v := nI 0) rfl rfl ?_
          refine g_iret rfl rfl ?_
          exact ⟨by rw [if_neg (fun z => by cases z.1)], rfl⟩
        | none =>
          refine g_if_ge rfl (fun h => absurd h (by decide)) (fun _ => ?_)
          refine g_aload_n rfl rfl ?_
          refine g_iload_n rfl rfl ?_
          refine c_V rfl rfl rfl rfl wd_M rfl (m_requestsOf hq hq32 (nI v)) rfl rfl rfl ?_
          refine s_ic (v := nI 4) rfl rfl ?_
          have hcl := cnt_le (fun r => decide (σ 78 r = nI v)) q
          refine g_icmp_ne rfl (fun h5 => ?_) (fun h5 => ?_)
          · refine s_ic (v := nI 0) rfl rfl ?_
            refine g_iret rfl rfl ?_
            exact ⟨by rw [if_neg (fun z => h5 (by rw [z.2]))], rfl⟩
          · refine s_bp (v := -2) rfl rfl ?_
            refine g_goto rfl ?_
            refine g_iret rfl rfl ?_
            exact ⟨by rw [if_pos ⟨rfl, (nI_eq (by omega) (by omega)).mp h5⟩], rfl⟩
    · exact all h1 (Or.inr h) _ rfl rfl rfl
  refine g_aload_n rfl rfl ?_
  refine g_get rfl rfl wd_M rfl ?_
  refine g_iload_n rfl rfl ?_
  refine s_iald rfl a_67 rfl (by omega) ?_
  refine s_ic (v := nI 1) rfl rfl ?_
  refine g_icmp_ne rfl (fun hk => ?_) (fun hk => ?_)
  · refine s_ic (v := nI 0) rfl rfl ?_
    refine g_istore rfl (Nat.le_of_ble_eq_true rfl) ?_
    refine g_aload_n rfl rfl ?_
    refine g_get rfl rfl wd_M rfl ?_
    refine g_iload_n rfl rfl ?_
    refine s_iald rfl a_67 rfl (by omega) ?_
    refine s_ic (v := nI 4) rfl rfl ?_
    refine g_icmp_ne rfl (fun h4 => ?_) (fun h4 => ?_)
    · refine g_iload rfl rfl ?_
      refine g_if_eq rfl (fun _ => ?_) (fun h => absurd (rfl) h)
      exact all (fun z => h4 z.1) (Or.inl hk) _ rfl rfl rfl
    · refine g_aload_n rfl rfl ?_
      refine g_iload_n rfl rfl ?_
      refine c_V rfl rfl rfl rfl wd_M rfl (m_last hv) rfl rfl rfl ?_
      refine s_bp (v := nI 15) rfl rfl ?_
      refine g_icmp_ne rfl (fun h5 => ?_) (fun h5 => ?_)
      · refine g_iload rfl rfl ?_
        refine g_if_eq rfl (fun _ => ?_) (fun h => absurd (rfl) h)
        exact all (fun z => h5 z.2) (Or.inl hk) _ rfl rfl rfl
      · refine s_bp (v := -4) rfl rfl ?_
        refine g_iret rfl rfl ?_
        refine ⟨?_, rfl⟩
        unfold rsR
        rw [if_pos ⟨h4, h5⟩]
  · refine s_ic (v := nI 1) rfl rfl ?_
    refine g_goto rfl ?_
    refine g_istore rfl (Nat.le_of_ble_eq_true rfl) ?_
    refine g_aload_n rfl rfl ?_
    refine g_get rfl rfl wd_M rfl ?_
    refine g_iload_n rfl rfl ?_
    refine s_iald rfl a_67 rfl (by omega) ?_
    refine s_ic (v := nI 4) rfl rfl ?_
    have n4 : ¬ σ 67 v = nI 4 := by
      rw [hk]
      decide
    refine g_icmp_ne rfl (fun _ => ?_) (fun h => absurd h (n4))
    exact plain (fun z => n4 z.1) hk _
