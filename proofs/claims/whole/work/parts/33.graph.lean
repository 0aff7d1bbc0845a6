/-! The graph: what it is made of. -/
def avF (σ : wd_S) (n : Nat) (k d w : Int32) : wd_S := u2 (beF σ n k d w) 2 2 (nI (n + 1))
theorem beF_c {σ : wd_S} {v c : Nat} {k d w : Int32} (h : c ≠ 6 + 3 * v) : beF σ v k d w c = σ c := by
  unfold beF
  rw [u2_row h, u2_row h, u2_row h, u2_row h, u2_row h, u2_row h]
theorem r_addVertex {xs : List Int32} {σ : wd_S} {n : Nat} (hn : σ 2 2 = nI n) (hn8 : n < 8) (k d w : Int32) : ev xs 23 [.ref 2, .int k, .int d, .int w] σ (nI n) (avF σ n k d w) := by
  refine am_Ev.of (n := 4) rfl rfl rfl rfl ?_
  refine g_aload_n rfl rfl ?_
  refine g_get rfl rfl wd_G rfl ?_
  refine g_aload_n rfl rfl ?_
  refine g_get rfl rfl wd_G rfl ?_
  refine s_aV rfl hn (by omega) ?_
  refine g_iload_n rfl rfl ?_
  refine g_iload_n rfl rfl ?_
  refine g_iload_n rfl rfl ?_
  refine c_Vv rfl rfl rfl rfl (wd_V (by omega)) rfl (r_become hn8 k d w) rfl rfl rfl ?_
  refine g_aload_n rfl rfl ?_
  refine g_dup rfl rfl ?_
  refine g_get rfl rfl wd_G rfl ?_
  rw [beF_c (by omega), hn]
  refine s_ic (v := nI 1) rfl rfl ?_
  refine g_iadd rfl ?_
  rw [nI_add]
  refine s_putG rfl rfl (by decide) ?_
  refine g_aload_n rfl rfl ?_
  refine g_get rfl rfl wd_G rfl ?_
  rw [u2_same]
  refine s_ic (v := nI 1) rfl rfl ?_
  refine g_isub rfl ?_
  rw [pk_sub (by omega), Nat.add_sub_cancel]
  refine g_iret rfl rfl ?_
  exact ⟨rfl, rfl⟩
/-- may an edge lead from a to b, as far as the vertices say? -/
def mdB (σ : wd_S) (a b : Nat) : Bool := !(decide (σ (6 + 3 * b) 0 = 0)) && decide ((if σ (6 + 3 * b) 0 = nI 2 then σ (6 + 3 * b) 1 - nI 1 else σ (6 + 3 * b) 1) = (if σ (6 + 3 * a) 0 = nI 3 then σ (6 + 3 * a) 1 - nI 1 else σ (6 + 3 * a) 1))
def mlB (σ : wd_S) (n a b : Nat) : Bool := mdB σ a b && !(anyB (fun e => decide (σ (30 + 3 * e) 0 = nI a) && decide (σ (30 + 3 * e) 1 = nI b)) n)
theorem r_mayLead {xs : List Int32} {σ : wd_S} {n a b : Nat} (hn : σ 2 3 = nI n) (hn12 : n ≤ 12) (ha : a < 8) (hb : b < 8) : ev xs 24 [.ref 2, .int (nI a), .int (nI b)] σ (bI (mlB σ n a b)) σ := by
  refine am_Ev.of (n := 4) rfl rfl rfl rfl ?_
  have lp : mdB σ a b = true → am_G 24 37 [some (.ref 2), some (.int (nI a)), some (.int (nI b)), some (.int (nI 0))] [] (wd xs σ) (po xs (bI (mlB σ n a b)) σ) := by
    intro hm
    refine am_for n (fun i lo σ' => lo = [some (.ref 2), some (.int (nI a)), some (.int (nI b)), some (.int (nI i))] ∧ σ = σ' ∧ ∀ j, j < i → (decide (σ (30 + 3 * j) 0 = nI a) && decide (σ (30 + 3 * j) 1 = nI b)) = false) ?_ ?_ 0 _ _ (Nat.zero_le _) ⟨rfl, rfl, fun j h => absurd h (Nat.not_lt_zero j)⟩
    · rintro i _ _ hi ⟨rfl, rfl, hq⟩ kk
      refine g_iload_n rfl rfl ?_
      refine g_aload_n rfl rfl ?_
      refine g_get rfl rfl wd_G rfl ?_
      rw [hn]
      refine g_icmp_ge rfl (fun h => absurd h (nI_ge hi (by omega))) (fun _ => ?_)
      refine g_aload_n rfl rfl ?_
      refine g_get rfl rfl wd_G rfl ?_
      refine g_iload_n rfl rfl ?_
      refine s_aE rfl rfl (by omega) ?_
      refine g_get rfl rfl (wd_E (by omega)) rfl ?_
      refine g_iload_n rfl rfl ?_
      refine g_icmp_ne rfl (fun h55 => ?_) (fun h55 => ?_)
      · refine s_inc rfl rfl (nI_1 _) ?_
        refine g_goto rfl ?_
        exact kk _ _ ⟨rfl, rfl, lt_s hq (by simp_all)⟩
      · refine g_aload_n rfl rfl ?_
        refine g_get rfl rfl wd_G rfl ?_
        refine g_iload_n rfl rfl ?_
        refine s_aE rfl rfl (by omega) ?_
        refine g_get rfl rfl (wd_E (by omega)) rfl ?_
        refine g_iload_n rfl rfl ?_
        refine g_icmp_ne rfl (fun h68 => ?_) (fun h68 => ?_)
        · refine s_inc rfl rfl (nI_1 _) ?_
          refine g_goto rfl ?_
          exact kk _ _ ⟨rfl, rfl, lt_s hq (by simp_all)⟩
        · refine s_ic (v := nI 0) rfl rfl ?_
          refine g_zret rfl rfl (by decide) ?_
          refine ⟨?_, rfl⟩
          have hz : mlB σ n a b = false := by (unfold mlB; rw [anyB_t.mpr ⟨i, hi, by simp_all⟩]; simp)
          rw [hz]
          rfl
    · rintro _ _ ⟨rfl, rfl, hq⟩
      refine g_iload_n rfl rfl ?_
      refine g_aload_n rfl rfl ?_
      refine g_get rfl rfl wd_G rfl ?_
      rw [hn]
      refine g_icmp_ge rfl (fun _ => ?_) (fun h => absurd (nI_le (Nat.le_refl _) (by omega)) h)
      refine s_ic (v := nI 1) rfl rfl ?_
      refine g_zret rfl rfl (by decide) ?_
      refine ⟨?_, rfl⟩
      have hz : mlB σ n a b = true := by
        unfold mlB
        rw [anyB_f.mpr hq, hm]
        rfl
      rw [hz]
      rfl
  refine g_aload_n rfl rfl ?_
  refine g_get rfl rfl wd_G rfl ?_
  refine g_iload_n rfl rfl ?_
  refine s_aV rfl rfl (by omega) ?_
  refine g_get rfl rfl (wd_V (by omega)) rfl ?_
  refine g_if_eq rfl (fun h9 => ?_) (fun h9 => ?_)
  · refine s_ic (v := nI 0) rfl rfl ?_
    refine g_zret rfl rfl (by decide) ?_
    refine ⟨?_, rfl⟩
    have hz : mlB σ n a b = false := by (unfold mlB mdB; first | (simp [h9]; done) | (rw [decide_eq_false h30]; simp))
    rw [hz]
    rfl
  · refine g_aload_n rfl rfl ?_
    refine g_get rfl rfl wd_G rfl ?_
    refine g_iload_n rfl rfl ?_
    refine s_aV rfl rfl (by omega) ?_
    refine c_V rfl rfl rfl rfl (wd_V (by omega)) rfl (r_inDepth hb) rfl rfl rfl ?_
    refine g_aload_n rfl rfl ?_
    refine g_get rfl rfl wd_G rfl ?_
    refine g_iload_n rfl rfl ?_
    refine s_aV rfl rfl (by omega) ?_
    refine c_V rfl rfl rfl rfl (wd_V (by omega)) rfl (r_outDepth ha) rfl rfl rfl ?_
    refine g_icmp_eq rfl (fun h30 => ?_) (fun h30 => ?_)
    · refine s_ic (v := nI 0) rfl rfl ?_
      refine g_istore_n rfl (Nat.le_of_ble_eq_true rfl) ?_
      exact lp (by unfold mdB; rw [decide_eq_true h30]; simp [h9])
    · refine s_ic (v := nI 0) rfl rfl ?_
      refine g_zret rfl rfl (by decide) ?_
      refine ⟨?_, rfl⟩
      have hz : mlB σ n a b = false := by (unfold mlB mdB; first | (simp [h9]; done) | (rw [decide_eq_false h30]; simp))
      rw [hz]
      rfl
def aeF (σ : wd_S) (n a b : Nat) : wd_S := u2 (u2 (u2 (u2 σ (30 + 3 * n) 0 (nI a)) (30 + 3 * n) 1 (nI b)) (6 + 3 * a) 5 (σ (6 + 3 * a) 5 ||| (nI 1 <<< (nI n &&& 31)))) 2 3 (nI (n + 1))
theorem r_addEdge {xs : List Int32} {σ : wd_S} {n a b : Nat} (hn : σ 2 3 = nI n) (hn12 : n < 12) (ha : a < 8) : ev xs 25 [.ref 2, .int (nI a), .int (nI b)] σ (nI n) (aeF σ n a b) := by
  refine am_Ev.of (n := 3) rfl rfl rfl rfl ?_
  refine g_aload_n rfl rfl ?_
  refine g_get rfl rfl wd_G rfl ?_
  refine g_aload_n rfl rfl ?_
  refine g_get rfl rfl wd_G rfl ?_
  try simp (disch := omega) only [u2_c, u2_k, u2_same, hn]
  refine s_aE rfl rfl (by omega) ?_
  refine g_iload_n rfl rfl ?_
  refine s_putE (by omega) rfl rfl (by decide) ?_
  refine g_aload_n rfl rfl ?_
  refine g_get rfl rfl wd_G rfl ?_
  refine g_aload_n rfl rfl ?_
  refine g_get rfl rfl wd_G rfl ?_
  try simp (disch := omega) only [u2_c, u2_k, u2_same, hn]
  refine s_aE rfl rfl (by omega) ?_
  refine g_iload_n rfl rfl ?_
  refine s_putE (by omega) rfl rfl (by decide) ?_
  refine g_aload_n rfl rfl ?_
  refine g_get rfl rfl wd_G rfl ?_
  refine g_iload_n rfl rfl ?_
  refine s_aV rfl rfl (by omega) ?_
  refine g_dup rfl rfl ?_
  refine g_get rfl rfl (wd_V (by omega)) rfl ?_
  try simp (disch := omega) only [u2_c, u2_k, u2_same, hn]
  refine s_ic (v := nI 1) rfl rfl ?_
  refine g_aload_n rfl rfl ?_
  refine g_get rfl rfl wd_G rfl ?_
  try simp (disch := omega) only [u2_c, u2_k, u2_same, hn]
  refine g_ishl rfl ?_
  refine g_ior rfl ?_
  refine s_putV (by omega) rfl rfl (by decide) ?_
  refine g_aload_n rfl rfl ?_
  refine g_dup rfl rfl ?_
  refine g_get rfl rfl wd_G rfl ?_
  try simp (disch := omega) only [u2_c, u2_k, u2_same, hn]
  refine s_ic (v := nI 1) rfl rfl ?_
  refine g_iadd rfl ?_
  rw [nI_add]
  refine s_putG rfl rfl (by decide) ?_
  refine g_aload_n rfl rfl ?_
  refine g_get rfl rfl wd_G rfl ?_
  try simp (disch := omega) only [u2_c, u2_k, u2_same, hn]
  refine s_ic (v := nI 1) rfl rfl ?_
  refine g_isub rfl ?_
  rw [pk_sub (by omega), Nat.add_sub_cancel]
  refine g_iret rfl rfl ?_
  exact ⟨rfl, rfl⟩
/-- what the edges lead to from a set of vertices -/
def rfF (σ : wd_S) (m : Int32) : Nat → Int32
  | 0 => nI 0
  | n + 1 => if m &&& (nI 1 <<< (σ (30 + 3 * n) 0 &&& 31)) = 0 then rfF σ m n else rfF σ m n ||| (nI 1 <<< (σ (30 + 3 * n) 1 &&& 31))
theorem r_reachedFrom {xs : List Int32} {σ : wd_S} {n : Nat} (hn : σ 2 3 = nI n) (hn12 : n ≤ 12) (m : Int32) : ev xs 27 [.ref 2, .int m] σ (rfF σ m n) σ := by
  refine am_Ev.of (n := 4) rfl rfl rfl rfl ?_
  refine s_ic (v := nI 0) rfl rfl ?_
  refine g_istore_n rfl (Nat.le_of_ble_eq_true rfl) ?_
  refine s_ic (v := nI 0) rfl rfl ?_
  refine g_istore_n rfl (Nat.le_of_ble_eq_true rfl) ?_
  refine am_for n (fun i lo σ' => lo = [some (.ref 2), some (.int m), some (.int (rfF σ m i)), some (.int (nI i))] ∧ σ = σ') ?_ ?_ 0 _ _ (Nat.zero_le _) ⟨rfl, rfl⟩
  · rintro i _ _ hi ⟨rfl, rfl⟩ kk
    refine g_iload_n rfl rfl ?_
    refine g_aload_n rfl rfl ?_
    refine g_get rfl rfl wd_G rfl ?_
    rw [hn]
    refine g_icmp_ge rfl (fun h => absurd h (nI_ge hi (by omega))) (fun _ => ?_)
    refine g_iload_n rfl rfl ?_
    refine s_ic (v := nI 1) rfl rfl ?_
    refine g_aload_n rfl rfl ?_
    refine g_get rfl rfl wd_G rfl ?_
    refine g_iload_n rfl rfl ?_
    refine s_aE rfl rfl (by omega) ?_
    refine g_get rfl rfl (wd_E (by omega)) rfl ?_
    refine g_ishl rfl ?_
    refine g_iand rfl ?_
    refine g_if_eq rfl (fun h25 => ?_) (fun h25 => ?_)
    · refine s_inc rfl rfl (nI_1 _) ?_
      refine g_goto rfl ?_
      refine kk _ _ ⟨?_, rfl⟩
      show _ = [_, _, some (Value.int (if m &&& (nI 1 <<< (σ (30 + 3 * i) 0 &&& 31)) = 0 then rfF σ m i else rfF σ m i ||| (nI 1 <<< (σ (30 + 3 * i) 1 &&& 31)))), _]
      first | rw [if_pos h25] | rw [if_neg h25]
      rfl
    · refine g_iload_n rfl rfl ?_
      refine s_ic (v := nI 1) rfl rfl ?_
      refine g_aload_n rfl rfl ?_
      refine g_get rfl rfl wd_G rfl ?_
      refine g_iload_n rfl rfl ?_
      refine s_aE rfl rfl (by omega) ?_
      refine g_get rfl rfl (wd_E (by omega)) rfl ?_
      refine g_ishl rfl ?_
      refine g_ior rfl ?_
      refine g_istore_n rfl (Nat.le_of_ble_eq_true rfl) ?_
      refine s_inc rfl rfl (nI_1 _) ?_
      refine g_goto rfl ?_
      refine kk _ _ ⟨?_, rfl⟩
      show _ = [_, _, some (Value.int (if m &&& (nI 1 <<< (σ (30 + 3 * i) 0 &&& 31)) = 0 then rfF σ m i else rfF σ m i ||| (nI 1 <<< (σ (30 + 3 * i) 1 &&& 31)))), _]
      first | rw [if_pos h25] | rw [if_neg h25]
      rfl
  · rintro _ _ ⟨rfl, rfl⟩
    refine g_iload_n rfl rfl ?_
    refine g_aload_n rfl rfl ?_
    refine g_get rfl rfl wd_G rfl ?_
    rw [hn]
    refine g_icmp_ge rfl (fun _ => ?_) (fun h => absurd (nI_le (Nat.le_refl _) (by omega)) h)
    refine g_iload_n rfl rfl ?_
    refine g_iret rfl rfl ?_
    exact ⟨rfl, rfl⟩
def iwL (σ : wd_S) : Nat → Int32
  | 0 => nI 0
  | n + 1 => if σ (6 + 3 * n) 0 = nI 4 then iwL σ n else iwL σ n ||| (nI 1 <<< (nI n &&& 31))
def iwR (σ : wd_S) (n : Nat) (m : Int32) : Nat → Int32
  | 0 => m
  | k + 1 => iwR σ n m k &&& rfF σ (iwR σ n m k) n
theorem r_isWhole {xs : List Int32} {σ : wd_S} {n e : Nat} (hn : σ 2 2 = nI n) (hn8 : n ≤ 8) (he : σ 2 3 = nI e) (he12 : e ≤ 12) : ev xs 26 [.ref 2] σ (bI (decide (iwR σ e (iwL σ n) 8 = 0))) σ := by
  refine am_Ev.of (n := 3) rfl rfl rfl rfl ?_
  refine s_ic (v := nI 0) rfl rfl ?_
  refine g_istore_n rfl (Nat.le_of_ble_eq_true rfl) ?_
  refine s_ic (v := nI 0) rfl rfl ?_
  refine g_istore_n rfl (Nat.le_of_ble_eq_true rfl) ?_
  refine am_for n (fun i lo σ' => lo = [some (.ref 2), some (.int (iwL σ i)), some (.int (nI i))] ∧ σ = σ') ?_ ?_ 0 _ _ (Nat.zero_le _) ⟨rfl, rfl⟩
  · rintro i _ _ hi ⟨rfl, rfl⟩ kk
    refine g_iload_n rfl rfl ?_
    refine g_aload_n rfl rfl ?_
    refine g_get rfl rfl wd_G rfl ?_
    rw [hn]
    refine g_icmp_ge rfl (fun h => absurd h (nI_ge hi (by omega))) (fun _ => ?_)
    refine g_aload_n rfl rfl ?_
    refine g_get rfl rfl wd_G rfl ?_
    refine g_iload_n rfl rfl ?_
    refine s_aV rfl rfl (by omega) ?_
    refine g_get rfl rfl (wd_V (by omega)) rfl ?_
    refine s_ic (v := nI 4) rfl rfl ?_
    refine g_icmp_eq rfl (fun h22 => ?_) (fun h22 => ?_)
    · refine s_inc rfl rfl (nI_1 _) ?_
      refine g_goto rfl ?_
      refine kk _ _ ⟨?_, rfl⟩
      show _ = [_, some (Value.int (if σ (6 + 3 * i) 0 = nI 4 then iwL σ i else iwL σ i ||| (nI 1 <<< (nI i &&& 31)))), _]
      first | rw [if_pos h22] | rw [if_neg h22]
      rfl
    · refine g_iload_n rfl rfl ?_
      refine s_ic (v := nI 1) rfl rfl ?_
      refine g_iload_n rfl rfl ?_
      refine g_ishl rfl ?_
      refine g_ior rfl ?_
      refine g_istore_n rfl (Nat.le_of_ble_eq_true rfl) ?_
      refine s_inc rfl rfl (nI_1 _) ?_
      refine g_goto rfl ?_
      refine kk _ _ ⟨?_, rfl⟩
      show _ = [_, some (Value.int (if σ (6 + 3 * i) 0 = nI 4 then iwL σ i else iwL σ i ||| (nI 1 <<< (nI i &&& 31)))), _]
      first | rw [if_pos h22] | rw [if_neg h22]
      rfl
  · rintro _ _ ⟨rfl, rfl⟩
    refine g_iload_n rfl rfl ?_
    refine g_aload_n rfl rfl ?_
    refine g_get rfl rfl wd_G rfl ?_
    rw [hn]
    refine g_icmp_ge rfl (fun _ => ?_) (fun h => absurd (nI_le (Nat.le_refl _) (by omega)) h)
    refine s_ic (v := nI 0) rfl rfl ?_
    refine g_istore_n rfl (Nat.le_of_ble_eq_true rfl) ?_
    refine am_for 8 (fun i lo σ' => lo = [some (.ref 2), some (.int (iwR σ e (iwL σ n) i)), some (.int (nI i))] ∧ σ = σ') ?_ ?_ 0 _ _ (Nat.zero_le _) ⟨rfl, rfl⟩
    · rintro i _ _ hi ⟨rfl, rfl⟩ kk
      refine g_iload_n rfl rfl ?_
      refine s_bp (v := nI 8) rfl rfl ?_
      refine g_icmp_ge rfl (fun h => absurd h (nI_ge hi (by omega))) (fun _ => ?_)
      refine g_iload_n rfl rfl ?_
      refine g_aload_n rfl rfl ?_
      refine g_iload_n rfl rfl ?_
      refine c_V rfl rfl rfl rfl wd_G rfl (r_reachedFrom he he12 _) rfl rfl rfl ?_
      refine g_iand rfl ?_
      refine g_istore_n rfl (Nat.le_of_ble_eq_true rfl) ?_
      refine s_inc rfl rfl (nI_1 _) ?_
      refine g_goto rfl ?_
      exact kk _ _ ⟨rfl, rfl⟩
    · rintro _ _ ⟨rfl, rfl⟩
      refine g_iload_n rfl rfl ?_
      refine s_bp (v := nI 8) rfl rfl ?_
      refine g_icmp_ge rfl (fun _ => ?_) (fun h => absurd (nI_le (Nat.le_refl _) (by omega)) h)
      refine g_iload_n rfl rfl ?_
      refine g_if_ne rfl (fun h60 => ?_) (fun h60 => ?_)
      · refine s_ic (v := nI 0) rfl rfl ?_
        refine g_zret rfl rfl (by decide) ?_
        refine ⟨?_, rfl⟩
        first | rw [decide_eq_true h60] | rw [decide_eq_false h60]
        rfl
      · refine s_ic (v := nI 1) rfl rfl ?_
        refine g_goto rfl ?_
        refine g_zret rfl rfl (by decide) ?_
        refine ⟨?_, rfl⟩
        first | rw [decide_eq_true h60] | rw [decide_eq_false h60]
        rfl
/-- edge e is among the targets and full -/
def fuB (σ : wd_S) (m g : Int32) (e : Nat) : Bool := !(decide (m &&& (nI 1 <<< (nI e &&& 31)) = 0)) && !(decide ((if nI e = g then σ (30 + 3 * e) 2 - nI 1 else σ (30 + 3 * e) 2) < nI 6))
theorem r_hasRoom {xs : List Int32} {σ : wd_S} {n : Nat} (hn : σ 2 3 = nI n) (hn12 : n ≤ 12) (m g : Int32) : ev xs 28 [.ref 2, .int m, .int g] σ (bI (!(anyB (fuB σ m g) n))) σ := by
  refine am_Ev.of (n := 5) rfl rfl rfl rfl ?_
  refine s_ic (v := nI 0) rfl rfl ?_
  refine g_istore_n rfl (Nat.le_of_ble_eq_true rfl) ?_
  refine am_for n (fun i lo σ' => (∃ z, lo = [some (.ref 2), some (.int m), some (.int g), some (.int (nI i)), z]) ∧ σ = σ' ∧ ∀ j, j < i → fuB σ m g j = false) ?_ ?_ 0 _ _ (Nat.zero_le _) ⟨⟨_, rfl⟩, rfl, fun j h => absurd h (Nat.not_lt_zero j)⟩
  · rintro i _ _ hi ⟨⟨z, rfl⟩, rfl, hq⟩ kk
    refine g_iload_n rfl rfl ?_
    refine g_aload_n rfl rfl ?_
    refine g_get rfl rfl wd_G rfl ?_
    rw [hn]
    refine g_icmp_ge rfl (fun h => absurd h (nI_ge hi (by omega))) (fun _ => ?_)
    refine g_iload_n rfl rfl ?_
    refine g_iload_n rfl rfl ?_
    refine g_icmp_ne rfl (fun h12 => ?_) (fun h12 => ?_)
    · refine g_aload_n rfl rfl ?_
      refine g_get rfl rfl wd_G rfl ?_
      refine g_iload_n rfl rfl ?_
      refine s_aE rfl rfl (by omega) ?_
      refine g_get rfl rfl (wd_E (by omega)) rfl ?_
      refine g_istore rfl (Nat.le_of_ble_eq_true rfl) ?_
      refine g_iload_n rfl rfl ?_
      refine s_ic (v := nI 1) rfl rfl ?_
      refine g_iload_n rfl rfl ?_
      refine g_ishl rfl ?_
      refine g_iand rfl ?_
      refine g_if_eq rfl (fun h45 => ?_) (fun h45 => ?_)
      · refine s_inc rfl rfl (nI_1 _) ?_
        refine g_goto rfl ?_
        refine kk _ _ ⟨⟨_, rfl⟩, rfl, lt_s hq ?_⟩
        unfold fuB
        first | rw [decide_eq_true h45] | (rw [decide_eq_false h45]; (first | rw [if_pos h12] | rw [if_neg h12]); rw [decide_eq_true h52])
        rfl
      · refine g_iload rfl rfl ?_
        refine s_bp (v := nI 6) rfl rfl ?_
        refine g_icmp_lt rfl (fun h52 => ?_) (fun h52 => ?_)
        · refine s_inc rfl rfl (nI_1 _) ?_
          refine g_goto rfl ?_
          refine kk _ _ ⟨⟨_, rfl⟩, rfl, lt_s hq ?_⟩
          unfold fuB
          first | rw [decide_eq_true h45] | (rw [decide_eq_false h45]; (first | rw [if_pos h12] | rw [if_neg h12]); rw [decide_eq_true h52])
          rfl
        · refine s_ic (v := nI 0) rfl rfl ?_
          refine g_zret rfl rfl (by decide) ?_
          refine ⟨?_, rfl⟩
          have hz : fuB σ m g i = true := by (unfold fuB; rw [decide_eq_false h45]; (first | rw [if_pos h12] | rw [if_neg h12]); rw [decide_eq_false h52]; rfl)
          rw [anyB_t.mpr ⟨i, hi, hz⟩]
          rfl
    · refine g_aload_n rfl rfl ?_
      refine g_get rfl rfl wd_G rfl ?_
      refine g_iload_n rfl rfl ?_
      refine s_aE rfl rfl (by omega) ?_
      refine g_get rfl rfl (wd_E (by omega)) rfl ?_
      refine s_ic (v := nI 1) rfl rfl ?_
      refine g_isub rfl ?_
      refine g_goto rfl ?_
      refine g_istore rfl (Nat.le_of_ble_eq_true rfl) ?_
      refine g_iload_n rfl rfl ?_
      refine s_ic (v := nI 1) rfl rfl ?_
      refine g_iload_n rfl rfl ?_
      refine g_ishl rfl ?_
      refine g_iand rfl ?_
      refine g_if_eq rfl (fun h45 => ?_) (fun h45 => ?_)
      · refine s_inc rfl rfl (nI_1 _) ?_
        refine g_goto rfl ?_
        refine kk _ _ ⟨⟨_, rfl⟩, rfl, lt_s hq ?_⟩
        unfold fuB
        first | rw [decide_eq_true h45] | (rw [decide_eq_false h45]; (first | rw [if_pos h12] | rw [if_neg h12]); rw [decide_eq_true h52])
        rfl
      · refine g_iload rfl rfl ?_
        refine s_bp (v := nI 6) rfl rfl ?_
        refine g_icmp_lt rfl (fun h52 => ?_) (fun h52 => ?_)
        · refine s_inc rfl rfl (nI_1 _) ?_
          refine g_goto rfl ?_
          refine kk _ _ ⟨⟨_, rfl⟩, rfl, lt_s hq ?_⟩
          unfold fuB
          first | rw [decide_eq_true h45] | (rw [decide_eq_false h45]; (first | rw [if_pos h12] | rw [if_neg h12]); rw [decide_eq_true h52])
          rfl
        · refine s_ic (v := nI 0) rfl rfl ?_
          refine g_zret rfl rfl (by decide) ?_
          refine ⟨?_, rfl⟩
          have hz : fuB σ m g i = true := by (unfold fuB; rw [decide_eq_false h45]; (first | rw [if_pos h12] | rw [if_neg h12]); rw [decide_eq_false h52]; rfl)
          rw [anyB_t.mpr ⟨i, hi, hz⟩]
          rfl
  · rintro _ _ ⟨⟨z, rfl⟩, rfl, hq⟩
    refine g_iload_n rfl rfl ?_
    refine g_aload_n rfl rfl ?_
    refine g_get rfl rfl wd_G rfl ?_
    rw [hn]
    refine g_icmp_ge rfl (fun _ => ?_) (fun h => absurd (nI_le (Nat.le_refl _) (by omega)) h)
    refine s_ic (v := nI 1) rfl rfl ?_
    refine g_zret rfl rfl (by decide) ?_
    refine ⟨?_, rfl⟩
    rw [anyB_f.mpr hq]
    rfl
/-- the vertex of request i -/
def voF (σ : wd_S) (x : Int32) (n : Nat) : Option Nat := fst1 (fun v => decide (x < sI (fun u => σ (6 + 3 * u) 9) (v + 1))) n
theorem r_vertexOf {xs : List Int32} {σ : wd_S} {n : Nat} (hn : σ 2 2 = nI n) (hn8 : n ≤ 8) (x : Int32) : ev xs 29 [.ref 2, .int x] σ (if 0 ≤ x then oI (voF σ x n) else -1) σ := by
  refine am_Ev.of (n := 4) rfl rfl rfl rfl ?_
  refine g_iload_n rfl rfl ?_
  refine g_if_ge rfl (fun h => ?_) (fun h => ?_)
  · rw [if_pos h]
    refine s_ic (v := nI 0) rfl rfl ?_
    refine g_istore_n rfl (Nat.le_of_ble_eq_true rfl) ?_
    refine s_ic (v := nI 0) rfl rfl ?_
    refine g_istore_n rfl (Nat.le_of_ble_eq_true rfl) ?_
    refine am_for n (fun i lo σ' => lo = [some (.ref 2), some (.int x), some (.int (sI (fun u => σ (6 + 3 * u) 9) i)), some (.int (nI i))] ∧ σ = σ' ∧ ∀ j, j < i → ¬ x < sI (fun u => σ (6 + 3 * u) 9) (j + 1)) ?_ ?_ 0 _ _ (Nat.zero_le _) ⟨rfl, rfl, fun j h => absurd h (Nat.not_lt_zero j)⟩
    · rintro i _ _ hi ⟨rfl, rfl, hq⟩ kk
      refine g_iload_n rfl rfl ?_
      refine g_aload_n rfl rfl ?_
      refine g_get rfl rfl wd_G rfl ?_
      rw [hn]
      refine g_icmp_ge rfl (fun h => absurd h (nI_ge hi (by omega))) (fun _ => ?_)
      refine g_iload_n rfl rfl ?_
      refine g_aload_n rfl rfl ?_
      refine g_get rfl rfl wd_G rfl ?_
      refine g_iload_n rfl rfl ?_
      refine s_aV rfl rfl (by omega) ?_
      refine g_get rfl rfl (wd_V (by omega)) rfl ?_
      refine g_iadd rfl ?_
      refine g_istore_n rfl (Nat.le_of_ble_eq_true rfl) ?_
      refine g_iload_n rfl rfl ?_
      refine g_iload_n rfl rfl ?_
      refine g_icmp_ge rfl (fun h2 => ?_) (fun h2 => ?_)
      · refine s_inc rfl rfl (nI_1 _) ?_
        refine g_goto rfl ?_
        refine kk _ _ ⟨rfl, rfl, lt_s hq ?_⟩
        show ¬ x < sI (fun u => σ (6 + 3 * u) 9) i + σ (6 + 3 * i) 9
        simp only [lt_i, le_i] at *
        omega
      · refine g_iload_n rfl rfl ?_
        refine g_iret rfl rfl ?_
        refine ⟨?_, rfl⟩
        unfold voF
        rw [fst1_some hi (decide_eq_true (by show x < sI (fun u => σ (6 + 3 * u) 9) i + σ (6 + 3 * i) 9; simp only [lt_i, le_i] at *; omega)) fun j hj => decide_eq_false (hq j hj)]
        rfl
    · rintro _ _ ⟨rfl, rfl, hq⟩
      refine g_iload_n rfl rfl ?_
      refine g_aload_n rfl rfl ?_
      refine g_get rfl rfl wd_G rfl ?_
      rw [hn]
      refine g_icmp_ge rfl (fun _ => ?_) (fun h => absurd (nI_le (Nat.le_refl _) (by omega)) h)
      refine s_ic (v := -1) rfl rfl ?_
      refine g_iret rfl rfl ?_
      refine ⟨?_, rfl⟩
      unfold voF
      rw [fst1_none.mpr fun j hj => decide_eq_false (hq j hj)]
      rfl
  · rw [if_neg h]
    refine s_ic (v := -1) rfl rfl ?_
    refine g_iret rfl rfl ?_
    exact ⟨rfl, rfl⟩
/-- what is left of i behind the vertices before v -/
def soF (σ : wd_S) (x : Int32) : Nat → Int32
  | 0 => x
  | v + 1 => soF σ x v - σ (6 + 3 * v) 9
theorem r_slotOf2 {xs : List Int32} {σ : wd_S} {n : Nat} (hn : σ 2 2 = nI n) (hn8 : n ≤ 8) (x : Int32) {v : Nat} (hv : v < n) (hlo : ∀ u, u < v → ¬ soF σ x u < σ (6 + 3 * u) 9) (hhi : soF σ x v < σ (6 + 3 * v) 9) : ev xs 30 [.ref 2, .int x] σ (soF σ x v) σ := by
  refine am_Ev.of (n := 4) rfl rfl rfl rfl ?_
  refine g_iload_n rfl rfl ?_
  refine g_istore_n rfl (Nat.le_of_ble_eq_true rfl) ?_
  refine s_ic (v := nI 0) rfl rfl ?_
  refine g_istore_n rfl (Nat.le_of_ble_eq_true rfl) ?_
  refine am_for v (fun i lo σ' => lo = [some (.ref 2), some (.int x), some (.int (soF σ x i)), some (.int (nI i))] ∧ σ = σ') ?_ ?_ 0 _ _ (Nat.zero_le _) ⟨rfl, rfl⟩
  · rintro i _ _ hi ⟨rfl, rfl⟩ kk
    refine g_iload_n rfl rfl ?_
    refine g_aload_n rfl rfl ?_
    refine g_get rfl rfl wd_G rfl ?_
    rw [hn]
    refine g_icmp_ge rfl (fun h => absurd h (nI_ge (by omega) (by omega))) (fun _ => ?_)
    refine g_iload_n rfl rfl ?_
    refine g_aload_n rfl rfl ?_
    refine g_get rfl rfl wd_G rfl ?_
    refine g_iload_n rfl rfl ?_
    refine s_aV rfl rfl (by omega) ?_
    refine g_get rfl rfl (wd_V (by omega)) rfl ?_
    refine g_icmp_lt rfl (fun h => absurd h (hlo i hi)) (fun _ => ?_)
    refine g_iload_n rfl rfl ?_
    refine g_aload_n rfl rfl ?_
    refine g_get rfl rfl wd_G rfl ?_
    refine g_iload_n rfl rfl ?_
    refine s_aV rfl rfl (by omega) ?_
    refine g_get rfl rfl (wd_V (by omega)) rfl ?_
    refine g_isub rfl ?_
    refine g_istore_n rfl (Nat.le_of_ble_eq_true rfl) ?_
    refine s_inc rfl rfl (nI_1 _) ?_
    refine g_goto rfl ?_
    exact kk _ _ ⟨rfl, rfl⟩
  · rintro _ _ ⟨rfl, rfl⟩
    refine g_iload_n rfl rfl ?_
    refine g_aload_n rfl rfl ?_
    refine g_get rfl rfl wd_G rfl ?_
    rw [hn]
    refine g_icmp_ge rfl (fun h => absurd h (nI_ge hv (by omega))) (fun _ => ?_)
    refine g_iload_n rfl rfl ?_
    refine g_aload_n rfl rfl ?_
    refine g_get rfl rfl wd_G rfl ?_
    refine g_iload_n rfl rfl ?_
    refine s_aV rfl rfl (by omega) ?_
    refine g_get rfl rfl (wd_V (by omega)) rfl ?_
    refine g_icmp_lt rfl (fun _ => ?_) (fun h => absurd (hhi) h)
    refine g_iload_n rfl rfl ?_
    refine g_iret rfl rfl ?_
    exact ⟨rfl, rfl⟩
