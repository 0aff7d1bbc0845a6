/-! The reference: work, deliver, and what only reads. -/
theorem trF_c {σ : wd_S} {v d : Nat} (h : d ≠ 66) : trF σ v d = σ d := by
  unfold trF
  split
  · exact u2_row h
  · split
    · exact u2_row h
    · split
      · exact u2_row h
      · split
        · exact u2_row h
        · rfl
theorem trF_k {σ : wd_S} {v k : Nat} (h : k ≠ 22 ∧ k ≠ 23) : trF σ v 66 k = σ 66 k := by
  unfold trF
  split
  · exact u2_k h.1
  · split
    · exact u2_k h.2
    · split
      · exact u2_k h.1
      · split
        · exact u2_k h.2
        · rfl
theorem m_work_a {xs : List Int32} {σ : wd_S} {v e : Nat} (hv : v < 8) (he : σ 66 8 = nI e) (he12 : e ≤ 12) (x : Int32) (hkw : ¬ σ 67 v = nI 1 ∨ σ 69 v = 0) (cn : Nat → Nat) (hc : ∀ i, i < e → σ 73 i = nI v → σ 75 i = nI (cn i) ∧ cn i < 6) : ev xs 79 [.ref 66, .int (nI v), .int x] σ (nI (cnt (fun i => decide (σ 73 i = nI v)) e)) (saF (trF σ v) (fun i => decide (σ 73 i = nI v)) x cn e) := by
  have hs := m_sendAll (xs := xs) (σ := trF σ v) (e := e) (by rw [trF_k (by omega)]; exact he) he12 (nI v) x cn (fun i hi hb => by
    rw [trF_c (by omega)] at hb ⊢
    exact hc i hi hb)
  rw [trF_c (by omega)] at hs
  refine am_Ev.of (n := 4) rfl rfl rfl rfl ?_
  refine g_aload_n rfl rfl ?_
  refine g_get rfl rfl wd_M rfl ?_
  refine g_iload_n rfl rfl ?_
  refine s_iald rfl a_67 rfl (by omega) ?_
  refine s_ic (v := nI 1) rfl rfl ?_
  refine g_icmp_ne rfl (fun h7 => ?_) (fun h7 => ?_)
  · refine g_aload_n rfl rfl ?_
    refine g_iload_n rfl rfl ?_
    refine c_Vv rfl rfl rfl rfl wd_M rfl (m_turn hv) rfl rfl rfl ?_
    refine g_aload_n rfl rfl ?_
    refine g_iload_n rfl rfl ?_
    refine g_iload_n rfl rfl ?_
    refine c_V rfl rfl rfl rfl wd_M rfl (hs) rfl rfl rfl ?_
    refine g_iret rfl rfl ?_
    exact ⟨rfl, rfl⟩
  · refine g_aload_n rfl rfl ?_
    refine g_get rfl rfl wd_M rfl ?_
    refine g_iload_n rfl rfl ?_
    refine s_iald rfl a_69 rfl (by omega) ?_
    refine g_if_ne rfl (fun h => absurd (hkw.resolve_left (fun z => z h7)) h) (fun _ => ?_)
    refine g_aload_n rfl rfl ?_
    refine g_iload_n rfl rfl ?_
    refine c_Vv rfl rfl rfl rfl wd_M rfl (m_turn hv) rfl rfl rfl ?_
    refine g_aload_n rfl rfl ?_
    refine g_iload_n rfl rfl ?_
    refine g_iload_n rfl rfl ?_
    refine c_V rfl rfl rfl rfl wd_M rfl (hs) rfl rfl rfl ?_
    refine g_iret rfl rfl ?_
    exact ⟨rfl, rfl⟩
theorem m_work_b {xs : List Int32} {σ : wd_S} {v q : Nat} (hv : v < 8) (hq : σ 66 14 = nI q) (hq32 : q ≤ 32) (x : Int32) (hk : σ 67 v = nI 1) (hw : σ 69 v = nI 1) (hok : fst1 (rmB σ (nI v)) q = none → q < 32) : ev xs 79 [.ref 66, .int (nI v), .int x] σ (nI 0) (mgF σ q (nI v) x) := by
  refine am_Ev.of (n := 4) rfl rfl rfl rfl ?_
  refine g_aload_n rfl rfl ?_
  refine g_get rfl rfl wd_M rfl ?_
  refine g_iload_n rfl rfl ?_
  refine s_iald rfl a_67 rfl (by omega) ?_
  refine s_ic (v := nI 1) rfl rfl ?_
  refine g_icmp_ne rfl (fun h => absurd (hk) h) (fun _ => ?_)
  refine g_aload_n rfl rfl ?_
  refine g_get rfl rfl wd_M rfl ?_
  refine g_iload_n rfl rfl ?_
  refine s_iald rfl a_69 rfl (by omega) ?_
  refine g_if_ne rfl (fun _ => ?_) (fun h => absurd h (by rw [hw]; decide))
  refine g_aload_n rfl rfl ?_
  refine g_get rfl rfl wd_M rfl ?_
  refine g_iload_n rfl rfl ?_
  refine s_iald rfl a_69 rfl (by omega) ?_
  refine s_ic (v := nI 1) rfl rfl ?_
  refine g_icmp_ne rfl (fun h => absurd (hw) h) (fun _ => ?_)
  refine g_aload_n rfl rfl ?_
  refine g_iload_n rfl rfl ?_
  refine g_iload_n rfl rfl ?_
  refine c_Vv rfl rfl rfl rfl wd_M rfl (m_gather hq hq32 (nI v) x hok) rfl rfl rfl ?_
  refine s_ic (v := nI 0) rfl rfl ?_
  refine g_iret rfl rfl ?_
  exact ⟨rfl, rfl⟩
theorem m_work_d {xs : List Int32} {σ : wd_S} {v : Nat} (hv : v < 8) (x : Int32) (hk : σ 67 v = nI 1) (hw0 : ¬ σ 69 v = 0) (hw1 : ¬ σ 69 v = nI 1) (hw2 : ¬ σ 69 v = nI 2) : ev xs 79 [.ref 66, .int (nI v), .int x] σ (nI 0) σ := by
  refine am_Ev.of (n := 4) rfl rfl rfl rfl ?_
  refine g_aload_n rfl rfl ?_
  refine g_get rfl rfl wd_M rfl ?_
  refine g_iload_n rfl rfl ?_
  refine s_iald rfl a_67 rfl (by omega) ?_
  refine s_ic (v := nI 1) rfl rfl ?_
  refine g_icmp_ne rfl (fun h => absurd (hk) h) (fun _ => ?_)
  refine g_aload_n rfl rfl ?_
  refine g_get rfl rfl wd_M rfl ?_
  refine g_iload_n rfl rfl ?_
  refine s_iald rfl a_69 rfl (by omega) ?_
  refine g_if_ne rfl (fun _ => ?_) (fun h => absurd h (hw0))
  refine g_aload_n rfl rfl ?_
  refine g_get rfl rfl wd_M rfl ?_
  refine g_iload_n rfl rfl ?_
  refine s_iald rfl a_69 rfl (by omega) ?_
  refine s_ic (v := nI 1) rfl rfl ?_
  refine g_icmp_ne rfl (fun _ => ?_) (fun h => absurd h (hw1))
  refine g_aload_n rfl rfl ?_
  refine g_get rfl rfl wd_M rfl ?_
  refine g_iload_n rfl rfl ?_
  refine s_iald rfl a_69 rfl (by omega) ?_
  refine s_ic (v := nI 2) rfl rfl ?_
  refine g_icmp_ne rfl (fun _ => ?_) (fun h => absurd h (hw2))
  refine s_ic (v := -1) rfl rfl ?_
  refine g_istore_n rfl (Nat.le_of_ble_eq_true rfl) ?_
  refine g_iload_n rfl rfl ?_
  refine g_if_ge rfl (fun h => absurd h (by decide)) (fun _ => ?_)
  refine s_ic (v := nI 0) rfl rfl ?_
  refine g_goto rfl ?_
  refine g_iret rfl rfl ?_
  exact ⟨rfl, rfl⟩
theorem m_work_c0 {xs : List Int32} {σ : wd_S} {v e : Nat} (hv : v < 8) (he : σ 66 8 = nI e) (he12 : e ≤ 12) (x : Int32) (hk : σ 67 v = nI 1) (hw : σ 69 v = nI 2) (hl : ldF (fun i => decide (σ 73 i = nI v)) (if x ≤ 0 then 1 else 0) e = none) : ev xs 79 [.ref 66, .int (nI v), .int x] σ (nI 0) σ := by
  refine am_Ev.of (n := 4) rfl rfl rfl rfl ?_
  have hd : ∀ lo, lo = [some (.ref 66), some (.int (nI v)), some (.int x), none] → am_G 79 73 lo [.int (oI (ldF (fun i => decide (σ 73 i = nI v)) (if x ≤ 0 then 1 else 0) e))] (wd xs σ) (po xs (nI 0) σ) := by
    rintro _ rfl
    rw [hl]
    refine g_goto rfl ?_
    refine g_istore_n rfl (Nat.le_of_ble_eq_true rfl) ?_
    refine g_iload_n rfl rfl ?_
    refine g_if_ge rfl (fun h => absurd h (by decide)) (fun _ => ?_)
    refine s_ic (v := nI 0) rfl rfl ?_
    refine g_goto rfl ?_
    refine g_iret rfl rfl ?_
    exact ⟨rfl, rfl⟩
  refine g_aload_n rfl rfl ?_
  refine g_get rfl rfl wd_M rfl ?_
  refine g_iload_n rfl rfl ?_
  refine s_iald rfl a_67 rfl (by omega) ?_
  refine s_ic (v := nI 1) rfl rfl ?_
  refine g_icmp_ne rfl (fun h => absurd (hk) h) (fun _ => ?_)
  refine g_aload_n rfl rfl ?_
  refine g_get rfl rfl wd_M rfl ?_
  refine g_iload_n rfl rfl ?_
  refine s_iald rfl a_69 rfl (by omega) ?_
  refine g_if_ne rfl (fun _ => ?_) (fun h => absurd h (by rw [hw]; decide))
  refine g_aload_n rfl rfl ?_
  refine g_get rfl rfl wd_M rfl ?_
  refine g_iload_n rfl rfl ?_
  refine s_iald rfl a_69 rfl (by omega) ?_
  refine s_ic (v := nI 1) rfl rfl ?_
  refine g_icmp_ne rfl (fun _ => ?_) (fun h => absurd h (by rw [hw]; decide))
  refine g_aload_n rfl rfl ?_
  refine g_get rfl rfl wd_M rfl ?_
  refine g_iload_n rfl rfl ?_
  refine s_iald rfl a_69 rfl (by omega) ?_
  refine s_ic (v := nI 2) rfl rfl ?_
  refine g_icmp_ne rfl (fun h => absurd (hw) h) (fun _ => ?_)
  refine g_aload_n rfl rfl ?_
  refine g_iload_n rfl rfl ?_
  refine g_iload_n rfl rfl ?_
  refine g_if_le rfl (fun h => ?_) (fun h => ?_)
  · rw [if_pos h] at hd
    refine s_ic (v := nI 1) rfl rfl ?_
    refine c_V rfl rfl rfl rfl wd_M rfl (m_leading he he12 (nI v) (show 1 < 100 by omega)) rfl rfl rfl ?_
    exact hd _ rfl
  · rw [if_neg h] at hd
    refine s_ic (v := nI 0) rfl rfl ?_
    refine g_goto rfl ?_
    refine c_V rfl rfl rfl rfl wd_M rfl (m_leading he he12 (nI v) (show 0 < 100 by omega)) rfl rfl rfl ?_
    exact hd _ rfl
theorem m_work_c1 {xs : List Int32} {σ : wd_S} {v e j c : Nat} (hv : v < 8) (he : σ 66 8 = nI e) (he12 : e ≤ 12) (x : Int32) (hk : σ 67 v = nI 1) (hw : σ 69 v = nI 2) (hl : ldF (fun i => decide (σ 73 i = nI v)) (if x ≤ 0 then 1 else 0) e = some j) (hc : σ 75 j = nI c) (hc6 : c < 6) : ev xs 79 [.ref 66, .int (nI v), .int x] σ (nI 1) (p1F σ j c (if x ≤ 0 then x else x - nI 1)) := by
  have hj := (ldF_lt hl).1
  refine am_Ev.of (n := 4) rfl rfl rfl rfl ?_
  have hd : ∀ lo, lo = [some (.ref 66), some (.int (nI v)), some (.int x), none] → am_G 79 73 lo [.int (oI (ldF (fun i => decide (σ 73 i = nI v)) (if x ≤ 0 then 1 else 0) e))] (wd xs σ) (po xs (nI 1) (p1F σ j c (if x ≤ 0 then x else x - nI 1))) := by
    rintro _ rfl
    rw [hl]
    refine g_goto rfl ?_
    refine g_istore_n rfl (Nat.le_of_ble_eq_true rfl) ?_
    refine g_iload_n rfl rfl ?_
    refine g_if_ge rfl (fun _ => ?_) (fun h => absurd (nI_pos' (by omega)) h)
    refine g_aload_n rfl rfl ?_
    refine g_iload_n rfl rfl ?_
    refine g_iload_n rfl rfl ?_
    refine g_if_le rfl (fun h => ?_) (fun h => ?_)
    · rw [if_pos h]
      refine g_iload_n rfl rfl ?_
      refine c_V rfl rfl rfl rfl wd_M rfl (m_put1 (show j < 12 by omega) hc hc6 _) rfl rfl rfl ?_
      refine g_iret rfl rfl ?_
      exact ⟨rfl, rfl⟩
    · rw [if_neg h]
      refine g_iload_n rfl rfl ?_
      refine s_ic (v := nI 1) rfl rfl ?_
      refine g_isub rfl ?_
      refine g_goto rfl ?_
      refine c_V rfl rfl rfl rfl wd_M rfl (m_put1 (show j < 12 by omega) hc hc6 _) rfl rfl rfl ?_
      refine g_iret rfl rfl ?_
      exact ⟨rfl, rfl⟩
  refine g_aload_n rfl rfl ?_
  refine g_get rfl rfl wd_M rfl ?_
  refine g_iload_n rfl rfl ?_
  refine s_iald rfl a_67 rfl (by omega) ?_
  refine s_ic (v := nI 1) rfl rfl ?_
  refine g_icmp_ne rfl (fun h => absurd (hk) h) (fun _ => ?_)
  refine g_aload_n rfl rfl ?_
  refine g_get rfl rfl wd_M rfl ?_
  refine g_iload_n rfl rfl ?_
  refine s_iald rfl a_69 rfl (by omega) ?_
  refine g_if_ne rfl (fun _ => ?_) (fun h => absurd h (by rw [hw]; decide))
  refine g_aload_n rfl rfl ?_
  refine g_get rfl rfl wd_M rfl ?_
  refine g_iload_n rfl rfl ?_
  refine s_iald rfl a_69 rfl (by omega) ?_
  refine s_ic (v := nI 1) rfl rfl ?_
  refine g_icmp_ne rfl (fun _ => ?_) (fun h => absurd h (by rw [hw]; decide))
  refine g_aload_n rfl rfl ?_
  refine g_get rfl rfl wd_M rfl ?_
  refine g_iload_n rfl rfl ?_
  refine s_iald rfl a_69 rfl (by omega) ?_
  refine s_ic (v := nI 2) rfl rfl ?_
  refine g_icmp_ne rfl (fun h => absurd (hw) h) (fun _ => ?_)
  refine g_aload_n rfl rfl ?_
  refine g_iload_n rfl rfl ?_
  refine g_iload_n rfl rfl ?_
  refine g_if_le rfl (fun h => ?_) (fun h => ?_)
  · rw [if_pos h] at hd
    refine s_ic (v := nI 1) rfl rfl ?_
    refine c_V rfl rfl rfl rfl wd_M rfl (m_leading he he12 (nI v) (show 1 < 100 by omega)) rfl rfl rfl ?_
    exact hd _ rfl
  · rw [if_neg h] at hd
    refine s_ic (v := nI 0) rfl rfl ?_
    refine g_goto rfl ?_
    refine c_V rfl rfl rfl rfl wd_M rfl (m_leading he he12 (nI v) (show 0 < 100 by omega)) rfl rfl rfl ?_
    exact hd _ rfl
theorem m_deliver_bad {xs : List Int32} {σ : wd_S} {e : Nat} {b : Bool} (he : σ 66 8 = nI e) (hb : σ 66 0 = bI (!b)) (x : Int32) (h : b = true ∨ inB x e = false) : ev xs 80 [.ref 66, .int x] σ (-1) σ := by
  refine am_Ev.of (n := 5) rfl rfl rfl rfl ?_
  have bad : ∀ lo, am_G 80 15 lo [] (wd xs σ) (po xs (-1) σ) := by
    intro lo
    refine s_ic (v := -1) rfl rfl ?_
    refine g_iret rfl rfl ?_
    exact ⟨rfl, rfl⟩
  refine g_aload_n rfl rfl ?_
  refine g_get rfl rfl wd_M rfl ?_
  rw [hb]
  cases b with
  | true =>
    refine g_if_eq rfl (fun _ => ?_) (fun h => absurd (rfl) h)
    exact bad _
  | false =>
    refine g_if_eq rfl (fun h => absurd h (by decide)) (fun _ => ?_)
    refine g_aload_n rfl rfl ?_
    refine g_iload_n rfl rfl ?_
    refine c_V rfl rfl rfl rfl wd_M rfl (m_isEdge he x) rfl rfl rfl ?_
    have hx : inB x e = false := by
      rcases h with h | h
      · cases h
      · exact h
    rw [hx]
    refine g_if_ne rfl (fun h => absurd (rfl) h) (fun _ => ?_)
    exact bad _
theorem m_deliver_none {xs : List Int32} {σ : wd_S} {e i : Nat} (he : σ 66 8 = nI e) (he12 : e ≤ 12) (hb : σ 66 0 = nI 1) (hi : i < e) (h0 : σ 75 i = nI 0) : ev xs 80 [.ref 66, .int (nI i)] σ (-3) σ := by
  refine am_Ev.of (n := 5) rfl rfl rfl rfl ?_
  refine g_aload_n rfl rfl ?_
  refine g_get rfl rfl wd_M rfl ?_
  rw [hb]
  refine g_if_eq rfl (fun h => absurd h (by decide)) (fun _ => ?_)
  refine g_aload_n rfl rfl ?_
  refine g_iload_n rfl rfl ?_
  refine c_V rfl rfl rfl rfl wd_M rfl (m_isEdge he (nI i)) rfl rfl rfl ?_
  rw [inB_t hi (by omega)]
  refine g_if_ne rfl (fun _ => ?_) (fun h => absurd h (by decide))
  refine g_aload_n rfl rfl ?_
  refine g_get rfl rfl wd_M rfl ?_
  refine g_iload_n rfl rfl ?_
  refine s_iald rfl a_75 rfl (by omega) ?_
  rw [h0]
  refine g_if_ne rfl (fun h => absurd (rfl) h) (fun _ => ?_)
  refine s_bp (v := -3) rfl rfl ?_
  refine g_iret rfl rfl ?_
  exact ⟨rfl, rfl⟩
/-- the time of the first message of line i stands in the fields -/
def t1F (σ : wd_S) (i : Nat) : wd_S := tiF σ (σ 77 (18 * i)) (σ 77 (18 * i + 1)) (σ 77 (18 * i + 2))
theorem m_deliver {xs : List Int32} {σ : wd_S} {e i c v q : Nat} (he : σ 66 8 = nI e) (he12 : e ≤ 12) (hb : σ 66 0 = nI 1) (hi : i < e) (hcn : σ 75 i = nI (c + 1)) (hc6 : c < 6) (hto : σ 74 i = nI v) (hv : v < 8) (hq : σ 66 14 = nI q) (hq32 : q ≤ 32) {R : Int32} {σ' : wd_S}
    (h0 : ¬ rsR (t1F σ i) v e q (σ 76 (6 * i)) (nI i) = 0 → R = rsR (t1F σ i) v e q (σ 76 (6 * i)) (nI i) ∧ σ' = t1F σ i)
    (h1 : rsR (t1F σ i) v e q (σ 76 (6 * i)) (nI i) = 0 → ev xs 79 [.ref 66, .int (nI v), .int (σ 76 (6 * i))] (u2 (u2 (tkF (t1F σ i) i c c (3 * c)) 66 18 (σ 66 18 + nI 1)) 72 v (σ 72 v + σ 76 (6 * i))) R σ') :
    ev xs 80 [.ref 66, .int (nI i)] σ R σ' := by
  refine am_Ev.of (n := 5) rfl rfl rfl rfl ?_
  refine g_aload_n rfl rfl ?_
  refine g_get rfl rfl wd_M rfl ?_
  rw [hb]
  refine g_if_eq rfl (fun h => absurd h (by decide)) (fun _ => ?_)
  refine g_aload_n rfl rfl ?_
  refine g_iload_n rfl rfl ?_
  refine c_V rfl rfl rfl rfl wd_M rfl (m_isEdge he (nI i)) rfl rfl rfl ?_
  rw [inB_t hi (by omega)]
  refine g_if_ne rfl (fun _ => ?_) (fun h => absurd h (by decide))
  refine g_aload_n rfl rfl ?_
  refine g_get rfl rfl wd_M rfl ?_
  refine g_iload_n rfl rfl ?_
  refine s_iald rfl a_75 rfl (by omega) ?_
  rw [hcn]
  refine g_if_ne rfl (fun _ => ?_) (fun h => absurd h (nI_ne0 (by omega) (by omega)))
  refine g_aload_n rfl rfl ?_
  refine g_get rfl rfl wd_M rfl ?_
  refine g_iload_n rfl rfl ?_
  refine s_iald rfl a_74 rfl (by omega) ?_
  rw [hto]
  refine g_istore_n rfl (Nat.le_of_ble_eq_true rfl) ?_
  refine g_aload_n rfl rfl ?_
  refine g_get rfl rfl wd_M rfl ?_
  refine s_bp (v := nI 6) rfl rfl ?_
  refine g_iload_n rfl rfl ?_
  refine g_imul rfl ?_
  rw [pk_mul]
  refine s_iald rfl a_76 rfl (by omega) ?_
  refine g_istore_n rfl (Nat.le_of_ble_eq_true rfl) ?_
  refine g_aload_n rfl rfl ?_
  refine g_aload_n rfl rfl ?_
  refine g_get rfl rfl wd_M rfl ?_
  refine s_bp (v := nI 18) rfl rfl ?_
  refine g_iload_n rfl rfl ?_
  refine g_imul rfl ?_
  rw [pk_mul]
  refine s_iald rfl a_77 rfl (by omega) ?_
  refine s_putM rfl rfl (by decide) ?_
  refine g_aload_n rfl rfl ?_
  refine g_aload_n rfl rfl ?_
  refine g_get rfl rfl wd_M rfl ?_
  refine s_bp (v := nI 18) rfl rfl ?_
  refine g_iload_n rfl rfl ?_
  refine g_imul rfl ?_
  rw [pk_mul]
  refine s_ic (v := nI 1) rfl rfl ?_
  refine g_iadd rfl ?_
  rw [nI_add]
  refine s_iald rfl a_77 rfl (by omega) ?_
  rw [u2_c (by omega)]
  refine s_putM rfl rfl (by decide) ?_
  refine g_aload_n rfl rfl ?_
  refine g_aload_n rfl rfl ?_
  refine g_get rfl rfl wd_M rfl ?_
  refine s_bp (v := nI 18) rfl rfl ?_
  refine g_iload_n rfl rfl ?_
  refine g_imul rfl ?_
  rw [pk_mul]
  refine s_ic (v := nI 2) rfl rfl ?_
  refine g_iadd rfl ?_
  rw [nI_add]
  refine s_iald rfl a_77 rfl (by omega) ?_
  rw [u2_c (by omega), u2_c (by omega)]
  refine s_putM rfl rfl (by decide) ?_
  refine g_aload_n rfl rfl ?_
  refine g_iload_n rfl rfl ?_
  refine g_iload_n rfl rfl ?_
  refine g_iload_n rfl rfl ?_
  refine c_V rfl rfl rfl rfl wd_M rfl (m_refusal (σ := t1F σ i) hv (by unfold t1F; rw [tiF_k (by omega)]; exact he) he12 (by unfold t1F; rw [tiF_k (by omega)]; exact hq) hq32 _ _) rfl rfl rfl ?_
  refine g_istore rfl (Nat.le_of_ble_eq_true rfl) ?_
  refine g_iload rfl rfl ?_
  refine g_if_eq rfl (fun h => ?_) (fun h => ?_)
  · have h2 := h1 h
    refine g_aload_n rfl rfl ?_
    refine g_iload_n rfl rfl ?_
    refine c_Vv rfl rfl rfl rfl wd_M rfl (m_take (show i < 12 by omega) (by unfold t1F; rw [tiF_c (by omega)]; exact hcn) hc6) rfl rfl rfl ?_
    have k66 : tkF (t1F σ i) i c c (3 * c) 66 18 = σ 66 18 := by
      unfold tkF t1F
      rw [rws_c (by omega), rws_c (by omega), u2_c (by omega), tiF_k (by omega)]
    refine g_aload_n rfl rfl ?_
    refine g_dup rfl rfl ?_
    refine g_get rfl rfl wd_M rfl ?_
    rw [k66]
    refine s_ic (v := nI 1) rfl rfl ?_
    refine g_iadd rfl ?_
    refine s_putM rfl rfl (by decide) ?_
    refine g_aload_n rfl rfl ?_
    refine g_get rfl rfl wd_M rfl ?_
    refine g_iload_n rfl rfl ?_
    refine g_dup2 rfl rfl rfl ?_
    refine s_iald rfl a_72 rfl (by omega) ?_
    have k72 : u2 (tkF (t1F σ i) i c c (3 * c)) 66 18 (σ 66 18 + nI 1) 72 v = σ 72 v := by
      unfold tkF t1F
      rw [u2_c (by omega), rws_c (by omega), rws_c (by omega), u2_c (by omega), tiF_c (by omega)]
    rw [k72]
    refine g_iload_n rfl rfl ?_
    refine g_iadd rfl ?_
    refine s_iast rfl a_72 rfl (by omega) ?_
    refine g_aload_n rfl rfl ?_
    refine g_iload_n rfl rfl ?_
    refine g_iload_n rfl rfl ?_
    refine c_V rfl rfl rfl rfl wd_M rfl h2 rfl rfl rfl ?_
    refine g_iret rfl rfl ?_
    exact ⟨rfl, rfl⟩
  · obtain ⟨rfl, rfl⟩ := h0 h
    refine g_iload rfl rfl ?_
    refine g_iret rfl rfl ?_
    exact ⟨rfl, rfl⟩
theorem m_requests {xs : List Int32} {σ : wd_S} : ev xs 81 [.ref 66] σ (σ 66 14) σ := by
  refine am_Ev.of (n := 1) rfl rfl rfl rfl ?_
  refine g_aload_n rfl rfl ?_
  refine g_get rfl rfl wd_M rfl ?_
  refine g_iret rfl rfl ?_
  exact ⟨rfl, rfl⟩
theorem m_waiting {xs : List Int32} {σ : wd_S} {e : Nat} (he : σ 66 8 = nI e) (he12 : e ≤ 12) (x : Int32) : ev xs 92 [.ref 66, .int x] σ (if inB x e = true then σ 75 x.toNatClampNeg else -1) σ := by
  refine am_Ev.of (n := 2) rfl rfl rfl rfl ?_
  refine g_aload_n rfl rfl ?_
  refine g_iload_n rfl rfl ?_
  refine c_V rfl rfl rfl rfl wd_M rfl (m_isEdge he x) rfl rfl rfl ?_
  cases hx : inB x e with
  | false =>
    refine g_if_eq rfl (fun _ => ?_) (fun h => absurd (rfl) h)
    refine s_ic (v := -1) rfl rfl ?_
    refine g_iret rfl rfl ?_
    exact ⟨rfl, rfl⟩
  | true =>
    refine g_if_eq rfl (fun h => absurd h (by decide)) (fun _ => ?_)
    obtain ⟨i, hi, rfl⟩ := inB_ex (by omega) hx
    refine g_aload_n rfl rfl ?_
    refine g_get rfl rfl wd_M rfl ?_
    refine g_iload_n rfl rfl ?_
    refine s_iald rfl a_75 rfl (by omega) ?_
    refine g_goto rfl ?_
    refine g_iret rfl rfl ?_
    exact ⟨by rw [if_pos rfl, nI_clamp (by omega)], rfl⟩
theorem m_total {xs : List Int32} {σ : wd_S} {n : Nat} (hn : σ 66 1 = nI n) (hn8 : n ≤ 8) (x : Int32) : ev xs 94 [.ref 66, .int x] σ (if inB x n = true then σ 72 x.toNatClampNeg else nI 0) σ := by
  refine am_Ev.of (n := 2) rfl rfl rfl rfl ?_
  refine g_aload_n rfl rfl ?_
  refine g_iload_n rfl rfl ?_
  refine c_V rfl rfl rfl rfl wd_M rfl (m_isVertex hn x) rfl rfl rfl ?_
  cases hx : inB x n with
  | false =>
    refine g_if_eq rfl (fun _ => ?_) (fun h => absurd (rfl) h)
    refine s_ic (v := nI 0) rfl rfl ?_
    refine g_iret rfl rfl ?_
    exact ⟨rfl, rfl⟩
  | true =>
    refine g_if_eq rfl (fun h => absurd h (by decide)) (fun _ => ?_)
    obtain ⟨i, hi, rfl⟩ := inB_ex (by omega) hx
    refine g_aload_n rfl rfl ?_
    refine g_get rfl rfl wd_M rfl ?_
    refine g_iload_n rfl rfl ?_
    refine s_iald rfl a_72 rfl (by omega) ?_
    refine g_goto rfl ?_
    refine g_iret rfl rfl ?_
    exact ⟨by rw [if_pos rfl, nI_clamp (by omega)], rfl⟩
theorem m_times {xs : List Int32} {σ : wd_S} (x : Int32) : ev xs 96 [.ref 66, .int x] σ (if x = nI 0 then σ 66 18 else if x = nI 1 then σ 66 19 else if x = nI 2 then σ 66 20 else -1) σ := by
  refine am_Ev.of (n := 2) rfl rfl rfl rfl ?_
  refine g_iload_n rfl rfl ?_
  refine g_if_ne rfl (fun h1 => ?_) (fun h1 => ?_)
  · refine g_iload_n rfl rfl ?_
    refine s_ic (v := nI 1) rfl rfl ?_
    refine g_icmp_ne rfl (fun h13 => ?_) (fun h13 => ?_)
    · refine g_iload_n rfl rfl ?_
      refine s_ic (v := nI 2) rfl rfl ?_
      refine g_icmp_ne rfl (fun h25 => ?_) (fun h25 => ?_)
      · refine s_ic (v := -1) rfl rfl ?_
        refine g_iret rfl rfl ?_
        refine ⟨?_, rfl⟩
        rw [nI_0]
        (first | rw [if_pos h1] | rw [if_neg h1]); (try (first | rw [if_pos h13] | rw [if_neg h13])); (try (first | rw [if_pos h25] | rw [if_neg h25]))
      · refine g_aload_n rfl rfl ?_
        refine g_get rfl rfl wd_M rfl ?_
        refine g_goto rfl ?_
        refine g_iret rfl rfl ?_
        refine ⟨?_, rfl⟩
        rw [nI_0]
        (first | rw [if_pos h1] | rw [if_neg h1]); (try (first | rw [if_pos h13] | rw [if_neg h13])); (try (first | rw [if_pos h25] | rw [if_neg h25]))
    · refine g_aload_n rfl rfl ?_
      refine g_get rfl rfl wd_M rfl ?_
      refine g_goto rfl ?_
      refine g_iret rfl rfl ?_
      refine ⟨?_, rfl⟩
      rw [nI_0]
      (first | rw [if_pos h1] | rw [if_neg h1]); (try (first | rw [if_pos h13] | rw [if_neg h13])); (try (first | rw [if_pos h25] | rw [if_neg h25]))
  · refine g_aload_n rfl rfl ?_
    refine g_get rfl rfl wd_M rfl ?_
    refine g_goto rfl ?_
    refine g_iret rfl rfl ?_
    refine ⟨?_, rfl⟩
    rw [nI_0]
    (first | rw [if_pos h1] | rw [if_neg h1]); (try (first | rw [if_pos h13] | rw [if_neg h13])); (try (first | rw [if_pos h25] | rw [if_neg h25]))
theorem m_message {xs : List Int32} {σ : wd_S} {e : Nat} (he : σ 66 8 = nI e) (he12 : e ≤ 12) (cn : Nat → Nat) (hc : ∀ i, i < e → σ 75 i = nI (cn i) ∧ cn i ≤ 6) (x y z : Int32) : ev xs 93 [.ref 66, .int x, .int y, .int z] σ (if inB x e = true ∧ inB z 4 = true ∧ inB y (cn x.toNatClampNeg) = true then (if z = 0 then σ 76 (6 * x.toNatClampNeg + y.toNatClampNeg) else σ 77 (18 * x.toNatClampNeg + 3 * y.toNatClampNeg + z.toNatClampNeg - 1)) else nI 0) σ := by
  refine am_Ev.of (n := 4) rfl rfl rfl rfl ?_
  have bad : ¬ (inB x e = true ∧ inB z 4 = true ∧ inB y (cn x.toNatClampNeg) = true) → ∀ lo, am_G 93 31 lo [] (wd xs σ) (po xs (if inB x e = true ∧ inB z 4 = true ∧ inB y (cn x.toNatClampNeg) = true then (if z = 0 then σ 76 (6 * x.toNatClampNeg + y.toNatClampNeg) else σ 77 (18 * x.toNatClampNeg + 3 * y.toNatClampNeg + z.toNatClampNeg - 1)) else nI 0) σ) := by
    intro hz lo
    rw [if_neg hz]
    refine s_ic (v := nI 0) rfl rfl ?_
    refine g_iret rfl rfl ?_
    exact ⟨rfl, rfl⟩
  refine g_aload_n rfl rfl ?_
  refine g_iload_n rfl rfl ?_
  refine c_V rfl rfl rfl rfl wd_M rfl (m_isEdge he x) rfl rfl rfl ?_
  cases hx : inB x e with
  | false =>
    refine g_if_eq rfl (fun _ => ?_) (fun h => absurd (rfl) h)
    rw [hx] at bad
    exact bad (fun q => by cases q.1) _
  | true =>
    rw [hx] at bad
    refine g_if_eq rfl (fun h => absurd h (by decide)) (fun _ => ?_)
    obtain ⟨i, hi, rfl⟩ := inB_ex (by omega) hx
    rw [nI_clamp (by omega)] at bad ⊢
    obtain ⟨c1, c2⟩ := hc i hi
    refine g_iload_n rfl rfl ?_
    refine g_if_lt rfl (fun h4 => ?_) (fun h4 => ?_)
    · exact bad (fun q => by
        have := q.2.2
        unfold inB at this
        rw [Bool.and_eq_true, decide_eq_true_eq] at this
        simp only [lt_i, le_i] at *
        omega) _
    · refine g_iload_n rfl rfl ?_
      refine g_aload_n rfl rfl ?_
      refine g_get rfl rfl wd_M rfl ?_
      refine g_iload_n rfl rfl ?_
      refine s_iald rfl a_75 rfl (by omega) ?_
      rw [c1]
      refine g_icmp_ge rfl (fun h5 => ?_) (fun h5 => ?_)
      · exact bad (fun q => by
          have := q.2.2
          unfold inB at this
          rw [Bool.and_eq_true, decide_eq_true_eq, decide_eq_true_eq] at this
          simp only [lt_i, le_i] at *
          omega) _
      · have hy : inB y (cn i) = true := by
          unfold inB
          rw [Bool.and_eq_true, decide_eq_true_eq, decide_eq_true_eq]
          simp only [lt_i, le_i, i0] at *
          omega
        obtain ⟨k, hk, rfl⟩ := inB_ex (by omega) hy
        refine g_iload_n rfl rfl ?_
        refine g_if_lt rfl (fun h => ?_) (fun h => ?_)
        · exact bad (fun q => by
            have := q.2.1
            unfold inB at this
            rw [Bool.and_eq_true, decide_eq_true_eq] at this
            simp only [lt_i, le_i] at *
            omega) _
        · refine g_iload_n rfl rfl ?_
          refine s_ic (v := nI 3) rfl rfl ?_
          refine g_icmp_le rfl (fun h3 => ?_) (fun h3 => ?_)
          · have hz : inB z 4 = true := by
              unfold inB
              have n3 : (nI 3).toInt = 3 := by decide
              have n4 : (nI 4).toInt = 4 := by decide
              rw [Bool.and_eq_true, decide_eq_true_eq, decide_eq_true_eq]
              simp only [lt_i, le_i, i0, n3, n4] at *
              omega
            obtain ⟨w, hw, rfl⟩ := inB_ex (by omega) hz
            rw [if_pos ⟨rfl, hz, hy⟩, nI_clamp (by omega), nI_clamp (by omega)]
            refine g_iload_n rfl rfl ?_
            refine g_if_ne rfl (fun h6 => ?_) (fun h6 => ?_)
            · rw [if_neg h6]
              have hw0 : 0 < w := by
                rcases Nat.eq_zero_or_pos w with q | q
                · rw [q] at h6
                  exact absurd rfl h6
                · exact q
              refine g_aload_n rfl rfl ?_
              refine g_get rfl rfl wd_M rfl ?_
              refine s_bp (v := nI 18) rfl rfl ?_
              refine g_iload_n rfl rfl ?_
              refine g_imul rfl ?_
              rw [pk_mul]
              refine s_ic (v := nI 3) rfl rfl ?_
              refine g_iload_n rfl rfl ?_
              refine g_imul rfl ?_
              rw [pk_mul]
              refine g_iadd rfl ?_
              rw [nI_add]
              refine g_iload_n rfl rfl ?_
              refine g_iadd rfl ?_
              rw [nI_add]
              refine s_ic (v := nI 1) rfl rfl ?_
              refine g_isub rfl ?_
              rw [pk_sub (by omega)]
              refine s_iald rfl a_77 rfl (by omega) ?_
              refine g_iret rfl rfl ?_
              exact ⟨rfl, rfl⟩
            · rw [if_pos h6]
              refine g_aload_n rfl rfl ?_
              refine g_get rfl rfl wd_M rfl ?_
              refine s_bp (v := nI 6) rfl rfl ?_
              refine g_iload_n rfl rfl ?_
              refine g_imul rfl ?_
              rw [pk_mul]
              refine g_iload_n rfl rfl ?_
              refine g_iadd rfl ?_
              rw [nI_add]
              refine s_iald rfl a_76 rfl (by omega) ?_
              refine g_goto rfl ?_
              refine g_iret rfl rfl ?_
              exact ⟨rfl, rfl⟩
          · exact bad (fun q => by
              have := q.2.1
              unfold inB at this
              have n3 : (nI 3).toInt = 3 := by decide
              have n4 : (nI 4).toInt = 4 := by decide
              rw [Bool.and_eq_true, decide_eq_true_eq, decide_eq_true_eq] at this
              simp only [lt_i, le_i, n3, n4] at *
              omega) _
