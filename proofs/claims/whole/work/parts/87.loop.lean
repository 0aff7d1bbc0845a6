/-! The law's loop. -/
theorem sc_ld {mi pc nx tg : Nat} {lo : am_L} {st : List Value} {xs : List Int32} {σ : wd_S} {P : Option Value → am_W → Prop} {j : Nat} {x y : Int32} (h : am_tb mi pc = some (.iaload, nx, tg)) (hy : y = nI j) (hj : j < 100000) (hx : xs[j]? = some x) (kk : am_G mi nx lo (.int x :: st) (wd xs σ) P) : am_G mi pc lo (.int y :: .ref 0 :: st) (wd xs σ) P := by
  subst hy
  exact g_iald h rfl (nI_pos (by omega)) (by rw [nI_clamp (by omega)]; exact hx) kk
theorem ln_lt {n m : Nat} (hn : n ≤ 5000) (hm : m ≤ 5000) : nI n - nI 4 < nI m ↔ n < m + 4 := by
  rcases Nat.lt_or_ge n 4 with h | h
  · have h2 : nI n - nI 4 < 0 := by
      have : n = 0 ∨ n = 1 ∨ n = 2 ∨ n = 3 := by omega
      rcases this with z | z | z | z <;> subst z <;> decide
    have h3 := nI_pos (n := m) (by omega)
    constructor
    · intro _
      omega
    · intro _
      rw [Int32.lt_iff_toInt_lt] at h2 h3 ⊢
      omega
  · rw [pk_sub h, nI_ltI (by omega) (by omega)]
    omega
theorem x15 (x : Int32) : ∃ c, c < 16 ∧ x &&& nI 15 = nI c := by
  refine ⟨(x &&& nI 15).toBitVec.toNat, ?_, ?_⟩
  · rw [Int32.toBitVec_and, BitVec.toNat_and]
    exact Nat.lt_of_le_of_lt Nat.and_le_right (by decide)
  · apply Int32.toBitVec_inj.mp
    show (x &&& nI 15).toBitVec = BitVec.ofNat 32 (x &&& nI 15).toBitVec.toNat
    simp
def lawH (S : wd_S → Prop) (xs : List Int32) : Prop := (∀ σ (x y z : Int32), S σ → cmpS S xs 1 59 [.int x, .int y, .int z] σ) ∧ (∀ σ (x y : Int32), S σ → cmpS S xs 2 60 [.int x, .int y] σ) ∧ (∀ σ , S σ → cmpS S xs 3 62 [] σ) ∧ (∀ σ (x y : Int32), S σ → cmpS S xs 4 69 [.int x, .int y] σ) ∧ (∀ σ (x : Int32), S σ → cmpS S xs 5 70 [.int x] σ) ∧ (∀ σ (x : Int32), S σ → cmpS S xs 6 71 [.int x] σ) ∧ (∀ σ (x : Int32), S σ → cmpS S xs 7 80 [.int x] σ) ∧ (∀ σ , S σ → cmpS S xs 8 81 [] σ) ∧ (∀ σ (x y : Int32), S σ → cmpS S xs 9 84 [.int x, .int y] σ) ∧ (∀ σ (x : Int32), S σ → cmpS S xs 10 90 [.int x] σ) ∧ (∀ σ (x : Int32), S σ → cmpS S xs 11 91 [.int x] σ) ∧ (∀ σ (x : Int32), S σ → cmpS S xs 12 92 [.int x] σ) ∧ (∀ σ (x y z : Int32), S σ → cmpS S xs 13 93 [.int x, .int y, .int z] σ) ∧ (∀ σ (x : Int32), S σ → cmpS S xs 14 94 [.int x] σ) ∧ (∀ σ , S σ → cmpS S xs 15 95 [] σ) ∧ (∀ σ (x : Int32), S σ → cmpS S xs 16 96 [.int x] σ)
set_option maxRecDepth 20000 in
theorem law_loop {S : wd_S → Prop} {xs : List Int32} (hL : xs.length ≤ 2048) (hH : lawH S xs) (hz : ∀ σ, (wd xs σ).length ≤ 1000 ∧ am_sz (wd xs σ) ≤ 100000) {σ : wd_S} (h0 : S σ) : am_G 104 18 [some (.ref 0), some (.ref 1), some (.ref 66), some (.int (nI 0))] [] (wd xs σ) (fun v w => v = some (.int 1) ∧ w.length ≤ 1000 ∧ am_sz w ≤ 100000) := by
  obtain ⟨H0, H1, H2, H3, H4, H5, H6, H7, H8, H9, H10, H11, H12, H13, H14, H15⟩ := hH
  refine am_for (xs.length / 4) (fun i lo σ => lo = [some (.ref 0), some (.ref 1), some (.ref 66), some (.int (nI (4 * i)))] ∧ S σ) ?_ ?_ 0 _ _ (Nat.zero_le _) ⟨rfl, h0⟩
  · rintro i _ σ hi ⟨rfl, hS⟩ kk
    have hi4 : 4 * i + 4 ≤ xs.length := by omega
    obtain ⟨x0, hx0⟩ : ∃ x, xs[4 * i + 0]? = some x := ⟨_, List.getElem?_eq_getElem (by omega)⟩
    obtain ⟨x1, hx1⟩ : ∃ x, xs[4 * i + 1]? = some x := ⟨_, List.getElem?_eq_getElem (by omega)⟩
    obtain ⟨x2, hx2⟩ : ∃ x, xs[4 * i + 2]? = some x := ⟨_, List.getElem?_eq_getElem (by omega)⟩
    obtain ⟨x3, hx3⟩ : ∃ x, xs[4 * i + 3]? = some x := ⟨_, List.getElem?_eq_getElem (by omega)⟩
    have nxt : ∀ σ2, S σ2 → am_G 104 520 [some (.ref 0), some (.ref 1), some (.ref 66), some (.int (nI (4 * i)))] [] (wd xs σ2) (fun v w => v = some (.int 1) ∧ w.length ≤ 1000 ∧ am_sz w ≤ 100000) := by
      intro σ2 hS2
      refine s_inc rfl rfl (v := nI (4 * (i + 1))) (show nI (4 * i) + nI 4 = nI (4 * (i + 1)) by rw [nI_add]; rfl) ?_
      refine g_goto rfl ?_
      exact kk _ _ ⟨rfl, hS2⟩
    refine g_iload_n rfl rfl ?_
    refine g_aload_n rfl rfl ?_
    refine g_alen (t := 0) (xs := xs) rfl rfl ?_
    refine s_ic (v := nI 4) rfl rfl ?_
    refine g_isub rfl ?_
    refine g_icmp_gt rfl (fun h => absurd ((ln_lt (by omega) (by omega)).mp h) (by omega)) (fun _ => ?_)
    refine g_aload_n rfl rfl ?_
    refine g_iload_n rfl rfl ?_
    refine sc_ld (j := 4 * i) rfl rfl (by omega) hx0 ?_
    refine s_bp (v := nI 15) rfl rfl ?_
    refine g_iand rfl ?_
    obtain ⟨c, hc16, hcx⟩ := x15 x0
    rw [hcx]
    match c, hc16 with
    | 0, _ =>
      refine g_tsw (t := 112) rfl (by decide) (by decide) rfl (by decide) ?_
      have hc := H0 σ x1 x2 x3 hS
      refine g_aload_n rfl rfl ?_
      refine g_aload_n rfl rfl ?_
      refine g_iload_n rfl rfl ?_
      refine s_ic (v := nI 1) rfl rfl ?_
      refine g_iadd rfl ?_
      refine sc_ld (j := 4 * i + 1) rfl (nI_add _ _) (by omega) hx1 ?_
      refine g_aload_n rfl rfl ?_
      refine g_iload_n rfl rfl ?_
      refine s_ic (v := nI 2) rfl rfl ?_
      refine g_iadd rfl ?_
      refine sc_ld (j := 4 * i + 2) rfl (nI_add _ _) (by omega) hx2 ?_
      refine g_aload_n rfl rfl ?_
      refine g_iload_n rfl rfl ?_
      refine s_ic (v := nI 3) rfl rfl ?_
      refine g_iadd rfl ?_
      refine sc_ld (j := 4 * i + 3) rfl (nI_add _ _) (by omega) hx3 ?_
      refine c_Vw rfl rfl rfl rfl wd_F rfl hc rfl rfl rfl ?_
      rintro _ _ ⟨R, σ1, rfl, rfl, hc2⟩
      refine g_aload_n rfl rfl ?_
      refine g_aload_n rfl rfl ?_
      refine g_iload_n rfl rfl ?_
      refine s_ic (v := nI 1) rfl rfl ?_
      refine g_iadd rfl ?_
      refine sc_ld (j := 4 * i + 1) rfl (nI_add _ _) (by omega) hx1 ?_
      refine g_aload_n rfl rfl ?_
      refine g_iload_n rfl rfl ?_
      refine s_ic (v := nI 2) rfl rfl ?_
      refine g_iadd rfl ?_
      refine sc_ld (j := 4 * i + 2) rfl (nI_add _ _) (by omega) hx2 ?_
      refine g_aload_n rfl rfl ?_
      refine g_iload_n rfl rfl ?_
      refine s_ic (v := nI 3) rfl rfl ?_
      refine g_iadd rfl ?_
      refine sc_ld (j := 4 * i + 3) rfl (nI_add _ _) (by omega) hx3 ?_
      refine c_Vw rfl rfl rfl rfl wd_M rfl hc2 rfl rfl rfl ?_
      rintro _ _ ⟨rfl, σ2, rfl, hS2⟩
      refine g_icmp_eq rfl (fun _ => ?_) (fun h => absurd rfl h)
      exact nxt σ2 hS2
    | 1, _ =>
      refine g_tsw (t := 155) rfl (by decide) (by decide) rfl (by decide) ?_
      have hc := H1 σ x1 x2 hS
      refine g_aload_n rfl rfl ?_
      refine g_aload_n rfl rfl ?_
      refine g_iload_n rfl rfl ?_
      refine s_ic (v := nI 1) rfl rfl ?_
      refine g_iadd rfl ?_
      refine sc_ld (j := 4 * i + 1) rfl (nI_add _ _) (by omega) hx1 ?_
      refine g_aload_n rfl rfl ?_
      refine g_iload_n rfl rfl ?_
      refine s_ic (v := nI 2) rfl rfl ?_
      refine g_iadd rfl ?_
      refine sc_ld (j := 4 * i + 2) rfl (nI_add _ _) (by omega) hx2 ?_
      refine c_Vw rfl rfl rfl rfl wd_F rfl hc rfl rfl rfl ?_
      rintro _ _ ⟨R, σ1, rfl, rfl, hc2⟩
      refine g_aload_n rfl rfl ?_
      refine g_aload_n rfl rfl ?_
      refine g_iload_n rfl rfl ?_
      refine s_ic (v := nI 1) rfl rfl ?_
      refine g_iadd rfl ?_
      refine sc_ld (j := 4 * i + 1) rfl (nI_add _ _) (by omega) hx1 ?_
      refine g_aload_n rfl rfl ?_
      refine g_iload_n rfl rfl ?_
      refine s_ic (v := nI 2) rfl rfl ?_
      refine g_iadd rfl ?_
      refine sc_ld (j := 4 * i + 2) rfl (nI_add _ _) (by omega) hx2 ?_
      refine c_Vw rfl rfl rfl rfl wd_M rfl hc2 rfl rfl rfl ?_
      rintro _ _ ⟨rfl, σ2, rfl, hS2⟩
      refine g_icmp_eq rfl (fun _ => ?_) (fun h => absurd rfl h)
      exact nxt σ2 hS2
    | 2, _ =>
      refine g_tsw (t := 188) rfl (by decide) (by decide) rfl (by decide) ?_
      have hc := H2 σ  hS
      refine g_aload_n rfl rfl ?_
      refine c_Vw rfl rfl rfl rfl wd_F rfl hc rfl rfl rfl ?_
      rintro _ _ ⟨R, σ1, rfl, rfl, hc2⟩
      refine g_aload_n rfl rfl ?_
      refine c_Vw rfl rfl rfl rfl wd_M rfl hc2 rfl rfl rfl ?_
      rintro _ _ ⟨rfl, σ2, rfl, hS2⟩
      refine g_icmp_eq rfl (fun _ => ?_) (fun h => absurd rfl h)
      exact nxt σ2 hS2
    | 3, _ =>
      refine g_tsw (t := 201) rfl (by decide) (by decide) rfl (by decide) ?_
      have hc := H3 σ x1 x2 hS
      refine g_aload_n rfl rfl ?_
      refine g_aload_n rfl rfl ?_
      refine g_iload_n rfl rfl ?_
      refine s_ic (v := nI 1) rfl rfl ?_
      refine g_iadd rfl ?_
      refine sc_ld (j := 4 * i + 1) rfl (nI_add _ _) (by omega) hx1 ?_
      refine g_aload_n rfl rfl ?_
      refine g_iload_n rfl rfl ?_
      refine s_ic (v := nI 2) rfl rfl ?_
      refine g_iadd rfl ?_
      refine sc_ld (j := 4 * i + 2) rfl (nI_add _ _) (by omega) hx2 ?_
      refine c_Vw rfl rfl rfl rfl wd_F rfl hc rfl rfl rfl ?_
      rintro _ _ ⟨R, σ1, rfl, rfl, hc2⟩
      refine g_aload_n rfl rfl ?_
      refine g_aload_n rfl rfl ?_
      refine g_iload_n rfl rfl ?_
      refine s_ic (v := nI 1) rfl rfl ?_
      refine g_iadd rfl ?_
      refine sc_ld (j := 4 * i + 1) rfl (nI_add _ _) (by omega) hx1 ?_
      refine g_aload_n rfl rfl ?_
      refine g_iload_n rfl rfl ?_
      refine s_ic (v := nI 2) rfl rfl ?_
      refine g_iadd rfl ?_
      refine sc_ld (j := 4 * i + 2) rfl (nI_add _ _) (by omega) hx2 ?_
      refine c_Vw rfl rfl rfl rfl wd_M rfl hc2 rfl rfl rfl ?_
      rintro _ _ ⟨rfl, σ2, rfl, hS2⟩
      refine g_icmp_eq rfl (fun _ => ?_) (fun h => absurd rfl h)
      exact nxt σ2 hS2
    | 4, _ =>
      refine g_tsw (t := 234) rfl (by decide) (by decide) rfl (by decide) ?_
      have hc := H4 σ x1 hS
      refine g_aload_n rfl rfl ?_
      refine g_aload_n rfl rfl ?_
      refine g_iload_n rfl rfl ?_
      refine s_ic (v := nI 1) rfl rfl ?_
      refine g_iadd rfl ?_
      refine sc_ld (j := 4 * i + 1) rfl (nI_add _ _) (by omega) hx1 ?_
      refine c_Vw rfl rfl rfl rfl wd_F rfl hc rfl rfl rfl ?_
      rintro _ _ ⟨R, σ1, rfl, rfl, hc2⟩
      refine g_aload_n rfl rfl ?_
      refine g_aload_n rfl rfl ?_
      refine g_iload_n rfl rfl ?_
      refine s_ic (v := nI 1) rfl rfl ?_
      refine g_iadd rfl ?_
      refine sc_ld (j := 4 * i + 1) rfl (nI_add _ _) (by omega) hx1 ?_
      refine c_Vw rfl rfl rfl rfl wd_M rfl hc2 rfl rfl rfl ?_
      rintro _ _ ⟨rfl, σ2, rfl, hS2⟩
      refine g_icmp_eq rfl (fun _ => ?_) (fun h => absurd rfl h)
      exact nxt σ2 hS2
    | 5, _ =>
      refine g_tsw (t := 257) rfl (by decide) (by decide) rfl (by decide) ?_
      have hc := H5 σ x1 hS
      refine g_aload_n rfl rfl ?_
      refine g_aload_n rfl rfl ?_
      refine g_iload_n rfl rfl ?_
      refine s_ic (v := nI 1) rfl rfl ?_
      refine g_iadd rfl ?_
      refine sc_ld (j := 4 * i + 1) rfl (nI_add _ _) (by omega) hx1 ?_
      refine c_Vw rfl rfl rfl rfl wd_F rfl hc rfl rfl rfl ?_
      rintro _ _ ⟨R, σ1, rfl, rfl, hc2⟩
      refine g_aload_n rfl rfl ?_
      refine g_aload_n rfl rfl ?_
      refine g_iload_n rfl rfl ?_
      refine s_ic (v := nI 1) rfl rfl ?_
      refine g_iadd rfl ?_
      refine sc_ld (j := 4 * i + 1) rfl (nI_add _ _) (by omega) hx1 ?_
      refine c_Vw rfl rfl rfl rfl wd_M rfl hc2 rfl rfl rfl ?_
      rintro _ _ ⟨rfl, σ2, rfl, hS2⟩
      refine g_icmp_eq rfl (fun _ => ?_) (fun h => absurd rfl h)
      exact nxt σ2 hS2
    | 6, _ =>
      refine g_tsw (t := 280) rfl (by decide) (by decide) rfl (by decide) ?_
      have hc := H6 σ x1 hS
      refine g_aload_n rfl rfl ?_
      refine g_aload_n rfl rfl ?_
      refine g_iload_n rfl rfl ?_
      refine s_ic (v := nI 1) rfl rfl ?_
      refine g_iadd rfl ?_
      refine sc_ld (j := 4 * i + 1) rfl (nI_add _ _) (by omega) hx1 ?_
      refine c_Vw rfl rfl rfl rfl wd_F rfl hc rfl rfl rfl ?_
      rintro _ _ ⟨R, σ1, rfl, rfl, hc2⟩
      refine g_aload_n rfl rfl ?_
      refine g_aload_n rfl rfl ?_
      refine g_iload_n rfl rfl ?_
      refine s_ic (v := nI 1) rfl rfl ?_
      refine g_iadd rfl ?_
      refine sc_ld (j := 4 * i + 1) rfl (nI_add _ _) (by omega) hx1 ?_
      refine c_Vw rfl rfl rfl rfl wd_M rfl hc2 rfl rfl rfl ?_
      rintro _ _ ⟨rfl, σ2, rfl, hS2⟩
      refine g_icmp_eq rfl (fun _ => ?_) (fun h => absurd rfl h)
      exact nxt σ2 hS2
    | 7, _ =>
      refine g_tsw (t := 303) rfl (by decide) (by decide) rfl (by decide) ?_
      have hc := H7 σ  hS
      refine g_aload_n rfl rfl ?_
      refine c_Vw rfl rfl rfl rfl wd_F rfl hc rfl rfl rfl ?_
      rintro _ _ ⟨R, σ1, rfl, rfl, hc2⟩
      refine g_aload_n rfl rfl ?_
      refine c_Vw rfl rfl rfl rfl wd_M rfl hc2 rfl rfl rfl ?_
      rintro _ _ ⟨rfl, σ2, rfl, hS2⟩
      refine g_icmp_eq rfl (fun _ => ?_) (fun h => absurd rfl h)
      exact nxt σ2 hS2
    | 8, _ =>
      refine g_tsw (t := 316) rfl (by decide) (by decide) rfl (by decide) ?_
      have hc := H8 σ x1 x2 hS
      refine g_aload_n rfl rfl ?_
      refine g_aload_n rfl rfl ?_
      refine g_iload_n rfl rfl ?_
      refine s_ic (v := nI 1) rfl rfl ?_
      refine g_iadd rfl ?_
      refine sc_ld (j := 4 * i + 1) rfl (nI_add _ _) (by omega) hx1 ?_
      refine g_aload_n rfl rfl ?_
      refine g_iload_n rfl rfl ?_
      refine s_ic (v := nI 2) rfl rfl ?_
      refine g_iadd rfl ?_
      refine sc_ld (j := 4 * i + 2) rfl (nI_add _ _) (by omega) hx2 ?_
      refine c_Vw rfl rfl rfl rfl wd_F rfl hc rfl rfl rfl ?_
      rintro _ _ ⟨R, σ1, rfl, rfl, hc2⟩
      refine g_aload_n rfl rfl ?_
      refine g_aload_n rfl rfl ?_
      refine g_iload_n rfl rfl ?_
      refine s_ic (v := nI 1) rfl rfl ?_
      refine g_iadd rfl ?_
      refine sc_ld (j := 4 * i + 1) rfl (nI_add _ _) (by omega) hx1 ?_
      refine g_aload_n rfl rfl ?_
      refine g_iload_n rfl rfl ?_
      refine s_ic (v := nI 2) rfl rfl ?_
      refine g_iadd rfl ?_
      refine sc_ld (j := 4 * i + 2) rfl (nI_add _ _) (by omega) hx2 ?_
      refine c_Vw rfl rfl rfl rfl wd_M rfl hc2 rfl rfl rfl ?_
      rintro _ _ ⟨rfl, σ2, rfl, hS2⟩
      refine g_icmp_eq rfl (fun _ => ?_) (fun h => absurd rfl h)
      exact nxt σ2 hS2
    | 9, _ =>
      refine g_tsw (t := 349) rfl (by decide) (by decide) rfl (by decide) ?_
      have hc := H9 σ x1 hS
      refine g_aload_n rfl rfl ?_
      refine g_aload_n rfl rfl ?_
      refine g_iload_n rfl rfl ?_
      refine s_ic (v := nI 1) rfl rfl ?_
      refine g_iadd rfl ?_
      refine sc_ld (j := 4 * i + 1) rfl (nI_add _ _) (by omega) hx1 ?_
      refine c_Vw rfl rfl rfl rfl wd_F rfl hc rfl rfl rfl ?_
      rintro _ _ ⟨R, σ1, rfl, rfl, hc2⟩
      refine g_aload_n rfl rfl ?_
      refine g_aload_n rfl rfl ?_
      refine g_iload_n rfl rfl ?_
      refine s_ic (v := nI 1) rfl rfl ?_
      refine g_iadd rfl ?_
      refine sc_ld (j := 4 * i + 1) rfl (nI_add _ _) (by omega) hx1 ?_
      refine c_Vw rfl rfl rfl rfl wd_M rfl hc2 rfl rfl rfl ?_
      rintro _ _ ⟨rfl, σ2, rfl, hS2⟩
      refine g_icmp_eq rfl (fun _ => ?_) (fun h => absurd rfl h)
      exact nxt σ2 hS2
    | 10, _ =>
      refine g_tsw (t := 372) rfl (by decide) (by decide) rfl (by decide) ?_
      have hc := H10 σ x1 hS
      refine g_aload_n rfl rfl ?_
      refine g_aload_n rfl rfl ?_
      refine g_iload_n rfl rfl ?_
      refine s_ic (v := nI 1) rfl rfl ?_
      refine g_iadd rfl ?_
      refine sc_ld (j := 4 * i + 1) rfl (nI_add _ _) (by omega) hx1 ?_
      refine c_Vw rfl rfl rfl rfl wd_F rfl hc rfl rfl rfl ?_
      rintro _ _ ⟨R, σ1, rfl, rfl, hc2⟩
      refine g_aload_n rfl rfl ?_
      refine g_aload_n rfl rfl ?_
      refine g_iload_n rfl rfl ?_
      refine s_ic (v := nI 1) rfl rfl ?_
      refine g_iadd rfl ?_
      refine sc_ld (j := 4 * i + 1) rfl (nI_add _ _) (by omega) hx1 ?_
      refine c_Vw rfl rfl rfl rfl wd_M rfl hc2 rfl rfl rfl ?_
      rintro _ _ ⟨rfl, σ2, rfl, hS2⟩
      refine g_icmp_eq rfl (fun _ => ?_) (fun h => absurd rfl h)
      exact nxt σ2 hS2
    | 11, _ =>
      refine g_tsw (t := 395) rfl (by decide) (by decide) rfl (by decide) ?_
      have hc := H11 σ x1 hS
      refine g_aload_n rfl rfl ?_
      refine g_aload_n rfl rfl ?_
      refine g_iload_n rfl rfl ?_
      refine s_ic (v := nI 1) rfl rfl ?_
      refine g_iadd rfl ?_
      refine sc_ld (j := 4 * i + 1) rfl (nI_add _ _) (by omega) hx1 ?_
      refine c_Vw rfl rfl rfl rfl wd_F rfl hc rfl rfl rfl ?_
      rintro _ _ ⟨R, σ1, rfl, rfl, hc2⟩
      refine g_aload_n rfl rfl ?_
      refine g_aload_n rfl rfl ?_
      refine g_iload_n rfl rfl ?_
      refine s_ic (v := nI 1) rfl rfl ?_
      refine g_iadd rfl ?_
      refine sc_ld (j := 4 * i + 1) rfl (nI_add _ _) (by omega) hx1 ?_
      refine c_Vw rfl rfl rfl rfl wd_M rfl hc2 rfl rfl rfl ?_
      rintro _ _ ⟨rfl, σ2, rfl, hS2⟩
      refine g_icmp_eq rfl (fun _ => ?_) (fun h => absurd rfl h)
      exact nxt σ2 hS2
    | 12, _ =>
      refine g_tsw (t := 418) rfl (by decide) (by decide) rfl (by decide) ?_
      have hc := H12 σ x1 x2 x3 hS
      refine g_aload_n rfl rfl ?_
      refine g_aload_n rfl rfl ?_
      refine g_iload_n rfl rfl ?_
      refine s_ic (v := nI 1) rfl rfl ?_
      refine g_iadd rfl ?_
      refine sc_ld (j := 4 * i + 1) rfl (nI_add _ _) (by omega) hx1 ?_
      refine g_aload_n rfl rfl ?_
      refine g_iload_n rfl rfl ?_
      refine s_ic (v := nI 2) rfl rfl ?_
      refine g_iadd rfl ?_
      refine sc_ld (j := 4 * i + 2) rfl (nI_add _ _) (by omega) hx2 ?_
      refine g_aload_n rfl rfl ?_
      refine g_iload_n rfl rfl ?_
      refine s_ic (v := nI 3) rfl rfl ?_
      refine g_iadd rfl ?_
      refine sc_ld (j := 4 * i + 3) rfl (nI_add _ _) (by omega) hx3 ?_
      refine c_Vw rfl rfl rfl rfl wd_F rfl hc rfl rfl rfl ?_
      rintro _ _ ⟨R, σ1, rfl, rfl, hc2⟩
      refine g_aload_n rfl rfl ?_
      refine g_aload_n rfl rfl ?_
      refine g_iload_n rfl rfl ?_
      refine s_ic (v := nI 1) rfl rfl ?_
      refine g_iadd rfl ?_
      refine sc_ld (j := 4 * i + 1) rfl (nI_add _ _) (by omega) hx1 ?_
      refine g_aload_n rfl rfl ?_
      refine g_iload_n rfl rfl ?_
      refine s_ic (v := nI 2) rfl rfl ?_
      refine g_iadd rfl ?_
      refine sc_ld (j := 4 * i + 2) rfl (nI_add _ _) (by omega) hx2 ?_
      refine g_aload_n rfl rfl ?_
      refine g_iload_n rfl rfl ?_
      refine s_ic (v := nI 3) rfl rfl ?_
      refine g_iadd rfl ?_
      refine sc_ld (j := 4 * i + 3) rfl (nI_add _ _) (by omega) hx3 ?_
      refine c_Vw rfl rfl rfl rfl wd_M rfl hc2 rfl rfl rfl ?_
      rintro _ _ ⟨rfl, σ2, rfl, hS2⟩
      refine g_icmp_eq rfl (fun _ => ?_) (fun h => absurd rfl h)
      exact nxt σ2 hS2
    | 13, _ =>
      refine g_tsw (t := 461) rfl (by decide) (by decide) rfl (by decide) ?_
      have hc := H13 σ x1 hS
      refine g_aload_n rfl rfl ?_
      refine g_aload_n rfl rfl ?_
      refine g_iload_n rfl rfl ?_
      refine s_ic (v := nI 1) rfl rfl ?_
      refine g_iadd rfl ?_
      refine sc_ld (j := 4 * i + 1) rfl (nI_add _ _) (by omega) hx1 ?_
      refine c_Vw rfl rfl rfl rfl wd_F rfl hc rfl rfl rfl ?_
      rintro _ _ ⟨R, σ1, rfl, rfl, hc2⟩
      refine g_aload_n rfl rfl ?_
      refine g_aload_n rfl rfl ?_
      refine g_iload_n rfl rfl ?_
      refine s_ic (v := nI 1) rfl rfl ?_
      refine g_iadd rfl ?_
      refine sc_ld (j := 4 * i + 1) rfl (nI_add _ _) (by omega) hx1 ?_
      refine c_Vw rfl rfl rfl rfl wd_M rfl hc2 rfl rfl rfl ?_
      rintro _ _ ⟨rfl, σ2, rfl, hS2⟩
      refine g_icmp_eq rfl (fun _ => ?_) (fun h => absurd rfl h)
      exact nxt σ2 hS2
    | 14, _ =>
      refine g_tsw (t := 484) rfl (by decide) (by decide) rfl (by decide) ?_
      have hc := H14 σ  hS
      refine g_aload_n rfl rfl ?_
      refine c_Vw rfl rfl rfl rfl wd_F rfl hc rfl rfl rfl ?_
      rintro _ _ ⟨R, σ1, rfl, rfl, hc2⟩
      refine g_aload_n rfl rfl ?_
      refine c_Vw rfl rfl rfl rfl wd_M rfl hc2 rfl rfl rfl ?_
      rintro _ _ ⟨rfl, σ2, rfl, hS2⟩
      refine g_icmp_eq rfl (fun _ => ?_) (fun h => absurd rfl h)
      exact nxt σ2 hS2
    | 15, _ =>
      refine g_tsw (t := 497) rfl (by decide) (by decide) rfl (by decide) ?_
      have hc := H15 σ x1 hS
      refine g_aload_n rfl rfl ?_
      refine g_aload_n rfl rfl ?_
      refine g_iload_n rfl rfl ?_
      refine s_ic (v := nI 1) rfl rfl ?_
      refine g_iadd rfl ?_
      refine sc_ld (j := 4 * i + 1) rfl (nI_add _ _) (by omega) hx1 ?_
      refine c_Vw rfl rfl rfl rfl wd_F rfl hc rfl rfl rfl ?_
      rintro _ _ ⟨R, σ1, rfl, rfl, hc2⟩
      refine g_aload_n rfl rfl ?_
      refine g_aload_n rfl rfl ?_
      refine g_iload_n rfl rfl ?_
      refine s_ic (v := nI 1) rfl rfl ?_
      refine g_iadd rfl ?_
      refine sc_ld (j := 4 * i + 1) rfl (nI_add _ _) (by omega) hx1 ?_
      refine c_Vw rfl rfl rfl rfl wd_M rfl hc2 rfl rfl rfl ?_
      rintro _ _ ⟨rfl, σ2, rfl, hS2⟩
      refine g_icmp_eq rfl (fun _ => ?_) (fun h => absurd rfl h)
      exact nxt σ2 hS2
    | c + 16, h => exact absurd h (by omega)
  · rintro _ σ ⟨rfl, hS⟩
    refine g_iload_n rfl rfl ?_
    refine g_aload_n rfl rfl ?_
    refine g_alen (t := 0) (xs := xs) rfl rfl ?_
    refine s_ic (v := nI 4) rfl rfl ?_
    refine g_isub rfl ?_
    refine g_icmp_gt rfl (fun _ => ?_) (fun h => absurd ((ln_lt (by omega) (by omega)).mpr (by omega)) h)
    refine s_ic (v := nI 1) rfl rfl ?_
    refine g_zret rfl rfl (Or.inr rfl) ?_
    exact ⟨rfl, hz σ⟩
