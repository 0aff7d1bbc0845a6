/-! The reference: what is ahead. -/
/-- the places as the reference holds them: 0 to 7 vertices, 8 on edges -/
def plE (E : rx_E × rx_E) (p : Nat) : Option (Nat × Nat) := if p < 8 then E.1 p else E.2 (p - 8)
/-- the three rows hold the places -/
def hdE (σ : wd_S) (E : Nat → Option (Nat × Nat)) : Prop := ∀ p, p < 20 → σ 81 p = bI (E p).isSome ∧ ∀ t, E p = some t → σ 82 p = nI t.1 ∧ σ 83 p = nI t.2
def loF (σ : wd_S) (p : Nat) (a b : Int32) : wd_S := u2 (u2 (u2 σ 81 p (nI 1)) 82 p a) 83 p b
theorem loF_c {σ : wd_S} {p d : Nat} {a b : Int32} (h : d ≠ 81 ∧ d ≠ 82 ∧ d ≠ 83) : loF σ p a b d = σ d := by
  unfold loF
  rw [u2_row h.2.2, u2_row h.2.1, u2_row h.1]
theorem hdE_lo {σ : wd_S} {E : Nat → Option (Nat × Nat)} {p : Nat} {t : Nat × Nat} (h : hdE σ E) : hdE (loF σ p (nI t.1) (nI t.2)) (fun q => if q = p then some t else E q) := by
  intro q hq
  obtain ⟨h1, h2⟩ := h q hq
  unfold loF
  by_cases hqp : q = p
  · subst hqp
    rw [u2_c (by omega), u2_c (by omega), u2_same, u2_c (by omega), u2_same, u2_same, if_pos rfl]
    exact ⟨rfl, fun s hs => by cases hs; exact ⟨rfl, rfl⟩⟩
  · rw [u2_c (by omega), u2_c (by omega), u2_k hqp, u2_c (by omega), u2_k hqp, u2_c (by omega), u2_k hqp, u2_c (by omega), u2_c (by omega), if_neg hqp]
    exact ⟨h1, h2⟩
/-- small counters -/
def smE (B : Nat) (E : Nat → Option (Nat × Nat)) : Prop := ∀ p t, E p = some t → t.1 ≤ B ∧ t.2 ≤ B
theorem m_lower {xs : List Int32} {σ : wd_S} {E : Nat → Option (Nat × Nat)} {p B : Nat} {t : Nat × Nat} (h : hdE σ E) (hp : p < 20) (hs : smE B E) (hB : B ≤ 100000) (h1 : t.1 ≤ B) (h2 : t.2 ≤ B) : ev xs 85 [.ref 66, .int (nI p), .int (nI t.1), .int (nI t.2)] σ (bI (!(rx_has (E p) t))) (if rx_has (E p) t = true then σ else loF σ p (nI t.1) (nI t.2)) := by
  obtain ⟨q1, q2⟩ := h p hp
  refine am_Ev.of (n := 4) rfl rfl rfl rfl ?_
  have go : rx_has (E p) t = false → ∀ lo, lo = [some (.ref 66), some (.int (nI p)), some (.int (nI t.1)), some (.int (nI t.2))] → am_G 85 41 lo [] (wd xs σ) (po xs (bI (!(rx_has (E p) t))) (if rx_has (E p) t = true then σ else loF σ p (nI t.1) (nI t.2))) := by
    rintro hz _ rfl
    rw [hz]
    refine g_aload_n rfl rfl ?_
    refine g_get rfl rfl wd_M rfl ?_
    refine g_iload_n rfl rfl ?_
    refine s_ic (v := nI 1) rfl rfl ?_
    refine s_zast rfl a_81 rfl (by omega) (by decide) ?_
    refine g_aload_n rfl rfl ?_
    refine g_get rfl rfl wd_M rfl ?_
    refine g_iload_n rfl rfl ?_
    refine g_iload_n rfl rfl ?_
    refine s_iast rfl a_82 rfl (by omega) ?_
    refine g_aload_n rfl rfl ?_
    refine g_get rfl rfl wd_M rfl ?_
    refine g_iload_n rfl rfl ?_
    refine g_iload_n rfl rfl ?_
    refine s_iast rfl a_83 rfl (by omega) ?_
    refine s_ic (v := nI 1) rfl rfl ?_
    refine g_zret rfl rfl (by decide) ?_
    exact ⟨rfl, rfl⟩
  have no : rx_has (E p) t = true → ∀ lo, am_G 85 39 lo [] (wd xs σ) (po xs (bI (!(rx_has (E p) t))) (if rx_has (E p) t = true then σ else loF σ p (nI t.1) (nI t.2))) := by
    intro hz lo
    rw [hz]
    refine s_ic (v := nI 0) rfl rfl ?_
    refine g_zret rfl rfl (by decide) ?_
    exact ⟨rfl, rfl⟩
  refine g_aload_n rfl rfl ?_
  refine g_get rfl rfl wd_M rfl ?_
  refine g_iload_n rfl rfl ?_
  refine s_zald rfl a_81 rfl (by omega) ?_
  rw [q1]
  cases he : E p with
  | none =>
    rw [he] at go
    refine g_if_eq rfl (fun _ => ?_) (fun h => absurd (rfl) h)
    exact go rfl _ rfl
  | some s =>
    rw [he] at go no
    obtain ⟨e1, e2⟩ := q2 s he
    obtain ⟨b1, b2⟩ := hs p s he
    have hh : ∀ b : Bool, (decide (s.1 < t.1) || (decide (s.1 = t.1) && decide (s.2 ≤ t.2))) = b → rx_has (some s) t = b := fun b hb => hb
    refine g_if_eq rfl (fun h => absurd h (by decide)) (fun _ => ?_)
    refine g_aload_n rfl rfl ?_
    refine g_get rfl rfl wd_M rfl ?_
    refine g_iload_n rfl rfl ?_
    refine s_iald rfl a_82 rfl (by omega) ?_
    rw [e1]
    refine g_iload_n rfl rfl ?_
    refine g_icmp_lt rfl (fun c1 => ?_) (fun c1 => ?_)
    · exact no (hh _ (by rw [decide_eq_true ((nI_ltI (by omega) (by omega)).mp c1)]; rfl)) _
    · have n1 : ¬ s.1 < t.1 := fun z => c1 ((nI_ltI (by omega) (by omega)).mpr z)
      refine g_aload_n rfl rfl ?_
      refine g_get rfl rfl wd_M rfl ?_
      refine g_iload_n rfl rfl ?_
      refine s_iald rfl a_82 rfl (by omega) ?_
      rw [e1]
      refine g_iload_n rfl rfl ?_
      refine g_icmp_ne rfl (fun c2 => ?_) (fun c2 => ?_)
      · have n2 : ¬ s.1 = t.1 := fun z => c2 (by rw [z])
        exact go (hh _ (by rw [decide_eq_false n1, decide_eq_false n2]; rfl)) _ rfl
      · have n2 : s.1 = t.1 := (nI_eq (by omega) (by omega)).mp c2
        refine g_aload_n rfl rfl ?_
        refine g_get rfl rfl wd_M rfl ?_
        refine g_iload_n rfl rfl ?_
        refine s_iald rfl a_83 rfl (by omega) ?_
        rw [e2]
        refine g_iload_n rfl rfl ?_
        refine g_icmp_gt rfl (fun c3 => ?_) (fun c3 => ?_)
        · have n3 : ¬ s.2 ≤ t.2 := by
            have := (nI_ltI (by omega) (by omega)).mp c3
            omega
          exact go (hh _ (by rw [decide_eq_false n1, decide_eq_false n3]; simp)) _ rfl
        · have n3 : s.2 ≤ t.2 := by
            rcases Nat.lt_or_ge t.2 s.2 with z | z
            · exact absurd ((nI_ltI (by omega) (by omega)).mpr z) c3
            · exact z
          exact no (hh _ (by rw [decide_eq_true n2, decide_eq_true n3]; simp)) _
/-- the vertices as the reference holds them -/
def mcO (σ : wd_S) (cd : Nat → Nat) : Prop := ∀ v, v < 8 → ∀ (τ : wd_S) (t : Nat × Nat), (∀ d, d ≠ 66 → τ d = σ d) → τ 66 22 = nI t.1 → τ 66 23 = nI t.2 → trF τ v 66 22 = nI (bf_b (cd v) t).1 ∧ trF τ v 66 23 = nI (bf_b (cd v) t).2
/-- what 'ahead' may change of the reference: its fields for a time, its places -/
def sc6 (σ τ : wd_S) : Prop := (∀ d, d ≠ 66 → d ≠ 81 → d ≠ 82 → d ≠ 83 → τ d = σ d) ∧ ∀ k, k ≠ 22 → k ≠ 23 → τ 66 k = σ 66 k
theorem sc6.refl (σ : wd_S) : sc6 σ σ := ⟨fun _ _ _ _ _ => rfl, fun _ _ _ => rfl⟩
theorem sc6.trans {σ τ ρ : wd_S} (h1 : sc6 σ τ) (h2 : sc6 τ ρ) : sc6 σ ρ := ⟨fun d a b c e => (h2.1 d a b c e).trans (h1.1 d a b c e), fun k a b => (h2.2 k a b).trans (h1.2 k a b)⟩
