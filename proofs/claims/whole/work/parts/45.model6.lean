/-! The reference: what is ahead. -/
/-- the places as the reference holds them: 0 to 7 vertices, 8 on edges -/
def plE (E : rx_E × rx_E) (p : Nat) : Option (Nat × Nat) := if p < 8 then E.1 p else E.2 (p - 8)
/-- the three rows hold the places -/
def hdE (σ : wd_S) (E : Nat → Option (Nat × Nat)) : Prop := ∀ p, p < 20 → σ 81 p = bI (E p).isSome ∧ ∀ t, E p = some t → σ 82 p = nI t.1 ∧ σ 83 p = nI t.2
def loF (σ : wd_S) (p : Nat) (a b : Int32) : wd_S := u2 (u2 (u2 σ 81 p (nI 1)) 82 p a) 83 p b
theorem loF_c {σ : wd_S} {p d : Nat} {a b : Int32} (h : d ≠ 81 ∧ d ≠ 82 ∧ d ≠ 83) : loF σ p a b d = σ d := by
  unfold loF
  rw [u2_row h.2.2, u2_row h.2.1, u2_row h.1]
theorem hdE_lo {σ : wd_S} {E : Nat → Option (Nat × Nat)} {p : Nat} {t : Nat × Nat} (h : hdE σ E) : hdE (loF σ p (nI t.1) (nI t.2)) (fun q => if q = p then some t else E q) := by
  intro q hq
  obtain ⟨h1, h2⟩ := h q hq
  unfold loF
  by_cases hqp : q = p
  · subst hqp
    rw [u2_c (by omega), u2_c (by omega), u2_same, u2_c (by omega), u2_same, u2_same]
    dsimp only
    rw [if_pos rfl]
    exact ⟨rfl, fun s hs => by cases hs; exact ⟨rfl, rfl⟩⟩
  · rw [u2_c (by omega), u2_c (by omega), u2_k hqp, u2_c (by omega), u2_k hqp, u2_c (by omega), u2_k hqp, u2_c (by omega), u2_c (by omega)]
    dsimp only
    rw [if_neg hqp]
    exact ⟨h1, h2⟩
/-- small counters -/
def smE (B : Nat) (E : Nat → Option (Nat × Nat)) : Prop := ∀ p t, E p = some t → t.1 ≤ B ∧ t.2 ≤ B
theorem m_lower {xs : List Int32} {σ : wd_S} {E : Nat → Option (Nat × Nat)} {p B : Nat} {t : Nat × Nat} (h : hdE σ E) (hp : p < 20) (hs : smE B E) (hB : B ≤ 100000) (h1 : t.1 ≤ B) (h2 : t.2 ≤ B) : ev xs 85 [.ref 66, .int (nI p), .int (nI t.1), .int (nI t.2)] σ (bI (!(rx_has (E p) t))) (if rx_has (E p) t = true then σ else loF σ p (nI t.1) (nI t.2)) := by
  obtain ⟨q1, q2⟩ := h p hp
  refine am_Ev.of (n := 4) rfl rfl rfl rfl ?_
  have go : rx_has (E p) t = false → ∀ lo, lo = [some (.ref 66), some (.int (nI p)), some (.int (nI t.1)), some (.int (nI t.2))] → am_G 85 41 lo [] (wd xs σ) (po xs (bI (!(rx_has (E p) t))) (if rx_has (E p) t = true then σ else loF σ p (nI t.1) (nI t.2))) := by
    rintro hz _ rfl
    rw [hz]
    refine g_aload_n rfl rfl ?_
    refine g_get rfl rfl wd_M rfl ?_
    refine g_iload_n rfl rfl ?_
    refine s_ic (v := nI 1) rfl rfl ?_
    refine s_zast rfl a_81 rfl (by omega) (by decide) ?_
    refine g_aload_n rfl rfl ?_
    refine g_get rfl rfl wd_M rfl ?_
    refine g_iload_n rfl rfl ?_
    refine g_iload_n rfl rfl ?_
    refine s_iast rfl a_82 rfl (by omega) ?_
    refine g_aload_n rfl rfl ?_
    refine g_get rfl rfl wd_M rfl ?_
    refine g_iload_n rfl rfl ?_
    refine g_iload_n rfl rfl ?_
    refine s_iast rfl a_83 rfl (by omega) ?_
    refine s_ic (v := nI 1) rfl rfl ?_
    refine g_zret rfl rfl (by decide) ?_
    exact ⟨rfl, rfl⟩
  have no : rx_has (E p) t = true → ∀ lo, am_G 85 39 lo [] (wd xs σ) (po xs (bI (!(rx_has (E p) t))) (if rx_has (E p) t = true then σ else loF σ p (nI t.1) (nI t.2))) := by
    intro hz lo
    rw [hz]
    refine s_ic (v := nI 0) rfl rfl ?_
    refine g_zret rfl rfl (by decide) ?_
    exact ⟨rfl, rfl⟩
  refine g_aload_n rfl rfl ?_
  refine g_get rfl rfl wd_M rfl ?_
  refine g_iload_n rfl rfl ?_
  refine s_zald rfl a_81 rfl (by omega) ?_
  rw [q1]
  cases he : E p with
  | none =>
    rw [he] at go
    refine g_if_eq rfl (fun _ => ?_) (fun h => absurd (rfl) h)
    exact go rfl _ rfl
  | some s =>
    rw [he] at go no
    obtain ⟨e1, e2⟩ := q2 s he
    obtain ⟨b1, b2⟩ := hs p s he
    have hh : ∀ b : Bool, (decide (s.1 < t.1) || (decide (s.1 = t.1) && decide (s.2 ≤ t.2))) = b → rx_has (some s) t = b := fun b hb => hb
    refine g_if_eq rfl (fun h => absurd h ((show ¬ bI true = 0 by decide))) (fun _ => ?_)
    refine g_aload_n rfl rfl ?_
    refine g_get rfl rfl wd_M rfl ?_
    refine g_iload_n rfl rfl ?_
    refine s_iald rfl a_82 rfl (by omega) ?_
    rw [e1]
    refine g_iload_n rfl rfl ?_
    refine g_icmp_lt rfl (fun c1 => ?_) (fun c1 => ?_)
    · exact no (hh _ (by rw [decide_eq_true ((nI_ltI (by omega) (by omega)).mp c1)]; rfl)) _
    · have n1 : ¬ s.1 < t.1 := fun z => c1 ((nI_ltI (by omega) (by omega)).mpr z)
      refine g_aload_n rfl rfl ?_
      refine g_get rfl rfl wd_M rfl ?_
      refine g_iload_n rfl rfl ?_
      refine s_iald rfl a_82 rfl (by omega) ?_
      rw [e1]
      refine g_iload_n rfl rfl ?_
      refine g_icmp_ne rfl (fun c2 => ?_) (fun c2 => ?_)
      · have n2 : ¬ s.1 = t.1 := fun z => c2 (by rw [z])
        exact go (hh _ (by rw [decide_eq_false n1, decide_eq_false n2]; rfl)) _ rfl
      · have n2 : s.1 = t.1 := (nI_eq (by omega) (by omega)).mp c2
        refine g_aload_n rfl rfl ?_
        refine g_get rfl rfl wd_M rfl ?_
        refine g_iload_n rfl rfl ?_
        refine s_iald rfl a_83 rfl (by omega) ?_
        rw [e2]
        refine g_iload_n rfl rfl ?_
        refine g_icmp_gt rfl (fun c3 => ?_) (fun c3 => ?_)
        · have n3 : ¬ s.2 ≤ t.2 := by
            have := (nI_ltI (by omega) (by omega)).mp c3
            omega
          exact go (hh _ (by rw [decide_eq_false n1, decide_eq_false n3]; simp)) _ rfl
        · have n3 : s.2 ≤ t.2 := by
            rcases Nat.lt_or_ge t.2 s.2 with z | z
            · exact absurd ((nI_ltI (by omega) (by omega)).mpr z) c3
            · exact z
          exact no (hh _ (by rw [decide_eq_true n2, decide_eq_true n3]; simp)) _
/-- the vertices as the reference holds them -/
def mcO (σ : wd_S) (cd : Nat → Nat) : Prop := ∀ v, v < 8 → ∀ (τ : wd_S) (t : Nat × Nat), (∀ d, d ≠ 66 → τ d = σ d) → τ 66 22 = nI t.1 → τ 66 23 = nI t.2 → trF τ v 66 22 = nI (bf_b (cd v) t).1 ∧ trF τ v 66 23 = nI (bf_b (cd v) t).2
/-- what 'ahead' may change of the reference: its fields for a time, its places -/
def sc6 (σ τ : wd_S) : Prop := (∀ d, d ≠ 66 → d ≠ 81 → d ≠ 82 → d ≠ 83 → τ d = σ d) ∧ ∀ k, k ≠ 22 → k ≠ 23 → τ 66 k = σ 66 k
theorem sc6.refl (σ : wd_S) : sc6 σ σ := ⟨fun _ _ _ _ _ => rfl, fun _ _ _ => rfl⟩
theorem sc6.trans {σ τ ρ : wd_S} (h1 : sc6 σ τ) (h2 : sc6 τ ρ) : sc6 σ ρ := ⟨fun d a b c e => (h2.1 d a b c e).trans (h1.1 d a b c e), fun k a b => (h2.2 k a b).trans (h1.2 k a b)⟩
theorem hdE.congr {σ : wd_S} {E E' : Nat → Option (Nat × Nat)} (h : hdE σ E) (he : ∀ p, p < 20 → E p = E' p) : hdE σ E' := fun p hp => by
  rw [← he p hp]
  exact h p hp
theorem hdE.of {σ τ : wd_S} {E : Nat → Option (Nat × Nat)} (h : hdE σ E) (h1 : τ 81 = σ 81) (h2 : τ 82 = σ 82) (h3 : τ 83 = σ 83) : hdE τ E := fun p hp => by
  rw [h1, h2, h3]
  exact h p hp
/-- the reference's graph -/
def mgO (σ : wd_S) (ne : Nat) (fr to cd : Nat → Nat) : Prop := σ 66 8 = nI ne ∧ ne ≤ 12 ∧ (∀ e, e < ne → σ 73 e = nI (fr e) ∧ σ 74 e = nI (to e) ∧ fr e < 8 ∧ to e < 8) ∧ mcO σ cd
theorem mgO.of {σ τ : wd_S} {ne : Nat} {fr to cd : Nat → Nat} (h : mgO σ ne fr to cd) (hs : sc6 σ τ) : mgO τ ne fr to cd := by
  obtain ⟨h1, h2, h3, h4⟩ := h
  refine ⟨by rw [hs.2 8 (by omega) (by omega)]; exact h1, h2, fun e he => by rw [hs.1 73 (by omega) (by omega) (by omega) (by omega), hs.1 74 (by omega) (by omega) (by omega) (by omega)]; exact h3 e he, fun v hv ρ t hρ a b => ?_⟩
  have hx : ∀ x y : wd_S, (x 67 = y 67) → x 68 = y 68 → x 66 = y 66 → trF x v 66 = trF y v 66 := fun x y e1 e2 e3 => by
    unfold trF
    rw [e1, e2]
    split
    · show u2 x 66 22 (nI 0) 66 = u2 y 66 22 (nI 0) 66
      unfold u2
      rw [if_pos rfl, if_pos rfl, e3]
    · split
      · show u2 x 66 23 (nI 0) 66 = u2 y 66 23 (nI 0) 66
        unfold u2
        rw [if_pos rfl, if_pos rfl, e3]
      · split
        · show u2 x 66 22 (x 66 22 + nI 1) 66 = u2 y 66 22 (y 66 22 + nI 1) 66
          unfold u2
          rw [if_pos rfl, if_pos rfl, e3]
        · split
          · show u2 x 66 23 (x 66 23 + nI 1) 66 = u2 y 66 23 (y 66 23 + nI 1) 66
            unfold u2
            rw [if_pos rfl, if_pos rfl, e3]
          · exact e3
  have h5 := h4 v hv (rws σ 66 (ρ 66)) t (fun d hd => rws_c hd) (by rw [rws_same]; exact a) (by rw [rws_same]; exact b)
  rw [hx ρ (rws σ 66 (ρ 66)) (by rw [hρ _ (by omega), rws_c (by omega), hs.1 67 (by omega) (by omega) (by omega) (by omega)]) (by rw [hρ _ (by omega), rws_c (by omega), hs.1 68 (by omega) (by omega) (by omega) (by omega)]) (by rw [rws_same])]
  exact h5
theorem plE_ok {ne u B : Nat} {t0 : Nat × Nat} {fr to cd : Nat → Nat} {S : rx_E × rx_E} (h : mx_ok ne u t0 fr to cd B S) : smE B (plE S) := by
  intro p t hp
  unfold plE at hp
  split at hp
  · obtain ⟨-, a, b⟩ := h.1 _ _ hp
    exact ⟨a, b⟩
  · obtain ⟨-, a, b⟩ := h.2 _ _ hp
    exact ⟨a, b⟩
theorem sc6_lo {σ : wd_S} {p : Nat} {a b : Int32} : sc6 σ (loF σ p a b) := ⟨fun d h1 h2 h3 h4 => loF_c ⟨h2, h3, h4⟩, fun k _ _ => by rw [loF_c (by omega)]⟩
theorem m_leave {xs : List Int32} {σ : wd_S} {ne u B e : Nat} {t0 : Nat × Nat} {fr to cd : Nat → Nat} {S : rx_E × rx_E} (hg : mgO σ ne fr to cd) (hS : mx_ok ne u t0 fr to cd B S) (hB : B ≤ 1000) (h : hdE σ (plE S)) (he : e < ne) :
    am_Ev 86 [.ref 66, .int (nI e)] (wd xs σ) (fun v w => v = some (.int (bI (mx_cl S e (fr e) (cd (fr e))))) ∧ ∃ τ, w = wd xs τ ∧ sc6 σ τ ∧ hdE τ (plE (S.1, mx_lv S e (fr e) (cd (fr e))))) := by
  obtain ⟨g1, g2, g3, g4⟩ := id hg
  obtain ⟨f1, f2, f3, f4⟩ := g3 e he
  refine am_Ev.of (n := 3) rfl rfl rfl rfl ?_
  refine g_aload_n rfl rfl ?_
  refine g_get rfl rfl wd_M rfl ?_
  refine g_iload_n rfl rfl ?_
  refine s_iald rfl a_73 rfl (by omega) ?_
  rw [f1]
  refine g_istore_n rfl (Nat.le_of_ble_eq_true rfl) ?_
  refine g_aload_n rfl rfl ?_
  refine g_aload_n rfl rfl ?_
  refine g_get rfl rfl wd_M rfl ?_
  refine g_iload_n rfl rfl ?_
  refine s_iald rfl a_82 rfl (by omega) ?_
  refine s_putM rfl rfl (by decide) ?_
  refine g_aload_n rfl rfl ?_
  refine g_aload_n rfl rfl ?_
  refine g_get rfl rfl wd_M rfl ?_
  refine g_iload_n rfl rfl ?_
  refine s_iald rfl a_83 rfl (by omega) ?_
  rw [u2_c (by omega)]
  refine s_putM rfl rfl (by decide) ?_
  refine g_aload_n rfl rfl ?_
  refine g_iload_n rfl rfl ?_
  refine c_Vv rfl rfl rfl rfl wd_M rfl (m_turn f3) rfl rfl rfl ?_
  obtain ⟨p1, p2⟩ := h (fr e) (by omega)
  have hpl : plE S (fr e) = S.1 (fr e) := by
    unfold plE
    rw [if_pos f3]
  rw [hpl] at p1 p2
  have hsc : sc6 σ (trF (u2 (u2 σ 66 22 (σ 82 (fr e))) 66 23 (σ 83 (fr e))) (fr e)) := by
    refine ⟨fun d h1 _ _ _ => by rw [trF_c h1, u2_row h1, u2_row h1], fun k h1 h2 => by rw [trF_k ⟨h1, h2⟩, u2_k h2, u2_k h1]⟩
  have hk : ∀ d, d ≠ 66 → trF (u2 (u2 σ 66 22 (σ 82 (fr e))) 66 23 (σ 83 (fr e))) (fr e) d = σ d := fun d h1 => by rw [trF_c h1, u2_row h1, u2_row h1]
  have hh : hdE (trF (u2 (u2 σ 66 22 (σ 82 (fr e))) 66 23 (σ 83 (fr e))) (fr e)) (plE S) := h.of (hk 81 (by omega)) (hk 82 (by omega)) (hk 83 (by omega))
  have hf := g4 (fr e) f3 (u2 (u2 σ 66 22 (σ 82 (fr e))) 66 23 (σ 83 (fr e)))
  generalize trF (u2 (u2 σ 66 22 (σ 82 (fr e))) 66 23 (σ 83 (fr e))) (fr e) = τ at hsc hk hh hf ⊢
  refine g_aload_n rfl rfl ?_
  refine g_get rfl rfl wd_M rfl ?_
  refine g_iload_n rfl rfl ?_
  refine s_zald rfl a_81 rfl (by omega) ?_
  rw [hk 81 (by omega), p1]
  cases hs : S.1 (fr e) with
  | none =>
    refine g_if_eq rfl (fun _ => ?_) (fun h => absurd (rfl) h)
    refine s_ic (v := nI 0) rfl rfl ?_
    refine g_zret rfl rfl (by decide) ?_
    have hcl : mx_cl S e (fr e) (cd (fr e)) = false := by
      unfold mx_cl
      rw [hs]
    rw [hcl, mx_lv_none hs]
    exact ⟨rfl, τ, rfl, hsc, hh⟩
  | some t =>
    obtain ⟨q1, q2⟩ := p2 t hs
    obtain ⟨r1, r2⟩ := hf t (fun d hd => by rw [u2_row hd, u2_row hd]) (by rw [u2_k (by omega), u2_same]; exact q1) (by rw [u2_same]; exact q2)
    obtain ⟨-, b1, b2⟩ := hS.1 _ _ hs
    have hbn := bf_b_bnd (c := cd (fr e)) b1 b2
    refine g_if_eq rfl (fun h => absurd h ((show ¬ bI true = 0 by decide))) (fun _ => ?_)
    refine g_aload_n rfl rfl ?_
    refine s_bp (v := nI 8) rfl rfl ?_
    refine g_iload_n rfl rfl ?_
    refine g_iadd rfl ?_
    rw [nI_add]
    refine g_aload_n rfl rfl ?_
    refine g_get rfl rfl wd_M rfl ?_
    rw [r1]
    refine g_aload_n rfl rfl ?_
    refine g_get rfl rfl wd_M rfl ?_
    rw [r2]
    refine c_V rfl rfl rfl rfl wd_M rfl (m_lower (B := B + 1) hh (show 8 + e < 20 by omega) (fun p t hp => by
      obtain ⟨x1, x2⟩ := plE_ok hS p t hp
      exact ⟨by omega, by omega⟩) (by omega) hbn.1 hbn.2) rfl rfl rfl ?_
    have hpe : plE S (8 + e) = S.2 e := by
      unfold plE
      rw [if_neg (by omega), Nat.add_sub_cancel_left]
    rw [hpe]
    have hcl : mx_cl S e (fr e) (cd (fr e)) = !(rx_has (S.2 e) (bf_b (cd (fr e)) t)) := by
      unfold mx_cl
      rw [hs]
    cases hx : rx_has (S.2 e) (bf_b (cd (fr e)) t) with
    | true =>
      refine g_if_eq rfl (fun _ => ?_) (fun h => absurd (rfl) h)
      refine s_ic (v := nI 0) rfl rfl ?_
      refine g_zret rfl rfl (by decide) ?_
      rw [hcl, hx, mx_lv_some hs, rx_put_has hx]
      exact ⟨rfl, τ, rfl, hsc, hh⟩
    | false =>
      refine g_if_eq rfl (fun h => absurd h (by decide)) (fun _ => ?_)
      refine s_ic (v := nI 1) rfl rfl ?_
      refine g_goto rfl ?_
      refine g_zret rfl rfl (by decide) ?_
      rw [hcl, hx, mx_lv_some hs]
      refine ⟨rfl, _, rfl, hsc.trans sc6_lo, (hdE_lo hh).congr fun p hp => ?_⟩
      try dsimp only
      unfold plE
      dsimp only
      by_cases hpe2 : p = 8 + e
      · rw [if_pos hpe2, if_neg (by omega), rx_put_new (by rw [hx]; decide), if_pos (by omega)]
      · rw [if_neg hpe2]
        by_cases hp8 : p < 8
        · rw [if_pos hp8, if_pos hp8]
        · rw [if_neg hp8, if_neg hp8, rx_put_new (by rw [hx]; decide), if_neg (by omega)]
/-- the reference has request r for g at this time -/
def mrO (σ : wd_S) (r g eg : Nat) (tg : Nat × Nat) : Prop := σ 78 r = nI g ∧ σ 79 (3 * r) = nI eg ∧ σ 79 (3 * r + 1) = nI tg.1 ∧ σ 79 (3 * r + 2) = nI tg.2
theorem mrO.of {σ τ : wd_S} {r g eg : Nat} {tg : Nat × Nat} (h : mrO σ r g eg tg) (hs : sc6 σ τ) : mrO τ r g eg tg := by
  unfold mrO
  rw [hs.1 78 (by omega) (by omega) (by omega) (by omega), hs.1 79 (by omega) (by omega) (by omega) (by omega)]
  exact h
theorem m_isAhead {xs : List Int32} {σ : wd_S} {ne u g ep eg r p0 : Nat} {t0 tg : Nat × Nat} {fr to cd di do_ : Nat → Nat} {S0 : rx_E × rx_E} (G : bf_gr ne u t0 fr to cd di do_) (hg : mgO σ ne fr to cd) (h0 : tmOK ep t0) (h1 : tmOK eg tg) (hg8 : g < 8) (hr : r < 32) (hro : mrO σ r g eg tg) (hp0 : p0 < 20) (hS0 : ∀ p, p < 20 → plE S0 p = if p = p0 then some t0 else none) (hok : mx_ok ne u t0 fr to cd 15 S0) (hbeg : mx_beg ne u t0 to S0) :
    am_Ev 87 [.ref 66, .int (nI p0), .int (nI ep), .int (nI t0.1), .int (nI t0.2), .int (nI r)] (wd xs σ) (fun v w => v = some (.int (bI (pB (ep ≤ eg ∧ AH ne fr to cd u t0 g tg)))) ∧ ∃ τ, w = wd xs τ ∧ sc6 σ τ) := by
  obtain ⟨g1, g2, g3, g4⟩ := id hg
  obtain ⟨a1, a2, a3⟩ := id h0
  obtain ⟨b1, b2, b3⟩ := id h1
  refine am_Ev.of (n := 10) rfl rfl rfl rfl ?_
  refine s_ic (v := nI 0) rfl rfl ?_
  refine g_istore rfl (Nat.le_of_ble_eq_true rfl) ?_
  refine am_for 20 (fun i lo τ => (∃ z7 z8 z9, lo = [some (.ref 66), some (.int (nI p0)), some (.int (nI ep)), some (.int (nI t0.1)), some (.int (nI t0.2)), some (.int (nI r)), some (.int (nI i)), z7, z8, z9]) ∧ sc6 σ τ ∧ ∀ p, p < i → τ 81 p = nI 0) ?_ ?_ 0 _ _ (Nat.zero_le _) ⟨⟨_, _, _, rfl⟩, sc6.refl σ, fun p h => absurd h (Nat.not_lt_zero p)⟩
  · rintro i _ τ hi ⟨⟨z7, z8, z9, rfl⟩, hs, hz⟩ kk
    refine g_iload rfl rfl ?_
    refine s_bp (v := nI 20) rfl rfl ?_
    refine g_icmp_ge rfl (fun h => absurd h (nI_ge hi (by omega))) (fun _ => ?_)
    refine g_aload_n rfl rfl ?_
    refine g_get rfl rfl wd_M rfl ?_
    refine g_iload rfl rfl ?_
    refine s_ic (v := nI 0) rfl rfl ?_
    refine s_zast rfl a_81 rfl (by omega) (by decide) ?_
    refine g_aload_n rfl rfl ?_
    refine g_get rfl rfl wd_M rfl ?_
    refine g_iload rfl rfl ?_
    refine s_ic (v := nI 0) rfl rfl ?_
    refine s_iast rfl a_82 rfl (by omega) ?_
    refine g_aload_n rfl rfl ?_
    refine g_get rfl rfl wd_M rfl ?_
    refine g_iload rfl rfl ?_
    refine s_ic (v := nI 0) rfl rfl ?_
    refine s_iast rfl a_83 rfl (by omega) ?_
    refine s_inc rfl rfl (nI_1 _) ?_
    refine g_goto rfl ?_
    refine kk _ _ ⟨⟨_, _, _, rfl⟩, hs.trans ⟨fun d h1 h2 h3 h4 => by rw [u2_row h4, u2_row h3, u2_row h2], fun k _ _ => by rw [u2_c (by omega), u2_c (by omega), u2_c (by omega)]⟩, fun p hp => ?_⟩
    rw [u2_c (by omega), u2_c (by omega)]
    by_cases hpi : p = i
    · rw [hpi, u2_same]
    · rw [u2_k hpi]
      exact hz p (by omega)
  · rintro _ τ ⟨⟨z7, z8, z9, rfl⟩, hs, hz⟩
    refine g_iload rfl rfl ?_
    refine s_bp (v := nI 20) rfl rfl ?_
    refine g_icmp_ge rfl (fun _ => ?_) (fun h => absurd (nI_le (Nat.le_refl _) (by omega)) h)
    refine g_aload_n rfl rfl ?_
    refine g_iload_n rfl rfl ?_
    refine g_iload_n rfl rfl ?_
    refine g_iload rfl rfl ?_
    have hd0 : hdE τ (fun _ => none) := fun p hp => ⟨hz p hp, fun t ht => by cases ht⟩
    refine c_V rfl rfl rfl rfl wd_M rfl (m_lower (B := 15) hd0 hp0 (fun p t hp => by cases hp) (by omega) a2 a3) rfl rfl rfl ?_
    rw [if_neg (show ¬ rx_has none t0 = true from fun z => by cases z)]
    have hs1 : sc6 σ (loF τ p0 (nI t0.1) (nI t0.2)) := hs.trans sc6_lo
    have hd1 : hdE (loF τ p0 (nI t0.1) (nI t0.2)) (plE S0) := (hdE_lo hd0).congr fun p hp => by rw [hS0 p hp]
    generalize loF τ p0 (nI t0.1) (nI t0.2) = τ1 at hs1 hd1 ⊢
    refine g_pop rfl rfl ?_
    refine s_ic (v := nI 1) rfl rfl ?_
    refine g_istore rfl (Nat.le_of_ble_eq_true rfl) ?_
    have hn : ∀ k, k ≤ 26 → mx_ok ne u t0 fr to cd (15 + k * 12) (mx_n fr to cd ne S0 k) := by
      intro k hk
      have h2 := mx_n_ok hok k
      have : k * ne ≤ k * 12 := Nat.mul_le_mul_left k g2
      refine ⟨fun v t hv => ?_, fun e t he => ?_⟩
      · obtain ⟨q1, q2, q3⟩ := h2.1 v t hv
        exact ⟨q1, by omega, by omega⟩
      · obtain ⟨q1, q2, q3⟩ := h2.2 e t he
        exact ⟨q1, by omega, by omega⟩
    have hbegn : ∀ k, mx_beg ne u t0 to (mx_n fr to cd ne S0 k) := by
      intro k
      induction k with
      | zero => exact hbeg
      | succ k ih => exact Or.inl (mx_beg_r ih)
    -- the end
    have fin : ∀ (k : Nat) (lo : am_L) (τ : wd_S), k ≤ 26 → rx_least ne u t0 fr to cd (mx_n fr to cd ne S0 k).1 → sc6 σ τ → hdE τ (plE (mx_n fr to cd ne S0 k)) → (∃ z6 z7 z8 z9, lo = [some (.ref 66), some (.int (nI p0)), some (.int (nI ep)), some (.int (nI t0.1)), some (.int (nI t0.2)), some (.int (nI r)), z6, z7, z8, z9]) → am_G 87 165 lo [] (wd xs τ) (fun v w => v = some (.int (bI (pB (ep ≤ eg ∧ AH ne fr to cd u t0 g tg)))) ∧ ∃ τ, w = wd xs τ ∧ sc6 σ τ) := by
      rintro k _ τ hk hl hs hd ⟨z6, z7, z8, z9, rfl⟩
      obtain ⟨w1, w2, w3, w4⟩ := hro.of hs
      obtain ⟨d1, d2⟩ := hd g (by omega)
      have hpg : plE (mx_n fr to cd ne S0 k) g = (mx_n fr to cd ne S0 k).1 g := by
        unfold plE
        rw [if_pos hg8]
      rw [hpg] at d1 d2
      have hAH := AH_E (g := g) (tg := tg) hl
      have done1 : ∀ (b : Bool) (z : Option Value) lo, pB (ep ≤ eg ∧ AH ne fr to cd u t0 g tg) = b → am_G 87 277 lo [.int (bI b)] (wd xs τ) (fun v w => v = some (.int (bI (pB (ep ≤ eg ∧ AH ne fr to cd u t0 g tg)))) ∧ ∃ τ, w = wd xs τ ∧ sc6 σ τ) := by
        rintro b z lo rfl
        refine g_zret rfl rfl (bI_or _) ?_
        exact ⟨rfl, τ, rfl, hs⟩
      have tail : ∀ (b : Bool) (lo : am_L), (∀ s, (mx_n fr to cd ne S0 k).1 g = some s → rx_has (some s) tg = b) → lo = [some (.ref 66), some (.int (nI p0)), some (.int (nI ep)), some (.int (nI t0.1)), some (.int (nI t0.2)), some (.int (nI r)), z6, some (.int (nI g)), some (.int (bI b)), z9] → am_G 87 244 lo [] (wd xs τ) (fun v w => v = some (.int (bI (pB (ep ≤ eg ∧ AH ne fr to cd u t0 g tg)))) ∧ ∃ τ, w = wd xs τ ∧ sc6 σ τ) := by
        rintro b _ hb rfl
        refine g_aload_n rfl rfl ?_
        refine g_get rfl rfl wd_M rfl ?_
        refine g_iload rfl rfl ?_
        refine s_zald rfl a_81 rfl (by omega) ?_
        rw [d1]
        cases hE : (mx_n fr to cd ne S0 k).1 g with
        | none =>
          rw [hE] at hAH
          refine g_if_eq rfl (fun _ => ?_) (fun h => absurd (rfl) h)
          refine s_ic (v := nI 0) rfl rfl ?_
          exact done1 false none _ (pB_f fun z => by cases hAH.mp z.2)
        | some s =>
          rw [hE] at hAH
          have hbs := hb s hE
          refine g_if_eq rfl (fun h => absurd h ((show ¬ bI true = 0 by decide))) (fun _ => ?_)
          refine g_iload_n rfl rfl ?_
          refine g_aload_n rfl rfl ?_
          refine g_get rfl rfl wd_M rfl ?_
          refine s_ic (v := nI 3) rfl rfl ?_
          refine g_iload rfl rfl ?_
          refine g_imul rfl ?_
          rw [pk_mul]
          refine s_iald rfl a_79 rfl (by omega) ?_
          rw [w2]
          refine g_icmp_gt rfl (fun c1 => ?_) (fun c1 => ?_)
          · refine s_ic (v := nI 0) rfl rfl ?_
            exact done1 false none _ (pB_f fun z => by
              have := (nI_ltI (by omega) (by omega)).mp c1
              omega)
          · have hle : ep ≤ eg := by
              rcases Nat.lt_or_ge eg ep with z | z
              · exact absurd ((nI_ltI (by omega) (by omega)).mpr z) c1
              · exact z
            refine g_iload rfl rfl ?_
            cases b with
            | false =>
              refine g_if_eq rfl (fun _ => ?_) (fun h => absurd (rfl) h)
              refine s_ic (v := nI 0) rfl rfl ?_
              exact done1 false none _ (pB_f fun z => by
                have := hAH.mp z.2
                rw [hbs] at this
                cases this)
            | true =>
              refine g_if_eq rfl (fun h => absurd h (by decide)) (fun _ => ?_)
              refine s_ic (v := nI 1) rfl rfl ?_
              refine g_goto rfl ?_
              exact done1 true none _ (pB_t ⟨hle, hAH.mpr hbs⟩)
      have hbd : ∀ s, (mx_n fr to cd ne S0 k).1 g = some s → s.1 ≤ 400 ∧ s.2 ≤ 400 := fun s hE => by
        obtain ⟨-, q1, q2⟩ := (hn k hk).1 g s hE
        exact ⟨by omega, by omega⟩
      have hval : ∀ s, (mx_n fr to cd ne S0 k).1 g = some s → ∀ b : Bool, (decide (s.1 < tg.1) || (decide (s.1 = tg.1) && decide (s.2 ≤ tg.2))) = b → rx_has (some s) tg = b := fun s _ b hb => hb
      refine g_aload_n rfl rfl ?_
      refine g_get rfl rfl wd_M rfl ?_
      refine g_iload rfl rfl ?_
      refine s_iald rfl a_78 rfl (by omega) ?_
      rw [w1]
      refine g_istore rfl (Nat.le_of_ble_eq_true rfl) ?_
      refine g_aload_n rfl rfl ?_
      refine g_get rfl rfl wd_M rfl ?_
      refine g_iload rfl rfl ?_
      refine s_iald rfl a_82 rfl (by omega) ?_
      refine g_aload_n rfl rfl ?_
      refine g_get rfl rfl wd_M rfl ?_
      refine s_ic (v := nI 3) rfl rfl ?_
      refine g_iload rfl rfl ?_
      refine g_imul rfl ?_
      rw [pk_mul]
      refine s_ic (v := nI 1) rfl rfl ?_
      refine g_iadd rfl ?_
      rw [nI_add]
      refine s_iald rfl a_79 rfl (by omega) ?_
      rw [w3]
      refine g_icmp_lt rfl (fun c1 => ?_) (fun c1 => ?_)
      · refine s_ic (v := nI 1) rfl rfl ?_
        refine g_goto rfl ?_
        refine g_istore rfl (Nat.le_of_ble_eq_true rfl) ?_
        exact tail true _ (fun s hE => by
          obtain ⟨e1, e2⟩ := d2 s hE
          obtain ⟨q1, q2⟩ := hbd s hE
          rw [e1] at c1
          exact hval s hE _ (by rw [decide_eq_true ((nI_ltI (by omega) (by omega)).mp c1)]; rfl)) rfl
      · refine g_aload_n rfl rfl ?_
        refine g_get rfl rfl wd_M rfl ?_
        refine g_iload rfl rfl ?_
        refine s_iald rfl a_82 rfl (by omega) ?_
        refine g_aload_n rfl rfl ?_
        refine g_get rfl rfl wd_M rfl ?_
        refine s_ic (v := nI 3) rfl rfl ?_
        refine g_iload rfl rfl ?_
        refine g_imul rfl ?_
        rw [pk_mul]
        refine s_ic (v := nI 1) rfl rfl ?_
        refine g_iadd rfl ?_
        rw [nI_add]
        refine s_iald rfl a_79 rfl (by omega) ?_
        rw [w3]
        refine g_icmp_ne rfl (fun c2 => ?_) (fun c2 => ?_)
        · refine s_ic (v := nI 0) rfl rfl ?_
          refine g_istore rfl (Nat.le_of_ble_eq_true rfl) ?_
          exact tail false _ (fun s hE => by
            obtain ⟨e1, e2⟩ := d2 s hE
            obtain ⟨q1, q2⟩ := hbd s hE
            rw [e1] at c1 c2
            exact hval s hE _ (by rw [decide_eq_false (fun z => c1 ((nI_ltI (by omega) (by omega)).mpr z)), decide_eq_false (fun z => c2 (by rw [z]))]; rfl)) rfl
        · refine g_aload_n rfl rfl ?_
          refine g_get rfl rfl wd_M rfl ?_
          refine g_iload rfl rfl ?_
          refine s_iald rfl a_83 rfl (by omega) ?_
          refine g_aload_n rfl rfl ?_
          refine g_get rfl rfl wd_M rfl ?_
          refine s_ic (v := nI 3) rfl rfl ?_
          refine g_iload rfl rfl ?_
          refine g_imul rfl ?_
          rw [pk_mul]
          refine s_ic (v := nI 2) rfl rfl ?_
          refine g_iadd rfl ?_
          rw [nI_add]
          refine s_iald rfl a_79 rfl (by omega) ?_
          rw [w4]
          refine g_icmp_gt rfl (fun c3 => ?_) (fun c3 => ?_)
          · refine s_ic (v := nI 0) rfl rfl ?_
            refine g_istore rfl (Nat.le_of_ble_eq_true rfl) ?_
            exact tail false _ (fun s hE => by
              obtain ⟨e1, e2⟩ := d2 s hE
              obtain ⟨q1, q2⟩ := hbd s hE
              rw [e1] at c1
              rw [e2] at c3
              have z3 := (nI_ltI (by omega) (by omega)).mp c3
              exact hval s hE _ (by rw [decide_eq_false (fun z => c1 ((nI_ltI (by omega) (by omega)).mpr z)), decide_eq_false (fun z : s.2 ≤ tg.2 => absurd z3 (by omega))]; simp)) rfl
          · refine s_ic (v := nI 1) rfl rfl ?_
            refine g_goto rfl ?_
            refine g_istore rfl (Nat.le_of_ble_eq_true rfl) ?_
            exact tail true _ (fun s hE => by
              obtain ⟨e1, e2⟩ := d2 s hE
              obtain ⟨q1, q2⟩ := hbd s hE
              rw [e1] at c2
              rw [e2] at c3
              have z1 : s.1 = tg.1 := (nI_eq (by omega) (by omega)).mp c2
              have z2 : s.2 ≤ tg.2 := by
                rcases Nat.lt_or_ge tg.2 s.2 with z | z
                · exact absurd ((nI_ltI (by omega) (by omega)).mpr z) c3
                · exact z
              exact hval s hE _ (by rw [decide_eq_true z1, decide_eq_true z2]; simp)) rfl
    -- the rounds
    refine am_for 26 (fun k lo τ => (∃ fl z7 z8 z9, lo = [some (.ref 66), some (.int (nI p0)), some (.int (nI ep)), some (.int (nI t0.1)), some (.int (nI t0.2)), some (.int (nI r)), some (.int (bI fl)), z7, z8, z9] ∧ (fl = false → rx_least ne u t0 fr to cd (mx_n fr to cd ne S0 k).1) ∧ (k = 26 → fl = false)) ∧ sc6 σ τ ∧ hdE τ (plE (mx_n fr to cd ne S0 k))) ?_ ?_ 0 _ _ (Nat.zero_le _) ⟨⟨true, _, _, _, rfl, (fun h => absurd h (by decide)), (fun h => absurd h (by decide))⟩, hs1, hd1⟩
    · rintro k _ τ hk ⟨⟨fl, z7, z8, z9, rfl, hfl, -⟩, hs, hd⟩ kk
      refine g_iload rfl rfl ?_
      cases fl with
      | false =>
        refine g_if_eq rfl (fun _ => ?_) (fun h => absurd (rfl) h)
        exact fin k _ τ (by omega) (hfl rfl) hs hd ⟨_, _, _, _, rfl⟩
      | true =>
        refine g_if_eq rfl (fun h => absurd h (by decide)) (fun _ => ?_)
        refine s_ic (v := nI 0) rfl rfl ?_
        refine g_istore rfl (Nat.le_of_ble_eq_true rfl) ?_
        refine s_ic (v := nI 0) rfl rfl ?_
        refine g_istore rfl (Nat.le_of_ble_eq_true rfl) ?_
        refine am_for ne (fun i lo τ => (∃ z8 z9, lo = [some (.ref 66), some (.int (nI p0)), some (.int (nI ep)), some (.int (nI t0.1)), some (.int (nI t0.2)), some (.int (nI r)), some (.int (bI (mx_rc fr to cd (mx_n fr to cd ne S0 k) i))), some (.int (nI i)), z8, z9]) ∧ sc6 σ τ ∧ hdE τ (plE (mx_r fr to cd (mx_n fr to cd ne S0 k) i))) ?_ ?_ 0 _ _ (Nat.zero_le _) ⟨⟨_, _, rfl⟩, hs, hd⟩
        · rintro i _ τ hi ⟨⟨z8, z9, rfl⟩, hs, hd⟩ kk2
          have hoi := mx_r_ok (hn k (by omega)) i (by omega)
          have hsc : mx_r fr to cd (mx_n fr to cd ne S0 k) (i + 1) = mx_step (mx_r fr to cd (mx_n fr to cd ne S0 k) i) i (fr i) (to i) (cd (fr i)) := rfl
          have hcc : mx_rc fr to cd (mx_n fr to cd ne S0 k) (i + 1) = (mx_rc fr to cd (mx_n fr to cd ne S0 k) i || (mx_cl (mx_r fr to cd (mx_n fr to cd ne S0 k) i) i (fr i) (cd (fr i)) || mx_ce (mx_r fr to cd (mx_n fr to cd ne S0 k) i).1 (mx_lv (mx_r fr to cd (mx_n fr to cd ne S0 k) i) i (fr i) (cd (fr i))) i (to i))) := rfl
          have ho2 := mx_step_ok hoi hi
          generalize mx_r fr to cd (mx_n fr to cd ne S0 k) i = S at hoi hsc hcc hd ho2 ⊢
          rw [hsc] at kk2
          obtain ⟨f1, f2, f3, f4⟩ := g3 i hi
          refine g_iload rfl rfl ?_
          refine g_aload_n rfl rfl ?_
          refine g_get rfl rfl wd_M rfl ?_
          rw [hs.2 8 (by omega) (by omega), g1]
          refine g_icmp_ge rfl (fun h => absurd h (nI_ge hi (by omega))) (fun _ => ?_)
          refine g_aload_n rfl rfl ?_
          refine g_iload rfl rfl ?_
          refine c_Vw rfl rfl rfl rfl wd_M rfl (m_leave (hg.of hs) hoi (by omega) hd hi) rfl rfl rfl ?_
          rintro _ _ ⟨rfl, τ2, rfl, hs2, hd2⟩
          show am_G 87 78 _ [.int (bI (mx_cl S i (fr i) (cd (fr i))))] (wd xs τ2) _
          have hs3 := hs.trans hs2
          refine g_istore rfl (Nat.le_of_ble_eq_true rfl) ?_
          refine g_aload_n rfl rfl ?_
          refine g_get rfl rfl wd_M rfl ?_
          refine s_bp (v := nI 8) rfl rfl ?_
          refine g_iload rfl rfl ?_
          refine g_iadd rfl ?_
          rw [nI_add]
          refine s_zald rfl a_81 rfl (by omega) ?_
          obtain ⟨d1, d2⟩ := hd2 (8 + i) (by omega)
          have hpe : plE (S.1, mx_lv S i (fr i) (cd (fr i))) (8 + i) = mx_lv S i (fr i) (cd (fr i)) i := by
            unfold plE
            rw [if_neg (by omega), Nat.add_sub_cancel_left]
          rw [hpe] at d1 d2
          rw [d1]
          -- the flags behind the step
          have flags : ∀ (en : Bool) (τ3 : wd_S) (lo : am_L) (z9 : Option Value), mx_ce S.1 (mx_lv S i (fr i) (cd (fr i))) i (to i) = en → sc6 σ τ3 → hdE τ3 (plE (mx_step S i (fr i) (to i) (cd (fr i)))) → lo = [some (.ref 66), some (.int (nI p0)), some (.int (nI ep)), some (.int (nI t0.1)), some (.int (nI t0.2)), some (.int (nI r)), some (.int (bI (mx_rc fr to cd (mx_n fr to cd ne S0 k) i))), some (.int (nI i)), some (.int (bI (mx_cl S i (fr i) (cd (fr i))))), z9] → am_G 87 132 lo [.int (bI en)] (wd xs τ3) (fun v w => v = some (.int (bI (pB (ep ≤ eg ∧ AH ne fr to cd u t0 g tg)))) ∧ ∃ τ, w = wd xs τ ∧ sc6 σ τ) := by
            rintro en τ3 _ z9 hen hs4 hd4 rfl
            rw [hen] at hcc
            have last : ∀ b : Bool, mx_rc fr to cd (mx_n fr to cd ne S0 k) (i + 1) = b → ∀ z8 z9 : Option Value, am_G 87 63 [some (.ref 66), some (.int (nI p0)), some (.int (nI ep)), some (.int (nI t0.1)), some (.int (nI t0.2)), some (.int (nI r)), some (.int (bI b)), some (.int (nI (i + 1))), z8, z9] [] (wd xs τ3) (fun v w => v = some (.int (bI (pB (ep ≤ eg ∧ AH ne fr to cd u t0 g tg)))) ∧ ∃ τ, w = wd xs τ ∧ sc6 σ τ) := by
              rintro b rfl z8 z9
              exact kk2 _ _ ⟨⟨_, _, rfl⟩, hs4, hd4⟩
            refine g_istore rfl (Nat.le_of_ble_eq_true rfl) ?_
            refine g_iload rfl rfl ?_
            cases hm : mx_rc fr to cd (mx_n fr to cd ne S0 k) i with
            | true =>
              refine g_if_ne rfl (fun _ => ?_) (fun h => absurd h (by decide))
              refine s_ic (v := nI 1) rfl rfl ?_
              refine g_goto rfl ?_
              refine g_istore rfl (Nat.le_of_ble_eq_true rfl) ?_
              refine s_inc rfl rfl (nI_1 _) ?_
              refine g_goto rfl ?_
              exact last true (by rw [hcc, hm]; rfl) _ _
            | false =>
              refine g_if_ne rfl (fun h => absurd (rfl) h) (fun _ => ?_)
              refine g_iload rfl rfl ?_
              cases hcl : mx_cl S i (fr i) (cd (fr i)) with
              | true =>
                refine g_if_ne rfl (fun _ => ?_) (fun h => absurd h (by decide))
                refine s_ic (v := nI 1) rfl rfl ?_
                refine g_goto rfl ?_
                refine g_istore rfl (Nat.le_of_ble_eq_true rfl) ?_
                refine s_inc rfl rfl (nI_1 _) ?_
                refine g_goto rfl ?_
                exact last true (by rw [hcc, hm, hcl]; rfl) _ _
              | false =>
                refine g_if_ne rfl (fun h => absurd (rfl) h) (fun _ => ?_)
                refine g_iload rfl rfl ?_
                cases en with
                | true =>
                  refine g_if_eq rfl (fun h => absurd h (by decide)) (fun _ => ?_)
                  refine s_ic (v := nI 1) rfl rfl ?_
                  refine g_goto rfl ?_
                  refine g_istore rfl (Nat.le_of_ble_eq_true rfl) ?_
                  refine s_inc rfl rfl (nI_1 _) ?_
                  refine g_goto rfl ?_
                  exact last true (by rw [hcc, hm, hcl]; rfl) _ _
                | false =>
                  refine g_if_eq rfl (fun _ => ?_) (fun h => absurd (rfl) h)
                  refine s_ic (v := nI 0) rfl rfl ?_
                  refine g_istore rfl (Nat.le_of_ble_eq_true rfl) ?_
                  refine s_inc rfl rfl (nI_1 _) ?_
                  refine g_goto rfl ?_
                  exact last false (by rw [hcc, hm, hcl]; rfl) _ _
          cases hE : mx_lv S i (fr i) (cd (fr i)) i with
          | none =>
            refine g_if_eq rfl (fun _ => ?_) (fun h => absurd (rfl) h)
            refine s_ic (v := nI 0) rfl rfl ?_
            refine flags false τ2 _ _ ?_ hs3 ?_ rfl
            · unfold mx_ce
              rw [hE]
            · unfold mx_step
              rw [mx_en_none hE]
              exact hd2
          | some t =>
            obtain ⟨e1, e2⟩ := d2 t hE
            obtain ⟨-, q1, q2⟩ := ho2.2 i t hE
            refine g_if_eq rfl (fun h => absurd h ((show ¬ bI true = 0 by decide))) (fun _ => ?_)
            refine g_aload_n rfl rfl ?_
            refine g_aload_n rfl rfl ?_
            refine g_get rfl rfl wd_M rfl ?_
            refine g_iload rfl rfl ?_
            refine s_iald rfl a_74 rfl (by omega) ?_
            rw [hs3.1 74 (by omega) (by omega) (by omega) (by omega), f2]
            refine g_aload_n rfl rfl ?_
            refine g_get rfl rfl wd_M rfl ?_
            refine s_bp (v := nI 8) rfl rfl ?_
            refine g_iload rfl rfl ?_
            refine g_iadd rfl ?_
            rw [nI_add]
            refine s_iald rfl a_82 rfl (by omega) ?_
            rw [e1]
            refine g_aload_n rfl rfl ?_
            refine g_get rfl rfl wd_M rfl ?_
            refine s_bp (v := nI 8) rfl rfl ?_
            refine g_iload rfl rfl ?_
            refine g_iadd rfl ?_
            rw [nI_add]
            refine s_iald rfl a_83 rfl (by omega) ?_
            rw [e2]
            have hsm : smE (15 + k * 12 + i + 1) (plE (S.1, mx_lv S i (fr i) (cd (fr i)))) := fun p s hp => by
              unfold plE at hp
              dsimp only at hp
              split at hp
              · obtain ⟨-, x1, x2⟩ := hoi.1 _ _ hp
                exact ⟨by omega, by omega⟩
              · obtain ⟨-, x1, x2⟩ := ho2.2 _ _ hp
                exact ⟨by omega, by omega⟩
            refine c_V rfl rfl rfl rfl wd_M rfl (m_lower (B := 15 + k * 12 + i + 1) (t := t) hd2 (show to i < 20 by omega) hsm (by omega) q1 q2) rfl rfl rfl ?_
            have hpt : plE (S.1, mx_lv S i (fr i) (cd (fr i))) (to i) = S.1 (to i) := by
              unfold plE
              rw [if_pos f4]
            rw [hpt]
            have hce : mx_ce S.1 (mx_lv S i (fr i) (cd (fr i))) i (to i) = !(rx_has (S.1 (to i)) t) := by
              unfold mx_ce
              rw [hE]
            cases hx : rx_has (S.1 (to i)) t with
            | true =>
              refine g_if_eq rfl (fun _ => ?_) (fun h => absurd (rfl) h)
              refine s_ic (v := nI 0) rfl rfl ?_
              refine flags false τ2 _ _ (by rw [hce, hx]; rfl) hs3 ?_ rfl
              unfold mx_step
              rw [mx_en_some hE, rx_put_has hx]
              exact hd2
            | false =>
              refine g_if_eq rfl (fun h => absurd h (by decide)) (fun _ => ?_)
              refine s_ic (v := nI 1) rfl rfl ?_
              refine g_goto rfl ?_
              refine flags true _ _ _ (by rw [hce, hx]; rfl) (hs3.trans sc6_lo) ((hdE_lo hd2).congr fun p hp => ?_) rfl
              unfold mx_step
              rw [mx_en_some hE]
              try dsimp only
              unfold plE
              dsimp only
              by_cases hpt2 : p = to i
              · rw [if_pos hpt2, if_pos (by omega), rx_put_new (by rw [hx]; decide), if_pos hpt2]
              · rw [if_neg hpt2]
                by_cases hp8 : p < 8
                · rw [if_pos hp8, if_pos hp8, rx_put_new (by rw [hx]; decide), if_neg hpt2]
                · rw [if_neg hp8, if_neg hp8]
        · rintro _ τ ⟨⟨z8, z9, rfl⟩, hs, hd⟩
          refine g_iload rfl rfl ?_
          refine g_aload_n rfl rfl ?_
          refine g_get rfl rfl wd_M rfl ?_
          rw [hs.2 8 (by omega) (by omega), g1]
          refine g_icmp_ge rfl (fun _ => ?_) (fun h => absurd (nI_le (Nat.le_refl _) (by omega)) h)
          refine g_goto rfl ?_
          refine kk _ _ ⟨⟨_, _, _, _, rfl, fun hz => ?_, fun hk2 => ?_⟩, hs, hd⟩
          · have hst := mx_stable G (hn k (by omega)) (hbegn k) hz
            show rx_least ne u t0 fr to cd (mx_r fr to cd (mx_n fr to cd ne S0 k) ne).1
            rw [(mx_r_same ne hz).1]
            exact hst
          · exact mx_ends G hok hbeg (by omega)
    · rintro _ τ ⟨⟨fl, z7, z8, z9, rfl, hfl, hfe⟩, hs, hd⟩
      have hf0 := hfe rfl
      subst hf0
      refine g_iload rfl rfl ?_
      refine g_if_eq rfl (fun _ => ?_) (fun h => absurd (rfl) h)
      exact fin 26 _ τ (Nat.le_refl _) (hfl rfl) hs hd ⟨_, _, _, _, rfl⟩
