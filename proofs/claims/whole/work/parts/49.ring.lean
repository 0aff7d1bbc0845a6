/-! The reference: ring, start. -/
def cntS (m : Int32) : Nat := cnt (tB m) 8
theorem cnt_mono {p q : Nat → Bool} : ∀ n, (∀ i, i < n → p i = true → q i = true) → cnt p n ≤ cnt q n := by
  intro n
  induction n with
  | zero => intro _; exact Nat.le_refl _
  | succ n ih =>
    intro h
    have h1 := ih fun i hi => h i (by omega)
    have h2 := h n (by omega)
    cases hp : p n with
    | true =>
      rw [cnt_t hp, cnt_t (h2 hp)]
      omega
    | false =>
      rw [cnt_f hp]
      cases hq : q n with
      | true => rw [cnt_t hq]; omega
      | false => rw [cnt_f hq]; exact h1
theorem cnt_more {p q : Nat → Bool} {j : Nat} : ∀ n, (∀ i, i < n → p i = true → q i = true) → j < n → p j = false → q j = true → cnt p n < cnt q n := by
  intro n
  induction n with
  | zero => intro _ h; exact absurd h (Nat.not_lt_zero j)
  | succ n ih =>
    intro h hj h1 h2
    by_cases hjn : j = n
    · subst hjn
      rw [cnt_f h1, cnt_t h2]
      have := cnt_mono j fun i hi => h i (by omega)
      omega
    · have h3 := ih (fun i hi => h i (by omega)) (by omega) h1 h2
      have h4 := h n (by omega)
      cases hp : p n with
      | true =>
        rw [cnt_t hp, cnt_t (h4 hp)]
        omega
      | false =>
        rw [cnt_f hp]
        cases hq : q n with
        | true => rw [cnt_t hq]; omega
        | false => rw [cnt_f hq]; exact h3
theorem m_ring {xs : List Int32} {σ : wd_S} {ne v : Nat} {fr to : Nat → Nat} {K : Nat → Bool} (he : σ 66 8 = nI ne) (he12 : ne ≤ 12) (hv : v < 8) (hE : ∀ e, e < ne → σ 73 e = nI (fr e) ∧ σ 74 e = nI (to e) ∧ fr e < 8 ∧ to e < 8) (hK : ∀ e, e < ne → (σ 67 (to e) = nI 4 ↔ K (to e) = false)) : ev xs 61 [.ref 66, .int (nI v)] σ (bI (pB (rg_T (rgS ne fr to K) v v))) σ := by
  refine am_Ev.of (n := 6) rfl rfl rfl rfl ?_
  refine s_ic (v := nI 0) rfl rfl ?_
  refine g_istore_n rfl (Nat.le_of_ble_eq_true rfl) ?_
  refine s_ic (v := nI 1) rfl rfl ?_
  refine g_iload_n rfl rfl ?_
  refine g_ishl rfl ?_
  refine g_istore_n rfl (Nat.le_of_ble_eq_true rfl) ?_
  have fin : ∀ (se : Int32) (z4 z5 : Option Value), (∀ b, tB se b = true → b < 8 ∧ rg_T (rgS ne fr to K) v b) → (∀ b, rg_T (rgS ne fr to K) v b → tB se b = true) → am_G 61 91 [some (.ref 66), some (.int (nI v)), some (.int se), some (.int (nI 0)), z4, z5] [] (wd xs σ) (po xs (bI (pB (rg_T (rgS ne fr to K) v v))) σ) := by
    intro se z4 z5 h1 h2
    refine g_iload_n rfl rfl ?_
    refine g_iload_n rfl rfl ?_
    refine g_ishr rfl ?_
    refine s_ic (v := nI 1) rfl rfl ?_
    refine g_iand rfl ?_
    refine s_ic (v := nI 1) rfl rfl ?_
    by_cases hb : tB se v = true
    · have hs := (tB_s1 (x := se) (show v < 32 by omega)).mpr hb
      refine g_icmp_ne rfl (fun h => absurd (hs) h) (fun _ => ?_)
      refine s_ic (v := nI 1) rfl rfl ?_
      refine g_goto rfl ?_
      rw [pB_t (h1 v hb).2]
      refine g_zret rfl rfl (bI_or true) ?_
      exact ⟨rfl, rfl⟩
    · have hs : ¬ ((se >>> (nI v &&& 31)) &&& nI 1 = nI 1) := fun z => hb ((tB_s1 (show v < 32 by omega)).mp z)
      refine g_icmp_ne rfl (fun _ => ?_) (fun h => absurd h (hs))
      refine s_ic (v := nI 0) rfl rfl ?_
      rw [pB_f fun z => hb (h2 v z)]
      refine g_zret rfl rfl (bI_or false) ?_
      exact ⟨rfl, rfl⟩
  refine am_for 9 (fun k lo σ' => (∃ (se nw : Int32) (z4 z5 : Option Value), lo = [some (.ref 66), some (.int (nI v)), some (.int se), some (.int nw), z4, z5] ∧ (∀ b, tB se b = true → b < 8 ∧ rg_T (rgS ne fr to K) v b) ∧ (∀ b, tB nw b = true → b < 8 ∧ (b = v ∨ tB se b = true)) ∧ (∀ a b, (a = v ∨ tB se a = true) → tB nw a = false → rgS ne fr to K a b → tB se b = true) ∧ (¬ nw = nI 0 → k ≤ cntS se)) ∧ σ = σ') ?_ ?_ 0 _ _ (Nat.zero_le _) ⟨⟨nI 0, _, _, _, rfl, ?_, ?_, ?_, fun _ => Nat.zero_le _⟩, rfl⟩
  · rintro k _ _ hk ⟨⟨se, nw, z4, z5, rfl, a1, a2, a3, a4⟩, rfl⟩ kk
    by_cases hz : nw = nI 0
    · subst hz
      refine g_iload_n rfl rfl ?_
      refine g_if_eq rfl (fun _ => ?_) (fun h => absurd (rfl) h)
      exact fin se _ _ a1 fun b hb => rg_in (fun b => tB se b = true) hb (fun y hy => a3 v y (Or.inl rfl) (tB_0 _) hy) (fun x y hx hy => a3 x y (Or.inr hx) (tB_0 _) hy)
    · refine g_iload_n rfl rfl ?_
      refine g_if_eq rfl (fun h => absurd h (hz)) (fun _ => ?_)
      refine s_ic (v := nI 0) rfl rfl ?_
      refine g_istore rfl (Nat.le_of_ble_eq_true rfl) ?_
      refine s_ic (v := nI 0) rfl rfl ?_
      refine g_istore rfl (Nat.le_of_ble_eq_true rfl) ?_
      refine am_for ne (fun i lo σ' => (∃ rc : Int32, lo = [some (.ref 66), some (.int (nI v)), some (.int se), some (.int nw), some (.int rc), some (.int (nI i))] ∧ ∀ b, tB rc b = true ↔ ∃ e, e < i ∧ tB nw (fr e) = true ∧ to e = b ∧ K b = true) ∧ σ = σ') ?_ ?_ 0 _ _ (Nat.zero_le _) ⟨⟨nI 0, rfl, fun b => ?_⟩, rfl⟩
      · rintro i _ _ hi ⟨⟨rc, rfl, hrc⟩, rfl⟩ kk2
        obtain ⟨f1, f2, f3, f4⟩ := hE i hi
        have hk2 := hK i hi
        have skip : ¬ (tB nw (fr i) = true ∧ K (to i) = true) → ∀ b, tB rc b = true ↔ ∃ e, e < i + 1 ∧ tB nw (fr e) = true ∧ to e = b ∧ K b = true := by
          intro hn b
          rw [hrc b]
          constructor
          · rintro ⟨e, e1, e2⟩
            exact ⟨e, by omega, e2⟩
          · rintro ⟨e, e1, e2, e3, e4⟩
            by_cases hei : e = i
            · subst hei
              rw [← e3] at e4
              exact absurd ⟨e2, e4⟩ hn
            · exact ⟨e, by omega, e2, e3, e4⟩
        refine g_iload rfl rfl ?_
        refine g_aload_n rfl rfl ?_
        refine g_get rfl rfl wd_M rfl ?_
        rw [he]
        refine g_icmp_ge rfl (fun h => absurd h (nI_ge hi (by omega))) (fun _ => ?_)
        refine g_iload_n rfl rfl ?_
        refine g_aload_n rfl rfl ?_
        refine g_get rfl rfl wd_M rfl ?_
        refine g_iload rfl rfl ?_
        refine s_iald rfl a_73 rfl (by omega) ?_
        rw [f1]
        refine g_ishr rfl ?_
        refine s_ic (v := nI 1) rfl rfl ?_
        refine g_iand rfl ?_
        refine s_ic (v := nI 1) rfl rfl ?_
        by_cases hb : tB nw (fr i) = true
        · have hs := (tB_s1 (x := nw) (show fr i < 32 by omega)).mpr hb
          refine g_icmp_ne rfl (fun h => absurd (hs) h) (fun _ => ?_)
          refine g_aload_n rfl rfl ?_
          refine g_get rfl rfl wd_M rfl ?_
          refine g_aload_n rfl rfl ?_
          refine g_get rfl rfl wd_M rfl ?_
          refine g_iload rfl rfl ?_
          refine s_iald rfl a_74 rfl (by omega) ?_
          rw [f2]
          refine s_iald rfl a_67 rfl (by omega) ?_
          refine s_ic (v := nI 4) rfl rfl ?_
          by_cases h4 : σ 67 (to i) = nI 4
          · refine g_icmp_eq rfl (fun _ => ?_) (fun h => absurd (h4) h)
            refine s_inc rfl rfl (nI_1 _) ?_
            refine g_goto rfl ?_
            exact kk2 _ _ ⟨⟨_, rfl, skip fun z => by rw [hk2.mp h4] at z; cases z.2⟩, rfl⟩
          · have hkt : K (to i) = true := by
              cases hh : K (to i) with
              | true => rfl
              | false => exact absurd (hk2.mpr hh) h4
            refine g_icmp_eq rfl (fun h => absurd h (h4)) (fun _ => ?_)
            refine g_iload rfl rfl ?_
            refine s_ic (v := nI 1) rfl rfl ?_
            refine g_aload_n rfl rfl ?_
            refine g_get rfl rfl wd_M rfl ?_
            refine g_iload rfl rfl ?_
            refine s_iald rfl a_74 rfl (by omega) ?_
            rw [f2]
            refine g_ishl rfl ?_
            refine g_ior rfl ?_
            refine g_istore rfl (Nat.le_of_ble_eq_true rfl) ?_
            refine s_inc rfl rfl (nI_1 _) ?_
            refine g_goto rfl ?_
            refine kk2 _ _ ⟨⟨_, rfl, fun b => ?_⟩, rfl⟩
            rw [tB_or, tB_1 (show to i < 32 by omega), Bool.or_eq_true, hrc b, decide_eq_true_iff]
            constructor
            · rintro (⟨e, e1, e2⟩ | e1)
              · exact ⟨e, by omega, e2⟩
              · exact ⟨i, by omega, hb, e1.symm, by rw [e1]; exact hkt⟩
            · rintro ⟨e, e1, e2, e3, e4⟩
              by_cases hei : e = i
              · exact Or.inr (by rw [← e3, hei])
              · exact Or.inl ⟨e, by omega, e2, e3, e4⟩
        · have hs : ¬ ((nw >>> (nI (fr i) &&& 31)) &&& nI 1 = nI 1) := fun z => hb ((tB_s1 (show fr i < 32 by omega)).mp z)
          refine g_icmp_ne rfl (fun _ => ?_) (fun h => absurd h (hs))
          refine s_inc rfl rfl (nI_1 _) ?_
          refine g_goto rfl ?_
          exact kk2 _ _ ⟨⟨_, rfl, skip fun z => hb z.1⟩, rfl⟩
      · rintro _ _ ⟨⟨rc, rfl, hrc⟩, rfl⟩
        refine g_iload rfl rfl ?_
        refine g_aload_n rfl rfl ?_
        refine g_get rfl rfl wd_M rfl ?_
        rw [he]
        refine g_icmp_ge rfl (fun _ => ?_) (fun h => absurd (nI_le (Nat.le_refl _) (by omega)) h)
        refine g_iload rfl rfl ?_
        refine g_iload_n rfl rfl ?_
        refine s_ic (v := -1) rfl rfl ?_
        refine g_ixor rfl ?_
        refine g_iand rfl ?_
        refine g_istore_n rfl (Nat.le_of_ble_eq_true rfl) ?_
        refine g_iload_n rfl rfl ?_
        refine g_iload rfl rfl ?_
        refine g_ior rfl ?_
        refine g_istore_n rfl (Nat.le_of_ble_eq_true rfl) ?_
        refine g_goto rfl ?_
        have h8 : ∀ b, tB rc b = true → b < 8 ∧ rg_T (rgS ne fr to K) v b := by
          intro b hb
          obtain ⟨e, e1, e2, e3, e4⟩ := (hrc b).mp hb
          have hst : rgS ne fr to K (fr e) b := ⟨e, e1, rfl, e3, e4⟩
          refine ⟨by rw [← e3]; exact (hE e e1).2.2.2, ?_⟩
          rcases (a2 _ e2).2 with z | z
          · rw [z] at hst
            exact rg_one hst
          · exact rg_more (a1 _ z).2 hst
        have hnw : ∀ b, tB (rc &&& (se ^^^ (-1))) b = true ↔ tB rc b = true ∧ tB se b = false := by
          intro b
          rw [tB_and, Bool.and_eq_true]
          constructor
          · rintro ⟨z1, z2⟩
            rw [tB_not (by have := (h8 b z1).1; omega)] at z2
            exact ⟨z1, by cases h : tB se b with
              | false => rfl
              | true => rw [h] at z2; cases z2⟩
          · rintro ⟨z1, z2⟩
            refine ⟨z1, ?_⟩
            rw [tB_not (by have := (h8 b z1).1; omega), z2]
            rfl
        refine kk _ _ ⟨⟨_, _, _, _, rfl, fun b hb => ?_, fun b hb => ?_, fun a b ha hb hs => ?_, fun hn0 => ?_⟩, rfl⟩
        · rw [tB_or, Bool.or_eq_true] at hb
          rcases hb with hb | hb
          · exact a1 b hb
          · exact h8 b hb
        · obtain ⟨z1, z2⟩ := (hnw b).mp hb
          exact ⟨(h8 b z1).1, Or.inr (by rw [tB_or, z1, Bool.or_true])⟩
        · rw [tB_or, Bool.or_eq_true]
          have hold : a = v ∨ tB se a = true := by
            rcases ha with z | z
            · exact Or.inl z
            · rw [tB_or, Bool.or_eq_true] at z
              rcases z with z | z
              · exact Or.inr z
              · cases hh : tB se a with
                | true => exact Or.inr rfl
                | false =>
                  have := (hnw a).mpr ⟨z, hh⟩
                  rw [hb] at this
                  cases this
          cases hna : tB nw a with
          | true =>
            obtain ⟨e, e1, e2, e3, e4⟩ := hs
            exact Or.inr ((hrc b).mpr ⟨e, e1, by rw [e2]; exact hna, e3, e4⟩)
          | false => exact Or.inl (a3 a b hold hna hs)
        · have hk3 := a4 hz
          have hex : ∃ j, tB (rc &&& (se ^^^ (-1))) j = true := by
            apply Classical.byContradiction
            intro hno
            exact hn0 (tB_z.mpr fun i _ => by
              cases hh : tB (rc &&& (se ^^^ (-1))) i with
              | false => rfl
              | true => exact absurd ⟨i, hh⟩ hno)
          obtain ⟨j, hj⟩ := hex
          obtain ⟨z1, z2⟩ := (hnw j).mp hj
          have := cnt_more (p := tB se) (q := tB (se ||| rc)) (j := j) 8 (fun i _ hi => by rw [tB_or, hi]; rfl) (h8 j z1).1 z2 (by rw [tB_or, z1, Bool.or_true])
          show k + 1 ≤ cntS (se ||| rc)
          unfold cntS at hk3 ⊢
          omega
      · rw [tB_0]
        exact ⟨(fun h => by cases h), fun ⟨e, h, _⟩ => absurd h (Nat.not_lt_zero e)⟩
  · rintro _ _ ⟨⟨se, nw, z4, z5, rfl, a1, a2, a3, a4⟩, rfl⟩
    have hz : nw = nI 0 := by
      apply Classical.byContradiction
      intro hz
      have h1 := a4 hz
      have h2 := cnt_le (tB se) 8
      unfold cntS at h1
      omega
    subst hz
    refine g_iload_n rfl rfl ?_
    refine g_if_eq rfl (fun _ => ?_) (fun h => absurd (rfl) h)
    exact fin se _ _ a1 fun b hb => rg_in (fun b => tB se b = true) hb (fun y hy => a3 v y (Or.inl rfl) (tB_0 _) hy) (fun x y hx hy => a3 x y (Or.inr hx) (tB_0 _) hy)
  · intro b hb
    rw [tB_0] at hb
    cases hb
  · intro b hb
    rw [tB_1 (show v < 32 by omega), decide_eq_true_iff] at hb
    exact ⟨by omega, Or.inl hb⟩
  · intro a b ha hb hs
    rcases ha with z | z
    · rw [z, tB_1 (show v < 32 by omega), decide_eq_true rfl] at hb
      cases hb
    · rw [tB_0] at z
      cases z
theorem m_start {xs : List Int32} {σ : wd_S} {n ne : Nat} {fr to : Nat → Nat} {K : Nat → Bool} {b : Bool} (hn : σ 66 1 = nI n) (hn8 : n ≤ 8) (he : σ 66 8 = nI ne) (he12 : ne ≤ 12) (hb : σ 66 0 = bI (!b)) (hE : ∀ e, e < ne → σ 73 e = nI (fr e) ∧ σ 74 e = nI (to e) ∧ fr e < n ∧ to e < n) (hK : ∀ v, v < n → (σ 67 v = nI 4 ↔ K v = false)) : ev xs 62 [.ref 66] σ (if b = true then (if pB (rgR n ne fr to K) = false then nI 0 else -5) else -1) (if b = true ∧ pB (rgR n ne fr to K) = false then u2 σ 66 0 (nI 1) else σ) := by
  have hE2 : ∀ e, e < ne → σ 73 e = nI (fr e) ∧ σ 74 e = nI (to e) ∧ fr e < 8 ∧ to e < 8 := fun e h => by
    obtain ⟨h1, h2, h3, h4⟩ := hE e h
    exact ⟨h1, h2, by omega, by omega⟩
  refine am_Ev.of (n := 2) rfl rfl rfl rfl ?_
  refine g_aload_n rfl rfl ?_
  refine g_get rfl rfl wd_M rfl ?_
  rw [hb]
  cases b with
  | false =>
    refine g_if_eq rfl (fun h => absurd h (by decide)) (fun _ => ?_)
    refine s_ic (v := -1) rfl rfl ?_
    refine g_iret rfl rfl ?_
    exact ⟨rfl, rfl⟩
  | true =>
    refine g_if_eq rfl (fun _ => ?_) (fun h => absurd (rfl) h)
    refine s_ic (v := nI 0) rfl rfl ?_
    refine g_istore_n rfl (Nat.le_of_ble_eq_true rfl) ?_
    refine am_for n (fun i lo σ' => lo = [some (.ref 66), some (.int (nI i))] ∧ σ = σ' ∧ ∀ v, v < i → K v = true → ¬ rg_T (rgS ne fr to K) v v) ?_ ?_ 0 _ _ (Nat.zero_le _) ⟨rfl, rfl, fun v h => absurd h (Nat.not_lt_zero v)⟩
    · rintro i _ _ hi ⟨rfl, rfl, hno⟩ kk
      have hki := hK i hi
      refine g_iload_n rfl rfl ?_
      refine g_aload_n rfl rfl ?_
      refine g_get rfl rfl wd_M rfl ?_
      rw [hn]
      refine g_icmp_ge rfl (fun h => absurd h (nI_ge hi (by omega))) (fun _ => ?_)
      refine g_aload_n rfl rfl ?_
      refine g_get rfl rfl wd_M rfl ?_
      refine g_iload_n rfl rfl ?_
      refine s_iald rfl a_67 rfl (by omega) ?_
      refine s_ic (v := nI 4) rfl rfl ?_
      by_cases h4 : σ 67 i = nI 4
      · refine g_icmp_eq rfl (fun _ => ?_) (fun h => absurd (h4) h)
        refine s_inc rfl rfl (nI_1 _) ?_
        refine g_goto rfl ?_
        refine kk _ _ ⟨rfl, rfl, fun v hv hkv => ?_⟩
        by_cases hvi : v = i
        · rw [hvi, hki.mp h4] at hkv
          cases hkv
        · exact hno v (by omega) hkv
      · have hkt : K i = true := by
          cases hh : K i with
          | true => rfl
          | false => exact absurd (hki.mpr hh) h4
        refine g_icmp_eq rfl (fun h => absurd h (h4)) (fun _ => ?_)
        refine g_aload_n rfl rfl ?_
        refine g_iload_n rfl rfl ?_
        refine c_V rfl rfl rfl rfl wd_M rfl (m_ring he he12 (show i < 8 by omega) hE2 (fun e h => hK _ (hE e h).2.2.2)) rfl rfl rfl ?_
        cases hp : pB (rg_T (rgS ne fr to K) i i) with
        | true =>
          have hr : rg_T (rgS ne fr to K) i i := by
            apply Classical.byContradiction
            intro z
            rw [pB_f z] at hp
            cases hp
          have hR : pB (rgR n ne fr to K) = true := pB_t ⟨i, hi, hkt, hr⟩
          refine g_if_eq rfl (fun h => absurd h (by decide)) (fun _ => ?_)
          refine s_bp (v := -5) rfl rfl ?_
          refine g_iret rfl rfl ?_
          rw [hR]
          exact ⟨rfl, rfl⟩
        | false =>
          have hr : ¬ rg_T (rgS ne fr to K) i i := by
            intro z
            rw [pB_t z] at hp
            cases hp
          refine g_if_eq rfl (fun _ => ?_) (fun h => absurd (rfl) h)
          refine s_inc rfl rfl (nI_1 _) ?_
          refine g_goto rfl ?_
          refine kk _ _ ⟨rfl, rfl, fun v hv hkv => ?_⟩
          by_cases hvi : v = i
          · rw [hvi]
            exact hr
          · exact hno v (by omega) hkv
    · rintro _ _ ⟨rfl, rfl, hno⟩
      have hR : pB (rgR n ne fr to K) = false := pB_f fun ⟨v, h1, h2, h3⟩ => hno v h1 h2 h3
      refine g_iload_n rfl rfl ?_
      refine g_aload_n rfl rfl ?_
      refine g_get rfl rfl wd_M rfl ?_
      rw [hn]
      refine g_icmp_ge rfl (fun _ => ?_) (fun h => absurd (nI_le (Nat.le_refl _) (by omega)) h)
      refine g_aload_n rfl rfl ?_
      refine s_ic (v := nI 1) rfl rfl ?_
      refine s_putzM rfl rfl (by decide) ?_
      refine s_ic (v := nI 0) rfl rfl ?_
      refine g_iret rfl rfl ?_
      rw [hR]
      exact ⟨rfl, rfl⟩
