/-! Sending, put. -/
theorem if_cg {α : Type} {P Q : Prop} {dP : Decidable P} {dQ : Decidable Q} {a c : α} (h : P ↔ Q) : @ite α P dP a c = @ite α Q dQ a c := by
  by_cases hp : P
  · rw [if_pos hp, if_pos (h.mp hp)]
  · rw [if_neg hp, if_neg fun z => hp (h.mpr z)]
section SIM
variable {xs : List Int32} {σ τ : wd_S} {b : Bool} {nv ne : Nat} {kd dp wk fr to cn : Nat → Nat} {vl : Nat → Nat → Int32} {me : Nat → Nat → Nat} {mt : Nat → Nat → Nat × Nat} {ee : Nat → Nat} {op : Nat → Bool} {tt : Nat → Int32} {rc : Nat → Nat} {re : Nat → Nat → Nat} {rt : Nat → Nat → Nat × Nat} {rs : Nat → Nat → Int32} {q : Nat} {qg qe : Nat → Nat} {qt : Nat → Nat × Nat} {qs : Nat → Int32} {dl fi se : Int32}
/-- one more on the edges of p -/
def snC (p : Nat → Bool) (cn : Nat → Nat) : Nat → Nat := fun e => if p e = true then cn e + 1 else cn e
def snV {α : Type} (p : Nat → Bool) (cn : Nat → Nat) (f : Nat → Nat → α) (x : α) : Nat → Nat → α := fun e k => if p e = true ∧ k = cn e then x else f e k
theorem se_at {m x t : Int32} {cn : Nat → Nat} (e : Nat) : ∀ n, (∀ k, seF σ m x t cn n (30 + 3 * e) k = if e < n ∧ biB m e = true ∧ k = 2 then nI (cn e + 1) else σ (30 + 3 * e) k) ∧ (∀ k, seF σ m x t cn n (31 + 3 * e) k = if e < n ∧ biB m e = true ∧ k = cn e then x else σ (31 + 3 * e) k) ∧ ∀ k, seF σ m x t cn n (32 + 3 * e) k = if e < n ∧ biB m e = true ∧ k = cn e then t else σ (32 + 3 * e) k := by
  intro n
  induction n with
  | zero => exact ⟨fun k => by rw [if_neg (by omega)]; rfl, fun k => by rw [if_neg (by omega)]; rfl, fun k => by rw [if_neg (by omega)]; rfl⟩
  | succ n ih =>
    obtain ⟨i1, i2, i3⟩ := ih
    have hs : seF σ m x t cn (n + 1) = if biB m n = true then apF (seF σ m x t cn n) n (cn n) x t else seF σ m x t cn n := rfl
    rw [hs]
    by_cases hb : biB m n = true
    · rw [if_pos hb]
      by_cases hen : e = n
      · subst hen
        unfold apF
        refine ⟨fun k => ?_, fun k => ?_, fun k => ?_⟩
        · by_cases hk : k = 2
          · subst hk
            rw [u2_same, if_pos ⟨by omega, hb, rfl⟩]
          · rw [u2_k hk, u2_c (by omega), u2_c (by omega), i1, if_neg (by omega), if_neg (fun z => hk z.2.2)]
        · by_cases hk : k = cn e
          · subst hk
            rw [u2_c (by omega), u2_c (by omega), u2_same, if_pos ⟨by omega, hb, rfl⟩]
          · rw [u2_c (by omega), u2_c (by omega), u2_k hk, i2, if_neg (by omega), if_neg (fun z => hk z.2.2)]
        · by_cases hk : k = cn e
          · subst hk
            rw [u2_c (by omega), u2_same, if_pos ⟨by omega, hb, rfl⟩]
          · rw [u2_c (by omega), u2_k hk, u2_c (by omega), i3, if_neg (by omega), if_neg (fun z => hk z.2.2)]
      · rw [apF_c (by omega), apF_c (by omega), apF_c (by omega)]
        have hiff : ∀ P : Prop, (e < n ∧ biB m e = true ∧ P) ↔ (e < n + 1 ∧ biB m e = true ∧ P) := fun P => ⟨fun ⟨z1, z2⟩ => ⟨by omega, z2⟩, fun ⟨z1, z2⟩ => ⟨by omega, z2⟩⟩
        exact ⟨fun k => (i1 k).trans (if_cg (hiff _)), fun k => (i2 k).trans (if_cg (hiff _)), fun k => (i3 k).trans (if_cg (hiff _))⟩
    · rw [if_neg hb]
      have hiff : ∀ P : Prop, (e < n + 1 ∧ biB m e = true ∧ P) ↔ (e < n ∧ biB m e = true ∧ P) := by
        intro P
        constructor
        · rintro ⟨z1, z2, z3⟩
          refine ⟨?_, z2, z3⟩
          rcases Nat.lt_or_ge e n with z | z
          · exact z
          · have : e = n := by omega
            rw [this] at z2
            exact absurd z2 hb
        · rintro ⟨z1, z2⟩
          exact ⟨by omega, z2⟩
      refine ⟨fun k => ?_, fun k => ?_, fun k => ?_⟩
      · exact (i1 k).trans (if_cg (hiff _).symm)
      · exact (i2 k).trans (if_cg (hiff _).symm)
      · exact (i3 k).trans (if_cg (hiff _).symm)
theorem sn_cM {m x : Int32} {p : Nat → Bool} {ep : Nat} {t : Nat × Nat} (c5 : cM σ ne cn vl me mt) (hp : ∀ e, e < ne → biB m e = p e) : cM (seF σ m x (nI (tmE ep t)) cn ne) ne (snC p cn) (snV p cn vl x) (snV p cn me ep) (snV p cn mt t) := by
  intro e he
  obtain ⟨i1, i2, i3⟩ := se_at (σ := σ) (m := m) (x := x) (t := nI (tmE ep t)) (cn := cn) e ne
  obtain ⟨a1, a2⟩ := c5 e he
  rw [i1]
  have hpe := hp e he
  unfold snC snV
  cases hb : p e with
  | true =>
    rw [hb] at hpe
    have h2 : e < ne ∧ biB m e = true ∧ 2 = 2 := ⟨he, hpe, rfl⟩
    have htt : true = true := rfl
    rw [if_pos h2, if_pos htt]
    refine ⟨rfl, fun k hk => ?_⟩
    rw [i2, i3]
    by_cases hkc : k = cn e
    · have hP : e < ne ∧ biB m e = true ∧ k = cn e := ⟨he, hpe, hkc⟩
      have hQ : true = true ∧ k = cn e := ⟨rfl, hkc⟩
      rw [if_pos hP, if_pos hP, if_pos hQ, if_pos hQ, if_pos hQ]
      exact ⟨rfl, rfl⟩
    · have hP : ¬ (e < ne ∧ biB m e = true ∧ k = cn e) := fun z => hkc z.2.2
      have hQ : ¬ (true = true ∧ k = cn e) := fun z => hkc z.2
      rw [if_neg hP, if_neg hP, if_neg hQ, if_neg hQ, if_neg hQ]
      exact a2 k (by omega)
  | false =>
    rw [hb] at hpe
    have hn : ¬ biB m e = true := by rw [hpe]; decide
    have hf : ¬ (false = true) := by decide
    have h2 : ¬ (e < ne ∧ biB m e = true ∧ 2 = 2) := fun z => hn z.2.1
    rw [if_neg h2, if_neg hf]
    refine ⟨a1, fun k hk => ?_⟩
    have hP : ¬ (e < ne ∧ biB m e = true ∧ k = cn e) := fun z => hn z.2.1
    have hQ : ¬ (false = true ∧ k = cn e) := fun z => hf z.1
    rw [i2, i3, if_neg hP, if_neg hP, if_neg hQ, if_neg hQ, if_neg hQ]
    exact a2 k hk
theorem sa_at {x : Int32} {p : Nat → Bool} {cn : Nat → Nat} : ∀ n, (∀ e, e < n → p e = true → cn e < 6) → (saF σ p x cn n 66 20 = σ 66 20 + nI (cnt p n)) ∧ (∀ e, saF σ p x cn n 75 e = if e < n ∧ p e = true then nI (cn e + 1) else σ 75 e) ∧ (∀ e k, k < 6 → saF σ p x cn n 76 (6 * e + k) = if e < n ∧ p e = true ∧ k = cn e then x else σ 76 (6 * e + k)) ∧ ∀ e k i, k < 6 → i < 3 → saF σ p x cn n 77 (18 * e + 3 * k + i) = if e < n ∧ p e = true ∧ k = cn e then σ 66 (21 + i) else σ 77 (18 * e + 3 * k + i) := by
  intro n
  induction n with
  | zero =>
    intro _
    refine ⟨?_, fun e => by rw [if_neg (by omega)]; rfl, fun e k _ => by rw [if_neg (by omega)]; rfl, fun e k i _ _ => by rw [if_neg (by omega)]; rfl⟩
    show σ 66 20 = σ 66 20 + 0
    rw [Int32.add_zero]
  | succ n ih =>
    intro h6
    obtain ⟨i1, i2, i3, i4⟩ := ih fun e he => h6 e (by omega)
    have hs : saF σ p x cn (n + 1) = if p n = true then p1F (saF σ p x cn n) n (cn n) x else saF σ p x cn n := rfl
    rw [hs]
    by_cases hb : p n = true
    · have hc6 := h6 n (by omega) hb
      rw [if_pos hb]
      refine ⟨?_, fun e => ?_, fun e k hk => ?_, fun e k i hk hi => ?_⟩
      · rw [p1F_20, i1, cnt_t hb, Int32.add_assoc, nI_add]
      · by_cases hen : e = n
        · subst hen
          rw [if_pos ⟨by omega, hb⟩]
          unfold p1F
          rw [u2_c (by omega), u2_same]
        · rw [p1F_75 hen, i2]
          exact if_cg ⟨fun ⟨z1, z2⟩ => ⟨by omega, z2⟩, fun ⟨z1, z2⟩ => ⟨by omega, z2⟩⟩
      · unfold p1F
        rw [u2_c (by omega), u2_c (by omega), u2_c (by omega), u2_c (by omega), u2_c (by omega)]
        by_cases hj : 6 * e + k = 6 * n + cn n
        · have e1 : e = n := by omega
          subst e1
          rw [hj, u2_same, if_pos ⟨by omega, hb, by omega⟩]
        · rw [u2_k hj, i3 e k hk]
          by_cases hc : e < n ∧ p e = true ∧ k = cn e
          · rw [if_pos hc, if_pos ⟨by omega, hc.2⟩]
          · rw [if_neg hc, if_neg]
            rintro ⟨z1, z2, z3⟩
            by_cases hen : e = n
            · subst hen
              omega
            · exact hc ⟨by omega, z2, z3⟩
      · unfold p1F
        rw [u2_c (by omega), u2_c (by omega)]
        have h66 : ∀ j, j ≠ 20 → saF σ p x cn n 66 j = σ 66 j := fun j hj => saF_66 hj n
        rw [h66 21 (by omega), h66 22 (by omega), h66 23 (by omega)]
        by_cases hc : e = n ∧ k = cn n
        · obtain ⟨rfl, rfl⟩ := hc
          rw [if_pos ⟨by omega, hb, rfl⟩]
          have : i = 0 ∨ i = 1 ∨ i = 2 := by omega
          rcases this with rfl | rfl | rfl
          · rw [u2_k (by omega), u2_k (by omega), show 18 * e + 3 * cn e + 0 = 3 * (6 * e + cn e) by omega, u2_same]
          · rw [u2_k (by omega), show 18 * e + 3 * cn e + 1 = 3 * (6 * e + cn e) + 1 by omega, u2_same]
          · rw [show 18 * e + 3 * cn e + 2 = 3 * (6 * e + cn e) + 2 by omega, u2_same]
        · have hne : ∀ w, w < 3 → 18 * e + 3 * k + i ≠ 3 * (6 * n + cn n) + w := fun w hw z => hc ⟨by omega, by omega⟩
          have h0 : 18 * e + 3 * k + i ≠ 3 * (6 * n + cn n) := hne 0 (by omega)
          rw [u2_k (hne 2 (by omega)), u2_k (hne 1 (by omega)), u2_k h0, u2_c (by omega), i4 e k i hk hi]
          by_cases hc2 : e < n ∧ p e = true ∧ k = cn e
          · rw [if_pos hc2, if_pos ⟨by omega, hc2.2⟩]
          · rw [if_neg hc2, if_neg]
            rintro ⟨z1, z2, z3⟩
            by_cases hen : e = n
            · subst hen
              exact hc ⟨rfl, z3⟩
            · exact hc2 ⟨by omega, z2, z3⟩
    · rw [if_neg hb]
      have hiff : ∀ e, ∀ P : Prop, (e < n + 1 ∧ p e = true ∧ P) ↔ (e < n ∧ p e = true ∧ P) := by
        intro e P
        constructor
        · rintro ⟨z1, z2, z3⟩
          refine ⟨?_, z2, z3⟩
          rcases Nat.lt_or_ge e n with z | z
          · exact z
          · have : e = n := by omega
            rw [this] at z2
            exact absurd z2 hb
        · rintro ⟨z1, z2⟩
          exact ⟨by omega, z2⟩
      have hiff2 : ∀ e, (e < n + 1 ∧ p e = true) ↔ (e < n ∧ p e = true) := by
        intro e
        have := hiff e True
        rw [and_true] at this
        exact this
      have hbf : p n = false := by
        cases hpn : p n with
        | false => rfl
        | true => exact absurd hpn hb
      refine ⟨?_, fun e => ?_, fun e k hk => ?_, fun e k i hk hi => ?_⟩
      · rw [i1, cnt_f hbf]
      · rw [i2]; exact if_cg (hiff2 e).symm
      · rw [i3 e k hk]; exact if_cg (hiff e _).symm
      · rw [i4 e k i hk hi]; exact if_cg (hiff e _).symm
theorem sn_mM {x : Int32} {p : Nat → Bool} {ep : Nat} {t : Nat × Nat} (hM : ∀ e, e < ne → cn e ≤ 6) (h6 : ∀ e, e < ne → p e = true → cn e < 6) (m5 : mM σ ne cn vl me mt) (t1 : σ 66 21 = nI ep) (t2 : σ 66 22 = nI t.1) (t3 : σ 66 23 = nI t.2) : mM (saF σ p x cn ne) ne (snC p cn) (snV p cn vl x) (snV p cn me ep) (snV p cn mt t) := by
  intro e he
  obtain ⟨-, i2, i3, i4⟩ := sa_at (σ := σ) (x := x) (p := p) (cn := cn) ne h6
  obtain ⟨a1, a2⟩ := m5 e he
  have hc6 := hM e he
  rw [i2]
  unfold snC snV
  cases hb : p e with
  | true =>
    have hc := h6 e he hb
    have h2 : e < ne ∧ true = true := ⟨he, rfl⟩
    have htt : true = true := rfl
    rw [if_pos h2, if_pos htt]
    refine ⟨rfl, fun k hk => ?_⟩
    have j0 := i4 e k 0 (by omega) (by omega)
    rw [Nat.add_zero] at j0
    rw [i3 e k (by omega), j0, i4 e k 1 (by omega) (by omega), i4 e k 2 (by omega) (by omega), hb]
    by_cases hkc : k = cn e
    · have hP : e < ne ∧ true = true ∧ k = cn e := ⟨he, rfl, hkc⟩
      have hQ : true = true ∧ k = cn e := ⟨rfl, hkc⟩
      rw [if_pos hP, if_pos hP, if_pos hP, if_pos hP, if_pos hQ, if_pos hQ, if_pos hQ]
      exact ⟨rfl, t1, t2, t3⟩
    · have hP : ¬ (e < ne ∧ true = true ∧ k = cn e) := fun z => hkc z.2.2
      have hQ : ¬ (true = true ∧ k = cn e) := fun z => hkc z.2
      rw [if_neg hP, if_neg hP, if_neg hP, if_neg hP, if_neg hQ, if_neg hQ, if_neg hQ]
      exact a2 k (by omega)
  | false =>
    have hf : ¬ (false = true) := by decide
    have h2 : ¬ (e < ne ∧ false = true) := fun z => hf z.2
    rw [if_neg h2, if_neg hf]
    refine ⟨a1, fun k hk => ?_⟩
    have hP : ¬ (e < ne ∧ false = true ∧ k = cn e) := fun z => hf z.2.1
    have hQ : ¬ (false = true ∧ k = cn e) := fun z => hf z.1
    have j0 := i4 e k 0 (by omega) (by omega)
    rw [Nat.add_zero] at j0
    rw [i3 e k (by omega), j0, i4 e k 1 (by omega) (by omega), i4 e k 2 (by omega) (by omega), hb, if_neg hP, if_neg hP, if_neg hP, if_neg hP, if_neg hQ, if_neg hQ, if_neg hQ]
    exact a2 k hk
theorem sn_pM {p : Nat → Bool} {ep : Nat} {t : Nat × Nat} (hM : pM nv ne kd dp to cn me mt) (h6 : ∀ e, e < ne → p e = true → cn e < 6) (ht : tmOK ep t) (hd : ∀ e, e < ne → p e = true → bf_dp (gDi nv kd dp (to e)) t) : pM nv ne kd dp to (snC p cn) (snV p cn me ep) (snV p cn mt t) := by
  intro e he
  obtain ⟨a1, a2⟩ := hM e he
  unfold snC snV
  cases hb : p e with
  | true =>
    have hc := h6 e he hb
    have htt : true = true := rfl
    rw [if_pos htt]
    refine ⟨by omega, fun k hk => ?_⟩
    by_cases hkc : k = cn e
    · have hQ : true = true ∧ k = cn e := ⟨rfl, hkc⟩
      rw [if_pos hQ, if_pos hQ]
      exact ⟨ht, hd e he hb⟩
    · have hQ : ¬ (true = true ∧ k = cn e) := fun z => hkc z.2
      rw [if_neg hQ, if_neg hQ]
      exact a2 k (by omega)
  | false =>
    have hf : ¬ (false = true) := by decide
    rw [if_neg hf]
    refine ⟨a1, fun k hk => ?_⟩
    have hQ : ¬ (false = true ∧ k = cn e) := fun z => hf z.1
    rw [if_neg hQ, if_neg hQ]
    exact a2 k hk
end SIM
