/-! Masks of vertices and of edges by their bits. -/
def tB (x : Int32) (i : Nat) : Bool := x.toBitVec.getLsbD i
theorem tB_ext {x y : Int32} (h : ∀ i, i < 32 → tB x i = tB y i) : x = y := Int32.toBitVec_inj.mp (BitVec.eq_of_getLsbD_eq fun i hi => h i hi)
theorem tB_or (x y : Int32) (i : Nat) : tB (x ||| y) i = (tB x i || tB y i) := by
  unfold tB
  rw [Int32.toBitVec_or, BitVec.getLsbD_or]
theorem tB_and (x y : Int32) (i : Nat) : tB (x &&& y) i = (tB x i && tB y i) := by
  unfold tB
  rw [Int32.toBitVec_and, BitVec.getLsbD_and]
theorem tB_0 (i : Nat) : tB (nI 0) i = false := by
  show (0#32).getLsbD i = false
  exact BitVec.getLsbD_zero
theorem tB_big {x : Int32} {i : Nat} (h : 32 ≤ i) : tB x i = false := BitVec.getLsbD_of_ge _ _ h
theorem tB_1' : ∀ v, v < 32 → ∀ i, i < 32 → tB (nI 1 <<< (nI v &&& 31)) i = decide (i = v) := by decide +kernel
theorem tB_1 {v : Nat} (hv : v < 32) (i : Nat) : tB (nI 1 <<< (nI v &&& 31)) i = decide (i = v) := by
  rcases Nat.lt_or_ge i 32 with h | h
  · exact tB_1' v hv i h
  · rw [tB_big h, decide_eq_false (by omega)]
theorem tB_not {x : Int32} {i : Nat} (h : i < 32) : tB (x ^^^ (-1)) i = !(tB x i) := by
  have e : ∀ i, i < 32 → (-1 : Int32).toBitVec.getLsbD i = true := by decide +kernel
  unfold tB
  rw [Int32.toBitVec_xor, BitVec.getLsbD_xor, e i h, Bool.xor_true]
theorem tB_z {x : Int32} : x = nI 0 ↔ ∀ i, i < 32 → tB x i = false := by
  constructor
  · rintro rfl i _
    exact tB_0 i
  · intro h
    exact tB_ext fun i hi => by rw [h i hi, tB_0]
theorem biB_t {m : Int32} {e : Nat} (he : e < 32) : biB m e = tB m e := by
  unfold biB
  cases h : tB m e with
  | true =>
    rw [decide_eq_false]
    · rfl
    · intro z
      have h2 := tB_and m (nI 1 <<< (nI e &&& 31)) e
      rw [show m &&& nI 1 <<< (nI e &&& 31) = nI 0 from z, tB_0, h, tB_1 he, decide_eq_true rfl] at h2
      cases h2
  | false =>
    rw [decide_eq_true]
    · rfl
    · refine tB_z.mpr fun i hi => ?_
      rw [tB_and, tB_1 he]
      by_cases hie : i = e
      · rw [hie, h]
        rfl
      · rw [decide_eq_false hie, Bool.and_false]
theorem tB_if {m : Int32} {e : Nat} (he : e < 32) : (m &&& (nI 1 <<< (nI e &&& 31)) = 0) ↔ tB m e = false := by
  have h := biB_t (m := m) he
  unfold biB at h
  constructor
  · intro z
    rw [← h, decide_eq_true z]
    rfl
  · intro z
    rw [z] at h
    by_cases hz : m &&& (nI 1 <<< (nI e &&& 31)) = 0
    · exact hz
    · rw [decide_eq_false hz] at h
      cases h
theorem tB_sl : ∀ l, l < 32 → ((nI l &&& 31).toBitVec.smod 32).toNat = l := by decide +kernel
theorem tB_sh {x : Int32} {v : Nat} (hv : v < 32) : tB (x >>> (nI v &&& 31)) 0 = tB x v := by
  unfold tB
  rw [Int32.toBitVec_shiftRight]
  show (x.toBitVec.sshiftRight ((nI v &&& 31).toBitVec.smod 32).toNat).getLsbD 0 = _
  rw [tB_sl v hv, BitVec.getLsbD_sshiftRight]
  simp [hv]
theorem tB_lo : ∀ i, i < 32 → tB (nI 1) i = decide (i = 0) := by decide +kernel
theorem tB_s1 {x : Int32} {v : Nat} (hv : v < 32) : ((x >>> (nI v &&& 31)) &&& nI 1 = nI 1) ↔ tB x v = true := by
  constructor
  · intro h
    have h2 := tB_and (x >>> (nI v &&& 31)) (nI 1) 0
    rw [h, tB_sh hv, tB_lo 0 (by omega)] at h2
    cases h3 : tB x v with
    | true => rfl
    | false =>
      rw [h3] at h2
      cases h2
  · intro h
    refine tB_ext fun i hi => ?_
    rw [tB_and, tB_lo i hi]
    by_cases h0 : i = 0
    · subst h0
      rw [tB_sh hv, h]
      rfl
    · rw [decide_eq_false h0, Bool.and_false]
/-- a way of at least one step -/
def rg_T (S : Nat → Nat → Prop) (a b : Nat) : Prop := ∃ (k : Nat) (p : Nat → Nat), p 0 = a ∧ p (k + 1) = b ∧ ∀ i, i ≤ k → S (p i) (p (i + 1))
theorem rg_one {S : Nat → Nat → Prop} {a b : Nat} (h : S a b) : rg_T S a b := ⟨0, fun i => if i = 0 then a else b, rfl, rfl, fun i hi => by
  have : i = 0 := by omega
  subst this
  exact h⟩
theorem rg_more {S : Nat → Nat → Prop} {a b c : Nat} (h : rg_T S a b) (hs : S b c) : rg_T S a c := by
  obtain ⟨k, p, h1, h2, h3⟩ := h
  refine ⟨k + 1, fun i => if i ≤ k + 1 then p i else c, ?_, ?_, fun i hi => ?_⟩
  · show (if 0 ≤ k + 1 then p 0 else c) = a
    rw [if_pos (Nat.zero_le _), h1]
  · show (if k + 1 + 1 ≤ k + 1 then p (k + 1 + 1) else c) = c
    rw [if_neg (by omega)]
  · show S (if i ≤ k + 1 then p i else c) (if i + 1 ≤ k + 1 then p (i + 1) else c)
    rw [if_pos hi]
    by_cases hik : i = k + 1
    · rw [if_neg (by omega), hik, h2]
      exact hs
    · rw [if_pos (by omega)]
      exact h3 i (by omega)
/-- a set that is closed holds all that is reached -/
theorem rg_in {S : Nat → Nat → Prop} {a b : Nat} (Q : Nat → Prop) (h : rg_T S a b) (h0 : ∀ y, S a y → Q y) (hs : ∀ x y, Q x → S x y → Q y) : Q b := by
  obtain ⟨k, p, h1, h2, h3⟩ := h
  have : ∀ i, i ≤ k → Q (p (i + 1)) := by
    intro i
    induction i with
    | zero =>
      intro hi
      exact h0 _ (h1 ▸ h3 0 hi)
    | succ i ih =>
      intro hi
      exact hs _ _ (ih (by omega)) (h3 (i + 1) hi)
  rw [← h2]
  exact this k (Nat.le_refl _)
/-- one step of a message that enters no vertex of the kind BACK -/
def rgS (ne : Nat) (fr to : Nat → Nat) (K : Nat → Bool) (a b : Nat) : Prop := ∃ e, e < ne ∧ fr e = a ∧ to e = b ∧ K b = true
/-- there is a ring without BACK -/
def rgR (n ne : Nat) (fr to : Nat → Nat) (K : Nat → Bool) : Prop := ∃ v, v < n ∧ K v = true ∧ rg_T (rgS ne fr to K) v v
theorem rfF_t {σ : wd_S} {ne : Nat} {fr to : Nat → Nat} (hE : ∀ e, e < ne → σ (30 + 3 * e) 0 = nI (fr e) ∧ σ (30 + 3 * e) 1 = nI (to e) ∧ fr e < 8 ∧ to e < 8) (m : Int32) (b : Nat) : ∀ n, n ≤ ne → (tB (rfF σ m n) b = true ↔ ∃ e, e < n ∧ tB m (fr e) = true ∧ to e = b) := by
  intro n
  induction n with
  | zero =>
    intro _
    show tB (nI 0) b = true ↔ _
    rw [tB_0]
    exact ⟨(fun h => by cases h), fun ⟨e, h, _⟩ => absurd h (Nat.not_lt_zero e)⟩
  | succ n ih =>
    intro hn
    obtain ⟨h1, h2, h3, h4⟩ := hE n (by omega)
    have ih := ih (by omega)
    show tB (if m &&& (nI 1 <<< (σ (30 + 3 * n) 0 &&& 31)) = 0 then rfF σ m n else rfF σ m n ||| (nI 1 <<< (σ (30 + 3 * n) 1 &&& 31))) b = true ↔ _
    rw [h1, h2]
    by_cases hz : m &&& (nI 1 <<< (nI (fr n) &&& 31)) = 0
    · rw [if_pos hz, ih]
      have hz2 := (tB_if (by omega)).mp hz
      constructor
      · rintro ⟨e, h5, h6⟩
        exact ⟨e, by omega, h6⟩
      · rintro ⟨e, h5, h6, h7⟩
        by_cases hen : e = n
        · rw [hen, hz2] at h6
          cases h6
        · exact ⟨e, by omega, h6, h7⟩
    · rw [if_neg hz, tB_or, tB_1 (by omega), Bool.or_eq_true, ih, decide_eq_true_iff]
      have hz2 : tB m (fr n) = true := by
        cases h : tB m (fr n) with
        | true => rfl
        | false => exact absurd ((tB_if (by omega)).mpr h) hz
      constructor
      · rintro (⟨e, h5, h6⟩ | h5)
        · exact ⟨e, by omega, h6⟩
        · exact ⟨n, by omega, hz2, h5.symm⟩
      · rintro ⟨e, h5, h6, h7⟩
        by_cases hen : e = n
        · exact Or.inr (by rw [← h7, hen])
        · exact Or.inl ⟨e, by omega, h6, h7⟩
theorem iwL_t {σ : wd_S} {N : Nat} {K : Nat → Bool} (hN : N ≤ 8) (hK : ∀ v, v < N → (σ (6 + 3 * v) 0 = nI 4 ↔ K v = false)) (b : Nat) : ∀ n, n ≤ N → (tB (iwL σ n) b = true ↔ b < n ∧ K b = true) := by
  intro n
  induction n with
  | zero =>
    intro _
    show tB (nI 0) b = true ↔ _
    rw [tB_0]
    exact ⟨(fun h => by cases h), fun ⟨h, _⟩ => absurd h (Nat.not_lt_zero b)⟩
  | succ n ih =>
    intro hn
    have ih := ih (by omega)
    have hk := hK n (by omega)
    show tB (if σ (6 + 3 * n) 0 = nI 4 then iwL σ n else iwL σ n ||| (nI 1 <<< (nI n &&& 31))) b = true ↔ _
    by_cases hz : σ (6 + 3 * n) 0 = nI 4
    · rw [if_pos hz, ih]
      have hk2 := hk.mp hz
      constructor
      · rintro ⟨h1, h2⟩
        exact ⟨by omega, h2⟩
      · rintro ⟨h1, h2⟩
        refine ⟨?_, h2⟩
        rcases Nat.lt_or_ge b n with h | h
        · exact h
        · have : b = n := by omega
          rw [this, hk2] at h2
          cases h2
    · rw [if_neg hz, tB_or, tB_1 (by omega), Bool.or_eq_true, ih, decide_eq_true_iff]
      constructor
      · rintro (⟨h1, h2⟩ | h1)
        · exact ⟨by omega, h2⟩
        · refine ⟨by omega, ?_⟩
          rw [h1]
          cases h : K n with
          | true => rfl
          | false => exact absurd (hk.mpr h) hz
      · rintro ⟨h1, h2⟩
        rcases Nat.lt_or_ge b n with h | h
        · exact Or.inl ⟨h, h2⟩
        · exact Or.inr (by omega)
/-- behind k rounds those are left that end a way of k steps -/
theorem iwR_t {σ : wd_S} {n ne : Nat} {fr to : Nat → Nat} {K : Nat → Bool} (hn8 : n ≤ 8) (hE : ∀ e, e < ne → σ (30 + 3 * e) 0 = nI (fr e) ∧ σ (30 + 3 * e) 1 = nI (to e) ∧ fr e < n ∧ to e < n) (hK : ∀ v, v < n → (σ (6 + 3 * v) 0 = nI 4 ↔ K v = false)) (k : Nat) : ∀ b, tB (iwR σ ne (iwL σ n) k) b = true ↔ ∃ p : Nat → Nat, p k = b ∧ (∀ i, i ≤ k → p i < n ∧ K (p i) = true) ∧ ∀ i, i < k → rgS ne fr to K (p i) (p (i + 1)) := by
  have hE2 : ∀ e, e < ne → σ (30 + 3 * e) 0 = nI (fr e) ∧ σ (30 + 3 * e) 1 = nI (to e) ∧ fr e < 8 ∧ to e < 8 := fun e he => by
    obtain ⟨h1, h2, h3, h4⟩ := hE e he
    exact ⟨h1, h2, by omega, by omega⟩
  induction k with
  | zero =>
    intro b
    show tB (iwL σ n) b = true ↔ _
    rw [iwL_t hn8 hK b n (Nat.le_refl _)]
    constructor
    · intro h
      exact ⟨fun _ => b, rfl, fun _ _ => h, fun i hi => absurd hi (Nat.not_lt_zero i)⟩
    · rintro ⟨p, h1, h2, -⟩
      rw [← h1]
      exact h2 0 (Nat.le_refl _)
  | succ k ih =>
    intro b
    show tB (iwR σ ne (iwL σ n) k &&& rfF σ (iwR σ ne (iwL σ n) k) ne) b = true ↔ _
    rw [tB_and, Bool.and_eq_true, rfF_t hE2 _ b ne (Nat.le_refl _), ih b]
    constructor
    · rintro ⟨⟨p0, a1, a2, -⟩, e, h1, h2, h3⟩
      obtain ⟨p, h4, h5, h6⟩ := (ih _).mp h2
      have hb := a2 k (Nat.le_refl _)
      rw [a1] at hb
      refine ⟨fun i => if i ≤ k then p i else b, ?_, fun i hi => ?_, fun i hi => ?_⟩
      · show (if k + 1 ≤ k then p (k + 1) else b) = b
        rw [if_neg (by omega)]
      · show (if i ≤ k then p i else b) < n ∧ K (if i ≤ k then p i else b) = true
        by_cases hik : i ≤ k
        · rw [if_pos hik]
          exact h5 i hik
        · rw [if_neg hik]
          exact hb
      · show rgS ne fr to K (if i ≤ k then p i else b) (if i + 1 ≤ k then p (i + 1) else b)
        rw [if_pos (by omega)]
        by_cases hik : i < k
        · rw [if_pos (by omega)]
          exact h6 i hik
        · rw [if_neg (by omega)]
          have : i = k := by omega
          rw [this, h4]
          exact ⟨e, h1, rfl, h3, hb.2⟩
    · rintro ⟨p, h1, h2, h3⟩
      obtain ⟨e, e1, e2, e3, e4⟩ := h3 k (by omega)
      refine ⟨⟨fun i => p (i + 1), h1, fun i hi => h2 (i + 1) (by omega), fun i hi => h3 (i + 1) (by omega)⟩, e, e1, ?_, by rw [e3, h1]⟩
      exact (ih _).mpr ⟨p, e2.symm, fun i hi => h2 i (by omega), fun i hi => h3 i (by omega)⟩
theorem iw_ring {σ : wd_S} {n ne : Nat} {fr to : Nat → Nat} {K : Nat → Bool} (hn8 : n ≤ 8) (hE : ∀ e, e < ne → σ (30 + 3 * e) 0 = nI (fr e) ∧ σ (30 + 3 * e) 1 = nI (to e) ∧ fr e < n ∧ to e < n) (hK : ∀ v, v < n → (σ (6 + 3 * v) 0 = nI 4 ↔ K v = false)) : iwR σ ne (iwL σ n) 8 = 0 ↔ ¬ rgR n ne fr to K := by
  have ht := iwR_t hn8 hE hK
  constructor
  · rintro hz ⟨v, h1, h2, k, p, p0, pk, ps⟩
    -- go round the ring
    have hm : ∀ i, p (i % (k + 1)) < n ∧ K (p (i % (k + 1))) = true ∧ rgS ne fr to K (p (i % (k + 1))) (p ((i + 1) % (k + 1))) := by
      intro i
      have hl : i % (k + 1) < k + 1 := Nat.mod_lt _ (by omega)
      have hs := ps (i % (k + 1)) (by omega)
      have hnx : p ((i + 1) % (k + 1)) = p (i % (k + 1) + 1) := by
        rw [Nat.add_mod]
        by_cases hk0 : k = 0
        · subst hk0
          rw [Nat.mod_one, Nat.mod_one, p0, ← pk]
        · rw [Nat.mod_eq_of_lt (show 1 < k + 1 by omega)]
          by_cases hik : i % (k + 1) + 1 = k + 1
          · rw [hik, Nat.mod_self, p0, pk]
          · rw [Nat.mod_eq_of_lt (by omega)]
      have hin : ∀ j, j ≤ k → p j < n ∧ K (p j) = true := by
        intro j hj
        cases j with
        | zero => rw [p0]; exact ⟨h1, h2⟩
        | succ j =>
          obtain ⟨e, e1, e2, e3, e4⟩ := ps j (by omega)
          refine ⟨?_, e4⟩
          rw [← e3]
          exact (hE e e1).2.2.2
      obtain ⟨a, b⟩ := hin _ (show i % (k + 1) ≤ k by omega)
      rw [hnx]
      exact ⟨a, b, hs⟩
    have h3 := (ht 8 _).mpr ⟨fun i => p (i % (k + 1)), rfl, fun i _ => ⟨(hm i).1, (hm i).2.1⟩, fun i _ => (hm i).2.2⟩
    rw [show iwR σ ne (iwL σ n) 8 = nI 0 from hz, tB_0] at h3
    cases h3
  · intro hr
    refine tB_z.mpr fun b _ => ?_
    cases hb : tB (iwR σ ne (iwL σ n) 8) b with
    | false => rfl
    | true =>
      obtain ⟨p, h1, h2, h3⟩ := (ht 8 b).mp hb
      obtain ⟨i, j, hij, hj, he⟩ := bf_php 8 p (fun i hi => by
        have := (h2 i hi).1
        omega)
      exfalso
      apply hr
      obtain ⟨a, c⟩ := h2 i (by omega)
      refine ⟨p i, a, c, j - i - 1, fun x => p (i + x), rfl, ?_, fun x hx => h3 (i + x) (by omega)⟩
      show p (i + (j - i - 1 + 1)) = p i
      rw [show i + (j - i - 1 + 1) = j by omega, he]
