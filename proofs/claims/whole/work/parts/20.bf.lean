/-! Ways of a point through a graph of at most 8 vertices with nested loops of depth 2 at most: every way may be cut down to at most 23 edges without greater counters. -/
theorem bf_php : ∀ (n : Nat) (f : Nat → Nat), (∀ i, i ≤ n → f i < n) → ∃ i j, i < j ∧ j ≤ n ∧ f i = f j := by
  intro n
  induction n with
  | zero =>
    intro f h
    exact absurd (h 0 (Nat.le_refl 0)) (Nat.not_lt_zero _)
  | succ n ih =>
    intro f h
    by_cases hex : ∃ i, i ≤ n ∧ f i = f (n + 1)
    · obtain ⟨i, hi, he⟩ := hex
      exact ⟨i, n + 1, by omega, Nat.le_refl _, he⟩
    · obtain ⟨i, j, h1, h2, h3⟩ := ih (fun i => if f i = n then f (n + 1) else f i) (fun i hi => by
        have h1 := h i (by omega)
        have h2 := h (n + 1) (Nat.le_refl _)
        have h3 : ¬ f i = f (n + 1) := fun z => hex ⟨i, hi, z⟩
        by_cases hq : f i = n
        · rw [if_pos hq]
          omega
        · rw [if_neg hq]
          omega)
      refine ⟨i, j, h1, by omega, ?_⟩
      have hi : ¬ f i = f (n + 1) := fun z => hex ⟨i, by omega, z⟩
      have hj : ¬ f j = f (n + 1) := fun z => hex ⟨j, by omega, z⟩
      try dsimp only at h3
      by_cases hq : f i = n
      · by_cases hr : f j = n
        · omega
        · rw [if_pos hq, if_neg hr] at h3
          exact absurd h3.symm hj
      · by_cases hr : f j = n
        · rw [if_neg hq, if_pos hr] at h3
          exact absurd h3 hi
        · rw [if_neg hq, if_neg hr] at h3
          exact h3
/-- nine points of a way, one after another: two are one vertex -/
theorem bf_rep {f : Nat → Nat} {l k : Nat} (h : ∀ i, i ≤ k → f i < 8) (hl : l + 8 ≤ k) : ∃ i j, l ≤ i ∧ i < j ∧ j ≤ l + 8 ∧ f i = f j := by
  obtain ⟨i, j, h1, h2, h3⟩ := bf_php 8 (fun i => f (l + i)) (fun i hi => h _ (by omega))
  exact ⟨l + i, l + j, by omega, by omega, by omega, h3⟩
/-- the last place below N with Pr -/
theorem bf_last (Pr : Nat → Prop) (N : Nat) : ∃ n0, n0 ≤ N ∧ (0 < n0 → Pr (n0 - 1)) ∧ ∀ n, n0 ≤ n → n < N → ¬ Pr n := by
  induction N with
  | zero => exact ⟨0, Nat.le_refl 0, fun h => absurd h (Nat.lt_irrefl 0), fun n _ h => absurd h (Nat.not_lt_zero n)⟩
  | succ N ih =>
    by_cases hp : Pr N
    · exact ⟨N + 1, Nat.le_refl _, fun _ => hp, fun n h1 h2 => absurd h2 (by omega)⟩
    · obtain ⟨n0, h1, h2, h3⟩ := ih
      refine ⟨n0, by omega, h2, fun n h4 h5 => ?_⟩
      by_cases hn : n = N
      · rw [hn]
        exact hp
      · exact h3 n h4 (by omega)
/-- counters in their order -/
def bf_le (s t : Nat × Nat) : Prop := s.1 < t.1 ∨ (s.1 = t.1 ∧ s.2 ≤ t.2)
theorem bf_le.refl (t : Nat × Nat) : bf_le t t := Or.inr ⟨rfl, Nat.le_refl _⟩
theorem bf_le.trans {r s t : Nat × Nat} (h1 : bf_le r s) (h2 : bf_le s t) : bf_le r t := by
  unfold bf_le at *
  omega
theorem bf_le.total (s t : Nat × Nat) : bf_le s t ∨ bf_le t s := by
  unfold bf_le
  omega
theorem bf_le.anti {s t : Nat × Nat} (h1 : bf_le s t) (h2 : bf_le t s) : s = t := by
  unfold bf_le at *
  exact Prod.ext (by omega) (by omega)
/-- what a vertex does to counters: 1: the first is 0 (entry or exit of depth 1), 2: the second is 0 (of depth 2), 3: the first grows, 4: the second grows -/
def bf_b (c : Nat) (t : Nat × Nat) : Nat × Nat := if c = 1 then (0, t.2) else if c = 2 then (t.1, 0) else if c = 3 then (t.1 + 1, t.2) else if c = 4 then (t.1, t.2 + 1) else t
theorem bf_b_mono {c : Nat} {s t : Nat × Nat} (hc : c = 1 → s.2 = 0 ∧ t.2 = 0) (h : bf_le s t) : bf_le (bf_b c s) (bf_b c t) := by
  unfold bf_b
  unfold bf_le at h ⊢
  split
  · rename_i h1
    obtain ⟨h2, h3⟩ := hc h1
    dsimp only
    omega
  · split
    · dsimp only
      omega
    · split
      · dsimp only
        omega
      · split
        · dsimp only
          omega
        · exact h
theorem bf_b_fst {c : Nat} {s t : Nat × Nat} (h : s.1 ≤ t.1) : (bf_b c s).1 ≤ (bf_b c t).1 := by
  unfold bf_b
  split
  · exact Nat.le_refl _
  · split
    · exact h
    · split
      · dsimp only
        omega
      · split
        · exact h
        · exact h
/-- what is known of a vertex: what it does, the depth of what comes, the depth of what goes -/
def bf_ok (c di do_ : Nat) : Prop := (c = 0 ∧ di = do_ ∧ di ≤ 2) ∨ (c = 1 ∧ di = 0 ∧ do_ = 1) ∨ (c = 1 ∧ di = 1 ∧ do_ = 0) ∨ (c = 2 ∧ di = 1 ∧ do_ = 2) ∨ (c = 2 ∧ di = 2 ∧ do_ = 1) ∨ (c = 3 ∧ di = 1 ∧ do_ = 1) ∨ (c = 4 ∧ di = 2 ∧ do_ = 2)
/-- a time of this depth has no counters beyond it -/
def bf_dp (d : Nat) (t : Nat × Nat) : Prop := (d = 0 → t = (0, 0)) ∧ (d = 1 → t.2 = 0)
theorem bf_dp_b {c di do_ : Nat} {t : Nat × Nat} (h : bf_ok c di do_) (ht : bf_dp di t) : bf_dp do_ (bf_b c t) := by
  obtain ⟨h0, h1⟩ := ht
  rcases h with ⟨rfl, rfl, -⟩ | ⟨rfl, rfl, rfl⟩ | ⟨rfl, rfl, rfl⟩ | ⟨rfl, rfl, rfl⟩ | ⟨rfl, rfl, rfl⟩ | ⟨rfl, rfl, rfl⟩ | ⟨rfl, rfl, rfl⟩
  · exact ⟨h0, h1⟩
  · refine ⟨fun z => absurd z (by decide), fun _ => ?_⟩
    rw [h0 rfl]
    rfl
  · refine ⟨fun _ => ?_, fun z => absurd z (by decide)⟩
    show ((0 : Nat), t.2) = (0, 0)
    rw [h1 rfl]
  · exact ⟨fun z => absurd z (by decide), fun z => absurd z (by decide)⟩
  · exact ⟨fun z => absurd z (by decide), fun _ => rfl⟩
  · exact ⟨fun z => absurd z (by decide), fun _ => h1 rfl⟩
  · exact ⟨fun z => absurd z (by decide), fun z => absurd z (by decide)⟩
section BF
variable {ne u : Nat} {t0 : Nat × Nat} {fr to cd di do_ : Nat → Nat}
/-- the counters at the n-th point of a way p -/
def bf_q (cd : Nat → Nat) (t0 : Nat × Nat) (p : Nat → Nat) : Nat → Nat × Nat
  | 0 => t0
  | n + 1 => bf_b (cd (p n)) (bf_q cd t0 p n)
/-- p is a way of k edges from u -/
def bf_way (ne u : Nat) (fr to : Nat → Nat) (k : Nat) (p : Nat → Nat) : Prop := p 0 = u ∧ ∀ i, i < k → ∃ e, e < ne ∧ fr e = p i ∧ to e = p (i + 1)
/-- a way of k edges comes to v with the counters t -/
def bf_R (ne u : Nat) (t0 : Nat × Nat) (fr to cd : Nat → Nat) (k v : Nat) (t : Nat × Nat) : Prop := ∃ p, bf_way ne u fr to k p ∧ p k = v ∧ bf_q cd t0 p k = t
theorem bf_q_congr {p p' : Nat → Nat} : ∀ n, (∀ i, i < n → p i = p' i) → bf_q cd t0 p n = bf_q cd t0 p' n := by
  intro n
  induction n with
  | zero => intro _; rfl
  | succ n ih =>
    intro h
    unfold bf_q
    rw [ih fun i hi => h i (by omega), h n (by omega)]
theorem bf_R_0 : bf_R ne u t0 fr to cd 0 u t0 := ⟨fun _ => u, ⟨rfl, fun i h => absurd h (Nat.not_lt_zero i)⟩, rfl, rfl⟩
theorem bf_R_s {k e : Nat} {t : Nat × Nat} (h : bf_R ne u t0 fr to cd k (fr e) t) (he : e < ne) : bf_R ne u t0 fr to cd (k + 1) (to e) (bf_b (cd (fr e)) t) := by
  obtain ⟨p, ⟨h0, hp⟩, hk, hq⟩ := h
  obtain ⟨p', hp'⟩ : ∃ p' : Nat → Nat, ∀ n, p' n = if n = k + 1 then to e else p n := ⟨_, fun _ => rfl⟩
  have hlt : ∀ n, n ≤ k → p' n = p n := fun n hn => by rw [hp', if_neg (by omega)]
  have hlast : p' (k + 1) = to e := by rw [hp', if_pos rfl]
  refine ⟨p', ⟨by rw [hlt 0 (by omega)]; exact h0, fun i hi => ?_⟩, hlast, ?_⟩
  · by_cases hik : i = k
    · subst hik
      exact ⟨e, he, by rw [hlt i (Nat.le_refl _)]; exact hk.symm, hlast.symm⟩
    · obtain ⟨e', h1, h2, h3⟩ := hp i (by omega)
      exact ⟨e', h1, by rw [hlt i (by omega)]; exact h2, by rw [hlt (i + 1) (by omega)]; exact h3⟩
  · show bf_b (cd (p' k)) (bf_q cd t0 p' k) = _
    rw [hlt k (Nat.le_refl _), hk, bf_q_congr (p' := p) k fun i hi => hlt i (by omega), hq]
/-- the graph -/
def bf_gr (ne u : Nat) (t0 : Nat × Nat) (fr to cd di do_ : Nat → Nat) : Prop := u < 8 ∧ bf_dp (di u) t0 ∧ (∀ v, v < 8 → bf_ok (cd v) (di v) (do_ v)) ∧ ∀ e, e < ne → fr e < 8 ∧ to e < 8 ∧ do_ (fr e) = di (to e)
theorem bf_way_lt (G : bf_gr ne u t0 fr to cd di do_) {k : Nat} {p : Nat → Nat} (h : bf_way ne u fr to k p) : ∀ i, i ≤ k → p i < 8 := by
  intro i hi
  cases i with
  | zero =>
    rw [h.1]
    exact G.1
  | succ i =>
    obtain ⟨e, h1, h2, h3⟩ := h.2 i (by omega)
    rw [← h3]
    exact (G.2.2.2 e h1).2.1
theorem bf_way_dp (G : bf_gr ne u t0 fr to cd di do_) {k : Nat} {p : Nat → Nat} (h : bf_way ne u fr to k p) : ∀ i, i ≤ k → bf_dp (di (p i)) (bf_q cd t0 p i) := by
  intro i
  induction i with
  | zero =>
    intro _
    rw [h.1]
    exact G.2.1
  | succ i ih =>
    intro hi
    obtain ⟨e, h1, h2, h3⟩ := h.2 i (by omega)
    have hd := bf_dp_b (G.2.2.1 _ (bf_way_lt G h i (by omega))) (ih (by omega))
    have h4 := (G.2.2.2 e h1).2.2
    rw [h2, h3] at h4
    rw [← h4]
    exact hd
/-- from point a of the one way and point b of the other on: the same steps keep the order -/
theorem bf_keep (G : bf_gr ne u t0 fr to cd di do_) {k k' : Nat} {p p' : Nat → Nat} (h : bf_way ne u fr to k p) (h' : bf_way ne u fr to k' p') {a b : Nat} : ∀ n, a + n ≤ k' → b + n ≤ k → (∀ i, i ≤ n → p' (a + i) = p (b + i)) → bf_le (bf_q cd t0 p' a) (bf_q cd t0 p b) → bf_le (bf_q cd t0 p' (a + n)) (bf_q cd t0 p (b + n)) := by
  intro n
  induction n with
  | zero => intro _ _ _ h; exact h
  | succ n ih =>
    intro h1 h2 h3 h4
    have hz := ih (by omega) (by omega) (fun i hi => h3 i (by omega)) h4
    show bf_le (bf_b (cd (p' (a + n))) (bf_q cd t0 p' (a + n))) (bf_b (cd (p (b + n))) (bf_q cd t0 p (b + n)))
    rw [h3 n (by omega)]
    refine bf_b_mono (fun hc => ?_) hz
    have hd := bf_way_dp G h (b + n) (by omega)
    have hd' := bf_way_dp G h' (a + n) (by omega)
    rw [h3 n (by omega)] at hd'
    have ho := G.2.2.1 _ (bf_way_lt G h (b + n) (by omega))
    have hdi : di (p (b + n)) = 0 ∨ di (p (b + n)) = 1 := by
      unfold bf_ok at ho
      omega
    rcases hdi with hdi | hdi
    · rw [hd'.1 hdi, hd.1 hdi]
      exact ⟨rfl, rfl⟩
    · exact ⟨hd'.2 hdi, hd.2 hdi⟩
theorem bf_keep1 {p p' : Nat → Nat} {a b : Nat} : ∀ n, (∀ i, i < n → p' (a + i) = p (b + i)) → (bf_q cd t0 p' a).1 ≤ (bf_q cd t0 p b).1 → (bf_q cd t0 p' (a + n)).1 ≤ (bf_q cd t0 p (b + n)).1 := by
  intro n
  induction n with
  | zero => intro _ h; exact h
  | succ n ih =>
    intro h3 h4
    have hz := ih (fun i hi => h3 i (by omega)) h4
    show (bf_b (cd (p' (a + n))) (bf_q cd t0 p' (a + n))).1 ≤ (bf_b (cd (p (b + n))) (bf_q cd t0 p (b + n))).1
    rw [h3 n (by omega)]
    exact bf_b_fst hz
/-- the way without what lies between two points that are one vertex -/
theorem bf_cut {k i j : Nat} {p p' : Nat → Nat} (h : bf_way ne u fr to k p) (hij : i < j) (hj : j ≤ k) (he : p i = p j) (hp' : ∀ n, p' n = if n ≤ i then p n else p (n + (j - i))) : bf_way ne u fr to (k - (j - i)) p' := by
  have hlo : ∀ n, n ≤ i → p' n = p n := fun n hn => by rw [hp', if_pos hn]
  have hhi : ∀ n, i ≤ n → p' n = p (n + (j - i)) := fun n hn => by
    by_cases hni : n = i
    · subst hni
      rw [hlo n (Nat.le_refl _), show n + (j - n) = j by omega]
      exact he
    · rw [hp', if_neg (by omega)]
  refine ⟨by rw [hlo 0 (Nat.zero_le _)]; exact h.1, fun n hn => ?_⟩
  by_cases h1 : n < i
  · obtain ⟨e, a1, a2, a3⟩ := h.2 n (by omega)
    exact ⟨e, a1, by rw [hlo n (by omega)]; exact a2, by rw [hlo (n + 1) (by omega)]; exact a3⟩
  · obtain ⟨e, a1, a2, a3⟩ := h.2 (n + (j - i)) (by omega)
    refine ⟨e, a1, by rw [hhi n (by omega)]; exact a2, ?_⟩
    rw [hhi (n + 1) (by omega), show n + 1 + (j - i) = n + (j - i) + 1 by omega]
    exact a3
theorem bf_short1 (G : bf_gr ne u t0 fr to cd di do_) {k v : Nat} {t : Nat × Nat} (hR : bf_R ne u t0 fr to cd k v t) (hk : 24 ≤ k) : ∃ k' t', k' < k ∧ bf_R ne u t0 fr to cd k' v t' ∧ bf_le t' t := by
  obtain ⟨p, hp, hpk, hq⟩ := hR
  have hlt := bf_way_lt G hp
  have hdp := bf_way_dp G hp
  obtain ⟨n0, a1, a2, a3⟩ := bf_last (fun n => di (p n) = 0) (k + 1)
  obtain ⟨n1, b1, b2, b3⟩ := bf_last (fun n => di (p n) ≤ 1) (k + 1)
  have h01 : n0 ≤ n1 := by
    rcases Nat.lt_or_ge n1 n0 with z | z
    · exact absurd (by show di (p (n0 - 1)) ≤ 1; rw [a2 (by omega)]; omega) (b3 (n0 - 1) (by omega) (by omega))
    · exact z
  -- the way that is left, and its order with the whole one from a point m on
  have fin : ∀ (i j m : Nat) (p' : Nat → Nat), (∀ n, p' n = if n ≤ i then p n else p (n + (j - i))) → (∀ x, p' (i + x) = p (j + x)) → i < j → j ≤ k → p i = p j → j ≤ m → m ≤ k → bf_le (bf_q cd t0 p' (m - (j - i))) (bf_q cd t0 p m) → ∃ k' t', k' < k ∧ bf_R ne u t0 fr to cd k' v t' ∧ bf_le t' t := by
    intro i j m p' hp' hpe hij hj he hjm hmk hle
    have hw := bf_cut hp hij hj he hp'
    refine ⟨k - (j - i), _, by omega, ⟨p', hw, ?_, rfl⟩, ?_⟩
    · have h1 := hpe (k - j)
      rw [show i + (k - j) = k - (j - i) by omega, show j + (k - j) = k by omega] at h1
      exact h1.trans hpk
    · have h2 := bf_keep (cd := cd) (t0 := t0) G hp hw (a := m - (j - i)) (b := m) (k - m) (by omega) (by omega) (fun x hx => by
        have h1 := hpe (m - j + x)
        rw [show i + (m - j + x) = m - (j - i) + x by omega, show j + (m - j + x) = m + x by omega] at h1
        exact h1) hle
      rw [show m - (j - i) + (k - m) = k - (j - i) by omega, show m + (k - m) = k by omega, hq] at h2
      exact h2
  have mk : ∀ i j, i < j → p i = p j → ∃ p' : Nat → Nat, (∀ n, p' n = if n ≤ i then p n else p (n + (j - i))) ∧ (∀ x, p' (i + x) = p (j + x)) ∧ ∀ n, n ≤ i → bf_q cd t0 p' n = bf_q cd t0 p n := by
    intro i j hij he
    obtain ⟨p', hp'⟩ : ∃ p' : Nat → Nat, ∀ n, p' n = if n ≤ i then p n else p (n + (j - i)) := ⟨_, fun _ => rfl⟩
    refine ⟨p', hp', fun x => ?_, fun n hn => bf_q_congr n fun x hx => by rw [hp', if_pos (by omega)]⟩
    by_cases hx : x = 0
    · subst hx
      rw [hp', if_pos (by omega)]
      exact he
    · rw [hp', if_neg (by omega), show i + x + (j - i) = j + x by omega]
  rcases Nat.lt_or_ge n0 9 with z0 | z0
  · rcases Nat.lt_or_ge (n1 - n0) 9 with z1 | z1
    · -- the last piece: depth 2
      obtain ⟨i, j, c1, c2, c3, c4⟩ := bf_rep (l := n1) hlt (by omega)
      obtain ⟨p', hp', hpe, heq⟩ := mk i j c2 c4
      refine fin i j j p' hp' hpe c2 (by omega) c4 (Nat.le_refl _) (by omega) ?_
      rw [show j - (j - i) = i by omega, heq i (Nat.le_refl _)]
      have hst : ∀ x, i + x ≤ j → bf_le (bf_q cd t0 p i) (bf_q cd t0 p (i + x)) := by
        intro x
        induction x with
        | zero => intro _; exact bf_le.refl _
        | succ x ih =>
          intro hx
          refine (ih (by omega)).trans ?_
          show bf_le _ (bf_b (cd (p (i + x))) (bf_q cd t0 p (i + x)))
          have ho := G.2.2.1 _ (hlt (i + x) (by omega))
          obtain ⟨e, e1, e2, e3⟩ := hp.2 (i + x) (by omega)
          have hd := (G.2.2.2 e e1).2.2
          rw [e2, e3] at hd
          have f1 : ¬ di (p (i + x)) ≤ 1 := b3 (i + x) (by omega) (by omega)
          have f2 : ¬ di (p (i + x + 1)) ≤ 1 := b3 (i + x + 1) (by omega) (by omega)
          have hc : cd (p (i + x)) = 0 ∨ cd (p (i + x)) = 4 := by
            unfold bf_ok at ho
            omega
          rcases hc with hc | hc
          · rw [hc]
            exact bf_le.refl _
          · rw [hc]
            exact Or.inr ⟨rfl, Nat.le_succ _⟩
      have h1 := hst (j - i) (by omega)
      rw [show i + (j - i) = j by omega] at h1
      exact h1
    · -- the middle piece: depth 1 at its end
      obtain ⟨i, j, c1, c2, c3, c4⟩ := bf_rep (l := n0) hlt (by omega)
      obtain ⟨p', hp', hpe, heq⟩ := mk i j c2 c4
      refine fin i j (n1 - 1) p' hp' hpe c2 (by omega) c4 (by omega) (by omega) ?_
      have hw := bf_cut hp c2 (by omega) c4 hp'
      have hst : ∀ x, i + x ≤ j → (bf_q cd t0 p i).1 ≤ (bf_q cd t0 p (i + x)).1 := by
        intro x
        induction x with
        | zero => intro _; exact Nat.le_refl _
        | succ x ih =>
          intro hx
          refine Nat.le_trans (ih (by omega)) ?_
          show _ ≤ (bf_b (cd (p (i + x))) (bf_q cd t0 p (i + x))).1
          have ho := G.2.2.1 _ (hlt (i + x) (by omega))
          obtain ⟨e, e1, e2, e3⟩ := hp.2 (i + x) (by omega)
          have hd := (G.2.2.2 e e1).2.2
          rw [e2, e3] at hd
          have f1 : ¬ di (p (i + x)) = 0 := a3 (i + x) (by omega) (by omega)
          have f2 : ¬ di (p (i + x + 1)) = 0 := a3 (i + x + 1) (by omega) (by omega)
          have hc : ¬ cd (p (i + x)) = 1 := by
            unfold bf_ok at ho
            omega
          unfold bf_b
          rw [if_neg hc]
          split
          · exact Nat.le_refl _
          · split
            · exact Nat.le_succ _
            · split
              · exact Nat.le_refl _
              · exact Nat.le_refl _
      have h1 := hst (j - i) (by omega)
      rw [show i + (j - i) = j by omega] at h1
      have h2 := bf_keep1 (cd := cd) (t0 := t0) (p := p) (p' := p') (a := i) (b := j) (n1 - 1 - j) (fun x _ => hpe x) (by rw [heq i (Nat.le_refl _)]; exact h1)
      rw [show i + (n1 - 1 - j) = n1 - 1 - (j - i) by omega, show j + (n1 - 1 - j) = n1 - 1 by omega] at h2
      have hd1 : di (p (n1 - 1)) = 1 := by
        have y1 : di (p (n1 - 1)) ≤ 1 := b2 (by omega)
        have y2 : ¬ di (p (n1 - 1)) = 0 := a3 (n1 - 1) (by omega) (by omega)
        omega
      have s1 := (hdp (n1 - 1) (by omega)).2 hd1
      have s2 := bf_way_dp (cd := cd) (t0 := t0) G hw (n1 - 1 - (j - i)) (by omega)
      have hpz := hpe (n1 - 1 - j)
      rw [show i + (n1 - 1 - j) = n1 - 1 - (j - i) by omega, show j + (n1 - 1 - j) = n1 - 1 by omega] at hpz
      rw [hpz] at s2
      have s3 := s2.2 hd1
      unfold bf_le
      rw [s1, s3]
      omega
  · -- the first piece: depth 0 at its end
    obtain ⟨i, j, c1, c2, c3, c4⟩ := bf_rep (l := 0) hlt (by omega)
    obtain ⟨p', hp', hpe, heq⟩ := mk i j c2 c4
    refine fin i j (n0 - 1) p' hp' hpe c2 (by omega) c4 (by omega) (by omega) ?_
    have hw := bf_cut hp c2 (by omega) c4 hp'
    have hd0 : di (p (n0 - 1)) = 0 := a2 (by omega)
    have s2 := bf_way_dp (cd := cd) (t0 := t0) G hw (n0 - 1 - (j - i)) (by omega)
    have hpz := hpe (n0 - 1 - j)
    rw [show i + (n0 - 1 - j) = n0 - 1 - (j - i) by omega, show j + (n0 - 1 - j) = n0 - 1 by omega] at hpz
    rw [hpz] at s2
    rw [s2.1 hd0]
    rw [(hdp (n0 - 1) (by omega)).1 hd0]
    exact bf_le.refl _
/-- every way may be cut down to 23 edges at most -/
theorem bf_short (G : bf_gr ne u t0 fr to cd di do_) : ∀ (k v : Nat) (t : Nat × Nat), bf_R ne u t0 fr to cd k v t → ∃ k' t', k' ≤ 23 ∧ bf_R ne u t0 fr to cd k' v t' ∧ bf_le t' t := by
  intro k
  induction k using Nat.strongRecOn with
  | _ k ih =>
    intro v t hR
    by_cases hk : 24 ≤ k
    · obtain ⟨k1, t1, h1, h2, h3⟩ := bf_short1 G hR hk
      obtain ⟨k2, t2, g1, g2, g3⟩ := ih k1 h1 v t1 h2
      exact ⟨k2, t2, g1, g2, g3.trans h3⟩
    · exact ⟨k, t, by omega, hR, bf_le.refl _⟩
end BF
