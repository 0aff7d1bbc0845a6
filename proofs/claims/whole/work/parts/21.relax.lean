/-! Least counters, worked out edge by edge: 24 rounds are enough. -/
abbrev rx_E : Type := Nat → Option (Nat × Nat)
/-- none is later than all -/
def rx_ole (s t : Option (Nat × Nat)) : Prop := ∀ y, t = some y → ∃ x, s = some x ∧ bf_le x y
theorem rx_ole.refl (s : Option (Nat × Nat)) : rx_ole s s := fun y h => ⟨y, h, bf_le.refl y⟩
theorem rx_ole.trans {r s t : Option (Nat × Nat)} (h1 : rx_ole r s) (h2 : rx_ole s t) : rx_ole r t := by
  intro y hy
  obtain ⟨x, hx, hxy⟩ := h2 y hy
  obtain ⟨z, hz, hzx⟩ := h1 x hx
  exact ⟨z, hz, hzx.trans hxy⟩
/-- is what is there no later than t? -/
def rx_has (o : Option (Nat × Nat)) (t : Nat × Nat) : Bool := match o with
  | none => false
  | some s => decide (s.1 < t.1) || (decide (s.1 = t.1) && decide (s.2 ≤ t.2))
theorem rx_has_iff {o : Option (Nat × Nat)} {t : Nat × Nat} : rx_has o t = true ↔ ∃ s, o = some s ∧ bf_le s t := by
  cases o with
  | none =>
    constructor
    · intro h; cases h
    · rintro ⟨s, h, -⟩; cases h
  | some s =>
    unfold rx_has bf_le
    simp
def rx_put (E : rx_E) (d : Nat) (t : Nat × Nat) : rx_E := if rx_has (E d) t = true then E else fun v => if v = d then some t else E v
def rx_step (E : rx_E) (s d c : Nat) : rx_E := match E s with
  | none => E
  | some t => rx_put E d (bf_b c t)
/-- does the step change anything? -/
def rx_ch (E : rx_E) (s d c : Nat) : Bool := match E s with
  | none => false
  | some t => !(rx_has (E d) (bf_b c t))
theorem rx_put_has {E : rx_E} {d : Nat} {t : Nat × Nat} (h : rx_has (E d) t = true) : rx_put E d t = E := by
  unfold rx_put
  rw [if_pos h]
theorem rx_put_new {E : rx_E} {d : Nat} {t : Nat × Nat} (h : ¬ rx_has (E d) t = true) (v : Nat) : rx_put E d t v = if v = d then some t else E v := by
  unfold rx_put
  rw [if_neg h]
theorem rx_step_none {E : rx_E} {s d c : Nat} (h : E s = none) : rx_step E s d c = E := by
  unfold rx_step
  rw [h]
theorem rx_step_some {E : rx_E} {s d c : Nat} {t : Nat × Nat} (h : E s = some t) : rx_step E s d c = rx_put E d (bf_b c t) := by
  unfold rx_step
  rw [h]
theorem rx_put_le (E : rx_E) (d : Nat) (t : Nat × Nat) (v : Nat) : rx_ole (rx_put E d t v) (E v) := by
  by_cases h : rx_has (E d) t = true
  · rw [rx_put_has h]
    exact rx_ole.refl _
  · rw [rx_put_new h]
    by_cases hv : v = d
    · intro y hy
      refine ⟨t, by rw [if_pos hv], ?_⟩
      rcases bf_le.total y t with z | z
      · exact absurd (rx_has_iff.mpr ⟨y, by rw [← hv]; exact hy, z⟩) h
      · exact z
    · rw [if_neg hv]
      exact rx_ole.refl _
theorem rx_put_at (E : rx_E) (d : Nat) (t : Nat × Nat) : ∃ x, rx_put E d t d = some x ∧ bf_le x t := by
  by_cases h : rx_has (E d) t = true
  · rw [rx_put_has h]
    exact rx_has_iff.mp h
  · exact ⟨t, by rw [rx_put_new h, if_pos rfl], bf_le.refl t⟩
theorem rx_put_val (E : rx_E) (d : Nat) (t : Nat × Nat) (v : Nat) (y : Nat × Nat) (h : rx_put E d t v = some y) : (v = d ∧ y = t) ∨ E v = some y := by
  by_cases hh : rx_has (E d) t = true
  · rw [rx_put_has hh] at h
    exact Or.inr h
  · rw [rx_put_new hh] at h
    by_cases hv : v = d
    · rw [if_pos hv] at h
      exact Or.inl ⟨hv, (Option.some.inj h).symm⟩
    · rw [if_neg hv] at h
      exact Or.inr h
theorem rx_step_le (E : rx_E) (s d c v : Nat) : rx_ole (rx_step E s d c v) (E v) := by
  cases hs : E s with
  | none =>
    rw [rx_step_none hs]
    exact rx_ole.refl _
  | some t =>
    rw [rx_step_some hs]
    exact rx_put_le _ _ _ _
theorem rx_step_same {E : rx_E} {s d c : Nat} (h : rx_ch E s d c = false) : rx_step E s d c = E := by
  unfold rx_ch at h
  cases hs : E s with
  | none => exact rx_step_none hs
  | some t =>
    rw [hs] at h
    have h2 : rx_has (E d) (bf_b c t) = true := by simpa using h
    rw [rx_step_some hs]
    exact rx_put_has h2
/-- the first n edges of a round -/
def rx_r (fr to cd : Nat → Nat) (E : rx_E) : Nat → rx_E
  | 0 => E
  | n + 1 => rx_step (rx_r fr to cd E n) (fr n) (to n) (cd (fr n))
def rx_rc (fr to cd : Nat → Nat) (E : rx_E) : Nat → Bool
  | 0 => false
  | n + 1 => rx_rc fr to cd E n || rx_ch (rx_r fr to cd E n) (fr n) (to n) (cd (fr n))
theorem rx_r_same {fr to cd : Nat → Nat} {E : rx_E} : ∀ n, rx_rc fr to cd E n = false → rx_r fr to cd E n = E ∧ ∀ e, e < n → rx_ch E (fr e) (to e) (cd (fr e)) = false := by
  intro n
  induction n with
  | zero => intro _; exact ⟨rfl, fun e h => absurd h (Nat.not_lt_zero e)⟩
  | succ n ih =>
    intro h
    unfold rx_rc at h
    rw [Bool.or_eq_false_iff] at h
    obtain ⟨h1, h2⟩ := ih h.1
    have h3 := h.2
    rw [h1] at h3
    refine ⟨?_, fun e he => ?_⟩
    · unfold rx_r
      rw [h1]
      exact rx_step_same h3
    · by_cases hen : e = n
      · subst hen
        exact h3
      · exact h2 e (by omega)
section RX
variable {ne u : Nat} {t0 : Nat × Nat} {fr to cd di do_ : Nat → Nat}
/-- every value is that of a way, and not great -/
def rx_ok (ne u : Nat) (t0 : Nat × Nat) (fr to cd : Nat → Nat) (B : Nat) (E : rx_E) : Prop := ∀ v t, E v = some t → (∃ k, bf_R ne u t0 fr to cd k v t) ∧ t.1 ≤ B ∧ t.2 ≤ B
theorem bf_b_bnd {c B : Nat} {t : Nat × Nat} (h1 : t.1 ≤ B) (h2 : t.2 ≤ B) : (bf_b c t).1 ≤ B + 1 ∧ (bf_b c t).2 ≤ B + 1 := by
  unfold bf_b
  split
  · exact ⟨Nat.zero_le _, by dsimp only; omega⟩
  · split
    · exact ⟨by dsimp only; omega, Nat.zero_le _⟩
    · split
      · exact ⟨by dsimp only; omega, by dsimp only; omega⟩
      · split
        · exact ⟨by dsimp only; omega, by dsimp only; omega⟩
        · exact ⟨by omega, by omega⟩
theorem rx_step_ok {E : rx_E} {B e : Nat} (h : rx_ok ne u t0 fr to cd B E) (he : e < ne) : rx_ok ne u t0 fr to cd (B + 1) (rx_step E (fr e) (to e) (cd (fr e))) := by
  intro v t hv
  cases hs : E (fr e) with
  | none =>
    rw [rx_step_none hs] at hv
    obtain ⟨h1, h2, h3⟩ := h v t hv
    exact ⟨h1, by omega, by omega⟩
  | some s =>
    rw [rx_step_some hs] at hv
    rcases rx_put_val _ _ _ _ _ hv with ⟨rfl, rfl⟩ | h4
    · obtain ⟨⟨k, hk⟩, h2, h3⟩ := h _ _ hs
      exact ⟨⟨k + 1, bf_R_s hk he⟩, bf_b_bnd h2 h3⟩
    · obtain ⟨h1, h2, h3⟩ := h v t h4
      exact ⟨h1, by omega, by omega⟩
theorem rx_r_ok {E : rx_E} {B : Nat} (h : rx_ok ne u t0 fr to cd B E) : ∀ n, n ≤ ne → rx_ok ne u t0 fr to cd (B + n) (rx_r fr to cd E n) := by
  intro n
  induction n with
  | zero => intro _; exact h
  | succ n ih =>
    intro hn
    exact rx_step_ok (ih (by omega)) (by omega)
theorem rx_r_le {E : rx_E} (v : Nat) : ∀ n m, rx_ole (rx_r fr to cd E (m + n) v) (rx_r fr to cd E m v) := by
  intro n
  induction n with
  | zero => intro m; exact rx_ole.refl _
  | succ n ih =>
    intro m
    exact (rx_step_le _ _ _ _ _).trans (ih m)
theorem bf_R_dp (G : bf_gr ne u t0 fr to cd di do_) {k v : Nat} {t : Nat × Nat} (h : bf_R ne u t0 fr to cd k v t) : bf_dp (di v) t ∧ v < 8 := by
  obtain ⟨p, hp, h1, h2⟩ := h
  have hd := bf_way_dp G hp k (Nat.le_refl _)
  have hl := bf_way_lt G hp k (Nat.le_refl _)
  rw [h1] at hd hl
  rw [h2] at hd
  exact ⟨hd, hl⟩
theorem bf_mono_R (G : bf_gr ne u t0 fr to cd di do_) {k k' v : Nat} {s t : Nat × Nat} (hs : bf_R ne u t0 fr to cd k v s) (ht : bf_R ne u t0 fr to cd k' v t) (h : bf_le s t) : bf_le (bf_b (cd v) s) (bf_b (cd v) t) := by
  obtain ⟨hd, hl⟩ := bf_R_dp G hs
  obtain ⟨hd', -⟩ := bf_R_dp G ht
  refine bf_b_mono (fun hc => ?_) h
  have ho := G.2.2.1 _ hl
  have hdi : di v = 0 ∨ di v = 1 := by
    unfold bf_ok at ho
    omega
  rcases hdi with z | z
  · rw [hd.1 z, hd'.1 z]
    exact ⟨rfl, rfl⟩
  · exact ⟨hd.2 z, hd'.2 z⟩
/-- after a round every edge has been followed from what was there before it -/
theorem rx_r_rel (G : bf_gr ne u t0 fr to cd di do_) {E : rx_E} {B : Nat} (h : rx_ok ne u t0 fr to cd B E) {e : Nat} (he : e < ne) {k : Nat} {t : Nat × Nat} (ht : bf_R ne u t0 fr to cd k (fr e) t) (hE : ∃ x, E (fr e) = some x ∧ bf_le x t) : ∃ x, rx_r fr to cd E ne (to e) = some x ∧ bf_le x (bf_b (cd (fr e)) t) := by
  obtain ⟨x0, hx0, hx1⟩ := hE
  obtain ⟨s, hs, hst⟩ := rx_r_le (fr := fr) (to := to) (cd := cd) (E := E) (fr e) e 0 x0 hx0
  rw [Nat.zero_add] at hs
  have hok := rx_r_ok h e (by omega)
  obtain ⟨⟨k2, hk2⟩, -⟩ := hok _ _ hs
  have h1 : ∃ y, rx_r fr to cd E (e + 1) (to e) = some y ∧ bf_le y (bf_b (cd (fr e)) s) := by
    show ∃ y, rx_step (rx_r fr to cd E e) (fr e) (to e) (cd (fr e)) (to e) = some y ∧ _
    rw [rx_step_some hs]
    exact rx_put_at _ _ _
  obtain ⟨y, hy, hys⟩ := h1
  obtain ⟨z, hz, hzy⟩ := rx_r_le (fr := fr) (to := to) (cd := cd) (E := E) (to e) (ne - (e + 1)) (e + 1) y hy
  rw [show e + 1 + (ne - (e + 1)) = ne by omega] at hz
  exact ⟨z, hz, hzy.trans (hys.trans (bf_mono_R G hk2 ht (hst.trans hx1)))⟩
/-- n rounds -/
def rx_n (fr to cd : Nat → Nat) (ne : Nat) (E : rx_E) : Nat → rx_E
  | 0 => E
  | n + 1 => rx_r fr to cd (rx_n fr to cd ne E n) ne
theorem rx_n_ok {E : rx_E} {B : Nat} (h : rx_ok ne u t0 fr to cd B E) : ∀ n, rx_ok ne u t0 fr to cd (B + n * ne) (rx_n fr to cd ne E n) := by
  intro n
  induction n with
  | zero => rw [Nat.zero_mul]; exact h
  | succ n ih =>
    have := rx_r_ok ih ne (Nat.le_refl _)
    rw [show B + (n + 1) * ne = B + n * ne + ne by rw [Nat.succ_mul]; omega]
    exact this
/-- after n rounds no way of at most n edges is earlier -/
theorem rx_n_le (G : bf_gr ne u t0 fr to cd di do_) {E : rx_E} {B : Nat} (h : rx_ok ne u t0 fr to cd B E) (hu : ∃ x, E u = some x ∧ bf_le x t0) : ∀ n k, k ≤ n → ∀ v t, bf_R ne u t0 fr to cd k v t → ∃ x, rx_n fr to cd ne E n v = some x ∧ bf_le x t := by
  intro n
  induction n with
  | zero =>
    intro k hk v t hR
    have hk0 : k = 0 := by omega
    subst hk0
    obtain ⟨p, hp, h1, h2⟩ := hR
    have hv : v = u := by rw [← h1]; exact hp.1
    have ht : t = t0 := h2.symm
    rw [hv, ht]
    exact hu
  | succ n ih =>
    intro k hk v t hR
    cases k with
    | zero =>
      obtain ⟨x, hx, hxt⟩ := ih 0 (Nat.zero_le _) v t hR
      obtain ⟨y, hy, hyx⟩ := rx_r_le (fr := fr) (to := to) (cd := cd) (E := rx_n fr to cd ne E n) v ne 0 x hx
      rw [Nat.zero_add] at hy
      exact ⟨y, hy, hyx.trans hxt⟩
    | succ k =>
      obtain ⟨p, hp, h1, h2⟩ := hR
      obtain ⟨e, e1, e2, e3⟩ := hp.2 k (by omega)
      have hRk : bf_R ne u t0 fr to cd k (fr e) (bf_q cd t0 p k) := ⟨p, ⟨hp.1, fun i hi => hp.2 i (by omega)⟩, e2.symm, rfl⟩
      have hz := rx_r_rel G (rx_n_ok h n) e1 hRk (ih k (by omega) _ _ hRk)
      rw [e3, h1] at hz
      have ht : bf_b (cd (fr e)) (bf_q cd t0 p k) = t := by
        rw [← h2, e2]
        rfl
      rw [ht] at hz
      exact hz
/-- what least counters are -/
def rx_least (ne u : Nat) (t0 : Nat × Nat) (fr to cd : Nat → Nat) (E : rx_E) : Prop := (∀ v t, E v = some t → ∃ k, bf_R ne u t0 fr to cd k v t) ∧ ∀ v t k, bf_R ne u t0 fr to cd k v t → ∃ x, E v = some x ∧ bf_le x t
theorem rx_stable' (G : bf_gr ne u t0 fr to cd di do_) {E : rx_E} (h : ∀ v t, E v = some t → ∃ k, bf_R ne u t0 fr to cd k v t) (hu : ∃ x, E u = some x ∧ bf_le x t0) (hch : ∀ e, e < ne → ∀ x, E (fr e) = some x → rx_has (E (to e)) (bf_b (cd (fr e)) x) = true) : rx_least ne u t0 fr to cd E := by
  refine ⟨h, fun v t k => ?_⟩
  intro hR
  obtain ⟨p, hp, h1, h2⟩ := hR
  have key : ∀ i, i ≤ k → ∃ x, E (p i) = some x ∧ bf_le x (bf_q cd t0 p i) := by
    intro i
    induction i with
    | zero =>
      intro _
      rw [hp.1]
      exact hu
    | succ i ih =>
      intro hi
      obtain ⟨e, e1, e2, e3⟩ := hp.2 i (by omega)
      obtain ⟨x, hx, hxt⟩ := ih (by omega)
      obtain ⟨y, hy, hyx⟩ := rx_has_iff.mp (hch e e1 x (by rw [e2]; exact hx))
      rw [e3] at hy
      rw [e2] at hyx
      obtain ⟨k2, hk2⟩ := h _ _ hx
      have hRi : bf_R ne u t0 fr to cd i (p i) (bf_q cd t0 p i) := ⟨p, ⟨hp.1, fun j hj => hp.2 j (by omega)⟩, rfl, rfl⟩
      exact ⟨y, hy, hyx.trans (bf_mono_R G hk2 hRi hxt)⟩
  have := key k (Nat.le_refl _)
  rw [h1, h2] at this
  exact this
theorem rx_stable (G : bf_gr ne u t0 fr to cd di do_) {E : rx_E} {B : Nat} (h : rx_ok ne u t0 fr to cd B E) (hu : ∃ x, E u = some x ∧ bf_le x t0) (hc : rx_rc fr to cd E ne = false) : rx_least ne u t0 fr to cd E := by
  obtain ⟨-, hch⟩ := rx_r_same ne hc
  refine rx_stable' G (fun v t hv => (h v t hv).1) hu fun e he x hx => ?_
  have hz := hch e he
  unfold rx_ch at hz
  rw [hx] at hz
  simpa using hz
theorem rx_24 (G : bf_gr ne u t0 fr to cd di do_) {E : rx_E} {B : Nat} (h : rx_ok ne u t0 fr to cd B E) (hu : ∃ x, E u = some x ∧ bf_le x t0) {n : Nat} (hn : 23 ≤ n) : rx_least ne u t0 fr to cd (rx_n fr to cd ne E n) := by
  refine ⟨fun v t hv => (rx_n_ok h n v t hv).1, fun v t k hR => ?_⟩
  obtain ⟨k', t', h1, h2, h3⟩ := bf_short G k v t hR
  obtain ⟨x, hx, hxt⟩ := rx_n_le G h hu n k' (by omega) v t' h2
  exact ⟨x, hx, hxt.trans h3⟩
theorem rx_least_eq {E E' : rx_E} (h : rx_least ne u t0 fr to cd E) (h' : rx_least ne u t0 fr to cd E') (v : Nat) : E v = E' v := by
  cases hv : E v with
  | none =>
    cases hv' : E' v with
    | none => rfl
    | some t =>
      obtain ⟨k, hk⟩ := h'.1 v t hv'
      obtain ⟨x, hx, -⟩ := h.2 v t k hk
      rw [hv] at hx
      cases hx
  | some s =>
    obtain ⟨k, hk⟩ := h.1 v s hv
    obtain ⟨t, ht, hts⟩ := h'.2 v s k hk
    obtain ⟨k2, hk2⟩ := h'.1 v t ht
    obtain ⟨x, hx, hxt⟩ := h.2 v t k2 hk2
    rw [hv] at hx
    cases hx
    rw [ht, bf_le.anti hts hxt]
end RX
