/-! The reference's way to the same: places for vertices and for edges, rounds until nothing changes. -/
def mx_lv (S : rx_E × rx_E) (e f c : Nat) : rx_E := match S.1 f with
  | none => S.2
  | some x => rx_put S.2 e (bf_b c x)
def mx_en (Em Ee : rx_E) (e t : Nat) : rx_E := match Ee e with
  | none => Em
  | some x => rx_put Em t x
def mx_step (S : rx_E × rx_E) (e f t c : Nat) : rx_E × rx_E := (mx_en S.1 (mx_lv S e f c) e t, mx_lv S e f c)
def mx_cl (S : rx_E × rx_E) (e f c : Nat) : Bool := match S.1 f with
  | none => false
  | some x => !(rx_has (S.2 e) (bf_b c x))
def mx_ce (Em Ee : rx_E) (e t : Nat) : Bool := match Ee e with
  | none => false
  | some x => !(rx_has (Em t) x)
def mx_ch (S : rx_E × rx_E) (e f t c : Nat) : Bool := mx_cl S e f c || mx_ce S.1 (mx_lv S e f c) e t
def mx_r (fr to cd : Nat → Nat) (S : rx_E × rx_E) : Nat → rx_E × rx_E
  | 0 => S
  | n + 1 => mx_step (mx_r fr to cd S n) n (fr n) (to n) (cd (fr n))
def mx_rc (fr to cd : Nat → Nat) (S : rx_E × rx_E) : Nat → Bool
  | 0 => false
  | n + 1 => mx_rc fr to cd S n || mx_ch (mx_r fr to cd S n) n (fr n) (to n) (cd (fr n))
def mx_n (fr to cd : Nat → Nat) (ne : Nat) (S : rx_E × rx_E) : Nat → rx_E × rx_E
  | 0 => S
  | n + 1 => mx_r fr to cd (mx_n fr to cd ne S n) ne
theorem mx_lv_none {S : rx_E × rx_E} {e f c : Nat} (h : S.1 f = none) : mx_lv S e f c = S.2 := by
  unfold mx_lv
  rw [h]
theorem mx_lv_some {S : rx_E × rx_E} {e f c : Nat} {x : Nat × Nat} (h : S.1 f = some x) : mx_lv S e f c = rx_put S.2 e (bf_b c x) := by
  unfold mx_lv
  rw [h]
theorem mx_en_none {Em Ee : rx_E} {e t : Nat} (h : Ee e = none) : mx_en Em Ee e t = Em := by
  unfold mx_en
  rw [h]
theorem mx_en_some {Em Ee : rx_E} {e t : Nat} {x : Nat × Nat} (h : Ee e = some x) : mx_en Em Ee e t = rx_put Em t x := by
  unfold mx_en
  rw [h]
theorem mx_lv_le (S : rx_E × rx_E) (e f c v : Nat) : rx_ole (mx_lv S e f c v) (S.2 v) := by
  cases h : S.1 f with
  | none => rw [mx_lv_none h]; exact rx_ole.refl _
  | some x => rw [mx_lv_some h]; exact rx_put_le _ _ _ _
theorem mx_en_le (Em Ee : rx_E) (e t v : Nat) : rx_ole (mx_en Em Ee e t v) (Em v) := by
  cases h : Ee e with
  | none => rw [mx_en_none h]; exact rx_ole.refl _
  | some x => rw [mx_en_some h]; exact rx_put_le _ _ _ _
theorem mx_lv_same {S : rx_E × rx_E} {e f c : Nat} (h : mx_cl S e f c = false) : mx_lv S e f c = S.2 := by
  unfold mx_cl at h
  cases hs : S.1 f with
  | none => exact mx_lv_none hs
  | some x =>
    rw [hs] at h
    have h2 : rx_has (S.2 e) (bf_b c x) = true := by simpa using h
    rw [mx_lv_some hs]
    exact rx_put_has h2
theorem mx_en_same {Em Ee : rx_E} {e t : Nat} (h : mx_ce Em Ee e t = false) : mx_en Em Ee e t = Em := by
  unfold mx_ce at h
  cases hs : Ee e with
  | none => exact mx_en_none hs
  | some x =>
    rw [hs] at h
    have h2 : rx_has (Em t) x = true := by simpa using h
    rw [mx_en_some hs]
    exact rx_put_has h2
theorem mx_r_same {fr to cd : Nat → Nat} {S : rx_E × rx_E} : ∀ n, mx_rc fr to cd S n = false → mx_r fr to cd S n = S ∧ ∀ e, e < n → mx_cl S e (fr e) (cd (fr e)) = false ∧ mx_ce S.1 S.2 e (to e) = false := by
  intro n
  induction n with
  | zero => intro _; exact ⟨rfl, fun e h => absurd h (Nat.not_lt_zero e)⟩
  | succ n ih =>
    intro h
    unfold mx_rc at h
    rw [Bool.or_eq_false_iff] at h
    obtain ⟨h1, h2⟩ := ih h.1
    have h3 := h.2
    rw [h1] at h3
    unfold mx_ch at h3
    rw [Bool.or_eq_false_iff] at h3
    have h4 := mx_lv_same h3.1
    have h5 := h3.2
    rw [h4] at h5
    refine ⟨?_, fun e he => ?_⟩
    · show mx_step (mx_r fr to cd S n) n (fr n) (to n) (cd (fr n)) = S
      rw [h1]
      unfold mx_step
      rw [h4, mx_en_same h5]
    · by_cases hen : e = n
      · subst hen
        exact ⟨h3.1, h5⟩
      · exact h2 e (by omega)
section MX
variable {ne u : Nat} {t0 : Nat × Nat} {fr to cd di do_ : Nat → Nat}
def mx_ok (ne u : Nat) (t0 : Nat × Nat) (fr to cd : Nat → Nat) (B : Nat) (S : rx_E × rx_E) : Prop := rx_ok ne u t0 fr to cd B S.1 ∧ ∀ e t, S.2 e = some t → (∃ k, bf_R ne u t0 fr to cd k (to e) t) ∧ t.1 ≤ B ∧ t.2 ≤ B
theorem mx_step_ok {S : rx_E × rx_E} {B e : Nat} (h : mx_ok ne u t0 fr to cd B S) (he : e < ne) : mx_ok ne u t0 fr to cd (B + 1) (mx_step S e (fr e) (to e) (cd (fr e))) := by
  have h2 : ∀ e' t, mx_lv S e (fr e) (cd (fr e)) e' = some t → (∃ k, bf_R ne u t0 fr to cd k (to e') t) ∧ t.1 ≤ B + 1 ∧ t.2 ≤ B + 1 := by
    intro e' t ht
    cases hx : S.1 (fr e) with
    | none =>
      rw [mx_lv_none hx] at ht
      obtain ⟨a1, a2, a3⟩ := h.2 e' t ht
      exact ⟨a1, by omega, by omega⟩
    | some x =>
      rw [mx_lv_some hx] at ht
      rcases rx_put_val _ _ _ _ _ ht with ⟨rfl, rfl⟩ | h4
      · obtain ⟨⟨k, hk⟩, a2, a3⟩ := h.1 _ _ hx
        exact ⟨⟨k + 1, bf_R_s hk he⟩, bf_b_bnd a2 a3⟩
      · obtain ⟨a1, a2, a3⟩ := h.2 e' t h4
        exact ⟨a1, by omega, by omega⟩
  refine ⟨fun v t hv => ?_, h2⟩
  have hv : mx_en S.1 (mx_lv S e (fr e) (cd (fr e))) e (to e) v = some t := hv
  cases hx : mx_lv S e (fr e) (cd (fr e)) e with
  | none =>
    rw [mx_en_none hx] at hv
    obtain ⟨a1, a2, a3⟩ := h.1 v t hv
    exact ⟨a1, by omega, by omega⟩
  | some x =>
    rw [mx_en_some hx] at hv
    rcases rx_put_val _ _ _ _ _ hv with ⟨rfl, rfl⟩ | h4
    · exact h2 e _ hx
    · obtain ⟨a1, a2, a3⟩ := h.1 v t h4
      exact ⟨a1, by omega, by omega⟩
theorem mx_r_ok {S : rx_E × rx_E} {B : Nat} (h : mx_ok ne u t0 fr to cd B S) : ∀ n, n ≤ ne → mx_ok ne u t0 fr to cd (B + n) (mx_r fr to cd S n) := by
  intro n
  induction n with
  | zero => intro _; exact h
  | succ n ih =>
    intro hn
    exact mx_step_ok (ih (by omega)) (by omega)
theorem mx_n_ok {S : rx_E × rx_E} {B : Nat} (h : mx_ok ne u t0 fr to cd B S) : ∀ n, mx_ok ne u t0 fr to cd (B + n * ne) (mx_n fr to cd ne S n) := by
  intro n
  induction n with
  | zero => rw [Nat.zero_mul]; exact h
  | succ n ih =>
    have := mx_r_ok ih ne (Nat.le_refl _)
    rw [show B + (n + 1) * ne = B + n * ne + ne by rw [Nat.succ_mul]; omega]
    exact this
theorem mx_r_le {S : rx_E × rx_E} (v : Nat) : ∀ n m, rx_ole ((mx_r fr to cd S (m + n)).1 v) ((mx_r fr to cd S m).1 v) ∧ rx_ole ((mx_r fr to cd S (m + n)).2 v) ((mx_r fr to cd S m).2 v) := by
  intro n
  induction n with
  | zero => intro m; exact ⟨rx_ole.refl _, rx_ole.refl _⟩
  | succ n ih =>
    intro m
    exact ⟨(mx_en_le _ _ _ _ _).trans (ih m).1, (mx_lv_le _ _ _ _ _).trans (ih m).2⟩
/-- behind the step of edge e its end is no later than what stands on the edge -/
theorem mx_step_en (S : rx_E × rx_E) (e f t c : Nat) (y : Nat × Nat) (h : ∃ x, (mx_step S e f t c).2 e = some x ∧ bf_le x y) : ∃ x, (mx_step S e f t c).1 t = some x ∧ bf_le x y := by
  obtain ⟨x, hx, hxy⟩ := h
  have hx : mx_lv S e f c e = some x := hx
  show ∃ x, mx_en S.1 (mx_lv S e f c) e t t = some x ∧ _
  rw [mx_en_some hx]
  obtain ⟨z, hz, hzx⟩ := rx_put_at S.1 t x
  exact ⟨z, hz, hzx.trans hxy⟩
theorem mx_r_rel (G : bf_gr ne u t0 fr to cd di do_) {S : rx_E × rx_E} {B : Nat} (h : mx_ok ne u t0 fr to cd B S) {e : Nat} (he : e < ne) {k : Nat} {t : Nat × Nat} (ht : bf_R ne u t0 fr to cd k (fr e) t) (hE : ∃ x, S.1 (fr e) = some x ∧ bf_le x t) : (∃ x, (mx_r fr to cd S ne).1 (to e) = some x ∧ bf_le x (bf_b (cd (fr e)) t)) ∧ ∃ x, (mx_r fr to cd S ne).2 e = some x ∧ bf_le x (bf_b (cd (fr e)) t) := by
  obtain ⟨x0, hx0, hx1⟩ := hE
  obtain ⟨s, hs, hst⟩ := (mx_r_le (fr := fr) (to := to) (cd := cd) (S := S) (fr e) e 0).1 x0 hx0
  rw [Nat.zero_add] at hs
  obtain ⟨⟨k2, hk2⟩, -⟩ := (mx_r_ok h e (by omega)).1 _ _ hs
  have hm := bf_mono_R G hk2 ht (hst.trans hx1)
  have h1 : ∃ y, (mx_r fr to cd S (e + 1)).2 e = some y ∧ bf_le y (bf_b (cd (fr e)) t) := by
    show ∃ y, mx_lv (mx_r fr to cd S e) e (fr e) (cd (fr e)) e = some y ∧ _
    rw [mx_lv_some hs]
    obtain ⟨z, hz, hzx⟩ := rx_put_at (mx_r fr to cd S e).2 e (bf_b (cd (fr e)) s)
    exact ⟨z, hz, hzx.trans hm⟩
  have h2 : ∃ y, (mx_r fr to cd S (e + 1)).1 (to e) = some y ∧ bf_le y (bf_b (cd (fr e)) t) := mx_step_en _ _ _ _ _ _ h1
  have hle := fun v => mx_r_le (fr := fr) (to := to) (cd := cd) (S := S) v (ne - (e + 1)) (e + 1)
  rw [show e + 1 + (ne - (e + 1)) = ne by omega] at hle
  obtain ⟨y1, hy1, g1⟩ := h1
  obtain ⟨y2, hy2, g2⟩ := h2
  obtain ⟨z1, hz1, w1⟩ := (hle e).2 y1 hy1
  obtain ⟨z2, hz2, w2⟩ := (hle (to e)).1 y2 hy2
  exact ⟨⟨z2, hz2, w2.trans g2⟩, z1, hz1, w1.trans g1⟩
/-- how the reference begins: with a value at the vertex u, or on an edge to u -/
def mx_beg (ne u : Nat) (t0 : Nat × Nat) (to : Nat → Nat) (S : rx_E × rx_E) : Prop := (∃ x, S.1 u = some x ∧ bf_le x t0) ∨ ∃ e, e < ne ∧ to e = u ∧ ∃ x, S.2 e = some x ∧ bf_le x t0
theorem mx_beg_r {S : rx_E × rx_E} (h : mx_beg ne u t0 to S) : ∃ x, (mx_r fr to cd S ne).1 u = some x ∧ bf_le x t0 := by
  rcases h with ⟨x, hx, hxt⟩ | ⟨e, he, hto, x, hx, hxt⟩
  · obtain ⟨y, hy, hyx⟩ := (mx_r_le (fr := fr) (to := to) (cd := cd) (S := S) u ne 0).1 x hx
    rw [Nat.zero_add] at hy
    exact ⟨y, hy, hyx.trans hxt⟩
  · obtain ⟨y, hy, hyx⟩ := (mx_r_le (fr := fr) (to := to) (cd := cd) (S := S) e (e + 1) 0).2 x hx
    rw [Nat.zero_add] at hy
    obtain ⟨z, hz, hzt⟩ := mx_step_en (mx_r fr to cd S e) e (fr e) (to e) (cd (fr e)) t0 ⟨y, hy, hyx.trans hxt⟩
    have hz : (mx_r fr to cd S (e + 1)).1 (to e) = some z := hz
    obtain ⟨q, hq, hqz⟩ := (mx_r_le (fr := fr) (to := to) (cd := cd) (S := S) (to e) (ne - (e + 1)) (e + 1)).1 z hz
    rw [show e + 1 + (ne - (e + 1)) = ne by omega, hto] at hq
    exact ⟨q, hq, hqz.trans hzt⟩
theorem mx_n_le (G : bf_gr ne u t0 fr to cd di do_) {S : rx_E × rx_E} {B : Nat} (h : mx_ok ne u t0 fr to cd B S) (hu : mx_beg ne u t0 to S) : ∀ n k, k ≤ n → ∀ v t, bf_R ne u t0 fr to cd k v t → ∃ x, (mx_n fr to cd ne S (n + 1)).1 v = some x ∧ bf_le x t := by
  intro n
  induction n with
  | zero =>
    intro k hk v t hR
    have hk0 : k = 0 := by omega
    subst hk0
    obtain ⟨p, hp, h1, h2⟩ := hR
    have hv : v = u := by rw [← h1]; exact hp.1
    have ht : t = t0 := h2.symm
    rw [hv, ht]
    exact mx_beg_r hu
  | succ n ih =>
    intro k hk v t hR
    cases k with
    | zero =>
      obtain ⟨x, hx, hxt⟩ := ih 0 (Nat.zero_le _) v t hR
      obtain ⟨y, hy, hyx⟩ := (mx_r_le (fr := fr) (to := to) (cd := cd) (S := mx_n fr to cd ne S (n + 1)) v ne 0).1 x hx
      rw [Nat.zero_add] at hy
      exact ⟨y, hy, hyx.trans hxt⟩
    | succ k =>
      obtain ⟨p, hp, h1, h2⟩ := hR
      obtain ⟨e, e1, e2, e3⟩ := hp.2 k (by omega)
      have hRk : bf_R ne u t0 fr to cd k (fr e) (bf_q cd t0 p k) := ⟨p, ⟨hp.1, fun i hi => hp.2 i (by omega)⟩, e2.symm, rfl⟩
      have hz := (mx_r_rel G (mx_n_ok h (n + 1)) e1 hRk (ih k (by omega) _ _ hRk)).1
      rw [e3, h1] at hz
      have ht : bf_b (cd (fr e)) (bf_q cd t0 p k) = t := by
        rw [← h2, e2]
        rfl
      rw [ht] at hz
      exact hz
theorem mx_least (G : bf_gr ne u t0 fr to cd di do_) {S : rx_E × rx_E} {B : Nat} (h : mx_ok ne u t0 fr to cd B S) (hu : mx_beg ne u t0 to S) {n : Nat} (hn : 24 ≤ n) : rx_least ne u t0 fr to cd (mx_n fr to cd ne S n).1 := by
  refine ⟨fun v t hv => ((mx_n_ok h n).1 v t hv).1, fun v t k hR => ?_⟩
  obtain ⟨k', t', h1, h2, h3⟩ := bf_short G k v t hR
  obtain ⟨m, rfl⟩ : ∃ m, n = m + 1 := ⟨n - 1, by omega⟩
  obtain ⟨x, hx, hxt⟩ := mx_n_le G h hu m k' (by omega) v t' h2
  exact ⟨x, hx, hxt.trans h3⟩
/-- behind 25 rounds nothing changes any more -/
theorem mx_ends (G : bf_gr ne u t0 fr to cd di do_) {S : rx_E × rx_E} {B : Nat} (h : mx_ok ne u t0 fr to cd B S) (hu : mx_beg ne u t0 to S) {n : Nat} (hn : 25 ≤ n) : mx_rc fr to cd (mx_n fr to cd ne S n) ne = false := by
  obtain ⟨m, rfl⟩ : ∃ m, n = m + 1 := ⟨n - 1, by omega⟩
  have L0 := mx_least G h hu (n := m) (by omega)
  have L1 := mx_least G h hu (n := m + 1) (by omega)
  have hok := mx_n_ok h (m + 1)
  have hcl : ∀ e, e < ne → mx_cl (mx_n fr to cd ne S (m + 1)) e (fr e) (cd (fr e)) = false := by
    intro e he
    unfold mx_cl
    split
    · rfl
    · rename_i x hx
      have hx0 : (mx_n fr to cd ne S m).1 (fr e) = some x := by rw [rx_least_eq L0 L1]; exact hx
      obtain ⟨k, hk⟩ := L0.1 _ _ hx0
      obtain ⟨y, hy, hyx⟩ := (mx_r_rel G (mx_n_ok h m) he hk ⟨x, hx0, bf_le.refl x⟩).2
      have : rx_has ((mx_n fr to cd ne S (m + 1)).2 e) (bf_b (cd (fr e)) x) = true := rx_has_iff.mpr ⟨y, hy, hyx⟩
      rw [this]
      rfl
  have hce : ∀ e, e < ne → mx_ce (mx_n fr to cd ne S (m + 1)).1 (mx_n fr to cd ne S (m + 1)).2 e (to e) = false := by
    intro e he
    unfold mx_ce
    split
    · rfl
    · rename_i x hx
      obtain ⟨⟨k, hk⟩, -⟩ := hok.2 e x hx
      have : rx_has ((mx_n fr to cd ne S (m + 1)).1 (to e)) x = true := rx_has_iff.mpr (L1.2 _ _ _ hk)
      rw [this]
      rfl
  have key : ∀ q, q ≤ ne → mx_rc fr to cd (mx_n fr to cd ne S (m + 1)) q = false ∧ mx_r fr to cd (mx_n fr to cd ne S (m + 1)) q = mx_n fr to cd ne S (m + 1) := by
    intro q
    induction q with
    | zero => intro _; exact ⟨rfl, rfl⟩
    | succ q ih =>
      intro hq
      obtain ⟨i1, i2⟩ := ih (by omega)
      have c1 := hcl q (by omega)
      have c2 := hce q (by omega)
      have c3 := mx_lv_same c1
      refine ⟨?_, ?_⟩
      · show (mx_rc fr to cd _ q || mx_ch (mx_r fr to cd _ q) q (fr q) (to q) (cd (fr q))) = false
        rw [i1, i2, Bool.false_or]
        unfold mx_ch
        rw [c1, Bool.false_or, c3]
        exact c2
      · show mx_step (mx_r fr to cd _ q) q (fr q) (to q) (cd (fr q)) = _
        rw [i2]
        unfold mx_step
        rw [c3, mx_en_same c2]
  exact (key ne (Nat.le_refl _)).1
/-- where a round has changed nothing, the counters are the least -/
theorem mx_stable (G : bf_gr ne u t0 fr to cd di do_) {S : rx_E × rx_E} {B : Nat} (h : mx_ok ne u t0 fr to cd B S) (hu : mx_beg ne u t0 to S) (hc : mx_rc fr to cd S ne = false) : rx_least ne u t0 fr to cd S.1 := by
  obtain ⟨hs, hch⟩ := mx_r_same ne hc
  have hu2 := mx_beg_r (fr := fr) (cd := cd) hu
  rw [hs] at hu2
  refine rx_stable' G (fun v t hv => (h.1 v t hv).1) hu2 fun e he x hx => ?_
  obtain ⟨c1, c2⟩ := hch e he
  unfold mx_cl at c1
  rw [hx] at c1
  have c1 : rx_has (S.2 e) (bf_b (cd (fr e)) x) = true := by simpa using c1
  obtain ⟨y, hy, hyx⟩ := rx_has_iff.mp c1
  unfold mx_ce at c2
  rw [hy] at c2
  have c2 : rx_has (S.1 (to e)) y = true := by simpa using c2
  obtain ⟨z, hz, hzy⟩ := rx_has_iff.mp c2
  exact rx_has_iff.mpr ⟨z, hz, hzy.trans hyx⟩
end MX
