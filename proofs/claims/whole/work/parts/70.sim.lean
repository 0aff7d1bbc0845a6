/-! The relation between the rows of the two: what both say of one flow. -/
def vOK (k d : Nat) : Prop := (k = 0 ∧ d = 0) ∨ (k = 1 ∧ d ≤ 2) ∨ (2 ≤ k ∧ k ≤ 4 ∧ 1 ≤ d ∧ d ≤ 2)
def gDi (nv : Nat) (kd dp : Nat → Nat) (v : Nat) : Nat := if v < nv then (if kd v = 2 then dp v - 1 else dp v) else 0
def gDo (nv : Nat) (kd dp : Nat → Nat) (v : Nat) : Nat := if v < nv then (if kd v = 3 then dp v - 1 else dp v) else 0
def gCd (nv : Nat) (kd dp : Nat → Nat) (v : Nat) : Nat := if v < nv then (if kd v = 2 ∨ kd v = 3 then dp v else if kd v = 4 then dp v + 2 else 0) else 0
def cS (σ : wd_S) (b : Bool) (nv ne : Nat) : Prop := σ 2 2 = nI nv ∧ σ 2 3 = nI ne ∧ σ 1 1 = bI b
def mS (σ : wd_S) (b : Bool) (nv ne : Nat) : Prop := σ 66 1 = nI nv ∧ σ 66 8 = nI ne ∧ σ 66 0 = bI (!b)
def cC (σ : wd_S) (dl fi se : Int32) : Prop := σ 1 2 = dl ∧ σ 1 3 = fi ∧ σ 1 4 = se
def mC (σ : wd_S) (dl fi se : Int32) : Prop := σ 66 18 = dl ∧ σ 66 19 = fi ∧ σ 66 20 = se
def stF (k d : Nat) : Int32 := if k = 3 then (nI 1023 <<< ((nI 2 - nI d) * nI 10 &&& 31)) ^^^ (-1) else -1
def adF (k d : Nat) : Int32 := if k = 4 then nI 1 <<< ((nI 2 - nI d) * nI 10 &&& 31) else nI 0
def cV (σ : wd_S) (nv : Nat) (kd dp wk : Nat → Nat) : Prop := (∀ v, v < nv → σ (6 + 3 * v) 0 = nI (kd v) ∧ σ (6 + 3 * v) 1 = nI (dp v) ∧ σ (6 + 3 * v) 2 = nI (if kd v = 1 then wk v else 0) ∧ σ (6 + 3 * v) 3 = stF (kd v) (dp v) ∧ σ (6 + 3 * v) 4 = adF (kd v) (dp v)) ∧ ∀ v, nv ≤ v → v < 8 → σ (6 + 3 * v) 3 = nI 0 ∧ σ (6 + 3 * v) 4 = nI 0 ∧ σ (6 + 3 * v) 5 = nI 0 ∧ σ (6 + 3 * v) 6 = nI 0 ∧ σ (6 + 3 * v) 7 = nI 0 ∧ σ (6 + 3 * v) 9 = nI 0
def mV (σ : wd_S) (nv : Nat) (kd dp wk : Nat → Nat) : Prop := (∀ v, v < nv → σ 67 v = nI (kd v) ∧ σ 68 v = nI (dp v) ∧ σ 69 v = nI (wk v)) ∧ ∀ v, nv ≤ v → v < 8 → σ 67 v = nI 0 ∧ σ 70 v = nI 0 ∧ σ 72 v = nI 0
def cE (σ : wd_S) (nv ne : Nat) (fr to : Nat → Nat) : Prop := (∀ e, e < ne → σ (30 + 3 * e) 0 = nI (fr e) ∧ σ (30 + 3 * e) 1 = nI (to e)) ∧ (∀ v, v < nv → ∀ e, e < 32 → tB (σ (6 + 3 * v) 5) e = (decide (e < ne) && decide (fr e = v))) ∧ ∀ e, ne ≤ e → e < 12 → σ (30 + 3 * e) 2 = nI 0
def mE (σ : wd_S) (ne : Nat) (fr to : Nat → Nat) : Prop := (∀ e, e < ne → σ 73 e = nI (fr e) ∧ σ 74 e = nI (to e)) ∧ ∀ e, ne ≤ e → e < 12 → σ 75 e = nI 0
def cM (σ : wd_S) (ne : Nat) (cn : Nat → Nat) (vl : Nat → Nat → Int32) (me : Nat → Nat → Nat) (mt : Nat → Nat → Nat × Nat) : Prop := ∀ e, e < ne → σ (30 + 3 * e) 2 = nI (cn e) ∧ ∀ k, k < cn e → σ (31 + 3 * e) k = vl e k ∧ σ (32 + 3 * e) k = nI (tmE (me e k) (mt e k))
def mM (σ : wd_S) (ne : Nat) (cn : Nat → Nat) (vl : Nat → Nat → Int32) (me : Nat → Nat → Nat) (mt : Nat → Nat → Nat × Nat) : Prop := ∀ e, e < ne → σ 75 e = nI (cn e) ∧ ∀ k, k < cn e → σ 76 (6 * e + k) = vl e k ∧ σ 77 (18 * e + 3 * k) = nI (me e k) ∧ σ 77 (18 * e + 3 * k + 1) = nI (mt e k).1 ∧ σ 77 (18 * e + 3 * k + 2) = nI (mt e k).2
def cI (σ : wd_S) (nv : Nat) (ee : Nat → Nat) (op : Nat → Bool) (tt : Nat → Int32) : Prop := ∀ v, v < nv → σ (6 + 3 * v) 7 = nI (ee v) ∧ σ (6 + 3 * v) 8 = bI (op v) ∧ σ (6 + 3 * v) 6 = tt v
def mI (σ : wd_S) (nv : Nat) (ee : Nat → Nat) (op : Nat → Bool) (tt : Nat → Int32) : Prop := ∀ v, v < nv → σ 70 v = nI (ee v) ∧ σ 71 v = bI (op v) ∧ σ 72 v = tt v
def cR (σ : wd_S) (nv : Nat) (rc : Nat → Nat) (re : Nat → Nat → Nat) (rt : Nat → Nat → Nat × Nat) (rs : Nat → Nat → Int32) : Prop := ∀ v, v < nv → σ (6 + 3 * v) 9 = nI (rc v) ∧ ∀ k, k < rc v → σ (7 + 3 * v) k = nI (tmE (re v k) (rt v k)) ∧ σ (8 + 3 * v) k = rs v k
def mQ (σ : wd_S) (q : Nat) (qg qe : Nat → Nat) (qt : Nat → Nat × Nat) (qs : Nat → Int32) : Prop := σ 66 14 = nI q ∧ ∀ r, r < q → mrO σ r (qg r) (qe r) (qt r) ∧ σ 80 r = qs r
def pG (nv ne : Nat) (kd dp wk fr to : Nat → Nat) : Prop := nv ≤ 8 ∧ ne ≤ 12 ∧ (∀ v, v < nv → vOK (kd v) (dp v) ∧ wk v ≤ 3) ∧ ∀ e, e < ne → fr e < nv ∧ to e < nv ∧ gDo nv kd dp (fr e) = gDi nv kd dp (to e)
def pM (nv ne : Nat) (kd dp to cn : Nat → Nat) (me : Nat → Nat → Nat) (mt : Nat → Nat → Nat × Nat) : Prop := ∀ e, e < ne → cn e ≤ 6 ∧ ∀ k, k < cn e → tmOK (me e k) (mt e k) ∧ bf_dp (gDi nv kd dp (to e)) (mt e k)
def pI (nv : Nat) (kd ee : Nat → Nat) (op : Nat → Bool) : Prop := ∀ v, v < nv → ee v ≤ 15 ∧ (op v = true → kd v = 0)
def pR (nv : Nat) (kd dp wk rc : Nat → Nat) (re : Nat → Nat → Nat) (rt : Nat → Nat → Nat × Nat) (rs : Nat → Nat → Int32) (q : Nat) (qg qe : Nat → Nat) (qt : Nat → Nat × Nat) (qs : Nat → Int32) : Prop :=
  (∀ v, v < nv → rc v ≤ 4 ∧ (∀ k, k < rc v → kd v = 1 ∧ wk v = 1 ∧ tmOK (re v k) (rt v k) ∧ bf_dp (dp v) (rt v k)) ∧ ∀ k l, k < l → l < rc v → tmE (re v k) (rt v k) < tmE (re v l) (rt v l)) ∧
  (∀ r, r < q → qg r < nv ∧ ∃ k, k < rc (qg r) ∧ re (qg r) k = qe r ∧ rt (qg r) k = qt r ∧ rs (qg r) k = qs r) ∧
  (∀ v, v < nv → ∀ k, k < rc v → ∃ r, r < q ∧ qg r = v ∧ qe r = re v k ∧ qt r = rt v k) ∧
  ∀ r s, r < q → s < q → qg r = qg s → qe r = qe s → qt r = qt s → r = s
def Sim (σ : wd_S) : Prop := ∃ (b : Bool) (nv ne : Nat) (kd dp wk fr to cn : Nat → Nat) (vl : Nat → Nat → Int32) (me : Nat → Nat → Nat) (mt : Nat → Nat → Nat × Nat) (ee : Nat → Nat) (op : Nat → Bool) (tt : Nat → Int32) (rc : Nat → Nat) (re : Nat → Nat → Nat) (rt : Nat → Nat → Nat × Nat) (rs : Nat → Nat → Int32) (q : Nat) (qg qe : Nat → Nat) (qt : Nat → Nat × Nat) (qs : Nat → Int32) (dl fi se : Int32),
  (pG nv ne kd dp wk fr to ∧ cS σ b nv ne ∧ mS σ b nv ne) ∧ (cC σ dl fi se ∧ mC σ dl fi se) ∧ (cV σ nv kd dp wk ∧ mV σ nv kd dp wk) ∧ (cE σ nv ne fr to ∧ mE σ ne fr to) ∧ (pM nv ne kd dp to cn me mt ∧ cM σ ne cn vl me mt ∧ mM σ ne cn vl me mt) ∧ (pI nv kd ee op ∧ cI σ nv ee op tt ∧ mI σ nv ee op tt) ∧ pR nv kd dp wk rc re rt rs q qg qe qt qs ∧ cR σ nv rc re rt rs ∧ mQ σ q qg qe qt qs
theorem sim0 : Sim ini0 := by
  have z : ∀ c k, c ≠ 1 → ini0 c k = nI 0 := fun c k hc => if_neg fun h => hc h.1
  refine ⟨true, 0, 0, fun _ => 0, fun _ => 0, fun _ => 0, fun _ => 0, fun _ => 0, fun _ => 0, fun _ _ => 0, fun _ _ => 0, fun _ _ => (0, 0), fun _ => 0, fun _ => false, fun _ => 0, fun _ => 0, fun _ _ => 0, fun _ _ => (0, 0), fun _ _ => 0, 0, fun _ => 0, fun _ => 0, fun _ => (0, 0), fun _ => 0, 0, 0, 0, ⟨⟨Nat.zero_le _, Nat.zero_le _, ?_, ?_⟩, ⟨rfl, rfl, rfl⟩, ⟨rfl, rfl, rfl⟩⟩, ⟨⟨rfl, rfl, rfl⟩, ⟨rfl, rfl, rfl⟩⟩, ⟨⟨?_, ?_⟩, ⟨?_, ?_⟩⟩, ⟨⟨?_, ?_, ?_⟩, ⟨?_, ?_⟩⟩, ⟨?_, ?_, ?_⟩, ⟨?_, ?_, ?_⟩, ⟨?_, ?_, ?_, ?_⟩, ?_, ⟨rfl, ?_⟩⟩
  all_goals first
    | exact fun v hv => absurd hv (Nat.not_lt_zero v)
    | exact fun v w hv => absurd hv (Nat.not_lt_zero v)
    | exact fun v _ _ => ⟨z _ _ (by omega), z _ _ (by omega), z _ _ (by omega), z _ _ (by omega), z _ _ (by omega), z _ _ (by omega)⟩
    | exact fun v _ _ => ⟨z _ _ (by omega), z _ _ (by omega), z _ _ (by omega)⟩
    | exact fun v _ _ => z _ _ (by omega)
theorem vOK_cases {k d : Nat} (h : vOK k d) : (k = 0 ∧ d = 0) ∨ (k = 1 ∧ d ≤ 2) ∨ (k = 2 ∧ d = 1) ∨ (k = 2 ∧ d = 2) ∨ (k = 3 ∧ d = 1) ∨ (k = 3 ∧ d = 2) ∨ (k = 4 ∧ d = 1) ∨ (k = 4 ∧ d = 2) := by
  unfold vOK at h
  omega
theorem pG_ok {nv ne : Nat} {kd dp wk fr to : Nat → Nat} (h : pG nv ne kd dp wk fr to) (v : Nat) : bf_ok (gCd nv kd dp v) (gDi nv kd dp v) (gDo nv kd dp v) := by
  unfold gCd gDi gDo bf_ok
  by_cases hv : v < nv
  · rw [if_pos hv, if_pos hv, if_pos hv]
    rcases vOK_cases (h.2.2.1 v hv).1 with ⟨a, b⟩ | ⟨a, b⟩ | ⟨a, b⟩ | ⟨a, b⟩ | ⟨a, b⟩ | ⟨a, b⟩ | ⟨a, b⟩ | ⟨a, b⟩
    all_goals first
      | (rw [a, b]; decide)
      | (rw [a]; simp; exact b)
  · rw [if_neg hv, if_neg hv, if_neg hv]
    decide
theorem pG_gr {nv ne u : Nat} {kd dp wk fr to : Nat → Nat} {t : Nat × Nat} (h : pG nv ne kd dp wk fr to) (hu : u < nv) (ht : bf_dp (gDi nv kd dp u) t) : bf_gr ne u t fr to (gCd nv kd dp) (gDi nv kd dp) (gDo nv kd dp) := by
  have h1 := h.1
  refine ⟨by omega, ht, fun v _ => pG_ok h v, fun e he => ?_⟩
  obtain ⟨a, b, c⟩ := h.2.2.2 e he
  exact ⟨by omega, by omega, c⟩
theorem tB_nI {n i : Nat} (h : i < 32) : tB (nI n) i = n.testBit i := by
  show (BitVec.ofNat 32 n).getLsbD i = _
  rw [BitVec.getLsbD_ofNat, decide_eq_true h, Bool.true_and]
theorem enT_bit {a b i : Nat} (hb : b < 1024) : (enT (a, b)).testBit i = if i < 10 then b.testBit i else a.testBit (i - 10) := by
  show (a * 1024 + b).testBit i = _
  rw [Nat.mul_comm, show (1024 : Nat) = 2 ^ 10 from rfl]
  exact Nat.testBit_two_pow_mul_add a (by omega) i
theorem st_2 : ∀ i, i < 32 → tB (stF 3 2) i = decide (10 ≤ i) := by decide +kernel
theorem st_1 : ∀ i, i < 32 → tB (stF 3 1) i = (decide (i < 10) || decide (20 ≤ i)) := by decide +kernel
theorem st_m : ∀ i, i < 32 → tB (-1) i = true := by decide +kernel
theorem and_m (x : Int32) : x &&& (-1) = x := tB_ext fun i hi => by rw [tB_and, st_m i hi, Bool.and_true]
theorem tmB_ok {k d : Nat} (h : vOK k d) {t : Nat × Nat} (ht : bf_dp (if k = 2 then d - 1 else d) t) (h1 : t.1 ≤ 400) (h2 : t.2 ≤ 400) : (nI (enT t) &&& stF k d) + adF k d = nI (enT (bf_b (if k = 2 ∨ k = 3 then d else if k = 4 then d + 2 else 0) t)) := by
  obtain ⟨a, b⟩ := t
  have e0 : ∀ x : Int32, x + nI 0 = x := fun x => by
    show x + 0 = x
    exact Int32.add_zero x
  rcases vOK_cases h with ⟨rfl, rfl⟩ | ⟨rfl, hd⟩ | ⟨rfl, rfl⟩ | ⟨rfl, rfl⟩ | ⟨rfl, rfl⟩ | ⟨rfl, rfl⟩ | ⟨rfl, rfl⟩ | ⟨rfl, rfl⟩
  · show (nI (enT (a, b)) &&& (-1)) + nI 0 = _
    rw [and_m, e0]
    rfl
  · show (nI (enT (a, b)) &&& (-1)) + nI 0 = _
    rw [and_m, e0]
    rfl
  · show (nI (enT (a, b)) &&& (-1)) + nI 0 = _
    rw [and_m, e0]
    have hz := ht.1 rfl
    rw [hz]
    rfl
  · show (nI (enT (a, b)) &&& (-1)) + nI 0 = _
    rw [and_m, e0]
    have hz : b = 0 := ht.2 rfl
    subst hz
    rfl
  · show (nI (enT (a, b)) &&& stF 3 1) + nI 0 = nI (enT (0, b))
    rw [e0]
    have hz : b = 0 := ht.2 rfl
    subst hz
    refine tB_ext fun i hi => ?_
    have ha : a < 2 ^ 10 := by
      have : a ≤ 400 := h1
      omega
    rw [tB_and, st_1 i hi, tB_nI hi, tB_nI hi, enT_bit (by omega), enT_bit (by omega)]
    by_cases h10 : i < 10
    · rw [if_pos h10, if_pos h10, Nat.zero_testBit, Bool.false_and]
    · rw [if_neg h10, if_neg h10, Nat.zero_testBit, decide_eq_false h10, Bool.false_or]
      by_cases h20 : 20 ≤ i
      · rw [Nat.testBit_lt_two_pow (Nat.lt_of_lt_of_le ha (Nat.pow_le_pow_right (by omega) (by omega))), Bool.false_and]
      · rw [decide_eq_false h20, Bool.and_false]
  · show (nI (enT (a, b)) &&& stF 3 2) + nI 0 = nI (enT (a, 0))
    rw [e0]
    refine tB_ext fun i hi => ?_
    have hb : b ≤ 400 := h2
    rw [tB_and, st_2 i hi, tB_nI hi, tB_nI hi, enT_bit (by omega), enT_bit (by omega)]
    by_cases h10 : i < 10
    · rw [if_pos h10, if_pos h10, Nat.zero_testBit, decide_eq_false (by omega), Bool.and_false]
    · rw [if_neg h10, if_neg h10, decide_eq_true (by omega), Bool.and_true]
  · show (nI (enT (a, b)) &&& (-1)) + adF 4 1 = nI (enT (a + 1, b))
    rw [and_m, show adF 4 1 = nI 1024 by decide, nI_add]
    show nI (a * 1024 + b + 1024) = nI ((a + 1) * 1024 + b)
    rw [show a * 1024 + b + 1024 = (a + 1) * 1024 + b by omega]
  · show (nI (enT (a, b)) &&& (-1)) + adF 4 2 = nI (enT (a, b + 1))
    rw [and_m, show adF 4 2 = nI 1 by decide, nI_add]
    show nI (a * 1024 + b + 1) = nI (a * 1024 + (b + 1))
    rw [Nat.add_assoc]
