/-! The class's face: fire and deliver. -/
theorem sumN_le' {f : Nat → Nat} {B n : Nat} (h : ∀ i, i < n → f i ≤ B) : sumN f n ≤ n * B := by
  induction n with
  | zero => simp [sumN]
  | succ n ih =>
    unfold sumN
    have h1 := h n (by omega)
    have h2 := ih fun i hi => h i (by omega)
    rw [Nat.succ_mul]
    omega
noncomputable def caA (σ : wd_S) (nv ne : Nat) (fr to cd : Nat → Nat) (cn rc ee : Nat → Nat) (op : Nat → Bool) (me : Nat → Nat → Nat) (mt : Nat → Nat → Nat × Nat) (re : Nat → Nat → Nat) (rt : Nat → Nat → Nat × Nat) (v s : Nat) : Nat := sumN (caM σ ne fr to cd cn me mt v (re v s) (rt v s)) ne + sumN (caR ne fr to cd rc ee op re rt v (re v s) (rt v s)) nv
theorem caA_lt {σ : wd_S} {nv ne : Nat} {fr to cd di do_ : Nat → Nat} {cn rc ee : Nat → Nat} {op : Nat → Bool} {me : Nat → Nat → Nat} {mt : Nat → Nat → Nat × Nat} {re : Nat → Nat → Nat} {rt : Nat → Nat → Nat × Nat} (h : aOK σ nv ne fr to cd di do_ cn rc ee op me mt re rt) (v s : Nat) : caA σ nv ne fr to cd cn rc ee op me mt re rt v s < 1000 := by
  obtain ⟨hg, hnv, hnv8, hE, hV⟩ := h
  have hne12 := hg.2.1
  have h1 : sumN (caM σ ne fr to cd cn me mt v (re v s) (rt v s)) ne ≤ ne * 6 := sumN_le' fun e he => by
    have := (hE e he).2.1
    have h2 := cnt_le (fun k => ifB σ e k && pB (me e k ≤ re v s ∧ AH ne fr to cd (to e) (mt e k) v (rt v s))) (cn e)
    unfold caM
    omega
  have h2 : sumN (caR ne fr to cd rc ee op re rt v (re v s) (rt v s)) nv ≤ nv * 5 := sumN_le' fun u hu => by
    have := (hV u hu).2.1
    have h2 := cnt_le (fun k => raB ne fr to cd v (re v s) (rt v s) u (re u k) (rt u k)) (rc u)
    unfold caR
    split <;> omega
  unfold caA
  have h3 : ne * 6 ≤ 72 := by omega
  have h4 : nv * 5 ≤ 40 := by omega
  omega
/-- behind a firing of slot s of v -/
def fiF (τ : wd_S) (v r s e : Nat) (cn : Nat → Nat) : wd_S := u2 (seF (u2 (dsF τ v r s) 1 3 (τ 1 3 + nI 1)) (τ (6 + 3 * v) 5) (τ (8 + 3 * v) s) (τ (7 + 3 * v) s) cn e) 1 4 (τ 1 4 + nI (cnt (biB (τ (6 + 3 * v) 5)) e))
theorem dsF_c {σ : wd_S} {v r s d : Nat} (h : d < 6 + 3 * v ∨ 9 + 3 * v ≤ d) : dsF σ v r s d = σ d := by
  unfold dsF
  rw [rws_c (by omega), rws_c (by omega), u2_row (by omega)]
theorem dsF_v {σ : wd_S} {v r s k : Nat} (h : k ≠ 9) : dsF σ v r s (6 + 3 * v) k = σ (6 + 3 * v) k := by
  unfold dsF
  rw [rws_c (by omega), rws_c (by omega), u2_k h]
theorem r_fire_bad {xs : List Int32} {σ : wd_S} {n : Nat} (hn : σ 2 2 = nI n) (hn8 : n ≤ 8) (x : Int32) (h : rqF σ n x = none) : ev xs 11 [.ref 1, .int x] σ (-1) σ := by
  refine am_Ev.of (n := 7) rfl rfl rfl rfl ?_
  refine g_aload_n rfl rfl ?_
  refine g_get rfl rfl wd_F rfl ?_
  refine g_iload_n rfl rfl ?_
  refine c_V rfl rfl rfl rfl wd_G rfl (r_vertexOf' hn hn8 x) rfl rfl rfl ?_
  rw [h]
  refine g_istore_n rfl (Nat.le_of_ble_eq_true rfl) ?_
  refine g_iload_n rfl rfl ?_
  refine s_ic (v := -1) rfl rfl ?_
  refine g_icmp_ne rfl (fun h => absurd (rfl) h) (fun _ => ?_)
  refine s_ic (v := -1) rfl rfl ?_
  refine g_iret rfl rfl ?_
  exact ⟨rfl, rfl⟩
theorem r_fire {xs : List Int32} {σ : wd_S} {nv ne : Nat} {fr to cd di do_ : Nat → Nat} {cn rc ee : Nat → Nat} {op : Nat → Bool} {me : Nat → Nat → Nat} {mt : Nat → Nat → Nat × Nat} {re : Nat → Nat → Nat} {rt : Nat → Nat → Nat × Nat} (h : aOK σ nv ne fr to cd di do_ cn rc ee op me mt re rt) (x : Int32) {v s r : Nat} (hs : slOK σ nv x v s) (hsr : s ≤ r) (hr : rc v = r + 1)
    (hc : ∀ i, i < ne → biB (σ (6 + 3 * v) 5) i = true → anyB (fuB σ (σ (6 + 3 * v) 5) (-1)) ne = false → cn i < 6) :
    am_Ev 11 [.ref 1, .int x] (wd xs σ) (fun a w => ∃ τ, (∀ d, d ≠ 5 → τ d = σ d) ∧ ((0 < caA σ nv ne fr to cd cn rc ee op me mt re rt v s ∧ a = some (.int (-6)) ∧ w = wd xs τ) ∨ (caA σ nv ne fr to cd cn rc ee op me mt re rt v s = 0 ∧ anyB (fuB σ (σ (6 + 3 * v) 5) (-1)) ne = true ∧ a = some (.int (-2)) ∧ w = wd xs τ) ∨ (caA σ nv ne fr to cd cn rc ee op me mt re rt v s = 0 ∧ anyB (fuB σ (σ (6 + 3 * v) 5) (-1)) ne = false ∧ a = some (.int (nI (cnt (biB (σ (6 + 3 * v) 5)) ne))) ∧ w = wd xs (fiF τ v r s ne cn)))) := by
  obtain ⟨s1, s2, s3, s4, s5⟩ := hs
  have hv := rqF_lt s1
  have hn := h.2.1
  have hn8 := h.2.2.1
  have hA := caA_lt h v s
  have hne12 := h.1.2.1
  refine am_Ev.of (n := 7) rfl rfl rfl rfl ?_
  refine g_aload_n rfl rfl ?_
  refine g_get rfl rfl wd_F rfl ?_
  refine g_iload_n rfl rfl ?_
  refine c_V rfl rfl rfl rfl wd_G rfl (r_vertexOf' hn hn8 x) rfl rfl rfl ?_
  rw [s1]
  refine g_istore_n rfl (Nat.le_of_ble_eq_true rfl) ?_
  refine g_iload_n rfl rfl ?_
  refine s_ic (v := -1) rfl rfl ?_
  refine g_icmp_ne rfl (fun _ => ?_) (fun h => absurd h (fun z => absurd ((oI_m1 (o := some v) (r := nv) (fun j h => by cases h; exact hv) (by omega)).mp z) (by simp)))
  refine g_aload_n rfl rfl ?_
  refine g_get rfl rfl wd_F rfl ?_
  refine g_iload_n rfl rfl ?_
  refine c_V rfl rfl rfl rfl wd_G rfl (r_slotOf2 hn hn8 x hv s2 s3) rfl rfl rfl ?_
  rw [s4]
  refine g_istore_n rfl (Nat.le_of_ble_eq_true rfl) ?_
  refine g_aload_n rfl rfl ?_
  refine g_get rfl rfl wd_F rfl ?_
  refine g_iload_n rfl rfl ?_
  refine g_iload_n rfl rfl ?_
  refine c_Vq rfl rfl rfl rfl wd_G rfl (r_countAhead (s := s) h hv (by omega)) rfl rfl rfl fun τ hτ => ?_
  have hcaA : sumN (caM σ ne fr to cd cn me mt v (re v s) (rt v s)) ne + sumN (caR ne fr to cd rc ee op re rt v (re v s) (rt v s)) nv = caA σ nv ne fr to cd cn rc ee op me mt re rt v s := rfl
  rw [hcaA]
  have hfu : ∀ m g, fuB τ m g = fuB σ m g := fun m g => funext fun i => by
    unfold fuB
    rw [hτ _ (by omega)]
  have hoe : τ (6 + 3 * v) 5 = σ (6 + 3 * v) 5 := by rw [hτ _ (by omega)]
  by_cases hA0 : caA σ nv ne fr to cd cn rc ee op me mt re rt v s = 0
  · rw [hA0]
    refine g_if_le rfl (fun _ => ?_) (fun h => absurd (by decide) h)
    refine g_aload_n rfl rfl ?_
    refine g_get rfl rfl wd_F rfl ?_
    refine g_get rfl rfl wd_G rfl ?_
    refine g_iload_n rfl rfl ?_
    refine s_aV rfl (v := v) rfl (by omega) ?_
    refine g_astore rfl (Nat.le_of_ble_eq_true rfl) ?_
    refine g_aload_n rfl rfl ?_
    refine g_get rfl rfl wd_F rfl ?_
    refine g_aload rfl rfl ?_
    refine g_get rfl rfl (wd_V (by omega)) rfl ?_
    refine s_ic (v := -1) rfl rfl ?_
    refine c_V rfl rfl rfl rfl wd_G rfl (r_hasRoom (by rw [hτ _ (by omega)]; exact h.1.1) hne12 _ _) rfl rfl rfl ?_
    rw [hfu, hoe]
    cases ha : anyB (fuB σ (σ (6 + 3 * v) 5) (-1)) ne with
    | true =>
      refine g_if_ne rfl (fun h => absurd (rfl) h) (fun _ => ?_)
      refine s_bp (v := -2) rfl rfl ?_
      refine g_iret rfl rfl ?_
      exact ⟨τ, hτ, Or.inr (Or.inl ⟨rfl, rfl, rfl, rfl⟩)⟩
    | false =>
      refine g_if_ne rfl (fun _ => ?_) (fun h => absurd h (by decide))
      refine g_aload rfl rfl ?_
      refine g_get rfl rfl (wd_V (by omega)) rfl ?_
      refine g_iload_n rfl rfl ?_
      refine s_iald rfl (a_VG (by omega)) rfl (by omega) ?_
      refine g_istore rfl (Nat.le_of_ble_eq_true rfl) ?_
      refine g_aload rfl rfl ?_
      refine g_get rfl rfl (wd_V (by omega)) rfl ?_
      refine g_iload_n rfl rfl ?_
      refine s_iald rfl (a_VM (by omega)) rfl (by omega) ?_
      refine g_istore rfl (Nat.le_of_ble_eq_true rfl) ?_
      refine g_aload rfl rfl ?_
      refine g_iload_n rfl rfl ?_
      refine c_Vv rfl rfl rfl rfl (wd_V (by omega)) rfl (r_dropSlot (r := r) (by omega) (by rw [hτ _ (by omega), (h.2.2.2.2 v hv).1, hr]) (by have := (h.2.2.2.2 v hv).2.1; omega) hsr) rfl rfl rfl ?_
      refine g_aload_n rfl rfl ?_
      refine g_dup rfl rfl ?_
      refine g_get rfl rfl wd_F rfl ?_
      rw [dsF_c (by omega)]
      refine s_ic (v := nI 1) rfl rfl ?_
      refine g_iadd rfl ?_
      refine s_putF rfl rfl (by decide) ?_
      refine g_aload_n rfl rfl ?_
      refine g_aload rfl rfl ?_
      refine g_get rfl rfl (wd_V (by omega)) rfl ?_
      rw [u2_c (by omega), dsF_v (by omega), hoe]
      refine g_iload rfl rfl ?_
      refine g_iload rfl rfl ?_
      refine c_V rfl rfl rfl rfl wd_F rfl (r_send (n := ne) (by rw [u2_row (by omega), dsF_c (by omega), hτ _ (by omega)]; exact h.1.1) hne12 _ _ _ cn (fun i hi hb => ⟨by rw [u2_row (by omega), dsF_c (by omega), hτ _ (by omega)]; exact (h.2.2.2.1 i hi).1, hc i hi hb ha⟩)) rfl rfl rfl ?_
      refine g_iret rfl rfl ?_
      refine ⟨τ, hτ, Or.inr (Or.inr ⟨rfl, rfl, rfl, ?_⟩)⟩
      unfold fiF
      rw [hoe, u2_k (by omega), dsF_c (by omega)]
  · refine g_if_le rfl (fun h => absurd h (nI_nle (by omega) (by omega))) (fun _ => ?_)
    refine s_bp (v := -6) rfl rfl ?_
    refine g_iret rfl rfl ?_
    exact ⟨τ, hτ, Or.inl ⟨by omega, rfl, rfl⟩⟩
/-- what goes on from v: the targets of value x -/
def tgF (σ : wd_S) (v : Nat) (x : Int32) : Int32 := if σ (6 + 3 * v) 2 = 0 then σ (6 + 3 * v) 5 else if σ (6 + 3 * v) 2 = nI 2 then (if x ≤ 0 then (σ (6 + 3 * v) 5 - (σ (6 + 3 * v) 5 &&& -σ (6 + 3 * v) 5)) &&& -(σ (6 + 3 * v) 5 - (σ (6 + 3 * v) 5 &&& -σ (6 + 3 * v) 5)) else σ (6 + 3 * v) 5 &&& -σ (6 + 3 * v) 5) else nI 0
def pnF (σ : wd_S) (v : Nat) (x : Int32) : Int32 := if σ (6 + 3 * v) 2 = nI 2 ∧ ¬ x ≤ 0 then x - nI 1 else x
/-- the state when the message of edge i has been taken -/
def dlF (σ : wd_S) (i c v r : Nat) : wd_S :=
  if σ (6 + 3 * v) 2 = nI 1 then gaF (u2 (u2 (dfF σ i c) 1 2 (σ 1 2 + nI 1)) (6 + 3 * v) 6 (σ (6 + 3 * v) 6 + σ (31 + 3 * i) 0)) v r (σ (32 + 3 * i) 0) (σ (31 + 3 * i) 0) else u2 (u2 (dfF σ i c) 1 2 (σ 1 2 + nI 1)) (6 + 3 * v) 6 (σ (6 + 3 * v) 6 + σ (31 + 3 * i) 0)
theorem dfF_c {σ : wd_S} {e c d : Nat} (h : d < 30 + 3 * e ∨ 33 + 3 * e ≤ d) : dfF σ e c d = σ d := by
  unfold dfF
  rw [rws_c (by omega), rws_c (by omega), u2_row (by omega)]
theorem dfF_n {σ : wd_S} {e c : Nat} : dfF σ e c (30 + 3 * e) 2 = nI c := by
  unfold dfF
  rw [rws_c (by omega), rws_c (by omega), u2_same]
theorem mkF_c {σ : wd_S} {v r d : Nat} {t : Int32} (h : d < 6 + 3 * v ∨ 9 + 3 * v ≤ d) : mkF σ v r t d = σ d := by
  unfold mkF
  rw [u2_row (by omega), rws_c (by omega), rws_c (by omega)]
theorem mkF_v {σ : wd_S} {v r k : Nat} {t : Int32} (h : k ≠ 9) : mkF σ v r t (6 + 3 * v) k = σ (6 + 3 * v) k := by
  unfold mkF
  rw [u2_k h, rws_c (by omega), rws_c (by omega)]
theorem gaF_c {σ : wd_S} {v r d : Nat} {t x : Int32} (h : d < 6 + 3 * v ∨ 9 + 3 * v ≤ d) : gaF σ v r t x d = σ d := by
  unfold gaF
  cases slF σ v r t with
  | some s => exact u2_row (by omega)
  | none => exact (u2_row (by omega)).trans (mkF_c h)
theorem gaF_v {σ : wd_S} {v r k : Nat} {t x : Int32} (h : k ≠ 9) : gaF σ v r t x (6 + 3 * v) k = σ (6 + 3 * v) k := by
  unfold gaF
  cases slF σ v r t with
  | some s => exact u2_c (by omega)
  | none => exact (u2_c (by omega)).trans (mkF_v h)
theorem slF_eq {σ τ : wd_S} {v r : Nat} {t : Int32} (h : τ (7 + 3 * v) = σ (7 + 3 * v)) : slF τ v r t = slF σ v r t := by
  unfold slF
  rw [h]
theorem r_deliver_bad {xs : List Int32} {σ : wd_S} {e : Nat} {b : Bool} (he : σ 2 3 = nI e) (hb : σ 1 1 = bI b) (x : Int32) (h : b = true ∨ inB x e = false) : ev xs 7 [.ref 1, .int x] σ (-1) σ := by
  refine am_Ev.of (n := 7) rfl rfl rfl rfl ?_
  have bad : ∀ lo, am_G 7 18 lo [] (wd xs σ) (po xs (-1) σ) := by
    intro lo
    refine s_ic (v := -1) rfl rfl ?_
    refine g_iret rfl rfl ?_
    exact ⟨rfl, rfl⟩
  refine g_aload_n rfl rfl ?_
  refine g_get rfl rfl wd_F rfl ?_
  rw [hb]
  cases b with
  | true =>
    refine g_if_ne rfl (fun _ => ?_) (fun h => absurd h (by decide))
    exact bad _
  | false =>
    refine g_if_ne rfl (fun h => absurd (rfl) h) (fun _ => ?_)
    refine g_aload_n rfl rfl ?_
    refine g_get rfl rfl wd_F rfl ?_
    refine g_iload_n rfl rfl ?_
    refine c_V rfl rfl rfl rfl wd_G rfl (r_hasE he x) rfl rfl rfl ?_
    have hx : inB x e = false := by
      rcases h with h | h
      · cases h
      · exact h
    rw [hx]
    refine g_if_ne rfl (fun h => absurd (rfl) h) (fun _ => ?_)
    exact bad _
theorem r_deliver_none {xs : List Int32} {σ : wd_S} {e i : Nat} (he : σ 2 3 = nI e) (he12 : e ≤ 12) (hb : σ 1 1 = nI 0) (hi : i < e) (h0 : σ (30 + 3 * i) 2 = nI 0) : ev xs 7 [.ref 1, .int (nI i)] σ (-3) σ := by
  refine am_Ev.of (n := 7) rfl rfl rfl rfl ?_
  refine g_aload_n rfl rfl ?_
  refine g_get rfl rfl wd_F rfl ?_
  rw [hb]
  refine g_if_ne rfl (fun h => absurd (rfl) h) (fun _ => ?_)
  refine g_aload_n rfl rfl ?_
  refine g_get rfl rfl wd_F rfl ?_
  refine g_iload_n rfl rfl ?_
  refine c_V rfl rfl rfl rfl wd_G rfl (r_hasE he (nI i)) rfl rfl rfl ?_
  rw [inB_t hi (by omega)]
  refine g_if_ne rfl (fun _ => ?_) (fun h => absurd h (by decide))
  refine g_aload_n rfl rfl ?_
  refine g_get rfl rfl wd_F rfl ?_
  refine g_get rfl rfl wd_G rfl ?_
  refine g_iload_n rfl rfl ?_
  refine s_aE rfl rfl (by omega) ?_
  refine g_astore_n rfl (Nat.le_of_ble_eq_true rfl) ?_
  refine g_aload_n rfl rfl ?_
  refine g_get rfl rfl (wd_E (by omega)) rfl ?_
  rw [h0]
  refine g_if_ne rfl (fun h => absurd (rfl) h) (fun _ => ?_)
  refine s_bp (v := -3) rfl rfl ?_
  refine g_iret rfl rfl ?_
  exact ⟨rfl, rfl⟩
/-- is the message on edge i too late for a back? -/
def ltB (σ : wd_S) (i v : Nat) : Bool := decide (σ (6 + 3 * v) 0 = nI 4) && !(decide ((σ (32 + 3 * i) 0 >>> ((nI 3 - (σ (6 + 3 * v) 1 + nI 1)) * nI 10 &&& 31)) &&& nI 1023 < nI 15))
def dvB (σ : wd_S) (e i v r : Nat) : Bool := !(anyB (fuB σ (tgF σ v (σ (31 + 3 * i) 0)) (nI i)) e) && cgB σ v r (σ (32 + 3 * i) 0)
theorem r_deliver {xs : List Int32} {σ : wd_S} {e i c v r : Nat} (he : σ 2 3 = nI e) (he12 : e ≤ 12) (hb : σ 1 1 = nI 0) (hi : i < e) (hcn : σ (30 + 3 * i) 2 = nI (c + 1)) (hc6 : c < 6) (hto : σ (30 + 3 * i) 1 = nI v) (hv : v < 8) (hr : σ (6 + 3 * v) 9 = nI r) (hr4 : r ≤ 4) (cn : Nat → Nat) (hcn2 : ∀ j, j < e → dfF σ i c (30 + 3 * j) 2 = nI (cn j)) (hok : ∀ j, j < e → biB (tgF σ v (σ (31 + 3 * i) 0)) j = true → anyB (fuB σ (tgF σ v (σ (31 + 3 * i) 0)) (nI i)) e = false → cn j < 6) :
    ev xs 7 [.ref 1, .int (nI i)] σ (if ltB σ i v = true then -4 else if dvB σ e i v r = true then nI (cnt (biB (tgF σ v (σ (31 + 3 * i) 0))) e) else -2) (if ltB σ i v = true then σ else if dvB σ e i v r = true then u2 (seF (dlF σ i c v r) (tgF σ v (σ (31 + 3 * i) 0)) (pnF σ v (σ (31 + 3 * i) 0)) ((σ (32 + 3 * i) 0 &&& σ (6 + 3 * v) 3) + σ (6 + 3 * v) 4) cn e) 1 4 (σ 1 4 + nI (cnt (biB (tgF σ v (σ (31 + 3 * i) 0))) e)) else σ) := by
  refine am_Ev.of (n := 7) rfl rfl rfl rfl ?_
  refine g_aload_n rfl rfl ?_
  refine g_get rfl rfl wd_F rfl ?_
  rw [hb]
  refine g_if_ne rfl (fun h => absurd (rfl) h) (fun _ => ?_)
  refine g_aload_n rfl rfl ?_
  refine g_get rfl rfl wd_F rfl ?_
  refine g_iload_n rfl rfl ?_
  refine c_V rfl rfl rfl rfl wd_G rfl (r_hasE he (nI i)) rfl rfl rfl ?_
  rw [inB_t hi (by omega)]
  refine g_if_ne rfl (fun _ => ?_) (fun h => absurd h (by decide))
  refine g_aload_n rfl rfl ?_
  refine g_get rfl rfl wd_F rfl ?_
  refine g_get rfl rfl wd_G rfl ?_
  refine g_iload_n rfl rfl ?_
  refine s_aE rfl rfl (by omega) ?_
  refine g_astore_n rfl (Nat.le_of_ble_eq_true rfl) ?_
  refine g_aload_n rfl rfl ?_
  refine g_get rfl rfl (wd_E (by omega)) rfl ?_
  rw [hcn]
  refine g_if_ne rfl (fun _ => ?_) (fun h => absurd h (nI_ne0 (by omega) (by omega)))
  refine g_aload_n rfl rfl ?_
  refine g_get rfl rfl wd_F rfl ?_
  refine g_get rfl rfl wd_G rfl ?_
  refine g_aload_n rfl rfl ?_
  refine g_get rfl rfl (wd_E (by omega)) rfl ?_
  rw [hto]
  refine s_aV rfl rfl (by omega) ?_
  refine g_astore_n rfl (Nat.le_of_ble_eq_true rfl) ?_
  refine g_aload_n rfl rfl ?_
  refine g_get rfl rfl (wd_E (by omega)) rfl ?_
  refine s_ic (v := nI 0) rfl rfl ?_
  refine s_iald rfl (a_EV (by omega)) (j := 0) rfl (by omega) ?_
  refine g_istore rfl (Nat.le_of_ble_eq_true rfl) ?_
  refine g_aload_n rfl rfl ?_
  refine g_get rfl rfl (wd_E (by omega)) rfl ?_
  refine s_ic (v := nI 0) rfl rfl ?_
  refine s_iald rfl (a_EM (by omega)) (j := 0) rfl (by omega) ?_
  refine g_istore rfl (Nat.le_of_ble_eq_true rfl) ?_
  have main : ltB σ i v = false → am_G 7 94 [some (.ref 1), some (.int (nI i)), some (.ref (30 + 3 * i)), some (.ref (6 + 3 * v)), some (.int (σ (31 + 3 * i) 0)), some (.int (σ (32 + 3 * i) 0)), none] [] (wd xs σ) (po xs (if ltB σ i v = true then -4 else if dvB σ e i v r = true then nI (cnt (biB (tgF σ v (σ (31 + 3 * i) 0))) e) else -2) (if ltB σ i v = true then σ else if dvB σ e i v r = true then u2 (seF (dlF σ i c v r) (tgF σ v (σ (31 + 3 * i) 0)) (pnF σ v (σ (31 + 3 * i) 0)) ((σ (32 + 3 * i) 0 &&& σ (6 + 3 * v) 3) + σ (6 + 3 * v) 4) cn e) 1 4 (σ 1 4 + nI (cnt (biB (tgF σ v (σ (31 + 3 * i) 0))) e)) else σ)) := by
    intro hlt
    rw [hlt]
    have full : dvB σ e i v r = false → ∀ lo, am_G 7 124 lo [] (wd xs σ) (po xs (if false = true then -4 else if dvB σ e i v r = true then nI (cnt (biB (tgF σ v (σ (31 + 3 * i) 0))) e) else -2) (if false = true then σ else if dvB σ e i v r = true then u2 (seF (dlF σ i c v r) (tgF σ v (σ (31 + 3 * i) 0)) (pnF σ v (σ (31 + 3 * i) 0)) ((σ (32 + 3 * i) 0 &&& σ (6 + 3 * v) 3) + σ (6 + 3 * v) 4) cn e) 1 4 (σ 1 4 + nI (cnt (biB (tgF σ v (σ (31 + 3 * i) 0))) e)) else σ)) := by
      intro hz lo
      rw [hz]
      refine s_bp (v := -2) rfl rfl ?_
      refine g_iret rfl rfl ?_
      exact ⟨rfl, rfl⟩
    refine g_aload_n rfl rfl ?_
    refine g_iload rfl rfl ?_
    refine c_V rfl rfl rfl rfl (wd_V hv) rfl (r_targetsFor hv _) rfl rfl rfl ?_
    refine g_istore rfl (Nat.le_of_ble_eq_true rfl) ?_
    refine g_aload_n rfl rfl ?_
    refine g_get rfl rfl wd_F rfl ?_
    refine g_iload rfl rfl ?_
    refine g_iload_n rfl rfl ?_
    refine c_V rfl rfl rfl rfl wd_G rfl (r_hasRoom he he12 _ _) rfl rfl rfl ?_
    cases ha : anyB (fuB σ (tgF σ v (σ (31 + 3 * i) 0)) (nI i)) e with
    | true =>
      have ha' := ha
      unfold tgF at ha'
      rw [ha']
      refine g_if_eq rfl (fun _ => ?_) (fun h => absurd (rfl) h)
      exact full (by unfold dvB; rw [ha]; rfl) _
    | false =>
      have ha' := ha
      unfold tgF at ha'
      rw [ha']
      refine g_if_eq rfl (fun h => absurd h (by decide)) (fun _ => ?_)
      refine g_aload_n rfl rfl ?_
      refine g_iload rfl rfl ?_
      refine c_V rfl rfl rfl rfl (wd_V hv) rfl (r_canGather hv hr hr4 _) rfl rfl rfl ?_
      cases hcg : cgB σ v r (σ (32 + 3 * i) 0) with
      | false =>
        refine g_if_ne rfl (fun h => absurd (rfl) h) (fun _ => ?_)
        exact full (by unfold dvB; rw [hcg]; simp) _
      | true =>
        have hdv : dvB σ e i v r = true := by
          unfold dvB
          rw [ha, hcg]
          rfl
        rw [hdv]
        refine g_if_ne rfl (fun _ => ?_) (fun h => absurd h (by decide))
        refine g_aload_n rfl rfl ?_
        refine c_Vv rfl rfl rfl rfl (wd_E (by omega)) rfl (r_dropFirst (by omega) hcn hc6) rfl rfl rfl ?_
        refine g_aload_n rfl rfl ?_
        refine g_dup rfl rfl ?_
        refine g_get rfl rfl wd_F rfl ?_
        rw [dfF_c (by omega)]
        refine s_ic (v := nI 1) rfl rfl ?_
        refine g_iadd rfl ?_
        refine s_putF rfl rfl (by decide) ?_
        refine g_aload_n rfl rfl ?_
        refine g_dup rfl rfl ?_
        refine g_get rfl rfl (wd_V (by omega)) rfl ?_
        rw [u2_c (by omega), dfF_c (by omega)]
        refine g_iload rfl rfl ?_
        refine g_iadd rfl ?_
        refine s_putV (by omega) rfl rfl (by decide) ?_
        refine g_aload_n rfl rfl ?_
        refine g_get rfl rfl (wd_V (by omega)) rfl ?_
        rw [u2_k (by omega), u2_c (by omega), dfF_c (by omega)]
        refine s_ic (v := nI 1) rfl rfl ?_
        have tail : ∀ (σ4 : wd_S), σ4 = dlF σ i c v r → am_G 7 168 [some (.ref 1), some (.int (nI i)), some (.ref (30 + 3 * i)), some (.ref (6 + 3 * v)), some (.int (σ (31 + 3 * i) 0)), some (.int (σ (32 + 3 * i) 0)), some (.int (tgF σ v (σ (31 + 3 * i) 0)))] [] (wd xs σ4) (po xs (nI (cnt (biB (tgF σ v (σ (31 + 3 * i) 0))) e)) (u2 (seF (dlF σ i c v r) (tgF σ v (σ (31 + 3 * i) 0)) (pnF σ v (σ (31 + 3 * i) 0)) ((σ (32 + 3 * i) 0 &&& σ (6 + 3 * v) 3) + σ (6 + 3 * v) 4) cn e) 1 4 (σ 1 4 + nI (cnt (biB (tgF σ v (σ (31 + 3 * i) 0))) e)))) := by
          rintro _ rfl
          have d1 : ∀ k, k ≠ 6 → k ≠ 9 → dlF σ i c v r (6 + 3 * v) k = σ (6 + 3 * v) k := fun k h6 h9 => by
            unfold dlF
            split
            · rw [gaF_v h9, u2_k h6, u2_c (by omega), dfF_c (by omega)]
            · rw [u2_k h6, u2_c (by omega), dfF_c (by omega)]
          have d2 : ∀ d, d ≠ 1 → (d < 6 + 3 * v ∨ 9 + 3 * v ≤ d) → dlF σ i c v r d = dfF σ i c d := fun d h1 h2 => by
            unfold dlF
            split
            · rw [gaF_c h2, u2_row (by omega), u2_row h1]
            · rw [u2_row (by omega), u2_row h1]
          have d3 : dlF σ i c v r 1 4 = σ 1 4 := by
            unfold dlF
            split
            · rw [gaF_c (by omega), u2_c (by omega), u2_k (by omega), dfF_c (by omega)]
            · rw [u2_c (by omega), u2_k (by omega), dfF_c (by omega)]
          refine g_aload_n rfl rfl ?_
          refine g_iload rfl rfl ?_
          refine g_aload_n rfl rfl ?_
          refine g_iload rfl rfl ?_
          refine c_V rfl rfl rfl rfl (wd_V hv) rfl (r_passedOn hv _) rfl rfl rfl ?_
          rw [d1 2 (by omega) (by omega)]
          refine g_aload_n rfl rfl ?_
          refine g_iload rfl rfl ?_
          refine c_V rfl rfl rfl rfl (wd_V hv) rfl (r_timeBehind hv _) rfl rfl rfl ?_
          rw [d1 3 (by omega) (by omega), d1 4 (by omega) (by omega)]
          refine c_V rfl rfl rfl rfl wd_F rfl (r_send (n := e) (by rw [d2 2 (by omega) (by omega), dfF_c (by omega)]; exact he) he12 _ _ _ cn (fun j hj hb => ⟨by rw [d2 _ (by omega) (by omega)]; exact hcn2 j hj, hok j hj hb ha⟩)) rfl rfl rfl ?_
          rw [d3]
          refine g_iret rfl rfl ?_
          exact ⟨rfl, rfl⟩
        refine g_icmp_ne rfl (fun h => ?_) (fun h => ?_)
        · refine tail _ ?_
          unfold dlF
          rw [if_neg h]
        · refine g_aload_n rfl rfl ?_
          refine g_iload rfl rfl ?_
          refine g_iload rfl rfl ?_
          refine c_Vv rfl rfl rfl rfl (wd_V hv) rfl (r_gather (r := r) hv (by rw [u2_k (by omega), u2_c (by omega), dfF_c (by omega)]; exact hr) hr4 _ _ (fun hz => ?_)) rfl rfl rfl ?_
          · rw [slF_eq (by rw [u2_row (by omega), u2_row (by omega), dfF_c (by omega)])] at hz
            unfold cgB at hcg
            rw [h, hz] at hcg
            simpa using hcg
          · refine tail _ ?_
            unfold dlF
            rw [if_pos h]
  refine g_aload_n rfl rfl ?_
  refine g_get rfl rfl (wd_V (by omega)) rfl ?_
  refine s_ic (v := nI 4) rfl rfl ?_
  refine g_icmp_ne rfl (fun h => ?_) (fun h => ?_)
  · refine main ?_
    unfold ltB
    rw [decide_eq_false h]
    rfl
  · refine g_iload rfl rfl ?_
    refine g_aload_n rfl rfl ?_
    refine g_get rfl rfl (wd_V (by omega)) rfl ?_
    refine c_S rfl rfl rfl rfl (r_lastCounter _ _) rfl rfl rfl ?_
    refine s_bp (v := nI 15) rfl rfl ?_
    refine g_icmp_lt rfl (fun h2 => ?_) (fun h2 => ?_)
    · refine main ?_
      unfold ltB
      rw [decide_eq_true h2]
      simp
    · have hz : ltB σ i v = true := by
        unfold ltB
        rw [decide_eq_false h2, decide_eq_true h]
        rfl
      rw [hz]
      refine s_bp (v := -4) rfl rfl ?_
      refine g_iret rfl rfl ?_
      exact ⟨rfl, rfl⟩
