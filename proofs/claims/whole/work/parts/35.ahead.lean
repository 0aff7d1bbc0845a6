/-! What is ahead of a request, by the class. -/
noncomputable def pB (P : Prop) : Bool := @decide P (Classical.propDecidable P)
theorem pB_t {P : Prop} (h : P) : pB P = true := by
  unfold pB
  exact @decide_eq_true P (Classical.propDecidable P) h
theorem pB_f {P : Prop} (h : ¬ P) : pB P = false := by
  unfold pB
  exact @decide_eq_false P (Classical.propDecidable P) h
theorem pB_iff {P Q : Prop} (h : P ↔ Q) : pB P = pB Q := by
  by_cases hp : P
  · rw [pB_t hp, pB_t (h.mp hp)]
  · rw [pB_f hp, pB_f fun z => hp (h.mpr z)]
/-- a time as the class holds it -/
def tmE (e : Nat) (t : Nat × Nat) : Nat := e * 1048576 + enT t
/-- can a point come to g with counters that are no later than tg? -/
def AH (ne : Nat) (fr to cd : Nat → Nat) (u : Nat) (t0 : Nat × Nat) (g : Nat) (tg : Nat × Nat) : Prop := ∃ k t, bf_R ne u t0 fr to cd k g t ∧ bf_le t tg
theorem AH_E {ne u g : Nat} {t0 tg : Nat × Nat} {fr to cd : Nat → Nat} {E : rx_E} (h : rx_least ne u t0 fr to cd E) : AH ne fr to cd u t0 g tg ↔ rx_has (E g) tg = true := by
  rw [rx_has_iff]
  constructor
  · rintro ⟨k, t, h1, h2⟩
    obtain ⟨x, hx, hxt⟩ := h.2 g t k h1
    exact ⟨x, hx, hxt.trans h2⟩
  · rintro ⟨s, hs, hst⟩
    obtain ⟨k, hk⟩ := h.1 g s hs
    exact ⟨k, s, hk, hst⟩
/-- times that occur -/
def tmOK (e : Nat) (t : Nat × Nat) : Prop := e ≤ 15 ∧ t.1 ≤ 15 ∧ t.2 ≤ 15
theorem tmE_lt {e : Nat} {t : Nat × Nat} (h : tmOK e t) : tmE e t < 20000000 ∧ enT t < 1048576 ∧ tmE e t / 1048576 = e ∧ tmE e t % 1048576 = enT t := by
  obtain ⟨h1, h2, h3⟩ := h
  unfold tmE enT
  omega
theorem tmE_inj {e e' : Nat} {t t' : Nat × Nat} (h : tmOK e t) (h' : tmOK e' t') : nI (tmE e t) = nI (tmE e' t') ↔ e = e' ∧ t = t' := by
  have a := tmE_lt h
  have b := tmE_lt h'
  rw [nI_eq (by omega) (by omega)]
  constructor
  · intro z
    obtain ⟨h1, h2, h3⟩ := h
    obtain ⟨h1', h2', h3'⟩ := h'
    unfold tmE enT at z
    exact ⟨by omega, Prod.ext (by omega) (by omega)⟩
  · rintro ⟨rfl, rfl⟩
    rfl
theorem tm_epoch {e : Nat} {t : Nat × Nat} (h : tmOK e t) : nI (tmE e t) >>> (nI 20 &&& 31) = nI e := by
  have a := tmE_lt h
  rw [pk_shrN (by omega) _ 20 (by decide), show tmE e t / 2 ^ 20 = e from a.2.2.1]
theorem tm_counters {e : Nat} {t : Nat × Nat} (h : tmOK e t) : nI (tmE e t) &&& 1048575 = nI (enT t) := by
  have a := tmE_lt h
  rw [pk_andN (by omega) 20 (by decide), show tmE e t % 2 ^ 20 = enT t from a.2.2.2]
theorem tm_ofEpoch {e : Nat} (h : e ≤ 15) : nI e <<< (nI 20 &&& 31) = nI (tmE e (0, 0)) := by
  rw [pk_shlN _ 20 (by decide) (by omega), show e * 2 ^ 20 = tmE e (0, 0) by unfold tmE enT; dsimp only; omega]
/-- the world is as before but for the class's own row of counters -/
def qE (xs : List Int32) (σ : wd_S) (R : Int32) : Option Value → am_W → Prop := fun v w => v = some (.int R) ∧ ∃ τ, w = wd xs τ ∧ ∀ d, d ≠ 5 → τ d = σ d
theorem c_Vq {mi pc nx tg : Nat} {lo : am_L} {st stk : List Value} {xs : List Int32} {σ : wd_S} {P : Option Value → am_W → Prop} {R : Int32} {i mi2 a ci : Nat} {As fs : List Value} (h : am_tb mi pc = some (.invokevirtual i, nx, tg)) (hr : am_r2 am_mR (am_ow mi) i = some mi2) (hk : Nat.blt (am_rk mi2) (am_rk mi) = true) (hkd : am_kd mi2 = 0) (hw : (wd xs σ)[a]? = some (.inr (.inr (ci, fs)))) (hci : am_ow mi2 = ci) (hE : am_Ev mi2 (.ref a :: As) (wd xs σ) (qE xs σ R)) (hst : stk = As.reverse ++ .ref a :: st) (hnp : am_np mi2 = As.length) (hrest : Nat.ble (am_cs st) 8 = true) (kk : ∀ τ, (∀ d, d ≠ 5 → τ d = σ d) → am_G mi nx lo (.int R :: st) (wd xs τ) P) : am_G mi pc lo stk (wd xs σ) P :=
  g_callV h hr hk hkd hw hci hE hst hnp hrest (by rintro _ _ ⟨rfl, τ, rfl, hτ⟩; exact kk τ hτ)
theorem r_isAhead {xs : List Int32} {σ : wd_S} {ne u g ep eg : Nat} {t0 tg : Nat × Nat} {fr to cd di do_ : Nat → Nat} (G : bf_gr ne u t0 fr to cd di do_) (hg : gOK σ ne fr to cd di) (h0 : tmOK ep t0) (h1 : tmOK eg tg) (hg8 : g < 8) :
    am_Ev 34 [.ref 2, .int (nI u), .int (nI (tmE ep t0)), .int (nI g), .int (nI (tmE eg tg))] (wd xs σ) (qE xs σ (bI (pB (ep ≤ eg ∧ AH ne fr to cd u t0 g tg)))) := by
  refine am_Ev.of (n := 5) rfl rfl rfl rfl ?_
  refine g_iload_n rfl rfl ?_
  refine c_S rfl rfl rfl rfl (r_epochOf _) rfl rfl rfl ?_
  rw [tm_epoch h0]
  refine g_iload rfl rfl ?_
  refine c_S rfl rfl rfl rfl (r_epochOf _) rfl rfl rfl ?_
  rw [tm_epoch h1]
  obtain ⟨a1, a2, a3⟩ := id h0
  obtain ⟨b1, b2, b3⟩ := id h1
  refine g_icmp_le rfl (fun h => ?_) (fun h => ?_)
  · have hle : ep ≤ eg := (nI_leI (by omega) (by omega)).mp h
    refine g_aload_n rfl rfl ?_
    refine g_iload_n rfl rfl ?_
    refine g_iload_n rfl rfl ?_
    refine c_S rfl rfl rfl rfl (r_countersOf _) rfl rfl rfl ?_
    rw [tm_counters h0]
    refine c_Vw rfl rfl rfl rfl wd_G rfl (r_follow G hg a2 a3) rfl rfl rfl ?_
    rintro _ _ ⟨rfl, τ, rfl, hτ, E, hl, hb, h5⟩
    show am_G 34 23 _ [] (wd xs τ) _
    refine g_aload_n rfl rfl ?_
    refine g_get rfl rfl wd_G rfl ?_
    refine g_iload_n rfl rfl ?_
    refine s_iald rfl a_5 rfl (by omega) ?_
    rw [h5 g hg8]
    refine g_iload rfl rfl ?_
    refine c_S rfl rfl rfl rfl (r_countersOf _) rfl rfl rfl ?_
    rw [tm_counters h1]
    have hq := enE_le (o := E g) (t := tg) (B := 400) (fun s hs => hb g s hs) (by omega) (by omega) (Nat.le_refl _)
    refine g_icmp_gt rfl (fun h2 => ?_) (fun h2 => ?_)
    · refine s_ic (v := nI 0) rfl rfl ?_
      refine g_zret rfl rfl (by decide) ?_
      refine ⟨?_, τ, rfl, hτ⟩
      rw [pB_f fun z => ?_]
      · rfl
      · have := hq.mpr ((AH_E hl).mp z.2)
        simp only [lt_i, le_i] at *
        omega
    · refine s_ic (v := nI 1) rfl rfl ?_
      refine g_goto rfl ?_
      refine g_zret rfl rfl (by decide) ?_
      refine ⟨?_, τ, rfl, hτ⟩
      rw [pB_t ⟨hle, (AH_E hl).mpr (hq.mp (by simp only [lt_i, le_i] at *; omega))⟩]
      rfl
  · refine s_ic (v := nI 0) rfl rfl ?_
    refine g_zret rfl rfl (by decide) ?_
    refine ⟨?_, σ, rfl, fun _ _ => rfl⟩
    rw [pB_f fun z => h ((nI_leI (by omega) (by omega)).mpr z.1)]
    rfl
theorem wd5_E {σ τ : wd_S} (hτ : ∀ d, d ≠ 5 → τ d = σ d) (e k : Nat) : ifB τ e k = ifB σ e k := by
  unfold ifB
  rw [hτ _ (by omega)]
theorem r_countMsgs {xs : List Int32} {σ : wd_S} {ne e c g eg : Nat} {tg : Nat × Nat} {fr to cd di do_ : Nat → Nat} {me : Nat → Nat} {mt : Nat → Nat × Nat} (he : e < ne) (hc : σ (30 + 3 * e) 2 = nI c) (hc6 : c ≤ 6) (hm : ∀ k, k < c → σ (32 + 3 * e) k = nI (tmE (me k) (mt k)) ∧ tmOK (me k) (mt k) ∧ bf_gr ne (to e) (mt k) fr to cd di do_) (hg : gOK σ ne fr to cd di) (h1 : tmOK eg tg) (hg8 : g < 8) :
    am_Ev 32 [.ref 2, .ref (30 + 3 * e), .int (nI g), .int (nI (tmE eg tg))] (wd xs σ) (qE xs σ (nI (cnt (fun k => ifB σ e k && pB (me k ≤ eg ∧ AH ne fr to cd (to e) (mt k) g tg)) c))) := by
  refine am_Ev.of (n := 6) rfl rfl rfl rfl ?_
  have he12 : e < 12 := by
    have := hg.2.1
    omega
  refine s_ic (v := nI 0) rfl rfl ?_
  refine g_istore rfl (Nat.le_of_ble_eq_true rfl) ?_
  refine s_ic (v := nI 0) rfl rfl ?_
  refine g_istore rfl (Nat.le_of_ble_eq_true rfl) ?_
  refine am_for c (fun i lo τ => lo = [some (.ref 2), some (.ref (30 + 3 * e)), some (.int (nI g)), some (.int (nI (tmE eg tg))), some (.int (nI (cnt (fun k => ifB σ e k && pB (me k ≤ eg ∧ AH ne fr to cd (to e) (mt k) g tg)) i))), some (.int (nI i))] ∧ ∀ d, d ≠ 5 → τ d = σ d) ?_ ?_ 0 _ _ (Nat.zero_le _) ⟨rfl, fun _ _ => rfl⟩
  · rintro i _ τ hi ⟨rfl, hτ⟩ kk
    obtain ⟨m1, m2, m3⟩ := hm i hi
    refine g_iload rfl rfl ?_
    refine g_aload_n rfl rfl ?_
    refine g_get rfl rfl (wd_E (by omega)) rfl ?_
    rw [hτ _ (by omega), hc]
    refine g_icmp_ge rfl (fun h => absurd h (nI_ge hi (by omega))) (fun _ => ?_)
    refine g_aload_n rfl rfl ?_
    refine g_iload rfl rfl ?_
    refine c_V rfl rfl rfl rfl (wd_E (by omega)) rfl (r_isFirst he12 (by omega)) rfl rfl rfl ?_
    rw [wd5_E hτ]
    cases hb : ifB σ e i with
    | false =>
      refine g_if_eq rfl (fun _ => ?_) (fun h => absurd (rfl) h)
      refine s_inc rfl rfl (nI_1 _) ?_
      refine g_goto rfl ?_
      refine kk _ _ ⟨?_, hτ⟩
      rw [cnt_f (by simp [hb])]
      rfl
    | true =>
      refine g_if_eq rfl (fun h => absurd h (by decide)) (fun _ => ?_)
      refine g_aload_n rfl rfl ?_
      refine g_aload_n rfl rfl ?_
      refine g_get rfl rfl (wd_E (by omega)) rfl ?_
      rw [hτ _ (by omega), (hg.2.2.1 e he).2]
      refine g_aload_n rfl rfl ?_
      refine g_get rfl rfl (wd_E (by omega)) rfl ?_
      refine g_iload rfl rfl ?_
      refine s_iald rfl (a_EM (by omega)) rfl (by omega) ?_
      rw [hτ _ (by omega), m1]
      refine g_iload_n rfl rfl ?_
      refine g_iload_n rfl rfl ?_
      refine c_Vq rfl rfl rfl rfl wd_G rfl (r_isAhead m3 (hg.of hτ) m2 h1 hg8) rfl rfl rfl fun τ' hτ' => ?_
      have hτ2 : ∀ d, d ≠ 5 → τ' d = σ d := fun d hd => by rw [hτ' d hd]; exact hτ d hd
      cases hp : pB (me i ≤ eg ∧ AH ne fr to cd (to e) (mt i) g tg) with
      | false =>
        refine g_if_eq rfl (fun _ => ?_) (fun h => absurd (rfl) h)
        refine s_inc rfl rfl (nI_1 _) ?_
        refine g_goto rfl ?_
        refine kk _ _ ⟨?_, hτ2⟩
        rw [cnt_f (by simp [hp])]
        rfl
      | true =>
        refine g_if_eq rfl (fun h => absurd h (by decide)) (fun _ => ?_)
        refine s_inc rfl rfl (nI_1 _) ?_
        refine s_inc rfl rfl (nI_1 _) ?_
        refine g_goto rfl ?_
        refine kk _ _ ⟨?_, hτ2⟩
        rw [cnt_t (by simp [hb, hp])]
        rfl
  · rintro _ τ ⟨rfl, hτ⟩
    refine g_iload rfl rfl ?_
    refine g_aload_n rfl rfl ?_
    refine g_get rfl rfl (wd_E (by omega)) rfl ?_
    rw [hτ _ (by omega), hc]
    refine g_icmp_ge rfl (fun _ => ?_) (fun h => absurd (nI_le (Nat.le_refl _) (by omega)) h)
    refine g_iload rfl rfl ?_
    refine g_iret rfl rfl ?_
    exact ⟨rfl, τ, rfl, hτ⟩
/-- is request s of u, which is none other than that of g, ahead of it? -/
noncomputable def raB (ne : Nat) (fr to cd : Nat → Nat) (g eg : Nat) (tg : Nat × Nat) (u e : Nat) (t : Nat × Nat) : Bool := !(decide (u = g) && pB (e = eg ∧ t = tg)) && pB (e ≤ eg ∧ AH ne fr to cd u t g tg)
theorem r_countReqs {xs : List Int32} {σ : wd_S} {ne u r g eg : Nat} {tg : Nat × Nat} {fr to cd di do_ : Nat → Nat} {re : Nat → Nat} {rt : Nat → Nat × Nat} (hu : u < 8) (hr : σ (6 + 3 * u) 9 = nI r) (hr4 : r ≤ 4) (hm : ∀ k, k < r → σ (7 + 3 * u) k = nI (tmE (re k) (rt k)) ∧ tmOK (re k) (rt k) ∧ bf_gr ne u (rt k) fr to cd di do_) (hg : gOK σ ne fr to cd di) (h1 : tmOK eg tg) (hg8 : g < 8) :
    am_Ev 33 [.ref 2, .int (nI u), .int (nI g), .int (nI (tmE eg tg))] (wd xs σ) (qE xs σ (nI (cnt (fun k => raB ne fr to cd g eg tg u (re k) (rt k)) r))) := by
  refine am_Ev.of (n := 8) rfl rfl rfl rfl ?_
  refine s_ic (v := nI 0) rfl rfl ?_
  refine g_istore rfl (Nat.le_of_ble_eq_true rfl) ?_
  refine s_ic (v := nI 0) rfl rfl ?_
  refine g_istore rfl (Nat.le_of_ble_eq_true rfl) ?_
  refine am_for r (fun i lo τ => (∃ z6 z7, lo = [some (.ref 2), some (.int (nI u)), some (.int (nI g)), some (.int (nI (tmE eg tg))), some (.int (nI (cnt (fun k => raB ne fr to cd g eg tg u (re k) (rt k)) i))), some (.int (nI i)), z6, z7]) ∧ ∀ d, d ≠ 5 → τ d = σ d) ?_ ?_ 0 _ _ (Nat.zero_le _) ⟨⟨_, _, rfl⟩, fun _ _ => rfl⟩
  · rintro i _ τ hi ⟨⟨z6, z7, rfl⟩, hτ⟩ kk
    obtain ⟨m1, m2, m3⟩ := hm i hi
    refine g_iload rfl rfl ?_
    refine g_aload_n rfl rfl ?_
    refine g_get rfl rfl wd_G rfl ?_
    refine g_iload_n rfl rfl ?_
    refine s_aV rfl rfl (by omega) ?_
    refine g_get rfl rfl (wd_V (by omega)) rfl ?_
    rw [hτ _ (by omega), hr]
    refine g_icmp_ge rfl (fun h => absurd h (nI_ge hi (by omega))) (fun _ => ?_)
    refine g_aload_n rfl rfl ?_
    refine g_get rfl rfl wd_G rfl ?_
    refine g_iload_n rfl rfl ?_
    refine s_aV rfl rfl (by omega) ?_
    refine g_get rfl rfl (wd_V (by omega)) rfl ?_
    refine g_iload rfl rfl ?_
    refine s_iald rfl (a_VM (by omega)) rfl (by omega) ?_
    rw [hτ _ (by omega), m1]
    refine g_istore rfl (Nat.le_of_ble_eq_true rfl) ?_
    refine g_iload_n rfl rfl ?_
    refine g_iload_n rfl rfl ?_
    have tail : ∀ (lo : am_L) (z6 z7 : Option Value), lo = [some (.ref 2), some (.int (nI u)), some (.int (nI g)), some (.int (nI (tmE eg tg))), some (.int (nI (cnt (fun k => raB ne fr to cd g eg tg u (re k) (rt k)) i))), some (.int (nI i)), some (.int (nI (tmE (re i) (rt i)))), z7] → (decide (u = g) && pB (re i = eg ∧ rt i = tg)) = false → am_G 33 57 lo [] (wd xs τ) (qE xs σ (nI (cnt (fun k => raB ne fr to cd g eg tg u (re k) (rt k)) r))) := by
      rintro _ z6 z7 rfl hown
      refine g_aload_n rfl rfl ?_
      refine g_iload_n rfl rfl ?_
      refine g_iload rfl rfl ?_
      refine g_iload_n rfl rfl ?_
      refine g_iload_n rfl rfl ?_
      refine c_Vq rfl rfl rfl rfl wd_G rfl (r_isAhead m3 (hg.of hτ) m2 h1 hg8) rfl rfl rfl fun τ' hτ' => ?_
      have hτ2 : ∀ d, d ≠ 5 → τ' d = σ d := fun d hd => by rw [hτ' d hd]; exact hτ d hd
      cases hp : pB (re i ≤ eg ∧ AH ne fr to cd u (rt i) g tg) with
      | false =>
        refine g_if_eq rfl (fun _ => ?_) (fun h => absurd (rfl) h)
        refine s_inc rfl rfl (nI_1 _) ?_
        refine g_goto rfl ?_
        refine kk _ _ ⟨?_, hτ2⟩
        rw [cnt_f (by simp [raB, hp])]
        exact ⟨_, _, rfl⟩
      | true =>
        refine g_if_eq rfl (fun h => absurd h (by decide)) (fun _ => ?_)
        refine s_inc rfl rfl (nI_1 _) ?_
        refine s_inc rfl rfl (nI_1 _) ?_
        refine g_goto rfl ?_
        refine kk _ _ ⟨?_, hτ2⟩
        rw [cnt_t (by unfold raB; rw [hown, hp]; rfl)]
        exact ⟨_, _, rfl⟩
    refine g_icmp_ne rfl (fun h => ?_) (fun h => ?_)
    · refine s_ic (v := nI 0) rfl rfl ?_
      refine g_istore rfl (Nat.le_of_ble_eq_true rfl) ?_
      refine g_iload rfl rfl ?_
      refine g_if_ne rfl (fun h => absurd (nI_0) h) (fun _ => ?_)
      refine tail _ none _ rfl ?_
      rw [decide_eq_false fun z => h (by rw [z])]
      rfl
    · have hug : u = g := (nI_eq (by omega) (by omega)).mp h
      refine g_iload rfl rfl ?_
      refine g_iload_n rfl rfl ?_
      refine g_icmp_ne rfl (fun h2 => ?_) (fun h2 => ?_)
      · refine s_ic (v := nI 0) rfl rfl ?_
        refine g_istore rfl (Nat.le_of_ble_eq_true rfl) ?_
        refine g_iload rfl rfl ?_
        refine g_if_ne rfl (fun h => absurd (nI_0) h) (fun _ => ?_)
        refine tail _ none _ rfl ?_
        rw [pB_f fun z => h2 ((tmE_inj m2 h1).mpr z)]
        simp
      · refine s_ic (v := nI 1) rfl rfl ?_
        refine g_goto rfl ?_
        refine g_istore rfl (Nat.le_of_ble_eq_true rfl) ?_
        refine g_iload rfl rfl ?_
        refine g_if_ne rfl (fun _ => ?_) (fun h => absurd h (by decide))
        refine s_inc rfl rfl (nI_1 _) ?_
        refine g_goto rfl ?_
        refine kk _ _ ⟨?_, hτ⟩
        rw [cnt_f (by unfold raB; rw [decide_eq_true hug, pB_t ((tmE_inj m2 h1).mp h2)]; rfl)]
        exact ⟨_, _, rfl⟩
  · rintro _ τ ⟨⟨z6, z7, rfl⟩, hτ⟩
    refine g_iload rfl rfl ?_
    refine g_aload_n rfl rfl ?_
    refine g_get rfl rfl wd_G rfl ?_
    refine g_iload_n rfl rfl ?_
    refine s_aV rfl rfl (by omega) ?_
    refine g_get rfl rfl (wd_V (by omega)) rfl ?_
    rw [hτ _ (by omega), hr]
    refine g_icmp_ge rfl (fun _ => ?_) (fun h => absurd (nI_le (Nat.le_refl _) (by omega)) h)
    refine g_iload rfl rfl ?_
    refine g_iret rfl rfl ?_
    exact ⟨rfl, τ, rfl, hτ⟩
def sumN (f : Nat → Nat) : Nat → Nat
  | 0 => 0
  | n + 1 => sumN f n + f n
theorem sumN_le {f : Nat → Nat} {B : Nat} (h : ∀ i, f i ≤ B) (n : Nat) : sumN f n ≤ n * B := by
  induction n with
  | zero => simp [sumN]
  | succ n ih =>
    unfold sumN
    have := h n
    rw [Nat.succ_mul]
    omega
/-- the class's state as far as 'ahead' looks at it -/
def aOK (σ : wd_S) (nv ne : Nat) (fr to cd di do_ : Nat → Nat) (cn rc ee : Nat → Nat) (op : Nat → Bool) (me : Nat → Nat → Nat) (mt : Nat → Nat → Nat × Nat) (re : Nat → Nat → Nat) (rt : Nat → Nat → Nat × Nat) : Prop :=
  gOK σ ne fr to cd di ∧ σ 2 2 = nI nv ∧ nv ≤ 8 ∧
  (∀ e, e < ne → σ (30 + 3 * e) 2 = nI (cn e) ∧ cn e ≤ 6 ∧ ∀ k, k < cn e → σ (32 + 3 * e) k = nI (tmE (me e k) (mt e k)) ∧ tmOK (me e k) (mt e k) ∧ bf_gr ne (to e) (mt e k) fr to cd di do_) ∧
  (∀ u, u < nv → σ (6 + 3 * u) 9 = nI (rc u) ∧ rc u ≤ 4 ∧ (∀ k, k < rc u → σ (7 + 3 * u) k = nI (tmE (re u k) (rt u k)) ∧ tmOK (re u k) (rt u k) ∧ bf_gr ne u (rt u k) fr to cd di do_) ∧ σ (6 + 3 * u) 8 = bI (op u) ∧ σ (6 + 3 * u) 7 = nI (ee u) ∧ ee u ≤ 15 ∧ (op u = true → bf_gr ne u (0, 0) fr to cd di do_))
theorem aOK.of {σ τ : wd_S} {nv ne : Nat} {fr to cd di do_ : Nat → Nat} {cn rc ee : Nat → Nat} {op : Nat → Bool} {me : Nat → Nat → Nat} {mt : Nat → Nat → Nat × Nat} {re : Nat → Nat → Nat} {rt : Nat → Nat → Nat × Nat} (h : aOK σ nv ne fr to cd di do_ cn rc ee op me mt re rt) (hτ : ∀ d, d ≠ 5 → τ d = σ d) : aOK τ nv ne fr to cd di do_ cn rc ee op me mt re rt := by
  obtain ⟨h1, h2, h3, h4, h5⟩ := h
  refine ⟨h1.of hτ, by rw [hτ _ (by omega)]; exact h2, h3, fun e he => ?_, fun u hu => ?_⟩
  · rw [hτ _ (by omega), hτ (32 + 3 * e) (by omega)]
    exact h4 e he
  · rw [hτ _ (by omega), hτ (7 + 3 * u) (by omega)]
    exact h5 u hu
noncomputable def caM (σ : wd_S) (ne : Nat) (fr to cd : Nat → Nat) (cn : Nat → Nat) (me : Nat → Nat → Nat) (mt : Nat → Nat → Nat × Nat) (g eg : Nat) (tg : Nat × Nat) (e : Nat) : Nat := cnt (fun k => ifB σ e k && pB (me e k ≤ eg ∧ AH ne fr to cd (to e) (mt e k) g tg)) (cn e)
noncomputable def caR (ne : Nat) (fr to cd : Nat → Nat) (rc ee : Nat → Nat) (op : Nat → Bool) (re : Nat → Nat → Nat) (rt : Nat → Nat → Nat × Nat) (g eg : Nat) (tg : Nat × Nat) (u : Nat) : Nat := cnt (fun k => raB ne fr to cd g eg tg u (re u k) (rt u k)) (rc u) + (if op u && pB (ee u ≤ eg ∧ AH ne fr to cd u (0, 0) g tg) then 1 else 0)
theorem r_countAhead {xs : List Int32} {σ : wd_S} {nv ne : Nat} {fr to cd di do_ : Nat → Nat} {cn rc ee : Nat → Nat} {op : Nat → Bool} {me : Nat → Nat → Nat} {mt : Nat → Nat → Nat × Nat} {re : Nat → Nat → Nat} {rt : Nat → Nat → Nat × Nat} (h : aOK σ nv ne fr to cd di do_ cn rc ee op me mt re rt) {v s : Nat} (hv : v < nv) (hs : s < rc v) :
    am_Ev 31 [.ref 2, .int (nI v), .int (nI s)] (wd xs σ) (qE xs σ (nI (sumN (caM σ ne fr to cd cn me mt v (re v s) (rt v s)) ne + sumN (caR ne fr to cd rc ee op re rt v (re v s) (rt v s)) nv))) := by
  obtain ⟨hg, hnv, hnv8, hE, hV⟩ := id h
  have hne12 := hg.2.1
  obtain ⟨v1, v2, v3, -⟩ := hV v hv
  obtain ⟨w1, w2, -⟩ := v3 s hs
  refine am_Ev.of (n := 6) rfl rfl rfl rfl ?_
  refine g_aload_n rfl rfl ?_
  refine g_get rfl rfl wd_G rfl ?_
  refine g_iload_n rfl rfl ?_
  refine s_aV rfl rfl (by omega) ?_
  refine g_get rfl rfl (wd_V (by omega)) rfl ?_
  refine g_iload_n rfl rfl ?_
  refine s_iald rfl (a_VM (by omega)) rfl (by omega) ?_
  rw [w1]
  refine g_istore_n rfl (Nat.le_of_ble_eq_true rfl) ?_
  refine s_ic (v := nI 0) rfl rfl ?_
  refine g_istore rfl (Nat.le_of_ble_eq_true rfl) ?_
  refine s_ic (v := nI 0) rfl rfl ?_
  refine g_istore rfl (Nat.le_of_ble_eq_true rfl) ?_
  refine am_for ne (fun i lo τ => lo = [some (.ref 2), some (.int (nI v)), some (.int (nI s)), some (.int (nI (tmE (re v s) (rt v s)))), some (.int (nI (sumN (caM σ ne fr to cd cn me mt v (re v s) (rt v s)) i))), some (.int (nI i))] ∧ ∀ d, d ≠ 5 → τ d = σ d) ?_ ?_ 0 _ _ (Nat.zero_le _) ⟨rfl, fun _ _ => rfl⟩
  · rintro i _ τ hi ⟨rfl, hτ⟩ kk
    obtain ⟨e1, e2, e3⟩ := (h.of hτ).2.2.2.1 i hi
    refine g_iload rfl rfl ?_
    refine g_aload_n rfl rfl ?_
    refine g_get rfl rfl wd_G rfl ?_
    rw [hτ _ (by omega), hg.1]
    refine g_icmp_ge rfl (fun h => absurd h (nI_ge hi (by omega))) (fun _ => ?_)
    refine g_iload rfl rfl ?_
    refine g_aload_n rfl rfl ?_
    refine g_aload_n rfl rfl ?_
    refine g_get rfl rfl wd_G rfl ?_
    refine g_iload rfl rfl ?_
    refine s_aE rfl rfl (by omega) ?_
    refine g_iload_n rfl rfl ?_
    refine g_iload_n rfl rfl ?_
    refine c_Vq rfl rfl rfl rfl wd_G rfl (r_countMsgs hi e1 e2 e3 (hg.of hτ) w2 (by omega)) rfl rfl rfl fun τ' hτ' => ?_
    have hτ2 : ∀ d, d ≠ 5 → τ' d = σ d := fun d hd => by rw [hτ' d hd]; exact hτ d hd
    refine g_iadd rfl ?_
    rw [nI_add]
    refine g_istore rfl (Nat.le_of_ble_eq_true rfl) ?_
    refine s_inc rfl rfl (nI_1 _) ?_
    refine g_goto rfl ?_
    refine kk _ _ ⟨?_, hτ2⟩
    have hifb : ifB τ i = ifB σ i := funext fun k => wd5_E hτ i k
    rw [hifb]
    rfl
  · rintro _ τ ⟨rfl, hτ⟩
    refine g_iload rfl rfl ?_
    refine g_aload_n rfl rfl ?_
    refine g_get rfl rfl wd_G rfl ?_
    rw [hτ _ (by omega), hg.1]
    refine g_icmp_ge rfl (fun _ => ?_) (fun h => absurd (nI_le (Nat.le_refl _) (by omega)) h)
    refine s_ic (v := nI 0) rfl rfl ?_
    refine g_istore rfl (Nat.le_of_ble_eq_true rfl) ?_
    refine am_for nv (fun i lo τ => lo = [some (.ref 2), some (.int (nI v)), some (.int (nI s)), some (.int (nI (tmE (re v s) (rt v s)))), some (.int (nI (sumN (caM σ ne fr to cd cn me mt v (re v s) (rt v s)) ne + sumN (caR ne fr to cd rc ee op re rt v (re v s) (rt v s)) i))), some (.int (nI i))] ∧ ∀ d, d ≠ 5 → τ d = σ d) ?_ ?_ 0 _ _ (Nat.zero_le _) ⟨rfl, hτ⟩
    · rintro i _ τ hi ⟨rfl, hτ⟩ kk
      obtain ⟨e1, e2, e3, e4, e5, e6, e7⟩ := (h.of hτ).2.2.2.2 i hi
      refine g_iload rfl rfl ?_
      refine g_aload_n rfl rfl ?_
      refine g_get rfl rfl wd_G rfl ?_
      rw [hτ _ (by omega), hnv]
      refine g_icmp_ge rfl (fun h => absurd h (nI_ge hi (by omega))) (fun _ => ?_)
      refine g_iload rfl rfl ?_
      refine g_aload_n rfl rfl ?_
      refine g_iload rfl rfl ?_
      refine g_iload_n rfl rfl ?_
      refine g_iload_n rfl rfl ?_
      refine c_Vq rfl rfl rfl rfl wd_G rfl (r_countReqs (by omega) e1 e2 e3 (hg.of hτ) w2 (by omega)) rfl rfl rfl fun τ' hτ' => ?_
      have hτ2 : ∀ d, d ≠ 5 → τ' d = σ d := fun d hd => by rw [hτ' d hd]; exact hτ d hd
      refine g_iadd rfl ?_
      rw [nI_add]
      refine g_istore rfl (Nat.le_of_ble_eq_true rfl) ?_
      refine g_aload_n rfl rfl ?_
      refine g_get rfl rfl wd_G rfl ?_
      refine g_iload rfl rfl ?_
      refine s_aV rfl rfl (by omega) ?_
      refine g_get rfl rfl (wd_V (by omega)) rfl ?_
      rw [hτ' _ (by omega), e4]
      cases ho : op i with
      | false =>
        refine g_if_eq rfl (fun _ => ?_) (fun h => absurd (rfl) h)
        refine s_inc rfl rfl (nI_1 _) ?_
        refine g_goto rfl ?_
        refine kk _ _ ⟨?_, hτ2⟩
        show _ = [_, _, _, _, some (Value.int (nI (_ + (sumN (caR ne fr to cd rc ee op re rt v (re v s) (rt v s)) i + caR ne fr to cd rc ee op re rt v (re v s) (rt v s) i)))), _]
        unfold caR
        rw [ho]
        simp only [Bool.false_and, Nat.add_assoc]
        rfl
      | true =>
        refine g_if_eq rfl (fun h => absurd h (by decide)) (fun _ => ?_)
        refine g_aload_n rfl rfl ?_
        refine g_iload rfl rfl ?_
        refine g_aload_n rfl rfl ?_
        refine g_get rfl rfl wd_G rfl ?_
        refine g_iload rfl rfl ?_
        refine s_aV rfl rfl (by omega) ?_
        refine g_get rfl rfl (wd_V (by omega)) rfl ?_
        rw [hτ' _ (by omega), e5]
        refine c_S rfl rfl rfl rfl (r_ofEpoch _) rfl rfl rfl ?_
        rw [tm_ofEpoch e6]
        refine g_iload_n rfl rfl ?_
        refine g_iload_n rfl rfl ?_
        refine c_Vq rfl rfl rfl rfl wd_G rfl (r_isAhead (e7 ho) (hg.of hτ2) ⟨e6, Nat.zero_le _, Nat.zero_le _⟩ w2 (by omega)) rfl rfl rfl fun τ3 hτ3 => ?_
        have hτ4 : ∀ d, d ≠ 5 → τ3 d = σ d := fun d hd => by rw [hτ3 d hd]; exact hτ2 d hd
        cases hp : pB (ee i ≤ re v s ∧ AH ne fr to cd i (0, 0) v (rt v s)) with
        | false =>
          refine g_if_eq rfl (fun _ => ?_) (fun h => absurd (rfl) h)
          refine s_inc rfl rfl (nI_1 _) ?_
          refine g_goto rfl ?_
          refine kk _ _ ⟨?_, hτ4⟩
          show _ = [_, _, _, _, some (Value.int (nI (_ + (sumN (caR ne fr to cd rc ee op re rt v (re v s) (rt v s)) i + caR ne fr to cd rc ee op re rt v (re v s) (rt v s) i)))), _]
          unfold caR
          rw [ho, hp]
          simp only [Bool.and_false, Nat.add_assoc]
          rfl
        | true =>
          refine g_if_eq rfl (fun h => absurd h (by decide)) (fun _ => ?_)
          refine s_inc rfl rfl (nI_1 _) ?_
          refine s_inc rfl rfl (nI_1 _) ?_
          refine g_goto rfl ?_
          refine kk _ _ ⟨?_, hτ4⟩
          show _ = [_, _, _, _, some (Value.int (nI (_ + (sumN (caR ne fr to cd rc ee op re rt v (re v s) (rt v s)) i + caR ne fr to cd rc ee op re rt v (re v s) (rt v s) i)))), _]
          unfold caR
          rw [ho, hp]
          simp only [Bool.and_true, Nat.add_assoc]
          rfl
    · rintro _ τ ⟨rfl, hτ⟩
      refine g_iload rfl rfl ?_
      refine g_aload_n rfl rfl ?_
      refine g_get rfl rfl wd_G rfl ?_
      rw [hτ _ (by omega), hnv]
      refine g_icmp_ge rfl (fun _ => ?_) (fun h => absurd (nI_le (Nat.le_refl _) (by omega)) h)
      refine g_iload rfl rfl ?_
      refine g_iret rfl rfl ?_
      exact ⟨rfl, τ, rfl, hτ⟩
