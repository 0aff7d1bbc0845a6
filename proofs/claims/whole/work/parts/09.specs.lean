/-! Contracts over the world of 84 cells. -/
/-- method mi answers R and leaves s' -/
def ev (xs : List Int32) (mi : Nat) (args : List Value) (σ : wd_S) (R : Int32) (σ' : wd_S) : Prop := am_Ev mi args (wd xs σ) (fun v w => v = some (.int R) ∧ w = wd xs σ')
/-- a void one -/
def evv (xs : List Int32) (mi : Nat) (args : List Value) (σ σ' : wd_S) : Prop := am_Ev mi args (wd xs σ) (fun v w => v = none ∧ w = wd xs σ')
/-- the end of a method that answers R and leaves s' -/
abbrev po (xs : List Int32) (R : Int32) (σ' : wd_S) : Option Value → am_W → Prop := fun v w => v = some (.int R) ∧ w = wd xs σ'
abbrev pv (xs : List Int32) (σ' : wd_S) : Option Value → am_W → Prop := fun v w => v = none ∧ w = wd xs σ'
section CR
variable {mi pc nx tg : Nat} {lo : am_L} {st stk : List Value} {xs : List Int32} {σ σ' : wd_S} {P : Option Value → am_W → Prop} {R : Int32}
theorem c_V {i mi2 a ci : Nat} {As fs : List Value} (h : am_tb mi pc = some (.invokevirtual i, nx, tg)) (hr : am_r2 am_mR (am_ow mi) i = some mi2) (hk : Nat.blt (am_rk mi2) (am_rk mi) = true) (hkd : am_kd mi2 = 0) (hw : (wd xs σ)[a]? = some (.inr (.inr (ci, fs)))) (hci : am_ow mi2 = ci) (hE : ev xs mi2 (.ref a :: As) σ R σ') (hst : stk = As.reverse ++ .ref a :: st) (hnp : am_np mi2 = As.length) (hrest : Nat.ble (am_cs st) 8 = true) (kk : am_G mi nx lo (.int R :: st) (wd xs σ') P) : am_G mi pc lo stk (wd xs σ) P :=
  g_callV h hr hk hkd hw hci hE hst hnp hrest (by rintro _ _ ⟨rfl, rfl⟩; exact kk)
theorem c_Vv {i mi2 a ci : Nat} {As fs : List Value} (h : am_tb mi pc = some (.invokevirtual i, nx, tg)) (hr : am_r2 am_mR (am_ow mi) i = some mi2) (hk : Nat.blt (am_rk mi2) (am_rk mi) = true) (hkd : am_kd mi2 = 0) (hw : (wd xs σ)[a]? = some (.inr (.inr (ci, fs)))) (hci : am_ow mi2 = ci) (hE : evv xs mi2 (.ref a :: As) σ σ') (hst : stk = As.reverse ++ .ref a :: st) (hnp : am_np mi2 = As.length) (hrest : Nat.ble (am_cs st) 8 = true) (kk : am_G mi nx lo st (wd xs σ') P) : am_G mi pc lo stk (wd xs σ) P :=
  g_callV h hr hk hkd hw hci hE hst hnp hrest (by rintro _ _ ⟨rfl, rfl⟩; exact kk)
theorem c_S {i mi2 : Nat} {As : List Value} (h : am_tb mi pc = some (.invokestatic i, nx, tg)) (hr : am_r2 am_mR (am_ow mi) i = some mi2) (hk : Nat.blt (am_rk mi2) (am_rk mi) = true) (hkd : am_kd mi2 = 1) (hE : ev xs mi2 As σ R σ') (hst : stk = As.reverse ++ st) (hnp : am_np mi2 = As.length) (hrest : Nat.ble (am_cs st) 8 = true) (kk : am_G mi nx lo (.int R :: st) (wd xs σ') P) : am_G mi pc lo stk (wd xs σ) P :=
  g_callS h hr hk hkd hE hst hnp hrest (by rintro _ _ ⟨rfl, rfl⟩; exact kk)
end CR
/-- a loop over i from its head: what holds of i, the locals and the state goes on -/
theorem am_for {mi hd : Nat} {xs : List Int32} {P : Option Value → am_W → Prop} (n : Nat) (I : Nat → am_L → wd_S → Prop)
    (hs : ∀ i lo σ, i < n → I i lo σ → (∀ lo' σ', I (i + 1) lo' σ' → am_G mi hd lo' [] (wd xs σ') P) → am_G mi hd lo [] (wd xs σ) P)
    (he : ∀ lo σ, I n lo σ → am_G mi hd lo [] (wd xs σ) P) : ∀ i lo σ, i ≤ n → I i lo σ → am_G mi hd lo [] (wd xs σ) P := by
  have key : ∀ d i lo σ, n - i = d → i ≤ n → I i lo σ → am_G mi hd lo [] (wd xs σ) P := by
    intro d
    induction d with
    | zero =>
      intro i lo σ h1 h2 h3
      have : i = n := by omega
      subst this
      exact he lo σ h3
    | succ d ih =>
      intro i lo σ h1 h2 h3
      exact hs i lo σ (by omega) h3 fun lo' σ' h4 => ih (i + 1) lo' σ' (by omega) (by omega) h4
  exact fun i lo σ h1 h2 => key (n - i) i lo σ rfl h1 h2
theorem i0 : (0 : Int32).toInt = 0 := by decide
theorem lt_i (a b : Int32) : a < b ↔ a.toInt < b.toInt := Int32.lt_iff_toInt_lt
theorem le_i (a b : Int32) : a ≤ b ↔ a.toInt ≤ b.toInt := Int32.le_iff_toInt_le
theorem u2_c {σ : wd_S} {c k d j : Nat} {x : Int32} (h : d ≠ c) : u2 σ c k x d j = σ d j := u2_ne (Or.inl h)
theorem u2_k {σ : wd_S} {c k j : Nat} {x : Int32} (h : j ≠ k) : u2 σ c k x c j = σ c j := u2_ne (Or.inr h)
/-- a row of the world is put in place -/
def rws (σ : wd_S) (c : Nat) (r : Nat → Int32) : wd_S := fun d => if d = c then r else σ d
theorem rws_same (σ : wd_S) (c : Nat) (r : Nat → Int32) : rws σ c r c = r := by simp [rws]
theorem rws_c {σ : wd_S} {c d : Nat} {r : Nat → Int32} (h : d ≠ c) : rws σ c r d = σ d := by simp [rws, h]
theorem u2_rws (σ : wd_S) (c k : Nat) (r : Nat → Int32) (x : Int32) : u2 (rws σ c r) c k x = rws σ c (upd r k x) := by
  funext d
  unfold u2 rws
  by_cases h : d = c
  · subst h; simp
  · simp [h]
theorem u2_rws_c {σ : wd_S} {c k d : Nat} {r : Nat → Int32} {x : Int32} (h : d ≠ c) : u2 (rws σ c r) d k x = rws (u2 σ d k x) c r := by
  funext b
  unfold u2 rws
  by_cases h1 : b = d
  · subst h1; simp [h]
  · by_cases h2 : b = c
    · subst h2; simp [h1]
    · simp [h1, h2]
theorem rws_rws (σ : wd_S) (c : Nat) (r r' : Nat → Int32) : rws (rws σ c r) c r' = rws σ c r' := by
  funext b
  unfold rws
  by_cases h : b = c <;> simp [h]
theorem rws_comm {σ : wd_S} {c d : Nat} {r r' : Nat → Int32} (h : c ≠ d) : rws (rws σ c r) d r' = rws (rws σ d r') c r := by
  funext b
  unfold rws
  by_cases h1 : b = c
  · subst h1; simp [h]
  · simp [h1]
theorem u2_eq (σ : wd_S) (c k : Nat) (x : Int32) : u2 σ c k x = rws σ c (upd (σ c) k x) := rfl
theorem rws_self (σ : wd_S) (c : Nat) : rws σ c (σ c) = σ := by
  funext b
  unfold rws
  by_cases h : b = c
  · subst h; simp
  · simp [h]
/-- a truth as Java has it -/
def bI (b : Bool) : Int32 := if b then nI 1 else nI 0
theorem bI_or (b : Bool) : bI b = 0 ∨ bI b = 1 := by cases b <;> decide
theorem bI_t : bI true = nI 1 := rfl
theorem bI_f : bI false = nI 0 := rfl
/-- is there one below n? -/
def anyB (p : Nat → Bool) : Nat → Bool
  | 0 => false
  | n + 1 => anyB p n || p n
theorem anyB_f {p : Nat → Bool} : ∀ {n : Nat}, anyB p n = false ↔ ∀ j, j < n → p j = false := by
  intro n
  induction n with
  | zero => exact ⟨fun _ j h => absurd h (Nat.not_lt_zero j), fun _ => rfl⟩
  | succ n ih =>
    unfold anyB
    rw [Bool.or_eq_false_iff, ih]
    constructor
    · rintro ⟨h1, h2⟩ j hj
      by_cases h : j = n
      · rw [h]; exact h2
      · exact h1 j (by omega)
    · intro h
      exact ⟨fun j hj => h j (by omega), h n (by omega)⟩
theorem anyB_t {p : Nat → Bool} {n : Nat} : anyB p n = true ↔ ∃ j, j < n ∧ p j = true := by
  constructor
  · intro h
    apply Classical.byContradiction
    intro hn
    have : anyB p n = false := anyB_f.mpr fun j hj => by
      cases hp : p j with
      | false => rfl
      | true => exact absurd ⟨j, hj, hp⟩ hn
    rw [h] at this
    cases this
  · rintro ⟨j, hj, hp⟩
    cases h : anyB p n with
    | true => rfl
    | false =>
      have := anyB_f.mp h j hj
      rw [hp] at this
      cases this
/-- how many below n -/
def cnt (p : Nat → Bool) : Nat → Nat
  | 0 => 0
  | n + 1 => cnt p n + (if p n then 1 else 0)
theorem cnt_le (p : Nat → Bool) (n : Nat) : cnt p n ≤ n := by
  induction n with
  | zero => exact Nat.le_refl _
  | succ n ih =>
    unfold cnt
    split <;> omega
/-- the first below n -/
def fst1 (p : Nat → Bool) : Nat → Option Nat
  | 0 => none
  | n + 1 => match fst1 p n with
    | some j => some j
    | none => if p n then some n else none
theorem fst1_none {p : Nat → Bool} : ∀ {n : Nat}, fst1 p n = none ↔ ∀ j, j < n → p j = false := by
  intro n
  induction n with
  | zero => exact ⟨fun _ j h => absurd h (Nat.not_lt_zero j), fun _ => rfl⟩
  | succ n ih =>
    unfold fst1
    cases h : fst1 p n with
    | some j =>
      constructor
      · intro z; cases z
      · intro z
        have := ih.mpr fun j hj => z j (by omega)
        rw [h] at this
        cases this
    | none =>
      have h1 := ih.mp h
      cases hp : p n with
      | true =>
        constructor
        · intro z; simp at z
        · intro z
          have := z n (by omega)
          rw [hp] at this
          cases this
      | false =>
        constructor
        · intro _ j hj
          by_cases hjn : j = n
          · rw [hjn]; exact hp
          · exact h1 j (by omega)
        · intro _; simp
theorem fst1_some {p : Nat → Bool} {n j : Nat} (hj : j < n) (hp : p j = true) (hb : ∀ i, i < j → p i = false) : fst1 p n = some j := by
  have key : ∀ d, fst1 p (j + 1 + d) = some j := by
    intro d
    induction d with
    | zero =>
      show fst1 p (j + 1) = some j
      unfold fst1
      rw [fst1_none.mpr hb, hp]
      rfl
    | succ d ih =>
      show fst1 p (j + 1 + d + 1) = some j
      unfold fst1
      rw [ih]
  have := key (n - (j + 1))
  rwa [show j + 1 + (n - (j + 1)) = n by omega] at this
def oI (o : Option Nat) : Int32 := match o with
  | some j => nI j
  | none => -1
/-- a sum of ints -/
def sI (f : Nat → Int32) : Nat → Int32
  | 0 => nI 0
  | n + 1 => sI f n + f n
/-- what stands behind place lo moves one place down, up to hi -/
def sh (lo hi : Nat) (f : Nat → Int32) : Nat → Int32 := fun j => if lo ≤ j ∧ j < hi then f (j + 1) else f j
theorem sh_0 (lo : Nat) (f : Nat → Int32) : sh lo lo f = f := by
  funext j
  unfold sh
  rw [if_neg (by omega)]
theorem sh_s {lo hi : Nat} (f : Nat → Int32) (h : lo ≤ hi) : upd (sh lo hi f) hi (f (hi + 1)) = sh lo (hi + 1) f := by
  funext j
  unfold upd sh
  by_cases h1 : j = hi
  · subst h1
    rw [if_pos rfl, if_pos (by omega)]
  · rw [if_neg h1]
    by_cases h2 : lo ≤ j ∧ j < hi
    · rw [if_pos h2, if_pos (by omega)]
    · rw [if_neg h2, if_neg (by omega)]
theorem sh_at (lo hi : Nat) (f : Nat → Int32) : sh lo hi f (hi + 1) = f (hi + 1) := by
  unfold sh
  rw [if_neg (by omega)]
theorem cnt_t {p : Nat → Bool} {n : Nat} (h : p n = true) : cnt p (n + 1) = cnt p n + 1 := by
  show cnt p n + (if p n then 1 else 0) = _
  rw [h]
  rfl
theorem cnt_f {p : Nat → Bool} {n : Nat} (h : p n = false) : cnt p (n + 1) = cnt p n := by
  show cnt p n + (if p n then 1 else 0) = _
  rw [h]
  rfl
theorem dec1 (n : Nat) : nI (n + 1) + Int32.ofInt (-1) = nI n := by
  rw [show Int32.ofInt (-1) = (-1 : Int32) by decide]
  exact pk_m1 n
/-- the end of a loop's list of sums -/
theorem sI_s (f : Nat → Int32) (n : Nat) : sI f n + f n = sI f (n + 1) := rfl
