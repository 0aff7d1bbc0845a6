/-! The world behind the constructors: 84 cells, their ints given by a function of cell and place. -/
def lf (n : Nat) (r : Nat → Int32) : List Int32 := (List.range n).map r
theorem lf_get {n k : Nat} {r : Nat → Int32} (h : k < n) : (lf n r)[k]? = some (r k) := by
  unfold lf
  simp [h]
theorem lf_len (n : Nat) (r : Nat → Int32) : (lf n r).length = n := by
  unfold lf
  simp
theorem lf_set (n k : Nat) (r : Nat → Int32) (x : Int32) : (lf n r).set k x = lf n (upd r k x) := by
  refine List.ext_getElem? fun j => ?_
  by_cases hj : j < n
  · rw [List.getElem?_set, lf_get (r := upd r k x) hj]
    by_cases hk : k = j
    · subst hk
      rw [if_pos rfl, if_pos (by rw [lf_len]; exact hj)]
      simp [upd]
    · rw [if_neg hk, lf_get hj]
      simp [upd, Ne.symm hk]
  · rw [List.getElem?_eq_none (by rw [List.length_set, lf_len]; omega), List.getElem?_eq_none (by rw [lf_len]; omega)]
/-- the lengths of the reference's arrays -/
def wd_ml (c : Nat) : Nat := if c < 73 then 8 else if c < 76 then 12 else if c = 76 then 72 else if c = 77 then 216 else if c = 78 then 32 else if c = 79 then 96 else if c = 80 then 32 else 20
/-- cell c with the ints r -/
def fl (c : Nat) (r : Nat → Int32) : am_E :=
  if c = 1 then .inr (.inr (0, [.ref 2, .int (r 1), .int (r 2), .int (r 3), .int (r 4)]))
  else if c = 2 then .inr (.inr (1, [.ref 3, .ref 4, .int (r 2), .int (r 3), .ref 5]))
  else if c = 3 then .inr (.inl (2, (List.range 8).map fun v => .ref (6 + 3 * v)))
  else if c = 4 then .inr (.inl (3, (List.range 12).map fun e => .ref (30 + 3 * e)))
  else if c = 5 then .inl (0, lf 8 r)
  else if c < 30 then (if c % 3 = 0 then .inr (.inr (2, [.int (r 0), .int (r 1), .int (r 2), .int (r 3), .int (r 4), .int (r 5), .int (r 6), .int (r 7), .int (r 8), .int (r 9), .ref (c + 1), .ref (c + 2)])) else .inl (0, lf 4 r))
  else if c < 66 then (if c % 3 = 0 then .inr (.inr (3, [.int (r 0), .int (r 1), .int (r 2), .ref (c + 1), .ref (c + 2)])) else .inl (0, lf 6 r))
  else if c = 66 then .inr (.inr (4, [.int (r 0), .int (r 1), .ref 67, .ref 68, .ref 69, .ref 70, .ref 71, .ref 72, .int (r 8), .ref 73, .ref 74, .ref 75, .ref 76, .ref 77, .int (r 14), .ref 78, .ref 79, .ref 80, .int (r 18), .int (r 19), .int (r 20), .int (r 21), .int (r 22), .int (r 23), .ref 81, .ref 82, .ref 83]))
  else .inl (if c = 71 ∨ c = 81 then 1 else 0, lf (wd_ml c) r)
abbrev wd_S : Type := Nat → Nat → Int32
def wd (xs : List Int32) (σ : wd_S) : am_W := .inl (0, xs) :: (List.range 83).map fun i => fl (i + 1) (σ (i + 1))
def u2 (σ : wd_S) (c k : Nat) (x : Int32) : wd_S := fun d => if d = c then upd (σ c) k x else σ d
theorem u2_same (σ : wd_S) (c k : Nat) (x : Int32) : u2 σ c k x c k = x := by simp [u2, upd]
theorem u2_row {σ : wd_S} {c k d : Nat} {x : Int32} (h : d ≠ c) : u2 σ c k x d = σ d := by simp [u2, h]
theorem u2_ne {σ : wd_S} {c k d j : Nat} {x : Int32} (h : d ≠ c ∨ j ≠ k) : u2 σ c k x d j = σ d j := by
  unfold u2
  by_cases hd : d = c
  · subst hd
    rw [if_pos rfl]
    rcases h with h | h
    · exact absurd rfl h
    · simp [upd, h]
  · rw [if_neg hd]
theorem wd_at {xs : List Int32} {σ : wd_S} {c : Nat} (h0 : 0 < c) (h : c < 84) : (wd xs σ)[c]? = some (fl c (σ c)) := by
  unfold wd
  obtain ⟨n, rfl⟩ : ∃ n, c = n + 1 := ⟨c - 1, by omega⟩
  have hn : n < 83 := by omega
  simp [hn]
theorem wd_len (xs : List Int32) (σ : wd_S) : (wd xs σ).length = 84 := by
  unfold wd
  simp
theorem wd_set {xs : List Int32} {σ : wd_S} {c k : Nat} {x : Int32} {e : am_E} (h0 : 0 < c) (h : c < 84) (he : e = fl c (upd (σ c) k x)) : (wd xs σ).set c e = wd xs (u2 σ c k x) := by
  refine List.ext_getElem? fun j => ?_
  rw [List.getElem?_set]
  by_cases hj : j < 84
  · by_cases hcj : c = j
    · subst hcj
      rw [if_pos rfl, if_pos (by rw [wd_len]; exact h), wd_at h0 h, he]
      simp [u2]
    · rw [if_neg hcj]
      by_cases hj0 : j = 0
      · subst hj0
        rfl
      · rw [wd_at (by omega) hj, wd_at (by omega) hj, u2_row (Ne.symm hcj)]
  · rw [if_neg (by omega), List.getElem?_eq_none (by rw [wd_len]; omega), List.getElem?_eq_none (by rw [wd_len]; omega)]
section WD
variable {xs : List Int32} {σ : wd_S}
theorem wd_F : (wd xs σ)[1]? = some (.inr (.inr (0, [.ref 2, .int (σ 1 1), .int (σ 1 2), .int (σ 1 3), .int (σ 1 4)]))) := wd_at (by decide) (by decide)
theorem wd_G : (wd xs σ)[2]? = some (.inr (.inr (1, [.ref 3, .ref 4, .int (σ 2 2), .int (σ 2 3), .ref 5]))) := wd_at (by decide) (by decide)
theorem wd_VS : (wd xs σ)[3]? = some (.inr (.inl (2, (List.range 8).map fun v => .ref (6 + 3 * v)))) := wd_at (by decide) (by decide)
theorem wd_ES : (wd xs σ)[4]? = some (.inr (.inl (3, (List.range 12).map fun e => .ref (30 + 3 * e)))) := wd_at (by decide) (by decide)
theorem fl_V {v : Nat} (hv : v < 8) (r : Nat → Int32) : fl (6 + 3 * v) r = .inr (.inr (2, [.int (r 0), .int (r 1), .int (r 2), .int (r 3), .int (r 4), .int (r 5), .int (r 6), .int (r 7), .int (r 8), .int (r 9), .ref (7 + 3 * v), .ref (8 + 3 * v)])) := by
  unfold fl
  rw [if_neg (by omega), if_neg (by omega), if_neg (by omega), if_neg (by omega), if_neg (by omega), if_pos (by omega), if_pos (by omega), show 6 + 3 * v + 1 = 7 + 3 * v by omega, show 6 + 3 * v + 2 = 8 + 3 * v by omega]
theorem fl_E {e : Nat} (he : e < 12) (r : Nat → Int32) : fl (30 + 3 * e) r = .inr (.inr (3, [.int (r 0), .int (r 1), .int (r 2), .ref (31 + 3 * e), .ref (32 + 3 * e)])) := by
  unfold fl
  rw [if_neg (by omega), if_neg (by omega), if_neg (by omega), if_neg (by omega), if_neg (by omega), if_neg (by omega), if_pos (by omega), if_pos (by omega), show 30 + 3 * e + 1 = 31 + 3 * e by omega, show 30 + 3 * e + 2 = 32 + 3 * e by omega]
theorem wd_V {v : Nat} (hv : v < 8) : (wd xs σ)[6 + 3 * v]? = some (.inr (.inr (2, [.int (σ (6 + 3 * v) 0), .int (σ (6 + 3 * v) 1), .int (σ (6 + 3 * v) 2), .int (σ (6 + 3 * v) 3), .int (σ (6 + 3 * v) 4), .int (σ (6 + 3 * v) 5), .int (σ (6 + 3 * v) 6), .int (σ (6 + 3 * v) 7), .int (σ (6 + 3 * v) 8), .int (σ (6 + 3 * v) 9), .ref (7 + 3 * v), .ref (8 + 3 * v)]))) := by
  rw [wd_at (by omega) (by omega), fl_V hv]
theorem wd_E {e : Nat} (he : e < 12) : (wd xs σ)[30 + 3 * e]? = some (.inr (.inr (3, [.int (σ (30 + 3 * e) 0), .int (σ (30 + 3 * e) 1), .int (σ (30 + 3 * e) 2), .ref (31 + 3 * e), .ref (32 + 3 * e)]))) := by
  rw [wd_at (by omega) (by omega), fl_E he]
theorem wd_M : (wd xs σ)[66]? = some (.inr (.inr (4, [.int (σ 66 0), .int (σ 66 1), .ref 67, .ref 68, .ref 69, .ref 70, .ref 71, .ref 72, .int (σ 66 8), .ref 73, .ref 74, .ref 75, .ref 76, .ref 77, .int (σ 66 14), .ref 78, .ref 79, .ref 80, .int (σ 66 18), .int (σ 66 19), .int (σ 66 20), .int (σ 66 21), .int (σ 66 22), .int (σ 66 23), .ref 81, .ref 82, .ref 83]))) := wd_at (by decide) (by decide)
end WD
/-- cell c is an array of n ints of kind t -/
def arr (c n t : Nat) : Prop := 0 < c ∧ c < 84 ∧ n < 1000 ∧ ∀ r, fl c r = .inl (t, lf n r)
theorem a_5 : arr 5 8 0 := ⟨by decide, by decide, by decide, fun _ => rfl⟩
theorem a_VM {v : Nat} (hv : v < 8) : arr (7 + 3 * v) 4 0 := ⟨by omega, by omega, by decide, fun r => by
  unfold fl
  rw [if_neg (by omega), if_neg (by omega), if_neg (by omega), if_neg (by omega), if_neg (by omega), if_pos (by omega), if_neg (by omega)]⟩
theorem a_VG {v : Nat} (hv : v < 8) : arr (8 + 3 * v) 4 0 := ⟨by omega, by omega, by decide, fun r => by
  unfold fl
  rw [if_neg (by omega), if_neg (by omega), if_neg (by omega), if_neg (by omega), if_neg (by omega), if_pos (by omega), if_neg (by omega)]⟩
theorem a_EV {e : Nat} (he : e < 12) : arr (31 + 3 * e) 6 0 := ⟨by omega, by omega, by decide, fun r => by
  unfold fl
  rw [if_neg (by omega), if_neg (by omega), if_neg (by omega), if_neg (by omega), if_neg (by omega), if_neg (by omega), if_pos (by omega), if_neg (by omega)]⟩
theorem a_EM {e : Nat} (he : e < 12) : arr (32 + 3 * e) 6 0 := ⟨by omega, by omega, by decide, fun r => by
  unfold fl
  rw [if_neg (by omega), if_neg (by omega), if_neg (by omega), if_neg (by omega), if_neg (by omega), if_neg (by omega), if_pos (by omega), if_neg (by omega)]⟩
theorem a_67 : arr 67 8 0 := ⟨by decide, by decide, by decide, fun _ => rfl⟩
theorem a_68 : arr 68 8 0 := ⟨by decide, by decide, by decide, fun _ => rfl⟩
theorem a_69 : arr 69 8 0 := ⟨by decide, by decide, by decide, fun _ => rfl⟩
theorem a_70 : arr 70 8 0 := ⟨by decide, by decide, by decide, fun _ => rfl⟩
theorem a_71 : arr 71 8 1 := ⟨by decide, by decide, by decide, fun _ => rfl⟩
theorem a_72 : arr 72 8 0 := ⟨by decide, by decide, by decide, fun _ => rfl⟩
theorem a_73 : arr 73 12 0 := ⟨by decide, by decide, by decide, fun _ => rfl⟩
theorem a_74 : arr 74 12 0 := ⟨by decide, by decide, by decide, fun _ => rfl⟩
theorem a_75 : arr 75 12 0 := ⟨by decide, by decide, by decide, fun _ => rfl⟩
theorem a_76 : arr 76 72 0 := ⟨by decide, by decide, by decide, fun _ => rfl⟩
theorem a_77 : arr 77 216 0 := ⟨by decide, by decide, by decide, fun _ => rfl⟩
theorem a_78 : arr 78 32 0 := ⟨by decide, by decide, by decide, fun _ => rfl⟩
theorem a_79 : arr 79 96 0 := ⟨by decide, by decide, by decide, fun _ => rfl⟩
theorem a_80 : arr 80 32 0 := ⟨by decide, by decide, by decide, fun _ => rfl⟩
theorem a_81 : arr 81 20 1 := ⟨by decide, by decide, by decide, fun _ => rfl⟩
theorem a_82 : arr 82 20 0 := ⟨by decide, by decide, by decide, fun _ => rfl⟩
theorem a_83 : arr 83 20 0 := ⟨by decide, by decide, by decide, fun _ => rfl⟩
section SR
variable {mi pc nx tg : Nat} {lo : am_L} {st : List Value} {xs : List Int32} {σ : wd_S} {P : Option Value → am_W → Prop} {x y i : Int32}
theorem s_ic {n : Int} {v : Int32} (h : am_tb mi pc = some (.iconst n, nx, tg)) (hv : Int32.ofInt n = v) {w : am_W} (k : am_G mi nx lo (.int v :: st) w P) : am_G mi pc lo st w P := by
  subst hv
  exact g_iconst h k
theorem s_bp {n : Int} {v : Int32} (h : am_tb mi pc = some (.bipush n, nx, tg)) (hv : (Int8.ofInt n).toInt32 = v) {w : am_W} (k : am_G mi nx lo (.int v :: st) w P) : am_G mi pc lo st w P := by
  subst hv
  exact g_bipush h k
theorem s_sp {n : Int} {v : Int32} (h : am_tb mi pc = some (.sipush n, nx, tg)) (hv : (Int16.ofInt n).toInt32 = v) {w : am_W} (k : am_G mi nx lo (.int v :: st) w P) : am_G mi pc lo st w P := by
  subst hv
  exact g_sipush h k
theorem s_inc {j : Nat} {n : Int} {v : Int32} (h : am_tb mi pc = some (.iinc j n, nx, tg)) (hl : am_get lo j = some (.int x)) (hv : x + Int32.ofInt n = v) {w : am_W} (k : am_G mi nx (lo.set j (some (.int v))) st w P) : am_G mi pc lo st w P := by
  subst hv
  exact g_iinc h hl k
theorem s_iald {c n j : Nat} (h : am_tb mi pc = some (.iaload, nx, tg)) (A : arr c n 0) (hi : i = nI j) (hj : j < n) (k : am_G mi nx lo (.int (σ c j) :: st) (wd xs σ) P) : am_G mi pc lo (.int i :: .ref c :: st) (wd xs σ) P := by
  obtain ⟨h1, h2, h3, h4⟩ := A
  subst hi
  refine g_iald h (by rw [wd_at h1 h2, h4]) (nI_pos (by omega)) ?_ k
  rw [nI_clamp (by omega), lf_get hj]
theorem s_zald {c n j : Nat} (h : am_tb mi pc = some (.baload, nx, tg)) (A : arr c n 1) (hi : i = nI j) (hj : j < n) (k : am_G mi nx lo (.int (σ c j) :: st) (wd xs σ) P) : am_G mi pc lo (.int i :: .ref c :: st) (wd xs σ) P := by
  obtain ⟨h1, h2, h3, h4⟩ := A
  subst hi
  refine g_zald h (by rw [wd_at h1 h2, h4]) (nI_pos (by omega)) ?_ k
  rw [nI_clamp (by omega), lf_get hj]
theorem s_iast {c n j : Nat} (h : am_tb mi pc = some (.iastore, nx, tg)) (A : arr c n 0) (hi : i = nI j) (hj : j < n) (k : am_G mi nx lo st (wd xs (u2 σ c j x)) P) : am_G mi pc lo (.int x :: .int i :: .ref c :: st) (wd xs σ) P := by
  obtain ⟨h1, h2, h3, h4⟩ := A
  subst hi
  refine g_iast h (by rw [wd_at h1 h2, h4]) (by omega) (nI_pos (by omega)) (by rw [nI_clamp (by omega), lf_len]; exact hj) ?_
  rw [nI_clamp (by omega), lf_set, wd_set h1 h2 (h4 _).symm]
  exact k
theorem s_zast {c n j : Nat} (h : am_tb mi pc = some (.bastore, nx, tg)) (A : arr c n 1) (hi : i = nI j) (hj : j < n) (hx : x = 0 ∨ x = 1) (k : am_G mi nx lo st (wd xs (u2 σ c j x)) P) : am_G mi pc lo (.int x :: .int i :: .ref c :: st) (wd xs σ) P := by
  obtain ⟨h1, h2, h3, h4⟩ := A
  subst hi
  refine g_zast h (by rw [wd_at h1 h2, h4]) (by omega) (nI_pos (by omega)) (by rw [nI_clamp (by omega), lf_len]; exact hj) hx ?_
  rw [nI_clamp (by omega), lf_set, wd_set h1 h2 (h4 _).symm]
  exact k
theorem s_aV {v : Nat} (h : am_tb mi pc = some (.aaload, nx, tg)) (hi : i = nI v) (hv : v < 8) (k : am_G mi nx lo (.ref (6 + 3 * v) :: st) (wd xs σ) P) : am_G mi pc lo (.int i :: .ref 3 :: st) (wd xs σ) P := by
  subst hi
  refine g_aald h wd_VS (nI_pos (by omega)) ?_ k
  rw [nI_clamp (by omega)]
  simp [hv]
theorem s_aE {e : Nat} (h : am_tb mi pc = some (.aaload, nx, tg)) (hi : i = nI e) (he : e < 12) (k : am_G mi nx lo (.ref (30 + 3 * e) :: st) (wd xs σ) P) : am_G mi pc lo (.int i :: .ref 4 :: st) (wd xs σ) P := by
  subst hi
  refine g_aald h wd_ES (nI_pos (by omega)) ?_ k
  rw [nI_clamp (by omega)]
  simp [he]
theorem s_putF {i k : Nat} (h : am_tb mi pc = some (.putfield i, nx, tg)) (hr : am_r2 am_fR (am_ow mi) i = some (0, k, 0)) (hk : k = 2 ∨ k = 3 ∨ k = 4) (kk : am_G mi nx lo st (wd xs (u2 σ 1 k x)) P) : am_G mi pc lo (.int x :: .ref 1 :: st) (wd xs σ) P := by
  refine g_puti h hr wd_F (by decide) ?_
  rw [wd_set (σ := σ) (k := k) (x := x) (by decide) (by decide) (by rcases hk with rfl | rfl | rfl <;> rfl)]
  exact kk
theorem s_putzF {i : Nat} (h : am_tb mi pc = some (.putfield i, nx, tg)) (hr : am_r2 am_fR (am_ow mi) i = some (0, 1, 1)) (hx : x = 0 ∨ x = 1) (kk : am_G mi nx lo st (wd xs (u2 σ 1 1 x)) P) : am_G mi pc lo (.int x :: .ref 1 :: st) (wd xs σ) P := by
  refine g_putz h hr wd_F (by decide) hx ?_
  rw [wd_set (σ := σ) (k := 1) (x := x) (by decide) (by decide) (by rfl)]
  exact kk
theorem s_putG {i k : Nat} (h : am_tb mi pc = some (.putfield i, nx, tg)) (hr : am_r2 am_fR (am_ow mi) i = some (1, k, 0)) (hk : k = 2 ∨ k = 3) (kk : am_G mi nx lo st (wd xs (u2 σ 2 k x)) P) : am_G mi pc lo (.int x :: .ref 2 :: st) (wd xs σ) P := by
  refine g_puti h hr wd_G (by decide) ?_
  rw [wd_set (σ := σ) (k := k) (x := x) (by decide) (by decide) (by rcases hk with rfl | rfl <;> rfl)]
  exact kk
theorem s_putV {i k v : Nat} (hv : v < 8) (h : am_tb mi pc = some (.putfield i, nx, tg)) (hr : am_r2 am_fR (am_ow mi) i = some (2, k, 0)) (hk : k = 0 ∨ k = 1 ∨ k = 2 ∨ k = 3 ∨ k = 4 ∨ k = 5 ∨ k = 6 ∨ k = 7 ∨ k = 9) (kk : am_G mi nx lo st (wd xs (u2 σ (6 + 3 * v) k x)) P) : am_G mi pc lo (.int x :: .ref (6 + 3 * v) :: st) (wd xs σ) P := by
  refine g_puti h hr (wd_V hv) (by omega) ?_
  rw [wd_set (σ := σ) (k := k) (x := x) (by omega) (by omega) (by rw [fl_V hv]; rcases hk with rfl | rfl | rfl | rfl | rfl | rfl | rfl | rfl | rfl <;> rfl)]
  exact kk
theorem s_putzV {i v : Nat} (hv : v < 8) (h : am_tb mi pc = some (.putfield i, nx, tg)) (hr : am_r2 am_fR (am_ow mi) i = some (2, 8, 1)) (hx : x = 0 ∨ x = 1) (kk : am_G mi nx lo st (wd xs (u2 σ (6 + 3 * v) 8 x)) P) : am_G mi pc lo (.int x :: .ref (6 + 3 * v) :: st) (wd xs σ) P := by
  refine g_putz h hr (wd_V hv) (by omega) hx ?_
  rw [wd_set (σ := σ) (k := 8) (x := x) (by omega) (by omega) (by rw [fl_V hv]; rfl)]
  exact kk
theorem s_putE {i k e : Nat} (he : e < 12) (h : am_tb mi pc = some (.putfield i, nx, tg)) (hr : am_r2 am_fR (am_ow mi) i = some (3, k, 0)) (hk : k = 0 ∨ k = 1 ∨ k = 2) (kk : am_G mi nx lo st (wd xs (u2 σ (30 + 3 * e) k x)) P) : am_G mi pc lo (.int x :: .ref (30 + 3 * e) :: st) (wd xs σ) P := by
  refine g_puti h hr (wd_E he) (by omega) ?_
  rw [wd_set (σ := σ) (k := k) (x := x) (by omega) (by omega) (by rw [fl_E he]; rcases hk with rfl | rfl | rfl <;> rfl)]
  exact kk
theorem s_putM {i k : Nat} (h : am_tb mi pc = some (.putfield i, nx, tg)) (hr : am_r2 am_fR (am_ow mi) i = some (4, k, 0)) (hk : k = 1 ∨ k = 8 ∨ k = 14 ∨ k = 18 ∨ k = 19 ∨ k = 20 ∨ k = 21 ∨ k = 22 ∨ k = 23) (kk : am_G mi nx lo st (wd xs (u2 σ 66 k x)) P) : am_G mi pc lo (.int x :: .ref 66 :: st) (wd xs σ) P := by
  refine g_puti h hr wd_M (by decide) ?_
  rw [wd_set (σ := σ) (k := k) (x := x) (by decide) (by decide) (by rcases hk with rfl | rfl | rfl | rfl | rfl | rfl | rfl | rfl | rfl <;> rfl)]
  exact kk
theorem s_putzM {i : Nat} (h : am_tb mi pc = some (.putfield i, nx, tg)) (hr : am_r2 am_fR (am_ow mi) i = some (4, 0, 1)) (hx : x = 0 ∨ x = 1) (kk : am_G mi nx lo st (wd xs (u2 σ 66 0 x)) P) : am_G mi pc lo (.int x :: .ref 66 :: st) (wd xs σ) P := by
  refine g_putz h hr wd_M (by decide) hx ?_
  rw [wd_set (σ := σ) (k := 0) (x := x) (by decide) (by decide) (by rfl)]
  exact kk
end SR
