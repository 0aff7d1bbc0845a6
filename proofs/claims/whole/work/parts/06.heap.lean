/-! Rules of the instructions that read or change the world. -/
/-- an instruction that changes the world -/
theorem am_liftW {mi pc pc' : Nat} {lo lo' : am_L} {st st' : List Value} {w w' : am_W} {P : Option Value → am_W → Prop} (hwl : w.length ≤ w'.length) (hws : am_sz w ≤ am_sz w')
    (f : ∀ (M : am_M) (p : Program) (l : Launch) (e : Env) (R : Room) (s : State) (m : MethodId) (args : Array Value) (below : List Frame) (meth : Method) (c : Code) (Q : State → Prop) (dC : Nat → ClassId) (dI : Nat → Nat → Nat) (b B k0 z0 : Nat) (H : Heap) (locs : List Loc) (ls : Array Slot),
      am_MT[mi]? = some M → am_C M dC dI p R s m args meth c → k0 ≤ w.length → z0 ≤ am_sz w → w'.length - k0 ≤ R.cells → am_sz w' - z0 ≤ R.slots → am_H dC dI s b B w H → am_Lo b B ls M.1.2.2.1 lo → (∀ q ∈ locs, B ≤ q.base) →
      (∀ (H' : Heap) (locs' : List Loc) (ls' : Array Slot), am_H dC dI s b B w' H' → am_Lo b B ls' M.1.2.2.1 lo' → (∀ q ∈ locs', B ≤ q.base) → W p l e R s m args below meth c H' locs' (w'.length - k0) (am_sz w' - z0) Q (F0 m pc' ls' (st'.map (am_v b B)))) →
      W p l e R s m args below meth c H locs (w.length - k0) (am_sz w - z0) Q (F0 m pc ls (st.map (am_v b B))))
    (k : am_G mi pc' lo' st' w' P) : am_G mi pc lo st w P := by
  obtain ⟨r, hP, h0, k⟩ := k
  refine ⟨r, hP, ⟨Nat.le_trans hwl h0.1, Nat.le_trans hws h0.2⟩, ?_⟩
  intro M p l e R s m args below meth c Q dC dI b B k0 z0 hM C hc hs hk hz hend H locs ls hH hL hlo
  have h1 := h0.1
  have h2 := h0.2
  exact f M p l e R s m args below meth c Q dC dI b B k0 z0 H locs ls hM C hk hz (by omega) (by omega) hH hL hlo fun H' locs' ls' hH' hL' hlo' => k M p l e R s m args below meth c Q dC dI b B k0 z0 hM C hc hs (by omega) (by omega) hend H' locs' ls' hH' hL' hlo'
theorem am_loc {B a : Nat} {locs : List Loc} {i : Nat} (h : ∀ q ∈ locs, B ≤ q.base) (ha : B ≤ a) : ∀ q ∈ locs ++ [(⟨a, i⟩ : Loc)], B ≤ q.base := by
  intro q hq
  rcases List.mem_append.mp hq with h1 | h1
  · exact h q h1
  · rw [List.mem_singleton.mp h1]
    exact ha
theorem am_ad_le {b B a : Nat} (ha : a ≠ 0) : B ≤ am_ad b B a := by
  cases a with
  | zero => exact absurd rfl ha
  | succ n => exact Nat.le_add_right _ _
section AM2
variable {mi pc nx tg : Nat} {lo : am_L} {st : List Value} {w : am_W} {P : Option Value → am_W → Prop} {x y : Int32}
theorem g_get {i ci k cd a : Nat} {fs : List Value} {v : Value} (h : am_tb mi pc = some (.getfield i, nx, tg)) (hr : am_r2 am_fR (am_ow mi) i = some (ci, k, cd)) (hw : w[a]? = some (.inr (.inr (ci, fs)))) (hv : fs[k]? = some v) (kk : am_G mi nx lo (v :: st) w P) : am_G mi pc lo (.ref a :: st) w P :=
  am_lift (fun M p l e R s m args below meth c Q dC dI b B cells slots H locs ls hM C hH hL kk => by
    obtain ⟨hd, rfl, -⟩ := am_dec hM h rfl
    obtain ⟨Cn, T, N, hcl, hk, hlk, -⟩ := am_fR_ok hM hr
    obtain ⟨hx, hb, -, -, hown, hts, -, -, hK, -⟩ := C
    obtain ⟨r, h1, h2, cell, q1, q2, q3, q4⟩ := hH.2.2.2 a _ hw
    have hr2 : r = (Cn, T, N) := Option.some.inj (h1.symm.trans hcl)
    subst hr2
    obtain ⟨hS, hfc, kC, hkC, hkind⟩ := hK.1.1 ci _ hcl
    obtain ⟨cf, kf, fi, f, hi, hsl⟩ := hS k hk
    have hst := (u_facts hfc hkC (u_lays hts (am_cl_ok hcl).1 hk) hi).1
    have hvv : cell.slots[f.slot]? = some (am_v b B v) := by
      rw [hsl, q4 k hk]
      simp [vp_V, hv]
    rcases hlk with hlk | ⟨host, hlk⟩
    · exact W.getf hx hb hown (hts _ hlk) hi hst q1 (by rw [q3]; exact fun h => by cases h) hvv rfl rfl hd (kk ls hL)
    · exact va_Wgetf hx hb hown (va_Nw.use rfl (hK.2.1 _ hlk)) hi hst q1 (by rw [q3]; exact fun h => by cases h) hvv rfl rfl hd (kk ls hL)) kk
theorem g_put0 {i ci k cd a : Nat} {fs : List Value} {v : Value} (h : am_tb mi pc = some (.putfield i, nx, tg)) (hr : am_r2 am_fR (am_ow mi) i = some (ci, k, cd)) (hw : w[a]? = some (.inr (.inr (ci, fs)))) (ha : a ≠ 0) (hv : ∀ (b B : Nat) (ty : FieldType), am_tok ty (cd % 3) → narrow ty (am_v b B v) = am_v b B v ∧ fits ty (am_v b B v) = true) (hfin : cd < 3 ∨ (cd = 5 ∧ am_kd mi = 2)) (kk : am_G mi nx lo st (w.set a (.inr (.inr (ci, fs.set k v)))) P) : am_G mi pc lo (v :: .ref a :: st) w P :=
  am_liftW (by rw [List.length_set]; exact Nat.le_refl _) (by rw [am_sz_set hw (by simp [am_sc])]; exact Nat.le_refl _) (fun M p l e R s m args below meth c Q dC dI b B k0 z0 H locs ls hM C hk0 hz0 hc0 hs0 hH hL hlo kk => by
    obtain ⟨hd, rfl, -⟩ := am_dec hM h rfl
    obtain ⟨Cn, T, N, hcl, hk, hlk, hfl, ⟨ty, hty, htok⟩, hfn⟩ := am_fR_ok hM hr
    obtain ⟨hx, hb, -, -, hown, hts, -, hin, hK, -⟩ := C
    obtain ⟨r, h1, h2, cell, q1, q2, q3, q4⟩ := hH.2.2.2 a _ hw
    have hr2 : r = (Cn, T, N) := Option.some.inj (h1.symm.trans hcl)
    subst hr2
    obtain ⟨hc1, ⟨ty0, hty0, -⟩, hnm, -⟩ := am_cl_ok hcl
    have hap := va_apart (own := M.1.1.cls) hts hc1 ty0 hty0 hnm hK.1 hcl
    obtain ⟨hS, hfc, kC, hkC, hkind⟩ := hK.1.1 ci _ hcl
    obtain ⟨cf, kf, fi, f, hi, hsl⟩ := hS k hk
    have hst := (u_facts hfc hkC (u_lays hts hc1 hk) hi).1
    obtain ⟨hn1, hf1⟩ := hv b B ty htok
    have hlt : f.slot < cell.slots.size := by rw [hsl]; exact k2_hasslot (q4 k hk)
    have hkf : k < fs.length := by
      have : fs.length = N := h2
      omega
    have hfin2 : ∀ H' : Heap, H'[am_ad b B a]? = some (cell.setSlot f.slot (am_v b B v)) → H'.size = H.size → (∀ q, q ≠ am_ad b B a → H'[q]? = H[q]?) → W p l e R s m args below meth c H' (locs ++ [⟨am_ad b B a, f.slot⟩]) (w.length - k0) (am_sz w - z0) Q { (F0 m pc ls ((v :: Value.ref a :: st).map (am_v b B))) with pc := (F0 m pc ls ((v :: Value.ref a :: st).map (am_v b B))).pc + 3, stack := st.map (am_v b B) } := by
      intro H' e1 e2 e3
      have hz := kk H' (locs ++ [⟨am_ad b B a, f.slot⟩]) ls (hH.set hw (e := .inr (.inr (ci, fs.set k v))) ?_ e2 e3) hL (am_loc hlo (am_ad_le ha))
      · rw [List.length_set, am_sz_set hw (by simp [am_sc])] at hz
        exact hz
      · rw [hsl] at e1
        refine ⟨_, hcl, by simpa using h2, ?_⟩
        have ho : t_OB (am_ad b B a) (dC ci) N (dI ci) H' (updV (vp_V (fs.map (am_v b B))) k (am_v b B v)) := ⟨_, e1, q2, q3, t_set q4 hap hk _⟩
        refine ho.to fun j hj => ?_
        rw [List.map_set]
        exact vp_updV_set (by rw [List.length_map]; exact hkf) _ j
    by_cases hcd : cd < 3
    · have hlay := hts _ (hc1 _ (u_in_lay hk))
      unfold u_lay at hlay
      rw [if_neg (by rw [hfl]; simp; omega)] at hlay
      have h6 := u_store hfc hkC hkind hlay hi hty hn1 hf1
      rcases hlk with hlk | ⟨host, hlk⟩
      · exact W.putK hx hb (f := f) ⟨hown, hts _ hlk, ⟨_, _, _, hi⟩, hst⟩ (by rw [q2]; exact h6) q1 q3 hlt rfl rfl hd hfin2
      · exact va_WputK hx hb (f := f) hown (va_Nw.use rfl (hK.2.1 _ hlk)) hi hst (by rw [q2]; exact h6) q1 q3 hlt rfl rfl hd hfin2
    · have hkd : cd = 5 ∧ am_kd mi = 2 := by
        rcases hfin with h | h
        · exact absurd h hcd
        · exact h
      obtain ⟨hcd5, hkd⟩ := hkd
      have hname : meth.name = "<init>" := hin (by unfold am_kd at hkd; rw [hM] at hkd; exact hkd)
      obtain ⟨hdecl, hlk2⟩ := hfn hcd5
      have hlay := hts _ (hc1 _ (u_in_lay hk))
      unfold u_lay at hlay
      rw [if_pos (by rw [hfl]; simp; omega)] at hlay
      have hcf : m.cls = cf := by
        obtain ⟨_, _, c', _, _, _, -, -, hf', -, -, -, hown2, -⟩ := Cond.laysFinal_spec hlay
        have e1 : c' = cf := by have := hi.symm.trans hf'; simp at this; exact this.1.symm
        rw [hdecl] at hown2
        rw [← e1]; exact Option.some.inj (hown.symm.trans hown2)
      have h6 := u_fits hfc hkC hkind (Or.inr hlay) hi hty hn1 hf1
      exact W.putFinK hx hb hown (hts _ hlk2) hi hst hcf hname (by rw [q2]; exact h6) q1 q3 hlt rfl rfl hd hfin2) kk
theorem g_puti {i ci k a : Nat} {fs : List Value} (h : am_tb mi pc = some (.putfield i, nx, tg)) (hr : am_r2 am_fR (am_ow mi) i = some (ci, k, 0)) (hw : w[a]? = some (.inr (.inr (ci, fs)))) (ha : a ≠ 0) (kk : am_G mi nx lo st (w.set a (.inr (.inr (ci, fs.set k (.int x))))) P) : am_G mi pc lo (.int x :: .ref a :: st) w P :=
  g_put0 h hr hw ha (fun b B ty ht => by have e : ty = .int := ht; subst e; exact ⟨rfl, rfl⟩) (Or.inl (by decide)) kk
theorem g_putz {i ci k a : Nat} {fs : List Value} (h : am_tb mi pc = some (.putfield i, nx, tg)) (hr : am_r2 am_fR (am_ow mi) i = some (ci, k, 1)) (hw : w[a]? = some (.inr (.inr (ci, fs)))) (ha : a ≠ 0) (hx : x = 0 ∨ x = 1) (kk : am_G mi nx lo st (w.set a (.inr (.inr (ci, fs.set k (.int x))))) P) : am_G mi pc lo (.int x :: .ref a :: st) w P :=
  g_put0 h hr hw ha (fun b B ty ht => by
    have e : ty = .boolean := ht
    subst e
    rcases hx with rfl | rfl
    · exact ⟨rfl, by show fits .boolean (.int 0) = true; decide⟩
    · exact ⟨rfl, by show fits .boolean (.int 1) = true; decide⟩) (Or.inl (by decide)) kk
theorem g_putr {i ci k a q : Nat} {fs : List Value} (h : am_tb mi pc = some (.putfield i, nx, tg)) (hr : am_r2 am_fR (am_ow mi) i = some (ci, k, 5)) (hw : w[a]? = some (.inr (.inr (ci, fs)))) (ha : a ≠ 0) (hk : am_kd mi = 2) (kk : am_G mi nx lo st (w.set a (.inr (.inr (ci, fs.set k (.ref q))))) P) : am_G mi pc lo (.ref q :: .ref a :: st) w P :=
  g_put0 h hr hw ha (fun b B ty ht => by
    rcases ht with ⟨n, rfl⟩ | ⟨t, rfl⟩
    · exact ⟨rfl, rfl⟩
    · exact ⟨rfl, rfl⟩) (Or.inr ⟨rfl, hk⟩) kk
theorem g_iald {a : Nat} {xs : List Int32} {i : Int32} (h : am_tb mi pc = some (.iaload, nx, tg)) (hw : w[a]? = some (.inl (0, xs))) (h0 : ¬ i < 0) (hx : xs[i.toNatClampNeg]? = some x) (kk : am_G mi nx lo (.int x :: st) w P) : am_G mi pc lo (.int i :: .ref a :: st) w P :=
  am_lift (fun M p l e R s m args below meth c Q dC dI b B cells slots H locs ls hM C hH hL kk => by
    obtain ⟨hd, rfl, -⟩ := am_dec hM h rfl
    obtain ⟨cell, q1, q2, q3, q4, q5⟩ := hH.2.2.2 a _ hw
    have hlt : i.toNatClampNeg < xs.length := (List.getElem?_eq_some_iff.mp hx).1
    exact W.iald C.1 C.2.1 q1 q2 q3 (by rintro (z | z); exact h0 z; dsimp only at q4; omega) (q5 _ _ hx) rfl rfl hd (kk ls hL)) kk
theorem g_zald {a : Nat} {xs : List Int32} {i : Int32} (h : am_tb mi pc = some (.baload, nx, tg)) (hw : w[a]? = some (.inl (1, xs))) (h0 : ¬ i < 0) (hx : xs[i.toNatClampNeg]? = some x) (kk : am_G mi nx lo (.int x :: st) w P) : am_G mi pc lo (.int i :: .ref a :: st) w P :=
  am_lift (fun M p l e R s m args below meth c Q dC dI b B cells slots H locs ls hM C hH hL kk => by
    obtain ⟨hd, rfl, -⟩ := am_dec hM h rfl
    obtain ⟨cell, q1, q2, q3, q4, q5⟩ := hH.2.2.2 a _ hw
    have hlt : i.toNatClampNeg < xs.length := (List.getElem?_eq_some_iff.mp hx).1
    exact W.zald C.1 C.2.1 q1 q2 q3 (by rintro (z | z); exact h0 z; dsimp only at q4; omega) (q5 _ _ hx) rfl rfl hd (kk ls hL)) kk
theorem g_aald {a ci : Nat} {vs : List Value} {i : Int32} {v : Value} (h : am_tb mi pc = some (.aaload, nx, tg)) (hw : w[a]? = some (.inr (.inl (ci, vs)))) (h0 : ¬ i < 0) (hx : vs[i.toNatClampNeg]? = some v) (kk : am_G mi nx lo (v :: st) w P) : am_G mi pc lo (.int i :: .ref a :: st) w P :=
  am_lift (fun M p l e R s m args below meth c Q dC dI b B cells slots H locs ls hM C hH hL kk => by
    obtain ⟨hd, rfl, -⟩ := am_dec hM h rfl
    obtain ⟨cell, kA, r, q1, q2, q3, q4, q5, q6, q7⟩ := hH.2.2.2 a _ hw
    have hlt : i.toNatClampNeg < vs.length := (List.getElem?_eq_some_iff.mp hx).1
    exact W.aald (ty := .object r.1) C.1 C.2.1 q1 ⟨(fun z hz => by rw [q2] at hz; cases hz), kA, q3, _, q5⟩ rfl (by rw [q2]; exact fun z => by cases z) (by rintro (z | z); exact h0 z; dsimp only at q6; omega) (q7 _ _ hx) rfl rfl hd (kk ls hL)) kk
theorem g_alen {a t : Nat} {xs : List Int32} (h : am_tb mi pc = some (.arraylength, nx, tg)) (hw : w[a]? = some (.inl (t, xs))) (kk : am_G mi nx lo (.int (nI xs.length) :: st) w P) : am_G mi pc lo (.ref a :: st) w P :=
  am_lift (fun M p l e R s m args below meth c Q dC dI b B cells slots H locs ls hM C hH hL kk => by
    obtain ⟨hd, rfl, -⟩ := am_dec hM h rfl
    obtain ⟨cell, q1, q2, q3, q4, q5⟩ := hH.2.2.2 a _ hw
    exact W.alen (n := nI xs.length) C.1 C.2.1 q1 q2 (by rw [q4]; rfl) rfl rfl hd (kk ls hL)) kk
theorem am_arr_set {cell : Cell} {xs : List Int32} {j : Nat} {x : Int32} (h : ∀ (k : Nat) (y : Int32), xs[k]? = some y → cell.slots[k]? = some (.int y)) (hs : cell.slots.size = xs.length) (hj : j < xs.length) : ∀ (k : Nat) (y : Int32), (xs.set j x)[k]? = some y → (cell.setSlot j (.int x)).slots[k]? = some (.int y) := by
  intro k y hy
  rw [List.getElem?_set] at hy
  split at hy
  · rename_i hjk
    subst hjk
    cases hy
    simp only [Cell.setSlot]
    rw [Array.getElem?_setIfInBounds]
    simp [hs, hj]
  · rename_i hjk
    rw [slot_ne _ _ hjk]
    exact h k y hy
theorem am_arr_setV {cell : Cell} {vs : List Value} {f : Value → Value} {j : Nat} {x : Value} (h : ∀ (k : Nat) (y : Value), vs[k]? = some y → cell.slots[k]? = some (f y)) (hs : cell.slots.size = vs.length) (hj : j < vs.length) : ∀ (k : Nat) (y : Value), (vs.set j x)[k]? = some y → (cell.setSlot j (f x)).slots[k]? = some (f y) := by
  intro k y hy
  rw [List.getElem?_set] at hy
  split at hy
  · rename_i hjk
    subst hjk
    cases hy
    simp only [Cell.setSlot]
    rw [Array.getElem?_setIfInBounds]
    simp [hs, hj]
  · rename_i hjk
    rw [slot_ne _ _ hjk]
    exact h k y hy
theorem am_setSlot_size (cell : Cell) (j : Nat) (v : Value) : (cell.setSlot j v).slots.size = cell.slots.size := by
  simp [Cell.setSlot]
theorem g_iast {a : Nat} {xs : List Int32} {i : Int32} (h : am_tb mi pc = some (.iastore, nx, tg)) (hw : w[a]? = some (.inl (0, xs))) (ha : a ≠ 0) (h0 : ¬ i < 0) (hx : i.toNatClampNeg < xs.length) (kk : am_G mi nx lo st (w.set a (.inl (0, xs.set i.toNatClampNeg x))) P) : am_G mi pc lo (.int x :: .int i :: .ref a :: st) w P :=
  am_liftW (by rw [List.length_set]; exact Nat.le_refl _) (by rw [am_sz_set hw (by simp [am_sc])]; exact Nat.le_refl _) (fun M p l e R s m args below meth c Q dC dI b B k0 z0 H locs ls hM C hk0 hz0 hc0 hs0 hH hL hlo kk => by
    obtain ⟨hd, rfl, -⟩ := am_dec hM h rfl
    obtain ⟨cell, q1, q2, q3, q4, q5⟩ := hH.2.2.2 a _ hw
    dsimp only at q4 q5
    refine W.iast C.1 C.2.1 q1 q2 q3 (by rintro (z | z); exact h0 z; omega) rfl rfl hd fun H' e1 e2 e3 => ?_
    have hz := kk H' (locs ++ [⟨am_ad b B a, i.toNatClampNeg⟩]) ls (hH.set hw (e := .inl (0, xs.set i.toNatClampNeg x)) ⟨_, e1, q2, q3, by rw [am_setSlot_size, List.length_set]; exact q4, am_arr_set q5 q4 hx⟩ e2 e3) hL (am_loc hlo (am_ad_le ha))
    rw [List.length_set, am_sz_set hw (by simp [am_sc])] at hz
    exact hz) kk
theorem g_zast {a : Nat} {xs : List Int32} {i : Int32} (h : am_tb mi pc = some (.bastore, nx, tg)) (hw : w[a]? = some (.inl (1, xs))) (ha : a ≠ 0) (h0 : ¬ i < 0) (hx : i.toNatClampNeg < xs.length) (hb2 : x = 0 ∨ x = 1) (kk : am_G mi nx lo st (w.set a (.inl (1, xs.set i.toNatClampNeg x))) P) : am_G mi pc lo (.int x :: .int i :: .ref a :: st) w P :=
  am_liftW (by rw [List.length_set]; exact Nat.le_refl _) (by rw [am_sz_set hw (by simp [am_sc])]; exact Nat.le_refl _) (fun M p l e R s m args below meth c Q dC dI b B k0 z0 H locs ls hM C hk0 hz0 hc0 hs0 hH hL hlo kk => by
    obtain ⟨hd, rfl, -⟩ := am_dec hM h rfl
    obtain ⟨cell, q1, q2, q3, q4, q5⟩ := hH.2.2.2 a _ hw
    dsimp only at q4 q5
    have hnar : narrow .boolean (.int x) = .int x := by
      rcases hb2 with rfl | rfl <;> rfl
    refine W.zast C.1 C.2.1 q1 q2 q3 (by rintro (z | z); exact h0 z; omega) rfl rfl hd fun H' e1 e2 e3 => ?_
    rw [hnar] at e1
    have hz := kk H' (locs ++ [⟨am_ad b B a, i.toNatClampNeg⟩]) ls (hH.set hw (e := .inl (1, xs.set i.toNatClampNeg x)) ⟨_, e1, q2, q3, by rw [am_setSlot_size, List.length_set]; exact q4, am_arr_set q5 q4 hx⟩ e2 e3) hL (am_loc hlo (am_ad_le ha))
    rw [List.length_set, am_sz_set hw (by simp [am_sc])] at hz
    exact hz) kk
theorem g_aast {a ci q : Nat} {vs fs : List Value} {i : Int32} (h : am_tb mi pc = some (.aastore, nx, tg)) (hw : w[a]? = some (.inr (.inl (ci, vs)))) (hq : w[q]? = some (.inr (.inr (ci, fs)))) (ha : a ≠ 0) (h0 : ¬ i < 0) (hx : i.toNatClampNeg < vs.length) (kk : am_G mi nx lo st (w.set a (.inr (.inl (ci, vs.set i.toNatClampNeg (.ref q))))) P) : am_G mi pc lo (.ref q :: .int i :: .ref a :: st) w P :=
  am_liftW (by rw [List.length_set]; exact Nat.le_refl _) (by rw [am_sz_set hw (by simp [am_sc])]; exact Nat.le_refl _) (fun M p l e R s m args below meth c Q dC dI b B k0 z0 H locs ls hM C hk0 hz0 hc0 hs0 hH hL hlo kk => by
    obtain ⟨hd, rfl, -⟩ := am_dec hM h rfl
    obtain ⟨cell, kA, r, q1, q2, q3, q4, q5, q6, q7⟩ := hH.2.2.2 a _ hw
    obtain ⟨r', g1, g2, cv, g3, g4, g5, g6⟩ := hH.2.2.2 q _ hq
    dsimp only at q3 q4 q5 q6 q7 g1 g2 g4
    have hcls := (C.2.2.2.2.2.2.2.2.1.1.1 ci r q4).2
    obtain ⟨kC, hkC, -⟩ := hcls.2
    refine W.aast C.1 C.2.1 q1 (fun z hz => by rw [q2] at hz; cases hz) (by rw [q2]; exact fun z => by cases z) q3 q5 rfl hkC ⟨h0, by omega⟩ g3 (fun z hz => by rw [g5] at hz; cases hz) (by rw [g4]; exact hkC) (by rw [g4]; exact va_assign hcls) rfl rfl hd fun H' e1 e2 e3 => ?_
    have hz := kk H' (locs ++ [⟨am_ad b B a, i.toNatClampNeg⟩]) ls (hH.set hw (e := .inr (.inl (ci, vs.set i.toNatClampNeg (.ref q)))) ⟨_, kA, r, e1, q2, q3, q4, q5, by rw [am_setSlot_size, List.length_set]; exact q6, am_arr_setV (x := .ref q) q7 q6 hx⟩ e2 e3) hL (am_loc hlo (am_ad_le ha))
    rw [List.length_set, am_sz_set hw (by simp [am_sc])] at hz
    exact hz) kk
theorem g_new {i ci : Nat} (h : am_tb mi pc = some (.new i, nx, tg)) (hr : am_r2 am_cR (am_ow mi) i = some ci) (kk : am_G mi nx lo (.ref w.length :: st) (w ++ [.inr (.inr (ci, am_df ci))]) P) : am_G mi pc lo st w P :=
  am_liftW (by rw [List.length_append]; omega) (by rw [am_sz_push]; omega) (fun M p l e R s m args below meth c Q dC dI b B k0 z0 H locs ls hM C hk0 hz0 hc0 hs0 hH hL hlo kk => by
    obtain ⟨hd, rfl, -⟩ := am_dec hM h rfl
    obtain ⟨Cn, T, N, hcl, hlk⟩ := am_cR_ok hM hr
    obtain ⟨hx, hb, -, -, hown, hts, -, hin, hK, -⟩ := C
    obtain ⟨hc1, ⟨ty0, hty0, hdf⟩, hnm, hinst, hini, hdl⟩ := am_cl_ok hcl
    have hKn := hK.1.1 ci _ hcl
    have hsc : am_sc (.inr (.inr (ci, am_df ci))) = N := hdl
    rw [am_sz_push, hsc] at hs0
    rw [List.length_append, List.length_singleton] at hc0
    refine W.newcK hx hb hown (hts _ hlk) (hts _ hinst) (hts _ hini) rfl hd (by omega) (by show _ + N ≤ _; omega) hKn.2.1 rfl fun H1 kC hkC e1 z1 o1 => ?_
    have hz := kk H1 locs ls (hH.push (e := .inr (.inr (ci, am_df ci))) ?_ z1 o1) hL hlo
    · rw [am_sz_push, hsc, List.length_append, List.length_singleton] at hz
      have e2 : w.length + 1 - k0 = w.length - k0 + 1 := by omega
      have e3 : am_sz w + N - z0 = am_sz w - z0 + N := by omega
      rw [e2, e3] at hz
      have e4 : am_v b B (.ref w.length) = .ref H.size := by
        show Value.ref (am_ad b B w.length) = _
        rw [hH.new]
      rw [List.map_cons, e4] at hz
      exact hz
    · refine ⟨_, hcl, hdl, ?_⟩
      refine (u_born ty0 hts hc1 hKn hkC e1 hty0).to fun j hj => ?_
      rw [hdf j hj, am_df_map]) kk
theorem am_rep {n : Nat} {x : Int32} {j : Nat} {y : Int32} (h : (List.replicate n x)[j]? = some y) : j < n ∧ y = x := by
  have h1 : j < n := by
    have := (List.getElem?_eq_some_iff.mp h).1
    rwa [List.length_replicate] at this
  rw [List.getElem?_replicate, if_pos h1] at h
  cases h
  exact ⟨h1, rfl⟩
theorem g_newi {n : Int32} {N : Nat} (h : am_tb mi pc = some (.newarray .int, nx, tg)) (h0 : ¬ n < 0) (hN : n.toNatClampNeg = N) (hB : N ≤ 10000) (kk : am_G mi nx lo (.ref w.length :: st) (w ++ [.inl (0, List.replicate N 0)]) P) : am_G mi pc lo (.int n :: st) w P :=
  am_liftW (by rw [List.length_append]; omega) (by rw [am_sz_push]; omega) (fun M p l e R s m args below meth c Q dC dI b B k0 z0 H locs ls hM C hk0 hz0 hc0 hs0 hH hL hlo kk => by
    obtain ⟨hd, rfl, -⟩ := am_dec hM h rfl
    obtain ⟨hx, hb, -, -, hown, hts, -, hin, hK, -⟩ := C
    have hsc : am_sc (.inl (0, List.replicate N 0)) = N := by simp [am_sc]
    rw [am_sz_push, hsc] at hs0
    rw [List.length_append, List.length_singleton] at hc0
    refine va_newaK hx hb (hts _ am_ai) rfl hd rfl h0 hN (by show N * 4 ≤ _; omega) (by omega) (by omega) rfl fun H1 cA e1 z1 o1 hAr hNm => ?_
    have hz := kk H1 locs ls (hH.push (e := .inl (0, List.replicate N 0)) ?_ z1 o1) hL hlo
    · rw [am_sz_push, hsc, List.length_append, List.length_singleton] at hz
      have e2 : w.length + 1 - k0 = w.length - k0 + 1 := by omega
      have e3 : am_sz w + N - z0 = am_sz w - z0 + N := by omega
      rw [e2, e3] at hz
      have e4 : am_v b B (.ref w.length) = .ref H.size := by
        show Value.ref (am_ad b B w.length) = _
        rw [hH.new]
      rw [List.map_cons, e4] at hz
      exact hz
    · refine ⟨_, e1, hAr N _, (fun z => by cases z), by rw [arrV_size, List.length_replicate], fun j y hy => ?_⟩
      obtain ⟨hj, rfl⟩ := am_rep hy
      rw [arrV_read _ _ hj]
      rfl) kk
theorem g_newz {n : Int32} {N : Nat} (h : am_tb mi pc = some (.newarray .boolean, nx, tg)) (h0 : ¬ n < 0) (hN : n.toNatClampNeg = N) (hB : N ≤ 10000) (kk : am_G mi nx lo (.ref w.length :: st) (w ++ [.inl (1, List.replicate N 0)]) P) : am_G mi pc lo (.int n :: st) w P :=
  am_liftW (by rw [List.length_append]; omega) (by rw [am_sz_push]; omega) (fun M p l e R s m args below meth c Q dC dI b B k0 z0 H locs ls hM C hk0 hz0 hc0 hs0 hH hL hlo kk => by
    obtain ⟨hd, rfl, -⟩ := am_dec hM h rfl
    obtain ⟨hx, hb, -, -, hown, hts, -, hin, hK, -⟩ := C
    have hsc : am_sc (.inl (1, List.replicate N 0)) = N := by simp [am_sc]
    rw [am_sz_push, hsc] at hs0
    rw [List.length_append, List.length_singleton] at hc0
    refine va_newaK hx hb (hts _ am_az) rfl hd rfl h0 hN (by show N * 1 ≤ _; omega) (by omega) (by omega) rfl fun H1 cA e1 z1 o1 hAr hNm => ?_
    have hz := kk H1 locs ls (hH.push (e := .inl (1, List.replicate N 0)) ?_ z1 o1) hL hlo
    · rw [am_sz_push, hsc, List.length_append, List.length_singleton] at hz
      have e2 : w.length + 1 - k0 = w.length - k0 + 1 := by omega
      have e3 : am_sz w + N - z0 = am_sz w - z0 + N := by omega
      rw [e2, e3] at hz
      have e4 : am_v b B (.ref w.length) = .ref H.size := by
        show Value.ref (am_ad b B w.length) = _
        rw [hH.new]
      rw [List.map_cons, e4] at hz
      exact hz
    · refine ⟨_, e1, hAr N _, (fun z => by cases z), by rw [arrV_size, List.length_replicate], fun j y hy => ?_⟩
      obtain ⟨hj, rfl⟩ := am_rep hy
      rw [arrV_read _ _ hj]
      rfl) kk
theorem g_newq {n : Int32} {N i ci : Nat} (h : am_tb mi pc = some (.anewarray i, nx, tg)) (hr : am_r2 am_nR (am_ow mi) i = some ci) (h0 : ¬ n < 0) (hN : n.toNatClampNeg = N) (hB : N ≤ 10000) (kk : am_G mi nx lo (.ref w.length :: st) (w ++ [.inr (.inl (ci, List.replicate N .null))]) P) : am_G mi pc lo (.int n :: st) w P :=
  am_liftW (by rw [List.length_append]; omega) (by rw [am_sz_push]; omega) (fun M p l e R s m args below meth c Q dC dI b B k0 z0 H locs ls hM C hk0 hz0 hc0 hs0 hH hL hlo kk => by
    obtain ⟨hd, rfl, -⟩ := am_dec hM h rfl
    obtain ⟨Cn, T, N1, hcl, hlk, hao⟩ := am_nR_ok hM hr
    obtain ⟨hx, hb, -, -, hown, hts, -, hin, hK, -⟩ := C
    have hKn := hK.1.1 ci _ hcl
    have hsc : am_sc (.inr (.inl (ci, List.replicate N .null))) = N := by simp [am_sc]
    rw [am_sz_push, hsc] at hs0
    rw [List.length_append, List.length_singleton] at hc0
    subst hN
    refine W.anew hx hb hown (hts _ hlk) (va_AO.use (hK.2.2 _ hao)) rfl hd rfl h0 (by omega) (by omega) (by omega) fun cA kA comp f1 f2 f3 f4 => ?_
    have hcomp : comp = dC ci := Option.some.inj (f4.symm.trans hKn.2.1)
    subst hcomp
    have hz := kk (H.push { cls := cA, slots := Array.replicate n.toNatClampNeg .null, vm := .none }) locs ls (hH.push (e := .inr (.inl (ci, List.replicate n.toNatClampNeg .null))) ?_ (by rw [Array.size_push]) (fun q hq => by rw [Array.getElem?_push, if_neg (Nat.ne_of_lt hq)])) hL hlo
    · rw [am_sz_push, hsc, List.length_append, List.length_singleton] at hz
      have e2 : w.length + 1 - k0 = w.length - k0 + 1 := by omega
      have e3 : am_sz w + n.toNatClampNeg - z0 = am_sz w - z0 + n.toNatClampNeg := by omega
      rw [e2, e3] at hz
      have e4 : am_v b B (.ref w.length) = .ref H.size := by
        show Value.ref (am_ad b B w.length) = _
        rw [hH.new]
      rw [List.map_cons, e4] at hz
      exact hz
    · refine ⟨_, kA, _, Array.getElem?_push_size, rfl, f2, hcl, f3, by simp, fun j y hy => ?_⟩
      have h1 : j < n.toNatClampNeg := by
        have := (List.getElem?_eq_some_iff.mp hy).1
        rwa [List.length_replicate] at this
      rw [List.getElem?_replicate, if_pos h1] at hy
      cases hy
      simp [h1, am_v]) kk
end AM2
