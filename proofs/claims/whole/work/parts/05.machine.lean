/-! What the abstract machine says of the machine itself: a rule an instruction. -/
/-- what a cell of the heap is -/
def am_c (dC : Nat → ClassId) (dI : Nat → Nat → Nat) (U : State) (b B a : Nat) (e : am_E) (H : Heap) : Prop := match e with
  | .inl q => ∃ cell : Cell, H[a]? = some cell ∧ U.isArrayOf cell (am_ty q.1) ∧ cell.vm ≠ .unknown ∧ cell.slots.size = q.2.length ∧ ∀ (j : Nat) (x : Int32), q.2[j]? = some x → cell.slots[j]? = some (.int x)
  | .inr (.inl q) => ∃ (cell : Cell) (kA : Class) (r : vw_C), H[a]? = some cell ∧ cell.vm = .none ∧ U.vm.classes[cell.cls]? = some kA ∧ vwCl[q.1]? = some r ∧ kA.kind = .array (dC q.1) (.object r.1) ∧ cell.slots.size = q.2.length ∧ ∀ (j : Nat) (v : Value), q.2[j]? = some v → cell.slots[j]? = some (am_v b B v)
  | .inr (.inr q) => ∃ r : vw_C, vwCl[q.1]? = some r ∧ q.2.length = r.2.2 ∧ t_OB a (dC q.1) r.2.2 (dI q.1) H (vp_V (q.2.map (am_v b B)))
theorem am_c.kept {dC : Nat → ClassId} {dI : Nat → Nat → Nat} {U : State} {b B a : Nat} {e : am_E} {H H1 : Heap} (h : am_c dC dI U b B a e H) (h1 : H1[a]? = H[a]?) : am_c dC dI U b B a e H1 := by
  rcases e with q | q | q
  · obtain ⟨cell, g, r⟩ := h
    exact ⟨cell, by rw [h1]; exact g, r⟩
  · obtain ⟨cell, kA, r, g, r2⟩ := h
    exact ⟨cell, kA, r, by rw [h1]; exact g, r2⟩
  · obtain ⟨r, g1, g2, g3⟩ := h
    exact ⟨r, g1, g2, g3.kept h1⟩
theorem am_c.moved {dC : Nat → ClassId} {dI : Nat → Nat → Nat} {u U : State} {b B a : Nat} {e : am_E} {H : Heap} (hvm : u.vm.Alike U.vm) (h : am_c dC dI u b B a e H) : am_c dC dI U b B a e H := by
  rcases e with q | q | q
  · obtain ⟨cell, g, g2, r⟩ := h
    exact ⟨cell, g, State.isArrayOf_alike hvm g2, r⟩
  · obtain ⟨cell, kA, r, g, g2, g3, g4, g5, g6⟩ := h
    obtain ⟨k', hk', he⟩ := hvm.2.2 _ _ g3
    exact ⟨cell, k', r, g, g2, hk', g4, by rw [he]; exact g5, g6⟩
  · exact h
theorem am_c.lt {dC : Nat → ClassId} {dI : Nat → Nat → Nat} {U : State} {b B a : Nat} {e : am_E} {H : Heap} (h : am_c dC dI U b B a e H) : a < H.size := by
  rcases e with q | q | q
  · obtain ⟨cell, g, -⟩ := h
    exact (Array.getElem?_eq_some_iff.mp g).1
  · obtain ⟨cell, kA, r, g, -⟩ := h
    exact (Array.getElem?_eq_some_iff.mp g).1
  · obtain ⟨r, -, -, cell, g, -⟩ := h
    exact (Array.getElem?_eq_some_iff.mp g).1
/-- the heap holds the world -/
def am_H (dC : Nat → ClassId) (dI : Nat → Nat → Nat) (U : State) (b B : Nat) (w : am_W) (H : Heap) : Prop := b < B ∧ 0 < w.length ∧ H.size + 1 = B + w.length ∧ ∀ (i : Nat) (e : am_E), w[i]? = some e → am_c dC dI U b B (am_ad b B i) e H
theorem am_H.moved {dC : Nat → ClassId} {dI : Nat → Nat → Nat} {u U : State} {b B : Nat} {w : am_W} {H : Heap} (hvm : u.vm.Alike U.vm) (h : am_H dC dI u b B w H) : am_H dC dI U b B w H := ⟨h.1, h.2.1, h.2.2.1, fun i e he => (h.2.2.2 i e he).moved hvm⟩
theorem am_H.set {dC : Nat → ClassId} {dI : Nat → Nat → Nat} {U : State} {b B i : Nat} {w : am_W} {e0 e : am_E} {H H1 : Heap} (h : am_H dC dI U b B w H) (hw : w[i]? = some e0) (he : am_c dC dI U b B (am_ad b B i) e H1) (hz : H1.size = H.size) (ho : ∀ q : Nat, q ≠ am_ad b B i → H1[q]? = H[q]?) : am_H dC dI U b B (w.set i e) H1 := by
  obtain ⟨h1, h2, h3, h4⟩ := h
  refine ⟨h1, by rw [List.length_set]; exact h2, by rw [List.length_set, hz]; exact h3, fun j x hx => ?_⟩
  rw [List.getElem?_set] at hx
  split at hx
  · rename_i hij
    split at hx
    · cases hx
      rw [← hij]
      exact he
    · cases hx
  · rename_i hij
    exact (h4 j x hx).kept (ho _ fun z => hij (am_ad_inj h1 z).symm)
theorem am_H.push {dC : Nat → ClassId} {dI : Nat → Nat → Nat} {U : State} {b B : Nat} {w : am_W} {e : am_E} {H H1 : Heap} (h : am_H dC dI U b B w H) (he : am_c dC dI U b B H.size e H1) (hz : H1.size = H.size + 1) (ho : ∀ q : Nat, q < H.size → H1[q]? = H[q]?) : am_H dC dI U b B (w ++ [e]) H1 := by
  obtain ⟨h1, h2, h3, h4⟩ := h
  refine ⟨h1, by rw [List.length_append]; omega, by rw [List.length_append, hz]; simp only [List.length_singleton]; omega, fun j x hx => ?_⟩
  by_cases hj : j < w.length
  · rw [List.getElem?_append_left hj] at hx
    exact (h4 j x hx).kept (ho _ (h4 j x hx).lt)
  · rw [List.getElem?_append_right (by omega)] at hx
    have hz1 : j - w.length < 1 := (List.getElem?_eq_some_iff.mp hx).1
    have hj2 : j = w.length := by omega
    subst hj2
    simp at hx
    subst hx
    have : am_ad b B w.length = H.size := by
      cases hl : w.length with
      | zero => omega
      | succ n => simp only [am_ad]; omega
    rw [this]
    exact he
theorem am_H.new {dC : Nat → ClassId} {dI : Nat → Nat → Nat} {U : State} {b B : Nat} {w : am_W} {H : Heap} (h : am_H dC dI U b B w H) : am_ad b B w.length = H.size := by
  obtain ⟨h1, h2, h3, h4⟩ := h
  cases hl : w.length with
  | zero => omega
  | succ n => simp only [am_ad]; omega
/-- how many slots a cell takes -/
def am_sc (e : am_E) : Nat := match e with
  | .inl q => q.2.length
  | .inr (.inl q) => q.2.length
  | .inr (.inr q) => q.2.length
def am_sz (w : am_W) : Nat := (w.map am_sc).sum
theorem am_sz_push (w : am_W) (e : am_E) : am_sz (w ++ [e]) = am_sz w + am_sc e := by
  simp [am_sz]
theorem am_sz_set {w : am_W} {i : Nat} {e0 e : am_E} (hw : w[i]? = some e0) (he : am_sc e = am_sc e0) : am_sz (w.set i e) = am_sz w := by
  unfold am_sz
  rw [List.map_set, he]
  congr 1
  refine List.ext_getElem? fun j => ?_
  rw [List.getElem?_set]
  split
  · rename_i hij
    subst hij
    have hl : i < (w.map am_sc).length := by
      rw [List.length_map]
      exact (List.getElem?_eq_some_iff.mp hw).1
    rw [if_pos hl, List.getElem?_map, hw]
    rfl
  · rfl
/-- what the tables say, of a state -/
def am_K (dC : Nat → ClassId) (dI : Nat → Nat → Nat) (U : State) : Prop := va_K (dC, dI) vwCl [] U ∧ (∀ w ∈ am_NW, va_Nw w U) ∧ ∀ C ∈ am_AO, va_AO C U
def am_nst (w : Cond) : Prop := (∃ a i b n d h, w = .fieldLinkNest a i b n d h) ∨ ∃ a i x h, w = .methodLinkNest a i x h
theorem am_K.warm {dC : Nat → ClassId} {dI : Nat → Nat → Nat} {s U : State} (hW : s.WarmedH U.vm) (h : am_K dC dI s) : am_K dC dI U := by
  refine ⟨va_K.moved hW.alike h.1, fun w hw => ?_, fun C hC => (h.2.2 C hC).moved hW.alike⟩
  rcases am_NW_ok w hw with ⟨a, i, b, n, d, x, rfl⟩ | ⟨a, i, x, y, rfl⟩
  · exact va_Nw.warmF hW (h.2.1 _ hw)
  · exact va_Nw.warmM hW (h.2.1 _ hw)
theorem am_K.same {dC : Nat → ClassId} {dI : Nat → Nat → Nat} {s U : State} (hW : s.vm = U.vm) (h : am_K dC dI s) : am_K dC dI U := by
  refine ⟨va_K.moved (by rw [hW]; exact Vm.Alike.refl U.vm) h.1, fun w hw => ?_, fun C hC => (h.2.2 C hC).moved (by rw [hW]; exact Vm.Alike.refl U.vm)⟩
  rcases am_NW_ok w hw with ⟨a, i, b, n, d, x, rfl⟩ | ⟨a, i, x, y, rfl⟩
  · exact va_Nw.same rfl hW (h.2.1 _ hw)
  · exact va_Nw.same rfl hW (h.2.1 _ hw)
/-- where a method stands -/
def am_C (M : am_M) (dC : Nat → ClassId) (dI : Nat → Nat → Nat) (p : Program) (R : Room) (s : State) (m : MethodId) (args : Array Value) (meth : Method) (c : Code) : Prop :=
  p.tables.exec = Jvm.exec ∧ c.code = M.1.2.1 ∧ meth.sig.returnType = M.1.2.2.2 ∧ c.maxLocals = M.1.2.2.1 ∧ s.vm.findClass M.1.1.cls = some m.cls ∧ (∀ w ∈ am_GW, w.before args s = true) ∧ meth.locks = false ∧ (M.2.1.2.2.2 = 2 → meth.name = "<init>") ∧ am_K dC dI s ∧ M.2.1.2.1 ≤ R.frames ∧ 40 * M.2.1.2.1 ≤ R.locals
/-- an instruction that ends a method with this answer -/
def am_ret (M : am_M) (pc : Nat) (r : Option Value) : Prop := (r = none ∧ M.1.2.2.2 = none ∧ decode M.1.2.1 pc = .ok (.return_, 1)) ∨ ∃ x : Int32, r = some (.int x) ∧ decode M.1.2.1 pc = .ok (.ireturn, 1) ∧ ∃ ty, M.1.2.2.2 = some ty ∧ narrow ty (.int x) = .int x
/-- from here the method comes to its end with the answer and the world r -/
def am_S (mi pc : Nat) (lo : am_L) (st : List Value) (w : am_W) (r : Option Value × am_W) : Prop :=
  (w.length ≤ r.2.length ∧ am_sz w ≤ am_sz r.2) ∧
  ∀ (M : am_M) (p : Program) (l : Launch) (e : Env) (R : Room) (s : State) (m : MethodId) (args : Array Value) (below : List Frame) (meth : Method) (c : Code) (Q : State → Prop) (dC : Nat → ClassId) (dI : Nat → Nat → Nat) (b B k0 z0 : Nat),
    am_MT[mi]? = some M → am_C M dC dI p R s m args meth c → r.2.length - k0 ≤ R.cells → am_sz r.2 - z0 ≤ R.slots → k0 ≤ w.length → z0 ≤ am_sz w →
    (∀ (H : Heap) (locs : List Loc) (ls : Array Slot) (pc : Nat), am_ret M pc r.1 → am_H dC dI s b B r.2 H → (∀ q ∈ locs, B ≤ q.base) → W p l e R s m args below meth c H locs (r.2.length - k0) (am_sz r.2 - z0) Q (F0 m pc ls (r.1.toList.map (am_v b B)))) →
    ∀ (H : Heap) (locs : List Loc) (ls : Array Slot), am_H dC dI s b B w H → am_Lo b B ls M.1.2.2.1 lo → (∀ q ∈ locs, B ≤ q.base) →
      W p l e R s m args below meth c H locs (w.length - k0) (am_sz w - z0) Q (F0 m pc ls (st.map (am_v b B)))
/-- from here the method comes to an end with P -/
def am_G (mi pc : Nat) (lo : am_L) (st : List Value) (w : am_W) (P : Option Value → am_W → Prop) : Prop := ∃ r : Option Value × am_W, P r.1 r.2 ∧ am_S mi pc lo st w r
theorem am_dec {mi pc nx tg : Nat} {i : Instr} {M : am_M} (hM : am_MT[mi]? = some M) (h : am_tb mi pc = some (i, nx, tg)) (hs : am_sw i = false) : decode M.1.2.1 pc = .ok (i, am_len i) ∧ nx = pc + am_len i ∧ ∀ o, am_off i = some o → (pc : Int) + o = (tg : Int) := by
  unfold am_tb at h
  rw [hM] at h
  have hc := am_MT_tab M (List.mem_of_getElem? hM) _ (am_lk_mem h)
  unfold am_tchk at hc
  simp only [hs, Bool.false_or, Bool.and_eq_true, decide_eq_true_eq] at hc
  obtain ⟨⟨h1, h2⟩, h3⟩ := hc
  have e : nx - pc = am_len i := by omega
  refine ⟨by rw [← e]; exact h1, h2, fun o ho => ?_⟩
  rw [ho] at h3
  simpa using h3
/-- an instruction that leaves the world as it is -/
theorem am_lift {mi pc pc' : Nat} {lo lo' : am_L} {st st' : List Value} {w : am_W} {P : Option Value → am_W → Prop}
    (f : ∀ (M : am_M) (p : Program) (l : Launch) (e : Env) (R : Room) (s : State) (m : MethodId) (args : Array Value) (below : List Frame) (meth : Method) (c : Code) (Q : State → Prop) (dC : Nat → ClassId) (dI : Nat → Nat → Nat) (b B cells slots : Nat) (H : Heap) (locs : List Loc) (ls : Array Slot),
      am_MT[mi]? = some M → am_C M dC dI p R s m args meth c → am_H dC dI s b B w H → am_Lo b B ls M.1.2.2.1 lo → (∀ ls' : Array Slot, am_Lo b B ls' M.1.2.2.1 lo' → W p l e R s m args below meth c H locs cells slots Q (F0 m pc' ls' (st'.map (am_v b B)))) →
      W p l e R s m args below meth c H locs cells slots Q (F0 m pc ls (st.map (am_v b B))))
    (k : am_G mi pc' lo' st' w P) : am_G mi pc lo st w P := by
  obtain ⟨r, hP, h0, k⟩ := k
  refine ⟨r, hP, h0, ?_⟩
  intro M p l e R s m args below meth c Q dC dI b B k0 z0 hM C hc hs hk hz hend H locs ls hH hL hlo
  exact f M p l e R s m args below meth c Q dC dI b B _ _ H locs ls hM C hH hL fun ls' hL' => k M p l e R s m args below meth c Q dC dI b B k0 z0 hM C hc hs hk hz hend H locs ls' hH hL' hlo
section AM1
variable {mi pc nx tg : Nat} {lo : am_L} {st : List Value} {w : am_W} {P : Option Value → am_W → Prop} {x y : Int32}
theorem g_iconst {n : Int} (h : am_tb mi pc = some (.iconst n, nx, tg)) (k : am_G mi nx lo (.int (Int32.ofInt n) :: st) w P) : am_G mi pc lo st w P :=
  am_lift (fun M p l e R s m args below meth c Q dC dI b B cells slots H locs ls hM C hH hL kk => by
    obtain ⟨hd, rfl, -⟩ := am_dec hM h rfl
    exact lv_iconst C.1 C.2.1 hd rfl (kk ls hL)) k
theorem g_bipush {n : Int} (h : am_tb mi pc = some (.bipush n, nx, tg)) (k : am_G mi nx lo (.int (Int8.ofInt n).toInt32 :: st) w P) : am_G mi pc lo st w P :=
  am_lift (fun M p l e R s m args below meth c Q dC dI b B cells slots H locs ls hM C hH hL kk => by
    obtain ⟨hd, rfl, -⟩ := am_dec hM h rfl
    exact lv_bipush C.1 C.2.1 hd rfl (kk ls hL)) k
theorem g_sipush {n : Int} (h : am_tb mi pc = some (.sipush n, nx, tg)) (k : am_G mi nx lo (.int (Int16.ofInt n).toInt32 :: st) w P) : am_G mi pc lo st w P :=
  am_lift (fun M p l e R s m args below meth c Q dC dI b B cells slots H locs ls hM C hH hL kk => by
    obtain ⟨hd, rfl, -⟩ := am_dec hM h rfl
    exact lv_sipush C.1 C.2.1 hd rfl (kk ls hL)) k
theorem g_ldc {i : Nat} (h : am_tb mi pc = some (.ldc i, nx, tg)) (hr : am_r2 am_kR (am_ow mi) i = some x) (k : am_G mi nx lo (.int x :: st) w P) : am_G mi pc lo st w P :=
  am_lift (fun M p l e R s m args below meth c Q dC dI b B cells slots H locs ls hM C hH hL kk => by
    obtain ⟨hd, rfl, -⟩ := am_dec hM h rfl
    exact lv_ldc C.1 C.2.1 C.2.2.2.2.1 (C.2.2.2.2.2.1 _ (am_kR_ok hM hr)) hd (kk ls hL)) k
theorem g_iload {i : Nat} (h : am_tb mi pc = some (.iload i, nx, tg)) (hl : am_get lo i = some (.int x)) (k : am_G mi nx lo (.int x :: st) w P) : am_G mi pc lo st w P :=
  am_lift (fun M p l e R s m args below meth c Q dC dI b B cells slots H locs ls hM C hH hL kk => by
    obtain ⟨hd, rfl, -⟩ := am_dec hM h rfl
    exact lv_iload C.1 C.2.1 hd (hL.at hl) (kk ls hL)) k
theorem g_iload_n {i : Fin 4} (h : am_tb mi pc = some (.iload_n i, nx, tg)) (hl : am_get lo i = some (.int x)) (k : am_G mi nx lo (.int x :: st) w P) : am_G mi pc lo st w P :=
  am_lift (fun M p l e R s m args below meth c Q dC dI b B cells slots H locs ls hM C hH hL kk => by
    obtain ⟨hd, rfl, -⟩ := am_dec hM h rfl
    exact lv_iload_n C.1 C.2.1 hd rfl (hL.at hl) (kk ls hL)) k
theorem g_aload {i a : Nat} (h : am_tb mi pc = some (.aload i, nx, tg)) (hl : am_get lo i = some (.ref a)) (k : am_G mi nx lo (.ref a :: st) w P) : am_G mi pc lo st w P :=
  am_lift (fun M p l e R s m args below meth c Q dC dI b B cells slots H locs ls hM C hH hL kk => by
    obtain ⟨hd, rfl, -⟩ := am_dec hM h rfl
    exact lv_aload C.1 C.2.1 hd (hL.at hl) (kk ls hL)) k
theorem g_aload_n {i : Fin 4} {a : Nat} (h : am_tb mi pc = some (.aload_n i, nx, tg)) (hl : am_get lo i = some (.ref a)) (k : am_G mi nx lo (.ref a :: st) w P) : am_G mi pc lo st w P :=
  am_lift (fun M p l e R s m args below meth c Q dC dI b B cells slots H locs ls hM C hH hL kk => by
    obtain ⟨hd, rfl, -⟩ := am_dec hM h rfl
    exact lv_aload_n C.1 C.2.1 hd rfl (hL.at hl) (kk ls hL)) k
theorem g_istore {i : Nat} (h : am_tb mi pc = some (.istore i, nx, tg)) (hi : i < lo.length) (k : am_G mi nx (lo.set i (some (.int x))) st w P) : am_G mi pc lo (.int x :: st) w P :=
  am_lift (fun M p l e R s m args below meth c Q dC dI b B cells slots H locs ls hM C hH hL kk => by
    obtain ⟨hd, rfl, -⟩ := am_dec hM h rfl
    exact lv_istore C.1 C.2.1 hd hL.2.1 (by rw [← hL.1]; exact hi) rfl (fun ls' h' => kk ls' (hL.set (v := .int x) rfl h'))) k
theorem g_istore_n {i : Fin 4} (h : am_tb mi pc = some (.istore_n i, nx, tg)) (hi : (i : Nat) < lo.length) (k : am_G mi nx (lo.set i (some (.int x))) st w P) : am_G mi pc lo (.int x :: st) w P :=
  am_lift (fun M p l e R s m args below meth c Q dC dI b B cells slots H locs ls hM C hH hL kk => by
    obtain ⟨hd, rfl, -⟩ := am_dec hM h rfl
    exact lv_istore_n C.1 C.2.1 hd rfl hL.2.1 (by rw [← hL.1]; exact hi) rfl (fun ls' h' => kk ls' (hL.set (v := .int x) rfl h'))) k
theorem g_astore {i a : Nat} (h : am_tb mi pc = some (.astore i, nx, tg)) (hi : i < lo.length) (k : am_G mi nx (lo.set i (some (.ref a))) st w P) : am_G mi pc lo (.ref a :: st) w P :=
  am_lift (fun M p l e R s m args below meth c Q dC dI b B cells slots H locs ls hM C hH hL kk => by
    obtain ⟨hd, rfl, -⟩ := am_dec hM h rfl
    exact lv_astore C.1 C.2.1 hd hL.2.1 (by rw [← hL.1]; exact hi) rfl (fun ls' h' => kk ls' (hL.set (v := .ref a) rfl h'))) k
theorem g_astore_n {i : Fin 4} {a : Nat} (h : am_tb mi pc = some (.astore_n i, nx, tg)) (hi : (i : Nat) < lo.length) (k : am_G mi nx (lo.set i (some (.ref a))) st w P) : am_G mi pc lo (.ref a :: st) w P :=
  am_lift (fun M p l e R s m args below meth c Q dC dI b B cells slots H locs ls hM C hH hL kk => by
    obtain ⟨hd, rfl, -⟩ := am_dec hM h rfl
    exact lv_astore_n C.1 C.2.1 hd rfl hL.2.1 (by rw [← hL.1]; exact hi) rfl (fun ls' h' => kk ls' (hL.set (v := .ref a) rfl h'))) k
theorem g_iinc {i : Nat} {n : Int} (h : am_tb mi pc = some (.iinc i n, nx, tg)) (hl : am_get lo i = some (.int x)) (k : am_G mi nx (lo.set i (some (.int (x + Int32.ofInt n)))) st w P) : am_G mi pc lo st w P :=
  am_lift (fun M p l e R s m args below meth c Q dC dI b B cells slots H locs ls hM C hH hL kk => by
    obtain ⟨hd, rfl, -⟩ := am_dec hM h rfl
    obtain ⟨j, hj⟩ := List.getElem?_of_mem (am_pl_mem.mpr ⟨.int x, am_get_of hl, rfl⟩ : (i, am_v b B (.int x)) ∈ am_pl b B lo)
    have hi : i < lo.length := (List.getElem?_eq_some_iff.mp (am_get_of hl)).1
    exact lv_iinc C.1 C.2.1 hd hL.2.1 hj rfl (by rw [← hL.1]; exact hi) rfl (fun ls' h' => kk ls' (hL.set (v := .int (x + Int32.ofInt n)) rfl h'))) k
theorem g_iadd (h : am_tb mi pc = some (.iadd, nx, tg)) (k : am_G mi nx lo (.int (x + y) :: st) w P) : am_G mi pc lo (.int y :: .int x :: st) w P :=
  am_lift (fun M p l e R s m args below meth c Q dC dI b B cells slots H locs ls hM C hH hL kk => by
    obtain ⟨hd, rfl, -⟩ := am_dec hM h rfl
    exact lv_iadd C.1 C.2.1 hd (kk ls hL)) k
theorem g_isub (h : am_tb mi pc = some (.isub, nx, tg)) (k : am_G mi nx lo (.int (x - y) :: st) w P) : am_G mi pc lo (.int y :: .int x :: st) w P :=
  am_lift (fun M p l e R s m args below meth c Q dC dI b B cells slots H locs ls hM C hH hL kk => by
    obtain ⟨hd, rfl, -⟩ := am_dec hM h rfl
    exact lv_isub C.1 C.2.1 hd (kk ls hL)) k
theorem g_imul (h : am_tb mi pc = some (.imul, nx, tg)) (k : am_G mi nx lo (.int (x * y) :: st) w P) : am_G mi pc lo (.int y :: .int x :: st) w P :=
  am_lift (fun M p l e R s m args below meth c Q dC dI b B cells slots H locs ls hM C hH hL kk => by
    obtain ⟨hd, rfl, -⟩ := am_dec hM h rfl
    exact lv_imul C.1 C.2.1 hd (kk ls hL)) k
theorem g_iand (h : am_tb mi pc = some (.iand, nx, tg)) (k : am_G mi nx lo (.int (x &&& y) :: st) w P) : am_G mi pc lo (.int y :: .int x :: st) w P :=
  am_lift (fun M p l e R s m args below meth c Q dC dI b B cells slots H locs ls hM C hH hL kk => by
    obtain ⟨hd, rfl, -⟩ := am_dec hM h rfl
    exact lv_iand C.1 C.2.1 hd (kk ls hL)) k
theorem g_ior (h : am_tb mi pc = some (.ior, nx, tg)) (k : am_G mi nx lo (.int (x ||| y) :: st) w P) : am_G mi pc lo (.int y :: .int x :: st) w P :=
  am_lift (fun M p l e R s m args below meth c Q dC dI b B cells slots H locs ls hM C hH hL kk => by
    obtain ⟨hd, rfl, -⟩ := am_dec hM h rfl
    exact lv_ior C.1 C.2.1 hd (kk ls hL)) k
theorem g_ixor (h : am_tb mi pc = some (.ixor, nx, tg)) (k : am_G mi nx lo (.int (x ^^^ y) :: st) w P) : am_G mi pc lo (.int y :: .int x :: st) w P :=
  am_lift (fun M p l e R s m args below meth c Q dC dI b B cells slots H locs ls hM C hH hL kk => by
    obtain ⟨hd, rfl, -⟩ := am_dec hM h rfl
    exact lv_ixor C.1 C.2.1 hd (kk ls hL)) k
theorem g_ishl (h : am_tb mi pc = some (.ishl, nx, tg)) (k : am_G mi nx lo (.int (x <<< (y &&& 31)) :: st) w P) : am_G mi pc lo (.int y :: .int x :: st) w P :=
  am_lift (fun M p l e R s m args below meth c Q dC dI b B cells slots H locs ls hM C hH hL kk => by
    obtain ⟨hd, rfl, -⟩ := am_dec hM h rfl
    exact lv_ishl C.1 C.2.1 hd (kk ls hL)) k
theorem g_ishr (h : am_tb mi pc = some (.ishr, nx, tg)) (k : am_G mi nx lo (.int (x >>> (y &&& 31)) :: st) w P) : am_G mi pc lo (.int y :: .int x :: st) w P :=
  am_lift (fun M p l e R s m args below meth c Q dC dI b B cells slots H locs ls hM C hH hL kk => by
    obtain ⟨hd, rfl, -⟩ := am_dec hM h rfl
    exact lv_ishr C.1 C.2.1 hd (kk ls hL)) k
theorem g_ineg (h : am_tb mi pc = some (.ineg, nx, tg)) (k : am_G mi nx lo (.int (-x) :: st) w P) : am_G mi pc lo (.int x :: st) w P :=
  am_lift (fun M p l e R s m args below meth c Q dC dI b B cells slots H locs ls hM C hH hL kk => by
    obtain ⟨hd, rfl, -⟩ := am_dec hM h rfl
    exact lv_ineg C.1 C.2.1 hd (kk ls hL)) k
theorem g_dup {va : Value} (h : am_tb mi pc = some (.dup, nx, tg)) (hva : va.category = 1) (k : am_G mi nx lo (va :: va :: st) w P) : am_G mi pc lo (va :: st) w P :=
  am_lift (fun M p l e R s m args below meth c Q dC dI b B cells slots H locs ls hM C hH hL kk => by
    obtain ⟨hd, rfl, -⟩ := am_dec hM h rfl
    exact lv_dup C.1 C.2.1 hd (by rw [am_v_cat]; exact hva) (kk ls hL)) k
theorem g_pop {va : Value} (h : am_tb mi pc = some (.pop, nx, tg)) (hva : va.category = 1) (k : am_G mi nx lo (st) w P) : am_G mi pc lo (va :: st) w P :=
  am_lift (fun M p l e R s m args below meth c Q dC dI b B cells slots H locs ls hM C hH hL kk => by
    obtain ⟨hd, rfl, -⟩ := am_dec hM h rfl
    exact lv_pop C.1 C.2.1 hd (by rw [am_v_cat]; exact hva) (kk ls hL)) k
theorem g_dup_x1 {va vb : Value} (h : am_tb mi pc = some (.dup_x1, nx, tg)) (hva : va.category = 1) (hvb : vb.category = 1) (k : am_G mi nx lo (va :: vb :: va :: st) w P) : am_G mi pc lo (va :: vb :: st) w P :=
  am_lift (fun M p l e R s m args below meth c Q dC dI b B cells slots H locs ls hM C hH hL kk => by
    obtain ⟨hd, rfl, -⟩ := am_dec hM h rfl
    exact lv_dup_x1 C.1 C.2.1 hd (by rw [am_v_cat]; exact hva) (by rw [am_v_cat]; exact hvb) (kk ls hL)) k
theorem g_dup_x2 {va vb vd : Value} (h : am_tb mi pc = some (.dup_x2, nx, tg)) (hva : va.category = 1) (hvb : vb.category = 1) (hvd : vd.category = 1) (k : am_G mi nx lo (va :: vb :: vd :: va :: st) w P) : am_G mi pc lo (va :: vb :: vd :: st) w P :=
  am_lift (fun M p l e R s m args below meth c Q dC dI b B cells slots H locs ls hM C hH hL kk => by
    obtain ⟨hd, rfl, -⟩ := am_dec hM h rfl
    exact lv_dup_x2 C.1 C.2.1 hd (by rw [am_v_cat]; exact hva) (by rw [am_v_cat]; exact hvb) (by rw [am_v_cat]; exact hvd) (kk ls hL)) k
theorem g_dup2 {va vb : Value} (h : am_tb mi pc = some (.dup2, nx, tg)) (hva : va.category = 1) (hvb : vb.category = 1) (k : am_G mi nx lo (va :: vb :: va :: vb :: st) w P) : am_G mi pc lo (va :: vb :: st) w P :=
  am_lift (fun M p l e R s m args below meth c Q dC dI b B cells slots H locs ls hM C hH hL kk => by
    obtain ⟨hd, rfl, -⟩ := am_dec hM h rfl
    exact lv_dup2_11 C.1 C.2.1 hd (by rw [am_v_cat]; exact hva) (by rw [am_v_cat]; exact hvb) (kk ls hL)) k
theorem g_if_eq {off : Int} (h : am_tb mi pc = some (.ifCond .eq off, nx, tg)) (kt : x = 0 → am_G mi tg lo st w P) (kf : ¬ (x = 0) → am_G mi nx lo st w P) : am_G mi pc lo (.int x :: st) w P := by
  by_cases hp : x = 0
  · exact am_lift (fun M p l e R s m args below meth c Q dC dI b B cells slots H locs ls hM C hH hL kk => by
      obtain ⟨hd, rfl, ht⟩ := am_dec hM h rfl
      exact lv_if_eq C.1 C.2.1 hd (ht _ rfl) (fun _ => kk ls hL) (fun z => absurd hp z)) (kt hp)
  · exact am_lift (fun M p l e R s m args below meth c Q dC dI b B cells slots H locs ls hM C hH hL kk => by
      obtain ⟨hd, rfl, ht⟩ := am_dec hM h rfl
      exact lv_if_eq C.1 C.2.1 hd (ht _ rfl) (fun z => absurd z hp) (fun _ => kk ls hL)) (kf hp)
theorem g_icmp_eq {off : Int} (h : am_tb mi pc = some (.if_icmp .eq off, nx, tg)) (kt : x = y → am_G mi tg lo st w P) (kf : ¬ (x = y) → am_G mi nx lo st w P) : am_G mi pc lo (.int y :: .int x :: st) w P := by
  by_cases hp : x = y
  · exact am_lift (fun M p l e R s m args below meth c Q dC dI b B cells slots H locs ls hM C hH hL kk => by
      obtain ⟨hd, rfl, ht⟩ := am_dec hM h rfl
      exact lv_icmp_eq C.1 C.2.1 hd (ht _ rfl) (fun _ => kk ls hL) (fun z => absurd hp z)) (kt hp)
  · exact am_lift (fun M p l e R s m args below meth c Q dC dI b B cells slots H locs ls hM C hH hL kk => by
      obtain ⟨hd, rfl, ht⟩ := am_dec hM h rfl
      exact lv_icmp_eq C.1 C.2.1 hd (ht _ rfl) (fun z => absurd z hp) (fun _ => kk ls hL)) (kf hp)
theorem g_if_ne {off : Int} (h : am_tb mi pc = some (.ifCond .ne off, nx, tg)) (kt : ¬ x = 0 → am_G mi tg lo st w P) (kf : x = 0 → am_G mi nx lo st w P) : am_G mi pc lo (.int x :: st) w P := by
  by_cases hp : x = 0
  · exact am_lift (fun M p l e R s m args below meth c Q dC dI b B cells slots H locs ls hM C hH hL kk => by
      obtain ⟨hd, rfl, ht⟩ := am_dec hM h rfl
      exact lv_if_ne C.1 C.2.1 hd (ht _ rfl) (fun z => absurd hp z) (fun _ => kk ls hL)) (kf hp)
  · exact am_lift (fun M p l e R s m args below meth c Q dC dI b B cells slots H locs ls hM C hH hL kk => by
      obtain ⟨hd, rfl, ht⟩ := am_dec hM h rfl
      exact lv_if_ne C.1 C.2.1 hd (ht _ rfl) (fun _ => kk ls hL) (fun z => absurd z hp)) (kt hp)
theorem g_icmp_ne {off : Int} (h : am_tb mi pc = some (.if_icmp .ne off, nx, tg)) (kt : ¬ x = y → am_G mi tg lo st w P) (kf : x = y → am_G mi nx lo st w P) : am_G mi pc lo (.int y :: .int x :: st) w P := by
  by_cases hp : x = y
  · exact am_lift (fun M p l e R s m args below meth c Q dC dI b B cells slots H locs ls hM C hH hL kk => by
      obtain ⟨hd, rfl, ht⟩ := am_dec hM h rfl
      exact lv_icmp_ne C.1 C.2.1 hd (ht _ rfl) (fun z => absurd hp z) (fun _ => kk ls hL)) (kf hp)
  · exact am_lift (fun M p l e R s m args below meth c Q dC dI b B cells slots H locs ls hM C hH hL kk => by
      obtain ⟨hd, rfl, ht⟩ := am_dec hM h rfl
      exact lv_icmp_ne C.1 C.2.1 hd (ht _ rfl) (fun _ => kk ls hL) (fun z => absurd z hp)) (kt hp)
theorem g_if_lt {off : Int} (h : am_tb mi pc = some (.ifCond .lt off, nx, tg)) (kt : x < 0 → am_G mi tg lo st w P) (kf : ¬ (x < 0) → am_G mi nx lo st w P) : am_G mi pc lo (.int x :: st) w P := by
  by_cases hp : x < 0
  · exact am_lift (fun M p l e R s m args below meth c Q dC dI b B cells slots H locs ls hM C hH hL kk => by
      obtain ⟨hd, rfl, ht⟩ := am_dec hM h rfl
      exact lv_if_lt C.1 C.2.1 hd (ht _ rfl) (fun _ => kk ls hL) (fun z => absurd hp z)) (kt hp)
  · exact am_lift (fun M p l e R s m args below meth c Q dC dI b B cells slots H locs ls hM C hH hL kk => by
      obtain ⟨hd, rfl, ht⟩ := am_dec hM h rfl
      exact lv_if_lt C.1 C.2.1 hd (ht _ rfl) (fun z => absurd z hp) (fun _ => kk ls hL)) (kf hp)
theorem g_icmp_lt {off : Int} (h : am_tb mi pc = some (.if_icmp .lt off, nx, tg)) (kt : x < y → am_G mi tg lo st w P) (kf : ¬ (x < y) → am_G mi nx lo st w P) : am_G mi pc lo (.int y :: .int x :: st) w P := by
  by_cases hp : x < y
  · exact am_lift (fun M p l e R s m args below meth c Q dC dI b B cells slots H locs ls hM C hH hL kk => by
      obtain ⟨hd, rfl, ht⟩ := am_dec hM h rfl
      exact lv_icmp_lt C.1 C.2.1 hd (ht _ rfl) (fun _ => kk ls hL) (fun z => absurd hp z)) (kt hp)
  · exact am_lift (fun M p l e R s m args below meth c Q dC dI b B cells slots H locs ls hM C hH hL kk => by
      obtain ⟨hd, rfl, ht⟩ := am_dec hM h rfl
      exact lv_icmp_lt C.1 C.2.1 hd (ht _ rfl) (fun z => absurd z hp) (fun _ => kk ls hL)) (kf hp)
theorem g_if_ge {off : Int} (h : am_tb mi pc = some (.ifCond .ge off, nx, tg)) (kt : 0 ≤ x → am_G mi tg lo st w P) (kf : ¬ (0 ≤ x) → am_G mi nx lo st w P) : am_G mi pc lo (.int x :: st) w P := by
  by_cases hp : 0 ≤ x
  · exact am_lift (fun M p l e R s m args below meth c Q dC dI b B cells slots H locs ls hM C hH hL kk => by
      obtain ⟨hd, rfl, ht⟩ := am_dec hM h rfl
      exact lv_if_ge C.1 C.2.1 hd (ht _ rfl) (fun _ => kk ls hL) (fun z => absurd hp z)) (kt hp)
  · exact am_lift (fun M p l e R s m args below meth c Q dC dI b B cells slots H locs ls hM C hH hL kk => by
      obtain ⟨hd, rfl, ht⟩ := am_dec hM h rfl
      exact lv_if_ge C.1 C.2.1 hd (ht _ rfl) (fun z => absurd z hp) (fun _ => kk ls hL)) (kf hp)
theorem g_icmp_ge {off : Int} (h : am_tb mi pc = some (.if_icmp .ge off, nx, tg)) (kt : y ≤ x → am_G mi tg lo st w P) (kf : ¬ (y ≤ x) → am_G mi nx lo st w P) : am_G mi pc lo (.int y :: .int x :: st) w P := by
  by_cases hp : y ≤ x
  · exact am_lift (fun M p l e R s m args below meth c Q dC dI b B cells slots H locs ls hM C hH hL kk => by
      obtain ⟨hd, rfl, ht⟩ := am_dec hM h rfl
      exact lv_icmp_ge C.1 C.2.1 hd (ht _ rfl) (fun _ => kk ls hL) (fun z => absurd hp z)) (kt hp)
  · exact am_lift (fun M p l e R s m args below meth c Q dC dI b B cells slots H locs ls hM C hH hL kk => by
      obtain ⟨hd, rfl, ht⟩ := am_dec hM h rfl
      exact lv_icmp_ge C.1 C.2.1 hd (ht _ rfl) (fun z => absurd z hp) (fun _ => kk ls hL)) (kf hp)
theorem g_if_gt {off : Int} (h : am_tb mi pc = some (.ifCond .gt off, nx, tg)) (kt : 0 < x → am_G mi tg lo st w P) (kf : ¬ (0 < x) → am_G mi nx lo st w P) : am_G mi pc lo (.int x :: st) w P := by
  by_cases hp : 0 < x
  · exact am_lift (fun M p l e R s m args below meth c Q dC dI b B cells slots H locs ls hM C hH hL kk => by
      obtain ⟨hd, rfl, ht⟩ := am_dec hM h rfl
      exact lv_if_gt C.1 C.2.1 hd (ht _ rfl) (fun _ => kk ls hL) (fun z => absurd hp z)) (kt hp)
  · exact am_lift (fun M p l e R s m args below meth c Q dC dI b B cells slots H locs ls hM C hH hL kk => by
      obtain ⟨hd, rfl, ht⟩ := am_dec hM h rfl
      exact lv_if_gt C.1 C.2.1 hd (ht _ rfl) (fun z => absurd z hp) (fun _ => kk ls hL)) (kf hp)
theorem g_icmp_gt {off : Int} (h : am_tb mi pc = some (.if_icmp .gt off, nx, tg)) (kt : y < x → am_G mi tg lo st w P) (kf : ¬ (y < x) → am_G mi nx lo st w P) : am_G mi pc lo (.int y :: .int x :: st) w P := by
  by_cases hp : y < x
  · exact am_lift (fun M p l e R s m args below meth c Q dC dI b B cells slots H locs ls hM C hH hL kk => by
      obtain ⟨hd, rfl, ht⟩ := am_dec hM h rfl
      exact lv_icmp_gt C.1 C.2.1 hd (ht _ rfl) (fun _ => kk ls hL) (fun z => absurd hp z)) (kt hp)
  · exact am_lift (fun M p l e R s m args below meth c Q dC dI b B cells slots H locs ls hM C hH hL kk => by
      obtain ⟨hd, rfl, ht⟩ := am_dec hM h rfl
      exact lv_icmp_gt C.1 C.2.1 hd (ht _ rfl) (fun z => absurd z hp) (fun _ => kk ls hL)) (kf hp)
theorem g_if_le {off : Int} (h : am_tb mi pc = some (.ifCond .le off, nx, tg)) (kt : x ≤ 0 → am_G mi tg lo st w P) (kf : ¬ (x ≤ 0) → am_G mi nx lo st w P) : am_G mi pc lo (.int x :: st) w P := by
  by_cases hp : x ≤ 0
  · exact am_lift (fun M p l e R s m args below meth c Q dC dI b B cells slots H locs ls hM C hH hL kk => by
      obtain ⟨hd, rfl, ht⟩ := am_dec hM h rfl
      exact lv_if_le C.1 C.2.1 hd (ht _ rfl) (fun _ => kk ls hL) (fun z => absurd hp z)) (kt hp)
  · exact am_lift (fun M p l e R s m args below meth c Q dC dI b B cells slots H locs ls hM C hH hL kk => by
      obtain ⟨hd, rfl, ht⟩ := am_dec hM h rfl
      exact lv_if_le C.1 C.2.1 hd (ht _ rfl) (fun z => absurd z hp) (fun _ => kk ls hL)) (kf hp)
theorem g_icmp_le {off : Int} (h : am_tb mi pc = some (.if_icmp .le off, nx, tg)) (kt : x ≤ y → am_G mi tg lo st w P) (kf : ¬ (x ≤ y) → am_G mi nx lo st w P) : am_G mi pc lo (.int y :: .int x :: st) w P := by
  by_cases hp : x ≤ y
  · exact am_lift (fun M p l e R s m args below meth c Q dC dI b B cells slots H locs ls hM C hH hL kk => by
      obtain ⟨hd, rfl, ht⟩ := am_dec hM h rfl
      exact lv_icmp_le C.1 C.2.1 hd (ht _ rfl) (fun _ => kk ls hL) (fun z => absurd hp z)) (kt hp)
  · exact am_lift (fun M p l e R s m args below meth c Q dC dI b B cells slots H locs ls hM C hH hL kk => by
      obtain ⟨hd, rfl, ht⟩ := am_dec hM h rfl
      exact lv_icmp_le C.1 C.2.1 hd (ht _ rfl) (fun z => absurd z hp) (fun _ => kk ls hL)) (kf hp)
theorem g_goto {off : Int} (h : am_tb mi pc = some (.goto off, nx, tg)) (k : am_G mi tg lo st w P) : am_G mi pc lo st w P :=
  am_lift (fun M p l e R s m args below meth c Q dC dI b B cells slots H locs ls hM C hH hL kk => by
    obtain ⟨hd, rfl, ht⟩ := am_dec hM h rfl
    exact lv_goto C.1 C.2.1 hd (ht _ rfl) (kk ls hL)) k
end AM1
