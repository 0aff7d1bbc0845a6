/-! Rules of calls, returns and switches. -/
def am_cs (st : List Value) : Nat := (st.map fun v => v.category).sum
theorem am_cs_map (b B : Nat) (st : List Value) : ((st.map (am_v b B)).map fun v => v.category).sum = am_cs st := by
  unfold am_cs
  rw [List.map_map]
  congr 1
  refine List.map_congr_left fun v _ => ?_
  exact am_v_cat b B v
theorem am_lg_len (vs : List Value) (h : ∀ v ∈ vs, v.category = 1) : lg_sl vs = vs.map Slot.val := by
  induction vs with
  | nil => rfl
  | cons v t ih =>
    have h1 : v.category = 1 := h v List.mem_cons_self
    have h2 : ¬ v.category = 2 := by omega
    unfold lg_sl at ih ⊢
    rw [List.flatMap_cons, ih fun u hu => h u (List.mem_cons_of_mem _ hu), if_neg h2]
    rfl
theorem am_args_mem (vs : List Value) (h : ∀ v ∈ vs, v.category = 1) : ∀ (k j : Nat) (v : Value), vs[j]? = some v → (k + j, v) ∈ lv_args k vs := by
  induction vs with
  | nil => intro k j v hv; simp at hv
  | cons u t ih =>
    intro k j v hv
    have h1 : ¬ u.category = 2 := by
      have := h u List.mem_cons_self
      omega
    unfold lv_args
    rw [if_neg h1]
    cases j with
    | zero =>
      simp at hv
      subst hv
      exact List.mem_cons_self
    | succ j =>
      simp at hv
      have := ih (fun x hx => h x (List.mem_cons_of_mem _ hx)) (k + 1) j v hv
      rw [show k + (j + 1) = k + 1 + j by omega]
      exact List.mem_cons_of_mem _ this
theorem am_Lo.entry {b B n : Nat} {args : List Value} (hc : ∀ v ∈ args, v.category = 1) (hn : args.length ≤ n) : am_Lo b B ((lg_sl (args.map (am_v b B)) ++ List.replicate (n - (lg_sl (args.map (am_v b B))).length) Slot.unset).toArray) n (am_entry args n) := by
  have hc2 : ∀ v ∈ args.map (am_v b B), v.category = 1 := fun v hv => by
    obtain ⟨u, hu, rfl⟩ := List.mem_map.mp hv
    rw [am_v_cat]
    exact hc u hu
  have hlen : (lg_sl (args.map (am_v b B))).length = args.length := by
    rw [am_lg_len _ hc2]
    simp
  have key : ∀ (j : Nat) (u : Value), (am_entry args n)[j]? = some (some u) → args[j]? = some u := by
    intro j u hu
    unfold am_entry at hu
    by_cases hj : j < args.length
    · rw [List.getElem?_append_left (by rw [List.length_map]; exact hj), List.getElem?_map] at hu
      cases ha : args[j]? with
      | none => rw [ha] at hu; cases hu
      | some v =>
        rw [ha] at hu
        cases hu
        rfl
    · rw [List.getElem?_append_right (by rw [List.length_map]; omega), List.getElem?_replicate] at hu
      split at hu
      · cases hu
      · cases hu
  refine ⟨?_, lv_has_mono (lv_entry (args.map (am_v b B)) (n := n) (by rw [hlen]; exact hn)) fun q hq => ?_, fun j u hu => ?_⟩
  · unfold am_entry
    rw [List.length_append, List.length_map, List.length_replicate]
    omega
  · obtain ⟨v, hv, hq2⟩ := am_pl_mem.mp hq
    have h1 := am_args_mem _ hc2 0 q.1 (am_v b B v) (by rw [List.getElem?_map, key _ _ hv]; rfl)
    rw [Nat.zero_add, ← hq2] at h1
    exact h1
  · exact hc u (List.mem_of_getElem? (key j u hu))
/-- a whole method from its entry -/
def am_Ev (mi : Nat) (args : List Value) (w : am_W) (P : Option Value → am_W → Prop) : Prop := (∀ v ∈ args, v.category = 1) ∧ ∃ r : Option Value × am_W, P r.1 r.2 ∧ ∀ M : am_M, am_MT[mi]? = some M → args.length ≤ M.1.2.2.1 ∧ am_S mi 0 (am_entry args M.1.2.2.1) [] w r
theorem am_Ev.of {mi : Nat} {args : List Value} {w : am_W} {P : Option Value → am_W → Prop} {n : Nat} {lo : am_L} (hn : am_mL mi = n) (hc : args.all (fun v => Nat.beq v.category 1) = true) (ha : Nat.ble args.length n = true) (hlo : am_entry args n = lo) (k : am_G mi 0 lo [] w P) : am_Ev mi args w P := by
  obtain ⟨r, hP, hS⟩ := k
  refine ⟨fun v hv => Nat.eq_of_beq_eq_true (List.all_eq_true.mp hc v hv), r, hP, fun M hM => ?_⟩
  unfold am_mL at hn
  rw [hM] at hn
  have hn : M.1.2.2.1 = n := hn
  rw [hn, hlo]
  exact ⟨Nat.le_of_ble_eq_true ha, hS⟩
theorem am_Ev.mono {mi : Nat} {args : List Value} {w : am_W} {P P' : Option Value → am_W → Prop} (h : am_Ev mi args w P) (hp : ∀ v w', P v w' → P' v w') : am_Ev mi args w P' := by
  obtain ⟨h1, r, h2, h3⟩ := h
  exact ⟨h1, r, hp _ _ h2, h3⟩
theorem am_G.mono {mi pc : Nat} {lo : am_L} {st : List Value} {w : am_W} {P P' : Option Value → am_W → Prop} (h : am_G mi pc lo st w P) (hp : ∀ v w', P v w' → P' v w') : am_G mi pc lo st w P' := by
  obtain ⟨r, h2, h3⟩ := h
  exact ⟨r, hp _ _ h2, h3⟩
def am_Pc (dC : Nat → ClassId) (dI : Nat → Nat → Nat) (b B : Nat) (args : List Value) (w : am_W) : Array Value → State → Prop := fun v U => v = (args.map (am_v b B)).toArray ∧ am_H dC dI U b B w U.heap ∧ am_K dC dI U
def am_Qc (dC : Nat → ClassId) (dI : Nat → Nat → Nat) (b B : Nat) (r : Option Value × am_W) : Array Value → State → Outcome → State → Prop := fun _ _ o t => o = .returned (r.1.map (am_v b B)) ∧ am_H dC dI t b B r.2 t.heap
abbrev am_ws (M : am_M) : List Cond := Cond.code M.1.1 M.1.2.1 M.1.2.2.1 M.1.2.2.2 :: am_GW
abbrev am_rm (M : am_M) (w w' : am_W) : Room := { frames := M.2.1.2.1, cells := w'.length - w.length, slots := am_sz w' - am_sz w, locals := 40 * M.2.1.2.1 }
theorem am_met {l : Launch} {mi : Nat} {args : List Value} {w : am_W} {r : Option Value × am_W} {M : am_M} (hM : am_MT[mi]? = some M) (hok : am_Mok M) (hc : ∀ v ∈ args, v.category = 1) (hn : args.length ≤ M.1.2.2.1) (S : am_S mi 0 (am_entry args M.1.2.2.1) [] w r) (dC : Nat → ClassId) (dI : Nat → Nat → Nat) (b B : Nat) :
    Met l M.1.1 (am_ws M) (am_rm M w r.2) (am_Pc dC dI b B args w) (am_Qc dC dI b B r) (r.2.length - w.length) (am_sz r.2 - am_sz w) (fun q => B ≤ q) := by
  refine Met.ofW (cc := M.1.2.1) (maxL := M.1.2.2.1) (ret := M.1.2.2.2) hok.1 rfl ?_
  intro p e s m args' below meth c s₁ Bd hml hv
  obtain ⟨rfl, hH, hK⟩ := hv
  have hts := atoms_spec (ws := am_ws M) Bd.pre
  rw [lg_entry_eq]
  have h := S.2 M p l e (headSpec (am_ws M) (am_rm M w r.2)).room s m (args.map (am_v b B)).toArray below meth c (MQ below (am_Qc dC dI b B r) (args.map (am_v b B)).toArray s (r.2.length - w.length) (am_sz r.2 - am_sz w) (fun q => B ≤ q)) dC dI b B w.length (am_sz w) hM
    ⟨Bd.exec, Bd.bytes, Bd.returns, hml, findClass_of_methodNamed Bd.named, fun x hx => hts x (List.mem_cons_of_mem _ hx), Bd.notSynchronized, fun hk => by rw [(name_of_methodNamed Bd.named Bd.method).1]; exact hok.2.2.2.2.2.2.2.1 hk, hK, Nat.le_refl _, Nat.le_refl _⟩
    (Nat.le_refl _) (Nat.le_refl _) (Nat.le_refl _) (Nat.le_refl _) ?_ s.heap [] _ hH (am_Lo.entry hc hn) (fun q hq => by cases hq)
  · rw [Nat.sub_self, Nat.sub_self] at h
    exact h
  · intro H locs ls pc hret hH' hlo
    have hlocks : meth.locks = false := Bd.notSynchronized
    rcases hret with ⟨h1, h2, h3⟩ | ⟨x, h1, h2, ty, h3, h4⟩
    · rw [h1]
      exact W.vret Bd.exec Bd.bytes (by rw [Bd.returns]; exact h2) (fun t ht hW => ⟨by rw [h1]; rfl, by rw [ht]; exact hH'.moved hW.alike⟩) hlo h3 hlocks
    · rw [h1]
      exact W.zret Bd.exec Bd.bytes (by rw [Bd.returns]; exact h3) h4 (fun t ht hW => ⟨by rw [h1]; rfl, by rw [ht]; exact hH'.moved hW.alike⟩) hlo h2 hlocks
theorem am_blind {dC : Nat → ClassId} {dI : Nat → Nat → Nat} {b B : Nat} {args : List Value} {w : am_W} : FrameBlind (am_Pc dC dI b B args w) := by
  intro a U g mk h
  obtain ⟨h1, h2, h3⟩ := h
  exact ⟨h1, h2.moved (u := U) (U := U.calling g mk a) (Vm.Alike.refl U.vm), am_K.same (s := U) (U := U.calling g mk a) rfl h3⟩
theorem am_goon {p : Program} {l : Launch} {e : Env} {R : Room} {s : State} {m : MethodId} {args : Array Value} {below : List Frame} {meth : Method} {c : Code} {H : Heap} {locs : List Loc} {cells slots mc ms pc : Nat} {Q : State → Prop} {ls : Array Slot} {st0 rest : List Value} {dC : Nat → ClassId} {dI : Nat → Nat → Nat} {b B : Nat} {r : Option Value × am_W} {a : Array Value}
    (hr : va_Run p l e R s m args below meth c H locs cells slots mc ms (F0 m pc ls st0) rest (am_Qc dC dI b B r a) (fun q => B ≤ q)) (hlo : ∀ q ∈ locs, B ≤ q.base)
    (kk : ∀ (H1 : Heap) (locs1 : List Loc), am_H dC dI s b B r.2 H1 → (∀ q ∈ locs1, B ≤ q.base) → W p l e R s m args below meth c H1 locs1 (cells + mc) (slots + ms) Q (F0 m (pc + 3) ls ((r.1.map (am_v b B)).toList ++ rest))) : W p l e R s m args below meth c H locs cells slots Q (F0 m pc ls st0) := by
  intro T hT X
  obtain ⟨v, st₀, t, T', L, h0, X', hL, e1, e2, ⟨hv, hH⟩, st⟩ := hr T hT X
  have hv : v = r.1.map (am_v b B) := Outcome.returned.inj hv
  subst hv
  obtain ⟨t2, a1, b1⟩ := kk T'.heap (locs ++ L) (by rw [e1]; exact hH.moved (by rw [← e2]; exact X'.warmed.alike.symm)) (fun q hq => by
    rcases List.mem_append.mp hq with h | h
    · exact hlo q h
    · exact hL q h) T' rfl X'
  exact ⟨t2, st t2 a1, b1⟩
theorem am_good {M : am_M} (hc : Cond.code M.1.1 M.1.2.1 M.1.2.2.1 M.1.2.2.2 ∈ am_GW) : GoodIn am_GW (am_ws M) := by
  intro x hx
  rcases List.mem_cons.mp hx with h | h
  · rw [h]
    exact ⟨hc, am_GW_good _ hc⟩
  · exact ⟨h, am_GW_good _ h⟩
section AM3
variable {mi pc nx tg : Nat} {lo : am_L} {st stk : List Value} {w : am_W} {P P' : Option Value → am_W → Prop} {x y : Int32}
/-- what a call comes to, however it is made -/
theorem am_call {mi2 : Nat} {As : List Value} (hM2 : ∃ M2, am_MT[mi2]? = some M2 ∧ am_Mok M2) (hE : am_Ev mi2 As w P')
    (f : ∀ (M M2 : am_M) (r1 : Option Value × am_W) (p : Program) (l : Launch) (e : Env) (R : Room) (s : State) (m : MethodId) (args : Array Value) (below : List Frame) (meth : Method) (c : Code) (dC : Nat → ClassId) (dI : Nat → Nat → Nat) (b B cells slots : Nat) (H : Heap) (locs : List Loc) (ls : Array Slot),
      am_MT[mi]? = some M → am_MT[mi2]? = some M2 → am_Mok M2 → am_C M dC dI p R s m args meth c → am_H dC dI s b B w H → am_Lo b B ls M.1.2.2.1 lo → cells + (r1.2.length - w.length) ≤ R.cells → slots + (am_sz r1.2 - am_sz w) ≤ R.slots →
      Met l M2.1.1 (am_ws M2) (am_rm M2 w r1.2) (am_Pc dC dI b B As w) (am_Qc dC dI b B r1) (r1.2.length - w.length) (am_sz r1.2 - am_sz w) (fun q => B ≤ q) →
      nx = pc + 3 ∧ ∃ a, va_Run p l e R s m args below meth c H locs cells slots (r1.2.length - w.length) (am_sz r1.2 - am_sz w) (F0 m pc ls (stk.map (am_v b B))) (st.map (am_v b B)) (am_Qc dC dI b B r1 a) (fun q => B ≤ q))
    (kk : ∀ v w', P' v w' → am_G mi nx lo (v.toList ++ st) w' P) : am_G mi pc lo stk w P := by
  obtain ⟨hcat, r1, hP1, hS1⟩ := hE
  obtain ⟨M2, hM2, hok⟩ := hM2
  obtain ⟨hn2, S1⟩ := hS1 M2 hM2
  obtain ⟨r, hP, h0, k⟩ := kk r1.1 r1.2 hP1
  have hw1 := S1.1.1
  have hw2 := S1.1.2
  have hr1 := h0.1
  have hr2 := h0.2
  refine ⟨r, hP, ⟨by omega, by omega⟩, ?_⟩
  intro M p l e R s m args below meth c Q dC dI b B k0 z0 hM C hc hs hk hz hend H locs ls hH hL hlo
  obtain ⟨rfl, a, hrun⟩ := f M M2 r1 p l e R s m args below meth c dC dI b B (w.length - k0) (am_sz w - z0) H locs ls hM hM2 hok C hH hL (by omega) (by omega) (am_met hM2 hok hcat hn2 S1 dC dI b B)
  refine am_goon hrun hlo fun H1 locs1 hH1 hlo1 => ?_
  have h := k M p l e R s m args below meth c Q dC dI b B k0 z0 hM C hc hs (by omega) (by omega) hend H1 locs1 ls hH1 hL hlo1
  rw [show w.length - k0 + (r1.2.length - w.length) = r1.2.length - k0 by omega, show am_sz w - z0 + (am_sz r1.2 - am_sz w) = am_sz r1.2 - z0 by omega]
  rw [List.map_append] at h
  cases hr : r1.1 with
  | none => rw [hr] at h; exact h
  | some v => rw [hr] at h; exact h
theorem am_rank {M M2 : am_M} {mi2 : Nat} (hM : am_MT[mi]? = some M) (hM2 : am_MT[mi2]? = some M2) (hk : Nat.blt (am_rk mi2) (am_rk mi) = true) {R : Room} (h1 : M.2.1.2.1 ≤ R.frames) (h2 : 40 * M.2.1.2.1 ≤ R.locals) (hl : M2.1.2.2.1 ≤ 21) (w w' : am_W) : (am_rm M2 w w').frames + 1 ≤ R.frames ∧ 8 + (M2.1.2.2.1 + 11) + (am_rm M2 w w').locals ≤ R.locals := by
  unfold am_rk at hk
  rw [hM, hM2] at hk
  have hk : Nat.blt M2.2.1.2.1 M.2.1.2.1 = true := hk
  have hk2 : M2.2.1.2.1 < M.2.1.2.1 := Nat.le_of_ble_eq_true hk
  show M2.2.1.2.1 + 1 ≤ R.frames ∧ 8 + (M2.1.2.2.1 + 11) + 40 * M2.2.1.2.1 ≤ R.locals
  omega
theorem am_stk {b B : Nat} {As : List Value} {a : Nat} : (As.reverse ++ .ref a :: st).map (am_v b B) = (As.map (am_v b B)).reverse ++ .ref (am_ad b B a) :: st.map (am_v b B) := by
  rw [List.map_append, List.map_reverse]
  rfl
theorem g_callV {i mi2 a ci : Nat} {As fs : List Value} (h : am_tb mi pc = some (.invokevirtual i, nx, tg)) (hr : am_r2 am_mR (am_ow mi) i = some mi2) (hk : Nat.blt (am_rk mi2) (am_rk mi) = true) (hkd : am_kd mi2 = 0) (hw : w[a]? = some (.inr (.inr (ci, fs)))) (hci : am_ow mi2 = ci) (hE : am_Ev mi2 (.ref a :: As) w P') (hst : stk = As.reverse ++ .ref a :: st) (hnp : am_np mi2 = As.length) (hrest : Nat.ble (am_cs st) 8 = true) (kk : ∀ v w', P' v w' → am_G mi nx lo (v.toList ++ st) w' P) : am_G mi pc lo stk w P := by
  refine am_call (am_mR_ex hr) hE (fun M M2 r1 p l e R s m args below meth c dC dI b B cells slots H locs ls hM hM2 hok C hH hL hc hs hMet => ?_) kk
  obtain ⟨hd, rfl, -⟩ := am_dec hM h rfl
  refine ⟨rfl, (Value.ref (am_ad b B a) :: As.map (am_v b B)).toArray, ?_⟩
  obtain ⟨hx, hb, -, hml, hown, hts, -, -, hK, hR1, hR2⟩ := C
  obtain ⟨hpl, hmx, hcode, hini, hnh, hpar, hkinds, -⟩ := id hok
  have hkd2 : M2.2.1.2.2.2 = 0 := by unfold am_kd at hkd; rw [hM2] at hkd; exact hkd
  obtain ⟨hinst, hsel⟩ := hkinds.1 hkd2
  have hnp2 : M2.2.1.2.2.1 = As.length := by unfold am_np at hnp; rw [hM2] at hnp; exact hnp
  obtain ⟨r', g1, g2, cv, g3, g4, g5, g6⟩ := hH.2.2.2 a _ hw
  have hcn : r'.1 = M2.1.1.cls := am_own_cls hM2 (by unfold am_ow at hci; rw [hM2] at hci; rw [show M2.2.1.1 = ci from hci]; exact g1)
  have hcls := hK.1.1 ci r' g1
  have hpre : PreV s H M2.1.1.cls (am_ad b B a) (am_Pc dC dI b B (.ref a :: As) w) (As.map (am_v b B)) := ⟨am_blind, ⟨cv, g3, by rw [g5]; rfl, by rw [← hcn, g4]; exact hcls.2.1⟩, fun U hU hW => ⟨rfl, by rw [hU]; exact hH.moved hW.alike, hK.warm hW⟩⟩
  have hsig : ∀ sig, parseMethodDescriptor M2.1.1.desc = some sig → As.length = sig.parameters.length := fun sig hs => by
    rw [hs] at hpar
    have hpz : sig.parameters.length = M2.2.1.2.2.1 := Option.some.inj hpar
    omega
  have hro := am_rank hM hM2 hk hR1 hR2 hmx w r1.2
  have hrm : 2 * (F0 m pc ls (stk.map (am_v b B))).monitorRoom + ((st.map (am_v b B)).map fun v => v.category).sum ≤ 8 := lv_room (by rw [am_cs_map]; exact Nat.le_of_ble_eq_true hrest)
  rcases am_mR_ok hM hM2 hr with hlk | ⟨host, hlk⟩
  · exact va_runV (As := As.map (am_v b B)) (rest := st.map (am_v b B)) (n := As.length) (bytes := M2.1.2.1) (maxL := M2.1.2.2.1) (ret := M2.1.2.2.2) ⟨hx, hb, hml, hown, hts⟩ hMet ⟨⟨rfl, rfl, hro.1, hro.2, pay_in hts (am_good hcode), List.mem_cons_self, hts _ hcode, hts _ hini, hnh, hsig, hts _ hlk⟩, hts _ hinst, hts _ hsel⟩ hpre rfl (by rw [List.length_map]) hL.2.1.1 (by rw [hst]; exact am_stk) hrm hd ⟨hc, hs⟩
  · exact va_runVN (As := As.map (am_v b B)) (rest := st.map (am_v b B)) (n := As.length) (bytes := M2.1.2.1) (maxL := M2.1.2.2.1) (ret := M2.1.2.2.2) (host := host) ⟨hx, hb, hml, hown, hts⟩ hMet ⟨⟨⟨rfl, rfl, hro.1, hro.2, pay_in hts (am_good hcode), List.mem_cons_self⟩, hts _ hcode, hts _ hini, hnh, hsig, va_Nw.use rfl (hK.2.1 _ hlk)⟩, hts _ hinst, hts _ hsel⟩ hpre rfl (by rw [List.length_map]) hL.2.1.1 (by rw [hst]; exact am_stk) hrm hd ⟨hc, hs⟩
theorem g_callI {i mi2 a : Nat} {As : List Value} (h : am_tb mi pc = some (.invokespecial i, nx, tg)) (hr : am_r2 am_mR (am_ow mi) i = some mi2) (hk : Nat.blt (am_rk mi2) (am_rk mi) = true) (hkd : am_kd mi2 = 2) (hE : am_Ev mi2 (.ref a :: As) w P') (hst : stk = As.reverse ++ .ref a :: st) (hnp : am_np mi2 = As.length) (hrest : Nat.ble (am_cs st) 8 = true) (kk : ∀ v w', P' v w' → am_G mi nx lo (v.toList ++ st) w' P) : am_G mi pc lo stk w P := by
  refine am_call (am_mR_ex hr) hE (fun M M2 r1 p l e R s m args below meth c dC dI b B cells slots H locs ls hM hM2 hok C hH hL hc hs hMet => ?_) kk
  obtain ⟨hd, rfl, -⟩ := am_dec hM h rfl
  refine ⟨rfl, (Value.ref (am_ad b B a) :: As.map (am_v b B)).toArray, ?_⟩
  obtain ⟨hx, hb, -, hml, hown, hts, -, -, hK, hR1, hR2⟩ := C
  obtain ⟨hpl, hmx, hcode, hini, hnh, hpar, hkinds, -⟩ := id hok
  have hkd2 : M2.2.1.2.2.2 = 2 := by unfold am_kd at hkd; rw [hM2] at hkd; exact hkd
  obtain ⟨hnam, hinst, hret⟩ := hkinds.2.2 hkd2
  have hnp2 : M2.2.1.2.2.1 = As.length := by unfold am_np at hnp; rw [hM2] at hnp; exact hnp
  have hpre : PreS s H (am_Pc dC dI b B (.ref a :: As) w) (.ref (am_ad b B a) :: As.map (am_v b B)) := ⟨am_blind, fun U hU hW => ⟨rfl, by rw [hU]; exact hH.moved hW.alike, hK.warm hW⟩⟩
  have hsig : ∀ sig, parseMethodDescriptor M2.1.1.desc = some sig → As.length = sig.parameters.length := fun sig hs => by
    rw [hs] at hpar
    have hpz : sig.parameters.length = M2.2.1.2.2.1 := Option.some.inj hpar
    omega
  have hro := am_rank hM hM2 hk hR1 hR2 hmx w r1.2
  have hrm : 2 * (F0 m pc ls (stk.map (am_v b B))).monitorRoom + ((st.map (am_v b B)).map fun v => v.category).sum ≤ 8 := lv_room (by rw [am_cs_map]; exact Nat.le_of_ble_eq_true hrest)
  have hcode' : Cond.code M2.1.1 M2.1.2.1 M2.1.2.2.1 none ∈ am_GW := by rw [← hret]; exact hcode
  have hmem : Cond.code M2.1.1 M2.1.2.1 M2.1.2.2.1 none ∈ am_ws M2 := by
    show Cond.code M2.1.1 M2.1.2.1 M2.1.2.2.1 none ∈ Cond.code M2.1.1 M2.1.2.1 M2.1.2.2.1 M2.1.2.2.2 :: am_GW
    rw [hret]
    exact List.mem_cons_self
  rcases am_mR_ok hM hM2 hr with hlk | ⟨host, hlk⟩
  · exact va_runI (As := As.map (am_v b B)) (rest := st.map (am_v b B)) (n := As.length) (bytes := M2.1.2.1) (maxL := M2.1.2.2.1) ⟨hx, hb, hml, hown, hts⟩ hMet ⟨⟨rfl, rfl, hro.1, hro.2, pay_in hts (am_good hcode), hmem, hts _ hcode', hts _ hini, hnh, hsig, hts _ hlk⟩, hnam, hts _ hinst⟩ hpre rfl (by rw [List.length_map]) hL.2.1.1 (by rw [hst]; exact am_stk) hrm hd ⟨hc, hs⟩
  · exact va_runIN (As := As.map (am_v b B)) (rest := st.map (am_v b B)) (n := As.length) (bytes := M2.1.2.1) (maxL := M2.1.2.2.1) (host := host) ⟨hx, hb, hml, hown, hts⟩ hMet ⟨⟨⟨rfl, rfl, hro.1, hro.2, pay_in hts (am_good hcode), hmem⟩, hts _ hcode', hts _ hini, hnh, hsig, va_Nw.use rfl (hK.2.1 _ hlk)⟩, hnam, hts _ hinst⟩ hpre rfl (by rw [List.length_map]) hL.2.1.1 (by rw [hst]; exact am_stk) hrm hd ⟨hc, hs⟩
theorem g_callS {i mi2 : Nat} {As : List Value} (h : am_tb mi pc = some (.invokestatic i, nx, tg)) (hr : am_r2 am_mR (am_ow mi) i = some mi2) (hk : Nat.blt (am_rk mi2) (am_rk mi) = true) (hkd : am_kd mi2 = 1) (hE : am_Ev mi2 As w P') (hst : stk = As.reverse ++ st) (hnp : am_np mi2 = As.length) (hrest : Nat.ble (am_cs st) 8 = true) (kk : ∀ v w', P' v w' → am_G mi nx lo (v.toList ++ st) w' P) : am_G mi pc lo stk w P := by
  refine am_call (am_mR_ex hr) hE (fun M M2 r1 p l e R s m args below meth c dC dI b B cells slots H locs ls hM hM2 hok C hH hL hc hs hMet => ?_) kk
  obtain ⟨hd, rfl, -⟩ := am_dec hM h rfl
  refine ⟨rfl, (As.map (am_v b B)).toArray, ?_⟩
  obtain ⟨hx, hb, -, hml, hown, hts, -, -, hK, hR1, hR2⟩ := C
  obtain ⟨hpl, hmx, hcode, hini, hnh, hpar, hkinds, -⟩ := id hok
  have hkd2 : M2.2.1.2.2.2 = 1 := by unfold am_kd at hkd; rw [hM2] at hkd; exact hkd
  have hstat := hkinds.2.1 hkd2
  have hnp2 : M2.2.1.2.2.1 = As.length := by unfold am_np at hnp; rw [hM2] at hnp; exact hnp
  have hpre : PreS s H (am_Pc dC dI b B As w) (As.map (am_v b B)) := ⟨am_blind, fun U hU hW => ⟨rfl, by rw [hU]; exact hH.moved hW.alike, hK.warm hW⟩⟩
  have hsig : ∀ sig, parseMethodDescriptor M2.1.1.desc = some sig → As.length = sig.parameters.length := fun sig hs => by
    rw [hs] at hpar
    have hpz : sig.parameters.length = M2.2.1.2.2.1 := Option.some.inj hpar
    omega
  have hro := am_rank hM hM2 hk hR1 hR2 hmx w r1.2
  have hrm : 2 * (F0 m pc ls (stk.map (am_v b B))).monitorRoom + ((st.map (am_v b B)).map fun v => v.category).sum ≤ 8 := lv_room (by rw [am_cs_map]; exact Nat.le_of_ble_eq_true hrest)
  have hstk : (As.reverse ++ st).map (am_v b B) = (As.map (am_v b B)).reverse ++ st.map (am_v b B) := by
    rw [List.map_append, List.map_reverse]
  rcases am_mR_ok hM hM2 hr with hlk | ⟨host, hlk⟩
  · exact va_runS (As := As.map (am_v b B)) (rest := st.map (am_v b B)) (n := As.length) (bytes := M2.1.2.1) (maxL := M2.1.2.2.1) (ret := M2.1.2.2.2) ⟨hx, hb, hml, hown, hts⟩ hMet ⟨⟨rfl, rfl, hro.1, hro.2, pay_in hts (am_good hcode), List.mem_cons_self, hts _ hcode, hts _ hini, hnh, hsig, hts _ hlk⟩, hts _ hstat⟩ hpre rfl (by rw [List.length_map]) hL.2.1.1 (by rw [hst]; exact hstk) hrm hd ⟨hc, hs⟩
  · exact va_runSN (As := As.map (am_v b B)) (rest := st.map (am_v b B)) (n := As.length) (bytes := M2.1.2.1) (maxL := M2.1.2.2.1) (ret := M2.1.2.2.2) (host := host) ⟨hx, hb, hml, hown, hts⟩ hMet ⟨⟨⟨rfl, rfl, hro.1, hro.2, pay_in hts (am_good hcode), List.mem_cons_self⟩, hts _ hcode, hts _ hini, hnh, hsig, va_Nw.use rfl (hK.2.1 _ hlk)⟩, hts _ hstat, trivial⟩ hpre rfl (by rw [List.length_map]) hL.2.1.1 (by rw [hst]; exact hstk) hrm hd ⟨hc, hs⟩
theorem g_objI {i a : Nat} (h : am_tb mi pc = some (.invokespecial i, nx, tg)) (hr : am_r2 am_oR (am_ow mi) i = some 0) (hk : Nat.ble 1 (am_rk mi) = true) (hrest : Nat.ble (am_cs st) 8 = true) (kk : am_G mi nx lo st w P) : am_G mi pc lo (.ref a :: st) w P :=
  am_lift (fun M p l e R s m args below meth c Q dC dI b B cells slots H locs ls hM C hH hL kk => by
    obtain ⟨hd, rfl, -⟩ := am_dec hM h rfl
    obtain ⟨hx, hb, -, hml, hown, hts, -, -, hK, hR1, hR2⟩ := C
    obtain ⟨h1, h2, h3⟩ := am_oR_ok hM hr
    have hk2 : 1 ≤ M.2.1.2.1 := by
      unfold am_rk at hk
      rw [hM] at hk
      exact Nat.le_of_ble_eq_true hk
    have hcs : ((st.map (am_v b B)).map fun v => v.category).sum ≤ 8 := by rw [am_cs_map]; exact Nat.le_of_ble_eq_true hrest
    refine W.objInit hx hb hown (hts _ h1) (hts _ h2) (hts _ h3) rfl (by rw [hml]; exact hL.2.1.1) rfl hd (by omega) ?_ (kk ls hL)
    show 2 * 0 + ((st.map (am_v b B)).map fun v => v.category).sum + 12 ≤ R.locals
    omega) kk
theorem g_iret (h : am_tb mi pc = some (.ireturn, nx, tg)) (hr : am_rt mi = some .int) (hP : P (some (.int x)) w) : am_G mi pc lo [.int x] w P := by
  refine ⟨(some (.int x), w), hP, ⟨Nat.le_refl _, Nat.le_refl _⟩, ?_⟩
  intro M p l e R s m args below meth c Q dC dI b B k0 z0 hM C hc hs hk hz hend H locs ls hH hL hlo
  obtain ⟨hd, -, -⟩ := am_dec hM h rfl
  have hr2 : M.1.2.2.2 = some .int := by unfold am_rt at hr; rw [hM] at hr; exact hr
  exact hend H locs ls pc (Or.inr ⟨x, rfl, hd, .int, hr2, rfl⟩) hH hlo
theorem g_zret (h : am_tb mi pc = some (.ireturn, nx, tg)) (hr : am_rt mi = some .boolean) (hx : x = 0 ∨ x = 1) (hP : P (some (.int x)) w) : am_G mi pc lo [.int x] w P := by
  refine ⟨(some (.int x), w), hP, ⟨Nat.le_refl _, Nat.le_refl _⟩, ?_⟩
  intro M p l e R s m args below meth c Q dC dI b B k0 z0 hM C hc hs hk hz hend H locs ls hH hL hlo
  obtain ⟨hd, -, -⟩ := am_dec hM h rfl
  have hr2 : M.1.2.2.2 = some .boolean := by unfold am_rt at hr; rw [hM] at hr; exact hr
  exact hend H locs ls pc (Or.inr ⟨x, rfl, hd, .boolean, hr2, by rcases hx with rfl | rfl <;> rfl⟩) hH hlo
theorem g_vret (h : am_tb mi pc = some (.return_, nx, tg)) (hr : am_rt mi = none) (hP : P none w) : am_G mi pc lo [] w P := by
  refine ⟨(none, w), hP, ⟨Nat.le_refl _, Nat.le_refl _⟩, ?_⟩
  intro M p l e R s m args below meth c Q dC dI b B k0 z0 hM C hc hs hk hz hend H locs ls hH hL hlo
  obtain ⟨hd, -, -⟩ := am_dec hM h rfl
  have hr2 : M.1.2.2.2 = none := by unfold am_rt at hr; rw [hM] at hr; exact hr
  exact hend H locs ls pc (Or.inl ⟨rfl, hr2, hd⟩) hH hlo
theorem am_decS {i : Instr} {M : am_M} (hM : am_MT[mi]? = some M) (h : am_tb mi pc = some (i, nx, tg)) : decode M.1.2.1 pc = .ok (i, nx - pc) := by
  unfold am_tb at h
  rw [hM] at h
  have hc := am_MT_tab M (List.mem_of_getElem? hM) _ (am_lk_mem h)
  unfold am_tchk at hc
  simp only [Bool.and_eq_true, decide_eq_true_eq] at hc
  exact hc.1.1
theorem g_tsw {d lw hi off : Int} {offs : Array Int} {t : Nat} (h : am_tb mi pc = some (.tableswitch d lw hi offs, nx, tg)) (h1 : ¬ x.toInt < lw) (h2 : ¬ hi < x.toInt) (ho : offs[(x.toInt - lw).toNat]? = some off) (ht : (pc : Int) + off = (t : Int)) (k : am_G mi t lo st w P) : am_G mi pc lo (.int x :: st) w P :=
  am_lift (fun M p l e R s m args below meth c Q dC dI b B cells slots H locs ls hM C hH hL kk => lv_tableIn C.1 C.2.1 (am_decS hM h) h1 h2 ho ht (kk ls hL)) k
theorem g_tswo {d lw hi : Int} {offs : Array Int} {t : Nat} (h : am_tb mi pc = some (.tableswitch d lw hi offs, nx, tg)) (h1 : x.toInt < lw ∨ hi < x.toInt) (ht : (pc : Int) + d = (t : Int)) (k : am_G mi t lo st w P) : am_G mi pc lo (.int x :: st) w P :=
  am_lift (fun M p l e R s m args below meth c Q dC dI b B cells slots H locs ls hM C hH hL kk => lv_tableOut C.1 C.2.1 (am_decS hM h) h1 ht (kk ls hL)) k
theorem g_lsw {d off : Int} {ps : Array (Int × Int)} {t : Nat} (h : am_tb mi pc = some (.lookupswitch d ps, nx, tg)) (hp : (ps.toList.zip (ps.toList.drop 1)).all (fun (a, next) => a.1 < next.1) = true) (ho : Op.lookupswitch.offset ps.toList d x.toInt = off) (ht : (pc : Int) + off = (t : Int)) (k : am_G mi t lo st w P) : am_G mi pc lo (.int x :: st) w P :=
  am_lift (fun M p l e R s m args below meth c Q dC dI b B cells slots H locs ls hM C hH hL kk => lv_lookup C.1 C.2.1 (am_decS hM h) hp ho ht (kk ls hL)) k
end AM3
