/-! An abstract machine over a world of numbered cells. A cell is an array of ints (kind 0: int[], 1: boolean[]), an array of references to objects of one class, or an object (its class's number, its fields). Cell 0 is the law's script; references are numbers of cells. -/
abbrev am_E : Type := (Nat × List Int32) ⊕ ((Nat × List Value) ⊕ (Nat × List Value))
abbrev am_W : Type := List am_E
abbrev am_L : Type := List (Option Value)
/-- an instruction, the place behind it, the place that a branch goes to -/
abbrev am_I : Type := Instr × Nat × Nat
/-- a method: (name, bytes, locals, answer), (its class's number, its rank in the order of calls, the number of its parameters, 0: of an object, 1: static, 2: a constructor), its instructions -/
abbrev am_M : Type := (MethodName × ByteArray × Nat × Option FieldType) × (Nat × Nat × Nat × Nat) × List (Nat × am_I)
def am_lk {α : Type} : List (Nat × α) → Nat → Option α
  | [], _ => none
  | q :: t, n => match Nat.beq q.1 n with
    | true => some q.2
    | false => am_lk t n
theorem am_lk_mem {α : Type} {t : List (Nat × α)} {n : Nat} {a : α} (h : am_lk t n = some a) : (n, a) ∈ t := by
  induction t with
  | nil => cases h
  | cons q t ih =>
    unfold am_lk at h
    split at h
    · rename_i hb
      have e := Nat.eq_of_beq_eq_true hb
      cases h
      rw [← e]
      exact List.mem_cons_self
    · exact List.mem_cons_of_mem _ (ih h)
def am_r2 {α : Type} (T : List (Nat × List (Nat × α))) (o i : Nat) : Option α := match am_lk T o with
  | some t => am_lk t i
  | none => none
theorem am_r2_mem {α : Type} {T : List (Nat × List (Nat × α))} {o i : Nat} {a : α} (h : am_r2 T o i = some a) : ∃ t, (o, t) ∈ T ∧ (i, a) ∈ t := by
  unfold am_r2 at h
  split at h
  · rename_i t ht
    exact ⟨t, am_lk_mem ht, am_lk_mem h⟩
  · cases h
def am_len : Instr → Nat
  | .bipush _ => 2
  | .sipush _ => 3
  | .ldc _ => 2
  | .iload _ => 2
  | .aload _ => 2
  | .istore _ => 2
  | .astore _ => 2
  | .iinc _ _ => 3
  | .ifCond _ _ => 3
  | .if_icmp _ _ => 3
  | .goto _ => 3
  | .getfield _ => 3
  | .putfield _ => 3
  | .new _ => 3
  | .newarray _ => 2
  | .anewarray _ => 3
  | .invokevirtual _ => 3
  | .invokespecial _ => 3
  | .invokestatic _ => 3
  | _ => 1
def am_sw : Instr → Bool
  | .tableswitch .. => true
  | .lookupswitch .. => true
  | _ => false
def am_off : Instr → Option Int
  | .ifCond _ o => some o
  | .if_icmp _ o => some o
  | .goto o => some o
  | _ => none
/-- a row of a method's table is what its bytes say -/
def am_tchk (b : ByteArray) (q : Nat × am_I) : Bool :=
  decide (decode b q.1 = .ok (q.2.1, q.2.2.1 - q.1)) && (am_sw q.2.1 || decide (q.2.2.1 = q.1 + am_len q.2.1)) && (match am_off q.2.1 with
    | some o => decide ((q.1 : Int) + o = (q.2.2.2 : Int))
    | none => true)
/-- the place in the heap of a cell: the script's is b, the others lie from B on -/
def am_ad (b B : Nat) : Nat → Nat
  | 0 => b
  | i + 1 => B + i
def am_v (b B : Nat) : Value → Value
  | .ref i => .ref (am_ad b B i)
  | v => v
def am_ty : Nat → FieldType
  | 0 => .int
  | _ => .boolean
theorem am_ad_inj {b B i j : Nat} (h : b < B) (e : am_ad b B i = am_ad b B j) : i = j := by
  cases i with
  | zero =>
    cases j with
    | zero => rfl
    | succ j => simp only [am_ad] at e; omega
  | succ i =>
    cases j with
    | zero => simp only [am_ad] at e; omega
    | succ j => simp only [am_ad] at e; omega
theorem am_v_cat (b B : Nat) (v : Value) : (am_v b B v).category = v.category := by
  cases v <;> rfl
def am_entry (args : List Value) (n : Nat) : am_L := args.map some ++ List.replicate (n - args.length) none
def am_get (lo : am_L) (i : Nat) : Option Value := match lo[i]? with
  | some (some v) => some v
  | _ => none
theorem am_get_of {lo : am_L} {i : Nat} {v : Value} (h : am_get lo i = some v) : lo[i]? = some (some v) := by
  unfold am_get at h
  split at h
  · rename_i u hu
    cases h
    exact hu
  · cases h
/-- the locals that are known, with their places in the heap's words -/
def am_pl (b B : Nat) (lo : am_L) : List (Nat × Value) := (List.range lo.length).filterMap fun j => (am_get lo j).map fun v => (j, am_v b B v)
theorem am_pl_mem {b B : Nat} {lo : am_L} {q : Nat × Value} : q ∈ am_pl b B lo ↔ ∃ v, lo[q.1]? = some (some v) ∧ q.2 = am_v b B v := by
  unfold am_pl
  rw [List.mem_filterMap]
  constructor
  · rintro ⟨j, -, h⟩
    cases hg : am_get lo j with
    | none => rw [hg] at h; cases h
    | some v =>
      rw [hg] at h
      cases h
      exact ⟨v, am_get_of hg, rfl⟩
  · rintro ⟨v, h1, h2⟩
    have hlt : q.1 < lo.length := (List.getElem?_eq_some_iff.mp h1).1
    refine ⟨q.1, List.mem_range.mpr hlt, ?_⟩
    have hg : am_get lo q.1 = some v := by
      unfold am_get
      rw [h1]
    rw [hg]
    simp only [Option.map_some]
    rw [← h2]
theorem lv_has_mono {ls : Array Slot} {n : Nat} {l l' : List (Nat × Value)} (h : lv_has ls n l) (hs : ∀ q ∈ l', q ∈ l) : lv_has ls n l' := ⟨h.1, h.2.1, fun q hq => h.2.2 q (hs q hq)⟩
/-- the locals: their number, and what is known of them -/
def am_Lo (b B : Nat) (ls : Array Slot) (n : Nat) (lo : am_L) : Prop := lo.length = n ∧ lv_has ls n (am_pl b B lo) ∧ ∀ (j : Nat) (u : Value), lo[j]? = some (some u) → u.category = 1
theorem am_Lo.at {b B : Nat} {ls : Array Slot} {n : Nat} {lo : am_L} (h : am_Lo b B ls n lo) {i : Nat} {v : Value} (hv : am_get lo i = some v) : ls[i]? = some (.val (am_v b B v)) :=
  h.2.1.2.2 (i, am_v b B v) (am_pl_mem.mpr ⟨v, am_get_of hv, rfl⟩)
theorem am_Lo.set {b B : Nat} {ls ls' : Array Slot} {n i : Nat} {lo : am_L} {v : Value} (hL : am_Lo b B ls n lo) (hv : v.category = 1) (h : lv_has ls' n ((i, am_v b B v) :: (am_pl b B lo).filter (fun q => !(q.1 == i) && !(q.1 + 1 == i && q.2.category == 2)))) : am_Lo b B ls' n (lo.set i (some v)) := by
  obtain ⟨hn, -, hc⟩ := hL
  refine ⟨by rw [List.length_set]; exact hn, lv_has_mono h fun q hq => ?_, fun j u hu => ?_⟩
  · obtain ⟨u, hu, hq2⟩ := am_pl_mem.mp hq
    rw [List.getElem?_set] at hu
    split at hu
    · rename_i hi
      split at hu
      · cases hu
        have : q = (i, am_v b B v) := Prod.ext hi.symm hq2
        rw [this]
        exact List.mem_cons_self
      · cases hu
    · rename_i hi
      refine List.mem_cons_of_mem _ (List.mem_filter.mpr ⟨am_pl_mem.mpr ⟨u, hu, hq2⟩, ?_⟩)
      have h2 : ¬ q.2.category = 2 := by
        rw [hq2, am_v_cat, hc _ _ hu]
        decide
      have h3 : ¬ q.1 = i := fun z => hi z.symm
      simp [h2, h3]
  · rw [List.getElem?_set] at hu
    split at hu
    · split at hu
      · cases hu
        exact hv
      · cases hu
    · exact hc j u hu
