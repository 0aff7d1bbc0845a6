/-! The links of the pools. -/
def am_tok (ty : FieldType) (c : Nat) : Prop := match c with
  | 0 => ty = .int
  | 1 => ty = .boolean
  | _ => (∃ n, ty = .object n) ∨ ∃ t, ty = .array t
/-- what a row of the fields' table says -/
def am_Fok (o i : Nat) (q : Nat × Nat × Nat) : Prop := ∃ (own C : String) (T : u_T) (N : Nat), am_CN[o]? = some own ∧ vwCl[q.1]? = some (C, T, N) ∧ q.2.1 < N ∧ ((Cond.fieldLink own i (T q.2.1).1 (T q.2.1).2.1 (T q.2.1).2.2.1 ∈ am_GW) ∨ ∃ host, Cond.fieldLinkNest own i (T q.2.1).1 (T q.2.1).2.1 (T q.2.1).2.2.1 host ∈ am_NW) ∧ (T q.2.1).2.2.2 = decide (3 ≤ q.2.2) ∧ (∃ ty, parseFieldDescriptor (T q.2.1).2.2.1 = some ty ∧ am_tok ty (q.2.2 % 3)) ∧ (q.2.2 = 5 → (T q.2.1).1 = own ∧ Cond.fieldLink own i (T q.2.1).1 (T q.2.1).2.1 (T q.2.1).2.2.1 ∈ am_GW)
set_option maxRecDepth 100000 in
theorem am_f0_10 : am_Fok 0 10 (0, 0, 5) := ⟨"FeedbackFlow", "FeedbackFlow", am_T0, 5, rfl, rfl, by decide, Or.inl (am_GW_in (List.mem_of_getElem? (i := 188) (by decide +kernel)) rfl), rfl, ⟨am_y0 0, by decide +kernel, Or.inl ⟨_, rfl⟩⟩, fun _ => ⟨rfl, am_GW_in (List.mem_of_getElem? (i := 188) (by decide +kernel)) rfl⟩⟩
set_option maxRecDepth 100000 in
theorem am_f0_16 : am_Fok 0 16 (0, 1, 1) := ⟨"FeedbackFlow", "FeedbackFlow", am_T0, 5, rfl, rfl, by decide, Or.inl (am_GW_in (List.mem_of_getElem? (i := 189) (by decide +kernel)) rfl), rfl, ⟨am_y0 1, by decide +kernel, rfl⟩, fun h => absurd h (by decide)⟩
set_option maxRecDepth 100000 in
theorem am_f0_24 : am_Fok 0 24 (1, 2, 0) := ⟨"FeedbackFlow", "FeedbackFlow$Graph", am_T1, 5, rfl, rfl, by decide, Or.inr ⟨"FeedbackFlow", am_NW_in (List.mem_of_getElem? (i := 173) (by decide +kernel)) rfl⟩, rfl, ⟨am_y1 2, by decide +kernel, rfl⟩, fun h => absurd h (by decide)⟩
set_option maxRecDepth 100000 in
theorem am_f0_39 : am_Fok 0 39 (1, 3, 0) := ⟨"FeedbackFlow", "FeedbackFlow$Graph", am_T1, 5, rfl, rfl, by decide, Or.inr ⟨"FeedbackFlow", am_NW_in (List.mem_of_getElem? (i := 175) (by decide +kernel)) rfl⟩, rfl, ⟨am_y1 3, by decide +kernel, rfl⟩, fun h => absurd h (by decide)⟩
set_option maxRecDepth 100000 in
theorem am_f0_53 : am_Fok 0 53 (1, 0, 8) := ⟨"FeedbackFlow", "FeedbackFlow$Graph", am_T1, 5, rfl, rfl, by decide, Or.inr ⟨"FeedbackFlow", am_NW_in (List.mem_of_getElem? (i := 169) (by decide +kernel)) rfl⟩, rfl, ⟨am_y1 0, by decide +kernel, Or.inr ⟨_, rfl⟩⟩, fun h => absurd h (by decide)⟩
set_option maxRecDepth 100000 in
theorem am_f0_57 : am_Fok 0 57 (2, 8, 1) := ⟨"FeedbackFlow", "FeedbackFlow$Vertex", am_T2, 12, rfl, rfl, by decide, Or.inr ⟨"FeedbackFlow", am_NW_in (List.mem_of_getElem? (i := 105) (by decide +kernel)) rfl⟩, rfl, ⟨am_y2 8, by decide +kernel, rfl⟩, fun h => absurd h (by decide)⟩
set_option maxRecDepth 100000 in
theorem am_f0_62 : am_Fok 0 62 (2, 5, 0) := ⟨"FeedbackFlow", "FeedbackFlow$Vertex", am_T2, 12, rfl, rfl, by decide, Or.inr ⟨"FeedbackFlow", am_NW_in (List.mem_of_getElem? (i := 98) (by decide +kernel)) rfl⟩, rfl, ⟨am_y2 5, by decide +kernel, rfl⟩, fun h => absurd h (by decide)⟩
set_option maxRecDepth 100000 in
theorem am_f0_68 : am_Fok 0 68 (2, 7, 0) := ⟨"FeedbackFlow", "FeedbackFlow$Vertex", am_T2, 12, rfl, rfl, by decide, Or.inr ⟨"FeedbackFlow", am_NW_in (List.mem_of_getElem? (i := 102) (by decide +kernel)) rfl⟩, rfl, ⟨am_y2 7, by decide +kernel, rfl⟩, fun h => absurd h (by decide)⟩
set_option maxRecDepth 100000 in
theorem am_f0_83 : am_Fok 0 83 (1, 1, 8) := ⟨"FeedbackFlow", "FeedbackFlow$Graph", am_T1, 5, rfl, rfl, by decide, Or.inr ⟨"FeedbackFlow", am_NW_in (List.mem_of_getElem? (i := 171) (by decide +kernel)) rfl⟩, rfl, ⟨am_y1 1, by decide +kernel, Or.inr ⟨_, rfl⟩⟩, fun h => absurd h (by decide)⟩
set_option maxRecDepth 100000 in
theorem am_f0_87 : am_Fok 0 87 (3, 2, 0) := ⟨"FeedbackFlow", "FeedbackFlow$Edge", am_T3, 5, rfl, rfl, by decide, Or.inr ⟨"FeedbackFlow", am_NW_in (List.mem_of_getElem? (i := 150) (by decide +kernel)) rfl⟩, rfl, ⟨am_y3 2, by decide +kernel, rfl⟩, fun h => absurd h (by decide)⟩
set_option maxRecDepth 100000 in
theorem am_f0_92 : am_Fok 0 92 (3, 1, 0) := ⟨"FeedbackFlow", "FeedbackFlow$Edge", am_T3, 5, rfl, rfl, by decide, Or.inr ⟨"FeedbackFlow", am_NW_in (List.mem_of_getElem? (i := 148) (by decide +kernel)) rfl⟩, rfl, ⟨am_y3 1, by decide +kernel, rfl⟩, fun h => absurd h (by decide)⟩
set_option maxRecDepth 100000 in
theorem am_f0_95 : am_Fok 0 95 (3, 3, 8) := ⟨"FeedbackFlow", "FeedbackFlow$Edge", am_T3, 5, rfl, rfl, by decide, Or.inr ⟨"FeedbackFlow", am_NW_in (List.mem_of_getElem? (i := 153) (by decide +kernel)) rfl⟩, rfl, ⟨am_y3 3, by decide +kernel, Or.inr ⟨_, rfl⟩⟩, fun h => absurd h (by decide)⟩
set_option maxRecDepth 100000 in
theorem am_f0_99 : am_Fok 0 99 (3, 4, 8) := ⟨"FeedbackFlow", "FeedbackFlow$Edge", am_T3, 5, rfl, rfl, by decide, Or.inr ⟨"FeedbackFlow", am_NW_in (List.mem_of_getElem? (i := 155) (by decide +kernel)) rfl⟩, rfl, ⟨am_y3 4, by decide +kernel, Or.inr ⟨_, rfl⟩⟩, fun h => absurd h (by decide)⟩
set_option maxRecDepth 100000 in
theorem am_f0_102 : am_Fok 0 102 (2, 0, 0) := ⟨"FeedbackFlow", "FeedbackFlow$Vertex", am_T2, 12, rfl, rfl, by decide, Or.inr ⟨"FeedbackFlow", am_NW_in (List.mem_of_getElem? (i := 91) (by decide +kernel)) rfl⟩, rfl, ⟨am_y2 0, by decide +kernel, rfl⟩, fun h => absurd h (by decide)⟩
set_option maxRecDepth 100000 in
theorem am_f0_105 : am_Fok 0 105 (2, 1, 0) := ⟨"FeedbackFlow", "FeedbackFlow$Vertex", am_T2, 12, rfl, rfl, by decide, Or.inr ⟨"FeedbackFlow", am_NW_in (List.mem_of_getElem? (i := 93) (by decide +kernel)) rfl⟩, rfl, ⟨am_y2 1, by decide +kernel, rfl⟩, fun h => absurd h (by decide)⟩
set_option maxRecDepth 100000 in
theorem am_f0_120 : am_Fok 0 120 (0, 2, 0) := ⟨"FeedbackFlow", "FeedbackFlow", am_T0, 5, rfl, rfl, by decide, Or.inl (am_GW_in (List.mem_of_getElem? (i := 190) (by decide +kernel)) rfl), rfl, ⟨am_y0 2, by decide +kernel, rfl⟩, fun h => absurd h (by decide)⟩
set_option maxRecDepth 100000 in
theorem am_f0_123 : am_Fok 0 123 (2, 6, 0) := ⟨"FeedbackFlow", "FeedbackFlow$Vertex", am_T2, 12, rfl, rfl, by decide, Or.inr ⟨"FeedbackFlow", am_NW_in (List.mem_of_getElem? (i := 101) (by decide +kernel)) rfl⟩, rfl, ⟨am_y2 6, by decide +kernel, rfl⟩, fun h => absurd h (by decide)⟩
set_option maxRecDepth 100000 in
theorem am_f0_126 : am_Fok 0 126 (2, 2, 0) := ⟨"FeedbackFlow", "FeedbackFlow$Vertex", am_T2, 12, rfl, rfl, by decide, Or.inr ⟨"FeedbackFlow", am_NW_in (List.mem_of_getElem? (i := 95) (by decide +kernel)) rfl⟩, rfl, ⟨am_y2 2, by decide +kernel, rfl⟩, fun h => absurd h (by decide)⟩
set_option maxRecDepth 100000 in
theorem am_f0_139 : am_Fok 0 139 (2, 9, 0) := ⟨"FeedbackFlow", "FeedbackFlow$Vertex", am_T2, 12, rfl, rfl, by decide, Or.inr ⟨"FeedbackFlow", am_NW_in (List.mem_of_getElem? (i := 108) (by decide +kernel)) rfl⟩, rfl, ⟨am_y2 9, by decide +kernel, rfl⟩, fun h => absurd h (by decide)⟩
set_option maxRecDepth 100000 in
theorem am_f0_148 : am_Fok 0 148 (2, 11, 8) := ⟨"FeedbackFlow", "FeedbackFlow$Vertex", am_T2, 12, rfl, rfl, by decide, Or.inr ⟨"FeedbackFlow", am_NW_in (List.mem_of_getElem? (i := 114) (by decide +kernel)) rfl⟩, rfl, ⟨am_y2 11, by decide +kernel, Or.inr ⟨_, rfl⟩⟩, fun h => absurd h (by decide)⟩
set_option maxRecDepth 100000 in
theorem am_f0_151 : am_Fok 0 151 (2, 10, 8) := ⟨"FeedbackFlow", "FeedbackFlow$Vertex", am_T2, 12, rfl, rfl, by decide, Or.inr ⟨"FeedbackFlow", am_NW_in (List.mem_of_getElem? (i := 111) (by decide +kernel)) rfl⟩, rfl, ⟨am_y2 10, by decide +kernel, Or.inr ⟨_, rfl⟩⟩, fun h => absurd h (by decide)⟩
set_option maxRecDepth 100000 in
theorem am_f0_162 : am_Fok 0 162 (0, 3, 0) := ⟨"FeedbackFlow", "FeedbackFlow", am_T0, 5, rfl, rfl, by decide, Or.inl (am_GW_in (List.mem_of_getElem? (i := 191) (by decide +kernel)) rfl), rfl, ⟨am_y0 3, by decide +kernel, rfl⟩, fun h => absurd h (by decide)⟩
set_option maxRecDepth 100000 in
theorem am_f0_172 : am_Fok 0 172 (0, 4, 0) := ⟨"FeedbackFlow", "FeedbackFlow", am_T0, 5, rfl, rfl, by decide, Or.inl (am_GW_in (List.mem_of_getElem? (i := 192) (by decide +kernel)) rfl), rfl, ⟨am_y0 4, by decide +kernel, rfl⟩, fun h => absurd h (by decide)⟩
set_option maxRecDepth 100000 in
theorem am_f1_11 : am_Fok 1 11 (1, 0, 5) := ⟨"FeedbackFlow$Graph", "FeedbackFlow$Graph", am_T1, 5, rfl, rfl, by decide, Or.inl (am_GW_in (List.mem_of_getElem? (i := 168) (by decide +kernel)) rfl), rfl, ⟨am_y1 0, by decide +kernel, Or.inr ⟨_, rfl⟩⟩, fun _ => ⟨rfl, am_GW_in (List.mem_of_getElem? (i := 168) (by decide +kernel)) rfl⟩⟩
set_option maxRecDepth 100000 in
theorem am_f1_19 : am_Fok 1 19 (1, 1, 5) := ⟨"FeedbackFlow$Graph", "FeedbackFlow$Graph", am_T1, 5, rfl, rfl, by decide, Or.inl (am_GW_in (List.mem_of_getElem? (i := 170) (by decide +kernel)) rfl), rfl, ⟨am_y1 1, by decide +kernel, Or.inr ⟨_, rfl⟩⟩, fun _ => ⟨rfl, am_GW_in (List.mem_of_getElem? (i := 170) (by decide +kernel)) rfl⟩⟩
set_option maxRecDepth 100000 in
theorem am_f1_23 : am_Fok 1 23 (1, 4, 5) := ⟨"FeedbackFlow$Graph", "FeedbackFlow$Graph", am_T1, 5, rfl, rfl, by decide, Or.inl (am_GW_in (List.mem_of_getElem? (i := 176) (by decide +kernel)) rfl), rfl, ⟨am_y1 4, by decide +kernel, Or.inr ⟨_, rfl⟩⟩, fun _ => ⟨rfl, am_GW_in (List.mem_of_getElem? (i := 176) (by decide +kernel)) rfl⟩⟩
set_option maxRecDepth 100000 in
theorem am_f1_29 : am_Fok 1 29 (1, 2, 0) := ⟨"FeedbackFlow$Graph", "FeedbackFlow$Graph", am_T1, 5, rfl, rfl, by decide, Or.inl (am_GW_in (List.mem_of_getElem? (i := 172) (by decide +kernel)) rfl), rfl, ⟨am_y1 2, by decide +kernel, rfl⟩, fun h => absurd h (by decide)⟩
set_option maxRecDepth 100000 in
theorem am_f1_33 : am_Fok 1 33 (1, 3, 0) := ⟨"FeedbackFlow$Graph", "FeedbackFlow$Graph", am_T1, 5, rfl, rfl, by decide, Or.inl (am_GW_in (List.mem_of_getElem? (i := 174) (by decide +kernel)) rfl), rfl, ⟨am_y1 3, by decide +kernel, rfl⟩, fun h => absurd h (by decide)⟩
set_option maxRecDepth 100000 in
theorem am_f1_40 : am_Fok 1 40 (2, 0, 0) := ⟨"FeedbackFlow$Graph", "FeedbackFlow$Vertex", am_T2, 12, rfl, rfl, by decide, Or.inr ⟨"FeedbackFlow", am_NW_in (List.mem_of_getElem? (i := 90) (by decide +kernel)) rfl⟩, rfl, ⟨am_y2 0, by decide +kernel, rfl⟩, fun h => absurd h (by decide)⟩
set_option maxRecDepth 100000 in
theorem am_f1_50 : am_Fok 1 50 (3, 0, 0) := ⟨"FeedbackFlow$Graph", "FeedbackFlow$Edge", am_T3, 5, rfl, rfl, by decide, Or.inr ⟨"FeedbackFlow", am_NW_in (List.mem_of_getElem? (i := 146) (by decide +kernel)) rfl⟩, rfl, ⟨am_y3 0, by decide +kernel, rfl⟩, fun h => absurd h (by decide)⟩
set_option maxRecDepth 100000 in
theorem am_f1_53 : am_Fok 1 53 (3, 1, 0) := ⟨"FeedbackFlow$Graph", "FeedbackFlow$Edge", am_T3, 5, rfl, rfl, by decide, Or.inr ⟨"FeedbackFlow", am_NW_in (List.mem_of_getElem? (i := 147) (by decide +kernel)) rfl⟩, rfl, ⟨am_y3 1, by decide +kernel, rfl⟩, fun h => absurd h (by decide)⟩
set_option maxRecDepth 100000 in
theorem am_f1_56 : am_Fok 1 56 (2, 5, 0) := ⟨"FeedbackFlow$Graph", "FeedbackFlow$Vertex", am_T2, 12, rfl, rfl, by decide, Or.inr ⟨"FeedbackFlow", am_NW_in (List.mem_of_getElem? (i := 100) (by decide +kernel)) rfl⟩, rfl, ⟨am_y2 5, by decide +kernel, rfl⟩, fun h => absurd h (by decide)⟩
set_option maxRecDepth 100000 in
theorem am_f1_63 : am_Fok 1 63 (3, 2, 0) := ⟨"FeedbackFlow$Graph", "FeedbackFlow$Edge", am_T3, 5, rfl, rfl, by decide, Or.inr ⟨"FeedbackFlow", am_NW_in (List.mem_of_getElem? (i := 151) (by decide +kernel)) rfl⟩, rfl, ⟨am_y3 2, by decide +kernel, rfl⟩, fun h => absurd h (by decide)⟩
set_option maxRecDepth 100000 in
theorem am_f1_66 : am_Fok 1 66 (2, 9, 0) := ⟨"FeedbackFlow$Graph", "FeedbackFlow$Vertex", am_T2, 12, rfl, rfl, by decide, Or.inr ⟨"FeedbackFlow", am_NW_in (List.mem_of_getElem? (i := 109) (by decide +kernel)) rfl⟩, rfl, ⟨am_y2 9, by decide +kernel, rfl⟩, fun h => absurd h (by decide)⟩
set_option maxRecDepth 100000 in
theorem am_f1_69 : am_Fok 1 69 (2, 10, 8) := ⟨"FeedbackFlow$Graph", "FeedbackFlow$Vertex", am_T2, 12, rfl, rfl, by decide, Or.inr ⟨"FeedbackFlow", am_NW_in (List.mem_of_getElem? (i := 112) (by decide +kernel)) rfl⟩, rfl, ⟨am_y2 10, by decide +kernel, Or.inr ⟨_, rfl⟩⟩, fun h => absurd h (by decide)⟩
set_option maxRecDepth 100000 in
theorem am_f1_80 : am_Fok 1 80 (2, 8, 1) := ⟨"FeedbackFlow$Graph", "FeedbackFlow$Vertex", am_T2, 12, rfl, rfl, by decide, Or.inr ⟨"FeedbackFlow", am_NW_in (List.mem_of_getElem? (i := 106) (by decide +kernel)) rfl⟩, rfl, ⟨am_y2 8, by decide +kernel, rfl⟩, fun h => absurd h (by decide)⟩
set_option maxRecDepth 100000 in
theorem am_f1_84 : am_Fok 1 84 (2, 7, 0) := ⟨"FeedbackFlow$Graph", "FeedbackFlow$Vertex", am_T2, 12, rfl, rfl, by decide, Or.inr ⟨"FeedbackFlow", am_NW_in (List.mem_of_getElem? (i := 103) (by decide +kernel)) rfl⟩, rfl, ⟨am_y2 7, by decide +kernel, rfl⟩, fun h => absurd h (by decide)⟩
set_option maxRecDepth 100000 in
theorem am_f1_100 : am_Fok 1 100 (3, 4, 8) := ⟨"FeedbackFlow$Graph", "FeedbackFlow$Edge", am_T3, 5, rfl, rfl, by decide, Or.inr ⟨"FeedbackFlow", am_NW_in (List.mem_of_getElem? (i := 156) (by decide +kernel)) rfl⟩, rfl, ⟨am_y3 4, by decide +kernel, Or.inr ⟨_, rfl⟩⟩, fun h => absurd h (by decide)⟩
set_option maxRecDepth 100000 in
theorem am_f2_9 : am_Fok 2 9 (2, 10, 5) := ⟨"FeedbackFlow$Vertex", "FeedbackFlow$Vertex", am_T2, 12, rfl, rfl, by decide, Or.inl (am_GW_in (List.mem_of_getElem? (i := 110) (by decide +kernel)) rfl), rfl, ⟨am_y2 10, by decide +kernel, Or.inr ⟨_, rfl⟩⟩, fun _ => ⟨rfl, am_GW_in (List.mem_of_getElem? (i := 110) (by decide +kernel)) rfl⟩⟩
set_option maxRecDepth 100000 in
theorem am_f2_15 : am_Fok 2 15 (2, 11, 5) := ⟨"FeedbackFlow$Vertex", "FeedbackFlow$Vertex", am_T2, 12, rfl, rfl, by decide, Or.inl (am_GW_in (List.mem_of_getElem? (i := 113) (by decide +kernel)) rfl), rfl, ⟨am_y2 11, by decide +kernel, Or.inr ⟨_, rfl⟩⟩, fun _ => ⟨rfl, am_GW_in (List.mem_of_getElem? (i := 113) (by decide +kernel)) rfl⟩⟩
set_option maxRecDepth 100000 in
theorem am_f2_18 : am_Fok 2 18 (2, 0, 0) := ⟨"FeedbackFlow$Vertex", "FeedbackFlow$Vertex", am_T2, 12, rfl, rfl, by decide, Or.inl (am_GW_in (List.mem_of_getElem? (i := 89) (by decide +kernel)) rfl), rfl, ⟨am_y2 0, by decide +kernel, rfl⟩, fun h => absurd h (by decide)⟩
set_option maxRecDepth 100000 in
theorem am_f2_22 : am_Fok 2 22 (2, 1, 0) := ⟨"FeedbackFlow$Vertex", "FeedbackFlow$Vertex", am_T2, 12, rfl, rfl, by decide, Or.inl (am_GW_in (List.mem_of_getElem? (i := 92) (by decide +kernel)) rfl), rfl, ⟨am_y2 1, by decide +kernel, rfl⟩, fun h => absurd h (by decide)⟩
set_option maxRecDepth 100000 in
theorem am_f2_25 : am_Fok 2 25 (2, 2, 0) := ⟨"FeedbackFlow$Vertex", "FeedbackFlow$Vertex", am_T2, 12, rfl, rfl, by decide, Or.inl (am_GW_in (List.mem_of_getElem? (i := 94) (by decide +kernel)) rfl), rfl, ⟨am_y2 2, by decide +kernel, rfl⟩, fun h => absurd h (by decide)⟩
set_option maxRecDepth 100000 in
theorem am_f2_34 : am_Fok 2 34 (2, 3, 0) := ⟨"FeedbackFlow$Vertex", "FeedbackFlow$Vertex", am_T2, 12, rfl, rfl, by decide, Or.inl (am_GW_in (List.mem_of_getElem? (i := 96) (by decide +kernel)) rfl), rfl, ⟨am_y2 3, by decide +kernel, rfl⟩, fun h => absurd h (by decide)⟩
set_option maxRecDepth 100000 in
theorem am_f2_40 : am_Fok 2 40 (2, 4, 0) := ⟨"FeedbackFlow$Vertex", "FeedbackFlow$Vertex", am_T2, 12, rfl, rfl, by decide, Or.inl (am_GW_in (List.mem_of_getElem? (i := 97) (by decide +kernel)) rfl), rfl, ⟨am_y2 4, by decide +kernel, rfl⟩, fun h => absurd h (by decide)⟩
set_option maxRecDepth 100000 in
theorem am_f2_43 : am_Fok 2 43 (2, 8, 1) := ⟨"FeedbackFlow$Vertex", "FeedbackFlow$Vertex", am_T2, 12, rfl, rfl, by decide, Or.inl (am_GW_in (List.mem_of_getElem? (i := 104) (by decide +kernel)) rfl), rfl, ⟨am_y2 8, by decide +kernel, rfl⟩, fun h => absurd h (by decide)⟩
set_option maxRecDepth 100000 in
theorem am_f2_47 : am_Fok 2 47 (2, 5, 0) := ⟨"FeedbackFlow$Vertex", "FeedbackFlow$Vertex", am_T2, 12, rfl, rfl, by decide, Or.inl (am_GW_in (List.mem_of_getElem? (i := 99) (by decide +kernel)) rfl), rfl, ⟨am_y2 5, by decide +kernel, rfl⟩, fun h => absurd h (by decide)⟩
set_option maxRecDepth 100000 in
theorem am_f2_50 : am_Fok 2 50 (2, 9, 0) := ⟨"FeedbackFlow$Vertex", "FeedbackFlow$Vertex", am_T2, 12, rfl, rfl, by decide, Or.inl (am_GW_in (List.mem_of_getElem? (i := 107) (by decide +kernel)) rfl), rfl, ⟨am_y2 9, by decide +kernel, rfl⟩, fun h => absurd h (by decide)⟩
set_option maxRecDepth 100000 in
theorem am_f3_9 : am_Fok 3 9 (3, 3, 5) := ⟨"FeedbackFlow$Edge", "FeedbackFlow$Edge", am_T3, 5, rfl, rfl, by decide, Or.inl (am_GW_in (List.mem_of_getElem? (i := 152) (by decide +kernel)) rfl), rfl, ⟨am_y3 3, by decide +kernel, Or.inr ⟨_, rfl⟩⟩, fun _ => ⟨rfl, am_GW_in (List.mem_of_getElem? (i := 152) (by decide +kernel)) rfl⟩⟩
set_option maxRecDepth 100000 in
theorem am_f3_15 : am_Fok 3 15 (3, 4, 5) := ⟨"FeedbackFlow$Edge", "FeedbackFlow$Edge", am_T3, 5, rfl, rfl, by decide, Or.inl (am_GW_in (List.mem_of_getElem? (i := 154) (by decide +kernel)) rfl), rfl, ⟨am_y3 4, by decide +kernel, Or.inr ⟨_, rfl⟩⟩, fun _ => ⟨rfl, am_GW_in (List.mem_of_getElem? (i := 154) (by decide +kernel)) rfl⟩⟩
set_option maxRecDepth 100000 in
theorem am_f3_18 : am_Fok 3 18 (3, 2, 0) := ⟨"FeedbackFlow$Edge", "FeedbackFlow$Edge", am_T3, 5, rfl, rfl, by decide, Or.inl (am_GW_in (List.mem_of_getElem? (i := 149) (by decide +kernel)) rfl), rfl, ⟨am_y3 2, by decide +kernel, rfl⟩, fun h => absurd h (by decide)⟩
set_option maxRecDepth 100000 in
theorem am_f4_7 : am_Fok 4 7 (4, 2, 5) := ⟨"FeedbackFlowModel", "FeedbackFlowModel", am_T4, 27, rfl, rfl, by decide, Or.inl (am_GW_in (List.mem_of_getElem? (i := 439) (by decide +kernel)) rfl), rfl, ⟨am_y4 2, by decide +kernel, Or.inr ⟨_, rfl⟩⟩, fun _ => ⟨rfl, am_GW_in (List.mem_of_getElem? (i := 439) (by decide +kernel)) rfl⟩⟩
set_option maxRecDepth 100000 in
theorem am_f4_13 : am_Fok 4 13 (4, 3, 5) := ⟨"FeedbackFlowModel", "FeedbackFlowModel", am_T4, 27, rfl, rfl, by decide, Or.inl (am_GW_in (List.mem_of_getElem? (i := 440) (by decide +kernel)) rfl), rfl, ⟨am_y4 3, by decide +kernel, Or.inr ⟨_, rfl⟩⟩, fun _ => ⟨rfl, am_GW_in (List.mem_of_getElem? (i := 440) (by decide +kernel)) rfl⟩⟩
set_option maxRecDepth 100000 in
theorem am_f4_16 : am_Fok 4 16 (4, 4, 5) := ⟨"FeedbackFlowModel", "FeedbackFlowModel", am_T4, 27, rfl, rfl, by decide, Or.inl (am_GW_in (List.mem_of_getElem? (i := 441) (by decide +kernel)) rfl), rfl, ⟨am_y4 4, by decide +kernel, Or.inr ⟨_, rfl⟩⟩, fun _ => ⟨rfl, am_GW_in (List.mem_of_getElem? (i := 441) (by decide +kernel)) rfl⟩⟩
set_option maxRecDepth 100000 in
theorem am_f4_19 : am_Fok 4 19 (4, 5, 5) := ⟨"FeedbackFlowModel", "FeedbackFlowModel", am_T4, 27, rfl, rfl, by decide, Or.inl (am_GW_in (List.mem_of_getElem? (i := 442) (by decide +kernel)) rfl), rfl, ⟨am_y4 5, by decide +kernel, Or.inr ⟨_, rfl⟩⟩, fun _ => ⟨rfl, am_GW_in (List.mem_of_getElem? (i := 442) (by decide +kernel)) rfl⟩⟩
set_option maxRecDepth 100000 in
theorem am_f4_22 : am_Fok 4 22 (4, 6, 5) := ⟨"FeedbackFlowModel", "FeedbackFlowModel", am_T4, 27, rfl, rfl, by decide, Or.inl (am_GW_in (List.mem_of_getElem? (i := 443) (by decide +kernel)) rfl), rfl, ⟨am_y4 6, by decide +kernel, Or.inr ⟨_, rfl⟩⟩, fun _ => ⟨rfl, am_GW_in (List.mem_of_getElem? (i := 443) (by decide +kernel)) rfl⟩⟩
set_option maxRecDepth 100000 in
theorem am_f4_26 : am_Fok 4 26 (4, 7, 5) := ⟨"FeedbackFlowModel", "FeedbackFlowModel", am_T4, 27, rfl, rfl, by decide, Or.inl (am_GW_in (List.mem_of_getElem? (i := 444) (by decide +kernel)) rfl), rfl, ⟨am_y4 7, by decide +kernel, Or.inr ⟨_, rfl⟩⟩, fun _ => ⟨rfl, am_GW_in (List.mem_of_getElem? (i := 444) (by decide +kernel)) rfl⟩⟩
set_option maxRecDepth 100000 in
theorem am_f4_29 : am_Fok 4 29 (4, 9, 5) := ⟨"FeedbackFlowModel", "FeedbackFlowModel", am_T4, 27, rfl, rfl, by decide, Or.inl (am_GW_in (List.mem_of_getElem? (i := 446) (by decide +kernel)) rfl), rfl, ⟨am_y4 9, by decide +kernel, Or.inr ⟨_, rfl⟩⟩, fun _ => ⟨rfl, am_GW_in (List.mem_of_getElem? (i := 446) (by decide +kernel)) rfl⟩⟩
set_option maxRecDepth 100000 in
theorem am_f4_32 : am_Fok 4 32 (4, 10, 5) := ⟨"FeedbackFlowModel", "FeedbackFlowModel", am_T4, 27, rfl, rfl, by decide, Or.inl (am_GW_in (List.mem_of_getElem? (i := 447) (by decide +kernel)) rfl), rfl, ⟨am_y4 10, by decide +kernel, Or.inr ⟨_, rfl⟩⟩, fun _ => ⟨rfl, am_GW_in (List.mem_of_getElem? (i := 447) (by decide +kernel)) rfl⟩⟩
set_option maxRecDepth 100000 in
theorem am_f4_35 : am_Fok 4 35 (4, 11, 5) := ⟨"FeedbackFlowModel", "FeedbackFlowModel", am_T4, 27, rfl, rfl, by decide, Or.inl (am_GW_in (List.mem_of_getElem? (i := 448) (by decide +kernel)) rfl), rfl, ⟨am_y4 11, by decide +kernel, Or.inr ⟨_, rfl⟩⟩, fun _ => ⟨rfl, am_GW_in (List.mem_of_getElem? (i := 448) (by decide +kernel)) rfl⟩⟩
set_option maxRecDepth 100000 in
theorem am_f4_38 : am_Fok 4 38 (4, 12, 5) := ⟨"FeedbackFlowModel", "FeedbackFlowModel", am_T4, 27, rfl, rfl, by decide, Or.inl (am_GW_in (List.mem_of_getElem? (i := 449) (by decide +kernel)) rfl), rfl, ⟨am_y4 12, by decide +kernel, Or.inr ⟨_, rfl⟩⟩, fun _ => ⟨rfl, am_GW_in (List.mem_of_getElem? (i := 449) (by decide +kernel)) rfl⟩⟩
set_option maxRecDepth 100000 in
theorem am_f4_41 : am_Fok 4 41 (4, 13, 5) := ⟨"FeedbackFlowModel", "FeedbackFlowModel", am_T4, 27, rfl, rfl, by decide, Or.inl (am_GW_in (List.mem_of_getElem? (i := 450) (by decide +kernel)) rfl), rfl, ⟨am_y4 13, by decide +kernel, Or.inr ⟨_, rfl⟩⟩, fun _ => ⟨rfl, am_GW_in (List.mem_of_getElem? (i := 450) (by decide +kernel)) rfl⟩⟩
set_option maxRecDepth 100000 in
theorem am_f4_44 : am_Fok 4 44 (4, 15, 5) := ⟨"FeedbackFlowModel", "FeedbackFlowModel", am_T4, 27, rfl, rfl, by decide, Or.inl (am_GW_in (List.mem_of_getElem? (i := 452) (by decide +kernel)) rfl), rfl, ⟨am_y4 15, by decide +kernel, Or.inr ⟨_, rfl⟩⟩, fun _ => ⟨rfl, am_GW_in (List.mem_of_getElem? (i := 452) (by decide +kernel)) rfl⟩⟩
set_option maxRecDepth 100000 in
theorem am_f4_47 : am_Fok 4 47 (4, 16, 5) := ⟨"FeedbackFlowModel", "FeedbackFlowModel", am_T4, 27, rfl, rfl, by decide, Or.inl (am_GW_in (List.mem_of_getElem? (i := 453) (by decide +kernel)) rfl), rfl, ⟨am_y4 16, by decide +kernel, Or.inr ⟨_, rfl⟩⟩, fun _ => ⟨rfl, am_GW_in (List.mem_of_getElem? (i := 453) (by decide +kernel)) rfl⟩⟩
set_option maxRecDepth 100000 in
theorem am_f4_50 : am_Fok 4 50 (4, 17, 5) := ⟨"FeedbackFlowModel", "FeedbackFlowModel", am_T4, 27, rfl, rfl, by decide, Or.inl (am_GW_in (List.mem_of_getElem? (i := 454) (by decide +kernel)) rfl), rfl, ⟨am_y4 17, by decide +kernel, Or.inr ⟨_, rfl⟩⟩, fun _ => ⟨rfl, am_GW_in (List.mem_of_getElem? (i := 454) (by decide +kernel)) rfl⟩⟩
set_option maxRecDepth 100000 in
theorem am_f4_53 : am_Fok 4 53 (4, 24, 5) := ⟨"FeedbackFlowModel", "FeedbackFlowModel", am_T4, 27, rfl, rfl, by decide, Or.inl (am_GW_in (List.mem_of_getElem? (i := 461) (by decide +kernel)) rfl), rfl, ⟨am_y4 24, by decide +kernel, Or.inr ⟨_, rfl⟩⟩, fun _ => ⟨rfl, am_GW_in (List.mem_of_getElem? (i := 461) (by decide +kernel)) rfl⟩⟩
set_option maxRecDepth 100000 in
theorem am_f4_56 : am_Fok 4 56 (4, 25, 5) := ⟨"FeedbackFlowModel", "FeedbackFlowModel", am_T4, 27, rfl, rfl, by decide, Or.inl (am_GW_in (List.mem_of_getElem? (i := 462) (by decide +kernel)) rfl), rfl, ⟨am_y4 25, by decide +kernel, Or.inr ⟨_, rfl⟩⟩, fun _ => ⟨rfl, am_GW_in (List.mem_of_getElem? (i := 462) (by decide +kernel)) rfl⟩⟩
set_option maxRecDepth 100000 in
theorem am_f4_59 : am_Fok 4 59 (4, 26, 5) := ⟨"FeedbackFlowModel", "FeedbackFlowModel", am_T4, 27, rfl, rfl, by decide, Or.inl (am_GW_in (List.mem_of_getElem? (i := 463) (by decide +kernel)) rfl), rfl, ⟨am_y4 26, by decide +kernel, Or.inr ⟨_, rfl⟩⟩, fun _ => ⟨rfl, am_GW_in (List.mem_of_getElem? (i := 463) (by decide +kernel)) rfl⟩⟩
set_option maxRecDepth 100000 in
theorem am_f4_62 : am_Fok 4 62 (4, 1, 0) := ⟨"FeedbackFlowModel", "FeedbackFlowModel", am_T4, 27, rfl, rfl, by decide, Or.inl (am_GW_in (List.mem_of_getElem? (i := 438) (by decide +kernel)) rfl), rfl, ⟨am_y4 1, by decide +kernel, rfl⟩, fun h => absurd h (by decide)⟩
set_option maxRecDepth 100000 in
theorem am_f4_66 : am_Fok 4 66 (4, 8, 0) := ⟨"FeedbackFlowModel", "FeedbackFlowModel", am_T4, 27, rfl, rfl, by decide, Or.inl (am_GW_in (List.mem_of_getElem? (i := 445) (by decide +kernel)) rfl), rfl, ⟨am_y4 8, by decide +kernel, rfl⟩, fun h => absurd h (by decide)⟩
set_option maxRecDepth 100000 in
theorem am_f4_69 : am_Fok 4 69 (4, 0, 1) := ⟨"FeedbackFlowModel", "FeedbackFlowModel", am_T4, 27, rfl, rfl, by decide, Or.inl (am_GW_in (List.mem_of_getElem? (i := 437) (by decide +kernel)) rfl), rfl, ⟨am_y4 0, by decide +kernel, rfl⟩, fun h => absurd h (by decide)⟩
set_option maxRecDepth 100000 in
theorem am_f4_91 : am_Fok 4 91 (4, 21, 0) := ⟨"FeedbackFlowModel", "FeedbackFlowModel", am_T4, 27, rfl, rfl, by decide, Or.inl (am_GW_in (List.mem_of_getElem? (i := 458) (by decide +kernel)) rfl), rfl, ⟨am_y4 21, by decide +kernel, rfl⟩, fun h => absurd h (by decide)⟩
set_option maxRecDepth 100000 in
theorem am_f4_94 : am_Fok 4 94 (4, 22, 0) := ⟨"FeedbackFlowModel", "FeedbackFlowModel", am_T4, 27, rfl, rfl, by decide, Or.inl (am_GW_in (List.mem_of_getElem? (i := 459) (by decide +kernel)) rfl), rfl, ⟨am_y4 22, by decide +kernel, rfl⟩, fun h => absurd h (by decide)⟩
set_option maxRecDepth 100000 in
theorem am_f4_97 : am_Fok 4 97 (4, 23, 0) := ⟨"FeedbackFlowModel", "FeedbackFlowModel", am_T4, 27, rfl, rfl, by decide, Or.inl (am_GW_in (List.mem_of_getElem? (i := 460) (by decide +kernel)) rfl), rfl, ⟨am_y4 23, by decide +kernel, rfl⟩, fun h => absurd h (by decide)⟩
set_option maxRecDepth 100000 in
theorem am_f4_100 : am_Fok 4 100 (4, 20, 0) := ⟨"FeedbackFlowModel", "FeedbackFlowModel", am_T4, 27, rfl, rfl, by decide, Or.inl (am_GW_in (List.mem_of_getElem? (i := 457) (by decide +kernel)) rfl), rfl, ⟨am_y4 20, by decide +kernel, rfl⟩, fun h => absurd h (by decide)⟩
set_option maxRecDepth 100000 in
theorem am_f4_116 : am_Fok 4 116 (4, 14, 0) := ⟨"FeedbackFlowModel", "FeedbackFlowModel", am_T4, 27, rfl, rfl, by decide, Or.inl (am_GW_in (List.mem_of_getElem? (i := 451) (by decide +kernel)) rfl), rfl, ⟨am_y4 14, by decide +kernel, rfl⟩, fun h => absurd h (by decide)⟩
set_option maxRecDepth 100000 in
theorem am_f4_149 : am_Fok 4 149 (4, 18, 0) := ⟨"FeedbackFlowModel", "FeedbackFlowModel", am_T4, 27, rfl, rfl, by decide, Or.inl (am_GW_in (List.mem_of_getElem? (i := 455) (by decide +kernel)) rfl), rfl, ⟨am_y4 18, by decide +kernel, rfl⟩, fun h => absurd h (by decide)⟩
set_option maxRecDepth 100000 in
theorem am_f4_177 : am_Fok 4 177 (4, 19, 0) := ⟨"FeedbackFlowModel", "FeedbackFlowModel", am_T4, 27, rfl, rfl, by decide, Or.inl (am_GW_in (List.mem_of_getElem? (i := 456) (by decide +kernel)) rfl), rfl, ⟨am_y4 19, by decide +kernel, rfl⟩, fun h => absurd h (by decide)⟩
set_option maxRecDepth 100000 in
theorem am_fR_all : ∀ q ∈ am_fR, ∀ x ∈ q.2, am_Fok q.1 x.1 x.2 := by
  unfold am_fR
  exact List.forall_mem_cons.mpr ⟨(List.forall_mem_cons.mpr ⟨am_f0_10, List.forall_mem_cons.mpr ⟨am_f0_16, List.forall_mem_cons.mpr ⟨am_f0_24, List.forall_mem_cons.mpr ⟨am_f0_39, List.forall_mem_cons.mpr ⟨am_f0_53, List.forall_mem_cons.mpr ⟨am_f0_57, List.forall_mem_cons.mpr ⟨am_f0_62, List.forall_mem_cons.mpr ⟨am_f0_68, List.forall_mem_cons.mpr ⟨am_f0_83, List.forall_mem_cons.mpr ⟨am_f0_87, List.forall_mem_cons.mpr ⟨am_f0_92, List.forall_mem_cons.mpr ⟨am_f0_95, List.forall_mem_cons.mpr ⟨am_f0_99, List.forall_mem_cons.mpr ⟨am_f0_102, List.forall_mem_cons.mpr ⟨am_f0_105, List.forall_mem_cons.mpr ⟨am_f0_120, List.forall_mem_cons.mpr ⟨am_f0_123, List.forall_mem_cons.mpr ⟨am_f0_126, List.forall_mem_cons.mpr ⟨am_f0_139, List.forall_mem_cons.mpr ⟨am_f0_148, List.forall_mem_cons.mpr ⟨am_f0_151, List.forall_mem_cons.mpr ⟨am_f0_162, List.forall_mem_cons.mpr ⟨am_f0_172, fun _ h => absurd h List.not_mem_nil⟩⟩⟩⟩⟩⟩⟩⟩⟩⟩⟩⟩⟩⟩⟩⟩⟩⟩⟩⟩⟩⟩⟩), List.forall_mem_cons.mpr ⟨(List.forall_mem_cons.mpr ⟨am_f1_11, List.forall_mem_cons.mpr ⟨am_f1_19, List.forall_mem_cons.mpr ⟨am_f1_23, List.forall_mem_cons.mpr ⟨am_f1_29, List.forall_mem_cons.mpr ⟨am_f1_33, List.forall_mem_cons.mpr ⟨am_f1_40, List.forall_mem_cons.mpr ⟨am_f1_50, List.forall_mem_cons.mpr ⟨am_f1_53, List.forall_mem_cons.mpr ⟨am_f1_56, List.forall_mem_cons.mpr ⟨am_f1_63, List.forall_mem_cons.mpr ⟨am_f1_66, List.forall_mem_cons.mpr ⟨am_f1_69, List.forall_mem_cons.mpr ⟨am_f1_80, List.forall_mem_cons.mpr ⟨am_f1_84, List.forall_mem_cons.mpr ⟨am_f1_100, fun _ h => absurd h List.not_mem_nil⟩⟩⟩⟩⟩⟩⟩⟩⟩⟩⟩⟩⟩⟩⟩), List.forall_mem_cons.mpr ⟨(List.forall_mem_cons.mpr ⟨am_f2_9, List.forall_mem_cons.mpr ⟨am_f2_15, List.forall_mem_cons.mpr ⟨am_f2_18, List.forall_mem_cons.mpr ⟨am_f2_22, List.forall_mem_cons.mpr ⟨am_f2_25, List.forall_mem_cons.mpr ⟨am_f2_34, List.forall_mem_cons.mpr ⟨am_f2_40, List.forall_mem_cons.mpr ⟨am_f2_43, List.forall_mem_cons.mpr ⟨am_f2_47, List.forall_mem_cons.mpr ⟨am_f2_50, fun _ h => absurd h List.not_mem_nil⟩⟩⟩⟩⟩⟩⟩⟩⟩⟩), List.forall_mem_cons.mpr ⟨(List.forall_mem_cons.mpr ⟨am_f3_9, List.forall_mem_cons.mpr ⟨am_f3_15, List.forall_mem_cons.mpr ⟨am_f3_18, fun _ h => absurd h List.not_mem_nil⟩⟩⟩), List.forall_mem_cons.mpr ⟨(List.forall_mem_cons.mpr ⟨am_f4_7, List.forall_mem_cons.mpr ⟨am_f4_13, List.forall_mem_cons.mpr ⟨am_f4_16, List.forall_mem_cons.mpr ⟨am_f4_19, List.forall_mem_cons.mpr ⟨am_f4_22, List.forall_mem_cons.mpr ⟨am_f4_26, List.forall_mem_cons.mpr ⟨am_f4_29, List.forall_mem_cons.mpr ⟨am_f4_32, List.forall_mem_cons.mpr ⟨am_f4_35, List.forall_mem_cons.mpr ⟨am_f4_38, List.forall_mem_cons.mpr ⟨am_f4_41, List.forall_mem_cons.mpr ⟨am_f4_44, List.forall_mem_cons.mpr ⟨am_f4_47, List.forall_mem_cons.mpr ⟨am_f4_50, List.forall_mem_cons.mpr ⟨am_f4_53, List.forall_mem_cons.mpr ⟨am_f4_56, List.forall_mem_cons.mpr ⟨am_f4_59, List.forall_mem_cons.mpr ⟨am_f4_62, List.forall_mem_cons.mpr ⟨am_f4_66, List.forall_mem_cons.mpr ⟨am_f4_69, List.forall_mem_cons.mpr ⟨am_f4_91, List.forall_mem_cons.mpr ⟨am_f4_94, List.forall_mem_cons.mpr ⟨am_f4_97, List.forall_mem_cons.mpr ⟨am_f4_100, List.forall_mem_cons.mpr ⟨am_f4_116, List.forall_mem_cons.mpr ⟨am_f4_149, List.forall_mem_cons.mpr ⟨am_f4_177, fun _ h => absurd h List.not_mem_nil⟩⟩⟩⟩⟩⟩⟩⟩⟩⟩⟩⟩⟩⟩⟩⟩⟩⟩⟩⟩⟩⟩⟩⟩⟩⟩⟩), fun _ h => absurd h List.not_mem_nil⟩⟩⟩⟩⟩
def am_Lok (o i mi : Nat) : Prop := ∃ (own : String) (M : am_M), am_CN[o]? = some own ∧ am_MT[mi]? = some M ∧ mi < 104 ∧ ((Cond.methodLink own i M.1.1 ∈ am_GW) ∨ ∃ host, Cond.methodLinkNest own i M.1.1 host ∈ am_NW)
set_option maxRecDepth 100000 in
theorem am_l0_9 : am_Lok 0 9 20 := ⟨"FeedbackFlow", am_m20, rfl, rfl, by decide, Or.inr ⟨"FeedbackFlow", am_NW_in (List.mem_of_getElem? (i := 76) (by decide +kernel)) rfl⟩⟩
set_option maxRecDepth 100000 in
theorem am_l0_20 : am_Lok 0 20 17 := ⟨"FeedbackFlow", am_m17, rfl, rfl, by decide, Or.inl (am_GW_in (List.mem_of_getElem? (i := 208) (by decide +kernel)) rfl)⟩
set_option maxRecDepth 100000 in
theorem am_l0_28 : am_Lok 0 28 23 := ⟨"FeedbackFlow", am_m23, rfl, rfl, by decide, Or.inr ⟨"FeedbackFlow", am_NW_in (List.mem_of_getElem? (i := 211) (by decide +kernel)) rfl⟩⟩
set_option maxRecDepth 100000 in
theorem am_l0_32 : am_Lok 0 32 21 := ⟨"FeedbackFlow", am_m21, rfl, rfl, by decide, Or.inr ⟨"FeedbackFlow", am_NW_in (List.mem_of_getElem? (i := 229) (by decide +kernel)) rfl⟩⟩
set_option maxRecDepth 100000 in
theorem am_l0_36 : am_Lok 0 36 24 := ⟨"FeedbackFlow", am_m24, rfl, rfl, by decide, Or.inr ⟨"FeedbackFlow", am_NW_in (List.mem_of_getElem? (i := 233) (by decide +kernel)) rfl⟩⟩
set_option maxRecDepth 100000 in
theorem am_l0_42 : am_Lok 0 42 25 := ⟨"FeedbackFlow", am_m25, rfl, rfl, by decide, Or.inr ⟨"FeedbackFlow", am_NW_in (List.mem_of_getElem? (i := 245) (by decide +kernel)) rfl⟩⟩
set_option maxRecDepth 100000 in
theorem am_l0_46 : am_Lok 0 46 26 := ⟨"FeedbackFlow", am_m26, rfl, rfl, by decide, Or.inr ⟨"FeedbackFlow", am_NW_in (List.mem_of_getElem? (i := 253) (by decide +kernel)) rfl⟩⟩
set_option maxRecDepth 100000 in
theorem am_l0_50 : am_Lok 0 50 18 := ⟨"FeedbackFlow", am_m18, rfl, rfl, by decide, Or.inl (am_GW_in (List.mem_of_getElem? (i := 265) (by decide +kernel)) rfl)⟩
set_option maxRecDepth 100000 in
theorem am_l0_65 : am_Lok 0 65 28 := ⟨"FeedbackFlow", am_m28, rfl, rfl, by decide, Or.inr ⟨"FeedbackFlow", am_NW_in (List.mem_of_getElem? (i := 269) (by decide +kernel)) rfl⟩⟩
set_option maxRecDepth 100000 in
theorem am_l0_71 : am_Lok 0 71 97 := ⟨"FeedbackFlow", am_m97, rfl, rfl, by decide, Or.inr ⟨"FeedbackFlow", am_NW_in (List.mem_of_getElem? (i := 273) (by decide +kernel)) rfl⟩⟩
set_option maxRecDepth 100000 in
theorem am_l0_77 : am_Lok 0 77 19 := ⟨"FeedbackFlow", am_m19, rfl, rfl, by decide, Or.inl (am_GW_in (List.mem_of_getElem? (i := 276) (by decide +kernel)) rfl)⟩
set_option maxRecDepth 100000 in
theorem am_l0_80 : am_Lok 0 80 22 := ⟨"FeedbackFlow", am_m22, rfl, rfl, by decide, Or.inr ⟨"FeedbackFlow", am_NW_in (List.mem_of_getElem? (i := 296) (by decide +kernel)) rfl⟩⟩
set_option maxRecDepth 100000 in
theorem am_l0_108 : am_Lok 0 108 101 := ⟨"FeedbackFlow", am_m101, rfl, rfl, by decide, Or.inr ⟨"FeedbackFlow", am_NW_in (List.mem_of_getElem? (i := 300) (by decide +kernel)) rfl⟩⟩
set_option maxRecDepth 100000 in
theorem am_l0_111 : am_Lok 0 111 42 := ⟨"FeedbackFlow", am_m42, rfl, rfl, by decide, Or.inr ⟨"FeedbackFlow", am_NW_in (List.mem_of_getElem? (i := 306) (by decide +kernel)) rfl⟩⟩
set_option maxRecDepth 100000 in
theorem am_l0_114 : am_Lok 0 114 44 := ⟨"FeedbackFlow", am_m44, rfl, rfl, by decide, Or.inr ⟨"FeedbackFlow", am_NW_in (List.mem_of_getElem? (i := 310) (by decide +kernel)) rfl⟩⟩
set_option maxRecDepth 100000 in
theorem am_l0_117 : am_Lok 0 117 51 := ⟨"FeedbackFlow", am_m51, rfl, rfl, by decide, Or.inr ⟨"FeedbackFlow", am_NW_in (List.mem_of_getElem? (i := 318) (by decide +kernel)) rfl⟩⟩
set_option maxRecDepth 100000 in
theorem am_l0_129 : am_Lok 0 129 46 := ⟨"FeedbackFlow", am_m46, rfl, rfl, by decide, Or.inr ⟨"FeedbackFlow", am_NW_in (List.mem_of_getElem? (i := 322) (by decide +kernel)) rfl⟩⟩
set_option maxRecDepth 100000 in
theorem am_l0_133 : am_Lok 0 133 43 := ⟨"FeedbackFlow", am_m43, rfl, rfl, by decide, Or.inr ⟨"FeedbackFlow", am_NW_in (List.mem_of_getElem? (i := 330) (by decide +kernel)) rfl⟩⟩
set_option maxRecDepth 100000 in
theorem am_l0_136 : am_Lok 0 136 41 := ⟨"FeedbackFlow", am_m41, rfl, rfl, by decide, Or.inr ⟨"FeedbackFlow", am_NW_in (List.mem_of_getElem? (i := 334) (by decide +kernel)) rfl⟩⟩
set_option maxRecDepth 100000 in
theorem am_l0_142 : am_Lok 0 142 29 := ⟨"FeedbackFlow", am_m29, rfl, rfl, by decide, Or.inr ⟨"FeedbackFlow", am_NW_in (List.mem_of_getElem? (i := 346) (by decide +kernel)) rfl⟩⟩
set_option maxRecDepth 100000 in
theorem am_l0_145 : am_Lok 0 145 30 := ⟨"FeedbackFlow", am_m30, rfl, rfl, by decide, Or.inr ⟨"FeedbackFlow", am_NW_in (List.mem_of_getElem? (i := 350) (by decide +kernel)) rfl⟩⟩
set_option maxRecDepth 100000 in
theorem am_l0_152 : am_Lok 0 152 100 := ⟨"FeedbackFlow", am_m100, rfl, rfl, by decide, Or.inr ⟨"FeedbackFlow", am_NW_in (List.mem_of_getElem? (i := 354) (by decide +kernel)) rfl⟩⟩
set_option maxRecDepth 100000 in
theorem am_l0_155 : am_Lok 0 155 31 := ⟨"FeedbackFlow", am_m31, rfl, rfl, by decide, Or.inr ⟨"FeedbackFlow", am_NW_in (List.mem_of_getElem? (i := 359) (by decide +kernel)) rfl⟩⟩
set_option maxRecDepth 100000 in
theorem am_l0_158 : am_Lok 0 158 48 := ⟨"FeedbackFlow", am_m48, rfl, rfl, by decide, Or.inr ⟨"FeedbackFlow", am_NW_in (List.mem_of_getElem? (i := 401) (by decide +kernel)) rfl⟩⟩
set_option maxRecDepth 100000 in
theorem am_l0_165 : am_Lok 0 165 8 := ⟨"FeedbackFlow", am_m8, rfl, rfl, by decide, Or.inl (am_GW_in (List.mem_of_getElem? (i := 421) (by decide +kernel)) rfl)⟩
set_option maxRecDepth 100000 in
theorem am_l0_169 : am_Lok 0 169 53 := ⟨"FeedbackFlow", am_m53, rfl, rfl, by decide, Or.inr ⟨"FeedbackFlow", am_NW_in (List.mem_of_getElem? (i := 422) (by decide +kernel)) rfl⟩⟩
set_option maxRecDepth 100000 in
theorem am_l0_175 : am_Lok 0 175 50 := ⟨"FeedbackFlow", am_m50, rfl, rfl, by decide, Or.inr ⟨"FeedbackFlow", am_NW_in (List.mem_of_getElem? (i := 280) (by decide +kernel)) rfl⟩⟩
set_option maxRecDepth 100000 in
theorem am_l1_27 : am_Lok 1 27 37 := ⟨"FeedbackFlow$Graph", am_m37, rfl, rfl, by decide, Or.inr ⟨"FeedbackFlow", am_NW_in (List.mem_of_getElem? (i := 85) (by decide +kernel)) rfl⟩⟩
set_option maxRecDepth 100000 in
theorem am_l1_28 : am_Lok 1 28 49 := ⟨"FeedbackFlow$Graph", am_m49, rfl, rfl, by decide, Or.inr ⟨"FeedbackFlow", am_NW_in (List.mem_of_getElem? (i := 142) (by decide +kernel)) rfl⟩⟩
set_option maxRecDepth 100000 in
theorem am_l1_36 : am_Lok 1 36 38 := ⟨"FeedbackFlow$Graph", am_m38, rfl, rfl, by decide, Or.inr ⟨"FeedbackFlow", am_NW_in (List.mem_of_getElem? (i := 215) (by decide +kernel)) rfl⟩⟩
set_option maxRecDepth 100000 in
theorem am_l1_43 : am_Lok 1 43 39 := ⟨"FeedbackFlow$Graph", am_m39, rfl, rfl, by decide, Or.inr ⟨"FeedbackFlow", am_NW_in (List.mem_of_getElem? (i := 237) (by decide +kernel)) rfl⟩⟩
set_option maxRecDepth 100000 in
theorem am_l1_47 : am_Lok 1 47 40 := ⟨"FeedbackFlow$Graph", am_m40, rfl, rfl, by decide, Or.inr ⟨"FeedbackFlow", am_NW_in (List.mem_of_getElem? (i := 241) (by decide +kernel)) rfl⟩⟩
set_option maxRecDepth 100000 in
theorem am_l1_59 : am_Lok 1 59 27 := ⟨"FeedbackFlow$Graph", am_m27, rfl, rfl, by decide, Or.inl (am_GW_in (List.mem_of_getElem? (i := 257) (by decide +kernel)) rfl)⟩
set_option maxRecDepth 100000 in
theorem am_l1_72 : am_Lok 1 72 32 := ⟨"FeedbackFlow$Graph", am_m32, rfl, rfl, by decide, Or.inl (am_GW_in (List.mem_of_getElem? (i := 363) (by decide +kernel)) rfl)⟩
set_option maxRecDepth 100000 in
theorem am_l1_76 : am_Lok 1 76 33 := ⟨"FeedbackFlow$Graph", am_m33, rfl, rfl, by decide, Or.inl (am_GW_in (List.mem_of_getElem? (i := 392) (by decide +kernel)) rfl)⟩
set_option maxRecDepth 100000 in
theorem am_l1_87 : am_Lok 1 87 97 := ⟨"FeedbackFlow$Graph", am_m97, rfl, rfl, by decide, Or.inr ⟨"FeedbackFlow", am_NW_in (List.mem_of_getElem? (i := 396) (by decide +kernel)) rfl⟩⟩
set_option maxRecDepth 100000 in
theorem am_l1_92 : am_Lok 1 92 34 := ⟨"FeedbackFlow$Graph", am_m34, rfl, rfl, by decide, Or.inl (am_GW_in (List.mem_of_getElem? (i := 371) (by decide +kernel)) rfl)⟩
set_option maxRecDepth 100000 in
theorem am_l1_96 : am_Lok 1 96 52 := ⟨"FeedbackFlow$Graph", am_m52, rfl, rfl, by decide, Or.inr ⟨"FeedbackFlow", am_NW_in (List.mem_of_getElem? (i := 367) (by decide +kernel)) rfl⟩⟩
set_option maxRecDepth 100000 in
theorem am_l1_101 : am_Lok 1 101 98 := ⟨"FeedbackFlow$Graph", am_m98, rfl, rfl, by decide, Or.inr ⟨"FeedbackFlow", am_NW_in (List.mem_of_getElem? (i := 375) (by decide +kernel)) rfl⟩⟩
set_option maxRecDepth 100000 in
theorem am_l1_104 : am_Lok 1 104 99 := ⟨"FeedbackFlow$Graph", am_m99, rfl, rfl, by decide, Or.inr ⟨"FeedbackFlow", am_NW_in (List.mem_of_getElem? (i := 378) (by decide +kernel)) rfl⟩⟩
set_option maxRecDepth 100000 in
theorem am_l1_107 : am_Lok 1 107 35 := ⟨"FeedbackFlow$Graph", am_m35, rfl, rfl, by decide, Or.inl (am_GW_in (List.mem_of_getElem? (i := 382) (by decide +kernel)) rfl)⟩
set_option maxRecDepth 100000 in
theorem am_l1_112 : am_Lok 1 112 36 := ⟨"FeedbackFlow$Graph", am_m36, rfl, rfl, by decide, Or.inl (am_GW_in (List.mem_of_getElem? (i := 387) (by decide +kernel)) rfl)⟩
set_option maxRecDepth 100000 in
theorem am_l1_116 : am_Lok 1 116 41 := ⟨"FeedbackFlow$Graph", am_m41, rfl, rfl, by decide, Or.inr ⟨"FeedbackFlow", am_NW_in (List.mem_of_getElem? (i := 391) (by decide +kernel)) rfl⟩⟩
set_option maxRecDepth 100000 in
theorem am_l2_28 : am_Lok 2 28 103 := ⟨"FeedbackFlow$Vertex", am_m103, rfl, rfl, by decide, Or.inr ⟨"FeedbackFlow", am_NW_in (List.mem_of_getElem? (i := 219) (by decide +kernel)) rfl⟩⟩
set_option maxRecDepth 100000 in
theorem am_l2_37 : am_Lok 2 37 102 := ⟨"FeedbackFlow$Vertex", am_m102, rfl, rfl, by decide, Or.inr ⟨"FeedbackFlow", am_NW_in (List.mem_of_getElem? (i := 222) (by decide +kernel)) rfl⟩⟩
set_option maxRecDepth 100000 in
theorem am_l2_53 : am_Lok 2 53 45 := ⟨"FeedbackFlow$Vertex", am_m45, rfl, rfl, by decide, Or.inl (am_GW_in (List.mem_of_getElem? (i := 314) (by decide +kernel)) rfl)⟩
set_option maxRecDepth 100000 in
theorem am_l2_56 : am_Lok 2 56 47 := ⟨"FeedbackFlow$Vertex", am_m47, rfl, rfl, by decide, Or.inl (am_GW_in (List.mem_of_getElem? (i := 326) (by decide +kernel)) rfl)⟩
set_option maxRecDepth 100000 in
theorem am_l3_22 : am_Lok 3 22 52 := ⟨"FeedbackFlow$Edge", am_m52, rfl, rfl, by decide, Or.inl (am_GW_in (List.mem_of_getElem? (i := 426) (by decide +kernel)) rfl)⟩
set_option maxRecDepth 100000 in
theorem am_l4_73 : am_Lok 4 73 55 := ⟨"FeedbackFlowModel", am_m55, rfl, rfl, by decide, Or.inl (am_GW_in (List.mem_of_getElem? (i := 528) (by decide +kernel)) rfl)⟩
set_option maxRecDepth 100000 in
theorem am_l4_77 : am_Lok 4 77 58 := ⟨"FeedbackFlowModel", am_m58, rfl, rfl, by decide, Or.inl (am_GW_in (List.mem_of_getElem? (i := 532) (by decide +kernel)) rfl)⟩
set_option maxRecDepth 100000 in
theorem am_l4_81 : am_Lok 4 81 57 := ⟨"FeedbackFlowModel", am_m57, rfl, rfl, by decide, Or.inl (am_GW_in (List.mem_of_getElem? (i := 536) (by decide +kernel)) rfl)⟩
set_option maxRecDepth 100000 in
theorem am_l4_84 : am_Lok 4 84 61 := ⟨"FeedbackFlowModel", am_m61, rfl, rfl, by decide, Or.inl (am_GW_in (List.mem_of_getElem? (i := 544) (by decide +kernel)) rfl)⟩
set_option maxRecDepth 100000 in
theorem am_l4_87 : am_Lok 4 87 63 := ⟨"FeedbackFlowModel", am_m63, rfl, rfl, by decide, Or.inl (am_GW_in (List.mem_of_getElem? (i := 560) (by decide +kernel)) rfl)⟩
set_option maxRecDepth 100000 in
theorem am_l4_103 : am_Lok 4 103 66 := ⟨"FeedbackFlowModel", am_m66, rfl, rfl, by decide, Or.inl (am_GW_in (List.mem_of_getElem? (i := 568) (by decide +kernel)) rfl)⟩
set_option maxRecDepth 100000 in
theorem am_l4_107 : am_Lok 4 107 68 := ⟨"FeedbackFlowModel", am_m68, rfl, rfl, by decide, Or.inl (am_GW_in (List.mem_of_getElem? (i := 552) (by decide +kernel)) rfl)⟩
set_option maxRecDepth 100000 in
theorem am_l4_110 : am_Lok 4 110 64 := ⟨"FeedbackFlowModel", am_m64, rfl, rfl, by decide, Or.inl (am_GW_in (List.mem_of_getElem? (i := 556) (by decide +kernel)) rfl)⟩
set_option maxRecDepth 100000 in
theorem am_l4_113 : am_Lok 4 113 67 := ⟨"FeedbackFlowModel", am_m67, rfl, rfl, by decide, Or.inl (am_GW_in (List.mem_of_getElem? (i := 564) (by decide +kernel)) rfl)⟩
set_option maxRecDepth 100000 in
theorem am_l4_119 : am_Lok 4 119 73 := ⟨"FeedbackFlowModel", am_m73, rfl, rfl, by decide, Or.inl (am_GW_in (List.mem_of_getElem? (i := 596) (by decide +kernel)) rfl)⟩
set_option maxRecDepth 100000 in
theorem am_l4_122 : am_Lok 4 122 76 := ⟨"FeedbackFlowModel", am_m76, rfl, rfl, by decide, Or.inl (am_GW_in (List.mem_of_getElem? (i := 592) (by decide +kernel)) rfl)⟩
set_option maxRecDepth 100000 in
theorem am_l4_125 : am_Lok 4 125 74 := ⟨"FeedbackFlowModel", am_m74, rfl, rfl, by decide, Or.inl (am_GW_in (List.mem_of_getElem? (i := 600) (by decide +kernel)) rfl)⟩
set_option maxRecDepth 100000 in
theorem am_l4_128 : am_Lok 4 128 65 := ⟨"FeedbackFlowModel", am_m65, rfl, rfl, by decide, Or.inl (am_GW_in (List.mem_of_getElem? (i := 604) (by decide +kernel)) rfl)⟩
set_option maxRecDepth 100000 in
theorem am_l4_131 : am_Lok 4 131 77 := ⟨"FeedbackFlowModel", am_m77, rfl, rfl, by decide, Or.inl (am_GW_in (List.mem_of_getElem? (i := 616) (by decide +kernel)) rfl)⟩
set_option maxRecDepth 100000 in
theorem am_l4_135 : am_Lok 4 135 75 := ⟨"FeedbackFlowModel", am_m75, rfl, rfl, by decide, Or.inl (am_GW_in (List.mem_of_getElem? (i := 620) (by decide +kernel)) rfl)⟩
set_option maxRecDepth 100000 in
theorem am_l4_139 : am_Lok 4 139 56 := ⟨"FeedbackFlowModel", am_m56, rfl, rfl, by decide, Or.inl (am_GW_in (List.mem_of_getElem? (i := 584) (by decide +kernel)) rfl)⟩
set_option maxRecDepth 100000 in
theorem am_l4_142 : am_Lok 4 142 78 := ⟨"FeedbackFlowModel", am_m78, rfl, rfl, by decide, Or.inl (am_GW_in (List.mem_of_getElem? (i := 588) (by decide +kernel)) rfl)⟩
set_option maxRecDepth 100000 in
theorem am_l4_146 : am_Lok 4 146 72 := ⟨"FeedbackFlowModel", am_m72, rfl, rfl, by decide, Or.inl (am_GW_in (List.mem_of_getElem? (i := 608) (by decide +kernel)) rfl)⟩
set_option maxRecDepth 100000 in
theorem am_l4_152 : am_Lok 4 152 79 := ⟨"FeedbackFlowModel", am_m79, rfl, rfl, by decide, Or.inl (am_GW_in (List.mem_of_getElem? (i := 612) (by decide +kernel)) rfl)⟩
set_option maxRecDepth 100000 in
theorem am_l4_154 : am_Lok 4 154 82 := ⟨"FeedbackFlowModel", am_m82, rfl, rfl, by decide, Or.inl (am_GW_in (List.mem_of_getElem? (i := 636) (by decide +kernel)) rfl)⟩
set_option maxRecDepth 100000 in
theorem am_l4_157 : am_Lok 4 157 83 := ⟨"FeedbackFlowModel", am_m83, rfl, rfl, by decide, Or.inl (am_GW_in (List.mem_of_getElem? (i := 632) (by decide +kernel)) rfl)⟩
set_option maxRecDepth 100000 in
theorem am_l4_160 : am_Lok 4 160 85 := ⟨"FeedbackFlowModel", am_m85, rfl, rfl, by decide, Or.inl (am_GW_in (List.mem_of_getElem? (i := 656) (by decide +kernel)) rfl)⟩
set_option maxRecDepth 100000 in
theorem am_l4_164 : am_Lok 4 164 86 := ⟨"FeedbackFlowModel", am_m86, rfl, rfl, by decide, Or.inl (am_GW_in (List.mem_of_getElem? (i := 660) (by decide +kernel)) rfl)⟩
set_option maxRecDepth 100000 in
theorem am_l4_167 : am_Lok 4 167 88 := ⟨"FeedbackFlowModel", am_m88, rfl, rfl, by decide, Or.inl (am_GW_in (List.mem_of_getElem? (i := 648) (by decide +kernel)) rfl)⟩
set_option maxRecDepth 100000 in
theorem am_l4_170 : am_Lok 4 170 87 := ⟨"FeedbackFlowModel", am_m87, rfl, rfl, by decide, Or.inl (am_GW_in (List.mem_of_getElem? (i := 652) (by decide +kernel)) rfl)⟩
set_option maxRecDepth 100000 in
theorem am_l4_174 : am_Lok 4 174 89 := ⟨"FeedbackFlowModel", am_m89, rfl, rfl, by decide, Or.inl (am_GW_in (List.mem_of_getElem? (i := 644) (by decide +kernel)) rfl)⟩
set_option maxRecDepth 100000 in
theorem am_l5_12 : am_Lok 5 12 100 := ⟨"FeedbackFlow$Time", am_m100, rfl, rfl, by decide, Or.inl (am_GW_in (List.mem_of_getElem? (i := 303) (by decide +kernel)) rfl)⟩
set_option maxRecDepth 100000 in
theorem am_l6_9 : am_Lok 6 9 0 := ⟨"FeedbackFlowLaw", am_m0, rfl, rfl, by decide, Or.inl (am_GW_in (List.mem_of_getElem? (i := 68) (by decide +kernel)) rfl)⟩
set_option maxRecDepth 100000 in
theorem am_l6_12 : am_Lok 6 12 54 := ⟨"FeedbackFlowLaw", am_m54, rfl, rfl, by decide, Or.inl (am_GW_in (List.mem_of_getElem? (i := 433) (by decide +kernel)) rfl)⟩
set_option maxRecDepth 100000 in
theorem am_l6_13 : am_Lok 6 13 1 := ⟨"FeedbackFlowLaw", am_m1, rfl, rfl, by decide, Or.inl (am_GW_in (List.mem_of_getElem? (i := 204) (by decide +kernel)) rfl)⟩
set_option maxRecDepth 100000 in
theorem am_l6_17 : am_Lok 6 17 59 := ⟨"FeedbackFlowLaw", am_m59, rfl, rfl, by decide, Or.inl (am_GW_in (List.mem_of_getElem? (i := 520) (by decide +kernel)) rfl)⟩
set_option maxRecDepth 100000 in
theorem am_l6_18 : am_Lok 6 18 2 := ⟨"FeedbackFlowLaw", am_m2, rfl, rfl, by decide, Or.inl (am_GW_in (List.mem_of_getElem? (i := 225) (by decide +kernel)) rfl)⟩
set_option maxRecDepth 100000 in
theorem am_l6_22 : am_Lok 6 22 60 := ⟨"FeedbackFlowLaw", am_m60, rfl, rfl, by decide, Or.inl (am_GW_in (List.mem_of_getElem? (i := 524) (by decide +kernel)) rfl)⟩
set_option maxRecDepth 100000 in
theorem am_l6_23 : am_Lok 6 23 3 := ⟨"FeedbackFlowLaw", am_m3, rfl, rfl, by decide, Or.inl (am_GW_in (List.mem_of_getElem? (i := 249) (by decide +kernel)) rfl)⟩
set_option maxRecDepth 100000 in
theorem am_l6_27 : am_Lok 6 27 62 := ⟨"FeedbackFlowLaw", am_m62, rfl, rfl, by decide, Or.inl (am_GW_in (List.mem_of_getElem? (i := 540) (by decide +kernel)) rfl)⟩
set_option maxRecDepth 100000 in
theorem am_l6_28 : am_Lok 6 28 4 := ⟨"FeedbackFlowLaw", am_m4, rfl, rfl, by decide, Or.inl (am_GW_in (List.mem_of_getElem? (i := 261) (by decide +kernel)) rfl)⟩
set_option maxRecDepth 100000 in
theorem am_l6_31 : am_Lok 6 31 69 := ⟨"FeedbackFlowLaw", am_m69, rfl, rfl, by decide, Or.inl (am_GW_in (List.mem_of_getElem? (i := 548) (by decide +kernel)) rfl)⟩
set_option maxRecDepth 100000 in
theorem am_l6_32 : am_Lok 6 32 5 := ⟨"FeedbackFlowLaw", am_m5, rfl, rfl, by decide, Or.inl (am_GW_in (List.mem_of_getElem? (i := 284) (by decide +kernel)) rfl)⟩
set_option maxRecDepth 100000 in
theorem am_l6_36 : am_Lok 6 36 70 := ⟨"FeedbackFlowLaw", am_m70, rfl, rfl, by decide, Or.inl (am_GW_in (List.mem_of_getElem? (i := 572) (by decide +kernel)) rfl)⟩
set_option maxRecDepth 100000 in
theorem am_l6_37 : am_Lok 6 37 6 := ⟨"FeedbackFlowLaw", am_m6, rfl, rfl, by decide, Or.inl (am_GW_in (List.mem_of_getElem? (i := 288) (by decide +kernel)) rfl)⟩
set_option maxRecDepth 100000 in
theorem am_l6_40 : am_Lok 6 40 71 := ⟨"FeedbackFlowLaw", am_m71, rfl, rfl, by decide, Or.inl (am_GW_in (List.mem_of_getElem? (i := 576) (by decide +kernel)) rfl)⟩
set_option maxRecDepth 100000 in
theorem am_l6_41 : am_Lok 6 41 7 := ⟨"FeedbackFlowLaw", am_m7, rfl, rfl, by decide, Or.inl (am_GW_in (List.mem_of_getElem? (i := 292) (by decide +kernel)) rfl)⟩
set_option maxRecDepth 100000 in
theorem am_l6_44 : am_Lok 6 44 80 := ⟨"FeedbackFlowLaw", am_m80, rfl, rfl, by decide, Or.inl (am_GW_in (List.mem_of_getElem? (i := 580) (by decide +kernel)) rfl)⟩
set_option maxRecDepth 100000 in
theorem am_l6_45 : am_Lok 6 45 8 := ⟨"FeedbackFlowLaw", am_m8, rfl, rfl, by decide, Or.inl (am_GW_in (List.mem_of_getElem? (i := 338) (by decide +kernel)) rfl)⟩
set_option maxRecDepth 100000 in
theorem am_l6_48 : am_Lok 6 48 81 := ⟨"FeedbackFlowLaw", am_m81, rfl, rfl, by decide, Or.inl (am_GW_in (List.mem_of_getElem? (i := 624) (by decide +kernel)) rfl)⟩
set_option maxRecDepth 100000 in
theorem am_l6_49 : am_Lok 6 49 9 := ⟨"FeedbackFlowLaw", am_m9, rfl, rfl, by decide, Or.inl (am_GW_in (List.mem_of_getElem? (i := 342) (by decide +kernel)) rfl)⟩
set_option maxRecDepth 100000 in
theorem am_l6_52 : am_Lok 6 52 84 := ⟨"FeedbackFlowLaw", am_m84, rfl, rfl, by decide, Or.inl (am_GW_in (List.mem_of_getElem? (i := 628) (by decide +kernel)) rfl)⟩
set_option maxRecDepth 100000 in
theorem am_l6_53 : am_Lok 6 53 10 := ⟨"FeedbackFlowLaw", am_m10, rfl, rfl, by decide, Or.inl (am_GW_in (List.mem_of_getElem? (i := 355) (by decide +kernel)) rfl)⟩
set_option maxRecDepth 100000 in
theorem am_l6_56 : am_Lok 6 56 90 := ⟨"FeedbackFlowLaw", am_m90, rfl, rfl, by decide, Or.inl (am_GW_in (List.mem_of_getElem? (i := 640) (by decide +kernel)) rfl)⟩
set_option maxRecDepth 100000 in
theorem am_l6_57 : am_Lok 6 57 11 := ⟨"FeedbackFlowLaw", am_m11, rfl, rfl, by decide, Or.inl (am_GW_in (List.mem_of_getElem? (i := 397) (by decide +kernel)) rfl)⟩
set_option maxRecDepth 100000 in
theorem am_l6_60 : am_Lok 6 60 91 := ⟨"FeedbackFlowLaw", am_m91, rfl, rfl, by decide, Or.inl (am_GW_in (List.mem_of_getElem? (i := 664) (by decide +kernel)) rfl)⟩
set_option maxRecDepth 100000 in
theorem am_l6_61 : am_Lok 6 61 12 := ⟨"FeedbackFlowLaw", am_m12, rfl, rfl, by decide, Or.inl (am_GW_in (List.mem_of_getElem? (i := 405) (by decide +kernel)) rfl)⟩
set_option maxRecDepth 100000 in
theorem am_l6_64 : am_Lok 6 64 92 := ⟨"FeedbackFlowLaw", am_m92, rfl, rfl, by decide, Or.inl (am_GW_in (List.mem_of_getElem? (i := 668) (by decide +kernel)) rfl)⟩
set_option maxRecDepth 100000 in
theorem am_l6_65 : am_Lok 6 65 13 := ⟨"FeedbackFlowLaw", am_m13, rfl, rfl, by decide, Or.inl (am_GW_in (List.mem_of_getElem? (i := 409) (by decide +kernel)) rfl)⟩
set_option maxRecDepth 100000 in
theorem am_l6_68 : am_Lok 6 68 93 := ⟨"FeedbackFlowLaw", am_m93, rfl, rfl, by decide, Or.inl (am_GW_in (List.mem_of_getElem? (i := 672) (by decide +kernel)) rfl)⟩
set_option maxRecDepth 100000 in
theorem am_l6_69 : am_Lok 6 69 14 := ⟨"FeedbackFlowLaw", am_m14, rfl, rfl, by decide, Or.inl (am_GW_in (List.mem_of_getElem? (i := 413) (by decide +kernel)) rfl)⟩
set_option maxRecDepth 100000 in
theorem am_l6_72 : am_Lok 6 72 94 := ⟨"FeedbackFlowLaw", am_m94, rfl, rfl, by decide, Or.inl (am_GW_in (List.mem_of_getElem? (i := 676) (by decide +kernel)) rfl)⟩
set_option maxRecDepth 100000 in
theorem am_l6_73 : am_Lok 6 73 15 := ⟨"FeedbackFlowLaw", am_m15, rfl, rfl, by decide, Or.inl (am_GW_in (List.mem_of_getElem? (i := 417) (by decide +kernel)) rfl)⟩
set_option maxRecDepth 100000 in
theorem am_l6_76 : am_Lok 6 76 95 := ⟨"FeedbackFlowLaw", am_m95, rfl, rfl, by decide, Or.inl (am_GW_in (List.mem_of_getElem? (i := 680) (by decide +kernel)) rfl)⟩
set_option maxRecDepth 100000 in
theorem am_l6_77 : am_Lok 6 77 16 := ⟨"FeedbackFlowLaw", am_m16, rfl, rfl, by decide, Or.inl (am_GW_in (List.mem_of_getElem? (i := 427) (by decide +kernel)) rfl)⟩
set_option maxRecDepth 100000 in
theorem am_l6_80 : am_Lok 6 80 96 := ⟨"FeedbackFlowLaw", am_m96, rfl, rfl, by decide, Or.inl (am_GW_in (List.mem_of_getElem? (i := 684) (by decide +kernel)) rfl)⟩
set_option maxRecDepth 100000 in
theorem am_mR_all : ∀ q ∈ am_mR, ∀ x ∈ q.2, am_Lok q.1 x.1 x.2 := by
  unfold am_mR
  exact List.forall_mem_cons.mpr ⟨(List.forall_mem_cons.mpr ⟨am_l0_9, List.forall_mem_cons.mpr ⟨am_l0_20, List.forall_mem_cons.mpr ⟨am_l0_28, List.forall_mem_cons.mpr ⟨am_l0_32, List.forall_mem_cons.mpr ⟨am_l0_36, List.forall_mem_cons.mpr ⟨am_l0_42, List.forall_mem_cons.mpr ⟨am_l0_46, List.forall_mem_cons.mpr ⟨am_l0_50, List.forall_mem_cons.mpr ⟨am_l0_65, List.forall_mem_cons.mpr ⟨am_l0_71, List.forall_mem_cons.mpr ⟨am_l0_77, List.forall_mem_cons.mpr ⟨am_l0_80, List.forall_mem_cons.mpr ⟨am_l0_108, List.forall_mem_cons.mpr ⟨am_l0_111, List.forall_mem_cons.mpr ⟨am_l0_114, List.forall_mem_cons.mpr ⟨am_l0_117, List.forall_mem_cons.mpr ⟨am_l0_129, List.forall_mem_cons.mpr ⟨am_l0_133, List.forall_mem_cons.mpr ⟨am_l0_136, List.forall_mem_cons.mpr ⟨am_l0_142, List.forall_mem_cons.mpr ⟨am_l0_145, List.forall_mem_cons.mpr ⟨am_l0_152, List.forall_mem_cons.mpr ⟨am_l0_155, List.forall_mem_cons.mpr ⟨am_l0_158, List.forall_mem_cons.mpr ⟨am_l0_165, List.forall_mem_cons.mpr ⟨am_l0_169, List.forall_mem_cons.mpr ⟨am_l0_175, fun _ h => absurd h List.not_mem_nil⟩⟩⟩⟩⟩⟩⟩⟩⟩⟩⟩⟩⟩⟩⟩⟩⟩⟩⟩⟩⟩⟩⟩⟩⟩⟩⟩), List.forall_mem_cons.mpr ⟨(List.forall_mem_cons.mpr ⟨am_l1_27, List.forall_mem_cons.mpr ⟨am_l1_28, List.forall_mem_cons.mpr ⟨am_l1_36, List.forall_mem_cons.mpr ⟨am_l1_43, List.forall_mem_cons.mpr ⟨am_l1_47, List.forall_mem_cons.mpr ⟨am_l1_59, List.forall_mem_cons.mpr ⟨am_l1_72, List.forall_mem_cons.mpr ⟨am_l1_76, List.forall_mem_cons.mpr ⟨am_l1_87, List.forall_mem_cons.mpr ⟨am_l1_92, List.forall_mem_cons.mpr ⟨am_l1_96, List.forall_mem_cons.mpr ⟨am_l1_101, List.forall_mem_cons.mpr ⟨am_l1_104, List.forall_mem_cons.mpr ⟨am_l1_107, List.forall_mem_cons.mpr ⟨am_l1_112, List.forall_mem_cons.mpr ⟨am_l1_116, fun _ h => absurd h List.not_mem_nil⟩⟩⟩⟩⟩⟩⟩⟩⟩⟩⟩⟩⟩⟩⟩⟩), List.forall_mem_cons.mpr ⟨(List.forall_mem_cons.mpr ⟨am_l2_28, List.forall_mem_cons.mpr ⟨am_l2_37, List.forall_mem_cons.mpr ⟨am_l2_53, List.forall_mem_cons.mpr ⟨am_l2_56, fun _ h => absurd h List.not_mem_nil⟩⟩⟩⟩), List.forall_mem_cons.mpr ⟨(List.forall_mem_cons.mpr ⟨am_l3_22, fun _ h => absurd h List.not_mem_nil⟩), List.forall_mem_cons.mpr ⟨(List.forall_mem_cons.mpr ⟨am_l4_73, List.forall_mem_cons.mpr ⟨am_l4_77, List.forall_mem_cons.mpr ⟨am_l4_81, List.forall_mem_cons.mpr ⟨am_l4_84, List.forall_mem_cons.mpr ⟨am_l4_87, List.forall_mem_cons.mpr ⟨am_l4_103, List.forall_mem_cons.mpr ⟨am_l4_107, List.forall_mem_cons.mpr ⟨am_l4_110, List.forall_mem_cons.mpr ⟨am_l4_113, List.forall_mem_cons.mpr ⟨am_l4_119, List.forall_mem_cons.mpr ⟨am_l4_122, List.forall_mem_cons.mpr ⟨am_l4_125, List.forall_mem_cons.mpr ⟨am_l4_128, List.forall_mem_cons.mpr ⟨am_l4_131, List.forall_mem_cons.mpr ⟨am_l4_135, List.forall_mem_cons.mpr ⟨am_l4_139, List.forall_mem_cons.mpr ⟨am_l4_142, List.forall_mem_cons.mpr ⟨am_l4_146, List.forall_mem_cons.mpr ⟨am_l4_152, List.forall_mem_cons.mpr ⟨am_l4_154, List.forall_mem_cons.mpr ⟨am_l4_157, List.forall_mem_cons.mpr ⟨am_l4_160, List.forall_mem_cons.mpr ⟨am_l4_164, List.forall_mem_cons.mpr ⟨am_l4_167, List.forall_mem_cons.mpr ⟨am_l4_170, List.forall_mem_cons.mpr ⟨am_l4_174, fun _ h => absurd h List.not_mem_nil⟩⟩⟩⟩⟩⟩⟩⟩⟩⟩⟩⟩⟩⟩⟩⟩⟩⟩⟩⟩⟩⟩⟩⟩⟩⟩), List.forall_mem_cons.mpr ⟨(List.forall_mem_cons.mpr ⟨am_l5_12, fun _ h => absurd h List.not_mem_nil⟩), List.forall_mem_cons.mpr ⟨(List.forall_mem_cons.mpr ⟨am_l6_9, List.forall_mem_cons.mpr ⟨am_l6_12, List.forall_mem_cons.mpr ⟨am_l6_13, List.forall_mem_cons.mpr ⟨am_l6_17, List.forall_mem_cons.mpr ⟨am_l6_18, List.forall_mem_cons.mpr ⟨am_l6_22, List.forall_mem_cons.mpr ⟨am_l6_23, List.forall_mem_cons.mpr ⟨am_l6_27, List.forall_mem_cons.mpr ⟨am_l6_28, List.forall_mem_cons.mpr ⟨am_l6_31, List.forall_mem_cons.mpr ⟨am_l6_32, List.forall_mem_cons.mpr ⟨am_l6_36, List.forall_mem_cons.mpr ⟨am_l6_37, List.forall_mem_cons.mpr ⟨am_l6_40, List.forall_mem_cons.mpr ⟨am_l6_41, List.forall_mem_cons.mpr ⟨am_l6_44, List.forall_mem_cons.mpr ⟨am_l6_45, List.forall_mem_cons.mpr ⟨am_l6_48, List.forall_mem_cons.mpr ⟨am_l6_49, List.forall_mem_cons.mpr ⟨am_l6_52, List.forall_mem_cons.mpr ⟨am_l6_53, List.forall_mem_cons.mpr ⟨am_l6_56, List.forall_mem_cons.mpr ⟨am_l6_57, List.forall_mem_cons.mpr ⟨am_l6_60, List.forall_mem_cons.mpr ⟨am_l6_61, List.forall_mem_cons.mpr ⟨am_l6_64, List.forall_mem_cons.mpr ⟨am_l6_65, List.forall_mem_cons.mpr ⟨am_l6_68, List.forall_mem_cons.mpr ⟨am_l6_69, List.forall_mem_cons.mpr ⟨am_l6_72, List.forall_mem_cons.mpr ⟨am_l6_73, List.forall_mem_cons.mpr ⟨am_l6_76, List.forall_mem_cons.mpr ⟨am_l6_77, List.forall_mem_cons.mpr ⟨am_l6_80, fun _ h => absurd h List.not_mem_nil⟩⟩⟩⟩⟩⟩⟩⟩⟩⟩⟩⟩⟩⟩⟩⟩⟩⟩⟩⟩⟩⟩⟩⟩⟩⟩⟩⟩⟩⟩⟩⟩⟩⟩), fun _ h => absurd h List.not_mem_nil⟩⟩⟩⟩⟩⟩⟩
def am_Cok (o i ci : Nat) : Prop := ∃ (own C : String) (T : u_T) (N : Nat), am_CN[o]? = some own ∧ vwCl[ci]? = some (C, T, N) ∧ Cond.classLink own i C ∈ am_GW
set_option maxRecDepth 100000 in
theorem am_c0_7 : am_Cok 0 7 1 := ⟨"FeedbackFlow", "FeedbackFlow$Graph", am_T1, 5, rfl, rfl, am_GW_in (List.mem_of_getElem? (i := 74) (by decide +kernel)) rfl⟩
set_option maxRecDepth 100000 in
theorem am_c1_9 : am_Cok 1 9 2 := ⟨"FeedbackFlow$Graph", "FeedbackFlow$Vertex", am_T2, 12, rfl, rfl, am_GW_in (List.mem_of_getElem? (i := 80) (by decide +kernel)) rfl⟩
set_option maxRecDepth 100000 in
theorem am_c1_17 : am_Cok 1 17 3 := ⟨"FeedbackFlow$Graph", "FeedbackFlow$Edge", am_T3, 5, rfl, rfl, am_GW_in (List.mem_of_getElem? (i := 82) (by decide +kernel)) rfl⟩
set_option maxRecDepth 100000 in
theorem am_c6_7 : am_Cok 6 7 0 := ⟨"FeedbackFlowLaw", "FeedbackFlow", am_T0, 5, rfl, rfl, am_GW_in (List.mem_of_getElem? (i := 66) (by decide +kernel)) rfl⟩
set_option maxRecDepth 100000 in
theorem am_c6_10 : am_Cok 6 10 4 := ⟨"FeedbackFlowLaw", "FeedbackFlowModel", am_T4, 27, rfl, rfl, am_GW_in (List.mem_of_getElem? (i := 431) (by decide +kernel)) rfl⟩
set_option maxRecDepth 100000 in
theorem am_cR_all : ∀ q ∈ am_cR, ∀ x ∈ q.2, am_Cok q.1 x.1 x.2 := by
  unfold am_cR
  exact List.forall_mem_cons.mpr ⟨(List.forall_mem_cons.mpr ⟨am_c0_7, fun _ h => absurd h List.not_mem_nil⟩), List.forall_mem_cons.mpr ⟨(List.forall_mem_cons.mpr ⟨am_c1_9, List.forall_mem_cons.mpr ⟨am_c1_17, fun _ h => absurd h List.not_mem_nil⟩⟩), List.forall_mem_cons.mpr ⟨(List.forall_mem_cons.mpr ⟨am_c6_7, List.forall_mem_cons.mpr ⟨am_c6_10, fun _ h => absurd h List.not_mem_nil⟩⟩), fun _ h => absurd h List.not_mem_nil⟩⟩⟩
set_option maxRecDepth 100000 in
theorem am_q1_9 : am_Cok 1 9 2 := ⟨"FeedbackFlow$Graph", "FeedbackFlow$Vertex", am_T2, 12, rfl, rfl, am_GW_in (List.mem_of_getElem? (i := 80) (by decide +kernel)) rfl⟩
set_option maxRecDepth 100000 in
theorem am_q1_17 : am_Cok 1 17 3 := ⟨"FeedbackFlow$Graph", "FeedbackFlow$Edge", am_T3, 5, rfl, rfl, am_GW_in (List.mem_of_getElem? (i := 82) (by decide +kernel)) rfl⟩
set_option maxRecDepth 100000 in
theorem am_nR_all : ∀ q ∈ am_nR, ∀ x ∈ q.2, am_Cok q.1 x.1 x.2 := by
  unfold am_nR
  exact List.forall_mem_cons.mpr ⟨(List.forall_mem_cons.mpr ⟨am_q1_9, List.forall_mem_cons.mpr ⟨am_q1_17, fun _ h => absurd h List.not_mem_nil⟩⟩), fun _ h => absurd h List.not_mem_nil⟩
def am_Kok (o i : Nat) (v : Int32) : Prop := ∃ own : String, am_CN[o]? = some own ∧ Cond.constant own i v ∈ am_GW
set_option maxRecDepth 100000 in
theorem am_x1_111 : am_Kok 1 111 2147483647 := ⟨"FeedbackFlow$Graph", rfl, am_GW_in (List.mem_of_getElem? (i := 386) (by decide +kernel)) rfl⟩
set_option maxRecDepth 100000 in
theorem am_x5_11 : am_Kok 5 11 1048575 := ⟨"FeedbackFlow$Time", rfl, am_GW_in (List.mem_of_getElem? (i := 381) (by decide +kernel)) rfl⟩
set_option maxRecDepth 100000 in
theorem am_kR_all : ∀ q ∈ am_kR, ∀ x ∈ q.2, am_Kok q.1 x.1 x.2 := by
  unfold am_kR
  exact List.forall_mem_cons.mpr ⟨(List.forall_mem_cons.mpr ⟨am_x1_111, fun _ h => absurd h List.not_mem_nil⟩), List.forall_mem_cons.mpr ⟨(List.forall_mem_cons.mpr ⟨am_x5_11, fun _ h => absurd h List.not_mem_nil⟩), fun _ h => absurd h List.not_mem_nil⟩⟩
def am_Ook (o i : Nat) : Prop := ∃ own : String, am_CN[o]? = some own ∧ Cond.methodLink own i Lib.objectInit ∈ am_GW
set_option maxRecDepth 100000 in
theorem am_o0_1 : am_Ook 0 1 := ⟨"FeedbackFlow", rfl, am_GW_in (List.mem_of_getElem? (i := 71) (by decide +kernel)) rfl⟩
set_option maxRecDepth 100000 in
theorem am_o1_3 : am_Ook 1 3 := ⟨"FeedbackFlow$Graph", rfl, am_GW_in (List.mem_of_getElem? (i := 79) (by decide +kernel)) rfl⟩
set_option maxRecDepth 100000 in
theorem am_o2_3 : am_Ook 2 3 := ⟨"FeedbackFlow$Vertex", rfl, am_GW_in (List.mem_of_getElem? (i := 88) (by decide +kernel)) rfl⟩
set_option maxRecDepth 100000 in
theorem am_o3_3 : am_Ook 3 3 := ⟨"FeedbackFlow$Edge", rfl, am_GW_in (List.mem_of_getElem? (i := 145) (by decide +kernel)) rfl⟩
set_option maxRecDepth 100000 in
theorem am_o4_1 : am_Ook 4 1 := ⟨"FeedbackFlowModel", rfl, am_GW_in (List.mem_of_getElem? (i := 436) (by decide +kernel)) rfl⟩
set_option maxRecDepth 100000 in
theorem am_oR_all : ∀ q ∈ am_oR, ∀ x ∈ q.2, am_Ook q.1 x.1 := by
  unfold am_oR
  exact List.forall_mem_cons.mpr ⟨(List.forall_mem_cons.mpr ⟨am_o0_1, fun _ h => absurd h List.not_mem_nil⟩), List.forall_mem_cons.mpr ⟨(List.forall_mem_cons.mpr ⟨am_o1_3, fun _ h => absurd h List.not_mem_nil⟩), List.forall_mem_cons.mpr ⟨(List.forall_mem_cons.mpr ⟨am_o2_3, fun _ h => absurd h List.not_mem_nil⟩), List.forall_mem_cons.mpr ⟨(List.forall_mem_cons.mpr ⟨am_o3_3, fun _ h => absurd h List.not_mem_nil⟩), List.forall_mem_cons.mpr ⟨(List.forall_mem_cons.mpr ⟨am_o4_1, fun _ h => absurd h List.not_mem_nil⟩), fun _ h => absurd h List.not_mem_nil⟩⟩⟩⟩⟩
set_option maxRecDepth 100000 in
theorem am_oi1 : Cond.instanceMethod Lib.objectInit ∈ am_GW := am_GW_in (List.mem_of_getElem? (i := 72) (by decide +kernel)) rfl
set_option maxRecDepth 100000 in
theorem am_oi2 : Cond.code Lib.objectInit ⟨#[0xb1]⟩ 1 none ∈ am_GW := am_GW_in (List.mem_of_getElem? (i := 73) rfl) rfl
set_option maxRecDepth 100000 in
theorem am_ai : Cond.arrayClass (newarray.typeOf .int) ∈ am_GW := am_GW_in (List.mem_of_getElem? (i := 140) (by decide +kernel)) rfl
set_option maxRecDepth 100000 in
theorem am_az : Cond.arrayClass (newarray.typeOf .boolean) ∈ am_GW := am_GW_in (List.mem_of_getElem? (i := 519) (by decide +kernel)) rfl
set_option maxRecDepth 100000 in
theorem am_ao_V : Cond.arrayOver (.object "FeedbackFlow$Vertex") ∈ lw_tbl := List.mem_of_getElem? (i := 81) (by decide +kernel)
set_option maxRecDepth 100000 in
theorem am_ao_E : Cond.arrayOver (.object "FeedbackFlow$Edge") ∈ lw_tbl := List.mem_of_getElem? (i := 83) (by decide +kernel)
def am_Kls (ci : Nat) (q : vw_C) : Prop := (∀ w ∈ u_ws q.1 q.2.1 q.2.2, w ∈ am_GW) ∧ (∃ ty : Nat → FieldType, (∀ k, k < q.2.2 → parseFieldDescriptor (q.2.1 k).2.2.1 = some (ty k)) ∧ ∀ k, k < q.2.2 → defaultValue (ty k) = vp_V (am_df ci) k) ∧ (∀ a, a < q.2.2 → ∀ b, b < q.2.2 → a ≠ b → (q.2.1 a).2.1 ≠ (q.2.1 b).2.1) ∧ Cond.instantiable q.1 q.2.2 ∈ am_GW ∧ Cond.initialized q.1 ∈ am_GW ∧ (am_df ci).length = q.2.2
set_option maxRecDepth 100000 in
theorem am_lay0 : ∀ w ∈ u_ws "FeedbackFlow" am_T0 5, w ∈ am_GW := by
  show ∀ w ∈ [u_lay "FeedbackFlow" am_T0 0, u_lay "FeedbackFlow" am_T0 1, u_lay "FeedbackFlow" am_T0 2, u_lay "FeedbackFlow" am_T0 3, u_lay "FeedbackFlow" am_T0 4], w ∈ am_GW
  exact List.forall_mem_cons.mpr ⟨am_GW_in (List.mem_of_getElem? (i := 193) (by decide +kernel)) rfl, List.forall_mem_cons.mpr ⟨am_GW_in (List.mem_of_getElem? (i := 195) (by decide +kernel)) rfl, List.forall_mem_cons.mpr ⟨am_GW_in (List.mem_of_getElem? (i := 197) (by decide +kernel)) rfl, List.forall_mem_cons.mpr ⟨am_GW_in (List.mem_of_getElem? (i := 199) (by decide +kernel)) rfl, List.forall_mem_cons.mpr ⟨am_GW_in (List.mem_of_getElem? (i := 201) (by decide +kernel)) rfl, fun _ h => absurd h List.not_mem_nil⟩⟩⟩⟩⟩
set_option maxRecDepth 100000 in
theorem am_kl0 : am_Kls 0 ("FeedbackFlow", am_T0, 5) := ⟨am_lay0, ⟨am_y0, am_y0_ok, by decide +kernel⟩, am_n0, am_GW_in (List.mem_of_getElem? (i := 67) (by decide +kernel)) rfl, am_in_F, rfl⟩
set_option maxRecDepth 100000 in
theorem am_lay1 : ∀ w ∈ u_ws "FeedbackFlow$Graph" am_T1 5, w ∈ am_GW := by
  show ∀ w ∈ [u_lay "FeedbackFlow$Graph" am_T1 0, u_lay "FeedbackFlow$Graph" am_T1 1, u_lay "FeedbackFlow$Graph" am_T1 2, u_lay "FeedbackFlow$Graph" am_T1 3, u_lay "FeedbackFlow$Graph" am_T1 4], w ∈ am_GW
  exact List.forall_mem_cons.mpr ⟨am_GW_in (List.mem_of_getElem? (i := 177) (by decide +kernel)) rfl, List.forall_mem_cons.mpr ⟨am_GW_in (List.mem_of_getElem? (i := 179) (by decide +kernel)) rfl, List.forall_mem_cons.mpr ⟨am_GW_in (List.mem_of_getElem? (i := 181) (by decide +kernel)) rfl, List.forall_mem_cons.mpr ⟨am_GW_in (List.mem_of_getElem? (i := 183) (by decide +kernel)) rfl, List.forall_mem_cons.mpr ⟨am_GW_in (List.mem_of_getElem? (i := 185) (by decide +kernel)) rfl, fun _ h => absurd h List.not_mem_nil⟩⟩⟩⟩⟩
set_option maxRecDepth 100000 in
theorem am_kl1 : am_Kls 1 ("FeedbackFlow$Graph", am_T1, 5) := ⟨am_lay1, ⟨am_y1, am_y1_ok, by decide +kernel⟩, am_n1, am_GW_in (List.mem_of_getElem? (i := 75) (by decide +kernel)) rfl, am_in_G, rfl⟩
set_option maxRecDepth 100000 in
theorem am_lay2 : ∀ w ∈ u_ws "FeedbackFlow$Vertex" am_T2 12, w ∈ am_GW := by
  show ∀ w ∈ [u_lay "FeedbackFlow$Vertex" am_T2 0, u_lay "FeedbackFlow$Vertex" am_T2 1, u_lay "FeedbackFlow$Vertex" am_T2 2, u_lay "FeedbackFlow$Vertex" am_T2 3, u_lay "FeedbackFlow$Vertex" am_T2 4, u_lay "FeedbackFlow$Vertex" am_T2 5, u_lay "FeedbackFlow$Vertex" am_T2 6, u_lay "FeedbackFlow$Vertex" am_T2 7, u_lay "FeedbackFlow$Vertex" am_T2 8, u_lay "FeedbackFlow$Vertex" am_T2 9, u_lay "FeedbackFlow$Vertex" am_T2 10, u_lay "FeedbackFlow$Vertex" am_T2 11], w ∈ am_GW
  exact List.forall_mem_cons.mpr ⟨am_GW_in (List.mem_of_getElem? (i := 115) (by decide +kernel)) rfl, List.forall_mem_cons.mpr ⟨am_GW_in (List.mem_of_getElem? (i := 117) (by decide +kernel)) rfl, List.forall_mem_cons.mpr ⟨am_GW_in (List.mem_of_getElem? (i := 119) (by decide +kernel)) rfl, List.forall_mem_cons.mpr ⟨am_GW_in (List.mem_of_getElem? (i := 121) (by decide +kernel)) rfl, List.forall_mem_cons.mpr ⟨am_GW_in (List.mem_of_getElem? (i := 123) (by decide +kernel)) rfl, List.forall_mem_cons.mpr ⟨am_GW_in (List.mem_of_getElem? (i := 125) (by decide +kernel)) rfl, List.forall_mem_cons.mpr ⟨am_GW_in (List.mem_of_getElem? (i := 127) (by decide +kernel)) rfl, List.forall_mem_cons.mpr ⟨am_GW_in (List.mem_of_getElem? (i := 129) (by decide +kernel)) rfl, List.forall_mem_cons.mpr ⟨am_GW_in (List.mem_of_getElem? (i := 131) (by decide +kernel)) rfl, List.forall_mem_cons.mpr ⟨am_GW_in (List.mem_of_getElem? (i := 133) (by decide +kernel)) rfl, List.forall_mem_cons.mpr ⟨am_GW_in (List.mem_of_getElem? (i := 135) (by decide +kernel)) rfl, List.forall_mem_cons.mpr ⟨am_GW_in (List.mem_of_getElem? (i := 137) (by decide +kernel)) rfl, fun _ h => absurd h List.not_mem_nil⟩⟩⟩⟩⟩⟩⟩⟩⟩⟩⟩⟩
set_option maxRecDepth 100000 in
theorem am_kl2 : am_Kls 2 ("FeedbackFlow$Vertex", am_T2, 12) := ⟨am_lay2, ⟨am_y2, am_y2_ok, by decide +kernel⟩, am_n2, am_GW_in (List.mem_of_getElem? (i := 84) (by decide +kernel)) rfl, am_in_V, rfl⟩
set_option maxRecDepth 100000 in
theorem am_lay3 : ∀ w ∈ u_ws "FeedbackFlow$Edge" am_T3 5, w ∈ am_GW := by
  show ∀ w ∈ [u_lay "FeedbackFlow$Edge" am_T3 0, u_lay "FeedbackFlow$Edge" am_T3 1, u_lay "FeedbackFlow$Edge" am_T3 2, u_lay "FeedbackFlow$Edge" am_T3 3, u_lay "FeedbackFlow$Edge" am_T3 4], w ∈ am_GW
  exact List.forall_mem_cons.mpr ⟨am_GW_in (List.mem_of_getElem? (i := 157) (by decide +kernel)) rfl, List.forall_mem_cons.mpr ⟨am_GW_in (List.mem_of_getElem? (i := 159) (by decide +kernel)) rfl, List.forall_mem_cons.mpr ⟨am_GW_in (List.mem_of_getElem? (i := 161) (by decide +kernel)) rfl, List.forall_mem_cons.mpr ⟨am_GW_in (List.mem_of_getElem? (i := 163) (by decide +kernel)) rfl, List.forall_mem_cons.mpr ⟨am_GW_in (List.mem_of_getElem? (i := 165) (by decide +kernel)) rfl, fun _ h => absurd h List.not_mem_nil⟩⟩⟩⟩⟩
set_option maxRecDepth 100000 in
theorem am_kl3 : am_Kls 3 ("FeedbackFlow$Edge", am_T3, 5) := ⟨am_lay3, ⟨am_y3, am_y3_ok, by decide +kernel⟩, am_n3, am_GW_in (List.mem_of_getElem? (i := 141) (by decide +kernel)) rfl, am_in_E, rfl⟩
set_option maxRecDepth 100000 in
theorem am_lay4 : ∀ w ∈ u_ws "FeedbackFlowModel" am_T4 27, w ∈ am_GW := by
  show ∀ w ∈ [u_lay "FeedbackFlowModel" am_T4 0, u_lay "FeedbackFlowModel" am_T4 1, u_lay "FeedbackFlowModel" am_T4 2, u_lay "FeedbackFlowModel" am_T4 3, u_lay "FeedbackFlowModel" am_T4 4, u_lay "FeedbackFlowModel" am_T4 5, u_lay "FeedbackFlowModel" am_T4 6, u_lay "FeedbackFlowModel" am_T4 7, u_lay "FeedbackFlowModel" am_T4 8, u_lay "FeedbackFlowModel" am_T4 9, u_lay "FeedbackFlowModel" am_T4 10, u_lay "FeedbackFlowModel" am_T4 11, u_lay "FeedbackFlowModel" am_T4 12, u_lay "FeedbackFlowModel" am_T4 13, u_lay "FeedbackFlowModel" am_T4 14, u_lay "FeedbackFlowModel" am_T4 15, u_lay "FeedbackFlowModel" am_T4 16, u_lay "FeedbackFlowModel" am_T4 17, u_lay "FeedbackFlowModel" am_T4 18, u_lay "FeedbackFlowModel" am_T4 19, u_lay "FeedbackFlowModel" am_T4 20, u_lay "FeedbackFlowModel" am_T4 21, u_lay "FeedbackFlowModel" am_T4 22, u_lay "FeedbackFlowModel" am_T4 23, u_lay "FeedbackFlowModel" am_T4 24, u_lay "FeedbackFlowModel" am_T4 25, u_lay "FeedbackFlowModel" am_T4 26], w ∈ am_GW
  exact List.forall_mem_cons.mpr ⟨am_GW_in (List.mem_of_getElem? (i := 464) (by decide +kernel)) rfl, List.forall_mem_cons.mpr ⟨am_GW_in (List.mem_of_getElem? (i := 466) (by decide +kernel)) rfl, List.forall_mem_cons.mpr ⟨am_GW_in (List.mem_of_getElem? (i := 468) (by decide +kernel)) rfl, List.forall_mem_cons.mpr ⟨am_GW_in (List.mem_of_getElem? (i := 470) (by decide +kernel)) rfl, List.forall_mem_cons.mpr ⟨am_GW_in (List.mem_of_getElem? (i := 472) (by decide +kernel)) rfl, List.forall_mem_cons.mpr ⟨am_GW_in (List.mem_of_getElem? (i := 474) (by decide +kernel)) rfl, List.forall_mem_cons.mpr ⟨am_GW_in (List.mem_of_getElem? (i := 476) (by decide +kernel)) rfl, List.forall_mem_cons.mpr ⟨am_GW_in (List.mem_of_getElem? (i := 478) (by decide +kernel)) rfl, List.forall_mem_cons.mpr ⟨am_GW_in (List.mem_of_getElem? (i := 480) (by decide +kernel)) rfl, List.forall_mem_cons.mpr ⟨am_GW_in (List.mem_of_getElem? (i := 482) (by decide +kernel)) rfl, List.forall_mem_cons.mpr ⟨am_GW_in (List.mem_of_getElem? (i := 484) (by decide +kernel)) rfl, List.forall_mem_cons.mpr ⟨am_GW_in (List.mem_of_getElem? (i := 486) (by decide +kernel)) rfl, List.forall_mem_cons.mpr ⟨am_GW_in (List.mem_of_getElem? (i := 488) (by decide +kernel)) rfl, List.forall_mem_cons.mpr ⟨am_GW_in (List.mem_of_getElem? (i := 490) (by decide +kernel)) rfl, List.forall_mem_cons.mpr ⟨am_GW_in (List.mem_of_getElem? (i := 492) (by decide +kernel)) rfl, List.forall_mem_cons.mpr ⟨am_GW_in (List.mem_of_getElem? (i := 494) (by decide +kernel)) rfl, List.forall_mem_cons.mpr ⟨am_GW_in (List.mem_of_getElem? (i := 496) (by decide +kernel)) rfl, List.forall_mem_cons.mpr ⟨am_GW_in (List.mem_of_getElem? (i := 498) (by decide +kernel)) rfl, List.forall_mem_cons.mpr ⟨am_GW_in (List.mem_of_getElem? (i := 500) (by decide +kernel)) rfl, List.forall_mem_cons.mpr ⟨am_GW_in (List.mem_of_getElem? (i := 502) (by decide +kernel)) rfl, List.forall_mem_cons.mpr ⟨am_GW_in (List.mem_of_getElem? (i := 504) (by decide +kernel)) rfl, List.forall_mem_cons.mpr ⟨am_GW_in (List.mem_of_getElem? (i := 506) (by decide +kernel)) rfl, List.forall_mem_cons.mpr ⟨am_GW_in (List.mem_of_getElem? (i := 508) (by decide +kernel)) rfl, List.forall_mem_cons.mpr ⟨am_GW_in (List.mem_of_getElem? (i := 510) (by decide +kernel)) rfl, List.forall_mem_cons.mpr ⟨am_GW_in (List.mem_of_getElem? (i := 512) (by decide +kernel)) rfl, List.forall_mem_cons.mpr ⟨am_GW_in (List.mem_of_getElem? (i := 514) (by decide +kernel)) rfl, List.forall_mem_cons.mpr ⟨am_GW_in (List.mem_of_getElem? (i := 516) (by decide +kernel)) rfl, fun _ h => absurd h List.not_mem_nil⟩⟩⟩⟩⟩⟩⟩⟩⟩⟩⟩⟩⟩⟩⟩⟩⟩⟩⟩⟩⟩⟩⟩⟩⟩⟩⟩
set_option maxRecDepth 100000 in
theorem am_kl4 : am_Kls 4 ("FeedbackFlowModel", am_T4, 27) := ⟨am_lay4, ⟨am_y4, am_y4_ok, by decide +kernel⟩, am_n4, am_GW_in (List.mem_of_getElem? (i := 432) (by decide +kernel)) rfl, am_in_M, rfl⟩
set_option maxRecDepth 100000 in
theorem am_cl_ok {ci : Nat} {C : String} {T : u_T} {N : Nat} (h : vwCl[ci]? = some (C, T, N)) : am_Kls ci (C, T, N) := by
  match ci, h with
  | 0, h => cases h; exact am_kl0
  | 1, h => cases h; exact am_kl1
  | 2, h => cases h; exact am_kl2
  | 3, h => cases h; exact am_kl3
  | 4, h => cases h; exact am_kl4
  | k + 5, h => simp [vwCl] at h
set_option maxRecDepth 100000 in
theorem am_df_map (b B ci k : Nat) : vp_V (am_df ci) k = vp_V ((am_df ci).map (am_v b B)) k := by
  have : (am_df ci).map (am_v b B) = am_df ci := by
    unfold am_df
    split <;> rfl
  rw [this]
theorem am_ow_eq {mi : Nat} {M : am_M} (hM : am_MT[mi]? = some M) : am_ow mi = M.2.1.1 := by
  unfold am_ow
  rw [hM]
/-- every method's class is the one of its number -/
theorem am_own_all : ∀ M ∈ am_MT, am_CN[M.2.1.1]? = some M.1.1.cls := by
  unfold am_MT
  exact List.forall_mem_cons.mpr ⟨rfl, List.forall_mem_cons.mpr ⟨rfl, List.forall_mem_cons.mpr ⟨rfl, List.forall_mem_cons.mpr ⟨rfl, List.forall_mem_cons.mpr ⟨rfl, List.forall_mem_cons.mpr ⟨rfl, List.forall_mem_cons.mpr ⟨rfl, List.forall_mem_cons.mpr ⟨rfl, List.forall_mem_cons.mpr ⟨rfl, List.forall_mem_cons.mpr ⟨rfl, List.forall_mem_cons.mpr ⟨rfl, List.forall_mem_cons.mpr ⟨rfl, List.forall_mem_cons.mpr ⟨rfl, List.forall_mem_cons.mpr ⟨rfl, List.forall_mem_cons.mpr ⟨rfl, List.forall_mem_cons.mpr ⟨rfl, List.forall_mem_cons.mpr ⟨rfl, List.forall_mem_cons.mpr ⟨rfl, List.forall_mem_cons.mpr ⟨rfl, List.forall_mem_cons.mpr ⟨rfl, List.forall_mem_cons.mpr ⟨rfl, List.forall_mem_cons.mpr ⟨rfl, List.forall_mem_cons.mpr ⟨rfl, List.forall_mem_cons.mpr ⟨rfl, List.forall_mem_cons.mpr ⟨rfl, List.forall_mem_cons.mpr ⟨rfl, List.forall_mem_cons.mpr ⟨rfl, List.forall_mem_cons.mpr ⟨rfl, List.forall_mem_cons.mpr ⟨rfl, List.forall_mem_cons.mpr ⟨rfl, List.forall_mem_cons.mpr ⟨rfl, List.forall_mem_cons.mpr ⟨rfl, List.forall_mem_cons.mpr ⟨rfl, List.forall_mem_cons.mpr ⟨rfl, List.forall_mem_cons.mpr ⟨rfl, List.forall_mem_cons.mpr ⟨rfl, List.forall_mem_cons.mpr ⟨rfl, List.forall_mem_cons.mpr ⟨rfl, List.forall_mem_cons.mpr ⟨rfl, List.forall_mem_cons.mpr ⟨rfl, List.forall_mem_cons.mpr ⟨rfl, List.forall_mem_cons.mpr ⟨rfl, List.forall_mem_cons.mpr ⟨rfl, List.forall_mem_cons.mpr ⟨rfl, List.forall_mem_cons.mpr ⟨rfl, List.forall_mem_cons.mpr ⟨rfl, List.forall_mem_cons.mpr ⟨rfl, List.forall_mem_cons.mpr ⟨rfl, List.forall_mem_cons.mpr ⟨rfl, List.forall_mem_cons.mpr ⟨rfl, List.forall_mem_cons.mpr ⟨rfl, List.forall_mem_cons.mpr ⟨rfl, List.forall_mem_cons.mpr ⟨rfl, List.forall_mem_cons.mpr ⟨rfl, List.forall_mem_cons.mpr ⟨rfl, List.forall_mem_cons.mpr ⟨rfl, List.forall_mem_cons.mpr ⟨rfl, List.forall_mem_cons.mpr ⟨rfl, List.forall_mem_cons.mpr ⟨rfl, List.forall_mem_cons.mpr ⟨rfl, List.forall_mem_cons.mpr ⟨rfl, List.forall_mem_cons.mpr ⟨rfl, List.forall_mem_cons.mpr ⟨rfl, List.forall_mem_cons.mpr ⟨rfl, List.forall_mem_cons.mpr ⟨rfl, List.forall_mem_cons.mpr ⟨rfl, List.forall_mem_cons.mpr ⟨rfl, List.forall_mem_cons.mpr ⟨rfl, List.forall_mem_cons.mpr ⟨rfl, List.forall_mem_cons.mpr ⟨rfl, List.forall_mem_cons.mpr ⟨rfl, List.forall_mem_cons.mpr ⟨rfl, List.forall_mem_cons.mpr ⟨rfl, List.forall_mem_cons.mpr ⟨rfl, List.forall_mem_cons.mpr ⟨rfl, List.forall_mem_cons.mpr ⟨rfl, List.forall_mem_cons.mpr ⟨rfl, List.forall_mem_cons.mpr ⟨rfl, List.forall_mem_cons.mpr ⟨rfl, List.forall_mem_cons.mpr ⟨rfl, List.forall_mem_cons.mpr ⟨rfl, List.forall_mem_cons.mpr ⟨rfl, List.forall_mem_cons.mpr ⟨rfl, List.forall_mem_cons.mpr ⟨rfl, List.forall_mem_cons.mpr ⟨rfl, List.forall_mem_cons.mpr ⟨rfl, List.forall_mem_cons.mpr ⟨rfl, List.forall_mem_cons.mpr ⟨rfl, List.forall_mem_cons.mpr ⟨rfl, List.forall_mem_cons.mpr ⟨rfl, List.forall_mem_cons.mpr ⟨rfl, List.forall_mem_cons.mpr ⟨rfl, List.forall_mem_cons.mpr ⟨rfl, List.forall_mem_cons.mpr ⟨rfl, List.forall_mem_cons.mpr ⟨rfl, List.forall_mem_cons.mpr ⟨rfl, List.forall_mem_cons.mpr ⟨rfl, List.forall_mem_cons.mpr ⟨rfl, List.forall_mem_cons.mpr ⟨rfl, List.forall_mem_cons.mpr ⟨rfl, List.forall_mem_cons.mpr ⟨rfl, List.forall_mem_cons.mpr ⟨rfl, List.forall_mem_cons.mpr ⟨rfl, List.forall_mem_cons.mpr ⟨rfl, List.forall_mem_cons.mpr ⟨rfl, fun _ h => absurd h List.not_mem_nil⟩⟩⟩⟩⟩⟩⟩⟩⟩⟩⟩⟩⟩⟩⟩⟩⟩⟩⟩⟩⟩⟩⟩⟩⟩⟩⟩⟩⟩⟩⟩⟩⟩⟩⟩⟩⟩⟩⟩⟩⟩⟩⟩⟩⟩⟩⟩⟩⟩⟩⟩⟩⟩⟩⟩⟩⟩⟩⟩⟩⟩⟩⟩⟩⟩⟩⟩⟩⟩⟩⟩⟩⟩⟩⟩⟩⟩⟩⟩⟩⟩⟩⟩⟩⟩⟩⟩⟩⟩⟩⟩⟩⟩⟩⟩⟩⟩⟩⟩⟩⟩⟩⟩⟩⟩
set_option maxRecDepth 100000 in
theorem am_fR_ok {mi i ci k cd : Nat} {M : am_M} (hM : am_MT[mi]? = some M) (hr : am_r2 am_fR (am_ow mi) i = some (ci, k, cd)) : ∃ (C : String) (T : u_T) (N : Nat), vwCl[ci]? = some (C, T, N) ∧ k < N ∧ ((Cond.fieldLink M.1.1.cls i (T k).1 (T k).2.1 (T k).2.2.1 ∈ am_GW) ∨ ∃ host, Cond.fieldLinkNest M.1.1.cls i (T k).1 (T k).2.1 (T k).2.2.1 host ∈ am_NW) ∧ (T k).2.2.2 = decide (3 ≤ cd) ∧ (∃ ty, parseFieldDescriptor (T k).2.2.1 = some ty ∧ am_tok ty (cd % 3)) ∧ (cd = 5 → (T k).1 = M.1.1.cls ∧ Cond.fieldLink M.1.1.cls i (T k).1 (T k).2.1 (T k).2.2.1 ∈ am_GW) := by
  obtain ⟨t, h1, h2⟩ := am_r2_mem hr
  obtain ⟨own, C, T, N, e1, e2, e3, e4, e5, e6, e7⟩ := am_fR_all _ h1 _ h2
  rw [am_ow_eq hM] at e1
  have he : own = M.1.1.cls := Option.some.inj (e1.symm.trans (am_own_all M (List.mem_of_getElem? hM)))
  subst he
  exact ⟨C, T, N, e2, e3, e4, e5, e6, e7⟩
theorem am_mR_ex {o i mi2 : Nat} (hr : am_r2 am_mR o i = some mi2) : ∃ M2, am_MT[mi2]? = some M2 ∧ am_Mok M2 := by
  obtain ⟨t, h1, h2⟩ := am_r2_mem hr
  obtain ⟨own, M, e1, e2, e3, e4⟩ := am_mR_all _ h1 _ h2
  exact ⟨M, e2, am_MT_ok e2 e3⟩
theorem am_mR_ok {mi i mi2 : Nat} {M M2 : am_M} (hM : am_MT[mi]? = some M) (hM2 : am_MT[mi2]? = some M2) (hr : am_r2 am_mR (am_ow mi) i = some mi2) : (Cond.methodLink M.1.1.cls i M2.1.1 ∈ am_GW) ∨ ∃ host, Cond.methodLinkNest M.1.1.cls i M2.1.1 host ∈ am_NW := by
  obtain ⟨t, h1, h2⟩ := am_r2_mem hr
  obtain ⟨own, M', e1, e2, e3, e4⟩ := am_mR_all _ h1 _ h2
  rw [am_ow_eq hM] at e1
  have he : own = M.1.1.cls := Option.some.inj (e1.symm.trans (am_own_all M (List.mem_of_getElem? hM)))
  subst he
  have he2 : M' = M2 := Option.some.inj (e2.symm.trans hM2)
  subst he2
  exact e4
theorem am_cR_ok {mi i ci : Nat} {M : am_M} (hM : am_MT[mi]? = some M) (hr : am_r2 am_cR (am_ow mi) i = some ci) : ∃ (C : String) (T : u_T) (N : Nat), vwCl[ci]? = some (C, T, N) ∧ Cond.classLink M.1.1.cls i C ∈ am_GW := by
  obtain ⟨t, h1, h2⟩ := am_r2_mem hr
  obtain ⟨own, C, T, N, e1, e2, e3⟩ := am_cR_all _ h1 _ h2
  rw [am_ow_eq hM] at e1
  have he : own = M.1.1.cls := Option.some.inj (e1.symm.trans (am_own_all M (List.mem_of_getElem? hM)))
  subst he
  exact ⟨C, T, N, e2, e3⟩
theorem am_nR_ao : ∀ q ∈ am_nR, ∀ x ∈ q.2, ∀ C T N, vwCl[x.2]? = some (C, T, N) → C ∈ am_AO := by
  unfold am_nR
  intro q hq x hx C T N h
  simp at hq
  subst hq
  simp at hx
  rcases hx with rfl | rfl <;> · cases h; decide
theorem am_nR_ok {mi i ci : Nat} {M : am_M} (hM : am_MT[mi]? = some M) (hr : am_r2 am_nR (am_ow mi) i = some ci) : ∃ (C : String) (T : u_T) (N : Nat), vwCl[ci]? = some (C, T, N) ∧ Cond.classLink M.1.1.cls i C ∈ am_GW ∧ C ∈ am_AO := by
  obtain ⟨t, h1, h2⟩ := am_r2_mem hr
  obtain ⟨own, C, T, N, e1, e2, e3⟩ := am_nR_all _ h1 _ h2
  rw [am_ow_eq hM] at e1
  have he : own = M.1.1.cls := Option.some.inj (e1.symm.trans (am_own_all M (List.mem_of_getElem? hM)))
  subst he
  exact ⟨C, T, N, e2, e3, am_nR_ao _ h1 _ h2 _ _ _ e2⟩
theorem am_kR_ok {mi i : Nat} {v : Int32} {M : am_M} (hM : am_MT[mi]? = some M) (hr : am_r2 am_kR (am_ow mi) i = some v) : Cond.constant M.1.1.cls i v ∈ am_GW := by
  obtain ⟨t, h1, h2⟩ := am_r2_mem hr
  obtain ⟨own, e1, e2⟩ := am_kR_all _ h1 _ h2
  rw [am_ow_eq hM] at e1
  have he : own = M.1.1.cls := Option.some.inj (e1.symm.trans (am_own_all M (List.mem_of_getElem? hM)))
  subst he
  exact e2
theorem am_oR_ok {mi i : Nat} {M : am_M} (hM : am_MT[mi]? = some M) (hr : am_r2 am_oR (am_ow mi) i = some 0) : Cond.methodLink M.1.1.cls i Lib.objectInit ∈ am_GW ∧ Cond.instanceMethod Lib.objectInit ∈ am_GW ∧ Cond.code Lib.objectInit ⟨#[0xb1]⟩ 1 none ∈ am_GW := by
  obtain ⟨t, h1, h2⟩ := am_r2_mem hr
  obtain ⟨own, e1, e2⟩ := am_oR_all _ h1 _ h2
  rw [am_ow_eq hM] at e1
  have he : own = M.1.1.cls := Option.some.inj (e1.symm.trans (am_own_all M (List.mem_of_getElem? hM)))
  subst he
  exact ⟨e2, am_oi1, am_oi2⟩
theorem am_cl_cn {ci : Nat} {r : vw_C} (h : vwCl[ci]? = some r) : am_CN[ci]? = some r.1 := by
  match ci, h with
  | 0, h => cases h; rfl
  | 1, h => cases h; rfl
  | 2, h => cases h; rfl
  | 3, h => cases h; rfl
  | 4, h => cases h; rfl
  | k + 5, h => simp [vwCl] at h
set_option maxRecDepth 100000 in
theorem am_own_cls {mi : Nat} {M : am_M} {r : vw_C} (hM : am_MT[mi]? = some M) (h : vwCl[M.2.1.1]? = some r) : r.1 = M.1.1.cls := Option.some.inj ((am_cl_cn h).symm.trans (am_own_all M (List.mem_of_getElem? hM)))
