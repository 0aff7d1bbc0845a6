-- ===== PART A: goes FIRST, ahead of the names: the tables' words, and 'selects' of the private methods out of them =====
/-- a private method of a class that the tables say can be made, by its rows of tables_1 -/
def lw_okq (q : MethodName × Nat) : Prop := (q.1.cls ≠ "java/lang/invoke/MethodHandle" ∧ q.1.cls ≠ "java/lang/invoke/VarHandle") ∧ Cond.instantiable q.1.cls q.2 ∈ tables_1 ∧ Cond.privateMethod q.1 ∈ tables_1 ∧ Cond.instanceMethod q.1 ∈ tables_1
theorem lw_p0 : lw_okq (⟨"FeedbackFlow$Graph", "addVertex", "(III)I"⟩, 5) := ⟨⟨by decide +kernel, by decide +kernel⟩, List.mem_of_getElem? (i := 16) (by decide +kernel), List.mem_of_getElem? (i := 153) (by decide +kernel), List.mem_of_getElem? (i := 154) (by decide +kernel)⟩
theorem lw_p1 : lw_okq (⟨"FeedbackFlow$Vertex", "become", "(III)V"⟩, 12) := ⟨⟨by decide +kernel, by decide +kernel⟩, List.mem_of_getElem? (i := 25) (by decide +kernel), List.mem_of_getElem? (i := 157) (by decide +kernel), List.mem_of_getElem? (i := 158) (by decide +kernel)⟩
theorem lw_p2 : lw_okq (⟨"FeedbackFlow$Graph", "hasVertex", "(I)Z"⟩, 5) := ⟨⟨by decide +kernel, by decide +kernel⟩, List.mem_of_getElem? (i := 16) (by decide +kernel), List.mem_of_getElem? (i := 171) (by decide +kernel), List.mem_of_getElem? (i := 172) (by decide +kernel)⟩
theorem lw_p3 : lw_okq (⟨"FeedbackFlow$Graph", "mayLead", "(II)Z"⟩, 5) := ⟨⟨by decide +kernel, by decide +kernel⟩, List.mem_of_getElem? (i := 16) (by decide +kernel), List.mem_of_getElem? (i := 175) (by decide +kernel), List.mem_of_getElem? (i := 176) (by decide +kernel)⟩
theorem lw_p4 : lw_okq (⟨"FeedbackFlow$Vertex", "inDepth", "()I"⟩, 12) := ⟨⟨by decide +kernel, by decide +kernel⟩, List.mem_of_getElem? (i := 25) (by decide +kernel), List.mem_of_getElem? (i := 179) (by decide +kernel), List.mem_of_getElem? (i := 180) (by decide +kernel)⟩
theorem lw_p5 : lw_okq (⟨"FeedbackFlow$Vertex", "outDepth", "()I"⟩, 12) := ⟨⟨by decide +kernel, by decide +kernel⟩, List.mem_of_getElem? (i := 25) (by decide +kernel), List.mem_of_getElem? (i := 183) (by decide +kernel), List.mem_of_getElem? (i := 184) (by decide +kernel)⟩
theorem lw_p6 : lw_okq (⟨"FeedbackFlow$Graph", "addEdge", "(II)I"⟩, 5) := ⟨⟨by decide +kernel, by decide +kernel⟩, List.mem_of_getElem? (i := 16) (by decide +kernel), List.mem_of_getElem? (i := 187) (by decide +kernel), List.mem_of_getElem? (i := 188) (by decide +kernel)⟩
theorem lw_p7 : lw_okq (⟨"FeedbackFlow$Graph", "isWhole", "()Z"⟩, 5) := ⟨⟨by decide +kernel, by decide +kernel⟩, List.mem_of_getElem? (i := 16) (by decide +kernel), List.mem_of_getElem? (i := 195) (by decide +kernel), List.mem_of_getElem? (i := 196) (by decide +kernel)⟩
theorem lw_p8 : lw_okq (⟨"FeedbackFlow$Graph", "reachedFrom", "(I)I"⟩, 5) := ⟨⟨by decide +kernel, by decide +kernel⟩, List.mem_of_getElem? (i := 16) (by decide +kernel), List.mem_of_getElem? (i := 199) (by decide +kernel), List.mem_of_getElem? (i := 200) (by decide +kernel)⟩
theorem lw_p9 : lw_okq (⟨"FeedbackFlow", "isRunningInput", "(I)Z"⟩, 5) := ⟨⟨by decide +kernel, by decide +kernel⟩, List.mem_of_getElem? (i := 8) (by decide +kernel), List.mem_of_getElem? (i := 207) (by decide +kernel), List.mem_of_getElem? (i := 208) (by decide +kernel)⟩
theorem lw_p10 : lw_okq (⟨"FeedbackFlow$Graph", "hasRoom", "(II)Z"⟩, 5) := ⟨⟨by decide +kernel, by decide +kernel⟩, List.mem_of_getElem? (i := 16) (by decide +kernel), List.mem_of_getElem? (i := 211) (by decide +kernel), List.mem_of_getElem? (i := 212) (by decide +kernel)⟩
theorem lw_p11 : lw_okq (⟨"FeedbackFlow", "send", "(III)I"⟩, 5) := ⟨⟨by decide +kernel, by decide +kernel⟩, List.mem_of_getElem? (i := 8) (by decide +kernel), List.mem_of_getElem? (i := 218) (by decide +kernel), List.mem_of_getElem? (i := 219) (by decide +kernel)⟩
theorem lw_p12 : lw_okq (⟨"FeedbackFlow$Edge", "append", "(II)V"⟩, 5) := ⟨⟨by decide +kernel, by decide +kernel⟩, List.mem_of_getElem? (i := 82) (by decide +kernel), List.mem_of_getElem? (i := 222) (by decide +kernel), List.mem_of_getElem? (i := 223) (by decide +kernel)⟩
theorem lw_p13 : lw_okq (⟨"FeedbackFlow$Graph", "hasEdge", "(I)Z"⟩, 5) := ⟨⟨by decide +kernel, by decide +kernel⟩, List.mem_of_getElem? (i := 16) (by decide +kernel), List.mem_of_getElem? (i := 238) (by decide +kernel), List.mem_of_getElem? (i := 239) (by decide +kernel)⟩
theorem lw_p14 : lw_okq (⟨"FeedbackFlow$Vertex", "targetsFor", "(I)I"⟩, 12) := ⟨⟨by decide +kernel, by decide +kernel⟩, List.mem_of_getElem? (i := 25) (by decide +kernel), List.mem_of_getElem? (i := 248) (by decide +kernel), List.mem_of_getElem? (i := 249) (by decide +kernel)⟩
theorem lw_p15 : lw_okq (⟨"FeedbackFlow$Vertex", "canGather", "(I)Z"⟩, 12) := ⟨⟨by decide +kernel, by decide +kernel⟩, List.mem_of_getElem? (i := 25) (by decide +kernel), List.mem_of_getElem? (i := 252) (by decide +kernel), List.mem_of_getElem? (i := 253) (by decide +kernel)⟩
def lw_privs_1 : List (MethodName × Nat) := [(⟨"FeedbackFlow$Graph", "addVertex", "(III)I"⟩, 5), (⟨"FeedbackFlow$Vertex", "become", "(III)V"⟩, 12), (⟨"FeedbackFlow$Graph", "hasVertex", "(I)Z"⟩, 5), (⟨"FeedbackFlow$Graph", "mayLead", "(II)Z"⟩, 5), (⟨"FeedbackFlow$Vertex", "inDepth", "()I"⟩, 12), (⟨"FeedbackFlow$Vertex", "outDepth", "()I"⟩, 12), (⟨"FeedbackFlow$Graph", "addEdge", "(II)I"⟩, 5), (⟨"FeedbackFlow$Graph", "isWhole", "()Z"⟩, 5), (⟨"FeedbackFlow$Graph", "reachedFrom", "(I)I"⟩, 5), (⟨"FeedbackFlow", "isRunningInput", "(I)Z"⟩, 5), (⟨"FeedbackFlow$Graph", "hasRoom", "(II)Z"⟩, 5), (⟨"FeedbackFlow", "send", "(III)I"⟩, 5), (⟨"FeedbackFlow$Edge", "append", "(II)V"⟩, 5), (⟨"FeedbackFlow$Graph", "hasEdge", "(I)Z"⟩, 5), (⟨"FeedbackFlow$Vertex", "targetsFor", "(I)I"⟩, 12), (⟨"FeedbackFlow$Vertex", "canGather", "(I)Z"⟩, 12)]
theorem lw_r1 : ∀ q ∈ lw_privs_1, lw_okq q := List.forall_mem_cons.mpr ⟨lw_p0, List.forall_mem_cons.mpr ⟨lw_p1, List.forall_mem_cons.mpr ⟨lw_p2, List.forall_mem_cons.mpr ⟨lw_p3, List.forall_mem_cons.mpr ⟨lw_p4, List.forall_mem_cons.mpr ⟨lw_p5, List.forall_mem_cons.mpr ⟨lw_p6, List.forall_mem_cons.mpr ⟨lw_p7, List.forall_mem_cons.mpr ⟨lw_p8, List.forall_mem_cons.mpr ⟨lw_p9, List.forall_mem_cons.mpr ⟨lw_p10, List.forall_mem_cons.mpr ⟨lw_p11, List.forall_mem_cons.mpr ⟨lw_p12, List.forall_mem_cons.mpr ⟨lw_p13, List.forall_mem_cons.mpr ⟨lw_p14, List.forall_mem_cons.mpr ⟨lw_p15, fun _ h => absurd h List.not_mem_nil⟩⟩⟩⟩⟩⟩⟩⟩⟩⟩⟩⟩⟩⟩⟩⟩
theorem lw_p16 : lw_okq (⟨"FeedbackFlow$Vertex", "slotOf", "(I)I"⟩, 12) := ⟨⟨by decide +kernel, by decide +kernel⟩, List.mem_of_getElem? (i := 25) (by decide +kernel), List.mem_of_getElem? (i := 256) (by decide +kernel), List.mem_of_getElem? (i := 257) (by decide +kernel)⟩
theorem lw_p17 : lw_okq (⟨"FeedbackFlow$Edge", "dropFirst", "()V"⟩, 5) := ⟨⟨by decide +kernel, by decide +kernel⟩, List.mem_of_getElem? (i := 82) (by decide +kernel), List.mem_of_getElem? (i := 260) (by decide +kernel), List.mem_of_getElem? (i := 261) (by decide +kernel)⟩
theorem lw_p18 : lw_okq (⟨"FeedbackFlow$Vertex", "gather", "(II)V"⟩, 12) := ⟨⟨by decide +kernel, by decide +kernel⟩, List.mem_of_getElem? (i := 25) (by decide +kernel), List.mem_of_getElem? (i := 264) (by decide +kernel), List.mem_of_getElem? (i := 265) (by decide +kernel)⟩
theorem lw_p19 : lw_okq (⟨"FeedbackFlow$Vertex", "makeSlot", "(I)I"⟩, 12) := ⟨⟨by decide +kernel, by decide +kernel⟩, List.mem_of_getElem? (i := 25) (by decide +kernel), List.mem_of_getElem? (i := 268) (by decide +kernel), List.mem_of_getElem? (i := 269) (by decide +kernel)⟩
theorem lw_p20 : lw_okq (⟨"FeedbackFlow$Vertex", "passedOn", "(I)I"⟩, 12) := ⟨⟨by decide +kernel, by decide +kernel⟩, List.mem_of_getElem? (i := 25) (by decide +kernel), List.mem_of_getElem? (i := 272) (by decide +kernel), List.mem_of_getElem? (i := 273) (by decide +kernel)⟩
theorem lw_p21 : lw_okq (⟨"FeedbackFlow$Vertex", "timeBehind", "(I)I"⟩, 12) := ⟨⟨by decide +kernel, by decide +kernel⟩, List.mem_of_getElem? (i := 25) (by decide +kernel), List.mem_of_getElem? (i := 276) (by decide +kernel), List.mem_of_getElem? (i := 277) (by decide +kernel)⟩
theorem lw_p22 : lw_okq (⟨"FeedbackFlow$Graph", "vertexOfRequest", "(I)I"⟩, 5) := ⟨⟨by decide +kernel, by decide +kernel⟩, List.mem_of_getElem? (i := 16) (by decide +kernel), List.mem_of_getElem? (i := 288) (by decide +kernel), List.mem_of_getElem? (i := 289) (by decide +kernel)⟩
theorem lw_p23 : lw_okq (⟨"FeedbackFlow$Graph", "slotOfRequest", "(I)I"⟩, 5) := ⟨⟨by decide +kernel, by decide +kernel⟩, List.mem_of_getElem? (i := 16) (by decide +kernel), List.mem_of_getElem? (i := 292) (by decide +kernel), List.mem_of_getElem? (i := 293) (by decide +kernel)⟩
theorem lw_p24 : lw_okq (⟨"FeedbackFlow$Graph", "countAhead", "(II)I"⟩, 5) := ⟨⟨by decide +kernel, by decide +kernel⟩, List.mem_of_getElem? (i := 16) (by decide +kernel), List.mem_of_getElem? (i := 301) (by decide +kernel), List.mem_of_getElem? (i := 302) (by decide +kernel)⟩
theorem lw_p25 : lw_okq (⟨"FeedbackFlow$Graph", "countMessagesAhead", "(LFeedbackFlow$Edge;II)I"⟩, 5) := ⟨⟨by decide +kernel, by decide +kernel⟩, List.mem_of_getElem? (i := 16) (by decide +kernel), List.mem_of_getElem? (i := 305) (by decide +kernel), List.mem_of_getElem? (i := 306) (by decide +kernel)⟩
theorem lw_p26 : lw_okq (⟨"FeedbackFlow$Edge", "isFirstOfMoment", "(I)Z"⟩, 5) := ⟨⟨by decide +kernel, by decide +kernel⟩, List.mem_of_getElem? (i := 82) (by decide +kernel), List.mem_of_getElem? (i := 309) (by decide +kernel), List.mem_of_getElem? (i := 310) (by decide +kernel)⟩
theorem lw_p27 : lw_okq (⟨"FeedbackFlow$Graph", "isAhead", "(IIII)Z"⟩, 5) := ⟨⟨by decide +kernel, by decide +kernel⟩, List.mem_of_getElem? (i := 16) (by decide +kernel), List.mem_of_getElem? (i := 313) (by decide +kernel), List.mem_of_getElem? (i := 314) (by decide +kernel)⟩
theorem lw_p28 : lw_okq (⟨"FeedbackFlow$Graph", "follow", "(II)V"⟩, 5) := ⟨⟨by decide +kernel, by decide +kernel⟩, List.mem_of_getElem? (i := 16) (by decide +kernel), List.mem_of_getElem? (i := 324) (by decide +kernel), List.mem_of_getElem? (i := 325) (by decide +kernel)⟩
theorem lw_p29 : lw_okq (⟨"FeedbackFlow$Graph", "followEdges", "()Z"⟩, 5) := ⟨⟨by decide +kernel, by decide +kernel⟩, List.mem_of_getElem? (i := 16) (by decide +kernel), List.mem_of_getElem? (i := 329) (by decide +kernel), List.mem_of_getElem? (i := 330) (by decide +kernel)⟩
theorem lw_p30 : lw_okq (⟨"FeedbackFlow$Graph", "countRequestsAhead", "(III)I"⟩, 5) := ⟨⟨by decide +kernel, by decide +kernel⟩, List.mem_of_getElem? (i := 16) (by decide +kernel), List.mem_of_getElem? (i := 334) (by decide +kernel), List.mem_of_getElem? (i := 335) (by decide +kernel)⟩
theorem lw_p31 : lw_okq (⟨"FeedbackFlow$Vertex", "dropSlot", "(I)V"⟩, 12) := ⟨⟨by decide +kernel, by decide +kernel⟩, List.mem_of_getElem? (i := 25) (by decide +kernel), List.mem_of_getElem? (i := 343) (by decide +kernel), List.mem_of_getElem? (i := 344) (by decide +kernel)⟩
def lw_privs_2 : List (MethodName × Nat) := [(⟨"FeedbackFlow$Vertex", "slotOf", "(I)I"⟩, 12), (⟨"FeedbackFlow$Edge", "dropFirst", "()V"⟩, 5), (⟨"FeedbackFlow$Vertex", "gather", "(II)V"⟩, 12), (⟨"FeedbackFlow$Vertex", "makeSlot", "(I)I"⟩, 12), (⟨"FeedbackFlow$Vertex", "passedOn", "(I)I"⟩, 12), (⟨"FeedbackFlow$Vertex", "timeBehind", "(I)I"⟩, 12), (⟨"FeedbackFlow$Graph", "vertexOfRequest", "(I)I"⟩, 5), (⟨"FeedbackFlow$Graph", "slotOfRequest", "(I)I"⟩, 5), (⟨"FeedbackFlow$Graph", "countAhead", "(II)I"⟩, 5), (⟨"FeedbackFlow$Graph", "countMessagesAhead", "(LFeedbackFlow$Edge;II)I"⟩, 5), (⟨"FeedbackFlow$Edge", "isFirstOfMoment", "(I)Z"⟩, 5), (⟨"FeedbackFlow$Graph", "isAhead", "(IIII)Z"⟩, 5), (⟨"FeedbackFlow$Graph", "follow", "(II)V"⟩, 5), (⟨"FeedbackFlow$Graph", "followEdges", "()Z"⟩, 5), (⟨"FeedbackFlow$Graph", "countRequestsAhead", "(III)I"⟩, 5), (⟨"FeedbackFlow$Vertex", "dropSlot", "(I)V"⟩, 12)]
theorem lw_r2 : ∀ q ∈ lw_privs_2, lw_okq q := List.forall_mem_cons.mpr ⟨lw_p16, List.forall_mem_cons.mpr ⟨lw_p17, List.forall_mem_cons.mpr ⟨lw_p18, List.forall_mem_cons.mpr ⟨lw_p19, List.forall_mem_cons.mpr ⟨lw_p20, List.forall_mem_cons.mpr ⟨lw_p21, List.forall_mem_cons.mpr ⟨lw_p22, List.forall_mem_cons.mpr ⟨lw_p23, List.forall_mem_cons.mpr ⟨lw_p24, List.forall_mem_cons.mpr ⟨lw_p25, List.forall_mem_cons.mpr ⟨lw_p26, List.forall_mem_cons.mpr ⟨lw_p27, List.forall_mem_cons.mpr ⟨lw_p28, List.forall_mem_cons.mpr ⟨lw_p29, List.forall_mem_cons.mpr ⟨lw_p30, List.forall_mem_cons.mpr ⟨lw_p31, fun _ h => absurd h List.not_mem_nil⟩⟩⟩⟩⟩⟩⟩⟩⟩⟩⟩⟩⟩⟩⟩⟩
theorem lw_p32 : lw_okq (⟨"FeedbackFlow$Edge", "countMoments", "()I"⟩, 5) := ⟨⟨by decide +kernel, by decide +kernel⟩, List.mem_of_getElem? (i := 82) (by decide +kernel), List.mem_of_getElem? (i := 364) (by decide +kernel), List.mem_of_getElem? (i := 365) (by decide +kernel)⟩
theorem lw_p33 : lw_okq (⟨"FeedbackFlowModel", "isVertex", "(I)Z"⟩, 27) := ⟨⟨by decide +kernel, by decide +kernel⟩, List.mem_of_getElem? (i := 373) (by decide +kernel), List.mem_of_getElem? (i := 470) (by decide +kernel), List.mem_of_getElem? (i := 471) (by decide +kernel)⟩
theorem lw_p34 : lw_okq (⟨"FeedbackFlowModel", "outDepth", "(I)I"⟩, 27) := ⟨⟨by decide +kernel, by decide +kernel⟩, List.mem_of_getElem? (i := 373) (by decide +kernel), List.mem_of_getElem? (i := 474) (by decide +kernel), List.mem_of_getElem? (i := 475) (by decide +kernel)⟩
theorem lw_p35 : lw_okq (⟨"FeedbackFlowModel", "inDepth", "(I)I"⟩, 27) := ⟨⟨by decide +kernel, by decide +kernel⟩, List.mem_of_getElem? (i := 373) (by decide +kernel), List.mem_of_getElem? (i := 478) (by decide +kernel), List.mem_of_getElem? (i := 479) (by decide +kernel)⟩
theorem lw_p36 : lw_okq (⟨"FeedbackFlowModel", "ring", "(I)Z"⟩, 27) := ⟨⟨by decide +kernel, by decide +kernel⟩, List.mem_of_getElem? (i := 373) (by decide +kernel), List.mem_of_getElem? (i := 486) (by decide +kernel), List.mem_of_getElem? (i := 487) (by decide +kernel)⟩
theorem lw_p37 : lw_okq (⟨"FeedbackFlowModel", "noInput", "(I)Z"⟩, 27) := ⟨⟨by decide +kernel, by decide +kernel⟩, List.mem_of_getElem? (i := 373) (by decide +kernel), List.mem_of_getElem? (i := 494) (by decide +kernel), List.mem_of_getElem? (i := 495) (by decide +kernel)⟩
theorem lw_p38 : lw_okq (⟨"FeedbackFlowModel", "anyFull", "(II)Z"⟩, 27) := ⟨⟨by decide +kernel, by decide +kernel⟩, List.mem_of_getElem? (i := 373) (by decide +kernel), List.mem_of_getElem? (i := 498) (by decide +kernel), List.mem_of_getElem? (i := 499) (by decide +kernel)⟩
theorem lw_p39 : lw_okq (⟨"FeedbackFlowModel", "full", "(II)Z"⟩, 27) := ⟨⟨by decide +kernel, by decide +kernel⟩, List.mem_of_getElem? (i := 373) (by decide +kernel), List.mem_of_getElem? (i := 502) (by decide +kernel), List.mem_of_getElem? (i := 503) (by decide +kernel)⟩
theorem lw_p40 : lw_okq (⟨"FeedbackFlowModel", "sendAll", "(II)I"⟩, 27) := ⟨⟨by decide +kernel, by decide +kernel⟩, List.mem_of_getElem? (i := 373) (by decide +kernel), List.mem_of_getElem? (i := 506) (by decide +kernel), List.mem_of_getElem? (i := 507) (by decide +kernel)⟩
theorem lw_p41 : lw_okq (⟨"FeedbackFlowModel", "put1", "(II)I"⟩, 27) := ⟨⟨by decide +kernel, by decide +kernel⟩, List.mem_of_getElem? (i := 373) (by decide +kernel), List.mem_of_getElem? (i := 510) (by decide +kernel), List.mem_of_getElem? (i := 511) (by decide +kernel)⟩
theorem lw_p42 : lw_okq (⟨"FeedbackFlowModel", "isEdge", "(I)Z"⟩, 27) := ⟨⟨by decide +kernel, by decide +kernel⟩, List.mem_of_getElem? (i := 373) (by decide +kernel), List.mem_of_getElem? (i := 526) (by decide +kernel), List.mem_of_getElem? (i := 527) (by decide +kernel)⟩
theorem lw_p43 : lw_okq (⟨"FeedbackFlowModel", "refusal", "(III)I"⟩, 27) := ⟨⟨by decide +kernel, by decide +kernel⟩, List.mem_of_getElem? (i := 373) (by decide +kernel), List.mem_of_getElem? (i := 530) (by decide +kernel), List.mem_of_getElem? (i := 531) (by decide +kernel)⟩
theorem lw_p44 : lw_okq (⟨"FeedbackFlowModel", "last", "(I)I"⟩, 27) := ⟨⟨by decide +kernel, by decide +kernel⟩, List.mem_of_getElem? (i := 373) (by decide +kernel), List.mem_of_getElem? (i := 534) (by decide +kernel), List.mem_of_getElem? (i := 535) (by decide +kernel)⟩
theorem lw_p45 : lw_okq (⟨"FeedbackFlowModel", "requestFor", "(I)I"⟩, 27) := ⟨⟨by decide +kernel, by decide +kernel⟩, List.mem_of_getElem? (i := 373) (by decide +kernel), List.mem_of_getElem? (i := 538) (by decide +kernel), List.mem_of_getElem? (i := 539) (by decide +kernel)⟩
theorem lw_p46 : lw_okq (⟨"FeedbackFlowModel", "requestsOf", "(I)I"⟩, 27) := ⟨⟨by decide +kernel, by decide +kernel⟩, List.mem_of_getElem? (i := 373) (by decide +kernel), List.mem_of_getElem? (i := 542) (by decide +kernel), List.mem_of_getElem? (i := 543) (by decide +kernel)⟩
theorem lw_p47 : lw_okq (⟨"FeedbackFlowModel", "leading", "(II)I"⟩, 27) := ⟨⟨by decide +kernel, by decide +kernel⟩, List.mem_of_getElem? (i := 373) (by decide +kernel), List.mem_of_getElem? (i := 546) (by decide +kernel), List.mem_of_getElem? (i := 547) (by decide +kernel)⟩
def lw_privs_3 : List (MethodName × Nat) := [(⟨"FeedbackFlow$Edge", "countMoments", "()I"⟩, 5), (⟨"FeedbackFlowModel", "isVertex", "(I)Z"⟩, 27), (⟨"FeedbackFlowModel", "outDepth", "(I)I"⟩, 27), (⟨"FeedbackFlowModel", "inDepth", "(I)I"⟩, 27), (⟨"FeedbackFlowModel", "ring", "(I)Z"⟩, 27), (⟨"FeedbackFlowModel", "noInput", "(I)Z"⟩, 27), (⟨"FeedbackFlowModel", "anyFull", "(II)Z"⟩, 27), (⟨"FeedbackFlowModel", "full", "(II)Z"⟩, 27), (⟨"FeedbackFlowModel", "sendAll", "(II)I"⟩, 27), (⟨"FeedbackFlowModel", "put1", "(II)I"⟩, 27), (⟨"FeedbackFlowModel", "isEdge", "(I)Z"⟩, 27), (⟨"FeedbackFlowModel", "refusal", "(III)I"⟩, 27), (⟨"FeedbackFlowModel", "last", "(I)I"⟩, 27), (⟨"FeedbackFlowModel", "requestFor", "(I)I"⟩, 27), (⟨"FeedbackFlowModel", "requestsOf", "(I)I"⟩, 27), (⟨"FeedbackFlowModel", "leading", "(II)I"⟩, 27)]
theorem lw_r3 : ∀ q ∈ lw_privs_3, lw_okq q := List.forall_mem_cons.mpr ⟨lw_p32, List.forall_mem_cons.mpr ⟨lw_p33, List.forall_mem_cons.mpr ⟨lw_p34, List.forall_mem_cons.mpr ⟨lw_p35, List.forall_mem_cons.mpr ⟨lw_p36, List.forall_mem_cons.mpr ⟨lw_p37, List.forall_mem_cons.mpr ⟨lw_p38, List.forall_mem_cons.mpr ⟨lw_p39, List.forall_mem_cons.mpr ⟨lw_p40, List.forall_mem_cons.mpr ⟨lw_p41, List.forall_mem_cons.mpr ⟨lw_p42, List.forall_mem_cons.mpr ⟨lw_p43, List.forall_mem_cons.mpr ⟨lw_p44, List.forall_mem_cons.mpr ⟨lw_p45, List.forall_mem_cons.mpr ⟨lw_p46, List.forall_mem_cons.mpr ⟨lw_p47, fun _ h => absurd h List.not_mem_nil⟩⟩⟩⟩⟩⟩⟩⟩⟩⟩⟩⟩⟩⟩⟩⟩
theorem lw_p48 : lw_okq (⟨"FeedbackFlowModel", "take", "(I)V"⟩, 27) := ⟨⟨by decide +kernel, by decide +kernel⟩, List.mem_of_getElem? (i := 373) (by decide +kernel), List.mem_of_getElem? (i := 550) (by decide +kernel), List.mem_of_getElem? (i := 551) (by decide +kernel)⟩
theorem lw_p49 : lw_okq (⟨"FeedbackFlowModel", "work", "(II)I"⟩, 27) := ⟨⟨by decide +kernel, by decide +kernel⟩, List.mem_of_getElem? (i := 373) (by decide +kernel), List.mem_of_getElem? (i := 554) (by decide +kernel), List.mem_of_getElem? (i := 555) (by decide +kernel)⟩
theorem lw_p50 : lw_okq (⟨"FeedbackFlowModel", "turn", "(I)V"⟩, 27) := ⟨⟨by decide +kernel, by decide +kernel⟩, List.mem_of_getElem? (i := 373) (by decide +kernel), List.mem_of_getElem? (i := 558) (by decide +kernel), List.mem_of_getElem? (i := 559) (by decide +kernel)⟩
theorem lw_p51 : lw_okq (⟨"FeedbackFlowModel", "gather", "(II)V"⟩, 27) := ⟨⟨by decide +kernel, by decide +kernel⟩, List.mem_of_getElem? (i := 373) (by decide +kernel), List.mem_of_getElem? (i := 562) (by decide +kernel), List.mem_of_getElem? (i := 563) (by decide +kernel)⟩
theorem lw_p52 : lw_okq (⟨"FeedbackFlowModel", "numbered", "(I)I"⟩, 27) := ⟨⟨by decide +kernel, by decide +kernel⟩, List.mem_of_getElem? (i := 373) (by decide +kernel), List.mem_of_getElem? (i := 574) (by decide +kernel), List.mem_of_getElem? (i := 575) (by decide +kernel)⟩
theorem lw_p53 : lw_okq (⟨"FeedbackFlowModel", "earlier", "(II)Z"⟩, 27) := ⟨⟨by decide +kernel, by decide +kernel⟩, List.mem_of_getElem? (i := 373) (by decide +kernel), List.mem_of_getElem? (i := 578) (by decide +kernel), List.mem_of_getElem? (i := 579) (by decide +kernel)⟩
theorem lw_p54 : lw_okq (⟨"FeedbackFlowModel", "aheadOf", "(I)I"⟩, 27) := ⟨⟨by decide +kernel, by decide +kernel⟩, List.mem_of_getElem? (i := 373) (by decide +kernel), List.mem_of_getElem? (i := 586) (by decide +kernel), List.mem_of_getElem? (i := 587) (by decide +kernel)⟩
theorem lw_p55 : lw_okq (⟨"FeedbackFlowModel", "again", "(II)Z"⟩, 27) := ⟨⟨by decide +kernel, by decide +kernel⟩, List.mem_of_getElem? (i := 373) (by decide +kernel), List.mem_of_getElem? (i := 590) (by decide +kernel), List.mem_of_getElem? (i := 591) (by decide +kernel)⟩
theorem lw_p56 : lw_okq (⟨"FeedbackFlowModel", "isAhead", "(IIIII)Z"⟩, 27) := ⟨⟨by decide +kernel, by decide +kernel⟩, List.mem_of_getElem? (i := 373) (by decide +kernel), List.mem_of_getElem? (i := 594) (by decide +kernel), List.mem_of_getElem? (i := 595) (by decide +kernel)⟩
theorem lw_p57 : lw_okq (⟨"FeedbackFlowModel", "lower", "(III)Z"⟩, 27) := ⟨⟨by decide +kernel, by decide +kernel⟩, List.mem_of_getElem? (i := 373) (by decide +kernel), List.mem_of_getElem? (i := 598) (by decide +kernel), List.mem_of_getElem? (i := 599) (by decide +kernel)⟩
theorem lw_p58 : lw_okq (⟨"FeedbackFlowModel", "leave", "(I)Z"⟩, 27) := ⟨⟨by decide +kernel, by decide +kernel⟩, List.mem_of_getElem? (i := 373) (by decide +kernel), List.mem_of_getElem? (i := 602) (by decide +kernel), List.mem_of_getElem? (i := 603) (by decide +kernel)⟩
def lw_privs_4 : List (MethodName × Nat) := [(⟨"FeedbackFlowModel", "take", "(I)V"⟩, 27), (⟨"FeedbackFlowModel", "work", "(II)I"⟩, 27), (⟨"FeedbackFlowModel", "turn", "(I)V"⟩, 27), (⟨"FeedbackFlowModel", "gather", "(II)V"⟩, 27), (⟨"FeedbackFlowModel", "numbered", "(I)I"⟩, 27), (⟨"FeedbackFlowModel", "earlier", "(II)Z"⟩, 27), (⟨"FeedbackFlowModel", "aheadOf", "(I)I"⟩, 27), (⟨"FeedbackFlowModel", "again", "(II)Z"⟩, 27), (⟨"FeedbackFlowModel", "isAhead", "(IIIII)Z"⟩, 27), (⟨"FeedbackFlowModel", "lower", "(III)Z"⟩, 27), (⟨"FeedbackFlowModel", "leave", "(I)Z"⟩, 27)]
theorem lw_r4 : ∀ q ∈ lw_privs_4, lw_okq q := List.forall_mem_cons.mpr ⟨lw_p48, List.forall_mem_cons.mpr ⟨lw_p49, List.forall_mem_cons.mpr ⟨lw_p50, List.forall_mem_cons.mpr ⟨lw_p51, List.forall_mem_cons.mpr ⟨lw_p52, List.forall_mem_cons.mpr ⟨lw_p53, List.forall_mem_cons.mpr ⟨lw_p54, List.forall_mem_cons.mpr ⟨lw_p55, List.forall_mem_cons.mpr ⟨lw_p56, List.forall_mem_cons.mpr ⟨lw_p57, List.forall_mem_cons.mpr ⟨lw_p58, fun _ h => absurd h List.not_mem_nil⟩⟩⟩⟩⟩⟩⟩⟩⟩⟩⟩
def lw_privs : List (MethodName × Nat) := lw_privs_1 ++ (lw_privs_2 ++ (lw_privs_3 ++ (lw_privs_4)))
def lw_tbl : List Cond := k2_sels lw_privs ++ tables_1
theorem lw_privs_ok : ∀ q ∈ lw_privs, lw_okq q := by
  show ∀ q ∈ lw_privs_1 ++ (lw_privs_2 ++ (lw_privs_3 ++ (lw_privs_4))), lw_okq q
  exact List.forall_mem_append.mpr ⟨lw_r1, List.forall_mem_append.mpr ⟨lw_r2, List.forall_mem_append.mpr ⟨lw_r3, lw_r4⟩⟩⟩
-- ===== end of PART A =====
def am_T0 : u_T := fun k => match k with
  | 0 => ("FeedbackFlow", "graph", "LFeedbackFlow$Graph;", true)
  | 1 => ("FeedbackFlow", "building", "Z", false)
  | 2 => ("FeedbackFlow", "delivered", "I", false)
  | 3 => ("FeedbackFlow", "fired", "I", false)
  | _ => ("FeedbackFlow", "sent", "I", false)
def am_y0 : Nat → FieldType := fun k => match k with
  | 0 => .object "FeedbackFlow$Graph"
  | 1 => .boolean
  | 2 => .int
  | 3 => .int
  | _ => .int
theorem am_y0_ok : ∀ k, k < 5 → parseFieldDescriptor (am_T0 k).2.2.1 = some (am_y0 k) := by decide +kernel
theorem am_n0 : ∀ a, a < 5 → ∀ b, b < 5 → a ≠ b → (am_T0 a).2.1 ≠ (am_T0 b).2.1 := by decide +kernel
def am_T1 : u_T := fun k => match k with
  | 0 => ("FeedbackFlow$Graph", "vertices", "[LFeedbackFlow$Vertex;", true)
  | 1 => ("FeedbackFlow$Graph", "edges", "[LFeedbackFlow$Edge;", true)
  | 2 => ("FeedbackFlow$Graph", "vertexCount", "I", false)
  | 3 => ("FeedbackFlow$Graph", "edgeCount", "I", false)
  | _ => ("FeedbackFlow$Graph", "earliest", "[I", true)
def am_y1 : Nat → FieldType := fun k => match k with
  | 0 => .array (.object "FeedbackFlow$Vertex")
  | 1 => .array (.object "FeedbackFlow$Edge")
  | 2 => .int
  | 3 => .int
  | _ => .array .int
theorem am_y1_ok : ∀ k, k < 5 → parseFieldDescriptor (am_T1 k).2.2.1 = some (am_y1 k) := by decide +kernel
theorem am_n1 : ∀ a, a < 5 → ∀ b, b < 5 → a ≠ b → (am_T1 a).2.1 ≠ (am_T1 b).2.1 := by decide +kernel
def am_T2 : u_T := fun k => match k with
  | 0 => ("FeedbackFlow$Vertex", "kind", "I", false)
  | 1 => ("FeedbackFlow$Vertex", "depth", "I", false)
  | 2 => ("FeedbackFlow$Vertex", "work", "I", false)
  | 3 => ("FeedbackFlow$Vertex", "staying", "I", false)
  | 4 => ("FeedbackFlow$Vertex", "added", "I", false)
  | 5 => ("FeedbackFlow$Vertex", "outEdges", "I", false)
  | 6 => ("FeedbackFlow$Vertex", "sum", "I", false)
  | 7 => ("FeedbackFlow$Vertex", "epoch", "I", false)
  | 8 => ("FeedbackFlow$Vertex", "open", "Z", false)
  | 9 => ("FeedbackFlow$Vertex", "requestCount", "I", false)
  | 10 => ("FeedbackFlow$Vertex", "moments", "[I", true)
  | _ => ("FeedbackFlow$Vertex", "gathered", "[I", true)
def am_y2 : Nat → FieldType := fun k => match k with
  | 0 => .int
  | 1 => .int
  | 2 => .int
  | 3 => .int
  | 4 => .int
  | 5 => .int
  | 6 => .int
  | 7 => .int
  | 8 => .boolean
  | 9 => .int
  | 10 => .array .int
  | _ => .array .int
theorem am_y2_ok : ∀ k, k < 12 → parseFieldDescriptor (am_T2 k).2.2.1 = some (am_y2 k) := by decide +kernel
theorem am_n2 : ∀ a, a < 12 → ∀ b, b < 12 → a ≠ b → (am_T2 a).2.1 ≠ (am_T2 b).2.1 := by decide +kernel
def am_T3 : u_T := fun k => match k with
  | 0 => ("FeedbackFlow$Edge", "from", "I", false)
  | 1 => ("FeedbackFlow$Edge", "to", "I", false)
  | 2 => ("FeedbackFlow$Edge", "count", "I", false)
  | 3 => ("FeedbackFlow$Edge", "values", "[I", true)
  | _ => ("FeedbackFlow$Edge", "moments", "[I", true)
def am_y3 : Nat → FieldType := fun k => match k with
  | 0 => .int
  | 1 => .int
  | 2 => .int
  | 3 => .array .int
  | _ => .array .int
theorem am_y3_ok : ∀ k, k < 5 → parseFieldDescriptor (am_T3 k).2.2.1 = some (am_y3 k) := by decide +kernel
theorem am_n3 : ∀ a, a < 5 → ∀ b, b < 5 → a ≠ b → (am_T3 a).2.1 ≠ (am_T3 b).2.1 := by decide +kernel
def am_T4 : u_T := fun k => match k with
  | 0 => ("FeedbackFlowModel", "begun", "Z", false)
  | 1 => ("FeedbackFlowModel", "vertices", "I", false)
  | 2 => ("FeedbackFlowModel", "kind", "[I", true)
  | 3 => ("FeedbackFlowModel", "depth", "[I", true)
  | 4 => ("FeedbackFlowModel", "work", "[I", true)
  | 5 => ("FeedbackFlowModel", "epochOf", "[I", true)
  | 6 => ("FeedbackFlowModel", "open", "[Z", true)
  | 7 => ("FeedbackFlowModel", "totals", "[I", true)
  | 8 => ("FeedbackFlowModel", "edges", "I", false)
  | 9 => ("FeedbackFlowModel", "from", "[I", true)
  | 10 => ("FeedbackFlowModel", "to", "[I", true)
  | 11 => ("FeedbackFlowModel", "lines", "[I", true)
  | 12 => ("FeedbackFlowModel", "values", "[I", true)
  | 13 => ("FeedbackFlowModel", "times", "[I", true)
  | 14 => ("FeedbackFlowModel", "asked", "I", false)
  | 15 => ("FeedbackFlowModel", "whose", "[I", true)
  | 16 => ("FeedbackFlowModel", "when", "[I", true)
  | 17 => ("FeedbackFlowModel", "sums", "[I", true)
  | 18 => ("FeedbackFlowModel", "delivered", "I", false)
  | 19 => ("FeedbackFlowModel", "fired", "I", false)
  | 20 => ("FeedbackFlowModel", "sent", "I", false)
  | 21 => ("FeedbackFlowModel", "epoch", "I", false)
  | 22 => ("FeedbackFlowModel", "one", "I", false)
  | 23 => ("FeedbackFlowModel", "two", "I", false)
  | 24 => ("FeedbackFlowModel", "come", "[Z", true)
  | 25 => ("FeedbackFlowModel", "first", "[I", true)
  | _ => ("FeedbackFlowModel", "second", "[I", true)
def am_y4 : Nat → FieldType := fun k => match k with
  | 0 => .boolean
  | 1 => .int
  | 2 => .array .int
  | 3 => .array .int
  | 4 => .array .int
  | 5 => .array .int
  | 6 => .array .boolean
  | 7 => .array .int
  | 8 => .int
  | 9 => .array .int
  | 10 => .array .int
  | 11 => .array .int
  | 12 => .array .int
  | 13 => .array .int
  | 14 => .int
  | 15 => .array .int
  | 16 => .array .int
  | 17 => .array .int
  | 18 => .int
  | 19 => .int
  | 20 => .int
  | 21 => .int
  | 22 => .int
  | 23 => .int
  | 24 => .array .boolean
  | 25 => .array .int
  | _ => .array .int
theorem am_y4_ok : ∀ k, k < 27 → parseFieldDescriptor (am_T4 k).2.2.1 = some (am_y4 k) := by decide +kernel
theorem am_n4 : ∀ a, a < 27 → ∀ b, b < 27 → a ≠ b → (am_T4 a).2.1 ≠ (am_T4 b).2.1 := by decide +kernel
abbrev vwCl : List vw_C := [("FeedbackFlow", am_T0, 5), ("FeedbackFlow$Graph", am_T1, 5), ("FeedbackFlow$Vertex", am_T2, 12), ("FeedbackFlow$Edge", am_T3, 5), ("FeedbackFlowModel", am_T4, 27)]
def am_CN : List String := ["FeedbackFlow", "FeedbackFlow$Graph", "FeedbackFlow$Vertex", "FeedbackFlow$Edge", "FeedbackFlowModel", "FeedbackFlow$Time", "FeedbackFlowLaw"]
