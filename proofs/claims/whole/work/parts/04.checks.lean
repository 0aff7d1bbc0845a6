/-! What the tables are, decided. -/
theorem am_GW_good : ∀ w ∈ am_GW, (w.onTables && w.keeps) = true ∨ ∃ ty, w = .arrayClass ty := fun w h => good_of_word (List.mem_filter.mp h).2
theorem am_GW_in {w : Cond} (h : w ∈ lw_tbl) (hg : goodWord w = true) : w ∈ am_GW := List.mem_filter.mpr ⟨h, hg⟩
theorem am_NW_ok : ∀ w ∈ am_NW, (∃ a i b n d h, w = .fieldLinkNest a i b n d h) ∨ ∃ a i x h, w = .methodLinkNest a i x h := by
  intro w h
  have h2 := (List.mem_filter.mp h).2
  cases w <;> first | (cases h2; done) | exact Or.inl ⟨_, _, _, _, _, _, rfl⟩ | exact Or.inr ⟨_, _, _, _, rfl⟩
theorem am_NW_in {w : Cond} (h : w ∈ lw_tbl) (hg : am_nstb w = true) : w ∈ am_NW := List.mem_filter.mpr ⟨h, hg⟩
set_option maxRecDepth 100000 in
theorem am_k0 : am_t0.all (am_tchk prog_1_method_1_code) = true := by decide +kernel
set_option maxRecDepth 100000 in
theorem am_k1 : am_t1.all (am_tchk prog_1_method_2_code) = true := by decide +kernel
set_option maxRecDepth 100000 in
theorem am_k2 : am_t2.all (am_tchk prog_1_method_3_code) = true := by decide +kernel
set_option maxRecDepth 100000 in
theorem am_k3 : am_t3.all (am_tchk prog_1_method_4_code) = true := by decide +kernel
set_option maxRecDepth 100000 in
theorem am_k4 : am_t4.all (am_tchk prog_1_method_5_code) = true := by decide +kernel
set_option maxRecDepth 100000 in
theorem am_k5 : am_t5.all (am_tchk prog_1_method_6_code) = true := by decide +kernel
set_option maxRecDepth 100000 in
theorem am_k6 : am_t6.all (am_tchk prog_1_method_7_code) = true := by decide +kernel
set_option maxRecDepth 100000 in
theorem am_k7 : am_t7.all (am_tchk prog_1_method_8_code) = true := by decide +kernel
set_option maxRecDepth 100000 in
theorem am_k8 : am_t8.all (am_tchk prog_1_method_9_code) = true := by decide +kernel
set_option maxRecDepth 100000 in
theorem am_k9 : am_t9.all (am_tchk prog_1_method_10_code) = true := by decide +kernel
set_option maxRecDepth 100000 in
theorem am_k10 : am_t10.all (am_tchk prog_1_method_11_code) = true := by decide +kernel
set_option maxRecDepth 100000 in
theorem am_k11 : am_t11.all (am_tchk prog_1_method_12_code) = true := by decide +kernel
set_option maxRecDepth 100000 in
theorem am_k12 : am_t12.all (am_tchk prog_1_method_13_code) = true := by decide +kernel
set_option maxRecDepth 100000 in
theorem am_k13 : am_t13.all (am_tchk prog_1_method_14_code) = true := by decide +kernel
set_option maxRecDepth 100000 in
theorem am_k14 : am_t14.all (am_tchk prog_1_method_15_code) = true := by decide +kernel
set_option maxRecDepth 100000 in
theorem am_k15 : am_t15.all (am_tchk prog_1_method_16_code) = true := by decide +kernel
set_option maxRecDepth 100000 in
theorem am_k16 : am_t16.all (am_tchk prog_1_method_17_code) = true := by decide +kernel
set_option maxRecDepth 100000 in
theorem am_k17 : am_t17.all (am_tchk prog_1_method_18_code) = true := by decide +kernel
set_option maxRecDepth 100000 in
theorem am_k18 : am_t18.all (am_tchk prog_1_method_19_code) = true := by decide +kernel
set_option maxRecDepth 100000 in
theorem am_k19 : am_t19.all (am_tchk prog_1_method_20_code) = true := by decide +kernel
set_option maxRecDepth 100000 in
theorem am_k20 : am_t20.all (am_tchk prog_3_method_1_code) = true := by decide +kernel
set_option maxRecDepth 100000 in
theorem am_k21 : am_t21.all (am_tchk prog_3_method_2_code) = true := by decide +kernel
set_option maxRecDepth 100000 in
theorem am_k22 : am_t22.all (am_tchk prog_3_method_3_code) = true := by decide +kernel
set_option maxRecDepth 100000 in
theorem am_k23 : am_t23.all (am_tchk prog_3_method_4_code) = true := by decide +kernel
set_option maxRecDepth 100000 in
theorem am_k24 : am_t24.all (am_tchk prog_3_method_5_code) = true := by decide +kernel
set_option maxRecDepth 100000 in
theorem am_k25 : am_t25.all (am_tchk prog_3_method_6_code) = true := by decide +kernel
set_option maxRecDepth 100000 in
theorem am_k26 : am_t26.all (am_tchk prog_3_method_7_code) = true := by decide +kernel
set_option maxRecDepth 100000 in
theorem am_k27 : am_t27.all (am_tchk prog_3_method_8_code) = true := by decide +kernel
set_option maxRecDepth 100000 in
theorem am_k28 : am_t28.all (am_tchk prog_3_method_9_code) = true := by decide +kernel
set_option maxRecDepth 100000 in
theorem am_k29 : am_t29.all (am_tchk prog_3_method_10_code) = true := by decide +kernel
set_option maxRecDepth 100000 in
theorem am_k30 : am_t30.all (am_tchk prog_3_method_11_code) = true := by decide +kernel
set_option maxRecDepth 100000 in
theorem am_k31 : am_t31.all (am_tchk prog_3_method_12_code) = true := by decide +kernel
set_option maxRecDepth 100000 in
theorem am_k32 : am_t32.all (am_tchk prog_3_method_13_code) = true := by decide +kernel
set_option maxRecDepth 100000 in
theorem am_k33 : am_t33.all (am_tchk prog_3_method_14_code) = true := by decide +kernel
set_option maxRecDepth 100000 in
theorem am_k34 : am_t34.all (am_tchk prog_3_method_15_code) = true := by decide +kernel
set_option maxRecDepth 100000 in
theorem am_k35 : am_t35.all (am_tchk prog_3_method_16_code) = true := by decide +kernel
set_option maxRecDepth 100000 in
theorem am_k36 : am_t36.all (am_tchk prog_3_method_17_code) = true := by decide +kernel
set_option maxRecDepth 100000 in
theorem am_k37 : am_t37.all (am_tchk prog_5_method_1_code) = true := by decide +kernel
set_option maxRecDepth 100000 in
theorem am_k38 : am_t38.all (am_tchk prog_5_method_2_code) = true := by decide +kernel
set_option maxRecDepth 100000 in
theorem am_k39 : am_t39.all (am_tchk prog_5_method_3_code) = true := by decide +kernel
set_option maxRecDepth 100000 in
theorem am_k40 : am_t40.all (am_tchk prog_5_method_4_code) = true := by decide +kernel
set_option maxRecDepth 100000 in
theorem am_k41 : am_t41.all (am_tchk prog_5_method_5_code) = true := by decide +kernel
set_option maxRecDepth 100000 in
theorem am_k42 : am_t42.all (am_tchk prog_5_method_6_code) = true := by decide +kernel
set_option maxRecDepth 100000 in
theorem am_k43 : am_t43.all (am_tchk prog_5_method_7_code) = true := by decide +kernel
set_option maxRecDepth 100000 in
theorem am_k44 : am_t44.all (am_tchk prog_5_method_8_code) = true := by decide +kernel
set_option maxRecDepth 100000 in
theorem am_k45 : am_t45.all (am_tchk prog_5_method_9_code) = true := by decide +kernel
set_option maxRecDepth 100000 in
theorem am_k46 : am_t46.all (am_tchk prog_5_method_10_code) = true := by decide +kernel
set_option maxRecDepth 100000 in
theorem am_k47 : am_t47.all (am_tchk prog_5_method_11_code) = true := by decide +kernel
set_option maxRecDepth 100000 in
theorem am_k48 : am_t48.all (am_tchk prog_5_method_12_code) = true := by decide +kernel
set_option maxRecDepth 100000 in
theorem am_k49 : am_t49.all (am_tchk prog_2_method_1_code) = true := by decide +kernel
set_option maxRecDepth 100000 in
theorem am_k50 : am_t50.all (am_tchk prog_2_method_2_code) = true := by decide +kernel
set_option maxRecDepth 100000 in
theorem am_k51 : am_t51.all (am_tchk prog_2_method_3_code) = true := by decide +kernel
set_option maxRecDepth 100000 in
theorem am_k52 : am_t52.all (am_tchk prog_2_method_4_code) = true := by decide +kernel
set_option maxRecDepth 100000 in
theorem am_k53 : am_t53.all (am_tchk prog_2_method_5_code) = true := by decide +kernel
set_option maxRecDepth 100000 in
theorem am_k54 : am_t54.all (am_tchk prog_7_method_1_code) = true := by decide +kernel
set_option maxRecDepth 100000 in
theorem am_k55 : am_t55.all (am_tchk prog_7_method_2_code) = true := by decide +kernel
set_option maxRecDepth 100000 in
theorem am_k56 : am_t56.all (am_tchk prog_7_method_3_code) = true := by decide +kernel
set_option maxRecDepth 100000 in
theorem am_k57 : am_t57.all (am_tchk prog_7_method_4_code) = true := by decide +kernel
set_option maxRecDepth 100000 in
theorem am_k58 : am_t58.all (am_tchk prog_7_method_5_code) = true := by decide +kernel
set_option maxRecDepth 100000 in
theorem am_k59 : am_t59.all (am_tchk prog_7_method_6_code) = true := by decide +kernel
set_option maxRecDepth 100000 in
theorem am_k60 : am_t60.all (am_tchk prog_7_method_7_code) = true := by decide +kernel
set_option maxRecDepth 100000 in
theorem am_k61 : am_t61.all (am_tchk prog_7_method_8_code) = true := by decide +kernel
set_option maxRecDepth 100000 in
theorem am_k62 : am_t62.all (am_tchk prog_7_method_9_code) = true := by decide +kernel
set_option maxRecDepth 100000 in
theorem am_k63 : am_t63.all (am_tchk prog_7_method_10_code) = true := by decide +kernel
set_option maxRecDepth 100000 in
theorem am_k64 : am_t64.all (am_tchk prog_7_method_11_code) = true := by decide +kernel
set_option maxRecDepth 100000 in
theorem am_k65 : am_t65.all (am_tchk prog_7_method_12_code) = true := by decide +kernel
set_option maxRecDepth 100000 in
theorem am_k66 : am_t66.all (am_tchk prog_7_method_13_code) = true := by decide +kernel
set_option maxRecDepth 100000 in
theorem am_k67 : am_t67.all (am_tchk prog_7_method_14_code) = true := by decide +kernel
set_option maxRecDepth 100000 in
theorem am_k68 : am_t68.all (am_tchk prog_7_method_15_code) = true := by decide +kernel
set_option maxRecDepth 100000 in
theorem am_k69 : am_t69.all (am_tchk prog_7_method_16_code) = true := by decide +kernel
set_option maxRecDepth 100000 in
theorem am_k70 : am_t70.all (am_tchk prog_7_method_17_code) = true := by decide +kernel
set_option maxRecDepth 100000 in
theorem am_k71 : am_t71.all (am_tchk prog_7_method_18_code) = true := by decide +kernel
set_option maxRecDepth 100000 in
theorem am_k72 : am_t72.all (am_tchk prog_7_method_19_code) = true := by decide +kernel
set_option maxRecDepth 100000 in
theorem am_k73 : am_t73.all (am_tchk prog_7_method_20_code) = true := by decide +kernel
set_option maxRecDepth 100000 in
theorem am_k74 : am_t74.all (am_tchk prog_7_method_21_code) = true := by decide +kernel
set_option maxRecDepth 100000 in
theorem am_k75 : am_t75.all (am_tchk prog_7_method_22_code) = true := by decide +kernel
set_option maxRecDepth 100000 in
theorem am_k76 : am_t76.all (am_tchk prog_7_method_23_code) = true := by decide +kernel
set_option maxRecDepth 100000 in
theorem am_k77 : am_t77.all (am_tchk prog_7_method_24_code) = true := by decide +kernel
set_option maxRecDepth 100000 in
theorem am_k78 : am_t78.all (am_tchk prog_7_method_25_code) = true := by decide +kernel
set_option maxRecDepth 100000 in
theorem am_k79 : am_t79.all (am_tchk prog_7_method_26_code) = true := by decide +kernel
set_option maxRecDepth 100000 in
theorem am_k80 : am_t80.all (am_tchk prog_7_method_27_code) = true := by decide +kernel
set_option maxRecDepth 100000 in
theorem am_k81 : am_t81.all (am_tchk prog_7_method_28_code) = true := by decide +kernel
set_option maxRecDepth 100000 in
theorem am_k82 : am_t82.all (am_tchk prog_7_method_29_code) = true := by decide +kernel
set_option maxRecDepth 100000 in
theorem am_k83 : am_t83.all (am_tchk prog_7_method_30_code) = true := by decide +kernel
set_option maxRecDepth 100000 in
theorem am_k84 : am_t84.all (am_tchk prog_7_method_31_code) = true := by decide +kernel
set_option maxRecDepth 100000 in
theorem am_k85 : am_t85.all (am_tchk prog_7_method_32_code) = true := by decide +kernel
set_option maxRecDepth 100000 in
theorem am_k86 : am_t86.all (am_tchk prog_7_method_33_code) = true := by decide +kernel
set_option maxRecDepth 100000 in
theorem am_k87 : am_t87.all (am_tchk prog_7_method_34_code) = true := by decide +kernel
set_option maxRecDepth 100000 in
theorem am_k88 : am_t88.all (am_tchk prog_7_method_35_code) = true := by decide +kernel
set_option maxRecDepth 100000 in
theorem am_k89 : am_t89.all (am_tchk prog_7_method_36_code) = true := by decide +kernel
set_option maxRecDepth 100000 in
theorem am_k90 : am_t90.all (am_tchk prog_7_method_37_code) = true := by decide +kernel
set_option maxRecDepth 100000 in
theorem am_k91 : am_t91.all (am_tchk prog_7_method_38_code) = true := by decide +kernel
set_option maxRecDepth 100000 in
theorem am_k92 : am_t92.all (am_tchk prog_7_method_39_code) = true := by decide +kernel
set_option maxRecDepth 100000 in
theorem am_k93 : am_t93.all (am_tchk prog_7_method_40_code) = true := by decide +kernel
set_option maxRecDepth 100000 in
theorem am_k94 : am_t94.all (am_tchk prog_7_method_41_code) = true := by decide +kernel
set_option maxRecDepth 100000 in
theorem am_k95 : am_t95.all (am_tchk prog_7_method_42_code) = true := by decide +kernel
set_option maxRecDepth 100000 in
theorem am_k96 : am_t96.all (am_tchk prog_7_method_43_code) = true := by decide +kernel
set_option maxRecDepth 100000 in
theorem am_k97 : am_t97.all (am_tchk prog_4_method_2_code) = true := by decide +kernel
set_option maxRecDepth 100000 in
theorem am_k98 : am_t98.all (am_tchk prog_4_method_3_code) = true := by decide +kernel
set_option maxRecDepth 100000 in
theorem am_k99 : am_t99.all (am_tchk prog_4_method_4_code) = true := by decide +kernel
set_option maxRecDepth 100000 in
theorem am_k100 : am_t100.all (am_tchk prog_4_method_5_code) = true := by decide +kernel
set_option maxRecDepth 100000 in
theorem am_k101 : am_t101.all (am_tchk prog_4_method_6_code) = true := by decide +kernel
set_option maxRecDepth 100000 in
theorem am_k102 : am_t102.all (am_tchk prog_4_method_7_code) = true := by decide +kernel
set_option maxRecDepth 100000 in
theorem am_k103 : am_t103.all (am_tchk prog_4_method_8_code) = true := by decide +kernel
set_option maxRecDepth 100000 in
theorem am_k104 : am_t104.all (am_tchk code) = true := by decide +kernel
theorem am_MT_tab : ∀ M ∈ am_MT, ∀ q ∈ M.2.2, am_tchk M.1.2.1 q = true := by
  have h : ∀ M ∈ am_MT, M.2.2.all (am_tchk M.1.2.1) = true := by
    unfold am_MT
    exact List.forall_mem_cons.mpr ⟨am_k0, List.forall_mem_cons.mpr ⟨am_k1, List.forall_mem_cons.mpr ⟨am_k2, List.forall_mem_cons.mpr ⟨am_k3, List.forall_mem_cons.mpr ⟨am_k4, List.forall_mem_cons.mpr ⟨am_k5, List.forall_mem_cons.mpr ⟨am_k6, List.forall_mem_cons.mpr ⟨am_k7, List.forall_mem_cons.mpr ⟨am_k8, List.forall_mem_cons.mpr ⟨am_k9, List.forall_mem_cons.mpr ⟨am_k10, List.forall_mem_cons.mpr ⟨am_k11, List.forall_mem_cons.mpr ⟨am_k12, List.forall_mem_cons.mpr ⟨am_k13, List.forall_mem_cons.mpr ⟨am_k14, List.forall_mem_cons.mpr ⟨am_k15, List.forall_mem_cons.mpr ⟨am_k16, List.forall_mem_cons.mpr ⟨am_k17, List.forall_mem_cons.mpr ⟨am_k18, List.forall_mem_cons.mpr ⟨am_k19, List.forall_mem_cons.mpr ⟨am_k20, List.forall_mem_cons.mpr ⟨am_k21, List.forall_mem_cons.mpr ⟨am_k22, List.forall_mem_cons.mpr ⟨am_k23, List.forall_mem_cons.mpr ⟨am_k24, List.forall_mem_cons.mpr ⟨am_k25, List.forall_mem_cons.mpr ⟨am_k26, List.forall_mem_cons.mpr ⟨am_k27, List.forall_mem_cons.mpr ⟨am_k28, List.forall_mem_cons.mpr ⟨am_k29, List.forall_mem_cons.mpr ⟨am_k30, List.forall_mem_cons.mpr ⟨am_k31, List.forall_mem_cons.mpr ⟨am_k32, List.forall_mem_cons.mpr ⟨am_k33, List.forall_mem_cons.mpr ⟨am_k34, List.forall_mem_cons.mpr ⟨am_k35, List.forall_mem_cons.mpr ⟨am_k36, List.forall_mem_cons.mpr ⟨am_k37, List.forall_mem_cons.mpr ⟨am_k38, List.forall_mem_cons.mpr ⟨am_k39, List.forall_mem_cons.mpr ⟨am_k40, List.forall_mem_cons.mpr ⟨am_k41, List.forall_mem_cons.mpr ⟨am_k42, List.forall_mem_cons.mpr ⟨am_k43, List.forall_mem_cons.mpr ⟨am_k44, List.forall_mem_cons.mpr ⟨am_k45, List.forall_mem_cons.mpr ⟨am_k46, List.forall_mem_cons.mpr ⟨am_k47, List.forall_mem_cons.mpr ⟨am_k48, List.forall_mem_cons.mpr ⟨am_k49, List.forall_mem_cons.mpr ⟨am_k50, List.forall_mem_cons.mpr ⟨am_k51, List.forall_mem_cons.mpr ⟨am_k52, List.forall_mem_cons.mpr ⟨am_k53, List.forall_mem_cons.mpr ⟨am_k54, List.forall_mem_cons.mpr ⟨am_k55, List.forall_mem_cons.mpr ⟨am_k56, List.forall_mem_cons.mpr ⟨am_k57, List.forall_mem_cons.mpr ⟨am_k58, List.forall_mem_cons.mpr ⟨am_k59, List.forall_mem_cons.mpr ⟨am_k60, List.forall_mem_cons.mpr ⟨am_k61, List.forall_mem_cons.mpr ⟨am_k62, List.forall_mem_cons.mpr ⟨am_k63, List.forall_mem_cons.mpr ⟨am_k64, List.forall_mem_cons.mpr ⟨am_k65, List.forall_mem_cons.mpr ⟨am_k66, List.forall_mem_cons.mpr ⟨am_k67, List.forall_mem_cons.mpr ⟨am_k68, List.forall_mem_cons.mpr ⟨am_k69, List.forall_mem_cons.mpr ⟨am_k70, List.forall_mem_cons.mpr ⟨am_k71, List.forall_mem_cons.mpr ⟨am_k72, List.forall_mem_cons.mpr ⟨am_k73, List.forall_mem_cons.mpr ⟨am_k74, List.forall_mem_cons.mpr ⟨am_k75, List.forall_mem_cons.mpr ⟨am_k76, List.forall_mem_cons.mpr ⟨am_k77, List.forall_mem_cons.mpr ⟨am_k78, List.forall_mem_cons.mpr ⟨am_k79, List.forall_mem_cons.mpr ⟨am_k80, List.forall_mem_cons.mpr ⟨am_k81, List.forall_mem_cons.mpr ⟨am_k82, List.forall_mem_cons.mpr ⟨am_k83, List.forall_mem_cons.mpr ⟨am_k84, List.forall_mem_cons.mpr ⟨am_k85, List.forall_mem_cons.mpr ⟨am_k86, List.forall_mem_cons.mpr ⟨am_k87, List.forall_mem_cons.mpr ⟨am_k88, List.forall_mem_cons.mpr ⟨am_k89, List.forall_mem_cons.mpr ⟨am_k90, List.forall_mem_cons.mpr ⟨am_k91, List.forall_mem_cons.mpr ⟨am_k92, List.forall_mem_cons.mpr ⟨am_k93, List.forall_mem_cons.mpr ⟨am_k94, List.forall_mem_cons.mpr ⟨am_k95, List.forall_mem_cons.mpr ⟨am_k96, List.forall_mem_cons.mpr ⟨am_k97, List.forall_mem_cons.mpr ⟨am_k98, List.forall_mem_cons.mpr ⟨am_k99, List.forall_mem_cons.mpr ⟨am_k100, List.forall_mem_cons.mpr ⟨am_k101, List.forall_mem_cons.mpr ⟨am_k102, List.forall_mem_cons.mpr ⟨am_k103, List.forall_mem_cons.mpr ⟨am_k104, fun _ h => absurd h List.not_mem_nil⟩⟩⟩⟩⟩⟩⟩⟩⟩⟩⟩⟩⟩⟩⟩⟩⟩⟩⟩⟩⟩⟩⟩⟩⟩⟩⟩⟩⟩⟩⟩⟩⟩⟩⟩⟩⟩⟩⟩⟩⟩⟩⟩⟩⟩⟩⟩⟩⟩⟩⟩⟩⟩⟩⟩⟩⟩⟩⟩⟩⟩⟩⟩⟩⟩⟩⟩⟩⟩⟩⟩⟩⟩⟩⟩⟩⟩⟩⟩⟩⟩⟩⟩⟩⟩⟩⟩⟩⟩⟩⟩⟩⟩⟩⟩⟩⟩⟩⟩⟩⟩⟩⟩⟩⟩
  exact fun M hM q hq => List.all_eq_true.mp (h M hM) q hq
