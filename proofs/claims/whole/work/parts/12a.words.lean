theorem wi_1 : ∀ w ∈ tables_1_1, w ∈ lw_tbl := fun w h => List.mem_append_right (k2_sels lw_privs) (show w ∈ tables_1 from List.mem_append_left _ h)
theorem wi_2 : ∀ w ∈ tables_1_2, w ∈ lw_tbl := fun w h => List.mem_append_right (k2_sels lw_privs) (show w ∈ tables_1 from List.mem_append_right _ (List.mem_append_left _ h))
theorem wi_3 : ∀ w ∈ tables_1_3, w ∈ lw_tbl := fun w h => List.mem_append_right (k2_sels lw_privs) (show w ∈ tables_1 from List.mem_append_right _ (List.mem_append_right _ (List.mem_append_left _ h)))
theorem wi_4 : ∀ w ∈ tables_1_4, w ∈ lw_tbl := fun w h => List.mem_append_right (k2_sels lw_privs) (show w ∈ tables_1 from List.mem_append_right _ (List.mem_append_right _ (List.mem_append_right _ (List.mem_append_left _ h))))
theorem wi_5 : ∀ w ∈ tables_1_5, w ∈ lw_tbl := fun w h => List.mem_append_right (k2_sels lw_privs) (show w ∈ tables_1 from List.mem_append_right _ (List.mem_append_right _ (List.mem_append_right _ (List.mem_append_right _ (List.mem_append_left _ h)))))
theorem wi_6 : ∀ w ∈ tables_1_6, w ∈ lw_tbl := fun w h => List.mem_append_right (k2_sels lw_privs) (show w ∈ tables_1 from List.mem_append_right _ (List.mem_append_right _ (List.mem_append_right _ (List.mem_append_right _ (List.mem_append_right _ (List.mem_append_left _ h))))))
theorem wi_7 : ∀ w ∈ tables_1_7, w ∈ lw_tbl := fun w h => List.mem_append_right (k2_sels lw_privs) (show w ∈ tables_1 from List.mem_append_right _ (List.mem_append_right _ (List.mem_append_right _ (List.mem_append_right _ (List.mem_append_right _ (List.mem_append_right _ (List.mem_append_left _ h)))))))
theorem wi_8 : ∀ w ∈ tables_1_8, w ∈ lw_tbl := fun w h => List.mem_append_right (k2_sels lw_privs) (show w ∈ tables_1 from List.mem_append_right _ (List.mem_append_right _ (List.mem_append_right _ (List.mem_append_right _ (List.mem_append_right _ (List.mem_append_right _ (List.mem_append_right _ (List.mem_append_left _ h))))))))
theorem wi_9 : ∀ w ∈ tables_1_9, w ∈ lw_tbl := fun w h => List.mem_append_right (k2_sels lw_privs) (show w ∈ tables_1 from List.mem_append_right _ (List.mem_append_right _ (List.mem_append_right _ (List.mem_append_right _ (List.mem_append_right _ (List.mem_append_right _ (List.mem_append_right _ (List.mem_append_right _ (List.mem_append_left _ h)))))))))
theorem wi_10 : ∀ w ∈ tables_1_10, w ∈ lw_tbl := fun w h => List.mem_append_right (k2_sels lw_privs) (show w ∈ tables_1 from List.mem_append_right _ (List.mem_append_right _ (List.mem_append_right _ (List.mem_append_right _ (List.mem_append_right _ (List.mem_append_right _ (List.mem_append_right _ (List.mem_append_right _ (List.mem_append_right _ (List.mem_append_left _ h))))))))))
theorem wi_11 : ∀ w ∈ tables_1_11, w ∈ lw_tbl := fun w h => List.mem_append_right (k2_sels lw_privs) (show w ∈ tables_1 from List.mem_append_right _ (List.mem_append_right _ (List.mem_append_right _ (List.mem_append_right _ (List.mem_append_right _ (List.mem_append_right _ (List.mem_append_right _ (List.mem_append_right _ (List.mem_append_right _ (List.mem_append_right _ (h)))))))))))
theorem wip_1 : ∀ q ∈ lw_privs_1, Cond.selects q.1.cls q.1 q.1 ∈ lw_tbl := fun q h => List.mem_append_left tables_1 (List.mem_map.mpr ⟨q, show q ∈ lw_privs from List.mem_append_left _ h, rfl⟩)
theorem wip_2 : ∀ q ∈ lw_privs_2, Cond.selects q.1.cls q.1 q.1 ∈ lw_tbl := fun q h => List.mem_append_left tables_1 (List.mem_map.mpr ⟨q, show q ∈ lw_privs from List.mem_append_right _ (List.mem_append_left _ h), rfl⟩)
theorem wip_3 : ∀ q ∈ lw_privs_3, Cond.selects q.1.cls q.1 q.1 ∈ lw_tbl := fun q h => List.mem_append_left tables_1 (List.mem_map.mpr ⟨q, show q ∈ lw_privs from List.mem_append_right _ (List.mem_append_right _ (List.mem_append_left _ h)), rfl⟩)
theorem wip_4 : ∀ q ∈ lw_privs_4, Cond.selects q.1.cls q.1 q.1 ∈ lw_tbl := fun q h => List.mem_append_left tables_1 (List.mem_map.mpr ⟨q, show q ∈ lw_privs from List.mem_append_right _ (List.mem_append_right _ (List.mem_append_right _ (List.mem_append_left _ h))), rfl⟩)
theorem wip_5 : ∀ q ∈ lw_privs_5, Cond.selects q.1.cls q.1 q.1 ∈ lw_tbl := fun q h => List.mem_append_left tables_1 (List.mem_map.mpr ⟨q, show q ∈ lw_privs from List.mem_append_right _ (List.mem_append_right _ (List.mem_append_right _ (List.mem_append_right _ (List.mem_append_left _ h)))), rfl⟩)
theorem wip_6 : ∀ q ∈ lw_privs_6, Cond.selects q.1.cls q.1 q.1 ∈ lw_tbl := fun q h => List.mem_append_left tables_1 (List.mem_map.mpr ⟨q, show q ∈ lw_privs from List.mem_append_right _ (List.mem_append_right _ (List.mem_append_right _ (List.mem_append_right _ (List.mem_append_right _ (List.mem_append_left _ h))))), rfl⟩)
theorem wip_7 : ∀ q ∈ lw_privs_7, Cond.selects q.1.cls q.1 q.1 ∈ lw_tbl := fun q h => List.mem_append_left tables_1 (List.mem_map.mpr ⟨q, show q ∈ lw_privs from List.mem_append_right _ (List.mem_append_right _ (List.mem_append_right _ (List.mem_append_right _ (List.mem_append_right _ (List.mem_append_right _ (List.mem_append_left _ h)))))), rfl⟩)
theorem wip_8 : ∀ q ∈ lw_privs_8, Cond.selects q.1.cls q.1 q.1 ∈ lw_tbl := fun q h => List.mem_append_left tables_1 (List.mem_map.mpr ⟨q, show q ∈ lw_privs from List.mem_append_right _ (List.mem_append_right _ (List.mem_append_right _ (List.mem_append_right _ (List.mem_append_right _ (List.mem_append_right _ (List.mem_append_right _ (List.mem_append_left _ h))))))), rfl⟩)
theorem wip_9 : ∀ q ∈ lw_privs_9, Cond.selects q.1.cls q.1 q.1 ∈ lw_tbl := fun q h => List.mem_append_left tables_1 (List.mem_map.mpr ⟨q, show q ∈ lw_privs from List.mem_append_right _ (List.mem_append_right _ (List.mem_append_right _ (List.mem_append_right _ (List.mem_append_right _ (List.mem_append_right _ (List.mem_append_right _ (List.mem_append_right _ (List.mem_append_left _ h)))))))), rfl⟩)
theorem wip_10 : ∀ q ∈ lw_privs_10, Cond.selects q.1.cls q.1 q.1 ∈ lw_tbl := fun q h => List.mem_append_left tables_1 (List.mem_map.mpr ⟨q, show q ∈ lw_privs from List.mem_append_right _ (List.mem_append_right _ (List.mem_append_right _ (List.mem_append_right _ (List.mem_append_right _ (List.mem_append_right _ (List.mem_append_right _ (List.mem_append_right _ (List.mem_append_right _ (List.mem_append_left _ h))))))))), rfl⟩)
theorem wip_11 : ∀ q ∈ lw_privs_11, Cond.selects q.1.cls q.1 q.1 ∈ lw_tbl := fun q h => List.mem_append_left tables_1 (List.mem_map.mpr ⟨q, show q ∈ lw_privs from List.mem_append_right _ (List.mem_append_right _ (List.mem_append_right _ (List.mem_append_right _ (List.mem_append_right _ (List.mem_append_right _ (List.mem_append_right _ (List.mem_append_right _ (List.mem_append_right _ (List.mem_append_right _ (List.mem_append_left _ h)))))))))), rfl⟩)
theorem wip_12 : ∀ q ∈ lw_privs_12, Cond.selects q.1.cls q.1 q.1 ∈ lw_tbl := fun q h => List.mem_append_left tables_1 (List.mem_map.mpr ⟨q, show q ∈ lw_privs from List.mem_append_right _ (List.mem_append_right _ (List.mem_append_right _ (List.mem_append_right _ (List.mem_append_right _ (List.mem_append_right _ (List.mem_append_right _ (List.mem_append_right _ (List.mem_append_right _ (List.mem_append_right _ (List.mem_append_right _ (List.mem_append_left _ h))))))))))), rfl⟩)
theorem wip_13 : ∀ q ∈ lw_privs_13, Cond.selects q.1.cls q.1 q.1 ∈ lw_tbl := fun q h => List.mem_append_left tables_1 (List.mem_map.mpr ⟨q, show q ∈ lw_privs from List.mem_append_right _ (List.mem_append_right _ (List.mem_append_right _ (List.mem_append_right _ (List.mem_append_right _ (List.mem_append_right _ (List.mem_append_right _ (List.mem_append_right _ (List.mem_append_right _ (List.mem_append_right _ (List.mem_append_right _ (List.mem_append_right _ (List.mem_append_left _ h)))))))))))), rfl⟩)
theorem wip_14 : ∀ q ∈ lw_privs_14, Cond.selects q.1.cls q.1 q.1 ∈ lw_tbl := fun q h => List.mem_append_left tables_1 (List.mem_map.mpr ⟨q, show q ∈ lw_privs from List.mem_append_right _ (List.mem_append_right _ (List.mem_append_right _ (List.mem_append_right _ (List.mem_append_right _ (List.mem_append_right _ (List.mem_append_right _ (List.mem_append_right _ (List.mem_append_right _ (List.mem_append_right _ (List.mem_append_right _ (List.mem_append_right _ (List.mem_append_right _ (h))))))))))))), rfl⟩)
theorem wz_L : Cond.initialized RL ∈ aTB := aTB_of (wi_1 _ (List.mem_of_getElem? (i := 0) rfl)) rfl
theorem wz_X11 : Cond.initialized RX11 ∈ aTB := aTB_of (wi_1 _ (List.mem_of_getElem? (i := 1) rfl)) rfl
theorem wz_X2 : Cond.initialized RX2 ∈ aTB := aTB_of (wi_1 _ (List.mem_of_getElem? (i := 2) rfl)) rfl
theorem wz_X0 : Cond.initialized RX0 ∈ aTB := aTB_of (wi_1 _ (List.mem_of_getElem? (i := 3) rfl)) rfl
theorem wz_X6 : Cond.initialized RX6 ∈ aTB := aTB_of (wi_1 _ (List.mem_of_getElem? (i := 4) rfl)) rfl
theorem wz_X8 : Cond.initialized RX8 ∈ aTB := aTB_of (wi_1 _ (List.mem_of_getElem? (i := 5) rfl)) rfl
theorem wz_X3 : Cond.initialized RX3 ∈ aTB := aTB_of (wi_1 _ (List.mem_of_getElem? (i := 6) rfl)) rfl
theorem wz_X10 : Cond.initialized RX10 ∈ aTB := aTB_of (wi_1 _ (List.mem_of_getElem? (i := 7) rfl)) rfl
theorem wz_X7 : Cond.initialized RX7 ∈ aTB := aTB_of (wi_1 _ (List.mem_of_getElem? (i := 8) rfl)) rfl
theorem wz_X4 : Cond.initialized RX4 ∈ aTB := aTB_of (wi_1 _ (List.mem_of_getElem? (i := 9) rfl)) rfl
theorem wz_X1 : Cond.initialized RX1 ∈ aTB := aTB_of (wi_1 _ (List.mem_of_getElem? (i := 10) rfl)) rfl
theorem wz_X9 : Cond.initialized RX9 ∈ aTB := aTB_of (wi_1 _ (List.mem_of_getElem? (i := 11) rfl)) rfl
theorem wz_X5 : Cond.initialized RX5 ∈ aTB := aTB_of (wi_1 _ (List.mem_of_getElem? (i := 12) rfl)) rfl
theorem wz_X14 : Cond.initialized RX14 ∈ aTB := aTB_of (wi_1 _ (List.mem_of_getElem? (i := 13) rfl)) rfl
theorem wz_X13 : Cond.initialized RX13 ∈ aTB := aTB_of (wi_1 _ (List.mem_of_getElem? (i := 14) rfl)) rfl
theorem wz_java_lang_Throwable : Cond.initialized "java/lang/Throwable" ∈ aTB := aTB_of (wi_1 _ (List.mem_of_getElem? (i := 15) rfl)) rfl
theorem wz_java_lang_Exception : Cond.initialized "java/lang/Exception" ∈ aTB := aTB_of (wi_1 _ (List.mem_of_getElem? (i := 16) rfl)) rfl
theorem wz_java_lang_RuntimeException : Cond.initialized "java/lang/RuntimeException" ∈ aTB := aTB_of (wi_1 _ (List.mem_of_getElem? (i := 17) rfl)) rfl
theorem wz_X12 : Cond.initialized RX12 ∈ aTB := aTB_of (wi_1 _ (List.mem_of_getElem? (i := 18) rfl)) rfl
theorem wz_J7 : Cond.initialized RJ7 ∈ aTB := aTB_of (wi_1 _ (List.mem_of_getElem? (i := 19) rfl)) rfl
theorem wz_J10 : Cond.initialized RJ10 ∈ aTB := aTB_of (wi_1 _ (List.mem_of_getElem? (i := 20) rfl)) rfl
theorem wz_J9 : Cond.initialized RJ9 ∈ aTB := aTB_of (wi_1 _ (List.mem_of_getElem? (i := 21) rfl)) rfl
theorem wz_J0 : Cond.initialized RJ0 ∈ aTB := aTB_of (wi_1 _ (List.mem_of_getElem? (i := 22) rfl)) rfl
theorem wz_J1 : Cond.initialized RJ1 ∈ aTB := aTB_of (wi_1 _ (List.mem_of_getElem? (i := 23) rfl)) rfl
theorem wz_J3 : Cond.initialized RJ3 ∈ aTB := aTB_of (wi_1 _ (List.mem_of_getElem? (i := 24) rfl)) rfl
theorem wz_J2 : Cond.initialized RJ2 ∈ aTB := aTB_of (wi_1 _ (List.mem_of_getElem? (i := 25) rfl)) rfl
theorem wz_java_util_NoSuchElementException : Cond.initialized "java/util/NoSuchElementException" ∈ aTB := aTB_of (wi_1 _ (List.mem_of_getElem? (i := 26) rfl)) rfl
theorem wz_J6 : Cond.initialized RJ6 ∈ aTB := aTB_of (wi_1 _ (List.mem_of_getElem? (i := 27) rfl)) rfl
theorem wk_L_8 : Cond.classLink RL 8 RX11 ∈ aTB := aTB_of (wi_1 _ (List.mem_of_getElem? (i := 28) rfl)) rfl
theorem wj_X11 : Cond.instantiable RX11 18 ∈ aTB := aTB_of (wi_1 _ (List.mem_of_getElem? (i := 29) rfl)) rfl
theorem wm_L_15 : Cond.methodLink RL 15 yX11_init ∈ aTB := aTB_of (wi_1 _ (List.mem_of_getElem? (i := 30) rfl)) rfl
theorem wi_X11_init : Cond.instanceMethod yX11_init ∈ aTB := aTB_of (wi_1 _ (List.mem_of_getElem? (i := 31) rfl)) rfl
theorem wc_X11_init : Cond.code yX11_init cX11_init 1 none ∈ aTB := aTB_of (wi_1 _ (List.mem_of_getElem? (i := 32) rfl)) rfl
theorem wm_X11_3 : Cond.methodLink RX11 3 Lib.objectInit ∈ aTB := aTB_of (wi_1 _ (List.mem_of_getElem? (i := 33) rfl)) rfl
theorem wi_oinit : Cond.instanceMethod Lib.objectInit ∈ aTB := aTB_of (wi_1 _ (List.mem_of_getElem? (i := 34) rfl)) rfl
theorem wc_oinit : Cond.code Lib.objectInit ⟨#[0xb1]⟩ 1 none ∈ aTB := aTB_of (wi_1 _ (List.mem_of_getElem? (i := 35) rfl)) rfl
theorem wk_X11_16 : Cond.classLink RX11 16 RX2 ∈ aTB := aTB_of (wi_1 _ (List.mem_of_getElem? (i := 36) rfl)) rfl
theorem wj_X2 : Cond.instantiable RX2 17 ∈ aTB := aTB_of (wi_1 _ (List.mem_of_getElem? (i := 37) rfl)) rfl
theorem wn_X11_18 : Cond.methodLinkNest RX11 18 yX2_init "SteeringHouse" ∈ lw_tbl := wi_1 _ (List.mem_of_getElem? (i := 38) rfl)
theorem wi_X2_init : Cond.instanceMethod yX2_init ∈ aTB := aTB_of (wi_1 _ (List.mem_of_getElem? (i := 39) rfl)) rfl
theorem wc_X2_init : Cond.code yX2_init cX2_init 1 none ∈ aTB := aTB_of (wi_1 _ (List.mem_of_getElem? (i := 40) rfl)) rfl
theorem wm_X2_3 : Cond.methodLink RX2 3 Lib.objectInit ∈ aTB := aTB_of (wi_1 _ (List.mem_of_getElem? (i := 41) rfl)) rfl
theorem wk_X2_50 : Cond.classLink RX2 50 RX0 ∈ aTB := aTB_of (wi_1 _ (List.mem_of_getElem? (i := 42) rfl)) rfl
theorem wj_X0 : Cond.instantiable RX0 9 ∈ aTB := aTB_of (wi_1 _ (List.mem_of_getElem? (i := 43) rfl)) rfl
theorem wn_X2_52 : Cond.methodLinkNest RX2 52 yX0_init "SteeringHouse" ∈ lw_tbl := wi_1 _ (List.mem_of_getElem? (i := 44) rfl)
theorem wi_X0_init : Cond.instanceMethod yX0_init ∈ aTB := aTB_of (wi_1 _ (List.mem_of_getElem? (i := 45) rfl)) rfl
theorem wc_X0_init : Cond.code yX0_init cX0_init 1 none ∈ aTB := aTB_of (wi_1 _ (List.mem_of_getElem? (i := 46) rfl)) rfl
theorem wm_X0_5 : Cond.methodLink RX0 5 Lib.objectInit ∈ aTB := aTB_of (wi_1 _ (List.mem_of_getElem? (i := 47) rfl)) rfl
theorem wf_X0_33 : Cond.fieldLink RX0 33 (TX0 0).1 (TX0 0).2.1 (TX0 0).2.2.1 ∈ aTB := aTB_of (wi_1 _ (List.mem_of_getElem? (i := 48) rfl)) rfl
theorem wg_X10_87 : Cond.fieldLinkNest RX10 87 (TX0 0).1 (TX0 0).2.1 (TX0 0).2.2.1 "SteeringHouse" ∈ lw_tbl := wi_1 _ (List.mem_of_getElem? (i := 49) rfl)
theorem wg_X6_126 : Cond.fieldLinkNest RX6 126 (TX0 0).1 (TX0 0).2.1 (TX0 0).2.2.1 "SteeringHouse" ∈ lw_tbl := wi_1 _ (List.mem_of_getElem? (i := 50) rfl)
theorem wf_X0_11 : Cond.fieldLink RX0 11 (TX0 1).1 (TX0 1).2.1 (TX0 1).2.2.1 ∈ aTB := aTB_of (wi_1 _ (List.mem_of_getElem? (i := 51) rfl)) rfl
theorem wg_X1_109 : Cond.fieldLinkNest RX1 109 (TX0 1).1 (TX0 1).2.1 (TX0 1).2.2.1 "SteeringHouse" ∈ lw_tbl := wi_1 _ (List.mem_of_getElem? (i := 52) rfl)
theorem wf_X0_15 : Cond.fieldLink RX0 15 (TX0 2).1 (TX0 2).2.1 (TX0 2).2.2.1 ∈ aTB := aTB_of (wi_1 _ (List.mem_of_getElem? (i := 53) rfl)) rfl
theorem wg_X1_117 : Cond.fieldLinkNest RX1 117 (TX0 2).1 (TX0 2).2.1 (TX0 2).2.2.1 "SteeringHouse" ∈ lw_tbl := wi_1 _ (List.mem_of_getElem? (i := 54) rfl)
theorem wf_X0_18 : Cond.fieldLink RX0 18 (TX0 3).1 (TX0 3).2.1 (TX0 3).2.2.1 ∈ aTB := aTB_of (wi_1 _ (List.mem_of_getElem? (i := 55) rfl)) rfl
theorem wg_X1_123 : Cond.fieldLinkNest RX1 123 (TX0 3).1 (TX0 3).2.1 (TX0 3).2.2.1 "SteeringHouse" ∈ lw_tbl := wi_1 _ (List.mem_of_getElem? (i := 56) rfl)
theorem wf_X0_37 : Cond.fieldLink RX0 37 (TX0 4).1 (TX0 4).2.1 (TX0 4).2.2.1 ∈ aTB := aTB_of (wi_1 _ (List.mem_of_getElem? (i := 57) rfl)) rfl
theorem wg_X10_78 : Cond.fieldLinkNest RX10 78 (TX0 4).1 (TX0 4).2.1 (TX0 4).2.2.1 "SteeringHouse" ∈ lw_tbl := wi_1 _ (List.mem_of_getElem? (i := 58) rfl)
theorem wg_X2_98 : Cond.fieldLinkNest RX2 98 (TX0 4).1 (TX0 4).2.1 (TX0 4).2.2.1 "SteeringHouse" ∈ lw_tbl := wi_1 _ (List.mem_of_getElem? (i := 59) rfl)
theorem wg_X6_138 : Cond.fieldLinkNest RX6 138 (TX0 4).1 (TX0 4).2.1 (TX0 4).2.2.1 "SteeringHouse" ∈ lw_tbl := wi_1 _ (List.mem_of_getElem? (i := 60) rfl)
theorem wf_X0_21 : Cond.fieldLink RX0 21 (TX0 5).1 (TX0 5).2.1 (TX0 5).2.2.1 ∈ aTB := aTB_of (wi_1 _ (List.mem_of_getElem? (i := 61) rfl)) rfl
theorem wf_X0_24 : Cond.fieldLink RX0 24 (TX0 6).1 (TX0 6).2.1 (TX0 6).2.2.1 ∈ aTB := aTB_of (wi_1 _ (List.mem_of_getElem? (i := 62) rfl)) rfl
theorem wf_X0_27 : Cond.fieldLink RX0 27 (TX0 7).1 (TX0 7).2.1 (TX0 7).2.2.1 ∈ aTB := aTB_of (wi_1 _ (List.mem_of_getElem? (i := 63) rfl)) rfl
theorem wf_X0_30 : Cond.fieldLink RX0 30 (TX0 8).1 (TX0 8).2.1 (TX0 8).2.2.1 ∈ aTB := aTB_of (wi_1 _ (List.mem_of_getElem? (i := 64) rfl)) rfl
theorem wa_int : Cond.arrayClass .int ∈ aTB := aTB_of (wi_1 _ (List.mem_of_getElem? (i := 84) rfl)) rfl
theorem wa_long : Cond.arrayClass .long ∈ aTB := aTB_of (wi_1 _ (List.mem_of_getElem? (i := 85) rfl)) rfl
theorem wf_X2_9 : Cond.fieldLink RX2 9 (TX2 0).1 (TX2 0).2.1 (TX2 0).2.2.1 ∈ aTB := aTB_of (wi_1 _ (List.mem_of_getElem? (i := 86) rfl)) rfl
theorem wg_X5_66 : Cond.fieldLinkNest RX5 66 (TX2 0).1 (TX2 0).2.1 (TX2 0).2.2.1 "SteeringHouse" ∈ lw_tbl := wi_1 _ (List.mem_of_getElem? (i := 87) rfl)
theorem wg_X1_92 : Cond.fieldLinkNest RX1 92 (TX2 0).1 (TX2 0).2.1 (TX2 0).2.2.1 "SteeringHouse" ∈ lw_tbl := wi_1 _ (List.mem_of_getElem? (i := 88) rfl)
theorem wg_X11_173 : Cond.fieldLinkNest RX11 173 (TX2 0).1 (TX2 0).2.1 (TX2 0).2.2.1 "SteeringHouse" ∈ lw_tbl := wi_1 _ (List.mem_of_getElem? (i := 89) rfl)
theorem wg_X6_145 : Cond.fieldLinkNest RX6 145 (TX2 0).1 (TX2 0).2.1 (TX2 0).2.2.1 "SteeringHouse" ∈ lw_tbl := wi_1 _ (List.mem_of_getElem? (i := 90) rfl)
theorem wg_X9_81 : Cond.fieldLinkNest RX9 81 (TX2 0).1 (TX2 0).2.1 (TX2 0).2.2.1 "SteeringHouse" ∈ lw_tbl := wi_1 _ (List.mem_of_getElem? (i := 91) rfl)
theorem wf_X2_15 : Cond.fieldLink RX2 15 (TX2 1).1 (TX2 1).2.1 (TX2 1).2.2.1 ∈ aTB := aTB_of (wi_1 _ (List.mem_of_getElem? (i := 92) rfl)) rfl
theorem wf_X2_19 : Cond.fieldLink RX2 19 (TX2 2).1 (TX2 2).2.1 (TX2 2).2.2.1 ∈ aTB := aTB_of (wi_1 _ (List.mem_of_getElem? (i := 93) rfl)) rfl
theorem wg_X5_72 : Cond.fieldLinkNest RX5 72 (TX2 2).1 (TX2 2).2.1 (TX2 2).2.2.1 "SteeringHouse" ∈ lw_tbl := wi_1 _ (List.mem_of_getElem? (i := 94) rfl)
theorem wg_X1_126 : Cond.fieldLinkNest RX1 126 (TX2 2).1 (TX2 2).2.1 (TX2 2).2.2.1 "SteeringHouse" ∈ lw_tbl := wi_1 _ (List.mem_of_getElem? (i := 95) rfl)
theorem wg_X6_120 : Cond.fieldLinkNest RX6 120 (TX2 2).1 (TX2 2).2.1 (TX2 2).2.2.1 "SteeringHouse" ∈ lw_tbl := wi_1 _ (List.mem_of_getElem? (i := 96) rfl)
theorem wf_X2_22 : Cond.fieldLink RX2 22 (TX2 3).1 (TX2 3).2.1 (TX2 3).2.2.1 ∈ aTB := aTB_of (wi_1 _ (List.mem_of_getElem? (i := 97) rfl)) rfl
theorem wg_X5_75 : Cond.fieldLinkNest RX5 75 (TX2 3).1 (TX2 3).2.1 (TX2 3).2.2.1 "SteeringHouse" ∈ lw_tbl := wi_1 _ (List.mem_of_getElem? (i := 98) rfl)
theorem wg_X6_123 : Cond.fieldLinkNest RX6 123 (TX2 3).1 (TX2 3).2.1 (TX2 3).2.2.1 "SteeringHouse" ∈ lw_tbl := wi_1 _ (List.mem_of_getElem? (i := 99) rfl)
theorem wf_X2_63 : Cond.fieldLink RX2 63 (TX2 4).1 (TX2 4).2.1 (TX2 4).2.2.1 ∈ aTB := aTB_of (wi_1 _ (List.mem_of_getElem? (i := 100) rfl)) rfl
theorem wg_X1_67 : Cond.fieldLinkNest RX1 67 (TX2 4).1 (TX2 4).2.1 (TX2 4).2.2.1 "SteeringHouse" ∈ lw_tbl := wi_1 _ (List.mem_of_getElem? (i := 101) rfl)
theorem wg_X6_135 : Cond.fieldLinkNest RX6 135 (TX2 4).1 (TX2 4).2.1 (TX2 4).2.2.1 "SteeringHouse" ∈ lw_tbl := wi_1 _ (List.mem_of_getElem? (i := 102) rfl)
theorem wg_X11_182 : Cond.fieldLinkNest RX11 182 (TX2 4).1 (TX2 4).2.1 (TX2 4).2.2.1 "SteeringHouse" ∈ lw_tbl := wi_1 _ (List.mem_of_getElem? (i := 103) rfl)
theorem wf_X2_25 : Cond.fieldLink RX2 25 (TX2 5).1 (TX2 5).2.1 (TX2 5).2.2.1 ∈ aTB := aTB_of (wi_1 _ (List.mem_of_getElem? (i := 104) rfl)) rfl
theorem wg_X1_73 : Cond.fieldLinkNest RX1 73 (TX2 5).1 (TX2 5).2.1 (TX2 5).2.2.1 "SteeringHouse" ∈ lw_tbl := wi_1 _ (List.mem_of_getElem? (i := 105) rfl)
theorem wf_X2_28 : Cond.fieldLink RX2 28 (TX2 6).1 (TX2 6).2.1 (TX2 6).2.2.1 ∈ aTB := aTB_of (wi_1 _ (List.mem_of_getElem? (i := 106) rfl)) rfl
theorem wg_X1_82 : Cond.fieldLinkNest RX1 82 (TX2 6).1 (TX2 6).2.1 (TX2 6).2.2.1 "SteeringHouse" ∈ lw_tbl := wi_1 _ (List.mem_of_getElem? (i := 107) rfl)
theorem wf_X2_31 : Cond.fieldLink RX2 31 (TX2 7).1 (TX2 7).2.1 (TX2 7).2.2.1 ∈ aTB := aTB_of (wi_1 _ (List.mem_of_getElem? (i := 108) rfl)) rfl
theorem wg_X1_85 : Cond.fieldLinkNest RX1 85 (TX2 7).1 (TX2 7).2.1 (TX2 7).2.2.1 "SteeringHouse" ∈ lw_tbl := wi_1 _ (List.mem_of_getElem? (i := 109) rfl)
theorem wf_X2_34 : Cond.fieldLink RX2 34 (TX2 8).1 (TX2 8).2.1 (TX2 8).2.2.1 ∈ aTB := aTB_of (wi_1 _ (List.mem_of_getElem? (i := 110) rfl)) rfl
theorem wg_X1_79 : Cond.fieldLinkNest RX1 79 (TX2 8).1 (TX2 8).2.1 (TX2 8).2.2.1 "SteeringHouse" ∈ lw_tbl := wi_1 _ (List.mem_of_getElem? (i := 111) rfl)
theorem wf_X2_37 : Cond.fieldLink RX2 37 (TX2 9).1 (TX2 9).2.1 (TX2 9).2.2.1 ∈ aTB := aTB_of (wi_1 _ (List.mem_of_getElem? (i := 112) rfl)) rfl
theorem wg_X1_76 : Cond.fieldLinkNest RX1 76 (TX2 9).1 (TX2 9).2.1 (TX2 9).2.2.1 "SteeringHouse" ∈ lw_tbl := wi_1 _ (List.mem_of_getElem? (i := 113) rfl)
theorem wf_X2_40 : Cond.fieldLink RX2 40 (TX2 10).1 (TX2 10).2.1 (TX2 10).2.2.1 ∈ aTB := aTB_of (wi_1 _ (List.mem_of_getElem? (i := 114) rfl)) rfl
theorem wg_X1_95 : Cond.fieldLinkNest RX1 95 (TX2 10).1 (TX2 10).2.1 (TX2 10).2.2.1 "SteeringHouse" ∈ lw_tbl := wi_1 _ (List.mem_of_getElem? (i := 115) rfl)
theorem wg_X6_129 : Cond.fieldLinkNest RX6 129 (TX2 10).1 (TX2 10).2.1 (TX2 10).2.2.1 "SteeringHouse" ∈ lw_tbl := wi_1 _ (List.mem_of_getElem? (i := 116) rfl)
theorem wf_X2_43 : Cond.fieldLink RX2 43 (TX2 11).1 (TX2 11).2.1 (TX2 11).2.2.1 ∈ aTB := aTB_of (wi_1 _ (List.mem_of_getElem? (i := 117) rfl)) rfl
theorem wg_X1_98 : Cond.fieldLinkNest RX1 98 (TX2 11).1 (TX2 11).2.1 (TX2 11).2.2.1 "SteeringHouse" ∈ lw_tbl := wi_1 _ (List.mem_of_getElem? (i := 118) rfl)
theorem wg_X6_132 : Cond.fieldLinkNest RX6 132 (TX2 11).1 (TX2 11).2.1 (TX2 11).2.2.1 "SteeringHouse" ∈ lw_tbl := wi_1 _ (List.mem_of_getElem? (i := 119) rfl)
theorem wg_X3_29 : Cond.fieldLinkNest RX3 29 (TX2 12).1 (TX2 12).2.1 (TX2 12).2.2.1 "SteeringHouse" ∈ lw_tbl := wi_1 _ (List.mem_of_getElem? (i := 120) rfl)
theorem wg_X10_50 : Cond.fieldLinkNest RX10 50 (TX2 12).1 (TX2 12).2.1 (TX2 12).2.2.1 "SteeringHouse" ∈ lw_tbl := wi_1 _ (List.mem_of_getElem? (i := 121) rfl)
theorem wg_X4_34 : Cond.fieldLinkNest RX4 34 (TX2 12).1 (TX2 12).2.1 (TX2 12).2.2.1 "SteeringHouse" ∈ lw_tbl := wi_1 _ (List.mem_of_getElem? (i := 122) rfl)
theorem wg_X7_64 : Cond.fieldLinkNest RX7 64 (TX2 12).1 (TX2 12).2.1 (TX2 12).2.2.1 "SteeringHouse" ∈ lw_tbl := wi_1 _ (List.mem_of_getElem? (i := 123) rfl)
theorem wg_X11_135 : Cond.fieldLinkNest RX11 135 (TX2 12).1 (TX2 12).2.1 (TX2 12).2.2.1 "SteeringHouse" ∈ lw_tbl := wi_1 _ (List.mem_of_getElem? (i := 124) rfl)
theorem wf_X2_86 : Cond.fieldLink RX2 86 (TX2 12).1 (TX2 12).2.1 (TX2 12).2.2.1 ∈ aTB := aTB_of (wi_1 _ (List.mem_of_getElem? (i := 125) rfl)) rfl
theorem wg_X5_87 : Cond.fieldLinkNest RX5 87 (TX2 12).1 (TX2 12).2.1 (TX2 12).2.2.1 "SteeringHouse" ∈ lw_tbl := wi_1 _ (List.mem_of_getElem? (i := 126) rfl)
theorem wg_X9_71 : Cond.fieldLinkNest RX9 71 (TX2 12).1 (TX2 12).2.1 (TX2 12).2.2.1 "SteeringHouse" ∈ lw_tbl := wi_1 _ (List.mem_of_getElem? (i := 127) rfl)
theorem wg_X10_56 : Cond.fieldLinkNest RX10 56 (TX2 13).1 (TX2 13).2.1 (TX2 13).2.2.1 "SteeringHouse" ∈ lw_tbl := wi_1 _ (List.mem_of_getElem? (i := 128) rfl)
theorem wg_X3_38 : Cond.fieldLinkNest RX3 38 (TX2 13).1 (TX2 13).2.1 (TX2 13).2.2.1 "SteeringHouse" ∈ lw_tbl := wi_1 _ (List.mem_of_getElem? (i := 129) rfl)
theorem wg_X7_73 : Cond.fieldLinkNest RX7 73 (TX2 13).1 (TX2 13).2.1 (TX2 13).2.2.1 "SteeringHouse" ∈ lw_tbl := wi_1 _ (List.mem_of_getElem? (i := 130) rfl)
theorem wg_X4_55 : Cond.fieldLinkNest RX4 55 (TX2 13).1 (TX2 13).2.1 (TX2 13).2.2.1 "SteeringHouse" ∈ lw_tbl := wi_1 _ (List.mem_of_getElem? (i := 131) rfl)
theorem wf_X2_89 : Cond.fieldLink RX2 89 (TX2 13).1 (TX2 13).2.1 (TX2 13).2.2.1 ∈ aTB := aTB_of (wi_1 _ (List.mem_of_getElem? (i := 132) rfl)) rfl
theorem wg_X11_176 : Cond.fieldLinkNest RX11 176 (TX2 13).1 (TX2 13).2.1 (TX2 13).2.2.1 "SteeringHouse" ∈ lw_tbl := wi_1 _ (List.mem_of_getElem? (i := 133) rfl)
theorem wg_X5_121 : Cond.fieldLinkNest RX5 121 (TX2 13).1 (TX2 13).2.1 (TX2 13).2.2.1 "SteeringHouse" ∈ lw_tbl := wi_1 _ (List.mem_of_getElem? (i := 134) rfl)
theorem wg_X9_92 : Cond.fieldLinkNest RX9 92 (TX2 13).1 (TX2 13).2.1 (TX2 13).2.2.1 "SteeringHouse" ∈ lw_tbl := wi_1 _ (List.mem_of_getElem? (i := 135) rfl)
theorem wg_X3_41 : Cond.fieldLinkNest RX3 41 (TX2 14).1 (TX2 14).2.1 (TX2 14).2.2.1 "SteeringHouse" ∈ lw_tbl := wi_1 _ (List.mem_of_getElem? (i := 136) rfl)
theorem wf_X2_92 : Cond.fieldLink RX2 92 (TX2 14).1 (TX2 14).2.1 (TX2 14).2.2.1 ∈ aTB := aTB_of (wi_1 _ (List.mem_of_getElem? (i := 137) rfl)) rfl
theorem wg_X4_71 : Cond.fieldLinkNest RX4 71 (TX2 14).1 (TX2 14).2.1 (TX2 14).2.2.1 "SteeringHouse" ∈ lw_tbl := wi_1 _ (List.mem_of_getElem? (i := 138) rfl)
theorem wg_X11_179 : Cond.fieldLinkNest RX11 179 (TX2 14).1 (TX2 14).2.1 (TX2 14).2.2.1 "SteeringHouse" ∈ lw_tbl := wi_1 _ (List.mem_of_getElem? (i := 139) rfl)
theorem wg_X5_128 : Cond.fieldLinkNest RX5 128 (TX2 14).1 (TX2 14).2.1 (TX2 14).2.2.1 "SteeringHouse" ∈ lw_tbl := wi_1 _ (List.mem_of_getElem? (i := 140) rfl)
theorem wg_X9_141 : Cond.fieldLinkNest RX9 141 (TX2 14).1 (TX2 14).2.1 (TX2 14).2.2.1 "SteeringHouse" ∈ lw_tbl := wi_1 _ (List.mem_of_getElem? (i := 141) rfl)
theorem wf_X2_46 : Cond.fieldLink RX2 46 (TX2 15).1 (TX2 15).2.1 (TX2 15).2.2.1 ∈ aTB := aTB_of (wi_1 _ (List.mem_of_getElem? (i := 142) rfl)) rfl
theorem wg_X7_126 : Cond.fieldLinkNest RX7 126 (TX2 15).1 (TX2 15).2.1 (TX2 15).2.2.1 "SteeringHouse" ∈ lw_tbl := wi_1 _ (List.mem_of_getElem? (i := 143) rfl)
theorem wg_X9_98 : Cond.fieldLinkNest RX9 98 (TX2 15).1 (TX2 15).2.1 (TX2 15).2.2.1 "SteeringHouse" ∈ lw_tbl := wi_1 _ (List.mem_of_getElem? (i := 144) rfl)
theorem wg_X6_22 : Cond.fieldLinkNest RX6 22 (TX2 16).1 (TX2 16).2.1 (TX2 16).2.2.1 "SteeringHouse" ∈ lw_tbl := wi_1 _ (List.mem_of_getElem? (i := 145) rfl)
theorem wf_X2_53 : Cond.fieldLink RX2 53 (TX2 16).1 (TX2 16).2.1 (TX2 16).2.2.1 ∈ aTB := aTB_of (wi_1 _ (List.mem_of_getElem? (i := 146) rfl)) rfl
theorem wg_X1_105 : Cond.fieldLinkNest RX1 105 (TX2 16).1 (TX2 16).2.1 (TX2 16).2.2.1 "SteeringHouse" ∈ lw_tbl := wi_1 _ (List.mem_of_getElem? (i := 147) rfl)
theorem wk_X11_26 : Cond.classLink RX11 26 RX0 ∈ aTB := aTB_of (wi_1 _ (List.mem_of_getElem? (i := 183) rfl)) rfl
theorem wn_X11_28 : Cond.methodLinkNest RX11 28 yX0_init "SteeringHouse" ∈ lw_tbl := wi_1 _ (List.mem_of_getElem? (i := 184) rfl)
theorem wk_X11_33 : Cond.classLink RX11 33 RX6 ∈ aTB := aTB_of (wi_1 _ (List.mem_of_getElem? (i := 185) rfl)) rfl
theorem wj_X6 : Cond.instantiable RX6 8 ∈ aTB := aTB_of (wi_1 _ (List.mem_of_getElem? (i := 186) rfl)) rfl
theorem wn_X11_35 : Cond.methodLinkNest RX11 35 yX6_init "SteeringHouse" ∈ lw_tbl := wi_1 _ (List.mem_of_getElem? (i := 187) rfl)
theorem wi_X6_init : Cond.instanceMethod yX6_init ∈ aTB := aTB_of (wi_1 _ (List.mem_of_getElem? (i := 188) rfl)) rfl
theorem wc_X6_init : Cond.code yX6_init cX6_init 2 none ∈ aTB := aTB_of (wi_1 _ (List.mem_of_getElem? (i := 189) rfl)) rfl
theorem wm_X6_3 : Cond.methodLink RX6 3 Lib.objectInit ∈ aTB := aTB_of (wi_1 _ (List.mem_of_getElem? (i := 190) rfl)) rfl
theorem wk_X6_9 : Cond.classLink RX6 9 RX8 ∈ aTB := aTB_of (wi_1 _ (List.mem_of_getElem? (i := 191) rfl)) rfl
theorem wj_X8 : Cond.instantiable RX8 4 ∈ aTB := aTB_of (wi_1 _ (List.mem_of_getElem? (i := 192) rfl)) rfl
theorem wn_X6_11 : Cond.methodLinkNest RX6 11 yX8_init "SteeringHouse" ∈ lw_tbl := wi_1 _ (List.mem_of_getElem? (i := 193) rfl)
theorem wi_X8_init : Cond.instanceMethod yX8_init ∈ aTB := aTB_of (wi_1 _ (List.mem_of_getElem? (i := 194) rfl)) rfl
theorem wc_X8_init : Cond.code yX8_init cX8_init 1 none ∈ aTB := aTB_of (wi_1 _ (List.mem_of_getElem? (i := 195) rfl)) rfl
theorem wm_X8_3 : Cond.methodLink RX8 3 Lib.objectInit ∈ aTB := aTB_of (wi_1 _ (List.mem_of_getElem? (i := 196) rfl)) rfl
theorem wf_X8_22 : Cond.fieldLink RX8 22 (TX8 0).1 (TX8 0).2.1 (TX8 0).2.2.1 ∈ aTB := aTB_of (wi_1 _ (List.mem_of_getElem? (i := 197) rfl)) rfl
theorem wg_X6_164 : Cond.fieldLinkNest RX6 164 (TX8 0).1 (TX8 0).2.1 (TX8 0).2.2.1 "SteeringHouse" ∈ lw_tbl := wi_1 _ (List.mem_of_getElem? (i := 198) rfl)
theorem wf_X8_9 : Cond.fieldLink RX8 9 (TX8 1).1 (TX8 1).2.1 (TX8 1).2.2.1 ∈ aTB := aTB_of (wi_1 _ (List.mem_of_getElem? (i := 199) rfl)) rfl
theorem wg_X6_167 : Cond.fieldLinkNest RX6 167 (TX8 1).1 (TX8 1).2.1 (TX8 1).2.2.1 "SteeringHouse" ∈ lw_tbl := wi_1 _ (List.mem_of_getElem? (i := 200) rfl)
theorem wf_X8_15 : Cond.fieldLink RX8 15 (TX8 2).1 (TX8 2).2.1 (TX8 2).2.2.1 ∈ aTB := aTB_of (wi_1 _ (List.mem_of_getElem? (i := 201) rfl)) rfl
theorem wg_X6_177 : Cond.fieldLinkNest RX6 177 (TX8 2).1 (TX8 2).2.1 (TX8 2).2.2.1 "SteeringHouse" ∈ lw_tbl := wi_1 _ (List.mem_of_getElem? (i := 202) rfl)
theorem wf_X8_18 : Cond.fieldLink RX8 18 (TX8 3).1 (TX8 3).2.1 (TX8 3).2.2.1 ∈ aTB := aTB_of (wi_1 _ (List.mem_of_getElem? (i := 203) rfl)) rfl
theorem wg_X6_170 : Cond.fieldLinkNest RX6 170 (TX8 3).1 (TX8 3).2.1 (TX8 3).2.2.1 "SteeringHouse" ∈ lw_tbl := wi_1 _ (List.mem_of_getElem? (i := 204) rfl)
theorem wf_X6_78 : Cond.fieldLink RX6 78 (TX6 0).1 (TX6 0).2.1 (TX6 0).2.2.1 ∈ aTB := aTB_of (wi_1 _ (List.mem_of_getElem? (i := 214) rfl)) rfl
theorem wg_X11_381 : Cond.fieldLinkNest RX11 381 (TX6 0).1 (TX6 0).2.1 (TX6 0).2.2.1 "SteeringHouse" ∈ lw_tbl := wi_1 _ (List.mem_of_getElem? (i := 215) rfl)
theorem wf_X6_81 : Cond.fieldLink RX6 81 (TX6 1).1 (TX6 1).2.1 (TX6 1).2.2.1 ∈ aTB := aTB_of (wi_1 _ (List.mem_of_getElem? (i := 216) rfl)) rfl
theorem wg_X11_382 : Cond.fieldLinkNest RX11 382 (TX6 1).1 (TX6 1).2.1 (TX6 1).2.2.1 "SteeringHouse" ∈ lw_tbl := wi_1 _ (List.mem_of_getElem? (i := 217) rfl)
theorem wf_X6_75 : Cond.fieldLink RX6 75 (TX6 2).1 (TX6 2).2.1 (TX6 2).2.2.1 ∈ aTB := aTB_of (wi_1 _ (List.mem_of_getElem? (i := 218) rfl)) rfl
theorem wf_X6_114 : Cond.fieldLink RX6 114 (TX6 3).1 (TX6 3).2.1 (TX6 3).2.2.1 ∈ aTB := aTB_of (wi_1 _ (List.mem_of_getElem? (i := 219) rfl)) rfl
theorem wf_X6_36 : Cond.fieldLink RX6 36 (TX6 4).1 (TX6 4).2.1 (TX6 4).2.2.1 ∈ aTB := aTB_of (wi_1 _ (List.mem_of_getElem? (i := 220) rfl)) rfl
theorem wf_X6_18 : Cond.fieldLink RX6 18 (TX6 5).1 (TX6 5).2.1 (TX6 5).2.2.1 ∈ aTB := aTB_of (wi_1 _ (List.mem_of_getElem? (i := 221) rfl)) rfl
theorem wf_X6_28 : Cond.fieldLink RX6 28 (TX6 6).1 (TX6 6).2.1 (TX6 6).2.2.1 ∈ aTB := aTB_of (wi_1 _ (List.mem_of_getElem? (i := 222) rfl)) rfl
theorem wf_X6_12 : Cond.fieldLink RX6 12 (TX6 7).1 (TX6 7).2.1 (TX6 7).2.2.1 ∈ aTB := aTB_of (wi_1 _ (List.mem_of_getElem? (i := 223) rfl)) rfl
theorem wk_X11_42 : Cond.classLink RX11 42 RX3 ∈ aTB := aTB_of (wi_2 _ (List.mem_of_getElem? (i := 1) rfl)) rfl
theorem wj_X3 : Cond.instantiable RX3 6 ∈ aTB := aTB_of (wi_2 _ (List.mem_of_getElem? (i := 2) rfl)) rfl
theorem wn_X11_44 : Cond.methodLinkNest RX11 44 yX3_init "SteeringHouse" ∈ lw_tbl := wi_2 _ (List.mem_of_getElem? (i := 3) rfl)
theorem wi_X3_init : Cond.instanceMethod yX3_init ∈ aTB := aTB_of (wi_2 _ (List.mem_of_getElem? (i := 4) rfl)) rfl
theorem wc_X3_init : Cond.code yX3_init cX3_init 2 none ∈ aTB := aTB_of (wi_2 _ (List.mem_of_getElem? (i := 5) rfl)) rfl
theorem wm_X3_3 : Cond.methodLink RX3 3 Lib.objectInit ∈ aTB := aTB_of (wi_2 _ (List.mem_of_getElem? (i := 6) rfl)) rfl
theorem wf_X3_21 : Cond.fieldLink RX3 21 (TX3 0).1 (TX3 0).2.1 (TX3 0).2.2.1 ∈ aTB := aTB_of (wi_2 _ (List.mem_of_getElem? (i := 7) rfl)) rfl
theorem wf_X3_9 : Cond.fieldLink RX3 9 (TX3 1).1 (TX3 1).2.1 (TX3 1).2.2.1 ∈ aTB := aTB_of (wi_2 _ (List.mem_of_getElem? (i := 8) rfl)) rfl
theorem wf_X3_25 : Cond.fieldLink RX3 25 (TX3 2).1 (TX3 2).2.1 (TX3 2).2.2.1 ∈ aTB := aTB_of (wi_2 _ (List.mem_of_getElem? (i := 9) rfl)) rfl
theorem wf_X3_35 : Cond.fieldLink RX3 35 (TX3 3).1 (TX3 3).2.1 (TX3 3).2.2.1 ∈ aTB := aTB_of (wi_2 _ (List.mem_of_getElem? (i := 10) rfl)) rfl
theorem wg_X7_98 : Cond.fieldLinkNest RX7 98 (TX3 3).1 (TX3 3).2.1 (TX3 3).2.2.1 "SteeringHouse" ∈ lw_tbl := wi_2 _ (List.mem_of_getElem? (i := 11) rfl)
theorem wg_X10_117 : Cond.fieldLinkNest RX10 117 (TX3 3).1 (TX3 3).2.1 (TX3 3).2.2.1 "SteeringHouse" ∈ lw_tbl := wi_2 _ (List.mem_of_getElem? (i := 12) rfl)
theorem wf_X3_15 : Cond.fieldLink RX3 15 (TX3 4).1 (TX3 4).2.1 (TX3 4).2.2.1 ∈ aTB := aTB_of (wi_2 _ (List.mem_of_getElem? (i := 13) rfl)) rfl
theorem wf_X3_18 : Cond.fieldLink RX3 18 (TX3 5).1 (TX3 5).2.1 (TX3 5).2.2.1 ∈ aTB := aTB_of (wi_2 _ (List.mem_of_getElem? (i := 14) rfl)) rfl
theorem wg_X7_79 : Cond.fieldLinkNest RX7 79 (TX3 5).1 (TX3 5).2.1 (TX3 5).2.2.1 "SteeringHouse" ∈ lw_tbl := wi_2 _ (List.mem_of_getElem? (i := 15) rfl)
theorem wg_X10_122 : Cond.fieldLinkNest RX10 122 (TX3 5).1 (TX3 5).2.1 (TX3 5).2.2.1 "SteeringHouse" ∈ lw_tbl := wi_2 _ (List.mem_of_getElem? (i := 16) rfl)
theorem wk_X11_49 : Cond.classLink RX11 49 RX10 ∈ aTB := aTB_of (wi_2 _ (List.mem_of_getElem? (i := 30) rfl)) rfl
theorem wj_X10 : Cond.instantiable RX10 12 ∈ aTB := aTB_of (wi_2 _ (List.mem_of_getElem? (i := 31) rfl)) rfl
theorem wn_X11_51 : Cond.methodLinkNest RX11 51 yX10_init "SteeringHouse" ∈ lw_tbl := wi_2 _ (List.mem_of_getElem? (i := 32) rfl)
theorem wi_X10_init : Cond.instanceMethod yX10_init ∈ aTB := aTB_of (wi_2 _ (List.mem_of_getElem? (i := 33) rfl)) rfl
theorem wc_X10_init : Cond.code yX10_init cX10_init 3 none ∈ aTB := aTB_of (wi_2 _ (List.mem_of_getElem? (i := 34) rfl)) rfl
theorem wm_X10_3 : Cond.methodLink RX10 3 Lib.objectInit ∈ aTB := aTB_of (wi_2 _ (List.mem_of_getElem? (i := 35) rfl)) rfl
theorem wf_X10_36 : Cond.fieldLink RX10 36 (TX10 0).1 (TX10 0).2.1 (TX10 0).2.2.1 ∈ aTB := aTB_of (wi_2 _ (List.mem_of_getElem? (i := 36) rfl)) rfl
theorem wf_X10_40 : Cond.fieldLink RX10 40 (TX10 1).1 (TX10 1).2.1 (TX10 1).2.2.1 ∈ aTB := aTB_of (wi_2 _ (List.mem_of_getElem? (i := 37) rfl)) rfl
theorem wf_X10_9 : Cond.fieldLink RX10 9 (TX10 2).1 (TX10 2).2.1 (TX10 2).2.2.1 ∈ aTB := aTB_of (wi_2 _ (List.mem_of_getElem? (i := 38) rfl)) rfl
theorem wf_X10_63 : Cond.fieldLink RX10 63 (TX10 3).1 (TX10 3).2.1 (TX10 3).2.2.1 ∈ aTB := aTB_of (wi_2 _ (List.mem_of_getElem? (i := 39) rfl)) rfl
theorem wg_X7_55 : Cond.fieldLinkNest RX7 55 (TX10 3).1 (TX10 3).2.1 (TX10 3).2.2.1 "SteeringHouse" ∈ lw_tbl := wi_2 _ (List.mem_of_getElem? (i := 40) rfl)
theorem wg_X11_151 : Cond.fieldLinkNest RX11 151 (TX10 3).1 (TX10 3).2.1 (TX10 3).2.2.1 "SteeringHouse" ∈ lw_tbl := wi_2 _ (List.mem_of_getElem? (i := 41) rfl)
theorem wf_X10_15 : Cond.fieldLink RX10 15 (TX10 4).1 (TX10 4).2.1 (TX10 4).2.2.1 ∈ aTB := aTB_of (wi_2 _ (List.mem_of_getElem? (i := 42) rfl)) rfl
theorem wg_X7_76 : Cond.fieldLinkNest RX7 76 (TX10 4).1 (TX10 4).2.1 (TX10 4).2.2.1 "SteeringHouse" ∈ lw_tbl := wi_2 _ (List.mem_of_getElem? (i := 43) rfl)
theorem wf_X10_18 : Cond.fieldLink RX10 18 (TX10 5).1 (TX10 5).2.1 (TX10 5).2.2.1 ∈ aTB := aTB_of (wi_2 _ (List.mem_of_getElem? (i := 44) rfl)) rfl
theorem wf_X10_21 : Cond.fieldLink RX10 21 (TX10 6).1 (TX10 6).2.1 (TX10 6).2.2.1 ∈ aTB := aTB_of (wi_2 _ (List.mem_of_getElem? (i := 45) rfl)) rfl
theorem wg_X4_58 : Cond.fieldLinkNest RX4 58 (TX10 6).1 (TX10 6).2.1 (TX10 6).2.2.1 "SteeringHouse" ∈ lw_tbl := wi_2 _ (List.mem_of_getElem? (i := 46) rfl)
theorem wf_X10_66 : Cond.fieldLink RX10 66 (TX10 7).1 (TX10 7).2.1 (TX10 7).2.2.1 ∈ aTB := aTB_of (wi_2 _ (List.mem_of_getElem? (i := 47) rfl)) rfl
theorem wf_X10_24 : Cond.fieldLink RX10 24 (TX10 8).1 (TX10 8).2.1 (TX10 8).2.2.1 ∈ aTB := aTB_of (wi_2 _ (List.mem_of_getElem? (i := 48) rfl)) rfl
theorem wg_X11_247 : Cond.fieldLinkNest RX11 247 (TX10 8).1 (TX10 8).2.1 (TX10 8).2.2.1 "SteeringHouse" ∈ lw_tbl := wi_2 _ (List.mem_of_getElem? (i := 49) rfl)
theorem wf_X10_27 : Cond.fieldLink RX10 27 (TX10 9).1 (TX10 9).2.1 (TX10 9).2.2.1 ∈ aTB := aTB_of (wi_2 _ (List.mem_of_getElem? (i := 50) rfl)) rfl
theorem wg_X11_250 : Cond.fieldLinkNest RX11 250 (TX10 9).1 (TX10 9).2.1 (TX10 9).2.2.1 "SteeringHouse" ∈ lw_tbl := wi_2 _ (List.mem_of_getElem? (i := 51) rfl)
theorem wf_X10_30 : Cond.fieldLink RX10 30 (TX10 10).1 (TX10 10).2.1 (TX10 10).2.2.1 ∈ aTB := aTB_of (wi_2 _ (List.mem_of_getElem? (i := 52) rfl)) rfl
theorem wf_X10_33 : Cond.fieldLink RX10 33 (TX10 11).1 (TX10 11).2.1 (TX10 11).2.2.1 ∈ aTB := aTB_of (wi_2 _ (List.mem_of_getElem? (i := 53) rfl)) rfl
theorem wk_X11_58 : Cond.classLink RX11 58 RX7 ∈ aTB := aTB_of (wi_2 _ (List.mem_of_getElem? (i := 79) rfl)) rfl
theorem wj_X7 : Cond.instantiable RX7 14 ∈ aTB := aTB_of (wi_2 _ (List.mem_of_getElem? (i := 80) rfl)) rfl
theorem wn_X11_60 : Cond.methodLinkNest RX11 60 yX7_init "SteeringHouse" ∈ lw_tbl := wi_2 _ (List.mem_of_getElem? (i := 81) rfl)
theorem wi_X7_init : Cond.instanceMethod yX7_init ∈ aTB := aTB_of (wi_2 _ (List.mem_of_getElem? (i := 82) rfl)) rfl
theorem wc_X7_init : Cond.code yX7_init cX7_init 4 none ∈ aTB := aTB_of (wi_2 _ (List.mem_of_getElem? (i := 83) rfl)) rfl
theorem wm_X7_3 : Cond.methodLink RX7 3 Lib.objectInit ∈ aTB := aTB_of (wi_2 _ (List.mem_of_getElem? (i := 84) rfl)) rfl
theorem wf_X7_36 : Cond.fieldLink RX7 36 (TX7 0).1 (TX7 0).2.1 (TX7 0).2.2.1 ∈ aTB := aTB_of (wi_2 _ (List.mem_of_getElem? (i := 85) rfl)) rfl
theorem wf_X7_40 : Cond.fieldLink RX7 40 (TX7 1).1 (TX7 1).2.1 (TX7 1).2.2.1 ∈ aTB := aTB_of (wi_2 _ (List.mem_of_getElem? (i := 86) rfl)) rfl
theorem wf_X7_44 : Cond.fieldLink RX7 44 (TX7 2).1 (TX7 2).2.1 (TX7 2).2.2.1 ∈ aTB := aTB_of (wi_2 _ (List.mem_of_getElem? (i := 87) rfl)) rfl
theorem wf_X7_9 : Cond.fieldLink RX7 9 (TX7 3).1 (TX7 3).2.1 (TX7 3).2.2.1 ∈ aTB := aTB_of (wi_2 _ (List.mem_of_getElem? (i := 88) rfl)) rfl
theorem wf_X7_48 : Cond.fieldLink RX7 48 (TX7 4).1 (TX7 4).2.1 (TX7 4).2.2.1 ∈ aTB := aTB_of (wi_2 _ (List.mem_of_getElem? (i := 89) rfl)) rfl
theorem wf_X7_52 : Cond.fieldLink RX7 52 (TX7 5).1 (TX7 5).2.1 (TX7 5).2.2.1 ∈ aTB := aTB_of (wi_2 _ (List.mem_of_getElem? (i := 90) rfl)) rfl
theorem wf_X7_61 : Cond.fieldLink RX7 61 (TX7 6).1 (TX7 6).2.1 (TX7 6).2.2.1 ∈ aTB := aTB_of (wi_2 _ (List.mem_of_getElem? (i := 91) rfl)) rfl
theorem wg_X11_231 : Cond.fieldLinkNest RX11 231 (TX7 6).1 (TX7 6).2.1 (TX7 6).2.2.1 "SteeringHouse" ∈ lw_tbl := wi_2 _ (List.mem_of_getElem? (i := 92) rfl)
theorem wf_X7_15 : Cond.fieldLink RX7 15 (TX7 7).1 (TX7 7).2.1 (TX7 7).2.2.1 ∈ aTB := aTB_of (wi_2 _ (List.mem_of_getElem? (i := 93) rfl)) rfl
theorem wg_X11_237 : Cond.fieldLinkNest RX11 237 (TX7 7).1 (TX7 7).2.1 (TX7 7).2.2.1 "SteeringHouse" ∈ lw_tbl := wi_2 _ (List.mem_of_getElem? (i := 94) rfl)
theorem wf_X7_18 : Cond.fieldLink RX7 18 (TX7 8).1 (TX7 8).2.1 (TX7 8).2.2.1 ∈ aTB := aTB_of (wi_2 _ (List.mem_of_getElem? (i := 95) rfl)) rfl
theorem wg_X5_90 : Cond.fieldLinkNest RX5 90 (TX7 8).1 (TX7 8).2.1 (TX7 8).2.2.1 "SteeringHouse" ∈ lw_tbl := wi_2 _ (List.mem_of_getElem? (i := 96) rfl)
theorem wg_X11_240 : Cond.fieldLinkNest RX11 240 (TX7 8).1 (TX7 8).2.1 (TX7 8).2.2.1 "SteeringHouse" ∈ lw_tbl := wi_2 _ (List.mem_of_getElem? (i := 97) rfl)
theorem wf_X7_21 : Cond.fieldLink RX7 21 (TX7 9).1 (TX7 9).2.1 (TX7 9).2.2.1 ∈ aTB := aTB_of (wi_2 _ (List.mem_of_getElem? (i := 98) rfl)) rfl
theorem wg_X11_278 : Cond.fieldLinkNest RX11 278 (TX7 9).1 (TX7 9).2.1 (TX7 9).2.2.1 "SteeringHouse" ∈ lw_tbl := wi_2 _ (List.mem_of_getElem? (i := 99) rfl)
theorem wf_X7_24 : Cond.fieldLink RX7 24 (TX7 10).1 (TX7 10).2.1 (TX7 10).2.2.1 ∈ aTB := aTB_of (wi_2 _ (List.mem_of_getElem? (i := 100) rfl)) rfl
theorem wf_X7_27 : Cond.fieldLink RX7 27 (TX7 11).1 (TX7 11).2.1 (TX7 11).2.2.1 ∈ aTB := aTB_of (wi_2 _ (List.mem_of_getElem? (i := 101) rfl)) rfl
theorem wf_X7_30 : Cond.fieldLink RX7 30 (TX7 12).1 (TX7 12).2.1 (TX7 12).2.2.1 ∈ aTB := aTB_of (wi_2 _ (List.mem_of_getElem? (i := 102) rfl)) rfl
theorem wf_X7_33 : Cond.fieldLink RX7 33 (TX7 13).1 (TX7 13).2.1 (TX7 13).2.2.1 ∈ aTB := aTB_of (wi_2 _ (List.mem_of_getElem? (i := 103) rfl)) rfl
theorem wk_X11_67 : Cond.classLink RX11 67 RX4 ∈ aTB := aTB_of (wi_2 _ (List.mem_of_getElem? (i := 133) rfl)) rfl
theorem wj_X4 : Cond.instantiable RX4 6 ∈ aTB := aTB_of (wi_2 _ (List.mem_of_getElem? (i := 134) rfl)) rfl
theorem wn_X11_69 : Cond.methodLinkNest RX11 69 yX4_init "SteeringHouse" ∈ lw_tbl := wi_2 _ (List.mem_of_getElem? (i := 135) rfl)
theorem wi_X4_init : Cond.instanceMethod yX4_init ∈ aTB := aTB_of (wi_2 _ (List.mem_of_getElem? (i := 136) rfl)) rfl
theorem wc_X4_init : Cond.code yX4_init cX4_init 4 none ∈ aTB := aTB_of (wi_2 _ (List.mem_of_getElem? (i := 137) rfl)) rfl
theorem wm_X4_3 : Cond.methodLink RX4 3 Lib.objectInit ∈ aTB := aTB_of (wi_2 _ (List.mem_of_getElem? (i := 138) rfl)) rfl
theorem wf_X4_22 : Cond.fieldLink RX4 22 (TX4 0).1 (TX4 0).2.1 (TX4 0).2.2.1 ∈ aTB := aTB_of (wi_2 _ (List.mem_of_getElem? (i := 139) rfl)) rfl
theorem wf_X4_26 : Cond.fieldLink RX4 26 (TX4 1).1 (TX4 1).2.1 (TX4 1).2.2.1 ∈ aTB := aTB_of (wi_2 _ (List.mem_of_getElem? (i := 140) rfl)) rfl
theorem wf_X4_30 : Cond.fieldLink RX4 30 (TX4 2).1 (TX4 2).2.1 (TX4 2).2.2.1 ∈ aTB := aTB_of (wi_2 _ (List.mem_of_getElem? (i := 141) rfl)) rfl
theorem wf_X4_9 : Cond.fieldLink RX4 9 (TX4 3).1 (TX4 3).2.1 (TX4 3).2.2.1 ∈ aTB := aTB_of (wi_2 _ (List.mem_of_getElem? (i := 142) rfl)) rfl
theorem wf_X4_15 : Cond.fieldLink RX4 15 (TX4 4).1 (TX4 4).2.1 (TX4 4).2.2.1 ∈ aTB := aTB_of (wi_2 _ (List.mem_of_getElem? (i := 143) rfl)) rfl
theorem wf_X4_19 : Cond.fieldLink RX4 19 (TX4 5).1 (TX4 5).2.1 (TX4 5).2.2.1 ∈ aTB := aTB_of (wi_2 _ (List.mem_of_getElem? (i := 144) rfl)) rfl
theorem wk_X11_74 : Cond.classLink RX11 74 RX1 ∈ aTB := aTB_of (wi_2 _ (List.mem_of_getElem? (i := 158) rfl)) rfl
theorem wj_X1 : Cond.instantiable RX1 14 ∈ aTB := aTB_of (wi_2 _ (List.mem_of_getElem? (i := 159) rfl)) rfl
theorem wn_X11_76 : Cond.methodLinkNest RX11 76 yX1_init "SteeringHouse" ∈ lw_tbl := wi_2 _ (List.mem_of_getElem? (i := 160) rfl)
theorem wi_X1_init : Cond.instanceMethod yX1_init ∈ aTB := aTB_of (wi_2 _ (List.mem_of_getElem? (i := 161) rfl)) rfl
theorem wc_X1_init : Cond.code yX1_init cX1_init 2 none ∈ aTB := aTB_of (wi_2 _ (List.mem_of_getElem? (i := 162) rfl)) rfl
theorem wm_X1_3 : Cond.methodLink RX1 3 Lib.objectInit ∈ aTB := aTB_of (wi_2 _ (List.mem_of_getElem? (i := 163) rfl)) rfl
theorem wf_X1_43 : Cond.fieldLink RX1 43 (TX1 0).1 (TX1 0).2.1 (TX1 0).2.2.1 ∈ aTB := aTB_of (wi_2 _ (List.mem_of_getElem? (i := 164) rfl)) rfl
theorem wf_X1_47 : Cond.fieldLink RX1 47 (TX1 1).1 (TX1 1).2.1 (TX1 1).2.2.1 ∈ aTB := aTB_of (wi_2 _ (List.mem_of_getElem? (i := 165) rfl)) rfl
theorem wf_X1_55 : Cond.fieldLink RX1 55 (TX1 2).1 (TX1 2).2.1 (TX1 2).2.2.1 ∈ aTB := aTB_of (wi_2 _ (List.mem_of_getElem? (i := 166) rfl)) rfl
theorem wf_X1_9 : Cond.fieldLink RX1 9 (TX1 3).1 (TX1 3).2.1 (TX1 3).2.2.1 ∈ aTB := aTB_of (wi_2 _ (List.mem_of_getElem? (i := 167) rfl)) rfl
theorem wf_X1_15 : Cond.fieldLink RX1 15 (TX1 4).1 (TX1 4).2.1 (TX1 4).2.2.1 ∈ aTB := aTB_of (wi_2 _ (List.mem_of_getElem? (i := 168) rfl)) rfl
theorem wf_X1_18 : Cond.fieldLink RX1 18 (TX1 5).1 (TX1 5).2.1 (TX1 5).2.2.1 ∈ aTB := aTB_of (wi_2 _ (List.mem_of_getElem? (i := 169) rfl)) rfl
theorem wf_X1_21 : Cond.fieldLink RX1 21 (TX1 6).1 (TX1 6).2.1 (TX1 6).2.2.1 ∈ aTB := aTB_of (wi_2 _ (List.mem_of_getElem? (i := 170) rfl)) rfl
theorem wg_X11_285 : Cond.fieldLinkNest RX11 285 (TX1 6).1 (TX1 6).2.1 (TX1 6).2.2.1 "SteeringHouse" ∈ lw_tbl := wi_2 _ (List.mem_of_getElem? (i := 171) rfl)
theorem wf_X1_25 : Cond.fieldLink RX1 25 (TX1 7).1 (TX1 7).2.1 (TX1 7).2.2.1 ∈ aTB := aTB_of (wi_2 _ (List.mem_of_getElem? (i := 172) rfl)) rfl
theorem wf_X1_165 : Cond.fieldLink RX1 165 (TX1 8).1 (TX1 8).2.1 (TX1 8).2.2.1 ∈ aTB := aTB_of (wi_2 _ (List.mem_of_getElem? (i := 173) rfl)) rfl
theorem wg_X11_297 : Cond.fieldLinkNest RX11 297 (TX1 8).1 (TX1 8).2.1 (TX1 8).2.2.1 "SteeringHouse" ∈ lw_tbl := wi_2 _ (List.mem_of_getElem? (i := 174) rfl)
theorem wf_X1_28 : Cond.fieldLink RX1 28 (TX1 9).1 (TX1 9).2.1 (TX1 9).2.2.1 ∈ aTB := aTB_of (wi_2 _ (List.mem_of_getElem? (i := 175) rfl)) rfl
theorem wg_X11_305 : Cond.fieldLinkNest RX11 305 (TX1 9).1 (TX1 9).2.1 (TX1 9).2.2.1 "SteeringHouse" ∈ lw_tbl := wi_2 _ (List.mem_of_getElem? (i := 176) rfl)
theorem wf_X1_31 : Cond.fieldLink RX1 31 (TX1 10).1 (TX1 10).2.1 (TX1 10).2.2.1 ∈ aTB := aTB_of (wi_2 _ (List.mem_of_getElem? (i := 177) rfl)) rfl
theorem wg_X11_302 : Cond.fieldLinkNest RX11 302 (TX1 10).1 (TX1 10).2.1 (TX1 10).2.2.1 "SteeringHouse" ∈ lw_tbl := wi_2 _ (List.mem_of_getElem? (i := 178) rfl)
theorem wf_X1_34 : Cond.fieldLink RX1 34 (TX1 11).1 (TX1 11).2.1 (TX1 11).2.2.1 ∈ aTB := aTB_of (wi_2 _ (List.mem_of_getElem? (i := 179) rfl)) rfl
theorem wf_X1_37 : Cond.fieldLink RX1 37 (TX1 12).1 (TX1 12).2.1 (TX1 12).2.2.1 ∈ aTB := aTB_of (wi_2 _ (List.mem_of_getElem? (i := 180) rfl)) rfl
theorem wf_X1_40 : Cond.fieldLink RX1 40 (TX1 13).1 (TX1 13).2.1 (TX1 13).2.2.1 ∈ aTB := aTB_of (wi_2 _ (List.mem_of_getElem? (i := 181) rfl)) rfl
theorem wk_X11_81 : Cond.classLink RX11 81 RX9 ∈ aTB := aTB_of (wi_2 _ (List.mem_of_getElem? (i := 211) rfl)) rfl
theorem wj_X9 : Cond.instantiable RX9 11 ∈ aTB := aTB_of (wi_2 _ (List.mem_of_getElem? (i := 212) rfl)) rfl
theorem wn_X11_83 : Cond.methodLinkNest RX11 83 yX9_init "SteeringHouse" ∈ lw_tbl := wi_2 _ (List.mem_of_getElem? (i := 213) rfl)
theorem wi_X9_init : Cond.instanceMethod yX9_init ∈ aTB := aTB_of (wi_2 _ (List.mem_of_getElem? (i := 214) rfl)) rfl
theorem wc_X9_init : Cond.code yX9_init cX9_init 4 none ∈ aTB := aTB_of (wi_2 _ (List.mem_of_getElem? (i := 215) rfl)) rfl
theorem wm_X9_3 : Cond.methodLink RX9 3 Lib.objectInit ∈ aTB := aTB_of (wi_2 _ (List.mem_of_getElem? (i := 216) rfl)) rfl
theorem wf_X9_30 : Cond.fieldLink RX9 30 (TX9 0).1 (TX9 0).2.1 (TX9 0).2.2.1 ∈ aTB := aTB_of (wi_2 _ (List.mem_of_getElem? (i := 217) rfl)) rfl
theorem wf_X9_34 : Cond.fieldLink RX9 34 (TX9 1).1 (TX9 1).2.1 (TX9 1).2.2.1 ∈ aTB := aTB_of (wi_2 _ (List.mem_of_getElem? (i := 218) rfl)) rfl
theorem wf_X9_38 : Cond.fieldLink RX9 38 (TX9 2).1 (TX9 2).2.1 (TX9 2).2.2.1 ∈ aTB := aTB_of (wi_2 _ (List.mem_of_getElem? (i := 219) rfl)) rfl
theorem wf_X9_9 : Cond.fieldLink RX9 9 (TX9 3).1 (TX9 3).2.1 (TX9 3).2.2.1 ∈ aTB := aTB_of (wi_2 _ (List.mem_of_getElem? (i := 220) rfl)) rfl
theorem wf_X9_42 : Cond.fieldLink RX9 42 (TX9 4).1 (TX9 4).2.1 (TX9 4).2.2.1 ∈ aTB := aTB_of (wi_2 _ (List.mem_of_getElem? (i := 221) rfl)) rfl
theorem wg_X11_189 : Cond.fieldLinkNest RX11 189 (TX9 4).1 (TX9 4).2.1 (TX9 4).2.2.1 "SteeringHouse" ∈ lw_tbl := wi_2 _ (List.mem_of_getElem? (i := 222) rfl)
theorem wf_X9_15 : Cond.fieldLink RX9 15 (TX9 5).1 (TX9 5).2.1 (TX9 5).2.2.1 ∈ aTB := aTB_of (wi_2 _ (List.mem_of_getElem? (i := 223) rfl)) rfl
theorem wf_X9_18 : Cond.fieldLink RX9 18 (TX9 6).1 (TX9 6).2.1 (TX9 6).2.2.1 ∈ aTB := aTB_of (wi_2 _ (List.mem_of_getElem? (i := 224) rfl)) rfl
theorem wf_X9_21 : Cond.fieldLink RX9 21 (TX9 7).1 (TX9 7).2.1 (TX9 7).2.2.1 ∈ aTB := aTB_of (wi_2 _ (List.mem_of_getElem? (i := 225) rfl)) rfl
theorem wf_X9_24 : Cond.fieldLink RX9 24 (TX9 8).1 (TX9 8).2.1 (TX9 8).2.2.1 ∈ aTB := aTB_of (wi_2 _ (List.mem_of_getElem? (i := 226) rfl)) rfl
theorem wf_X9_27 : Cond.fieldLink RX9 27 (TX9 9).1 (TX9 9).2.1 (TX9 9).2.2.1 ∈ aTB := aTB_of (wi_2 _ (List.mem_of_getElem? (i := 227) rfl)) rfl
theorem wf_X9_106 : Cond.fieldLink RX9 106 (TX9 10).1 (TX9 10).2.1 (TX9 10).2.2.1 ∈ aTB := aTB_of (wi_2 _ (List.mem_of_getElem? (i := 228) rfl)) rfl
theorem wk_X11_88 : Cond.classLink RX11 88 RX5 ∈ aTB := aTB_of (wi_3 _ (List.mem_of_getElem? (i := 12) rfl)) rfl
theorem wj_X5 : Cond.instantiable RX5 11 ∈ aTB := aTB_of (wi_3 _ (List.mem_of_getElem? (i := 13) rfl)) rfl
theorem wn_X11_90 : Cond.methodLinkNest RX11 90 yX5_init "SteeringHouse" ∈ lw_tbl := wi_3 _ (List.mem_of_getElem? (i := 14) rfl)
theorem wi_X5_init : Cond.instanceMethod yX5_init ∈ aTB := aTB_of (wi_3 _ (List.mem_of_getElem? (i := 15) rfl)) rfl
theorem wc_X5_init : Cond.code yX5_init cX5_init 5 none ∈ aTB := aTB_of (wi_3 _ (List.mem_of_getElem? (i := 16) rfl)) rfl
theorem wm_X5_3 : Cond.methodLink RX5 3 Lib.objectInit ∈ aTB := aTB_of (wi_3 _ (List.mem_of_getElem? (i := 17) rfl)) rfl
theorem wf_X5_24 : Cond.fieldLink RX5 24 (TX5 0).1 (TX5 0).2.1 (TX5 0).2.2.1 ∈ aTB := aTB_of (wi_3 _ (List.mem_of_getElem? (i := 18) rfl)) rfl
theorem wf_X5_28 : Cond.fieldLink RX5 28 (TX5 1).1 (TX5 1).2.1 (TX5 1).2.2.1 ∈ aTB := aTB_of (wi_3 _ (List.mem_of_getElem? (i := 19) rfl)) rfl
theorem wf_X5_32 : Cond.fieldLink RX5 32 (TX5 2).1 (TX5 2).2.1 (TX5 2).2.2.1 ∈ aTB := aTB_of (wi_3 _ (List.mem_of_getElem? (i := 20) rfl)) rfl
theorem wf_X5_36 : Cond.fieldLink RX5 36 (TX5 3).1 (TX5 3).2.1 (TX5 3).2.2.1 ∈ aTB := aTB_of (wi_3 _ (List.mem_of_getElem? (i := 21) rfl)) rfl
theorem wf_X5_9 : Cond.fieldLink RX5 9 (TX5 4).1 (TX5 4).2.1 (TX5 4).2.2.1 ∈ aTB := aTB_of (wi_3 _ (List.mem_of_getElem? (i := 22) rfl)) rfl
theorem wf_X5_15 : Cond.fieldLink RX5 15 (TX5 5).1 (TX5 5).2.1 (TX5 5).2.2.1 ∈ aTB := aTB_of (wi_3 _ (List.mem_of_getElem? (i := 23) rfl)) rfl
theorem wf_X5_54 : Cond.fieldLink RX5 54 (TX5 6).1 (TX5 6).2.1 (TX5 6).2.2.1 ∈ aTB := aTB_of (wi_3 _ (List.mem_of_getElem? (i := 24) rfl)) rfl
theorem wf_X5_57 : Cond.fieldLink RX5 57 (TX5 7).1 (TX5 7).2.1 (TX5 7).2.2.1 ∈ aTB := aTB_of (wi_3 _ (List.mem_of_getElem? (i := 25) rfl)) rfl
theorem wf_X5_50 : Cond.fieldLink RX5 50 (TX5 8).1 (TX5 8).2.1 (TX5 8).2.2.1 ∈ aTB := aTB_of (wi_3 _ (List.mem_of_getElem? (i := 26) rfl)) rfl
theorem wg_X11_192 : Cond.fieldLinkNest RX11 192 (TX5 8).1 (TX5 8).2.1 (TX5 8).2.2.1 "SteeringHouse" ∈ lw_tbl := wi_3 _ (List.mem_of_getElem? (i := 27) rfl)
theorem wf_X5_18 : Cond.fieldLink RX5 18 (TX5 9).1 (TX5 9).2.1 (TX5 9).2.2.1 ∈ aTB := aTB_of (wi_3 _ (List.mem_of_getElem? (i := 28) rfl)) rfl
theorem wf_X5_21 : Cond.fieldLink RX5 21 (TX5 10).1 (TX5 10).2.1 (TX5 10).2.2.1 ∈ aTB := aTB_of (wi_3 _ (List.mem_of_getElem? (i := 29) rfl)) rfl
theorem wf_X11_9 : Cond.fieldLink RX11 9 (TX11 0).1 (TX11 0).2.1 (TX11 0).2.2.1 ∈ aTB := aTB_of (wi_3 _ (List.mem_of_getElem? (i := 53) rfl)) rfl
theorem wf_X11_97 : Cond.fieldLink RX11 97 (TX11 1).1 (TX11 1).2.1 (TX11 1).2.2.1 ∈ aTB := aTB_of (wi_3 _ (List.mem_of_getElem? (i := 54) rfl)) rfl
theorem wf_X11_120 : Cond.fieldLink RX11 120 (TX11 2).1 (TX11 2).2.1 (TX11 2).2.2.1 ∈ aTB := aTB_of (wi_3 _ (List.mem_of_getElem? (i := 55) rfl)) rfl
theorem wf_X11_167 : Cond.fieldLink RX11 167 (TX11 3).1 (TX11 3).2.1 (TX11 3).2.2.1 ∈ aTB := aTB_of (wi_3 _ (List.mem_of_getElem? (i := 56) rfl)) rfl
theorem wf_X11_164 : Cond.fieldLink RX11 164 (TX11 4).1 (TX11 4).2.1 (TX11 4).2.2.1 ∈ aTB := aTB_of (wi_3 _ (List.mem_of_getElem? (i := 57) rfl)) rfl
theorem wf_X11_170 : Cond.fieldLink RX11 170 (TX11 5).1 (TX11 5).2.1 (TX11 5).2.2.1 ∈ aTB := aTB_of (wi_3 _ (List.mem_of_getElem? (i := 58) rfl)) rfl
theorem wf_X11_13 : Cond.fieldLink RX11 13 (TX11 6).1 (TX11 6).2.1 (TX11 6).2.2.1 ∈ aTB := aTB_of (wi_3 _ (List.mem_of_getElem? (i := 59) rfl)) rfl
theorem wf_X11_19 : Cond.fieldLink RX11 19 (TX11 7).1 (TX11 7).2.1 (TX11 7).2.2.1 ∈ aTB := aTB_of (wi_3 _ (List.mem_of_getElem? (i := 60) rfl)) rfl
theorem wf_X11_23 : Cond.fieldLink RX11 23 (TX11 8).1 (TX11 8).2.1 (TX11 8).2.2.1 ∈ aTB := aTB_of (wi_3 _ (List.mem_of_getElem? (i := 61) rfl)) rfl
theorem wf_X11_29 : Cond.fieldLink RX11 29 (TX11 9).1 (TX11 9).2.1 (TX11 9).2.2.1 ∈ aTB := aTB_of (wi_3 _ (List.mem_of_getElem? (i := 62) rfl)) rfl
theorem wf_X11_38 : Cond.fieldLink RX11 38 (TX11 10).1 (TX11 10).2.1 (TX11 10).2.2.1 ∈ aTB := aTB_of (wi_3 _ (List.mem_of_getElem? (i := 63) rfl)) rfl
theorem wf_X11_45 : Cond.fieldLink RX11 45 (TX11 11).1 (TX11 11).2.1 (TX11 11).2.2.1 ∈ aTB := aTB_of (wi_3 _ (List.mem_of_getElem? (i := 64) rfl)) rfl
theorem wf_X11_54 : Cond.fieldLink RX11 54 (TX11 12).1 (TX11 12).2.1 (TX11 12).2.2.1 ∈ aTB := aTB_of (wi_3 _ (List.mem_of_getElem? (i := 65) rfl)) rfl
theorem wf_X11_63 : Cond.fieldLink RX11 63 (TX11 13).1 (TX11 13).2.1 (TX11 13).2.2.1 ∈ aTB := aTB_of (wi_3 _ (List.mem_of_getElem? (i := 66) rfl)) rfl
theorem wf_X11_70 : Cond.fieldLink RX11 70 (TX11 14).1 (TX11 14).2.1 (TX11 14).2.2.1 ∈ aTB := aTB_of (wi_3 _ (List.mem_of_getElem? (i := 67) rfl)) rfl
theorem wf_X11_77 : Cond.fieldLink RX11 77 (TX11 15).1 (TX11 15).2.1 (TX11 15).2.2.1 ∈ aTB := aTB_of (wi_3 _ (List.mem_of_getElem? (i := 68) rfl)) rfl
theorem wf_X11_84 : Cond.fieldLink RX11 84 (TX11 16).1 (TX11 16).2.1 (TX11 16).2.2.1 ∈ aTB := aTB_of (wi_3 _ (List.mem_of_getElem? (i := 69) rfl)) rfl
theorem wf_X11_93 : Cond.fieldLink RX11 93 (TX11 17).1 (TX11 17).2.1 (TX11 17).2.2.1 ∈ aTB := aTB_of (wi_3 _ (List.mem_of_getElem? (i := 70) rfl)) rfl
theorem wm_L_19 : Cond.methodLink RL 19 yX11_feed ∈ aTB := aTB_of (wi_3 _ (List.mem_of_getElem? (i := 108) rfl)) rfl
theorem wi_X11_feed : Cond.instanceMethod yX11_feed ∈ aTB := aTB_of (wi_3 _ (List.mem_of_getElem? (i := 109) rfl)) rfl
theorem ws_X11_feed : Cond.selects yX11_feed.cls yX11_feed yX11_feed ∈ aTB := aTB_of (wi_3 _ (List.mem_of_getElem? (i := 110) rfl)) rfl
theorem wc_X11_feed : Cond.code yX11_feed cX11_feed 6 (some FieldType.int) ∈ aTB := aTB_of (wi_3 _ (List.mem_of_getElem? (i := 111) rfl)) rfl
theorem wm_X11_101 : Cond.methodLink RX11 101 yX11_takeFour ∈ aTB := aTB_of (wi_3 _ (List.mem_of_getElem? (i := 112) rfl)) rfl
theorem wi_X11_takeFour : Cond.instanceMethod yX11_takeFour ∈ aTB := aTB_of (wi_3 _ (List.mem_of_getElem? (i := 114) rfl)) rfl
theorem wc_X11_takeFour : Cond.code yX11_takeFour cX11_takeFour 3 none ∈ aTB := aTB_of (wi_3 _ (List.mem_of_getElem? (i := 115) rfl)) rfl
theorem wm_L_24 : Cond.methodLink RL 24 yX11_thing ∈ aTB := aTB_of (wi_3 _ (List.mem_of_getElem? (i := 116) rfl)) rfl
theorem wi_X11_thing : Cond.instanceMethod yX11_thing ∈ aTB := aTB_of (wi_3 _ (List.mem_of_getElem? (i := 117) rfl)) rfl
theorem ws_X11_thing : Cond.selects yX11_thing.cls yX11_thing yX11_thing ∈ aTB := aTB_of (wi_3 _ (List.mem_of_getElem? (i := 118) rfl)) rfl
theorem wc_X11_thing : Cond.code yX11_thing cX11_thing 3 (some FieldType.int) ∈ aTB := aTB_of (wi_3 _ (List.mem_of_getElem? (i := 119) rfl)) rfl
theorem wm_X11_105 : Cond.methodLink RX11 105 yX11_refused ∈ aTB := aTB_of (wi_3 _ (List.mem_of_getElem? (i := 120) rfl)) rfl
theorem wi_X11_refused : Cond.instanceMethod yX11_refused ∈ aTB := aTB_of (wi_3 _ (List.mem_of_getElem? (i := 122) rfl)) rfl
theorem wc_X11_refused : Cond.code yX11_refused cX11_refused 2 (some FieldType.int) ∈ aTB := aTB_of (wi_3 _ (List.mem_of_getElem? (i := 123) rfl)) rfl
theorem wn_X11_109 : Cond.methodLinkNest RX11 109 yX6_readThing "SteeringHouse" ∈ lw_tbl := wi_3 _ (List.mem_of_getElem? (i := 124) rfl)
theorem wi_X6_readThing : Cond.instanceMethod yX6_readThing ∈ aTB := aTB_of (wi_3 _ (List.mem_of_getElem? (i := 126) rfl)) rfl
theorem wc_X6_readThing : Cond.code yX6_readThing cX6_readThing 5 (some FieldType.boolean) ∈ aTB := aTB_of (wi_3 _ (List.mem_of_getElem? (i := 127) rfl)) rfl
theorem wn_X6_29 : Cond.methodLinkNest RX6 29 yX2_clear "SteeringHouse" ∈ lw_tbl := wi_3 _ (List.mem_of_getElem? (i := 128) rfl)
theorem wi_X2_clear : Cond.instanceMethod yX2_clear ∈ aTB := aTB_of (wi_3 _ (List.mem_of_getElem? (i := 130) rfl)) rfl
theorem wc_X2_clear : Cond.code yX2_clear cX2_clear 1 none ∈ aTB := aTB_of (wi_3 _ (List.mem_of_getElem? (i := 131) rfl)) rfl
theorem wm_X2_57 : Cond.methodLink RX2 57 yJ7_fill_53178 ∈ aTB := aTB_of (wi_3 _ (List.mem_of_getElem? (i := 132) rfl)) rfl
theorem wt_J7_fill_53178 : Cond.static yJ7_fill_53178 ∈ aTB := aTB_of (wi_3 _ (List.mem_of_getElem? (i := 133) rfl)) rfl
theorem wc_J7_fill_53178 : Cond.code yJ7_fill_53178 cJ7_fill_53178 4 none ∈ aTB := aTB_of (wi_3 _ (List.mem_of_getElem? (i := 134) rfl)) rfl
theorem wn_X2_66 : Cond.methodLinkNest RX2 66 yX0_clear "SteeringHouse" ∈ lw_tbl := wi_3 _ (List.mem_of_getElem? (i := 135) rfl)
theorem wi_X0_clear : Cond.instanceMethod yX0_clear ∈ aTB := aTB_of (wi_3 _ (List.mem_of_getElem? (i := 137) rfl)) rfl
theorem wc_X0_clear : Cond.code yX0_clear cX0_clear 1 none ∈ aTB := aTB_of (wi_3 _ (List.mem_of_getElem? (i := 138) rfl)) rfl
theorem wm_X6_32 : Cond.methodLink RX6 32 yX6_begin ∈ aTB := aTB_of (wi_3 _ (List.mem_of_getElem? (i := 139) rfl)) rfl
theorem wi_X6_begin : Cond.instanceMethod yX6_begin ∈ aTB := aTB_of (wi_3 _ (List.mem_of_getElem? (i := 141) rfl)) rfl
theorem wc_X6_begin : Cond.code yX6_begin cX6_begin 5 none ∈ aTB := aTB_of (wi_3 _ (List.mem_of_getElem? (i := 142) rfl)) rfl
theorem wn_X6_71 : Cond.methodLinkNest RX6 71 yX8_cut "SteeringHouse" ∈ lw_tbl := wi_3 _ (List.mem_of_getElem? (i := 143) rfl)
theorem wi_X8_cut : Cond.instanceMethod yX8_cut ∈ aTB := aTB_of (wi_3 _ (List.mem_of_getElem? (i := 145) rfl)) rfl
theorem wc_X8_cut : Cond.code yX8_cut cX8_cut 6 none ∈ aTB := aTB_of (wi_3 _ (List.mem_of_getElem? (i := 146) rfl)) rfl
theorem wm_X8_26 : Cond.methodLink RX8 26 yX8_isLetter ∈ aTB := aTB_of (wi_3 _ (List.mem_of_getElem? (i := 147) rfl)) rfl
theorem wt_X8_isLetter : Cond.static yX8_isLetter ∈ aTB := aTB_of (wi_3 _ (List.mem_of_getElem? (i := 148) rfl)) rfl
theorem wc_X8_isLetter : Cond.code yX8_isLetter cX8_isLetter 1 (some FieldType.boolean) ∈ aTB := aTB_of (wi_3 _ (List.mem_of_getElem? (i := 149) rfl)) rfl
theorem wm_X8_30 : Cond.methodLink RX8 30 yX8_cutWord ∈ aTB := aTB_of (wi_3 _ (List.mem_of_getElem? (i := 150) rfl)) rfl
theorem wi_X8_cutWord : Cond.instanceMethod yX8_cutWord ∈ aTB := aTB_of (wi_3 _ (List.mem_of_getElem? (i := 152) rfl)) rfl
theorem wc_X8_cutWord : Cond.code yX8_cutWord cX8_cutWord 7 (some FieldType.int) ∈ aTB := aTB_of (wi_3 _ (List.mem_of_getElem? (i := 153) rfl)) rfl
theorem wv_X8_47 : Cond.constantLong RX8 47 (27) ∈ aTB := aTB_of (wi_3 _ (List.mem_of_getElem? (i := 154) rfl)) rfl
theorem wv_X8_49 : Cond.constantLong RX8 49 (97) ∈ aTB := aTB_of (wi_3 _ (List.mem_of_getElem? (i := 155) rfl)) rfl
theorem wm_X8_43 : Cond.methodLink RX8 43 yX8_add ∈ aTB := aTB_of (wi_3 _ (List.mem_of_getElem? (i := 156) rfl)) rfl
theorem wi_X8_add : Cond.instanceMethod yX8_add ∈ aTB := aTB_of (wi_3 _ (List.mem_of_getElem? (i := 158) rfl)) rfl
theorem wc_X8_add : Cond.code yX8_add cX8_add 5 none ∈ aTB := aTB_of (wi_3 _ (List.mem_of_getElem? (i := 159) rfl)) rfl
theorem wm_X8_34 : Cond.methodLink RX8 34 yX8_isDigit ∈ aTB := aTB_of (wi_3 _ (List.mem_of_getElem? (i := 160) rfl)) rfl
theorem wt_X8_isDigit : Cond.static yX8_isDigit ∈ aTB := aTB_of (wi_3 _ (List.mem_of_getElem? (i := 161) rfl)) rfl
theorem wc_X8_isDigit : Cond.code yX8_isDigit cX8_isDigit 1 (some FieldType.boolean) ∈ aTB := aTB_of (wi_3 _ (List.mem_of_getElem? (i := 162) rfl)) rfl
theorem wm_X8_37 : Cond.methodLink RX8 37 yX8_cutWhole ∈ aTB := aTB_of (wi_3 _ (List.mem_of_getElem? (i := 163) rfl)) rfl
theorem wi_X8_cutWhole : Cond.instanceMethod yX8_cutWhole ∈ aTB := aTB_of (wi_3 _ (List.mem_of_getElem? (i := 165) rfl)) rfl
theorem wc_X8_cutWhole : Cond.code yX8_cutWhole cX8_cutWhole 7 (some FieldType.int) ∈ aTB := aTB_of (wi_3 _ (List.mem_of_getElem? (i := 166) rfl)) rfl
theorem wv_X8_51 : Cond.constantLong RX8 51 (10) ∈ aTB := aTB_of (wi_3 _ (List.mem_of_getElem? (i := 167) rfl)) rfl
theorem wv_X8_53 : Cond.constantLong RX8 53 (48) ∈ aTB := aTB_of (wi_3 _ (List.mem_of_getElem? (i := 168) rfl)) rfl
theorem wm_X8_40 : Cond.methodLink RX8 40 yX8_isSign ∈ aTB := aTB_of (wi_3 _ (List.mem_of_getElem? (i := 169) rfl)) rfl
theorem wt_X8_isSign : Cond.static yX8_isSign ∈ aTB := aTB_of (wi_3 _ (List.mem_of_getElem? (i := 170) rfl)) rfl
theorem wc_X8_isSign : Cond.code yX8_isSign cX8_isSign 1 (some FieldType.boolean) ∈ aTB := aTB_of (wi_3 _ (List.mem_of_getElem? (i := 171) rfl)) rfl
theorem wm_X6_40 : Cond.methodLink RX6 40 yX6_line ∈ aTB := aTB_of (wi_3 _ (List.mem_of_getElem? (i := 172) rfl)) rfl
theorem wi_X6_line : Cond.instanceMethod yX6_line ∈ aTB := aTB_of (wi_3 _ (List.mem_of_getElem? (i := 174) rfl)) rfl
theorem wc_X6_line : Cond.code yX6_line cX6_line 3 (some FieldType.boolean) ∈ aTB := aTB_of (wi_3 _ (List.mem_of_getElem? (i := 175) rfl)) rfl
theorem wm_X6_44 : Cond.methodLink RX6 44 yX6_kind ∈ aTB := aTB_of (wi_3 _ (List.mem_of_getElem? (i := 176) rfl)) rfl
theorem wi_X6_kind : Cond.instanceMethod yX6_kind ∈ aTB := aTB_of (wi_3 _ (List.mem_of_getElem? (i := 178) rfl)) rfl
theorem wc_X6_kind : Cond.code yX6_kind cX6_kind 1 (some FieldType.int) ∈ aTB := aTB_of (wi_3 _ (List.mem_of_getElem? (i := 179) rfl)) rfl
theorem wm_X6_51 : Cond.methodLink RX6 51 yX6_fail ∈ aTB := aTB_of (wi_3 _ (List.mem_of_getElem? (i := 180) rfl)) rfl
theorem wi_X6_fail : Cond.instanceMethod yX6_fail ∈ aTB := aTB_of (wi_3 _ (List.mem_of_getElem? (i := 182) rfl)) rfl
theorem wc_X6_fail : Cond.code yX6_fail cX6_fail 2 (some FieldType.boolean) ∈ aTB := aTB_of (wi_3 _ (List.mem_of_getElem? (i := 183) rfl)) rfl
theorem wm_X6_84 : Cond.methodLink RX6 84 yX6_reserved ∈ aTB := aTB_of (wi_3 _ (List.mem_of_getElem? (i := 184) rfl)) rfl
theorem wi_X6_reserved : Cond.instanceMethod yX6_reserved ∈ aTB := aTB_of (wi_3 _ (List.mem_of_getElem? (i := 186) rfl)) rfl
theorem wc_X6_reserved : Cond.code yX6_reserved cX6_reserved 4 (some FieldType.int) ∈ aTB := aTB_of (wi_3 _ (List.mem_of_getElem? (i := 187) rfl)) rfl
theorem wf_X6_174 : Cond.fieldLink RX6 174 "SteeringHouse$Reader" "RESERVED" "[J" ∈ aTB := aTB_of (wi_3 _ (List.mem_of_getElem? (i := 188) rfl)) rfl
theorem wm_X6_87 : Cond.methodLink RX6 87 yX6_sightLine ∈ aTB := aTB_of (wi_3 _ (List.mem_of_getElem? (i := 190) rfl)) rfl
theorem wi_X6_sightLine : Cond.instanceMethod yX6_sightLine ∈ aTB := aTB_of (wi_3 _ (List.mem_of_getElem? (i := 192) rfl)) rfl
theorem wc_X6_sightLine : Cond.code yX6_sightLine cX6_sightLine 3 (some FieldType.boolean) ∈ aTB := aTB_of (wi_3 _ (List.mem_of_getElem? (i := 193) rfl)) rfl
theorem wm_X6_104 : Cond.methodLink RX6 104 yX6_newName ∈ aTB := aTB_of (wi_3 _ (List.mem_of_getElem? (i := 194) rfl)) rfl
theorem wi_X6_newName : Cond.instanceMethod yX6_newName ∈ aTB := aTB_of (wi_3 _ (List.mem_of_getElem? (i := 196) rfl)) rfl
theorem wc_X6_newName : Cond.code yX6_newName cX6_newName 2 (some FieldType.boolean) ∈ aTB := aTB_of (wi_3 _ (List.mem_of_getElem? (i := 197) rfl)) rfl
theorem wm_X6_93 : Cond.methodLink RX6 93 yX6_meaning ∈ aTB := aTB_of (wi_3 _ (List.mem_of_getElem? (i := 198) rfl)) rfl
theorem wi_X6_meaning : Cond.instanceMethod yX6_meaning ∈ aTB := aTB_of (wi_3 _ (List.mem_of_getElem? (i := 200) rfl)) rfl
theorem wc_X6_meaning : Cond.code yX6_meaning cX6_meaning 1 (some FieldType.long) ∈ aTB := aTB_of (wi_3 _ (List.mem_of_getElem? (i := 201) rfl)) rfl
theorem wn_X6_97 : Cond.methodLinkNest RX6 97 yX2_slotOf "SteeringHouse" ∈ lw_tbl := wi_3 _ (List.mem_of_getElem? (i := 202) rfl)
theorem wi_X2_slotOf : Cond.instanceMethod yX2_slotOf ∈ aTB := aTB_of (wi_3 _ (List.mem_of_getElem? (i := 204) rfl)) rfl
theorem wc_X2_slotOf : Cond.code yX2_slotOf cX2_slotOf 5 (some FieldType.int) ∈ aTB := aTB_of (wi_3 _ (List.mem_of_getElem? (i := 205) rfl)) rfl
theorem wg_X2_95 : Cond.fieldLinkNest RX2 95 "SteeringHouse" "BASE" "[I" "SteeringHouse" ∈ lw_tbl := wi_3 _ (List.mem_of_getElem? (i := 206) rfl)
theorem wg_X6_148 : Cond.fieldLinkNest RX6 148 "SteeringHouse" "MOST" "[I" "SteeringHouse" ∈ lw_tbl := wi_3 _ (List.mem_of_getElem? (i := 208) rfl)
theorem wn_X6_107 : Cond.methodLinkNest RX6 107 yX2_addName "SteeringHouse" ∈ lw_tbl := wi_3 _ (List.mem_of_getElem? (i := 210) rfl)
theorem wi_X2_addName : Cond.instanceMethod yX2_addName ∈ aTB := aTB_of (wi_3 _ (List.mem_of_getElem? (i := 212) rfl)) rfl
theorem wc_X2_addName : Cond.code yX2_addName cX2_addName 5 (some FieldType.int) ∈ aTB := aTB_of (wi_3 _ (List.mem_of_getElem? (i := 213) rfl)) rfl
theorem wg_X6_61 : Cond.fieldLinkNest RX6 61 "SteeringHouse" "BASE" "[I" "SteeringHouse" ∈ lw_tbl := wi_3 _ (List.mem_of_getElem? (i := 214) rfl)
theorem wm_X6_55 : Cond.methodLink RX6 55 yX6_pass ∈ aTB := aTB_of (wi_3 _ (List.mem_of_getElem? (i := 215) rfl)) rfl
theorem wi_X6_pass : Cond.instanceMethod yX6_pass ∈ aTB := aTB_of (wi_3 _ (List.mem_of_getElem? (i := 217) rfl)) rfl
theorem wc_X6_pass : Cond.code yX6_pass cX6_pass 2 (some FieldType.boolean) ∈ aTB := aTB_of (wi_3 _ (List.mem_of_getElem? (i := 218) rfl)) rfl
theorem wm_X6_68 : Cond.methodLink RX6 68 yX6_sum ∈ aTB := aTB_of (wi_3 _ (List.mem_of_getElem? (i := 219) rfl)) rfl
theorem wi_X6_sum : Cond.instanceMethod yX6_sum ∈ aTB := aTB_of (wi_3 _ (List.mem_of_getElem? (i := 221) rfl)) rfl
theorem wc_X6_sum : Cond.code yX6_sum cX6_sum 4 (some FieldType.boolean) ∈ aTB := aTB_of (wi_3 _ (List.mem_of_getElem? (i := 222) rfl)) rfl
theorem wm_X6_155 : Cond.methodLink RX6 155 yX6_factor ∈ aTB := aTB_of (wi_3 _ (List.mem_of_getElem? (i := 223) rfl)) rfl
theorem wi_X6_factor : Cond.instanceMethod yX6_factor ∈ aTB := aTB_of (wi_3 _ (List.mem_of_getElem? (i := 225) rfl)) rfl
theorem wc_X6_factor : Cond.code yX6_factor cX6_factor 4 (some FieldType.boolean) ∈ aTB := aTB_of (wi_3 _ (List.mem_of_getElem? (i := 226) rfl)) rfl
theorem wn_X6_158 : Cond.methodLinkNest RX6 158 yX0_isFull "SteeringHouse" ∈ lw_tbl := wi_3 _ (List.mem_of_getElem? (i := 227) rfl)
theorem wi_X0_isFull : Cond.instanceMethod yX0_isFull ∈ aTB := aTB_of (wi_3 _ (List.mem_of_getElem? (i := 229) rfl)) rfl
theorem wc_X0_isFull : Cond.code yX0_isFull cX0_isFull 1 (some FieldType.boolean) ∈ aTB := aTB_of (wi_3 _ (List.mem_of_getElem? (i := 230) rfl)) rfl
theorem wn_X6_161 : Cond.methodLinkNest RX6 161 yX0_addFactor "SteeringHouse" ∈ lw_tbl := wi_3 _ (List.mem_of_getElem? (i := 231) rfl)
theorem wi_X0_addFactor : Cond.instanceMethod yX0_addFactor ∈ aTB := aTB_of (wi_3 _ (List.mem_of_getElem? (i := 233) rfl)) rfl
theorem wc_X0_addFactor : Cond.code yX0_addFactor cX0_addFactor 4 none ∈ aTB := aTB_of (wi_3 _ (List.mem_of_getElem? (i := 234) rfl)) rfl
theorem wm_X6_90 : Cond.methodLink RX6 90 yX6_spanLine ∈ aTB := aTB_of (wi_3 _ (List.mem_of_getElem? (i := 235) rfl)) rfl
theorem wi_X6_spanLine : Cond.instanceMethod yX6_spanLine ∈ aTB := aTB_of (wi_3 _ (List.mem_of_getElem? (i := 237) rfl)) rfl
theorem wc_X6_spanLine : Cond.code yX6_spanLine cX6_spanLine 5 (some FieldType.boolean) ∈ aTB := aTB_of (wi_3 _ (List.mem_of_getElem? (i := 238) rfl)) rfl
theorem wm_X6_111 : Cond.methodLink RX6 111 yX6_integer ∈ aTB := aTB_of (wi_3 _ (List.mem_of_getElem? (i := 239) rfl)) rfl
theorem wi_X6_integer : Cond.instanceMethod yX6_integer ∈ aTB := aTB_of (wi_4 _ (List.mem_of_getElem? (i := 1) rfl)) rfl
theorem wc_X6_integer : Cond.code yX6_integer cX6_integer 2 (some FieldType.boolean) ∈ aTB := aTB_of (wi_4 _ (List.mem_of_getElem? (i := 2) rfl)) rfl
theorem wm_X6_117 : Cond.methodLink RX6 117 yX6_isWord ∈ aTB := aTB_of (wi_4 _ (List.mem_of_getElem? (i := 3) rfl)) rfl
theorem wi_X6_isWord : Cond.instanceMethod yX6_isWord ∈ aTB := aTB_of (wi_4 _ (List.mem_of_getElem? (i := 5) rfl)) rfl
theorem wc_X6_isWord : Cond.code yX6_isWord cX6_isWord 2 (some FieldType.boolean) ∈ aTB := aTB_of (wi_4 _ (List.mem_of_getElem? (i := 6) rfl)) rfl
theorem wm_X6_101 : Cond.methodLink RX6 101 yX6_stepLine ∈ aTB := aTB_of (wi_4 _ (List.mem_of_getElem? (i := 7) rfl)) rfl
theorem wi_X6_stepLine : Cond.instanceMethod yX6_stepLine ∈ aTB := aTB_of (wi_4 _ (List.mem_of_getElem? (i := 9) rfl)) rfl
theorem wc_X6_stepLine : Cond.code yX6_stepLine cX6_stepLine 5 (some FieldType.boolean) ∈ aTB := aTB_of (wi_4 _ (List.mem_of_getElem? (i := 10) rfl)) rfl
theorem wm_X6_65 : Cond.methodLink RX6 65 yX6_test ∈ aTB := aTB_of (wi_4 _ (List.mem_of_getElem? (i := 11) rfl)) rfl
theorem wi_X6_test : Cond.instanceMethod yX6_test ∈ aTB := aTB_of (wi_4 _ (List.mem_of_getElem? (i := 13) rfl)) rfl
theorem wc_X6_test : Cond.code yX6_test cX6_test 5 (some FieldType.boolean) ∈ aTB := aTB_of (wi_4 _ (List.mem_of_getElem? (i := 14) rfl)) rfl
theorem wn_X6_151 : Cond.methodLinkNest RX6 151 yX0_addOne "SteeringHouse" ∈ lw_tbl := wi_4 _ (List.mem_of_getElem? (i := 15) rfl)
theorem wi_X0_addOne : Cond.instanceMethod yX0_addOne ∈ aTB := aTB_of (wi_4 _ (List.mem_of_getElem? (i := 17) rfl)) rfl
theorem wc_X0_addOne : Cond.code yX0_addOne cX0_addOne 4 none ∈ aTB := aTB_of (wi_4 _ (List.mem_of_getElem? (i := 18) rfl)) rfl
theorem wn_X6_141 : Cond.methodLinkNest RX6 141 yX2_addStep "SteeringHouse" ∈ lw_tbl := wi_4 _ (List.mem_of_getElem? (i := 19) rfl)
theorem wi_X2_addStep : Cond.instanceMethod yX2_addStep ∈ aTB := aTB_of (wi_4 _ (List.mem_of_getElem? (i := 21) rfl)) rfl
theorem wc_X2_addStep : Cond.code yX2_addStep cX2_addStep 5 none ∈ aTB := aTB_of (wi_4 _ (List.mem_of_getElem? (i := 22) rfl)) rfl
theorem wn_X6_48 : Cond.methodLinkNest RX6 48 yX2_fits "SteeringHouse" ∈ lw_tbl := wi_4 _ (List.mem_of_getElem? (i := 23) rfl)
theorem wi_X2_fits : Cond.instanceMethod yX2_fits ∈ aTB := aTB_of (wi_4 _ (List.mem_of_getElem? (i := 25) rfl)) rfl
theorem wc_X2_fits : Cond.code yX2_fits cX2_fits 1 (some FieldType.boolean) ∈ aTB := aTB_of (wi_4 _ (List.mem_of_getElem? (i := 26) rfl)) rfl
theorem wm_X2_79 : Cond.methodLink RX2 79 yX2_measure ∈ aTB := aTB_of (wi_4 _ (List.mem_of_getElem? (i := 27) rfl)) rfl
theorem wi_X2_measure : Cond.instanceMethod yX2_measure ∈ aTB := aTB_of (wi_4 _ (List.mem_of_getElem? (i := 29) rfl)) rfl
theorem wc_X2_measure : Cond.code yX2_measure cX2_measure 1 none ∈ aTB := aTB_of (wi_4 _ (List.mem_of_getElem? (i := 30) rfl)) rfl
theorem wm_X2_82 : Cond.methodLink RX2 82 yX2_parts ∈ aTB := aTB_of (wi_4 _ (List.mem_of_getElem? (i := 31) rfl)) rfl
theorem wi_X2_parts : Cond.instanceMethod yX2_parts ∈ aTB := aTB_of (wi_4 _ (List.mem_of_getElem? (i := 33) rfl)) rfl
theorem wc_X2_parts : Cond.code yX2_parts cX2_parts 5 (some FieldType.int) ∈ aTB := aTB_of (wi_4 _ (List.mem_of_getElem? (i := 34) rfl)) rfl
theorem wm_X2_101 : Cond.methodLink RX2 101 yX2_width ∈ aTB := aTB_of (wi_4 _ (List.mem_of_getElem? (i := 35) rfl)) rfl
theorem wi_X2_width : Cond.instanceMethod yX2_width ∈ aTB := aTB_of (wi_4 _ (List.mem_of_getElem? (i := 37) rfl)) rfl
theorem wc_X2_width : Cond.code yX2_width cX2_width 4 (some FieldType.int) ∈ aTB := aTB_of (wi_4 _ (List.mem_of_getElem? (i := 38) rfl)) rfl
theorem wm_X11_113 : Cond.methodLink RX11 113 yX11_settled ∈ aTB := aTB_of (wi_4 _ (List.mem_of_getElem? (i := 39) rfl)) rfl
theorem wi_X11_settled : Cond.instanceMethod yX11_settled ∈ aTB := aTB_of (wi_4 _ (List.mem_of_getElem? (i := 41) rfl)) rfl
theorem wc_X11_settled : Cond.code yX11_settled cX11_settled 2 (some FieldType.boolean) ∈ aTB := aTB_of (wi_4 _ (List.mem_of_getElem? (i := 42) rfl)) rfl
theorem wn_X11_117 : Cond.methodLinkNest RX11 117 yX2_take "SteeringHouse" ∈ lw_tbl := wi_4 _ (List.mem_of_getElem? (i := 43) rfl)
theorem wi_X2_take : Cond.instanceMethod yX2_take ∈ aTB := aTB_of (wi_4 _ (List.mem_of_getElem? (i := 45) rfl)) rfl
theorem wc_X2_take : Cond.code yX2_take cX2_take 2 none ∈ aTB := aTB_of (wi_4 _ (List.mem_of_getElem? (i := 46) rfl)) rfl
theorem wm_X2_69 : Cond.methodLink RX2 69 arraycopyName ∈ aTB := aTB_of (wi_4 _ (List.mem_of_getElem? (i := 47) rfl)) rfl
theorem wt_acopy : Cond.static arraycopyName ∈ aTB := aTB_of (wi_4 _ (List.mem_of_getElem? (i := 48) rfl)) rfl
theorem wb_acopy : Cond.native arraycopyName ∈ aTB := aTB_of (wi_4 _ (List.mem_of_getElem? (i := 49) rfl)) rfl
theorem wn_X2_75 : Cond.methodLinkNest RX2 75 yX0_take "SteeringHouse" ∈ lw_tbl := wi_4 _ (List.mem_of_getElem? (i := 50) rfl)
theorem wi_X0_take : Cond.instanceMethod yX0_take ∈ aTB := aTB_of (wi_4 _ (List.mem_of_getElem? (i := 52) rfl)) rfl
theorem wc_X0_take : Cond.code yX0_take cX0_take 2 none ∈ aTB := aTB_of (wi_4 _ (List.mem_of_getElem? (i := 53) rfl)) rfl
theorem wm_X0_40 : Cond.methodLink RX0 40 arraycopyName ∈ aTB := aTB_of (wi_4 _ (List.mem_of_getElem? (i := 54) rfl)) rfl
theorem wn_X11_124 : Cond.methodLinkNest RX11 124 yX3_forget "SteeringHouse" ∈ lw_tbl := wi_4 _ (List.mem_of_getElem? (i := 55) rfl)
theorem wi_X3_forget : Cond.instanceMethod yX3_forget ∈ aTB := aTB_of (wi_4 _ (List.mem_of_getElem? (i := 57) rfl)) rfl
theorem wc_X3_forget : Cond.code yX3_forget cX3_forget 1 none ∈ aTB := aTB_of (wi_4 _ (List.mem_of_getElem? (i := 58) rfl)) rfl
theorem wn_X11_127 : Cond.methodLinkNest RX11 127 yX10_renew "SteeringHouse" ∈ lw_tbl := wi_4 _ (List.mem_of_getElem? (i := 59) rfl)
theorem wi_X10_renew : Cond.instanceMethod yX10_renew ∈ aTB := aTB_of (wi_4 _ (List.mem_of_getElem? (i := 61) rfl)) rfl
theorem wc_X10_renew : Cond.code yX10_renew cX10_renew 2 none ∈ aTB := aTB_of (wi_4 _ (List.mem_of_getElem? (i := 62) rfl)) rfl
theorem wm_X10_44 : Cond.methodLink RX10 44 yJ7_fill_53178 ∈ aTB := aTB_of (wi_4 _ (List.mem_of_getElem? (i := 63) rfl)) rfl
theorem wn_X10_59 : Cond.methodLinkNest RX10 59 yX11_longEnough "SteeringHouse" ∈ lw_tbl := wi_4 _ (List.mem_of_getElem? (i := 64) rfl)
theorem wt_X11_longEnough : Cond.static yX11_longEnough ∈ aTB := aTB_of (wi_4 _ (List.mem_of_getElem? (i := 65) rfl)) rfl
theorem wc_X11_longEnough : Cond.code yX11_longEnough cX11_longEnough 2 (some (FieldType.array FieldType.int)) ∈ aTB := aTB_of (wi_4 _ (List.mem_of_getElem? (i := 66) rfl)) rfl
theorem wm_X11_391 : Cond.methodLink RX11 391 Lib.Math.max.name ∈ aTB := aTB_of (wi_4 _ (List.mem_of_getElem? (i := 67) rfl)) rfl
theorem wt_mmax : Cond.static Lib.Math.max.name ∈ aTB := aTB_of (wi_4 _ (List.mem_of_getElem? (i := 68) rfl)) rfl
theorem wc_mmax : Cond.code Lib.Math.max.name Lib.Math.max.code 2 (some FieldType.int) ∈ aTB := aTB_of (wi_4 _ (List.mem_of_getElem? (i := 69) rfl)) rfl
theorem wn_X11_130 : Cond.methodLinkNest RX11 130 yX5_renew "SteeringHouse" ∈ lw_tbl := wi_4 _ (List.mem_of_getElem? (i := 70) rfl)
theorem wi_X5_renew : Cond.instanceMethod yX5_renew ∈ aTB := aTB_of (wi_4 _ (List.mem_of_getElem? (i := 72) rfl)) rfl
theorem wc_X5_renew : Cond.code yX5_renew cX5_renew 1 none ∈ aTB := aTB_of (wi_4 _ (List.mem_of_getElem? (i := 73) rfl)) rfl
theorem wm_X5_40 : Cond.methodLink RX5 40 yX5_setCode ∈ aTB := aTB_of (wi_4 _ (List.mem_of_getElem? (i := 74) rfl)) rfl
theorem wi_X5_setCode : Cond.instanceMethod yX5_setCode ∈ aTB := aTB_of (wi_4 _ (List.mem_of_getElem? (i := 76) rfl)) rfl
theorem wc_X5_setCode : Cond.code yX5_setCode cX5_setCode 6 none ∈ aTB := aTB_of (wi_4 _ (List.mem_of_getElem? (i := 77) rfl)) rfl
theorem wm_X5_44 : Cond.methodLink RX5 44 yJ7_fill_53178 ∈ aTB := aTB_of (wi_4 _ (List.mem_of_getElem? (i := 78) rfl)) rfl
theorem wn_X11_131 : Cond.methodLinkNest RX11 131 yX1_forget "SteeringHouse" ∈ lw_tbl := wi_4 _ (List.mem_of_getElem? (i := 79) rfl)
theorem wi_X1_forget : Cond.instanceMethod yX1_forget ∈ aTB := aTB_of (wi_4 _ (List.mem_of_getElem? (i := 81) rfl)) rfl
theorem wc_X1_forget : Cond.code yX1_forget cX1_forget 1 none ∈ aTB := aTB_of (wi_4 _ (List.mem_of_getElem? (i := 82) rfl)) rfl
theorem wn_X11_132 : Cond.methodLinkNest RX11 132 yX9_renew "SteeringHouse" ∈ lw_tbl := wi_4 _ (List.mem_of_getElem? (i := 83) rfl)
theorem wi_X9_renew : Cond.instanceMethod yX9_renew ∈ aTB := aTB_of (wi_4 _ (List.mem_of_getElem? (i := 85) rfl)) rfl
theorem wc_X9_renew : Cond.code yX9_renew cX9_renew 1 none ∈ aTB := aTB_of (wi_4 _ (List.mem_of_getElem? (i := 86) rfl)) rfl
theorem wm_X9_46 : Cond.methodLink RX9 46 yJ7_fill_53178 ∈ aTB := aTB_of (wi_4 _ (List.mem_of_getElem? (i := 87) rfl)) rfl
theorem wm_X9_52 : Cond.methodLink RX9 52 yX9_forget ∈ aTB := aTB_of (wi_4 _ (List.mem_of_getElem? (i := 88) rfl)) rfl
theorem wi_X9_forget : Cond.instanceMethod yX9_forget ∈ aTB := aTB_of (wi_4 _ (List.mem_of_getElem? (i := 90) rfl)) rfl
theorem wc_X9_forget : Cond.code yX9_forget cX9_forget 1 none ∈ aTB := aTB_of (wi_4 _ (List.mem_of_getElem? (i := 91) rfl)) rfl
theorem wn_X11_133 : Cond.methodLinkNest RX11 133 yX7_forget "SteeringHouse" ∈ lw_tbl := wi_4 _ (List.mem_of_getElem? (i := 92) rfl)
theorem wi_X7_forget : Cond.instanceMethod yX7_forget ∈ aTB := aTB_of (wi_4 _ (List.mem_of_getElem? (i := 94) rfl)) rfl
theorem wc_X7_forget : Cond.code yX7_forget cX7_forget 1 none ∈ aTB := aTB_of (wi_4 _ (List.mem_of_getElem? (i := 95) rfl)) rfl
theorem wn_X11_134 : Cond.methodLinkNest RX11 134 yX4_forget "SteeringHouse" ∈ lw_tbl := wi_4 _ (List.mem_of_getElem? (i := 96) rfl)
theorem wi_X4_forget : Cond.instanceMethod yX4_forget ∈ aTB := aTB_of (wi_4 _ (List.mem_of_getElem? (i := 98) rfl)) rfl
theorem wc_X4_forget : Cond.code yX4_forget cX4_forget 1 none ∈ aTB := aTB_of (wi_4 _ (List.mem_of_getElem? (i := 99) rfl)) rfl
theorem wm_L_29 : Cond.methodLink RL 29 yX11_good ∈ aTB := aTB_of (wi_4 _ (List.mem_of_getElem? (i := 100) rfl)) rfl
theorem wi_X11_good : Cond.instanceMethod yX11_good ∈ aTB := aTB_of (wi_4 _ (List.mem_of_getElem? (i := 101) rfl)) rfl
theorem ws_X11_good : Cond.selects yX11_good.cls yX11_good yX11_good ∈ aTB := aTB_of (wi_4 _ (List.mem_of_getElem? (i := 102) rfl)) rfl
theorem wc_X11_good : Cond.code yX11_good cX11_good 3 (some FieldType.int) ∈ aTB := aTB_of (wi_4 _ (List.mem_of_getElem? (i := 103) rfl)) rfl
theorem wm_X11_138 : Cond.methodLink RX11 138 yX11_wishReadable ∈ aTB := aTB_of (wi_4 _ (List.mem_of_getElem? (i := 104) rfl)) rfl
theorem wi_X11_wishReadable : Cond.instanceMethod yX11_wishReadable ∈ aTB := aTB_of (wi_4 _ (List.mem_of_getElem? (i := 106) rfl)) rfl
theorem wc_X11_wishReadable : Cond.code yX11_wishReadable cX11_wishReadable 2 (some FieldType.boolean) ∈ aTB := aTB_of (wi_4 _ (List.mem_of_getElem? (i := 107) rfl)) rfl
theorem wn_X11_142 : Cond.methodLinkNest RX11 142 yX6_readTest "SteeringHouse" ∈ lw_tbl := wi_4 _ (List.mem_of_getElem? (i := 108) rfl)
theorem wi_X6_readTest : Cond.instanceMethod yX6_readTest ∈ aTB := aTB_of (wi_4 _ (List.mem_of_getElem? (i := 110) rfl)) rfl
theorem wc_X6_readTest : Cond.code yX6_readTest cX6_readTest 5 (some FieldType.boolean) ∈ aTB := aTB_of (wi_4 _ (List.mem_of_getElem? (i := 111) rfl)) rfl
theorem wn_X6_58 : Cond.methodLinkNest RX6 58 yX0_clear "SteeringHouse" ∈ lw_tbl := wi_4 _ (List.mem_of_getElem? (i := 112) rfl)
theorem wn_X11_146 : Cond.methodLinkNest RX11 146 yX10_setGood "SteeringHouse" ∈ lw_tbl := wi_4 _ (List.mem_of_getElem? (i := 113) rfl)
theorem wi_X10_setGood : Cond.instanceMethod yX10_setGood ∈ aTB := aTB_of (wi_4 _ (List.mem_of_getElem? (i := 115) rfl)) rfl
theorem wc_X10_setGood : Cond.code yX10_setGood cX10_setGood 2 none ∈ aTB := aTB_of (wi_4 _ (List.mem_of_getElem? (i := 116) rfl)) rfl
theorem wm_X10_70 : Cond.methodLink RX10 70 yX10_markAll ∈ aTB := aTB_of (wi_4 _ (List.mem_of_getElem? (i := 117) rfl)) rfl
theorem wi_X10_markAll : Cond.instanceMethod yX10_markAll ∈ aTB := aTB_of (wi_4 _ (List.mem_of_getElem? (i := 119) rfl)) rfl
theorem wc_X10_markAll : Cond.code yX10_markAll cX10_markAll 5 (some FieldType.int) ∈ aTB := aTB_of (wi_4 _ (List.mem_of_getElem? (i := 120) rfl)) rfl
theorem wn_X10_74 : Cond.methodLinkNest RX10 74 yX2_spread "SteeringHouse" ∈ lw_tbl := wi_4 _ (List.mem_of_getElem? (i := 121) rfl)
theorem wi_X2_spread : Cond.instanceMethod yX2_spread ∈ aTB := aTB_of (wi_4 _ (List.mem_of_getElem? (i := 123) rfl)) rfl
theorem wc_X2_spread : Cond.code yX2_spread cX2_spread 8 none ∈ aTB := aTB_of (wi_4 _ (List.mem_of_getElem? (i := 124) rfl)) rfl
theorem wn_X10_83 : Cond.methodLinkNest RX10 83 yX0_allHold "SteeringHouse" ∈ lw_tbl := wi_4 _ (List.mem_of_getElem? (i := 125) rfl)
theorem wi_X0_allHold : Cond.instanceMethod yX0_allHold ∈ aTB := aTB_of (wi_4 _ (List.mem_of_getElem? (i := 127) rfl)) rfl
theorem wc_X0_allHold : Cond.code yX0_allHold cX0_allHold 8 (some FieldType.boolean) ∈ aTB := aTB_of (wi_4 _ (List.mem_of_getElem? (i := 128) rfl)) rfl
theorem wm_X0_48 : Cond.methodLink RX0 48 yX0_sumOf ∈ aTB := aTB_of (wi_4 _ (List.mem_of_getElem? (i := 129) rfl)) rfl
theorem wi_X0_sumOf : Cond.instanceMethod yX0_sumOf ∈ aTB := aTB_of (wi_4 _ (List.mem_of_getElem? (i := 131) rfl)) rfl
theorem wc_X0_sumOf : Cond.code yX0_sumOf cX0_sumOf 9 (some FieldType.int) ∈ aTB := aTB_of (wi_4 _ (List.mem_of_getElem? (i := 132) rfl)) rfl
theorem wv_X0_46 : Cond.constant RX0 46 (1000000) ∈ aTB := aTB_of (wi_4 _ (List.mem_of_getElem? (i := 133) rfl)) rfl
theorem wv_X0_47 : Cond.constant RX0 47 (-1000000) ∈ aTB := aTB_of (wi_4 _ (List.mem_of_getElem? (i := 134) rfl)) rfl
theorem wn_X11_150 : Cond.methodLinkNest RX11 150 yX9_forget "SteeringHouse" ∈ lw_tbl := wi_4 _ (List.mem_of_getElem? (i := 135) rfl)
theorem wm_L_33 : Cond.methodLink RL 33 yX11_goal ∈ aTB := aTB_of (wi_4 _ (List.mem_of_getElem? (i := 136) rfl)) rfl
theorem wi_X11_goal : Cond.instanceMethod yX11_goal ∈ aTB := aTB_of (wi_4 _ (List.mem_of_getElem? (i := 137) rfl)) rfl
theorem ws_X11_goal : Cond.selects yX11_goal.cls yX11_goal yX11_goal ∈ aTB := aTB_of (wi_4 _ (List.mem_of_getElem? (i := 138) rfl)) rfl
theorem wc_X11_goal : Cond.code yX11_goal cX11_goal 3 (some FieldType.int) ∈ aTB := aTB_of (wi_4 _ (List.mem_of_getElem? (i := 139) rfl)) rfl
theorem wn_X11_154 : Cond.methodLinkNest RX11 154 yX10_setGoal "SteeringHouse" ∈ lw_tbl := wi_4 _ (List.mem_of_getElem? (i := 140) rfl)
theorem wi_X10_setGoal : Cond.instanceMethod yX10_setGoal ∈ aTB := aTB_of (wi_4 _ (List.mem_of_getElem? (i := 142) rfl)) rfl
theorem wc_X10_setGoal : Cond.code yX10_setGoal cX10_setGoal 2 (some FieldType.int) ∈ aTB := aTB_of (wi_4 _ (List.mem_of_getElem? (i := 143) rfl)) rfl
theorem wm_L_37 : Cond.methodLink RL 37 yX11_cost ∈ aTB := aTB_of (wi_4 _ (List.mem_of_getElem? (i := 144) rfl)) rfl
theorem wi_X11_cost : Cond.instanceMethod yX11_cost ∈ aTB := aTB_of (wi_4 _ (List.mem_of_getElem? (i := 145) rfl)) rfl
theorem ws_X11_cost : Cond.selects yX11_cost.cls yX11_cost yX11_cost ∈ aTB := aTB_of (wi_4 _ (List.mem_of_getElem? (i := 146) rfl)) rfl
theorem wc_X11_cost : Cond.code yX11_cost cX11_cost 3 (some FieldType.int) ∈ aTB := aTB_of (wi_4 _ (List.mem_of_getElem? (i := 147) rfl)) rfl
theorem wn_X11_158 : Cond.methodLinkNest RX11 158 yX6_readSum "SteeringHouse" ∈ lw_tbl := wi_4 _ (List.mem_of_getElem? (i := 148) rfl)
theorem wi_X6_readSum : Cond.instanceMethod yX6_readSum ∈ aTB := aTB_of (wi_4 _ (List.mem_of_getElem? (i := 150) rfl)) rfl
theorem wc_X6_readSum : Cond.code yX6_readSum cX6_readSum 5 (some FieldType.boolean) ∈ aTB := aTB_of (wi_4 _ (List.mem_of_getElem? (i := 151) rfl)) rfl
theorem wn_X11_161 : Cond.methodLinkNest RX11 161 yX10_setCosts "SteeringHouse" ∈ lw_tbl := wi_4 _ (List.mem_of_getElem? (i := 152) rfl)
theorem wi_X10_setCosts : Cond.instanceMethod yX10_setCosts ∈ aTB := aTB_of (wi_4 _ (List.mem_of_getElem? (i := 154) rfl)) rfl
theorem wc_X10_setCosts : Cond.code yX10_setCosts cX10_setCosts 5 none ∈ aTB := aTB_of (wi_4 _ (List.mem_of_getElem? (i := 155) rfl)) rfl
theorem wn_X10_90 : Cond.methodLinkNest RX10 90 yX0_sumOf "SteeringHouse" ∈ lw_tbl := wi_4 _ (List.mem_of_getElem? (i := 156) rfl)
theorem wm_X10_94 : Cond.methodLink RX10 94 Lib.Math.min.name ∈ aTB := aTB_of (wi_4 _ (List.mem_of_getElem? (i := 157) rfl)) rfl
theorem wt_mmin : Cond.static Lib.Math.min.name ∈ aTB := aTB_of (wi_4 _ (List.mem_of_getElem? (i := 158) rfl)) rfl
theorem wc_mmin : Cond.code Lib.Math.min.name Lib.Math.min.code 2 (some FieldType.int) ∈ aTB := aTB_of (wi_4 _ (List.mem_of_getElem? (i := 159) rfl)) rfl
theorem wm_X10_100 : Cond.methodLink RX10 100 Lib.Math.max.name ∈ aTB := aTB_of (wi_4 _ (List.mem_of_getElem? (i := 160) rfl)) rfl
theorem wm_L_41 : Cond.methodLink RL 41 yX11_fault ∈ aTB := aTB_of (wi_4 _ (List.mem_of_getElem? (i := 161) rfl)) rfl
theorem wi_X11_fault : Cond.instanceMethod yX11_fault ∈ aTB := aTB_of (wi_4 _ (List.mem_of_getElem? (i := 162) rfl)) rfl
theorem ws_X11_fault : Cond.selects yX11_fault.cls yX11_fault yX11_fault ∈ aTB := aTB_of (wi_4 _ (List.mem_of_getElem? (i := 163) rfl)) rfl
theorem wc_X11_fault : Cond.code yX11_fault cX11_fault 1 (some FieldType.int) ∈ aTB := aTB_of (wi_4 _ (List.mem_of_getElem? (i := 164) rfl)) rfl
theorem wm_L_46 : Cond.methodLink RL 46 yX11_where ∈ aTB := aTB_of (wi_4 _ (List.mem_of_getElem? (i := 165) rfl)) rfl
theorem wi_X11_where : Cond.instanceMethod yX11_where ∈ aTB := aTB_of (wi_4 _ (List.mem_of_getElem? (i := 166) rfl)) rfl
theorem ws_X11_where : Cond.selects yX11_where.cls yX11_where yX11_where ∈ aTB := aTB_of (wi_4 _ (List.mem_of_getElem? (i := 167) rfl)) rfl
theorem wc_X11_where : Cond.code yX11_where cX11_where 1 (some FieldType.int) ∈ aTB := aTB_of (wi_4 _ (List.mem_of_getElem? (i := 168) rfl)) rfl
theorem wm_L_50 : Cond.methodLink RL 50 yX11_count ∈ aTB := aTB_of (wi_4 _ (List.mem_of_getElem? (i := 169) rfl)) rfl
theorem wi_X11_count : Cond.instanceMethod yX11_count ∈ aTB := aTB_of (wi_4 _ (List.mem_of_getElem? (i := 170) rfl)) rfl
theorem ws_X11_count : Cond.selects yX11_count.cls yX11_count yX11_count ∈ aTB := aTB_of (wi_4 _ (List.mem_of_getElem? (i := 171) rfl)) rfl
theorem wc_X11_count : Cond.code yX11_count cX11_count 2 (some FieldType.int) ∈ aTB := aTB_of (wi_4 _ (List.mem_of_getElem? (i := 172) rfl)) rfl
theorem wn_X11_185 : Cond.methodLinkNest RX11 185 yX1_holds "SteeringHouse" ∈ lw_tbl := wi_4 _ (List.mem_of_getElem? (i := 173) rfl)
theorem wi_X1_holds : Cond.instanceMethod yX1_holds ∈ aTB := aTB_of (wi_4 _ (List.mem_of_getElem? (i := 175) rfl)) rfl
theorem wc_X1_holds : Cond.code yX1_holds cX1_holds 1 (some FieldType.boolean) ∈ aTB := aTB_of (wi_4 _ (List.mem_of_getElem? (i := 176) rfl)) rfl
theorem wm_X1_51 : Cond.methodLink RX1 51 yX1_look ∈ aTB := aTB_of (wi_4 _ (List.mem_of_getElem? (i := 177) rfl)) rfl
theorem wi_X1_look : Cond.instanceMethod yX1_look ∈ aTB := aTB_of (wi_4 _ (List.mem_of_getElem? (i := 179) rfl)) rfl
theorem wc_X1_look : Cond.code yX1_look cX1_look 5 (some FieldType.boolean) ∈ aTB := aTB_of (wi_4 _ (List.mem_of_getElem? (i := 180) rfl)) rfl
theorem wm_X1_61 : Cond.methodLink RX1 61 yJ7_fill_53178 ∈ aTB := aTB_of (wi_4 _ (List.mem_of_getElem? (i := 181) rfl)) rfl
theorem wm_X1_88 : Cond.methodLink RX1 88 yX1_addTerms ∈ aTB := aTB_of (wi_4 _ (List.mem_of_getElem? (i := 182) rfl)) rfl
theorem wi_X1_addTerms : Cond.instanceMethod yX1_addTerms ∈ aTB := aTB_of (wi_4 _ (List.mem_of_getElem? (i := 184) rfl)) rfl
theorem wc_X1_addTerms : Cond.code yX1_addTerms cX1_addTerms 12 (some FieldType.boolean) ∈ aTB := aTB_of (wi_4 _ (List.mem_of_getElem? (i := 185) rfl)) rfl
theorem wm_X1_114 : Cond.methodLink RX1 114 yX1_addTerm ∈ aTB := aTB_of (wi_4 _ (List.mem_of_getElem? (i := 186) rfl)) rfl
theorem wi_X1_addTerm : Cond.instanceMethod yX1_addTerm ∈ aTB := aTB_of (wi_4 _ (List.mem_of_getElem? (i := 188) rfl)) rfl
theorem wc_X1_addTerm : Cond.code yX1_addTerm cX1_addTerm 6 (some FieldType.boolean) ∈ aTB := aTB_of (wi_4 _ (List.mem_of_getElem? (i := 189) rfl)) rfl
theorem wg_X1_120 : Cond.fieldLinkNest RX1 120 "SteeringHouse" "BASE" "[I" "SteeringHouse" ∈ lw_tbl := wi_4 _ (List.mem_of_getElem? (i := 190) rfl)
theorem wv_X1_129 : Cond.constant RX1 129 (-1000000) ∈ aTB := aTB_of (wi_4 _ (List.mem_of_getElem? (i := 191) rfl)) rfl
theorem wv_X1_130 : Cond.constant RX1 130 (1000000) ∈ aTB := aTB_of (wi_4 _ (List.mem_of_getElem? (i := 192) rfl)) rfl
theorem wm_X1_131 : Cond.methodLink RX1 131 Lib.Math.min.name ∈ aTB := aTB_of (wi_4 _ (List.mem_of_getElem? (i := 193) rfl)) rfl
theorem wm_X1_137 : Cond.methodLink RX1 137 Lib.Math.max.name ∈ aTB := aTB_of (wi_4 _ (List.mem_of_getElem? (i := 194) rfl)) rfl
theorem wm_X1_101 : Cond.methodLink RX1 101 yX1_allNear ∈ aTB := aTB_of (wi_4 _ (List.mem_of_getElem? (i := 195) rfl)) rfl
theorem wt_X1_allNear : Cond.static yX1_allNear ∈ aTB := aTB_of (wi_4 _ (List.mem_of_getElem? (i := 196) rfl)) rfl
theorem wc_X1_allNear : Cond.code yX1_allNear cX1_allNear 5 (some FieldType.boolean) ∈ aTB := aTB_of (wi_4 _ (List.mem_of_getElem? (i := 197) rfl)) rfl
theorem wm_X1_58 : Cond.methodLink RX1 58 yX1_findForm ∈ aTB := aTB_of (wi_4 _ (List.mem_of_getElem? (i := 198) rfl)) rfl
theorem wi_X1_findForm : Cond.instanceMethod yX1_findForm ∈ aTB := aTB_of (wi_4 _ (List.mem_of_getElem? (i := 200) rfl)) rfl
theorem wc_X1_findForm : Cond.code yX1_findForm cX1_findForm 8 none ∈ aTB := aTB_of (wi_4 _ (List.mem_of_getElem? (i := 201) rfl)) rfl
theorem wm_X1_140 : Cond.methodLink RX1 140 yX1_determinant ∈ aTB := aTB_of (wi_4 _ (List.mem_of_getElem? (i := 202) rfl)) rfl
theorem wi_X1_determinant : Cond.instanceMethod yX1_determinant ∈ aTB := aTB_of (wi_4 _ (List.mem_of_getElem? (i := 204) rfl)) rfl
theorem wc_X1_determinant : Cond.code yX1_determinant cX1_determinant 7 (some FieldType.long) ∈ aTB := aTB_of (wi_4 _ (List.mem_of_getElem? (i := 205) rfl)) rfl
theorem wm_X1_144 : Cond.methodLink RX1 144 yJ7_fill_d0a16 ∈ aTB := aTB_of (wi_4 _ (List.mem_of_getElem? (i := 206) rfl)) rfl
theorem wt_J7_fill_d0a16 : Cond.static yJ7_fill_d0a16 ∈ aTB := aTB_of (wi_4 _ (List.mem_of_getElem? (i := 207) rfl)) rfl
theorem wc_J7_fill_d0a16 : Cond.code yJ7_fill_d0a16 cJ7_fill_d0a16 5 none ∈ aTB := aTB_of (wi_4 _ (List.mem_of_getElem? (i := 208) rfl)) rfl
theorem wm_L_54 : Cond.methodLink RL 54 yX11_cell ∈ aTB := aTB_of (wi_4 _ (List.mem_of_getElem? (i := 209) rfl)) rfl
theorem wi_X11_cell : Cond.instanceMethod yX11_cell ∈ aTB := aTB_of (wi_4 _ (List.mem_of_getElem? (i := 210) rfl)) rfl
theorem ws_X11_cell : Cond.selects yX11_cell.cls yX11_cell yX11_cell ∈ aTB := aTB_of (wi_4 _ (List.mem_of_getElem? (i := 211) rfl)) rfl
theorem wc_X11_cell : Cond.code yX11_cell cX11_cell 5 (some FieldType.int) ∈ aTB := aTB_of (wi_4 _ (List.mem_of_getElem? (i := 212) rfl)) rfl
theorem wn_X11_195 : Cond.methodLinkNest RX11 195 yX2_cellOf "SteeringHouse" ∈ lw_tbl := wi_4 _ (List.mem_of_getElem? (i := 213) rfl)
theorem wi_X2_cellOf : Cond.instanceMethod yX2_cellOf ∈ aTB := aTB_of (wi_4 _ (List.mem_of_getElem? (i := 215) rfl)) rfl
theorem wc_X2_cellOf : Cond.code yX2_cellOf cX2_cellOf 4 (some FieldType.int) ∈ aTB := aTB_of (wi_4 _ (List.mem_of_getElem? (i := 216) rfl)) rfl
theorem wm_L_58 : Cond.methodLink RL 58 yX11_state ∈ aTB := aTB_of (wi_4 _ (List.mem_of_getElem? (i := 217) rfl)) rfl
theorem wi_X11_state : Cond.instanceMethod yX11_state ∈ aTB := aTB_of (wi_4 _ (List.mem_of_getElem? (i := 218) rfl)) rfl
theorem ws_X11_state : Cond.selects yX11_state.cls yX11_state yX11_state ∈ aTB := aTB_of (wi_4 _ (List.mem_of_getElem? (i := 219) rfl)) rfl
theorem wc_X11_state : Cond.code yX11_state cX11_state 3 (some FieldType.int) ∈ aTB := aTB_of (wi_4 _ (List.mem_of_getElem? (i := 220) rfl)) rfl
theorem wm_X11_199 : Cond.methodLink RX11 199 yX11_hasCell ∈ aTB := aTB_of (wi_4 _ (List.mem_of_getElem? (i := 221) rfl)) rfl
theorem wi_X11_hasCell : Cond.instanceMethod yX11_hasCell ∈ aTB := aTB_of (wi_4 _ (List.mem_of_getElem? (i := 223) rfl)) rfl
theorem wc_X11_hasCell : Cond.code yX11_hasCell cX11_hasCell 2 (some FieldType.boolean) ∈ aTB := aTB_of (wi_4 _ (List.mem_of_getElem? (i := 224) rfl)) rfl
theorem wv_X11_202 : Cond.constant RX11 202 (-2147483648) ∈ aTB := aTB_of (wi_4 _ (List.mem_of_getElem? (i := 225) rfl)) rfl
theorem wn_X11_203 : Cond.methodLinkNest RX11 203 yX2_spread "SteeringHouse" ∈ lw_tbl := wi_4 _ (List.mem_of_getElem? (i := 226) rfl)
theorem wf_X11_207 : Cond.fieldLink RX11 207 "SteeringHouse" "BASE" "[I" ∈ aTB := aTB_of (wi_4 _ (List.mem_of_getElem? (i := 227) rfl)) rfl
theorem wm_L_63 : Cond.methodLink RL 63 yX11_push ∈ aTB := aTB_of (wi_4 _ (List.mem_of_getElem? (i := 228) rfl)) rfl
theorem wi_X11_push : Cond.instanceMethod yX11_push ∈ aTB := aTB_of (wi_4 _ (List.mem_of_getElem? (i := 229) rfl)) rfl
theorem ws_X11_push : Cond.selects yX11_push.cls yX11_push yX11_push ∈ aTB := aTB_of (wi_4 _ (List.mem_of_getElem? (i := 230) rfl)) rfl
theorem wc_X11_push : Cond.code yX11_push cX11_push 3 (some FieldType.int) ∈ aTB := aTB_of (wi_4 _ (List.mem_of_getElem? (i := 231) rfl)) rfl
theorem wm_X11_210 : Cond.methodLink RX11 210 yX11_hasPush ∈ aTB := aTB_of (wi_4 _ (List.mem_of_getElem? (i := 232) rfl)) rfl
theorem wi_X11_hasPush : Cond.instanceMethod yX11_hasPush ∈ aTB := aTB_of (wi_4 _ (List.mem_of_getElem? (i := 234) rfl)) rfl
theorem wc_X11_hasPush : Cond.code yX11_hasPush cX11_hasPush 2 (some FieldType.boolean) ∈ aTB := aTB_of (wi_4 _ (List.mem_of_getElem? (i := 235) rfl)) rfl
theorem wm_L_67 : Cond.methodLink RL 67 yX11_next ∈ aTB := aTB_of (wi_4 _ (List.mem_of_getElem? (i := 236) rfl)) rfl
theorem wi_X11_next : Cond.instanceMethod yX11_next ∈ aTB := aTB_of (wi_4 _ (List.mem_of_getElem? (i := 237) rfl)) rfl
theorem ws_X11_next : Cond.selects yX11_next.cls yX11_next yX11_next ∈ aTB := aTB_of (wi_4 _ (List.mem_of_getElem? (i := 238) rfl)) rfl
theorem wc_X11_next : Cond.code yX11_next cX11_next 4 (some FieldType.int) ∈ aTB := aTB_of (wi_4 _ (List.mem_of_getElem? (i := 239) rfl)) rfl
theorem wm_X11_213 : Cond.methodLink RX11 213 yX11_hasMove ∈ aTB := aTB_of (wi_5 _ (List.mem_of_getElem? (i := 0) rfl)) rfl
theorem wi_X11_hasMove : Cond.instanceMethod yX11_hasMove ∈ aTB := aTB_of (wi_5 _ (List.mem_of_getElem? (i := 2) rfl)) rfl
theorem wc_X11_hasMove : Cond.code yX11_hasMove cX11_hasMove 4 (some FieldType.boolean) ∈ aTB := aTB_of (wi_5 _ (List.mem_of_getElem? (i := 3) rfl)) rfl
theorem wn_X11_217 : Cond.methodLinkNest RX11 217 yX2_spreadMove "SteeringHouse" ∈ lw_tbl := wi_5 _ (List.mem_of_getElem? (i := 4) rfl)
theorem wi_X2_spreadMove : Cond.instanceMethod yX2_spreadMove ∈ aTB := aTB_of (wi_5 _ (List.mem_of_getElem? (i := 6) rfl)) rfl
theorem wc_X2_spreadMove : Cond.code yX2_spreadMove cX2_spreadMove 5 none ∈ aTB := aTB_of (wi_5 _ (List.mem_of_getElem? (i := 7) rfl)) rfl
theorem wm_X2_109 : Cond.methodLink RX2 109 yX2_spread ∈ aTB := aTB_of (wi_5 _ (List.mem_of_getElem? (i := 8) rfl)) rfl
theorem wm_X2_113 : Cond.methodLink RX2 113 yX2_spreadWorld ∈ aTB := aTB_of (wi_5 _ (List.mem_of_getElem? (i := 9) rfl)) rfl
theorem wi_X2_spreadWorld : Cond.instanceMethod yX2_spreadWorld ∈ aTB := aTB_of (wi_5 _ (List.mem_of_getElem? (i := 11) rfl)) rfl
theorem wc_X2_spreadWorld : Cond.code yX2_spreadWorld cX2_spreadWorld 5 none ∈ aTB := aTB_of (wi_5 _ (List.mem_of_getElem? (i := 12) rfl)) rfl
theorem wm_X2_104 : Cond.methodLink RX2 104 Lib.Math.max.name ∈ aTB := aTB_of (wi_5 _ (List.mem_of_getElem? (i := 13) rfl)) rfl
theorem wn_X11_220 : Cond.methodLinkNest RX11 220 yX2_lead "SteeringHouse" ∈ lw_tbl := wi_5 _ (List.mem_of_getElem? (i := 14) rfl)
theorem wi_X2_lead : Cond.instanceMethod yX2_lead ∈ aTB := aTB_of (wi_5 _ (List.mem_of_getElem? (i := 16) rfl)) rfl
theorem wc_X2_lead : Cond.code yX2_lead cX2_lead 5 (some FieldType.int) ∈ aTB := aTB_of (wi_5 _ (List.mem_of_getElem? (i := 17) rfl)) rfl
theorem wm_X2_117 : Cond.methodLink RX2 117 yX2_stepped ∈ aTB := aTB_of (wi_5 _ (List.mem_of_getElem? (i := 18) rfl)) rfl
theorem wi_X2_stepped : Cond.instanceMethod yX2_stepped ∈ aTB := aTB_of (wi_5 _ (List.mem_of_getElem? (i := 20) rfl)) rfl
theorem wc_X2_stepped : Cond.code yX2_stepped cX2_stepped 4 (some FieldType.int) ∈ aTB := aTB_of (wi_5 _ (List.mem_of_getElem? (i := 21) rfl)) rfl
theorem wn_X2_121 : Cond.methodLinkNest RX2 121 yX0_allHold "SteeringHouse" ∈ lw_tbl := wi_5 _ (List.mem_of_getElem? (i := 22) rfl)
theorem wn_X2_125 : Cond.methodLinkNest RX2 125 yX0_sumOf "SteeringHouse" ∈ lw_tbl := wi_5 _ (List.mem_of_getElem? (i := 23) rfl)
theorem wm_L_71 : Cond.methodLink RL 71 yX11_sight ∈ aTB := aTB_of (wi_5 _ (List.mem_of_getElem? (i := 24) rfl)) rfl
theorem wi_X11_sight : Cond.instanceMethod yX11_sight ∈ aTB := aTB_of (wi_5 _ (List.mem_of_getElem? (i := 25) rfl)) rfl
theorem ws_X11_sight : Cond.selects yX11_sight.cls yX11_sight yX11_sight ∈ aTB := aTB_of (wi_5 _ (List.mem_of_getElem? (i := 26) rfl)) rfl
theorem wc_X11_sight : Cond.code yX11_sight cX11_sight 5 (some FieldType.int) ∈ aTB := aTB_of (wi_5 _ (List.mem_of_getElem? (i := 27) rfl)) rfl
theorem wn_X11_223 : Cond.methodLinkNest RX11 223 yX2_seen "SteeringHouse" ∈ lw_tbl := wi_5 _ (List.mem_of_getElem? (i := 28) rfl)
theorem wi_X2_seen : Cond.instanceMethod yX2_seen ∈ aTB := aTB_of (wi_5 _ (List.mem_of_getElem? (i := 30) rfl)) rfl
theorem wc_X2_seen : Cond.code yX2_seen cX2_seen 3 (some FieldType.int) ∈ aTB := aTB_of (wi_5 _ (List.mem_of_getElem? (i := 31) rfl)) rfl
theorem wm_L_76 : Cond.methodLink RL 76 yX11_safe ∈ aTB := aTB_of (wi_5 _ (List.mem_of_getElem? (i := 32) rfl)) rfl
theorem wi_X11_safe : Cond.instanceMethod yX11_safe ∈ aTB := aTB_of (wi_5 _ (List.mem_of_getElem? (i := 33) rfl)) rfl
theorem ws_X11_safe : Cond.selects yX11_safe.cls yX11_safe yX11_safe ∈ aTB := aTB_of (wi_5 _ (List.mem_of_getElem? (i := 34) rfl)) rfl
theorem wc_X11_safe : Cond.code yX11_safe cX11_safe 1 (some FieldType.int) ∈ aTB := aTB_of (wi_5 _ (List.mem_of_getElem? (i := 35) rfl)) rfl
theorem wm_X11_227 : Cond.methodLink RX11 227 yX11_readySafety ∈ aTB := aTB_of (wi_5 _ (List.mem_of_getElem? (i := 36) rfl)) rfl
theorem wi_X11_readySafety : Cond.instanceMethod yX11_readySafety ∈ aTB := aTB_of (wi_5 _ (List.mem_of_getElem? (i := 38) rfl)) rfl
theorem wc_X11_readySafety : Cond.code yX11_readySafety cX11_readySafety 1 (some (FieldType.object "SteeringHouse$Safety")) ∈ aTB := aTB_of (wi_5 _ (List.mem_of_getElem? (i := 39) rfl)) rfl
theorem wn_X11_372 : Cond.methodLinkNest RX11 372 yX3_fill "SteeringHouse" ∈ lw_tbl := wi_5 _ (List.mem_of_getElem? (i := 40) rfl)
theorem wi_X3_fill : Cond.instanceMethod yX3_fill ∈ aTB := aTB_of (wi_5 _ (List.mem_of_getElem? (i := 42) rfl)) rfl
theorem wc_X3_fill : Cond.code yX3_fill cX3_fill 4 none ∈ aTB := aTB_of (wi_5 _ (List.mem_of_getElem? (i := 43) rfl)) rfl
theorem wn_X3_44 : Cond.methodLinkNest RX3 44 yX11_longEnough "SteeringHouse" ∈ lw_tbl := wi_5 _ (List.mem_of_getElem? (i := 44) rfl)
theorem wm_X3_48 : Cond.methodLink RX3 48 yJ7_fill_fda19 ∈ aTB := aTB_of (wi_5 _ (List.mem_of_getElem? (i := 45) rfl)) rfl
theorem wt_J7_fill_fda19 : Cond.static yJ7_fill_fda19 ∈ aTB := aTB_of (wi_5 _ (List.mem_of_getElem? (i := 46) rfl)) rfl
theorem wc_J7_fill_fda19 : Cond.code yJ7_fill_fda19 cJ7_fill_fda19 5 none ∈ aTB := aTB_of (wi_5 _ (List.mem_of_getElem? (i := 47) rfl)) rfl
theorem wm_J7_13 : Cond.methodLink RJ7 13 yJ7_rangeCheck_23922 ∈ aTB := aTB_of (wi_5 _ (List.mem_of_getElem? (i := 48) rfl)) rfl
theorem wt_J7_rangeCheck_23922 : Cond.static yJ7_rangeCheck_23922 ∈ aTB := aTB_of (wi_5 _ (List.mem_of_getElem? (i := 49) rfl)) rfl
theorem wc_J7_rangeCheck_23922 : Cond.code yJ7_rangeCheck_23922 cJ7_rangeCheck_23922 3 none ∈ aTB := aTB_of (wi_5 _ (List.mem_of_getElem? (i := 50) rfl)) rfl
theorem wn_X3_54 : Cond.methodLinkNest RX3 54 yX2_spreadWorld "SteeringHouse" ∈ lw_tbl := wi_5 _ (List.mem_of_getElem? (i := 51) rfl)
theorem wn_X3_58 : Cond.methodLinkNest RX3 58 yX2_spread "SteeringHouse" ∈ lw_tbl := wi_5 _ (List.mem_of_getElem? (i := 52) rfl)
theorem wm_X3_62 : Cond.methodLink RX3 62 yX3_fillCells ∈ aTB := aTB_of (wi_5 _ (List.mem_of_getElem? (i := 53) rfl)) rfl
theorem wi_X3_fillCells : Cond.instanceMethod yX3_fillCells ∈ aTB := aTB_of (wi_5 _ (List.mem_of_getElem? (i := 55) rfl)) rfl
theorem wc_X3_fillCells : Cond.code yX3_fillCells cX3_fillCells 6 none ∈ aTB := aTB_of (wi_5 _ (List.mem_of_getElem? (i := 56) rfl)) rfl
theorem wn_X3_66 : Cond.methodLinkNest RX3 66 yX2_lead "SteeringHouse" ∈ lw_tbl := wi_5 _ (List.mem_of_getElem? (i := 57) rfl)
theorem wm_X3_70 : Cond.methodLink RX3 70 yX3_mark ∈ aTB := aTB_of (wi_5 _ (List.mem_of_getElem? (i := 58) rfl)) rfl
theorem wi_X3_mark : Cond.instanceMethod yX3_mark ∈ aTB := aTB_of (wi_5 _ (List.mem_of_getElem? (i := 60) rfl)) rfl
theorem wc_X3_mark : Cond.code yX3_mark cX3_mark 5 none ∈ aTB := aTB_of (wi_5 _ (List.mem_of_getElem? (i := 61) rfl)) rfl
theorem wn_X11_383 : Cond.methodLinkNest RX11 383 yX7_settle "SteeringHouse" ∈ lw_tbl := wi_5 _ (List.mem_of_getElem? (i := 62) rfl)
theorem wi_X7_settle : Cond.instanceMethod yX7_settle ∈ aTB := aTB_of (wi_5 _ (List.mem_of_getElem? (i := 64) rfl)) rfl
theorem wc_X7_settle : Cond.code yX7_settle cX7_settle 3 none ∈ aTB := aTB_of (wi_5 _ (List.mem_of_getElem? (i := 65) rfl)) rfl
theorem wn_X7_69 : Cond.methodLinkNest RX7 69 yX10_isGood "SteeringHouse" ∈ lw_tbl := wi_5 _ (List.mem_of_getElem? (i := 66) rfl)
theorem wi_X10_isGood : Cond.instanceMethod yX10_isGood ∈ aTB := aTB_of (wi_5 _ (List.mem_of_getElem? (i := 68) rfl)) rfl
theorem wc_X10_isGood : Cond.code yX10_isGood cX10_isGood 2 (some FieldType.boolean) ∈ aTB := aTB_of (wi_5 _ (List.mem_of_getElem? (i := 69) rfl)) rfl
theorem wm_X7_84 : Cond.methodLink RX7 84 yX7_shrink ∈ aTB := aTB_of (wi_5 _ (List.mem_of_getElem? (i := 70) rfl)) rfl
theorem wi_X7_shrink : Cond.instanceMethod yX7_shrink ∈ aTB := aTB_of (wi_5 _ (List.mem_of_getElem? (i := 72) rfl)) rfl
theorem wc_X7_shrink : Cond.code yX7_shrink cX7_shrink 7 (some FieldType.int) ∈ aTB := aTB_of (wi_5 _ (List.mem_of_getElem? (i := 73) rfl)) rfl
theorem wm_X7_92 : Cond.methodLink RX7 92 yJ7_fill_53178 ∈ aTB := aTB_of (wi_5 _ (List.mem_of_getElem? (i := 74) rfl)) rfl
theorem wm_X7_101 : Cond.methodLink RX7 101 yX7_keptPushes ∈ aTB := aTB_of (wi_5 _ (List.mem_of_getElem? (i := 75) rfl)) rfl
theorem wi_X7_keptPushes : Cond.instanceMethod yX7_keptPushes ∈ aTB := aTB_of (wi_5 _ (List.mem_of_getElem? (i := 77) rfl)) rfl
theorem wc_X7_keptPushes : Cond.code yX7_keptPushes cX7_keptPushes 10 (some FieldType.int) ∈ aTB := aTB_of (wi_5 _ (List.mem_of_getElem? (i := 78) rfl)) rfl
theorem wm_X7_105 : Cond.methodLink RX7 105 arraycopyName ∈ aTB := aTB_of (wi_5 _ (List.mem_of_getElem? (i := 79) rfl)) rfl
theorem wm_X7_88 : Cond.methodLink RX7 88 yX7_nameLayer ∈ aTB := aTB_of (wi_5 _ (List.mem_of_getElem? (i := 80) rfl)) rfl
theorem wi_X7_nameLayer : Cond.instanceMethod yX7_nameLayer ∈ aTB := aTB_of (wi_5 _ (List.mem_of_getElem? (i := 82) rfl)) rfl
theorem wc_X7_nameLayer : Cond.code yX7_nameLayer cX7_nameLayer 3 none ∈ aTB := aTB_of (wi_5 _ (List.mem_of_getElem? (i := 83) rfl)) rfl
theorem wm_L_80 : Cond.methodLink RL 80 yX11_layer ∈ aTB := aTB_of (wi_5 _ (List.mem_of_getElem? (i := 84) rfl)) rfl
theorem wi_X11_layer : Cond.instanceMethod yX11_layer ∈ aTB := aTB_of (wi_5 _ (List.mem_of_getElem? (i := 85) rfl)) rfl
theorem ws_X11_layer : Cond.selects yX11_layer.cls yX11_layer yX11_layer ∈ aTB := aTB_of (wi_5 _ (List.mem_of_getElem? (i := 86) rfl)) rfl
theorem wc_X11_layer : Cond.code yX11_layer cX11_layer 2 (some FieldType.int) ∈ aTB := aTB_of (wi_5 _ (List.mem_of_getElem? (i := 87) rfl)) rfl
theorem wn_X11_234 : Cond.methodLinkNest RX11 234 yX10_isGood "SteeringHouse" ∈ lw_tbl := wi_5 _ (List.mem_of_getElem? (i := 88) rfl)
theorem wm_L_84 : Cond.methodLink RL 84 yX11_allowed ∈ aTB := aTB_of (wi_5 _ (List.mem_of_getElem? (i := 89) rfl)) rfl
theorem wi_X11_allowed : Cond.instanceMethod yX11_allowed ∈ aTB := aTB_of (wi_5 _ (List.mem_of_getElem? (i := 90) rfl)) rfl
theorem ws_X11_allowed : Cond.selects yX11_allowed.cls yX11_allowed yX11_allowed ∈ aTB := aTB_of (wi_5 _ (List.mem_of_getElem? (i := 91) rfl)) rfl
theorem wc_X11_allowed : Cond.code yX11_allowed cX11_allowed 2 (some FieldType.int) ∈ aTB := aTB_of (wi_5 _ (List.mem_of_getElem? (i := 92) rfl)) rfl
theorem wm_L_88 : Cond.methodLink RL 88 yX11_ticks ∈ aTB := aTB_of (wi_5 _ (List.mem_of_getElem? (i := 93) rfl)) rfl
theorem wi_X11_ticks : Cond.instanceMethod yX11_ticks ∈ aTB := aTB_of (wi_5 _ (List.mem_of_getElem? (i := 94) rfl)) rfl
theorem ws_X11_ticks : Cond.selects yX11_ticks.cls yX11_ticks yX11_ticks ∈ aTB := aTB_of (wi_5 _ (List.mem_of_getElem? (i := 95) rfl)) rfl
