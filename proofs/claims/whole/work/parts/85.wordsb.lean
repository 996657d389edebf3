/-! the law's words, the rest -/
set_option maxRecDepth 20000 in
theorem wl_21 : ∀ w ∈ wsL_law0_r21, w ∈ lw_tbl := by decide +kernel
set_option maxRecDepth 20000 in
theorem wl_22 : ∀ w ∈ wsL_law0_r22, w ∈ lw_tbl := by decide +kernel
set_option maxRecDepth 20000 in
theorem wl_23 : ∀ w ∈ wsL_law0_r23, w ∈ lw_tbl := by decide +kernel
set_option maxRecDepth 20000 in
theorem wl_24 : ∀ w ∈ wsL_law0_r24, w ∈ lw_tbl := by decide +kernel
set_option maxRecDepth 20000 in
theorem wl_25 : ∀ w ∈ wsL_law0_r25, w ∈ lw_tbl := by decide +kernel
set_option maxRecDepth 20000 in
theorem wl_26 : ∀ w ∈ wsL_law0_r26, w ∈ lw_tbl := by decide +kernel
set_option maxRecDepth 20000 in
theorem wl_27 : ∀ w ∈ wsL_law0_r27, w ∈ lw_tbl := by decide +kernel
set_option maxRecDepth 20000 in
theorem wl_28 : ∀ w ∈ wsL_law0_r28, w ∈ lw_tbl := by decide +kernel
set_option maxRecDepth 20000 in
theorem wl_29 : ∀ w ∈ wsL_law0_r29, w ∈ lw_tbl := by decide +kernel
set_option maxRecDepth 20000 in
theorem wl_30 : ∀ w ∈ wsL_law0_r30, w ∈ lw_tbl := by decide +kernel
set_option maxRecDepth 20000 in
theorem wl_31 : ∀ w ∈ wsL_law0_r31, w ∈ lw_tbl := by decide +kernel
set_option maxRecDepth 20000 in
theorem wl_32 : ∀ w ∈ wsL_law0_r32, w ∈ lw_tbl := by decide +kernel
set_option maxRecDepth 20000 in
theorem wl_33 : ∀ w ∈ wsL_law0_r33, w ∈ lw_tbl := by decide +kernel
set_option maxRecDepth 20000 in
theorem wl_34 : ∀ w ∈ wsL_law0_r34, w ∈ lw_tbl := by decide +kernel
set_option maxRecDepth 20000 in
theorem wl_35 : ∀ w ∈ wsL_law0_r35, w ∈ lw_tbl := by decide +kernel
set_option maxRecDepth 20000 in
theorem wl_36 : ∀ w ∈ wsL_law0_r36, w ∈ lw_tbl := by decide +kernel
set_option maxRecDepth 20000 in
theorem wl_37 : ∀ w ∈ wsL_law0_r37, w ∈ lw_tbl := by decide +kernel
set_option maxRecDepth 20000 in
theorem wl_38 : ∀ w ∈ wsL_law0_r38, w ∈ lw_tbl := by decide +kernel
set_option maxRecDepth 20000 in
theorem wl_39 : ∀ w ∈ wsL_law0_r39, w ∈ lw_tbl := by decide +kernel
set_option maxRecDepth 20000 in
theorem wl_40 : ∀ w ∈ wsL_law0_r40, w ∈ lw_tbl := by decide +kernel
set_option maxRecDepth 20000 in
theorem wlX_10 : ∀ w ∈ wsX100, w ∈ lw_tbl := by decide +kernel
set_option maxRecDepth 20000 in
theorem wlX_11 : ∀ w ∈ wsX110, w ∈ lw_tbl := by decide +kernel
set_option maxRecDepth 20000 in
theorem wlX_8 : ∀ w ∈ wsX80, w ∈ lw_tbl := by decide +kernel
set_option maxRecDepth 20000 in
theorem wlX_5 : ∀ w ∈ wsX50, w ∈ lw_tbl := by decide +kernel
set_option maxRecDepth 20000 in
theorem wlX_1 : ∀ w ∈ wsX10, w ∈ lw_tbl := by decide +kernel
set_option maxRecDepth 20000 in
theorem wlX_3 : ∀ w ∈ wsX30, w ∈ lw_tbl := by decide +kernel
set_option maxRecDepth 20000 in
theorem wlX_2 : ∀ w ∈ wsX20, w ∈ lw_tbl := by decide +kernel
set_option maxRecDepth 20000 in
theorem wlX_0 : ∀ w ∈ wsX00, w ∈ lw_tbl := by decide +kernel
set_option maxRecDepth 20000 in
theorem wlX_9 : ∀ w ∈ wsX90, w ∈ lw_tbl := by decide +kernel
set_option maxRecDepth 20000 in
theorem wlX_6 : ∀ w ∈ wsX60, w ∈ lw_tbl := by decide +kernel
set_option maxRecDepth 20000 in
theorem wlX_4 : ∀ w ∈ wsX40, w ∈ lw_tbl := by decide +kernel
set_option maxRecDepth 20000 in
theorem wlX_7 : ∀ w ∈ wsX70, w ∈ lw_tbl := by decide +kernel
set_option maxRecDepth 20000 in
theorem wl_x0 : ∀ w ∈ (vx_atS RX10 149 "java/lang/IndexOutOfBoundsException" ["java/lang/RuntimeException", "java/lang/Exception"]).filter goodWord, w ∈ lw_tbl := by decide +kernel
set_option maxRecDepth 20000 in
theorem wl_x1 : ∀ w ∈ (nx_at RX10 184 "java/util/NoSuchElementException" 13 nx_b "java/lang/RuntimeException").filter goodWord, w ∈ lw_tbl := by decide +kernel
theorem wl_law0 : ∀ w ∈ wsL_law0, w ∈ lw_tbl := fa_ap (fa_ap (fa_ap (fa_ap (fa_ap (fa_ap (fa_ap (fa_ap (fa_ap (fa_ap (fa_ap (fa_ap (fa_ap (fa_ap wl_1 (fa_ap wl_2 (fa_ap wl_3 (fa_ap wl_4 (fa_ap wl_5 (fa_ap wl_6 (fa_ap wl_7 (fa_ap wl_8 (fa_ap wl_9 (fa_ap wl_10 (fa_ap wl_11 (fa_ap wl_12 (fa_ap wl_13 (fa_ap wl_14 (fa_ap wl_15 (fa_ap wl_16 (fa_ap wl_17 (fa_ap wl_18 (fa_ap wl_19 (fa_ap wl_20 (fa_ap wl_21 (fa_ap wl_22 (fa_ap wl_23 (fa_ap wl_24 (fa_ap wl_25 (fa_ap wl_26 (fa_ap wl_27 (fa_ap wl_28 (fa_ap wl_29 (fa_ap wl_30 (fa_ap wl_31 (fa_ap wl_32 (fa_ap wl_33 (fa_ap wl_34 (fa_ap wl_35 (fa_ap wl_36 (fa_ap wl_37 (fa_ap wl_38 (fa_ap wl_39 wl_40))))))))))))))))))))))))))))))))))))))) wlX_10) wlX_11) wlX_8) wlX_5) wlX_1) wlX_3) wlX_2) wlX_0) wlX_9) wlX_6) wlX_4) wlX_7) (fun _ h => nomatch h)
theorem wl_law : ∀ w ∈ wsL_law, w ∈ lw_tbl := fa_ap (fa_ap wl_law0 wl_x0) wl_x1
