theorem hd_X10_knowFindings : yX10_knowFindings.cls = RX10 ∧ yX10_knowFindings.cls ≠ "java/lang/invoke/MethodHandle" ∧ yX10_knowFindings.cls ≠ "java/lang/invoke/VarHandle" ∧ (parseMethodDescriptor yX10_knowFindings.desc).map (fun d => d.parameters.length) = some 0 := by decide +kernel
theorem tX10_knowFindings_1 : Cond.fieldLink RX10 87 "WeatherTeller" "findingsKnown" "Z" ∈ wsX10_knowFindings := List.mem_of_getElem? (i := 1) rfl
theorem inX10_knowFindings_X10 : ∀ w ∈ u_ws RX10 TX10 13, w ∈ wsX10_knowFindings := fun _ h => List.mem_cons_of_mem _ (List.mem_append_left _ (List.mem_append_left _ (List.mem_append_left _ (List.mem_append_right _ h))))
theorem tX10_knowFindings_2 : Cond.fieldLink RX10 40 "WeatherTeller" "findings" "LWeatherTeller$Findings;" ∈ wsX10_knowFindings := List.mem_of_getElem? (i := 2) rfl
theorem tX10_knowFindings_3 : Cond.fieldLink RX10 70 "WeatherTeller" "rules" "LWeatherTeller$Rules;" ∈ wsX10_knowFindings := List.mem_of_getElem? (i := 3) rfl
theorem tX10_knowFindings_4 : Cond.fieldLink RX10 80 "WeatherTeller" "now" "LWeatherTeller$Table;" ∈ wsX10_knowFindings := List.mem_of_getElem? (i := 4) rfl
def f_X10_knowFindings (N : Nat)  (S : St) : Option (St) :=
  if (S.1 0 12) = 0 then
    bd (f_X2_find N S) fun S2 =>
    nm (puI S2 0 12 1) fun S3 =>
    some S3
  else
    some S
abbrev rmX10_knowFindings : Room := { frames := 5, cells := 0, slots := 0, locals := 117 }
set_option maxRecDepth 100000 in
set_option maxHeartbeats 4000000 in
theorem c_X10_knowFindings (l : Launch) (D : va_G) (cs : Nat → ClassId) (a : Nat → Nat) (q1 q2 : Nat) (N : Nat) (S : St) (Sz : St) (hf : f_X10_knowFindings N S = some Sz) : gMv l yX10_knowFindings wsX10_knowFindings rmX10_knowFindings D cs [.ref (a 0)] (ccells cs a q1 q2 S) (ccells cs a q1 q2 Sz) := by
  unfold f_X10_knowFindings at hf
  refine gE_v (cc := cX10_knowFindings) (maxL := 1) (by decide) rfl (Nat.le_of_ble_eq_true rfl) ?_
  intro p e s m args below meth c A Q hC hA hQ hM ls hl
  obtain ⟨hx, hb, hml, hown, hts⟩ := hC.1
  have hl : lv_has ls 1 [(0, .ref (a 0))] := hl
  refine lv_aload_n hx hb dX10_knowFindings_0 rfl (lv_at hl 0 rfl) ?_
  refine g_get hC hM inX10_knowFindings_X10 0 cE0 clX10 12 (by decide) tX10_knowFindings_1 TX10_12 cV0_12 dX10_knowFindings_1 ?_
  refine lv_if_ne (tgt := 27) hx hb dX10_knowFindings_4 (by decide) (fun c1 => ?_) (fun c1 => ?_)
  · replace hf := it_f c1 hf
    cases so_1 hf
    exact hQ _ _ _ _ _ _ dX10_knowFindings_27 hM (by decide) (by decide)
  · replace hf := it_t c1 hf
    refine lv_aload_n hx hb dX10_knowFindings_7 rfl (lv_at hl 0 rfl) ?_
    refine g_get hC hM inX10_knowFindings_X10 0 cE0 clX10 4 (by decide) tX10_knowFindings_2 TX10_4 cV0_4 dX10_knowFindings_8 ?_
    refine lv_aload_n hx hb dX10_knowFindings_11 rfl (lv_at hl 0 rfl) ?_
    refine g_get hC hM inX10_knowFindings_X10 0 cE0 clX10 8 (by decide) tX10_knowFindings_3 TX10_8 cV0_8 dX10_knowFindings_12 ?_
    refine lv_aload_n hx hb dX10_knowFindings_15 rfl (lv_at hl 0 rfl) ?_
    refine g_get hC hM inX10_knowFindings_X10 0 cE0 clX10 10 (by decide) tX10_knowFindings_4 TX10_10 cV0_10 dX10_knowFindings_16 ?_
    obtain ⟨S2, hc, hf⟩ := bd_s hf
    refine gV_v hC hM hA hl.1 [.ref (a 28), .ref (a 48)] [] (c_X2_find l D cs a q1 q2 N S S2 hc) gX10_knowFindings_X2_find rfl hd_X2_find ⟨by decide, by decide⟩ 8 2 clX2 rfl cE8 (Nat.le_of_ble_eq_true rfl) dX10_knowFindings_19 rfl ⟨by decide, by decide⟩ (fun H locs hM => ?_)
    refine lv_aload_n hx hb dX10_knowFindings_22 rfl (lv_at hl 0 rfl) ?_
    refine lv_iconst (v := 1) hx hb dX10_knowFindings_23 (by decide) ?_
    refine g_put hC hM inX10_knowFindings_X10 tyX10_ok nmX10 0 cE0 clX10 12 (by decide) tX10_knowFindings_1 TX10_12 tyX10_12 rfl rfl (by rw [cL0]; decide) cP0_12 dX10_knowFindings_24 (fun H locs hM => ?_)
    obtain ⟨S3, hf, hM⟩ := cnm hf hM
    cases so_1 hf
    exact hQ _ _ _ _ _ _ dX10_knowFindings_27 hM (by decide) (by decide)

theorem hd_X10_weightOf : yX10_weightOf.cls = RX10 ∧ yX10_weightOf.cls ≠ "java/lang/invoke/MethodHandle" ∧ yX10_weightOf.cls ≠ "java/lang/invoke/VarHandle" ∧ (parseMethodDescriptor yX10_weightOf.desc).map (fun d => d.parameters.length) = some 1 := by decide +kernel
theorem tX10_weightOf_1 : Cond.fieldLink RX10 40 "WeatherTeller" "findings" "LWeatherTeller$Findings;" ∈ wsX10_weightOf := List.mem_of_getElem? (i := 1) rfl
theorem inX10_weightOf_X10 : ∀ w ∈ u_ws RX10 TX10 13, w ∈ wsX10_weightOf := fun _ h => List.mem_cons_of_mem _ (List.mem_append_left _ (List.mem_append_left _ (List.mem_append_right _ h)))
theorem tX10_weightOf_2 : Cond.fieldLink RX10 158 "WeatherTeller$Findings" "tos" "[I" ∈ wsX10_weightOf := List.mem_of_getElem? (i := 2) rfl
theorem inX10_weightOf_X2 : ∀ w ∈ u_ws RX2 TX2 7, w ∈ wsX10_weightOf := fun _ h => List.mem_cons_of_mem _ (List.mem_append_left _ (List.mem_append_right _ h))
theorem tX10_weightOf_3 : Cond.fieldLink RX10 155 "WeatherTeller$Findings" "froms" "[I" ∈ wsX10_weightOf := List.mem_of_getElem? (i := 3) rfl
theorem tX10_weightOf_4 : Cond.fieldLink RX10 70 "WeatherTeller" "rules" "LWeatherTeller$Rules;" ∈ wsX10_weightOf := List.mem_of_getElem? (i := 4) rfl
theorem tX10_weightOf_5 : Cond.fieldLink RX10 250 "WeatherTeller$Rules" "grades" "[I" ∈ wsX10_weightOf := List.mem_of_getElem? (i := 5) rfl
theorem inX10_weightOf_X4 : ∀ w ∈ u_ws RX4 TX4 12, w ∈ wsX10_weightOf := fun _ h => List.mem_cons_of_mem _ (List.mem_append_right _ h)
theorem tX10_weightOf_6 : Cond.fieldLink RX10 152 "WeatherTeller$Findings" "bands" "[I" ∈ wsX10_weightOf := List.mem_of_getElem? (i := 6) rfl
theorem tX10_weightOf_7 : Cond.fieldLink RX10 161 "WeatherTeller$Findings" "places" "[I" ∈ wsX10_weightOf := List.mem_of_getElem? (i := 7) rfl
def f_X10_weightOf (N : Nat) (p0 : Int32) (S : St) : Option (Int32) :=
  ck p0 432 <|
  ck p0 432 <|
  nm (((S.1 11 p0.toNatClampNeg) - (S.1 10 p0.toNatClampNeg)) + 1) fun v3 =>
  ck p0 432 <|
  ck (S.1 9 p0.toNatClampNeg) 24 <|
  ck p0 432 <|
  bd (f_J6_bitCount_0f7a4 N (S.1 12 p0.toNatClampNeg)) fun v7 =>
  some (((S.1 36 (S.1 9 p0.toNatClampNeg).toNatClampNeg) * v7) * v3)
abbrev rmX10_weightOf : Room := { frames := 1, cells := 0, slots := 0, locals := 20 }
set_option maxRecDepth 100000 in
set_option maxHeartbeats 4000000 in
theorem c_X10_weightOf (l : Launch) (D : va_G) (cs : Nat → ClassId) (a : Nat → Nat) (q1 q2 : Nat) (N : Nat) (p0 : Int32) (S : St) (rz : Int32) (hf : f_X10_weightOf N p0 S = some rz) : gMi l yX10_weightOf wsX10_weightOf rmX10_weightOf D cs [.ref (a 0), .int p0] (ccells cs a q1 q2 S) rz (ccells cs a q1 q2 S) := by
  unfold f_X10_weightOf at hf
  refine gE_i (cc := cX10_weightOf) (maxL := 3) (by decide) rfl (Nat.le_of_ble_eq_true rfl) ?_
  intro p e s m args below meth c A Q hC hA hQ hM ls hl
  obtain ⟨hx, hb, hml, hown, hts⟩ := hC.1
  have hl : lv_has ls 3 [(0, .ref (a 0)), (1, .int p0)] := hl
  refine lv_aload_n hx hb dX10_weightOf_0 rfl (lv_at hl 0 rfl) ?_
  refine g_get hC hM inX10_weightOf_X10 0 cE0 clX10 4 (by decide) tX10_weightOf_1 TX10_4 cV0_4 dX10_weightOf_1 ?_
  refine g_get hC hM inX10_weightOf_X2 8 cE8 clX2 2 (by decide) tX10_weightOf_2 TX2_2 cV8_2 dX10_weightOf_4 ?_
  refine lv_iload_n hx hb dX10_weightOf_7 rfl (lv_at hl 1 rfl) ?_
  obtain ⟨h1, hf⟩ := ck_s hf
  refine g_iald hC hM 11 cE11 h1 dX10_weightOf_8 ?_
  refine lv_aload_n hx hb dX10_weightOf_9 rfl (lv_at hl 0 rfl) ?_
  refine g_get hC hM inX10_weightOf_X10 0 cE0 clX10 4 (by decide) tX10_weightOf_1 TX10_4 cV0_4 dX10_weightOf_10 ?_
  refine g_get hC hM inX10_weightOf_X2 8 cE8 clX2 1 (by decide) tX10_weightOf_3 TX2_1 cV8_1 dX10_weightOf_13 ?_
  refine lv_iload_n hx hb dX10_weightOf_16 rfl (lv_at hl 1 rfl) ?_
  obtain ⟨h2, hf⟩ := ck_s hf
  refine g_iald hC hM 10 cE10 h2 dX10_weightOf_17 ?_
  refine lv_isub hx hb dX10_weightOf_18 ?_
  refine lv_iconst (v := 1) hx hb dX10_weightOf_19 (by decide) ?_
  refine lv_iadd hx hb dX10_weightOf_20 ?_
  refine lv_topi (fun v3 ev3 => ?_)
  replace hf := nm_q ev3 hf
  refine lv_istore_n (lv' := [(2, .int v3), (0, .ref (a 0)), (1, .int p0)]) hx hb dX10_weightOf_21 rfl hl (by decide) rfl (fun ls hl => ?_)
  refine lv_aload_n hx hb dX10_weightOf_22 rfl (lv_at hl 1 rfl) ?_
  refine g_get hC hM inX10_weightOf_X10 0 cE0 clX10 8 (by decide) tX10_weightOf_4 TX10_8 cV0_8 dX10_weightOf_23 ?_
  refine g_get hC hM inX10_weightOf_X4 28 cE28 clX4 7 (by decide) tX10_weightOf_5 TX4_7 cV28_7 dX10_weightOf_26 ?_
  refine lv_aload_n hx hb dX10_weightOf_29 rfl (lv_at hl 1 rfl) ?_
  refine g_get hC hM inX10_weightOf_X10 0 cE0 clX10 4 (by decide) tX10_weightOf_1 TX10_4 cV0_4 dX10_weightOf_30 ?_
  refine g_get hC hM inX10_weightOf_X2 8 cE8 clX2 0 (by decide) tX10_weightOf_6 TX2_0 cV8_0 dX10_weightOf_33 ?_
  refine lv_iload_n hx hb dX10_weightOf_36 rfl (lv_at hl 2 rfl) ?_
  obtain ⟨h4, hf⟩ := ck_s hf
  refine g_iald hC hM 9 cE9 h4 dX10_weightOf_37 ?_
  obtain ⟨h5, hf⟩ := ck_s hf
  refine g_iald hC hM 36 cE36 h5 dX10_weightOf_38 ?_
  refine lv_aload_n hx hb dX10_weightOf_39 rfl (lv_at hl 1 rfl) ?_
  refine g_get hC hM inX10_weightOf_X10 0 cE0 clX10 4 (by decide) tX10_weightOf_1 TX10_4 cV0_4 dX10_weightOf_40 ?_
  refine g_get hC hM inX10_weightOf_X2 8 cE8 clX2 3 (by decide) tX10_weightOf_7 TX2_3 cV8_3 dX10_weightOf_43 ?_
  refine lv_iload_n hx hb dX10_weightOf_46 rfl (lv_at hl 2 rfl) ?_
  obtain ⟨h6, hf⟩ := ck_s hf
  refine g_iald hC hM 12 cE12 h6 dX10_weightOf_47 ?_
  obtain ⟨v7, hc, hf⟩ := bd_s hf
  refine gS_i hC hM hA hl.1 [.int (S.1 12 p0.toNatClampNeg)] [.int (S.1 36 (S.1 9 p0.toNatClampNeg).toNatClampNeg)] (c_J6_bitCount_0f7a4 l D cs (ccells cs a q1 q2 S) N (S.1 12 p0.toNatClampNeg) v7 hc) gX10_weightOf_J6_bitCount_0f7a4 rfl hd_J6_bitCount_0f7a4 ⟨by decide, by decide⟩ (Nat.le_of_ble_eq_true rfl) dX10_weightOf_48 rfl ⟨by decide, by decide⟩ (fun H locs hM => ?_)
  refine lv_imul hx hb dX10_weightOf_51 ?_
  refine lv_iload_n hx hb dX10_weightOf_52 rfl (lv_at hl 0 rfl) ?_
  refine lv_imul hx hb dX10_weightOf_53 ?_
  cases so_1 hf
  exact hQ _ _ _ _ _ _ dX10_weightOf_54 hM (by decide) (by decide)

theorem hd_X10_isWarning : yX10_isWarning.cls = RX10 ∧ yX10_isWarning.cls ≠ "java/lang/invoke/MethodHandle" ∧ yX10_isWarning.cls ≠ "java/lang/invoke/VarHandle" ∧ (parseMethodDescriptor yX10_isWarning.desc).map (fun d => d.parameters.length) = some 1 := by decide +kernel
theorem tX10_isWarning_1 : Cond.fieldLink RX10 70 "WeatherTeller" "rules" "LWeatherTeller$Rules;" ∈ wsX10_isWarning := List.mem_of_getElem? (i := 1) rfl
theorem inX10_isWarning_X10 : ∀ w ∈ u_ws RX10 TX10 13, w ∈ wsX10_isWarning := fun _ h => List.mem_cons_of_mem _ (List.mem_append_left _ (List.mem_append_left _ (List.mem_append_right _ h)))
theorem tX10_isWarning_2 : Cond.fieldLink RX10 258 "WeatherTeller$Rules" "warnings" "[Z" ∈ wsX10_isWarning := List.mem_of_getElem? (i := 2) rfl
theorem inX10_isWarning_X4 : ∀ w ∈ u_ws RX4 TX4 12, w ∈ wsX10_isWarning := fun _ h => List.mem_cons_of_mem _ (List.mem_append_left _ (List.mem_append_right _ h))
theorem tX10_isWarning_3 : Cond.fieldLink RX10 40 "WeatherTeller" "findings" "LWeatherTeller$Findings;" ∈ wsX10_isWarning := List.mem_of_getElem? (i := 3) rfl
theorem tX10_isWarning_4 : Cond.fieldLink RX10 152 "WeatherTeller$Findings" "bands" "[I" ∈ wsX10_isWarning := List.mem_of_getElem? (i := 4) rfl
theorem inX10_isWarning_X2 : ∀ w ∈ u_ws RX2 TX2 7, w ∈ wsX10_isWarning := fun _ h => List.mem_cons_of_mem _ (List.mem_append_right _ h)
def f_X10_isWarning (N : Nat) (p0 : Int32) (S : St) : Option (Int32) :=
  z1 <|
  ck p0 432 <|
  ck (S.1 9 p0.toNatClampNeg) 24 <|
  some (S.1 37 (S.1 9 p0.toNatClampNeg).toNatClampNeg)
abbrev rmX10_isWarning : Room := { frames := 0, cells := 0, slots := 0, locals := 0 }
set_option maxRecDepth 100000 in
set_option maxHeartbeats 4000000 in
theorem c_X10_isWarning (l : Launch) (D : va_G) (cs : Nat → ClassId) (a : Nat → Nat) (q1 q2 : Nat) (N : Nat) (p0 : Int32) (S : St) (rz : Int32) (hf : f_X10_isWarning N p0 S = some rz) : gMi l yX10_isWarning wsX10_isWarning rmX10_isWarning D cs [.ref (a 0), .int p0] (ccells cs a q1 q2 S) rz (ccells cs a q1 q2 S) := by
  unfold f_X10_isWarning at hf
  obtain ⟨hrz, hf⟩ := z1_s hf
  refine gE_z (cc := cX10_isWarning) (maxL := 2) hrz (by decide) rfl (Nat.le_of_ble_eq_true rfl) ?_
  intro p e s m args below meth c A Q hC hA hQ hM ls hl
  obtain ⟨hx, hb, hml, hown, hts⟩ := hC.1
  have hl : lv_has ls 2 [(0, .ref (a 0)), (1, .int p0)] := hl
  refine lv_aload_n hx hb dX10_isWarning_0 rfl (lv_at hl 0 rfl) ?_
  refine g_get hC hM inX10_isWarning_X10 0 cE0 clX10 8 (by decide) tX10_isWarning_1 TX10_8 cV0_8 dX10_isWarning_1 ?_
  refine g_get hC hM inX10_isWarning_X4 28 cE28 clX4 8 (by decide) tX10_isWarning_2 TX4_8 cV28_8 dX10_isWarning_4 ?_
  refine lv_aload_n hx hb dX10_isWarning_7 rfl (lv_at hl 0 rfl) ?_
  refine g_get hC hM inX10_isWarning_X10 0 cE0 clX10 4 (by decide) tX10_isWarning_3 TX10_4 cV0_4 dX10_isWarning_8 ?_
  refine g_get hC hM inX10_isWarning_X2 8 cE8 clX2 0 (by decide) tX10_isWarning_4 TX2_0 cV8_0 dX10_isWarning_11 ?_
  refine lv_iload_n hx hb dX10_isWarning_14 rfl (lv_at hl 1 rfl) ?_
  obtain ⟨h1, hf⟩ := ck_s hf
  refine g_iald hC hM 9 cE9 h1 dX10_isWarning_15 ?_
  obtain ⟨h2, hf⟩ := ck_s hf
  refine g_zald hC hM 37 cE37 h2 dX10_isWarning_16 ?_
  cases so_1 hf
  exact hQ _ _ _ _ _ _ dX10_isWarning_17 hM (by decide) (by decide)

theorem hd_X10_warningsFound : yX10_warningsFound.cls = RX10 ∧ yX10_warningsFound.cls ≠ "java/lang/invoke/MethodHandle" ∧ yX10_warningsFound.cls ≠ "java/lang/invoke/VarHandle" ∧ (parseMethodDescriptor yX10_warningsFound.desc).map (fun d => d.parameters.length) = some 0 := by decide +kernel
theorem tX10_warningsFound_1 : Cond.fieldLink RX10 40 "WeatherTeller" "findings" "LWeatherTeller$Findings;" ∈ wsX10_warningsFound := List.mem_of_getElem? (i := 1) rfl
theorem inX10_warningsFound_X10 : ∀ w ∈ u_ws RX10 TX10 13, w ∈ wsX10_warningsFound := fun _ h => List.mem_cons_of_mem _ (List.mem_append_left _ (List.mem_append_left _ (List.mem_append_right _ h)))
theorem tX10_warningsFound_2 : Cond.fieldLink RX10 142 "WeatherTeller$Findings" "size" "I" ∈ wsX10_warningsFound := List.mem_of_getElem? (i := 2) rfl
theorem inX10_warningsFound_X2 : ∀ w ∈ u_ws RX2 TX2 7, w ∈ wsX10_warningsFound := fun _ h => List.mem_cons_of_mem _ (List.mem_append_left _ (List.mem_append_right _ h))
def j_X10_warningsFound_26 (v2 : Int32) (k4 : Int32 → Int32 → Option (Int32)) (v5 : Int32) : Option (Int32) :=
  nm (v2 + 1) fun v6 =>
  k4 v5 v6
def b_X10_warningsFound_4 (N : Nat) (S : St) (k4 : Int32 → Int32 → Option (Int32)) (v1 : Int32) (v2 : Int32) : Option (Int32) :=
  if (S.1 8 4) ≤ v2 then
    some v1
  else
    bd (f_X10_isWarning N v2 S) fun v4 =>
    jp (j_X10_warningsFound_26 v2 k4) fun k26 =>
    if v4 = 0 then
      k26 v1
    else
      nm (v1 + 1) fun v8 =>
      k26 v8
def f_X10_warningsFound (N : Nat)  (S : St) : Option (Int32) :=
  jp (lp (fun _ _ => none) (b_X10_warningsFound_4 N S) N) fun k4 =>
  k4 0 0
abbrev rmX10_warningsFound : Room := { frames := 1, cells := 0, slots := 0, locals := 21 }
set_option maxRecDepth 100000 in
set_option maxHeartbeats 4000000 in
theorem c_X10_warningsFound (l : Launch) (D : va_G) (cs : Nat → ClassId) (a : Nat → Nat) (q1 q2 : Nat) (N : Nat) (S : St) (rz : Int32) (hf : f_X10_warningsFound N S = some rz) : gMi l yX10_warningsFound wsX10_warningsFound rmX10_warningsFound D cs [.ref (a 0)] (ccells cs a q1 q2 S) rz (ccells cs a q1 q2 S) := by
  unfold f_X10_warningsFound at hf
  refine gE_i (cc := cX10_warningsFound) (maxL := 3) (by decide) rfl (Nat.le_of_ble_eq_true rfl) ?_
  intro p e s m args below meth c A Q hC hA hQ hM ls hl
  obtain ⟨hx, hb, hml, hown, hts⟩ := hC.1
  have hl : lv_has ls 3 [(0, .ref (a 0))] := hl
  refine lv_iconst (v := 0) hx hb dX10_warningsFound_0 (by decide) ?_
  refine lv_istore_n (lv' := [(1, .int 0), (0, .ref (a 0))]) hx hb dX10_warningsFound_1 rfl hl (by decide) rfl (fun ls hl => ?_)
  refine lv_iconst (v := 0) hx hb dX10_warningsFound_2 (by decide) ?_
  refine lv_istore_n (lv' := [(2, .int 0), (1, .int 0), (0, .ref (a 0))]) hx hb dX10_warningsFound_3 rfl hl (by decide) rfl (fun ls hl => ?_)
  refine jl_W (fun k4 : Int32 → Int32 → Option (Int32) => ∀ (v1 : Int32) (v2 : Int32), k4 v1 v2 = some rz → ∀ (H : Heap) (locs : List Loc) (ls : Array Slot), gw D A s.heap H locs (ccells cs a q1 q2 S) → lv_has ls 3 [(0, .ref (a 0)), (1, .int v1), (2, .int v2)] → W p l e rmX10_warningsFound s m args below meth c H locs 0 0 Q (F0 m 4 ls [])) ?_ ?_ ?_ hf
  · intro v1 v2 h; cases h
  · intro k4 hk4 v1 v2 hf H locs ls hM hl
    unfold b_X10_warningsFound_4 at hf
    refine lv_iload_n hx hb dX10_warningsFound_4 rfl (lv_at hl 2 rfl) ?_
    refine lv_aload_n hx hb dX10_warningsFound_5 rfl (lv_at hl 0 rfl) ?_
    refine g_get hC hM inX10_warningsFound_X10 0 cE0 clX10 4 (by decide) tX10_warningsFound_1 TX10_4 cV0_4 dX10_warningsFound_6 ?_
    refine g_get hC hM inX10_warningsFound_X2 8 cE8 clX2 4 (by decide) tX10_warningsFound_2 TX2_4 cV8_4 dX10_warningsFound_9 ?_
    refine lv_icmp_ge (tgt := 32) hx hb dX10_warningsFound_12 (by decide) (fun c3 => ?_) (fun c3 => ?_)
    · replace hf := it_t c3 hf
      refine lv_iload_n hx hb dX10_warningsFound_32 rfl (lv_at hl 1 rfl) ?_
      cases so_1 hf
      exact hQ _ _ _ _ _ _ dX10_warningsFound_33 hM (by decide) (by decide)
    · replace hf := it_f c3 hf
      refine lv_aload_n hx hb dX10_warningsFound_15 rfl (lv_at hl 0 rfl) ?_
      refine lv_iload_n hx hb dX10_warningsFound_16 rfl (lv_at hl 2 rfl) ?_
      obtain ⟨v4, hc, hf⟩ := bd_s hf
      refine gV_i hC hM hA hl.1 [.int v2] [] (c_X10_isWarning l D cs a q1 q2 N v2 S v4 hc) gX10_warningsFound_X10_isWarning rfl hd_X10_isWarning ⟨by decide, by decide⟩ 0 10 clX10 rfl cE0 (Nat.le_of_ble_eq_true rfl) dX10_warningsFound_17 rfl ⟨by decide, by decide⟩ (fun H locs hM => ?_)
      refine jp_W (fun k26 : Int32 → Option (Int32) => ∀ (v5 : Int32), k26 v5 = some rz → ∀ (H : Heap) (locs : List Loc) (ls : Array Slot), gw D A s.heap H locs (ccells cs a q1 q2 S) → lv_has ls 3 [(0, .ref (a 0)), (1, .int v5), (2, .int v2)] → W p l e rmX10_warningsFound s m args below meth c H locs 0 0 Q (F0 m 26 ls [])) ?_ ?_ hf
      · intro v5 hf H locs ls hM hl
        unfold j_X10_warningsFound_26 at hf
        obtain ⟨v6, ev6⟩ : ∃ y : Int32, y = v2 + 1 := ⟨_, rfl⟩
        replace hf := nm_q ev6 hf
        refine lv_iinc (v := v6) (lv' := [(2, .int v6), (0, .ref (a 0)), (1, .int v5)]) hx hb dX10_warningsFound_26 hl (k := 2) rfl (by rw [ev6]; rfl) (by decide) rfl (fun ls hl => ?_)
        refine lv_goto (tgt := 4) hx hb dX10_warningsFound_29 (by decide) ?_
        exact hk4 _ _ hf _ _ _ hM (lv_sub hl [1, 2, 0] rfl)
      · intro k26 hk26 hf
        refine lv_if_eq (tgt := 26) hx hb dX10_warningsFound_20 (by decide) (fun c7 => ?_) (fun c7 => ?_)
        · replace hf := it_t c7 hf
          exact hk26 _ hf _ _ _ hM hl
        · replace hf := it_f c7 hf
          obtain ⟨v8, ev8⟩ : ∃ y : Int32, y = v1 + 1 := ⟨_, rfl⟩
          replace hf := nm_q ev8 hf
          refine lv_iinc (v := v8) (lv' := [(1, .int v8), (0, .ref (a 0)), (2, .int v2)]) hx hb dX10_warningsFound_23 hl (k := 1) rfl (by rw [ev8]; rfl) (by decide) rfl (fun ls hl => ?_)
          exact hk26 _ hf _ _ _ hM (lv_sub hl [1, 0, 2] rfl)
  · intro k4 hk4 hf
    exact hk4 _ _ hf _ _ _ hM (lv_sub hl [2, 1, 0] rfl)

theorem hd_X10_goesAhead : yX10_goesAhead.cls = RX10 ∧ yX10_goesAhead.cls ≠ "java/lang/invoke/MethodHandle" ∧ yX10_goesAhead.cls ≠ "java/lang/invoke/VarHandle" ∧ (parseMethodDescriptor yX10_goesAhead.desc).map (fun d => d.parameters.length) = some 2 := by decide +kernel
theorem tX10_goesAhead_1 : Cond.fieldLink RX10 40 "WeatherTeller" "findings" "LWeatherTeller$Findings;" ∈ wsX10_goesAhead := List.mem_of_getElem? (i := 1) rfl
theorem inX10_goesAhead_X10 : ∀ w ∈ u_ws RX10 TX10 13, w ∈ wsX10_goesAhead := fun _ h => List.mem_cons_of_mem _ (List.mem_append_left _ (List.mem_append_left _ (List.mem_append_right _ h)))
theorem tX10_goesAhead_2 : Cond.fieldLink RX10 155 "WeatherTeller$Findings" "froms" "[I" ∈ wsX10_goesAhead := List.mem_of_getElem? (i := 2) rfl
theorem inX10_goesAhead_X2 : ∀ w ∈ u_ws RX2 TX2 7, w ∈ wsX10_goesAhead := fun _ h => List.mem_cons_of_mem _ (List.mem_append_left _ (List.mem_append_right _ h))
def f_X10_goesAhead (N : Nat) (p0 : Int32) (p1 : Int32) (S : St) : Option (Int32) :=
  z1 <|
  bd (f_X10_weightOf N p0 S) fun v1 =>
  bd (f_X10_weightOf N p1 S) fun v2 =>
  if v1 = v2 then
    ck p0 432 <|
    ck p1 432 <|
    if (S.1 10 p1.toNatClampNeg) ≤ (S.1 10 p0.toNatClampNeg) then
      some 0
    else
      some 1
  else
    if v1 ≤ v2 then
      some 0
    else
      some 1
abbrev rmX10_goesAhead : Room := { frames := 2, cells := 0, slots := 0, locals := 42 }
set_option maxRecDepth 100000 in
set_option maxHeartbeats 4000000 in
theorem c_X10_goesAhead (l : Launch) (D : va_G) (cs : Nat → ClassId) (a : Nat → Nat) (q1 q2 : Nat) (N : Nat) (p0 : Int32) (p1 : Int32) (S : St) (rz : Int32) (hf : f_X10_goesAhead N p0 p1 S = some rz) : gMi l yX10_goesAhead wsX10_goesAhead rmX10_goesAhead D cs [.ref (a 0), .int p0, .int p1] (ccells cs a q1 q2 S) rz (ccells cs a q1 q2 S) := by
  unfold f_X10_goesAhead at hf
  obtain ⟨hrz, hf⟩ := z1_s hf
  refine gE_z (cc := cX10_goesAhead) (maxL := 5) hrz (by decide) rfl (Nat.le_of_ble_eq_true rfl) ?_
  intro p e s m args below meth c A Q hC hA hQ hM ls hl
  obtain ⟨hx, hb, hml, hown, hts⟩ := hC.1
  have hl : lv_has ls 5 [(0, .ref (a 0)), (1, .int p0), (2, .int p1)] := hl
  refine lv_aload_n hx hb dX10_goesAhead_0 rfl (lv_at hl 0 rfl) ?_
  refine lv_iload_n hx hb dX10_goesAhead_1 rfl (lv_at hl 1 rfl) ?_
  obtain ⟨v1, hc, hf⟩ := bd_s hf
  refine gV_i hC hM hA hl.1 [.int p0] [] (c_X10_weightOf l D cs a q1 q2 N p0 S v1 hc) gX10_goesAhead_X10_weightOf rfl hd_X10_weightOf ⟨by decide, by decide⟩ 0 10 clX10 rfl cE0 (Nat.le_of_ble_eq_true rfl) dX10_goesAhead_2 rfl ⟨by decide, by decide⟩ (fun H locs hM => ?_)
  refine lv_istore_n (lv' := [(3, .int v1), (0, .ref (a 0)), (1, .int p0), (2, .int p1)]) hx hb dX10_goesAhead_5 rfl hl (by decide) rfl (fun ls hl => ?_)
  refine lv_aload_n hx hb dX10_goesAhead_6 rfl (lv_at hl 1 rfl) ?_
  refine lv_iload_n hx hb dX10_goesAhead_7 rfl (lv_at hl 3 rfl) ?_
  obtain ⟨v2, hc, hf⟩ := bd_s hf
  refine gV_i hC hM hA hl.1 [.int p1] [] (c_X10_weightOf l D cs a q1 q2 N p1 S v2 hc) gX10_goesAhead_X10_weightOf rfl hd_X10_weightOf ⟨by decide, by decide⟩ 0 10 clX10 rfl cE0 (Nat.le_of_ble_eq_true rfl) dX10_goesAhead_8 rfl ⟨by decide, by decide⟩ (fun H locs hM => ?_)
  refine lv_istore (lv' := [(4, .int v2), (3, .int v1), (0, .ref (a 0)), (1, .int p0), (2, .int p1)]) hx hb dX10_goesAhead_11 hl (by decide) rfl (fun ls hl => ?_)
  refine lv_iload_n hx hb dX10_goesAhead_13 rfl (lv_at hl 1 rfl) ?_
  refine lv_iload hx hb dX10_goesAhead_14 (lv_at hl 0 rfl) ?_
  refine lv_icmp_eq (tgt := 31) hx hb dX10_goesAhead_16 (by decide) (fun c3 => ?_) (fun c3 => ?_)
  · replace hf := it_t c3 hf
    refine lv_aload_n hx hb dX10_goesAhead_31 rfl (lv_at hl 2 rfl) ?_
    refine g_get hC hM inX10_goesAhead_X10 0 cE0 clX10 4 (by decide) tX10_goesAhead_1 TX10_4 cV0_4 dX10_goesAhead_32 ?_
    refine g_get hC hM inX10_goesAhead_X2 8 cE8 clX2 1 (by decide) tX10_goesAhead_2 TX2_1 cV8_1 dX10_goesAhead_35 ?_
    refine lv_iload_n hx hb dX10_goesAhead_38 rfl (lv_at hl 3 rfl) ?_
    obtain ⟨h4, hf⟩ := ck_s hf
    refine g_iald hC hM 10 cE10 h4 dX10_goesAhead_39 ?_
    refine lv_aload_n hx hb dX10_goesAhead_40 rfl (lv_at hl 2 rfl) ?_
    refine g_get hC hM inX10_goesAhead_X10 0 cE0 clX10 4 (by decide) tX10_goesAhead_1 TX10_4 cV0_4 dX10_goesAhead_41 ?_
    refine g_get hC hM inX10_goesAhead_X2 8 cE8 clX2 1 (by decide) tX10_goesAhead_2 TX2_1 cV8_1 dX10_goesAhead_44 ?_
    refine lv_iload_n hx hb dX10_goesAhead_47 rfl (lv_at hl 4 rfl) ?_
    obtain ⟨h5, hf⟩ := ck_s hf
    refine g_iald hC hM 10 cE10 h5 dX10_goesAhead_48 ?_
    refine lv_icmp_ge (tgt := 56) hx hb dX10_goesAhead_49 (by decide) (fun c6 => ?_) (fun c6 => ?_)
    · replace hf := it_t c6 hf
      refine lv_iconst (v := 0) hx hb dX10_goesAhead_56 (by decide) ?_
      cases so_1 hf
      exact hQ _ _ _ _ _ _ dX10_goesAhead_57 hM (by decide) (by decide)
    · replace hf := it_f c6 hf
      refine lv_iconst (v := 1) hx hb dX10_goesAhead_52 (by decide) ?_
      refine lv_goto (tgt := 57) hx hb dX10_goesAhead_53 (by decide) ?_
      cases so_1 hf
      exact hQ _ _ _ _ _ _ dX10_goesAhead_57 hM (by decide) (by decide)
  · replace hf := it_f c3 hf
    refine lv_iload_n hx hb dX10_goesAhead_19 rfl (lv_at hl 1 rfl) ?_
    refine lv_iload hx hb dX10_goesAhead_20 (lv_at hl 0 rfl) ?_
    refine lv_icmp_le (tgt := 29) hx hb dX10_goesAhead_22 (by decide) (fun c7 => ?_) (fun c7 => ?_)
    · replace hf := it_t c7 hf
      refine lv_iconst (v := 0) hx hb dX10_goesAhead_29 (by decide) ?_
      cases so_1 hf
      exact hQ _ _ _ _ _ _ dX10_goesAhead_30 hM (by decide) (by decide)
    · replace hf := it_f c7 hf
      refine lv_iconst (v := 1) hx hb dX10_goesAhead_25 (by decide) ?_
      refine lv_goto (tgt := 30) hx hb dX10_goesAhead_26 (by decide) ?_
      cases so_1 hf
      exact hQ _ _ _ _ _ _ dX10_goesAhead_30 hM (by decide) (by decide)

theorem hd_X10_takeChosen : yX10_takeChosen.cls = RX10 ∧ yX10_takeChosen.cls ≠ "java/lang/invoke/MethodHandle" ∧ yX10_takeChosen.cls ≠ "java/lang/invoke/VarHandle" ∧ (parseMethodDescriptor yX10_takeChosen.desc).map (fun d => d.parameters.length) = some 1 := by decide +kernel
theorem tX10_takeChosen_1 : Cond.fieldLink RX10 47 "WeatherTeller" "chooser" "LWeatherTeller$Chooser;" ∈ wsX10_takeChosen := List.mem_of_getElem? (i := 1) rfl
theorem inX10_takeChosen_X10 : ∀ w ∈ u_ws RX10 TX10 13, w ∈ wsX10_takeChosen := fun _ h => List.mem_cons_of_mem _ (List.mem_append_left _ (List.mem_append_left _ (List.mem_append_left _ (List.mem_append_left _ (List.mem_append_right _ h)))))
theorem tX10_takeChosen_2 : Cond.fieldLink RX10 301 "WeatherTeller$Chooser" "size" "I" ∈ wsX10_takeChosen := List.mem_of_getElem? (i := 2) rfl
theorem inX10_takeChosen_X0 : ∀ w ∈ u_ws RX0 TX0 7, w ∈ wsX10_takeChosen := fun _ h => List.mem_cons_of_mem _ (List.mem_append_left _ (List.mem_append_left _ (List.mem_append_left _ (List.mem_append_right _ h))))
theorem tX10_takeChosen_3 : Cond.fieldLink RX10 302 "WeatherTeller$Chooser" "chosen" "[Z" ∈ wsX10_takeChosen := List.mem_of_getElem? (i := 3) rfl
theorem tX10_takeChosen_4 : Cond.fieldLink RX10 305 "WeatherTeller$Chooser" "numbers" "[I" ∈ wsX10_takeChosen := List.mem_of_getElem? (i := 4) rfl
theorem tX10_takeChosen_5 : Cond.fieldLink RX10 54 "WeatherTeller" "text" "LWeatherTeller$Text;" ∈ wsX10_takeChosen := List.mem_of_getElem? (i := 5) rfl
theorem tX10_takeChosen_6 : Cond.fieldLink RX10 306 "WeatherTeller$Chooser" "weights" "[I" ∈ wsX10_takeChosen := List.mem_of_getElem? (i := 6) rfl
theorem tX10_takeChosen_7 : Cond.fieldLink RX10 193 "WeatherTeller$Text" "size" "I" ∈ wsX10_takeChosen := List.mem_of_getElem? (i := 7) rfl
theorem inX10_takeChosen_X9 : ∀ w ∈ u_ws RX9 TX9 4, w ∈ wsX10_takeChosen := fun _ h => List.mem_cons_of_mem _ (List.mem_append_left _ (List.mem_append_left _ (List.mem_append_right _ h)))
theorem tX10_takeChosen_8 : Cond.fieldLink RX10 209 "WeatherTeller$Text" "numbers" "[I" ∈ wsX10_takeChosen := List.mem_of_getElem? (i := 8) rfl
def j_X10_takeChosen_128 (v1 : Int32) (k2 : Int32 → St → Option (St)) (S5 : St) : Option (St) :=
  nm (v1 + 1) fun v6 =>
  k2 v6 S5
def j_X10_takeChosen_117 (k128 : St → Option (St)) (v9 : Int32) (v13 : Int32) (S14 : St) : Option (St) :=
  ck v13 432 <|
  nm (puI S14 23 v13.toNatClampNeg v9) fun S16 =>
  k128 S16
def b_X10_takeChosen_63 (N : Nat) (p0 : Int32) (v9 : Int32) (k117 : Int32 → St → Option (St)) (k63 : Int32 → St → Option (St)) (v17 : Int32) (S18 : St) : Option (St) :=
  if v17 ≤ p0 then
    k117 v17 S18
  else
    ck (v17 - 1) 432 <|
    bd (f_X10_goesAhead N v9 (S18.1 23 (v17 - 1).toNatClampNeg) S18) fun v21 =>
    if v21 = 0 then
      k117 v17 S18
    else
      ck (v17 - 1) 432 <|
      ck v17 432 <|
      nm (puI S18 23 v17.toNatClampNeg (S18.1 23 (v17 - 1).toNatClampNeg)) fun S25 =>
      nm (v17 + (-1)) fun v26 =>
      k63 v26 S25
def b_X10_takeChosen_2 (N : Nat) (p0 : Int32) (k2 : Int32 → St → Option (St)) (v1 : Int32) (S2 : St) : Option (St) :=
  if (S2.1 15 3) ≤ v1 then
    some S2
  else
    ck v1 432 <|
    jp (j_X10_takeChosen_128 v1 k2) fun k128 =>
    if (S2.1 18 v1.toNatClampNeg) = 0 then
      k128 S2
    else
      ck v1 432 <|
      nm (S2.1 16 v1.toNatClampNeg) fun v9 =>
      ck v1 432 <|
      bd (f_X9_append N v9 (S2.1 17 v1.toNatClampNeg) S2) fun S11 =>
      nm ((S11.1 22 2) - 1) fun v12 =>
      jp (j_X10_takeChosen_117 k128 v9) fun k117 =>
      jp (lp (fun _ _ => none) (b_X10_takeChosen_63 N p0 v9 k117) N) fun k63 =>
      k63 v12 S11
def f_X10_takeChosen (N : Nat) (p0 : Int32) (S : St) : Option (St) :=
  jp (lp (fun _ _ => none) (b_X10_takeChosen_2 N p0) N) fun k2 =>
  k2 0 S
abbrev rmX10_takeChosen : Room := { frames := 3, cells := 0, slots := 0, locals := 66 }
set_option maxRecDepth 100000 in
set_option maxHeartbeats 4000000 in
theorem c_X10_takeChosen (l : Launch) (D : va_G) (cs : Nat → ClassId) (a : Nat → Nat) (q1 q2 : Nat) (N : Nat) (p0 : Int32) (S : St) (Sz : St) (hf : f_X10_takeChosen N p0 S = some Sz) : gMv l yX10_takeChosen wsX10_takeChosen rmX10_takeChosen D cs [.ref (a 0), .int p0] (ccells cs a q1 q2 S) (ccells cs a q1 q2 Sz) := by
  unfold f_X10_takeChosen at hf
  refine gE_v (cc := cX10_takeChosen) (maxL := 5) (by decide) rfl (Nat.le_of_ble_eq_true rfl) ?_
  intro p e s m args below meth c A Q hC hA hQ hM ls hl
  obtain ⟨hx, hb, hml, hown, hts⟩ := hC.1
  have hl : lv_has ls 5 [(0, .ref (a 0)), (1, .int p0)] := hl
  refine lv_iconst (v := 0) hx hb dX10_takeChosen_0 (by decide) ?_
  refine lv_istore_n (lv' := [(2, .int 0), (0, .ref (a 0)), (1, .int p0)]) hx hb dX10_takeChosen_1 rfl hl (by decide) rfl (fun ls hl => ?_)
  refine jl_W (fun k2 : Int32 → St → Option (St) => ∀ (v1 : Int32) (S2 : St), k2 v1 S2 = some Sz → ∀ (H : Heap) (locs : List Loc) (ls : Array Slot), gw D A s.heap H locs (ccells cs a q1 q2 S2) → lv_has ls 5 [(0, .ref (a 0)), (1, .int p0), (2, .int v1)] → W p l e rmX10_takeChosen s m args below meth c H locs 0 0 Q (F0 m 2 ls [])) ?_ ?_ ?_ hf
  · intro v1 S2 h; cases h
  · intro k2 hk2 v1 S2 hf H locs ls hM hl
    unfold b_X10_takeChosen_2 at hf
    refine lv_iload_n hx hb dX10_takeChosen_2 rfl (lv_at hl 2 rfl) ?_
    refine lv_aload_n hx hb dX10_takeChosen_3 rfl (lv_at hl 0 rfl) ?_
    refine g_get hC hM inX10_takeChosen_X10 0 cE0 clX10 5 (by decide) tX10_takeChosen_1 TX10_5 cV0_5 dX10_takeChosen_4 ?_
    refine g_get hC hM inX10_takeChosen_X0 15 cE15 clX0 3 (by decide) tX10_takeChosen_2 TX0_3 cV15_3 dX10_takeChosen_7 ?_
    refine lv_icmp_ge (tgt := 134) hx hb dX10_takeChosen_10 (by decide) (fun c3 => ?_) (fun c3 => ?_)
    · replace hf := it_t c3 hf
      cases so_1 hf
      exact hQ _ _ _ _ _ _ dX10_takeChosen_134 hM (by decide) (by decide)
    · replace hf := it_f c3 hf
      refine lv_aload_n hx hb dX10_takeChosen_13 rfl (lv_at hl 0 rfl) ?_
      refine g_get hC hM inX10_takeChosen_X10 0 cE0 clX10 5 (by decide) tX10_takeChosen_1 TX10_5 cV0_5 dX10_takeChosen_14 ?_
      refine g_get hC hM inX10_takeChosen_X0 15 cE15 clX0 2 (by decide) tX10_takeChosen_3 TX0_2 cV15_2 dX10_takeChosen_17 ?_
      refine lv_iload_n hx hb dX10_takeChosen_20 rfl (lv_at hl 2 rfl) ?_
      obtain ⟨h4, hf⟩ := ck_s hf
      refine g_zald hC hM 18 cE18 h4 dX10_takeChosen_21 ?_
      refine jp_W (fun k128 : St → Option (St) => ∀ (S5 : St), k128 S5 = some Sz → ∀ (H : Heap) (locs : List Loc) (ls : Array Slot), gw D A s.heap H locs (ccells cs a q1 q2 S5) → lv_has ls 5 [(0, .ref (a 0)), (1, .int p0), (2, .int v1)] → W p l e rmX10_takeChosen s m args below meth c H locs 0 0 Q (F0 m 128 ls [])) ?_ ?_ hf
      · intro S5 hf H locs ls hM hl
        unfold j_X10_takeChosen_128 at hf
        obtain ⟨v6, ev6⟩ : ∃ y : Int32, y = v1 + 1 := ⟨_, rfl⟩
        replace hf := nm_q ev6 hf
        refine lv_iinc (v := v6) (lv' := [(2, .int v6), (0, .ref (a 0)), (1, .int p0)]) hx hb dX10_takeChosen_128 hl (k := 2) rfl (by rw [ev6]; rfl) (by decide) rfl (fun ls hl => ?_)
        refine lv_goto (tgt := 2) hx hb dX10_takeChosen_131 (by decide) ?_
        exact hk2 _ _ hf _ _ _ hM (lv_sub hl [1, 2, 0] rfl)
      · intro k128 hk128 hf
        refine lv_if_eq (tgt := 128) hx hb dX10_takeChosen_22 (by decide) (fun c7 => ?_) (fun c7 => ?_)
        · replace hf := it_t c7 hf
          exact hk128 _ hf _ _ _ hM hl
        · replace hf := it_f c7 hf
          refine lv_aload_n hx hb dX10_takeChosen_25 rfl (lv_at hl 0 rfl) ?_
          refine g_get hC hM inX10_takeChosen_X10 0 cE0 clX10 5 (by decide) tX10_takeChosen_1 TX10_5 cV0_5 dX10_takeChosen_26 ?_
          refine g_get hC hM inX10_takeChosen_X0 15 cE15 clX0 0 (by decide) tX10_takeChosen_4 TX0_0 cV15_0 dX10_takeChosen_29 ?_
          refine lv_iload_n hx hb dX10_takeChosen_32 rfl (lv_at hl 2 rfl) ?_
          obtain ⟨h8, hf⟩ := ck_s hf
          refine g_iald hC hM 16 cE16 h8 dX10_takeChosen_33 ?_
          refine lv_topi (fun v9 ev9 => ?_)
          replace hf := nm_q ev9 hf
          refine lv_istore_n (lv' := [(3, .int v9), (0, .ref (a 0)), (1, .int p0), (2, .int v1)]) hx hb dX10_takeChosen_34 rfl hl (by decide) rfl (fun ls hl => ?_)
          refine lv_aload_n hx hb dX10_takeChosen_35 rfl (lv_at hl 1 rfl) ?_
          refine g_get hC hM inX10_takeChosen_X10 0 cE0 clX10 6 (by decide) tX10_takeChosen_5 TX10_6 cV0_6 dX10_takeChosen_36 ?_
          refine lv_iload_n hx hb dX10_takeChosen_39 rfl (lv_at hl 0 rfl) ?_
          refine lv_aload_n hx hb dX10_takeChosen_40 rfl (lv_at hl 1 rfl) ?_
          refine g_get hC hM inX10_takeChosen_X10 0 cE0 clX10 5 (by decide) tX10_takeChosen_1 TX10_5 cV0_5 dX10_takeChosen_41 ?_
          refine g_get hC hM inX10_takeChosen_X0 15 cE15 clX0 1 (by decide) tX10_takeChosen_6 TX0_1 cV15_1 dX10_takeChosen_44 ?_
          refine lv_iload_n hx hb dX10_takeChosen_47 rfl (lv_at hl 3 rfl) ?_
          obtain ⟨h10, hf⟩ := ck_s hf
          refine g_iald hC hM 17 cE17 h10 dX10_takeChosen_48 ?_
          obtain ⟨S11, hc, hf⟩ := bd_s hf
          refine gV_v hC hM hA hl.1 [.int v9, .int (S2.1 17 v1.toNatClampNeg)] [] (c_X9_append l D cs a q1 q2 N v9 (S2.1 17 v1.toNatClampNeg) S2 S11 hc) gX10_takeChosen_X9_append rfl hd_X9_append ⟨by decide, by decide⟩ 22 9 clX9 rfl cE22 (Nat.le_of_ble_eq_true rfl) dX10_takeChosen_49 rfl ⟨by decide, by decide⟩ (fun H locs hM => ?_)
          refine lv_aload_n hx hb dX10_takeChosen_52 rfl (lv_at hl 1 rfl) ?_
          refine g_get hC hM inX10_takeChosen_X10 0 cE0 clX10 6 (by decide) tX10_takeChosen_5 TX10_6 cV0_6 dX10_takeChosen_53 ?_
          refine g_get hC hM inX10_takeChosen_X9 22 cE22 clX9 2 (by decide) tX10_takeChosen_7 TX9_2 cV22_2 dX10_takeChosen_56 ?_
          refine lv_iconst (v := 1) hx hb dX10_takeChosen_59 (by decide) ?_
          refine lv_isub hx hb dX10_takeChosen_60 ?_
          refine lv_topi (fun v12 ev12 => ?_)
          replace hf := nm_q ev12 hf
          refine lv_istore (lv' := [(4, .int v12), (3, .int v9), (0, .ref (a 0)), (1, .int p0), (2, .int v1)]) hx hb dX10_takeChosen_61 hl (by decide) rfl (fun ls hl => ?_)
          refine jp_W (fun k117 : Int32 → St → Option (St) => ∀ (v13 : Int32) (S14 : St), k117 v13 S14 = some Sz → ∀ (H : Heap) (locs : List Loc) (ls : Array Slot), gw D A s.heap H locs (ccells cs a q1 q2 S14) → lv_has ls 5 [(0, .ref (a 0)), (1, .int p0), (2, .int v1), (3, .int v9), (4, .int v13)] → W p l e rmX10_takeChosen s m args below meth c H locs 0 0 Q (F0 m 117 ls [])) ?_ ?_ hf
          · intro v13 S14 hf H locs ls hM hl
            unfold j_X10_takeChosen_117 at hf
            refine lv_aload_n hx hb dX10_takeChosen_117 rfl (lv_at hl 0 rfl) ?_
            refine g_get hC hM inX10_takeChosen_X10 0 cE0 clX10 6 (by decide) tX10_takeChosen_5 TX10_6 cV0_6 dX10_takeChosen_118 ?_
            refine g_get hC hM inX10_takeChosen_X9 22 cE22 clX9 0 (by decide) tX10_takeChosen_8 TX9_0 cV22_0 dX10_takeChosen_121 ?_
            refine lv_iload hx hb dX10_takeChosen_124 (lv_at hl 4 rfl) ?_
            refine lv_iload_n hx hb dX10_takeChosen_126 rfl (lv_at hl 3 rfl) ?_
            obtain ⟨h15, hf⟩ := ck_s hf
            refine g_iast hC hM 23 cE23 h15 cA23 dX10_takeChosen_127 (fun H locs hM => ?_)
            obtain ⟨S16, hf, hM⟩ := cnm hf hM
            exact hk128 _ hf _ _ _ hM (lv_sub hl [0, 1, 2] rfl)
          · intro k117 hk117 hf
            refine jl_W (fun k63 : Int32 → St → Option (St) => ∀ (v17 : Int32) (S18 : St), k63 v17 S18 = some Sz → ∀ (H : Heap) (locs : List Loc) (ls : Array Slot), gw D A s.heap H locs (ccells cs a q1 q2 S18) → lv_has ls 5 [(0, .ref (a 0)), (1, .int p0), (2, .int v1), (3, .int v9), (4, .int v17)] → W p l e rmX10_takeChosen s m args below meth c H locs 0 0 Q (F0 m 63 ls [])) ?_ ?_ ?_ hf
            · intro v17 S18 h; cases h
            · intro k63 hk63 v17 S18 hf H locs ls hM hl
              unfold b_X10_takeChosen_63 at hf
              refine lv_iload hx hb dX10_takeChosen_63 (lv_at hl 4 rfl) ?_
              refine lv_iload_n hx hb dX10_takeChosen_65 rfl (lv_at hl 1 rfl) ?_
              refine lv_icmp_le (tgt := 117) hx hb dX10_takeChosen_66 (by decide) (fun c19 => ?_) (fun c19 => ?_)
              · replace hf := it_t c19 hf
                exact hk117 _ _ hf _ _ _ hM hl
              · replace hf := it_f c19 hf
                refine lv_aload_n hx hb dX10_takeChosen_69 rfl (lv_at hl 0 rfl) ?_
                refine lv_iload_n hx hb dX10_takeChosen_70 rfl (lv_at hl 3 rfl) ?_
                refine lv_aload_n hx hb dX10_takeChosen_71 rfl (lv_at hl 0 rfl) ?_
                refine g_get hC hM inX10_takeChosen_X10 0 cE0 clX10 6 (by decide) tX10_takeChosen_5 TX10_6 cV0_6 dX10_takeChosen_72 ?_
                refine g_get hC hM inX10_takeChosen_X9 22 cE22 clX9 0 (by decide) tX10_takeChosen_8 TX9_0 cV22_0 dX10_takeChosen_75 ?_
                refine lv_iload hx hb dX10_takeChosen_78 (lv_at hl 4 rfl) ?_
                refine lv_iconst (v := 1) hx hb dX10_takeChosen_80 (by decide) ?_
                refine lv_isub hx hb dX10_takeChosen_81 ?_
                obtain ⟨h20, hf⟩ := ck_s hf
                refine g_iald hC hM 23 cE23 h20 dX10_takeChosen_82 ?_
                obtain ⟨v21, hc, hf⟩ := bd_s hf
                refine gV_i hC hM hA hl.1 [.int v9, .int (S18.1 23 (v17 - 1).toNatClampNeg)] [] (c_X10_goesAhead l D cs a q1 q2 N v9 (S18.1 23 (v17 - 1).toNatClampNeg) S18 v21 hc) gX10_takeChosen_X10_goesAhead rfl hd_X10_goesAhead ⟨by decide, by decide⟩ 0 10 clX10 rfl cE0 (Nat.le_of_ble_eq_true rfl) dX10_takeChosen_83 rfl ⟨by decide, by decide⟩ (fun H locs hM => ?_)
                refine lv_if_eq (tgt := 117) hx hb dX10_takeChosen_86 (by decide) (fun c22 => ?_) (fun c22 => ?_)
                · replace hf := it_t c22 hf
                  exact hk117 _ _ hf _ _ _ hM hl
                · replace hf := it_f c22 hf
                  refine lv_aload_n hx hb dX10_takeChosen_89 rfl (lv_at hl 0 rfl) ?_
                  refine g_get hC hM inX10_takeChosen_X10 0 cE0 clX10 6 (by decide) tX10_takeChosen_5 TX10_6 cV0_6 dX10_takeChosen_90 ?_
                  refine g_get hC hM inX10_takeChosen_X9 22 cE22 clX9 0 (by decide) tX10_takeChosen_8 TX9_0 cV22_0 dX10_takeChosen_93 ?_
                  refine lv_iload hx hb dX10_takeChosen_96 (lv_at hl 4 rfl) ?_
                  refine lv_aload_n hx hb dX10_takeChosen_98 rfl (lv_at hl 0 rfl) ?_
                  refine g_get hC hM inX10_takeChosen_X10 0 cE0 clX10 6 (by decide) tX10_takeChosen_5 TX10_6 cV0_6 dX10_takeChosen_99 ?_
                  refine g_get hC hM inX10_takeChosen_X9 22 cE22 clX9 0 (by decide) tX10_takeChosen_8 TX9_0 cV22_0 dX10_takeChosen_102 ?_
                  refine lv_iload hx hb dX10_takeChosen_105 (lv_at hl 4 rfl) ?_
                  refine lv_iconst (v := 1) hx hb dX10_takeChosen_107 (by decide) ?_
                  refine lv_isub hx hb dX10_takeChosen_108 ?_
                  obtain ⟨h23, hf⟩ := ck_s hf
                  refine g_iald hC hM 23 cE23 h23 dX10_takeChosen_109 ?_
                  obtain ⟨h24, hf⟩ := ck_s hf
                  refine g_iast hC hM 23 cE23 h24 cA23 dX10_takeChosen_110 (fun H locs hM => ?_)
                  obtain ⟨S25, hf, hM⟩ := cnm hf hM
                  obtain ⟨v26, ev26⟩ : ∃ y : Int32, y = v17 + (-1) := ⟨_, rfl⟩
                  replace hf := nm_q ev26 hf
                  refine lv_iinc (v := v26) (lv' := [(4, .int v26), (0, .ref (a 0)), (1, .int p0), (2, .int v1), (3, .int v9)]) hx hb dX10_takeChosen_111 hl (k := 4) rfl (by rw [ev26]; rfl) (by decide) rfl (fun ls hl => ?_)
                  refine lv_goto (tgt := 63) hx hb dX10_takeChosen_114 (by decide) ?_
                  exact hk63 _ _ hf _ _ _ hM (lv_sub hl [1, 2, 3, 4, 0] rfl)
            · intro k63 hk63 hf
              exact hk63 _ _ hf _ _ _ hM (lv_sub hl [2, 3, 4, 1, 0] rfl)
  · intro k2 hk2 hf
    exact hk2 _ _ hf _ _ _ hM (lv_sub hl [1, 2, 0] rfl)

theorem hd_X10_differs : yX10_differs.cls = RX10 ∧ yX10_differs.cls ≠ "java/lang/invoke/MethodHandle" ∧ yX10_differs.cls ≠ "java/lang/invoke/VarHandle" ∧ (parseMethodDescriptor yX10_differs.desc).map (fun d => d.parameters.length) = some 3 := by decide +kernel
theorem tX10_differs_1 : Cond.fieldLink RX10 84 "WeatherTeller" "before" "LWeatherTeller$Table;" ∈ wsX10_differs := List.mem_of_getElem? (i := 1) rfl
theorem inX10_differs_X10 : ∀ w ∈ u_ws RX10 TX10 13, w ∈ wsX10_differs := fun _ h => List.mem_cons_of_mem _ (List.mem_append_left _ (List.mem_append_right _ h))
theorem tX10_differs_2 : Cond.fieldLink RX10 80 "WeatherTeller" "now" "LWeatherTeller$Table;" ∈ wsX10_differs := List.mem_of_getElem? (i := 2) rfl
def j_X10_differs_64 (v1 : Int32) (k3 : Int32 → Option (Int32))  : Option (Int32) :=
  nm (v1 + 1) fun v5 =>
  k3 v5
def b_X10_differs_3 (N : Nat) (p0 : Int32) (p1 : Int32) (p2 : Int32) (S : St) (k3 : Int32 → Option (Int32)) (v1 : Int32) : Option (Int32) :=
  if 24 ≤ v1 then
    some 0
  else
    bd (f_X7_at N 50 p0 p1 v1 S) fun v3 =>
    bd (f_X7_at N 48 p0 p1 v1 S) fun v4 =>
    jp (j_X10_differs_64 v1 k3) fun k64 =>
    if v3 = (-100) then
      k64
    else
      if v4 = (-100) then
        k64
      else
        if (if 0 ≤ (v3 - v4) then (v3 - v4) else 0 - (v3 - v4)) ≤ p2 then
          k64
        else
          some 1
def f_X10_differs (N : Nat) (p0 : Int32) (p1 : Int32) (p2 : Int32) (S : St) : Option (Int32) :=
  z1 <|
  jp (lp (fun _ => none) (b_X10_differs_3 N p0 p1 p2 S) N) fun k3 =>
  k3 0
abbrev rmX10_differs : Room := { frames := 3, cells := 0, slots := 0, locals := 68 }
set_option maxRecDepth 100000 in
set_option maxHeartbeats 4000000 in
theorem c_X10_differs (l : Launch) (D : va_G) (cs : Nat → ClassId) (a : Nat → Nat) (q1 q2 : Nat) (N : Nat) (p0 : Int32) (p1 : Int32) (p2 : Int32) (S : St) (rz : Int32) (hf : f_X10_differs N p0 p1 p2 S = some rz) : gMi l yX10_differs wsX10_differs rmX10_differs D cs [.ref (a 0), .int p0, .int p1, .int p2] (ccells cs a q1 q2 S) rz (ccells cs a q1 q2 S) := by
  unfold f_X10_differs at hf
  obtain ⟨hrz, hf⟩ := z1_s hf
  refine gE_z (cc := cX10_differs) (maxL := 7) hrz (by decide) rfl (Nat.le_of_ble_eq_true rfl) ?_
  intro p e s m args below meth c A Q hC hA hQ hM ls hl
  obtain ⟨hx, hb, hml, hown, hts⟩ := hC.1
  have hl : lv_has ls 7 [(0, .ref (a 0)), (1, .int p0), (2, .int p1), (3, .int p2)] := hl
  refine lv_iconst (v := 0) hx hb dX10_differs_0 (by decide) ?_
  refine lv_istore (lv' := [(4, .int 0), (0, .ref (a 0)), (1, .int p0), (2, .int p1), (3, .int p2)]) hx hb dX10_differs_1 hl (by decide) rfl (fun ls hl => ?_)
  refine jl_W (fun k3 : Int32 → Option (Int32) => ∀ (v1 : Int32), k3 v1 = some rz → ∀ (H : Heap) (locs : List Loc) (ls : Array Slot), gw D A s.heap H locs (ccells cs a q1 q2 S) → lv_has ls 7 [(0, .ref (a 0)), (1, .int p0), (2, .int p1), (3, .int p2), (4, .int v1)] → W p l e rmX10_differs s m args below meth c H locs 0 0 Q (F0 m 3 ls [])) ?_ ?_ ?_ hf
  · intro v1 h; cases h
  · intro k3 hk3 v1 hf H locs ls hM hl
    unfold b_X10_differs_3 at hf
    refine lv_iload hx hb dX10_differs_3 (lv_at hl 4 rfl) ?_
    refine lv_bipush (v := 24) hx hb dX10_differs_5 (by decide) ?_
    refine lv_icmp_ge (tgt := 70) hx hb dX10_differs_7 (by decide) (fun c2 => ?_) (fun c2 => ?_)
    · replace hf := it_t c2 hf
      refine lv_iconst (v := 0) hx hb dX10_differs_70 (by decide) ?_
      cases so_1 hf
      exact hQ _ _ _ _ _ _ dX10_differs_71 hM (by decide) (by decide)
    · replace hf := it_f c2 hf
      refine lv_aload_n hx hb dX10_differs_10 rfl (lv_at hl 0 rfl) ?_
      refine g_get hC hM inX10_differs_X10 0 cE0 clX10 11 (by decide) tX10_differs_1 TX10_11 cV0_11 dX10_differs_11 ?_
      refine lv_iload_n hx hb dX10_differs_14 rfl (lv_at hl 1 rfl) ?_
      refine lv_iload_n hx hb dX10_differs_15 rfl (lv_at hl 2 rfl) ?_
      refine lv_iload hx hb dX10_differs_16 (lv_at hl 4 rfl) ?_
      obtain ⟨v3, hc, hf⟩ := bd_s hf
      refine gV_i hC hM hA hl.1 [.int p0, .int p1, .int v1] [] (c_X7_at_50 l D cs a q1 q2 N p0 p1 v1 S v3 hc) gX10_differs_X7_at rfl hd_X7_at ⟨by decide, by decide⟩ 50 7 clX7 rfl cE50 (Nat.le_of_ble_eq_true rfl) dX10_differs_18 rfl ⟨by decide, by decide⟩ (fun H locs hM => ?_)
      refine lv_istore (lv' := [(5, .int v3), (0, .ref (a 0)), (1, .int p0), (2, .int p1), (3, .int p2), (4, .int v1)]) hx hb dX10_differs_21 hl (by decide) rfl (fun ls hl => ?_)
      refine lv_aload_n hx hb dX10_differs_23 rfl (lv_at hl 1 rfl) ?_
      refine g_get hC hM inX10_differs_X10 0 cE0 clX10 10 (by decide) tX10_differs_2 TX10_10 cV0_10 dX10_differs_24 ?_
      refine lv_iload_n hx hb dX10_differs_27 rfl (lv_at hl 2 rfl) ?_
      refine lv_iload_n hx hb dX10_differs_28 rfl (lv_at hl 3 rfl) ?_
      refine lv_iload hx hb dX10_differs_29 (lv_at hl 5 rfl) ?_
      obtain ⟨v4, hc, hf⟩ := bd_s hf
      refine gV_i hC hM hA hl.1 [.int p0, .int p1, .int v1] [] (c_X7_at_48 l D cs a q1 q2 N p0 p1 v1 S v4 hc) gX10_differs_X7_at rfl hd_X7_at ⟨by decide, by decide⟩ 48 7 clX7 rfl cE48 (Nat.le_of_ble_eq_true rfl) dX10_differs_31 rfl ⟨by decide, by decide⟩ (fun H locs hM => ?_)
      refine lv_istore (lv' := [(6, .int v4), (5, .int v3), (0, .ref (a 0)), (1, .int p0), (2, .int p1), (3, .int p2), (4, .int v1)]) hx hb dX10_differs_34 hl (by decide) rfl (fun ls hl => ?_)
      refine lv_iload hx hb dX10_differs_36 (lv_at hl 1 rfl) ?_
      refine lv_bipush (v := (-100)) hx hb dX10_differs_38 (by decide) ?_
      refine jp_W (fun k64 : Option (Int32) => k64 = some rz → ∀ (H : Heap) (locs : List Loc) (ls : Array Slot), gw D A s.heap H locs (ccells cs a q1 q2 S) → lv_has ls 7 [(0, .ref (a 0)), (1, .int p0), (2, .int p1), (3, .int p2), (4, .int v1)] → W p l e rmX10_differs s m args below meth c H locs 0 0 Q (F0 m 64 ls [])) ?_ ?_ hf
      · intro  hf H locs ls hM hl
        unfold j_X10_differs_64 at hf
        obtain ⟨v5, ev5⟩ : ∃ y : Int32, y = v1 + 1 := ⟨_, rfl⟩
        replace hf := nm_q ev5 hf
        refine lv_iinc (v := v5) (lv' := [(4, .int v5), (0, .ref (a 0)), (1, .int p0), (2, .int p1), (3, .int p2)]) hx hb dX10_differs_64 hl (k := 4) rfl (by rw [ev5]; rfl) (by decide) rfl (fun ls hl => ?_)
        refine lv_goto (tgt := 3) hx hb dX10_differs_67 (by decide) ?_
        exact hk3 _ hf _ _ _ hM (lv_sub hl [1, 2, 3, 4, 0] rfl)
      · intro k64 hk64 hf
        refine lv_icmp_eq (tgt := 64) hx hb dX10_differs_40 (by decide) (fun c6 => ?_) (fun c6 => ?_)
        · replace hf := it_t c6 hf
          exact hk64 hf _ _ _ hM (lv_sub hl [2, 3, 4, 5, 6] rfl)
        · replace hf := it_f c6 hf
          refine lv_iload hx hb dX10_differs_43 (lv_at hl 0 rfl) ?_
          refine lv_bipush (v := (-100)) hx hb dX10_differs_45 (by decide) ?_
          refine lv_icmp_eq (tgt := 64) hx hb dX10_differs_47 (by decide) (fun c7 => ?_) (fun c7 => ?_)
          · replace hf := it_t c7 hf
            exact hk64 hf _ _ _ hM (lv_sub hl [2, 3, 4, 5, 6] rfl)
          · replace hf := it_f c7 hf
            refine lv_iload hx hb dX10_differs_50 (lv_at hl 1 rfl) ?_
            refine lv_iload hx hb dX10_differs_52 (lv_at hl 0 rfl) ?_
            refine lv_isub hx hb dX10_differs_54 ?_
            refine va_mabs hx hb (by rw [hml]; exact hl.1.symm) hown (hts _ (List.mem_of_getElem? (i := 3) rfl)) (hts _ (List.mem_of_getElem? (i := 4) rfl)) (hts _ (List.mem_of_getElem? (i := 5) rfl)) (hts _ (List.mem_of_getElem? (i := 6) rfl)) (by decide) (Nat.le_of_ble_eq_true rfl) (by decide) (by decide) dX10_differs_55 ?_
            refine lv_iload_n hx hb dX10_differs_58 rfl (lv_at hl 5 rfl) ?_
            refine lv_icmp_le (tgt := 64) hx hb dX10_differs_59 (by decide) (fun c8 => ?_) (fun c8 => ?_)
            · replace hf := it_t c8 hf
              exact hk64 hf _ _ _ hM (lv_sub hl [2, 3, 4, 5, 6] rfl)
            · replace hf := it_f c8 hf
              refine lv_iconst (v := 1) hx hb dX10_differs_62 (by decide) ?_
              cases so_1 hf
              exact hQ _ _ _ _ _ _ dX10_differs_63 hM (by decide) (by decide)
  · intro k3 hk3 hf
    exact hk3 _ hf _ _ _ hM (lv_sub hl [1, 2, 3, 4, 0] rfl)

theorem hd_X10_feed : yX10_feed.cls = RX10 ∧ yX10_feed.cls ≠ "java/lang/invoke/MethodHandle" ∧ yX10_feed.cls ≠ "java/lang/invoke/VarHandle" ∧ (parseMethodDescriptor yX10_feed.desc).map (fun d => d.parameters.length) = some 5 := by decide +kernel
theorem tX10_feed_1 : Cond.fieldLink RX10 12 "WeatherTeller" "tape" "LWeatherTeller$Tape;" ∈ wsX10_feed := List.mem_of_getElem? (i := 1) rfl
theorem inX10_feed_X10 : ∀ w ∈ u_ws RX10 TX10 13, w ∈ wsX10_feed := fun _ h => List.mem_cons_of_mem _ (List.mem_append_left _ (List.mem_append_right _ h))
theorem tX10_feed_2 : Cond.fieldLink RX10 91 "WeatherTeller$Tape" "length" "I" ∈ wsX10_feed := List.mem_of_getElem? (i := 2) rfl
theorem inX10_feed_X8 : ∀ w ∈ u_ws RX8 TX8 4, w ∈ wsX10_feed := fun _ h => List.mem_cons_of_mem _ (List.mem_append_right _ h)
def f_X10_feed (N : Nat) (p0 : Int32) (p1 : Int32) (p2 : Int32) (p3 : Int32) (p4 : Int32) (S : St) : Option (Int32 × St) :=
  if ((S.1 1 1) + 20) ≤ 1000 then
    bd (f_X8_append N p0 S) fun S2 =>
    bd (f_X8_append N p1 S2) fun S3 =>
    bd (f_X8_append N p2 S3) fun S4 =>
    bd (f_X8_append N p3 S4) fun S5 =>
    bd (f_X8_append N p4 S5) fun S6 =>
    some ((S6.1 1 1), S6)
  else
    some ((-1), S)
abbrev rmX10_feed : Room := { frames := 1, cells := 0, slots := 0, locals := 22 }
set_option maxRecDepth 100000 in
set_option maxHeartbeats 4000000 in
theorem c_X10_feed (l : Launch) (D : va_G) (cs : Nat → ClassId) (a : Nat → Nat) (q1 q2 : Nat) (N : Nat) (p0 : Int32) (p1 : Int32) (p2 : Int32) (p3 : Int32) (p4 : Int32) (S : St) (rz : Int32) (Sz : St) (hf : f_X10_feed N p0 p1 p2 p3 p4 S = some (rz, Sz)) : gMi l yX10_feed wsX10_feed rmX10_feed D cs [.ref (a 0), .int p0, .int p1, .int p2, .int p3, .int p4] (ccells cs a q1 q2 S) rz (ccells cs a q1 q2 Sz) := by
  unfold f_X10_feed at hf
  refine gE_i (cc := cX10_feed) (maxL := 6) (by decide) rfl (Nat.le_of_ble_eq_true rfl) ?_
  intro p e s m args below meth c A Q hC hA hQ hM ls hl
  obtain ⟨hx, hb, hml, hown, hts⟩ := hC.1
  have hl : lv_has ls 6 [(0, .ref (a 0)), (1, .int p0), (2, .int p1), (3, .int p2), (4, .int p3), (5, .int p4)] := hl
  refine lv_aload_n hx hb dX10_feed_0 rfl (lv_at hl 0 rfl) ?_
  refine g_get hC hM inX10_feed_X10 0 cE0 clX10 0 (by decide) tX10_feed_1 TX10_0 cV0_0 dX10_feed_1 ?_
  refine g_get hC hM inX10_feed_X8 1 cE1 clX8 1 (by decide) tX10_feed_2 TX8_1 cV1_1 dX10_feed_4 ?_
  refine lv_bipush (v := 20) hx hb dX10_feed_7 (by decide) ?_
  refine lv_iadd hx hb dX10_feed_9 ?_
  refine lv_sipush (v := 1000) hx hb dX10_feed_10 (by decide) ?_
  refine lv_icmp_le (tgt := 18) hx hb dX10_feed_13 (by decide) (fun c1 => ?_) (fun c1 => ?_)
  · replace hf := it_t c1 hf
    refine lv_aload_n hx hb dX10_feed_18 rfl (lv_at hl 0 rfl) ?_
    refine g_get hC hM inX10_feed_X10 0 cE0 clX10 0 (by decide) tX10_feed_1 TX10_0 cV0_0 dX10_feed_19 ?_
    refine lv_iload_n hx hb dX10_feed_22 rfl (lv_at hl 1 rfl) ?_
    obtain ⟨S2, hc, hf⟩ := bd_s hf
    refine gV_v hC hM hA hl.1 [.int p0] [] (c_X8_append l D cs a q1 q2 N p0 S S2 hc) gX10_feed_X8_append rfl hd_X8_append ⟨by decide, by decide⟩ 1 8 clX8 rfl cE1 (Nat.le_of_ble_eq_true rfl) dX10_feed_23 rfl ⟨by decide, by decide⟩ (fun H locs hM => ?_)
    refine lv_aload_n hx hb dX10_feed_26 rfl (lv_at hl 0 rfl) ?_
    refine g_get hC hM inX10_feed_X10 0 cE0 clX10 0 (by decide) tX10_feed_1 TX10_0 cV0_0 dX10_feed_27 ?_
    refine lv_iload_n hx hb dX10_feed_30 rfl (lv_at hl 2 rfl) ?_
    obtain ⟨S3, hc, hf⟩ := bd_s hf
    refine gV_v hC hM hA hl.1 [.int p1] [] (c_X8_append l D cs a q1 q2 N p1 S2 S3 hc) gX10_feed_X8_append rfl hd_X8_append ⟨by decide, by decide⟩ 1 8 clX8 rfl cE1 (Nat.le_of_ble_eq_true rfl) dX10_feed_31 rfl ⟨by decide, by decide⟩ (fun H locs hM => ?_)
    refine lv_aload_n hx hb dX10_feed_34 rfl (lv_at hl 0 rfl) ?_
    refine g_get hC hM inX10_feed_X10 0 cE0 clX10 0 (by decide) tX10_feed_1 TX10_0 cV0_0 dX10_feed_35 ?_
    refine lv_iload_n hx hb dX10_feed_38 rfl (lv_at hl 3 rfl) ?_
    obtain ⟨S4, hc, hf⟩ := bd_s hf
    refine gV_v hC hM hA hl.1 [.int p2] [] (c_X8_append l D cs a q1 q2 N p2 S3 S4 hc) gX10_feed_X8_append rfl hd_X8_append ⟨by decide, by decide⟩ 1 8 clX8 rfl cE1 (Nat.le_of_ble_eq_true rfl) dX10_feed_39 rfl ⟨by decide, by decide⟩ (fun H locs hM => ?_)
    refine lv_aload_n hx hb dX10_feed_42 rfl (lv_at hl 0 rfl) ?_
    refine g_get hC hM inX10_feed_X10 0 cE0 clX10 0 (by decide) tX10_feed_1 TX10_0 cV0_0 dX10_feed_43 ?_
    refine lv_iload hx hb dX10_feed_46 (lv_at hl 4 rfl) ?_
    obtain ⟨S5, hc, hf⟩ := bd_s hf
    refine gV_v hC hM hA hl.1 [.int p3] [] (c_X8_append l D cs a q1 q2 N p3 S4 S5 hc) gX10_feed_X8_append rfl hd_X8_append ⟨by decide, by decide⟩ 1 8 clX8 rfl cE1 (Nat.le_of_ble_eq_true rfl) dX10_feed_48 rfl ⟨by decide, by decide⟩ (fun H locs hM => ?_)
    refine lv_aload_n hx hb dX10_feed_51 rfl (lv_at hl 0 rfl) ?_
    refine g_get hC hM inX10_feed_X10 0 cE0 clX10 0 (by decide) tX10_feed_1 TX10_0 cV0_0 dX10_feed_52 ?_
    refine lv_iload hx hb dX10_feed_55 (lv_at hl 5 rfl) ?_
    obtain ⟨S6, hc, hf⟩ := bd_s hf
    refine gV_v hC hM hA hl.1 [.int p4] [] (c_X8_append l D cs a q1 q2 N p4 S5 S6 hc) gX10_feed_X8_append rfl hd_X8_append ⟨by decide, by decide⟩ 1 8 clX8 rfl cE1 (Nat.le_of_ble_eq_true rfl) dX10_feed_57 rfl ⟨by decide, by decide⟩ (fun H locs hM => ?_)
    refine lv_aload_n hx hb dX10_feed_60 rfl (lv_at hl 0 rfl) ?_
    refine g_get hC hM inX10_feed_X10 0 cE0 clX10 0 (by decide) tX10_feed_1 TX10_0 cV0_0 dX10_feed_61 ?_
    refine g_get hC hM inX10_feed_X8 1 cE1 clX8 1 (by decide) tX10_feed_2 TX8_1 cV1_1 dX10_feed_64 ?_
    obtain ⟨e1, e2⟩ := so_2 hf
    cases e1; cases e2
    exact hQ _ _ _ _ _ _ dX10_feed_67 hM (by decide) (by decide)
  · replace hf := it_f c1 hf
    refine lv_iconst (v := (-1)) hx hb dX10_feed_16 (by decide) ?_
    obtain ⟨e1, e2⟩ := so_2 hf
    cases e1; cases e2
    exact hQ _ _ _ _ _ _ dX10_feed_17 hM (by decide) (by decide)

theorem hd_X10_fault : yX10_fault.cls = RX10 ∧ yX10_fault.cls ≠ "java/lang/invoke/MethodHandle" ∧ yX10_fault.cls ≠ "java/lang/invoke/VarHandle" ∧ (parseMethodDescriptor yX10_fault.desc).map (fun d => d.parameters.length) = some 1 := by decide +kernel
theorem tX10_fault_1 : Cond.fieldLink RX10 19 "WeatherTeller" "rulesReader" "LWeatherTeller$RulesReader;" ∈ wsX10_fault := List.mem_of_getElem? (i := 1) rfl
theorem inX10_fault_X10 : ∀ w ∈ u_ws RX10 TX10 13, w ∈ wsX10_fault := fun _ h => List.mem_cons_of_mem _ (List.mem_append_left _ (List.mem_append_right _ h))
theorem tX10_fault_2 : Cond.fieldLink RX10 106 "WeatherTeller$RulesReader" "faultKind" "I" ∈ wsX10_fault := List.mem_of_getElem? (i := 2) rfl
theorem inX10_fault_X5 : ∀ w ∈ u_ws RX5 TX5 8, w ∈ wsX10_fault := fun _ h => List.mem_cons_of_mem _ (List.mem_append_right _ h)
theorem tX10_fault_3 : Cond.fieldLink RX10 120 "WeatherTeller$RulesReader" "faultPlace" "I" ∈ wsX10_fault := List.mem_of_getElem? (i := 3) rfl
def f_X10_fault (N : Nat) (p0 : Int32) (S : St) : Option (Int32) :=
  if p0 = 0 then
    some (S.1 3 5)
  else
  if p0 = 1 then
    some (S.1 3 6)
  else
    some (-1)
abbrev rmX10_fault : Room := { frames := 0, cells := 0, slots := 0, locals := 0 }
set_option maxRecDepth 100000 in
set_option maxHeartbeats 4000000 in
theorem c_X10_fault (l : Launch) (D : va_G) (cs : Nat → ClassId) (a : Nat → Nat) (q1 q2 : Nat) (N : Nat) (p0 : Int32) (S : St) (rz : Int32) (hf : f_X10_fault N p0 S = some rz) : gMi l yX10_fault wsX10_fault rmX10_fault D cs [.ref (a 0), .int p0] (ccells cs a q1 q2 S) rz (ccells cs a q1 q2 S) := by
  unfold f_X10_fault at hf
  refine gE_i (cc := cX10_fault) (maxL := 2) (by decide) rfl (Nat.le_of_ble_eq_true rfl) ?_
  intro p e s m args below meth c A Q hC hA hQ hM ls hl
  obtain ⟨hx, hb, hml, hown, hts⟩ := hC.1
  have hl : lv_has ls 2 [(0, .ref (a 0)), (1, .int p0)] := hl
  refine lv_iload_n hx hb dX10_fault_0 rfl (lv_at hl 1 rfl) ?_
  by_cases c1 : p0 = 0
  · replace hf := it_t c1 hf
    refine g_lIn (tgt := 28) 0 c1 hx hb dX10_fault_1 (by decide) rfl (by decide) ?_
    refine lv_aload_n hx hb dX10_fault_28 rfl (lv_at hl 0 rfl) ?_
    refine g_get hC hM inX10_fault_X10 0 cE0 clX10 1 (by decide) tX10_fault_1 TX10_1 cV0_1 dX10_fault_29 ?_
    refine g_get hC hM inX10_fault_X5 3 cE3 clX5 5 (by decide) tX10_fault_2 TX5_5 cV3_5 dX10_fault_32 ?_
    cases so_1 hf
    exact hQ _ _ _ _ _ _ dX10_fault_35 hM (by decide) (by decide)
  · replace hf := it_f c1 hf
    by_cases c2 : p0 = 1
    · replace hf := it_t c2 hf
      refine g_lIn (tgt := 36) 1 c2 hx hb dX10_fault_1 (by decide) rfl (by decide) ?_
      refine lv_aload_n hx hb dX10_fault_36 rfl (lv_at hl 0 rfl) ?_
      refine g_get hC hM inX10_fault_X10 0 cE0 clX10 1 (by decide) tX10_fault_1 TX10_1 cV0_1 dX10_fault_37 ?_
      refine g_get hC hM inX10_fault_X5 3 cE3 clX5 6 (by decide) tX10_fault_3 TX5_6 cV3_6 dX10_fault_40 ?_
      cases so_1 hf
      exact hQ _ _ _ _ _ _ dX10_fault_43 hM (by decide) (by decide)
    · replace hf := it_f c2 hf
      have hne : ∀ j, j < 2 → ¬ p0 = nI j := by
        intro j hj
        rcases (show j = 0 ∨ j = 1 by omega) with rfl | rfl
        · exact c1
        · exact c2
      refine lv_lookup (tgt := 44) hx hb dX10_fault_1 (by decide) (off := 43) (by simp [Op.lookupswitch.offset, show ¬ (0 : Int) = (p0).toInt from fun h => lv_neT c1 (a := 0) (by decide) h.symm, show ¬ (1 : Int) = (p0).toInt from fun h => lv_neT c2 (a := 1) (by decide) h.symm]) (by decide) ?_
      refine lv_iconst (v := (-1)) hx hb dX10_fault_44 (by decide) ?_
      cases so_1 hf
      exact hQ _ _ _ _ _ _ dX10_fault_45 hM (by decide) (by decide)

theorem hd_X10_put : yX10_put.cls = RX10 ∧ yX10_put.cls ≠ "java/lang/invoke/MethodHandle" ∧ yX10_put.cls ≠ "java/lang/invoke/VarHandle" ∧ (parseMethodDescriptor yX10_put.desc).map (fun d => d.parameters.length) = some 6 := by decide +kernel
theorem tX10_put_2 : Cond.fieldLink RX10 87 "WeatherTeller" "findingsKnown" "Z" ∈ wsX10_put := List.mem_of_getElem? (i := 2) rfl
theorem inX10_put_X10 : ∀ w ∈ u_ws RX10 TX10 13, w ∈ wsX10_put := fun _ h => List.mem_cons_of_mem _ (List.mem_append_left _ (List.mem_append_left _ (List.mem_append_right _ h)))
theorem tX10_put_1 : Cond.fieldLink RX10 80 "WeatherTeller" "now" "LWeatherTeller$Table;" ∈ wsX10_put := List.mem_of_getElem? (i := 1) rfl
def j_X10_put_65 (S5 : St) : Option (Int32 × St) :=
  nm (puI S5 0 12 0) fun S6 =>
  some (1, S6)
def b_X10_put_31 (N : Nat) (p0 : Int32) (p1 : Int32) (p2 : Int32) (p3 : Int32) (p4 : Int32) (p5 : Int32) (k65 : St → Option (Int32 × St)) (k31 : Int32 → St → Option (Int32 × St)) (v7 : Int32) (S8 : St) : Option (Int32 × St) :=
  if p3 < v7 then
    k65 S8
  else
    bd (f_X7_set N 48 p0 p1 v7 (p4 + ((v7 - p2) * p5)) S8) fun S10 =>
    nm (v7 + 1) fun v11 =>
    k31 v11 S10
def f_X10_put (N : Nat) (p0 : Int32) (p1 : Int32) (p2 : Int32) (p3 : Int32) (p4 : Int32) (p5 : Int32) (S : St) : Option (Int32 × St) :=
  zb <|
  bd (f_X10_hasHours N p0 p1 p2 p3 S) fun v1 =>
  if v1 = 0 then
    some (0, S)
  else
    bd (f_X10_staysInSpan N p4 p5 (p3 - p2)) fun v3 =>
    if v3 = 0 then
      some (0, S)
    else
      jp (j_X10_put_65) fun k65 =>
      jp (lp (fun _ _ => none) (b_X10_put_31 N p0 p1 p2 p3 p4 p5 k65) N) fun k31 =>
      k31 p2 S
abbrev rmX10_put : Room := { frames := 3, cells := 0, slots := 0, locals := 69 }
set_option maxRecDepth 100000 in
set_option maxHeartbeats 4000000 in
theorem c_X10_put (l : Launch) (D : va_G) (cs : Nat → ClassId) (a : Nat → Nat) (q1 q2 : Nat) (N : Nat) (p0 : Int32) (p1 : Int32) (p2 : Int32) (p3 : Int32) (p4 : Int32) (p5 : Int32) (S : St) (rz : Int32) (Sz : St) (hf : f_X10_put N p0 p1 p2 p3 p4 p5 S = some (rz, Sz)) : gMi l yX10_put wsX10_put rmX10_put D cs [.ref (a 0), .int p0, .int p1, .int p2, .int p3, .int p4, .int p5] (ccells cs a q1 q2 S) rz (ccells cs a q1 q2 Sz) := by
  unfold f_X10_put at hf
  obtain ⟨hrz, hf⟩ := zb_s hf
  refine gE_z (cc := cX10_put) (maxL := 8) hrz (by decide) rfl (Nat.le_of_ble_eq_true rfl) ?_
  intro p e s m args below meth c A Q hC hA hQ hM ls hl
  obtain ⟨hx, hb, hml, hown, hts⟩ := hC.1
  have hl : lv_has ls 8 [(0, .ref (a 0)), (1, .int p0), (2, .int p1), (3, .int p2), (4, .int p3), (5, .int p4), (6, .int p5)] := hl
  refine lv_aload_n hx hb dX10_put_0 rfl (lv_at hl 0 rfl) ?_
  refine lv_iload_n hx hb dX10_put_1 rfl (lv_at hl 1 rfl) ?_
  refine lv_iload_n hx hb dX10_put_2 rfl (lv_at hl 2 rfl) ?_
  refine lv_iload_n hx hb dX10_put_3 rfl (lv_at hl 3 rfl) ?_
  refine lv_iload hx hb dX10_put_4 (lv_at hl 4 rfl) ?_
  obtain ⟨v1, hc, hf⟩ := bd_s hf
  refine gV_i hC hM hA hl.1 [.int p0, .int p1, .int p2, .int p3] [] (c_X10_hasHours l D cs a q1 q2 N p0 p1 p2 p3 S v1 hc) gX10_put_X10_hasHours rfl hd_X10_hasHours ⟨by decide, by decide⟩ 0 10 clX10 rfl cE0 (Nat.le_of_ble_eq_true rfl) dX10_put_6 rfl ⟨by decide, by decide⟩ (fun H locs hM => ?_)
  refine lv_if_eq (tgt := 26) hx hb dX10_put_9 (by decide) (fun c2 => ?_) (fun c2 => ?_)
  · replace hf := it_t c2 hf
    refine lv_iconst (v := 0) hx hb dX10_put_26 (by decide) ?_
    obtain ⟨e1, e2⟩ := so_2 hf
    cases e1; cases e2
    exact hQ _ _ _ _ _ _ dX10_put_27 hM (by decide) (by decide)
  · replace hf := it_f c2 hf
    refine lv_iload hx hb dX10_put_12 (lv_at hl 5 rfl) ?_
    refine lv_iload hx hb dX10_put_14 (lv_at hl 6 rfl) ?_
    refine lv_iload hx hb dX10_put_16 (lv_at hl 4 rfl) ?_
    refine lv_iload_n hx hb dX10_put_18 rfl (lv_at hl 3 rfl) ?_
    refine lv_isub hx hb dX10_put_19 ?_
    obtain ⟨v3, hc, hf⟩ := bd_s hf
    refine gS_i hC hM hA hl.1 [.int p4, .int p5, .int (p3 - p2)] [] (c_X10_staysInSpan l D cs (ccells cs a q1 q2 S) N p4 p5 (p3 - p2) v3 hc) gX10_put_X10_staysInSpan rfl hd_X10_staysInSpan ⟨by decide, by decide⟩ (Nat.le_of_ble_eq_true rfl) dX10_put_20 rfl ⟨by decide, by decide⟩ (fun H locs hM => ?_)
    refine lv_if_ne (tgt := 28) hx hb dX10_put_23 (by decide) (fun c4 => ?_) (fun c4 => ?_)
    · replace hf := it_f c4 hf
      refine lv_iload_n hx hb dX10_put_28 rfl (lv_at hl 3 rfl) ?_
      refine lv_istore (lv' := [(7, .int p2), (0, .ref (a 0)), (1, .int p0), (2, .int p1), (3, .int p2), (4, .int p3), (5, .int p4), (6, .int p5)]) hx hb dX10_put_29 hl (by decide) rfl (fun ls hl => ?_)
      refine jp_W (fun k65 : St → Option (Int32 × St) => ∀ (S5 : St), k65 S5 = some (rz, Sz) → ∀ (H : Heap) (locs : List Loc) (ls : Array Slot), gw D A s.heap H locs (ccells cs a q1 q2 S5) → lv_has ls 8 [(0, .ref (a 0))] → W p l e rmX10_put s m args below meth c H locs 0 0 Q (F0 m 65 ls [])) ?_ ?_ hf
      · intro S5 hf H locs ls hM hl
        unfold j_X10_put_65 at hf
        refine lv_aload_n hx hb dX10_put_65 rfl (lv_at hl 0 rfl) ?_
        refine lv_iconst (v := 0) hx hb dX10_put_66 (by decide) ?_
        refine g_put hC hM inX10_put_X10 tyX10_ok nmX10 0 cE0 clX10 12 (by decide) tX10_put_2 TX10_12 tyX10_12 rfl rfl (by rw [cL0]; decide) cP0_12 dX10_put_67 (fun H locs hM => ?_)
        obtain ⟨S6, hf, hM⟩ := cnm hf hM
        refine lv_iconst (v := 1) hx hb dX10_put_70 (by decide) ?_
        obtain ⟨e1, e2⟩ := so_2 hf
        cases e1; cases e2
        exact hQ _ _ _ _ _ _ dX10_put_71 hM (by decide) (by decide)
      · intro k65 hk65 hf
        refine jl_W (fun k31 : Int32 → St → Option (Int32 × St) => ∀ (v7 : Int32) (S8 : St), k31 v7 S8 = some (rz, Sz) → ∀ (H : Heap) (locs : List Loc) (ls : Array Slot), gw D A s.heap H locs (ccells cs a q1 q2 S8) → lv_has ls 8 [(0, .ref (a 0)), (1, .int p0), (2, .int p1), (3, .int p2), (4, .int p3), (5, .int p4), (6, .int p5), (7, .int v7)] → W p l e rmX10_put s m args below meth c H locs 0 0 Q (F0 m 31 ls [])) ?_ ?_ ?_ hf
        · intro v7 S8 h; cases h
        · intro k31 hk31 v7 S8 hf H locs ls hM hl
          unfold b_X10_put_31 at hf
          refine lv_iload hx hb dX10_put_31 (lv_at hl 7 rfl) ?_
          refine lv_iload hx hb dX10_put_33 (lv_at hl 4 rfl) ?_
          refine lv_icmp_gt (tgt := 65) hx hb dX10_put_35 (by decide) (fun c9 => ?_) (fun c9 => ?_)
          · replace hf := it_t c9 hf
            exact hk65 _ hf _ _ _ hM (lv_sub hl [0] rfl)
          · replace hf := it_f c9 hf
            refine lv_aload_n hx hb dX10_put_38 rfl (lv_at hl 0 rfl) ?_
            refine g_get hC hM inX10_put_X10 0 cE0 clX10 10 (by decide) tX10_put_1 TX10_10 cV0_10 dX10_put_39 ?_
            refine lv_iload_n hx hb dX10_put_42 rfl (lv_at hl 1 rfl) ?_
            refine lv_iload_n hx hb dX10_put_43 rfl (lv_at hl 2 rfl) ?_
            refine lv_iload hx hb dX10_put_44 (lv_at hl 7 rfl) ?_
            refine lv_iload hx hb dX10_put_46 (lv_at hl 5 rfl) ?_
            refine lv_iload hx hb dX10_put_48 (lv_at hl 7 rfl) ?_
            refine lv_iload_n hx hb dX10_put_50 rfl (lv_at hl 3 rfl) ?_
            refine lv_isub hx hb dX10_put_51 ?_
            refine lv_iload hx hb dX10_put_52 (lv_at hl 6 rfl) ?_
            refine lv_imul hx hb dX10_put_54 ?_
            refine lv_iadd hx hb dX10_put_55 ?_
            obtain ⟨S10, hc, hf⟩ := bd_s hf
            refine gV_v hC hM hA hl.1 [.int p0, .int p1, .int v7, .int (p4 + ((v7 - p2) * p5))] [] (c_X7_set_48 l D cs a q1 q2 N p0 p1 v7 (p4 + ((v7 - p2) * p5)) S8 S10 hc) gX10_put_X7_set rfl hd_X7_set ⟨by decide, by decide⟩ 48 7 clX7 rfl cE48 (Nat.le_of_ble_eq_true rfl) dX10_put_56 rfl ⟨by decide, by decide⟩ (fun H locs hM => ?_)
            obtain ⟨v11, ev11⟩ : ∃ y : Int32, y = v7 + 1 := ⟨_, rfl⟩
            replace hf := nm_q ev11 hf
            refine lv_iinc (v := v11) (lv' := [(7, .int v11), (0, .ref (a 0)), (1, .int p0), (2, .int p1), (3, .int p2), (4, .int p3), (5, .int p4), (6, .int p5)]) hx hb dX10_put_59 hl (k := 7) rfl (by rw [ev11]; rfl) (by decide) rfl (fun ls hl => ?_)
            refine lv_goto (tgt := 31) hx hb dX10_put_62 (by decide) ?_
            exact hk31 _ _ hf _ _ _ hM (lv_sub hl [1, 2, 3, 4, 5, 6, 7, 0] rfl)
        · intro k31 hk31 hf
          exact hk31 _ _ hf _ _ _ hM (lv_sub hl [1, 2, 3, 4, 5, 6, 7, 0] rfl)
    · replace hf := it_t c4 hf
      refine lv_iconst (v := 0) hx hb dX10_put_26 (by decide) ?_
      obtain ⟨e1, e2⟩ := so_2 hf
      cases e1; cases e2
      exact hQ _ _ _ _ _ _ dX10_put_27 hM (by decide) (by decide)

theorem hd_X10_miss : yX10_miss.cls = RX10 ∧ yX10_miss.cls ≠ "java/lang/invoke/MethodHandle" ∧ yX10_miss.cls ≠ "java/lang/invoke/VarHandle" ∧ (parseMethodDescriptor yX10_miss.desc).map (fun d => d.parameters.length) = some 4 := by decide +kernel
theorem tX10_miss_2 : Cond.fieldLink RX10 87 "WeatherTeller" "findingsKnown" "Z" ∈ wsX10_miss := List.mem_of_getElem? (i := 2) rfl
theorem inX10_miss_X10 : ∀ w ∈ u_ws RX10 TX10 13, w ∈ wsX10_miss := fun _ h => List.mem_cons_of_mem _ (List.mem_append_left _ (List.mem_append_left _ (List.mem_append_right _ h)))
theorem tX10_miss_1 : Cond.fieldLink RX10 80 "WeatherTeller" "now" "LWeatherTeller$Table;" ∈ wsX10_miss := List.mem_of_getElem? (i := 1) rfl
def j_X10_miss_43 (S3 : St) : Option (Int32 × St) :=
  nm (puI S3 0 12 0) fun S4 =>
  some (1, S4)
def b_X10_miss_17 (N : Nat) (p0 : Int32) (p1 : Int32) (p3 : Int32) (k43 : St → Option (Int32 × St)) (k17 : Int32 → St → Option (Int32 × St)) (v5 : Int32) (S6 : St) : Option (Int32 × St) :=
  if p3 < v5 then
    k43 S6
  else
    bd (f_X7_set N 48 p0 p1 v5 (-100) S6) fun S8 =>
    nm (v5 + 1) fun v9 =>
    k17 v9 S8
def f_X10_miss (N : Nat) (p0 : Int32) (p1 : Int32) (p2 : Int32) (p3 : Int32) (S : St) : Option (Int32 × St) :=
  zb <|
  bd (f_X10_hasHours N p0 p1 p2 p3 S) fun v1 =>
  if v1 = 0 then
    some (0, S)
  else
    jp (j_X10_miss_43) fun k43 =>
    jp (lp (fun _ _ => none) (b_X10_miss_17 N p0 p1 p3 k43) N) fun k17 =>
    k17 p2 S
abbrev rmX10_miss : Room := { frames := 3, cells := 0, slots := 0, locals := 69 }
set_option maxRecDepth 100000 in
set_option maxHeartbeats 4000000 in
theorem c_X10_miss (l : Launch) (D : va_G) (cs : Nat → ClassId) (a : Nat → Nat) (q1 q2 : Nat) (N : Nat) (p0 : Int32) (p1 : Int32) (p2 : Int32) (p3 : Int32) (S : St) (rz : Int32) (Sz : St) (hf : f_X10_miss N p0 p1 p2 p3 S = some (rz, Sz)) : gMi l yX10_miss wsX10_miss rmX10_miss D cs [.ref (a 0), .int p0, .int p1, .int p2, .int p3] (ccells cs a q1 q2 S) rz (ccells cs a q1 q2 Sz) := by
  unfold f_X10_miss at hf
  obtain ⟨hrz, hf⟩ := zb_s hf
  refine gE_z (cc := cX10_miss) (maxL := 6) hrz (by decide) rfl (Nat.le_of_ble_eq_true rfl) ?_
  intro p e s m args below meth c A Q hC hA hQ hM ls hl
  obtain ⟨hx, hb, hml, hown, hts⟩ := hC.1
  have hl : lv_has ls 6 [(0, .ref (a 0)), (1, .int p0), (2, .int p1), (3, .int p2), (4, .int p3)] := hl
  refine lv_aload_n hx hb dX10_miss_0 rfl (lv_at hl 0 rfl) ?_
  refine lv_iload_n hx hb dX10_miss_1 rfl (lv_at hl 1 rfl) ?_
  refine lv_iload_n hx hb dX10_miss_2 rfl (lv_at hl 2 rfl) ?_
  refine lv_iload_n hx hb dX10_miss_3 rfl (lv_at hl 3 rfl) ?_
  refine lv_iload hx hb dX10_miss_4 (lv_at hl 4 rfl) ?_
  obtain ⟨v1, hc, hf⟩ := bd_s hf
  refine gV_i hC hM hA hl.1 [.int p0, .int p1, .int p2, .int p3] [] (c_X10_hasHours l D cs a q1 q2 N p0 p1 p2 p3 S v1 hc) gX10_miss_X10_hasHours rfl hd_X10_hasHours ⟨by decide, by decide⟩ 0 10 clX10 rfl cE0 (Nat.le_of_ble_eq_true rfl) dX10_miss_6 rfl ⟨by decide, by decide⟩ (fun H locs hM => ?_)
  refine lv_if_ne (tgt := 14) hx hb dX10_miss_9 (by decide) (fun c2 => ?_) (fun c2 => ?_)
  · replace hf := it_f c2 hf
    refine lv_iload_n hx hb dX10_miss_14 rfl (lv_at hl 3 rfl) ?_
    refine lv_istore (lv' := [(5, .int p2), (0, .ref (a 0)), (1, .int p0), (2, .int p1), (3, .int p2), (4, .int p3)]) hx hb dX10_miss_15 hl (by decide) rfl (fun ls hl => ?_)
    refine jp_W (fun k43 : St → Option (Int32 × St) => ∀ (S3 : St), k43 S3 = some (rz, Sz) → ∀ (H : Heap) (locs : List Loc) (ls : Array Slot), gw D A s.heap H locs (ccells cs a q1 q2 S3) → lv_has ls 6 [(0, .ref (a 0))] → W p l e rmX10_miss s m args below meth c H locs 0 0 Q (F0 m 43 ls [])) ?_ ?_ hf
    · intro S3 hf H locs ls hM hl
      unfold j_X10_miss_43 at hf
      refine lv_aload_n hx hb dX10_miss_43 rfl (lv_at hl 0 rfl) ?_
      refine lv_iconst (v := 0) hx hb dX10_miss_44 (by decide) ?_
      refine g_put hC hM inX10_miss_X10 tyX10_ok nmX10 0 cE0 clX10 12 (by decide) tX10_miss_2 TX10_12 tyX10_12 rfl rfl (by rw [cL0]; decide) cP0_12 dX10_miss_45 (fun H locs hM => ?_)
      obtain ⟨S4, hf, hM⟩ := cnm hf hM
      refine lv_iconst (v := 1) hx hb dX10_miss_48 (by decide) ?_
      obtain ⟨e1, e2⟩ := so_2 hf
      cases e1; cases e2
      exact hQ _ _ _ _ _ _ dX10_miss_49 hM (by decide) (by decide)
    · intro k43 hk43 hf
      refine jl_W (fun k17 : Int32 → St → Option (Int32 × St) => ∀ (v5 : Int32) (S6 : St), k17 v5 S6 = some (rz, Sz) → ∀ (H : Heap) (locs : List Loc) (ls : Array Slot), gw D A s.heap H locs (ccells cs a q1 q2 S6) → lv_has ls 6 [(0, .ref (a 0)), (1, .int p0), (2, .int p1), (4, .int p3), (5, .int v5)] → W p l e rmX10_miss s m args below meth c H locs 0 0 Q (F0 m 17 ls [])) ?_ ?_ ?_ hf
      · intro v5 S6 h; cases h
      · intro k17 hk17 v5 S6 hf H locs ls hM hl
        unfold b_X10_miss_17 at hf
        refine lv_iload hx hb dX10_miss_17 (lv_at hl 4 rfl) ?_
        refine lv_iload hx hb dX10_miss_19 (lv_at hl 3 rfl) ?_
        refine lv_icmp_gt (tgt := 43) hx hb dX10_miss_21 (by decide) (fun c7 => ?_) (fun c7 => ?_)
        · replace hf := it_t c7 hf
          exact hk43 _ hf _ _ _ hM (lv_sub hl [0] rfl)
        · replace hf := it_f c7 hf
          refine lv_aload_n hx hb dX10_miss_24 rfl (lv_at hl 0 rfl) ?_
          refine g_get hC hM inX10_miss_X10 0 cE0 clX10 10 (by decide) tX10_miss_1 TX10_10 cV0_10 dX10_miss_25 ?_
          refine lv_iload_n hx hb dX10_miss_28 rfl (lv_at hl 1 rfl) ?_
          refine lv_iload_n hx hb dX10_miss_29 rfl (lv_at hl 2 rfl) ?_
          refine lv_iload hx hb dX10_miss_30 (lv_at hl 4 rfl) ?_
          refine lv_bipush (v := (-100)) hx hb dX10_miss_32 (by decide) ?_
          obtain ⟨S8, hc, hf⟩ := bd_s hf
          refine gV_v hC hM hA hl.1 [.int p0, .int p1, .int v5, .int (-100)] [] (c_X7_set_48 l D cs a q1 q2 N p0 p1 v5 (-100) S6 S8 hc) gX10_miss_X7_set rfl hd_X7_set ⟨by decide, by decide⟩ 48 7 clX7 rfl cE48 (Nat.le_of_ble_eq_true rfl) dX10_miss_34 rfl ⟨by decide, by decide⟩ (fun H locs hM => ?_)
          obtain ⟨v9, ev9⟩ : ∃ y : Int32, y = v5 + 1 := ⟨_, rfl⟩
          replace hf := nm_q ev9 hf
          refine lv_iinc (v := v9) (lv' := [(5, .int v9), (0, .ref (a 0)), (1, .int p0), (2, .int p1), (4, .int p3)]) hx hb dX10_miss_37 hl (k := 4) rfl (by rw [ev9]; rfl) (by decide) rfl (fun ls hl => ?_)
          refine lv_goto (tgt := 17) hx hb dX10_miss_40 (by decide) ?_
          exact hk17 _ _ hf _ _ _ hM (lv_sub hl [1, 2, 3, 4, 0] rfl)
      · intro k17 hk17 hf
        exact hk17 _ _ hf _ _ _ hM (lv_sub hl [1, 2, 3, 5, 0] rfl)
  · replace hf := it_t c2 hf
    refine lv_iconst (v := 0) hx hb dX10_miss_12 (by decide) ?_
    obtain ⟨e1, e2⟩ := so_2 hf
    cases e1; cases e2
    exact hQ _ _ _ _ _ _ dX10_miss_13 hM (by decide) (by decide)

theorem hd_X10_number : yX10_number.cls = RX10 ∧ yX10_number.cls ≠ "java/lang/invoke/MethodHandle" ∧ yX10_number.cls ≠ "java/lang/invoke/VarHandle" ∧ (parseMethodDescriptor yX10_number.desc).map (fun d => d.parameters.length) = some 3 := by decide +kernel
theorem tX10_number_1 : Cond.fieldLink RX10 80 "WeatherTeller" "now" "LWeatherTeller$Table;" ∈ wsX10_number := List.mem_of_getElem? (i := 1) rfl
theorem inX10_number_X10 : ∀ w ∈ u_ws RX10 TX10 13, w ∈ wsX10_number := fun _ h => List.mem_cons_of_mem _ (List.mem_append_left _ (List.mem_append_right _ h))
def f_X10_number (N : Nat) (p0 : Int32) (p1 : Int32) (p2 : Int32) (S : St) : Option (Int32) :=
  bd (f_X7_at N 48 p0 p1 p2 S) fun v1 =>
  some v1
abbrev rmX10_number : Room := { frames := 3, cells := 0, slots := 0, locals := 68 }
set_option maxRecDepth 100000 in
set_option maxHeartbeats 4000000 in
theorem c_X10_number (l : Launch) (D : va_G) (cs : Nat → ClassId) (a : Nat → Nat) (q1 q2 : Nat) (N : Nat) (p0 : Int32) (p1 : Int32) (p2 : Int32) (S : St) (rz : Int32) (hf : f_X10_number N p0 p1 p2 S = some rz) : gMi l yX10_number wsX10_number rmX10_number D cs [.ref (a 0), .int p0, .int p1, .int p2] (ccells cs a q1 q2 S) rz (ccells cs a q1 q2 S) := by
  unfold f_X10_number at hf
  refine gE_i (cc := cX10_number) (maxL := 4) (by decide) rfl (Nat.le_of_ble_eq_true rfl) ?_
  intro p e s m args below meth c A Q hC hA hQ hM ls hl
  obtain ⟨hx, hb, hml, hown, hts⟩ := hC.1
  have hl : lv_has ls 4 [(0, .ref (a 0)), (1, .int p0), (2, .int p1), (3, .int p2)] := hl
  refine lv_aload_n hx hb dX10_number_0 rfl (lv_at hl 0 rfl) ?_
  refine g_get hC hM inX10_number_X10 0 cE0 clX10 10 (by decide) tX10_number_1 TX10_10 cV0_10 dX10_number_1 ?_
  refine lv_iload_n hx hb dX10_number_4 rfl (lv_at hl 1 rfl) ?_
  refine lv_iload_n hx hb dX10_number_5 rfl (lv_at hl 2 rfl) ?_
  refine lv_iload_n hx hb dX10_number_6 rfl (lv_at hl 3 rfl) ?_
  obtain ⟨v1, hc, hf⟩ := bd_s hf
  refine gV_i hC hM hA hl.1 [.int p0, .int p1, .int p2] [] (c_X7_at_48 l D cs a q1 q2 N p0 p1 p2 S v1 hc) gX10_number_X7_at rfl hd_X7_at ⟨by decide, by decide⟩ 48 7 clX7 rfl cE48 (Nat.le_of_ble_eq_true rfl) dX10_number_7 rfl ⟨by decide, by decide⟩ (fun H locs hM => ?_)
  cases so_1 hf
  exact hQ _ _ _ _ _ _ dX10_number_10 hM (by decide) (by decide)

theorem hd_X10_sign : yX10_sign.cls = RX10 ∧ yX10_sign.cls ≠ "java/lang/invoke/MethodHandle" ∧ yX10_sign.cls ≠ "java/lang/invoke/VarHandle" ∧ (parseMethodDescriptor yX10_sign.desc).map (fun d => d.parameters.length) = some 1 := by decide +kernel
theorem tX10_sign_1 : Cond.fieldLink RX10 54 "WeatherTeller" "text" "LWeatherTeller$Text;" ∈ wsX10_sign := List.mem_of_getElem? (i := 1) rfl
theorem inX10_sign_X10 : ∀ w ∈ u_ws RX10 TX10 13, w ∈ wsX10_sign := fun _ h => List.mem_cons_of_mem _ (List.mem_append_left _ (List.mem_append_left _ (List.mem_append_right _ h)))
theorem tX10_sign_2 : Cond.fieldLink RX10 203 "WeatherTeller$Text" "signs" "LWeatherTeller$Signs;" ∈ wsX10_sign := List.mem_of_getElem? (i := 2) rfl
theorem inX10_sign_X9 : ∀ w ∈ u_ws RX9 TX9 4, w ∈ wsX10_sign := fun _ h => List.mem_cons_of_mem _ (List.mem_append_left _ (List.mem_append_right _ h))
def f_X10_sign (N : Nat) (p0 : Int32) (S : St) : Option (Int32) :=
  bd (f_X6_at N 24 p0 S) fun v1 =>
  some v1
abbrev rmX10_sign : Room := { frames := 1, cells := 0, slots := 0, locals := 21 }
set_option maxRecDepth 100000 in
set_option maxHeartbeats 4000000 in
theorem c_X10_sign (l : Launch) (D : va_G) (cs : Nat → ClassId) (a : Nat → Nat) (q1 q2 : Nat) (N : Nat) (p0 : Int32) (S : St) (rz : Int32) (hf : f_X10_sign N p0 S = some rz) : gMi l yX10_sign wsX10_sign rmX10_sign D cs [.ref (a 0), .int p0] (ccells cs a q1 q2 S) rz (ccells cs a q1 q2 S) := by
  unfold f_X10_sign at hf
  refine gE_i (cc := cX10_sign) (maxL := 2) (by decide) rfl (Nat.le_of_ble_eq_true rfl) ?_
  intro p e s m args below meth c A Q hC hA hQ hM ls hl
  obtain ⟨hx, hb, hml, hown, hts⟩ := hC.1
  have hl : lv_has ls 2 [(0, .ref (a 0)), (1, .int p0)] := hl
  refine lv_aload_n hx hb dX10_sign_0 rfl (lv_at hl 0 rfl) ?_
  refine g_get hC hM inX10_sign_X10 0 cE0 clX10 6 (by decide) tX10_sign_1 TX10_6 cV0_6 dX10_sign_1 ?_
  refine g_get hC hM inX10_sign_X9 22 cE22 clX9 1 (by decide) tX10_sign_2 TX9_1 cV22_1 dX10_sign_4 ?_
  refine lv_iload_n hx hb dX10_sign_7 rfl (lv_at hl 1 rfl) ?_
  obtain ⟨v1, hc, hf⟩ := bd_s hf
  refine gV_i hC hM hA hl.1 [.int p0] [] (c_X6_at_24 l D cs a q1 q2 N p0 S v1 hc) gX10_sign_X6_at rfl hd_X6_at ⟨by decide, by decide⟩ 24 6 clX6 rfl cE24 (Nat.le_of_ble_eq_true rfl) dX10_sign_8 rfl ⟨by decide, by decide⟩ (fun H locs hM => ?_)
  cases so_1 hf
  exact hQ _ _ _ _ _ _ dX10_sign_11 hM (by decide) (by decide)

theorem hd_X10_told : yX10_told.cls = RX10 ∧ yX10_told.cls ≠ "java/lang/invoke/MethodHandle" ∧ yX10_told.cls ≠ "java/lang/invoke/VarHandle" ∧ (parseMethodDescriptor yX10_told.desc).map (fun d => d.parameters.length) = some 1 := by decide +kernel
theorem tX10_told_1 : Cond.fieldLink RX10 54 "WeatherTeller" "text" "LWeatherTeller$Text;" ∈ wsX10_told := List.mem_of_getElem? (i := 1) rfl
theorem inX10_told_X10 : ∀ w ∈ u_ws RX10 TX10 13, w ∈ wsX10_told := fun _ h => List.mem_cons_of_mem _ (List.mem_append_left _ (List.mem_append_right _ h))
theorem tX10_told_2 : Cond.fieldLink RX10 193 "WeatherTeller$Text" "size" "I" ∈ wsX10_told := List.mem_of_getElem? (i := 2) rfl
theorem inX10_told_X9 : ∀ w ∈ u_ws RX9 TX9 4, w ∈ wsX10_told := fun _ h => List.mem_cons_of_mem _ (List.mem_append_right _ h)
theorem tX10_told_3 : Cond.fieldLink RX10 209 "WeatherTeller$Text" "numbers" "[I" ∈ wsX10_told := List.mem_of_getElem? (i := 3) rfl
def f_X10_told (N : Nat) (p0 : Int32) (S : St) : Option (Int32) :=
  if p0 < 0 then
    some (-1)
  else
    if p0 < (S.1 22 2) then
      ck p0 432 <|
      some (S.1 23 p0.toNatClampNeg)
    else
      some (-1)
abbrev rmX10_told : Room := { frames := 0, cells := 0, slots := 0, locals := 0 }
set_option maxRecDepth 100000 in
set_option maxHeartbeats 4000000 in
theorem c_X10_told (l : Launch) (D : va_G) (cs : Nat → ClassId) (a : Nat → Nat) (q1 q2 : Nat) (N : Nat) (p0 : Int32) (S : St) (rz : Int32) (hf : f_X10_told N p0 S = some rz) : gMi l yX10_told wsX10_told rmX10_told D cs [.ref (a 0), .int p0] (ccells cs a q1 q2 S) rz (ccells cs a q1 q2 S) := by
  unfold f_X10_told at hf
  refine gE_i (cc := cX10_told) (maxL := 2) (by decide) rfl (Nat.le_of_ble_eq_true rfl) ?_
  intro p e s m args below meth c A Q hC hA hQ hM ls hl
  obtain ⟨hx, hb, hml, hown, hts⟩ := hC.1
  have hl : lv_has ls 2 [(0, .ref (a 0)), (1, .int p0)] := hl
  refine lv_iload_n hx hb dX10_told_0 rfl (lv_at hl 1 rfl) ?_
  refine lv_if_lt (tgt := 15) hx hb dX10_told_1 (by decide) (fun c1 => ?_) (fun c1 => ?_)
  · replace hf := it_t c1 hf
    refine lv_iconst (v := (-1)) hx hb dX10_told_15 (by decide) ?_
    refine lv_goto (tgt := 28) hx hb dX10_told_16 (by decide) ?_
    cases so_1 hf
    exact hQ _ _ _ _ _ _ dX10_told_28 hM (by decide) (by decide)
  · replace hf := it_f c1 hf
    refine lv_iload_n hx hb dX10_told_4 rfl (lv_at hl 1 rfl) ?_
    refine lv_aload_n hx hb dX10_told_5 rfl (lv_at hl 0 rfl) ?_
    refine g_get hC hM inX10_told_X10 0 cE0 clX10 6 (by decide) tX10_told_1 TX10_6 cV0_6 dX10_told_6 ?_
    refine g_get hC hM inX10_told_X9 22 cE22 clX9 2 (by decide) tX10_told_2 TX9_2 cV22_2 dX10_told_9 ?_
    refine lv_icmp_lt (tgt := 19) hx hb dX10_told_12 (by decide) (fun c2 => ?_) (fun c2 => ?_)
    · replace hf := it_t c2 hf
      refine lv_aload_n hx hb dX10_told_19 rfl (lv_at hl 0 rfl) ?_
      refine g_get hC hM inX10_told_X10 0 cE0 clX10 6 (by decide) tX10_told_1 TX10_6 cV0_6 dX10_told_20 ?_
      refine g_get hC hM inX10_told_X9 22 cE22 clX9 0 (by decide) tX10_told_3 TX9_0 cV22_0 dX10_told_23 ?_
      refine lv_iload_n hx hb dX10_told_26 rfl (lv_at hl 1 rfl) ?_
      obtain ⟨h3, hf⟩ := ck_s hf
      refine g_iald hC hM 23 cE23 h3 dX10_told_27 ?_
      cases so_1 hf
      exact hQ _ _ _ _ _ _ dX10_told_28 hM (by decide) (by decide)
    · replace hf := it_f c2 hf
      refine lv_iconst (v := (-1)) hx hb dX10_told_15 (by decide) ?_
      refine lv_goto (tgt := 28) hx hb dX10_told_16 (by decide) ?_
      cases so_1 hf
      exact hQ _ _ _ _ _ _ dX10_told_28 hM (by decide) (by decide)

theorem hd_X10_changed : yX10_changed.cls = RX10 ∧ yX10_changed.cls ≠ "java/lang/invoke/MethodHandle" ∧ yX10_changed.cls ≠ "java/lang/invoke/VarHandle" ∧ (parseMethodDescriptor yX10_changed.desc).map (fun d => d.parameters.length) = some 2 := by decide +kernel
theorem tX10_changed_1 : Cond.fieldLink RX10 70 "WeatherTeller" "rules" "LWeatherTeller$Rules;" ∈ wsX10_changed := List.mem_of_getElem? (i := 1) rfl
theorem inX10_changed_X10 : ∀ w ∈ u_ws RX10 TX10 13, w ∈ wsX10_changed := fun _ h => List.mem_cons_of_mem _ (List.mem_append_left _ (List.mem_append_left _ (List.mem_append_right _ h)))
theorem tX10_changed_2 : Cond.fieldLink RX10 228 "WeatherTeller$Rules" "places" "I" ∈ wsX10_changed := List.mem_of_getElem? (i := 2) rfl
theorem inX10_changed_X4 : ∀ w ∈ u_ws RX4 TX4 12, w ∈ wsX10_changed := fun _ h => List.mem_cons_of_mem _ (List.mem_append_left _ (List.mem_append_right _ h))
def j_X10_changed_50 (v5 : Int32) (k20 : Int32 → Int32 → Option (Int32)) (v8 : Int32) : Option (Int32) :=
  nm (v5 + 1) fun v9 =>
  k20 v8 v9
def b_X10_changed_20 (N : Nat) (p0 : Int32) (p1 : Int32) (S : St) (k20 : Int32 → Int32 → Option (Int32)) (v4 : Int32) (v5 : Int32) : Option (Int32) :=
  if (S.1 28 9) ≤ v5 then
    some v4
  else
    bd (f_X10_differs N p0 v5 p1 S) fun v7 =>
    jp (j_X10_changed_50 v5 k20) fun k50 =>
    if v7 = 0 then
      k50 v4
    else
      nm (v4 ||| (1 <<< (v5 &&& 31))) fun v11 =>
      k50 v11
def f_X10_changed (N : Nat) (p0 : Int32) (p1 : Int32) (S : St) : Option (Int32) :=
  if p0 < 0 then
    some (-1)
  else
    if 3 ≤ p0 then
      some (-1)
    else
      if 0 ≤ p1 then
        jp (lp (fun _ _ => none) (b_X10_changed_20 N p0 p1 S) N) fun k20 =>
        k20 0 0
      else
        some (-1)
abbrev rmX10_changed : Room := { frames := 4, cells := 0, slots := 0, locals := 94 }
set_option maxRecDepth 100000 in
set_option maxHeartbeats 4000000 in
theorem c_X10_changed (l : Launch) (D : va_G) (cs : Nat → ClassId) (a : Nat → Nat) (q1 q2 : Nat) (N : Nat) (p0 : Int32) (p1 : Int32) (S : St) (rz : Int32) (hf : f_X10_changed N p0 p1 S = some rz) : gMi l yX10_changed wsX10_changed rmX10_changed D cs [.ref (a 0), .int p0, .int p1] (ccells cs a q1 q2 S) rz (ccells cs a q1 q2 S) := by
  unfold f_X10_changed at hf
  refine gE_i (cc := cX10_changed) (maxL := 5) (by decide) rfl (Nat.le_of_ble_eq_true rfl) ?_
  intro p e s m args below meth c A Q hC hA hQ hM ls hl
  obtain ⟨hx, hb, hml, hown, hts⟩ := hC.1
  have hl : lv_has ls 5 [(0, .ref (a 0)), (1, .int p0), (2, .int p1)] := hl
  refine lv_iload_n hx hb dX10_changed_0 rfl (lv_at hl 1 rfl) ?_
  refine lv_if_lt (tgt := 13) hx hb dX10_changed_1 (by decide) (fun c1 => ?_) (fun c1 => ?_)
  · replace hf := it_t c1 hf
    refine lv_iconst (v := (-1)) hx hb dX10_changed_13 (by decide) ?_
    cases so_1 hf
    exact hQ _ _ _ _ _ _ dX10_changed_14 hM (by decide) (by decide)
  · replace hf := it_f c1 hf
    refine lv_iload_n hx hb dX10_changed_4 rfl (lv_at hl 1 rfl) ?_
    refine lv_iconst (v := 3) hx hb dX10_changed_5 (by decide) ?_
    refine lv_icmp_ge (tgt := 13) hx hb dX10_changed_6 (by decide) (fun c2 => ?_) (fun c2 => ?_)
    · replace hf := it_t c2 hf
      refine lv_iconst (v := (-1)) hx hb dX10_changed_13 (by decide) ?_
      cases so_1 hf
      exact hQ _ _ _ _ _ _ dX10_changed_14 hM (by decide) (by decide)
    · replace hf := it_f c2 hf
      refine lv_iload_n hx hb dX10_changed_9 rfl (lv_at hl 2 rfl) ?_
      refine lv_if_ge (tgt := 15) hx hb dX10_changed_10 (by decide) (fun c3 => ?_) (fun c3 => ?_)
      · replace hf := it_t c3 hf
        refine lv_iconst (v := 0) hx hb dX10_changed_15 (by decide) ?_
        refine lv_istore_n (lv' := [(3, .int 0), (0, .ref (a 0)), (1, .int p0), (2, .int p1)]) hx hb dX10_changed_16 rfl hl (by decide) rfl (fun ls hl => ?_)
        refine lv_iconst (v := 0) hx hb dX10_changed_17 (by decide) ?_
        refine lv_istore (lv' := [(4, .int 0), (3, .int 0), (0, .ref (a 0)), (1, .int p0), (2, .int p1)]) hx hb dX10_changed_18 hl (by decide) rfl (fun ls hl => ?_)
        refine jl_W (fun k20 : Int32 → Int32 → Option (Int32) => ∀ (v4 : Int32) (v5 : Int32), k20 v4 v5 = some rz → ∀ (H : Heap) (locs : List Loc) (ls : Array Slot), gw D A s.heap H locs (ccells cs a q1 q2 S) → lv_has ls 5 [(0, .ref (a 0)), (1, .int p0), (2, .int p1), (3, .int v4), (4, .int v5)] → W p l e rmX10_changed s m args below meth c H locs 0 0 Q (F0 m 20 ls [])) ?_ ?_ ?_ hf
        · intro v4 v5 h; cases h
        · intro k20 hk20 v4 v5 hf H locs ls hM hl
          unfold b_X10_changed_20 at hf
          refine lv_iload hx hb dX10_changed_20 (lv_at hl 4 rfl) ?_
          refine lv_aload_n hx hb dX10_changed_22 rfl (lv_at hl 0 rfl) ?_
          refine g_get hC hM inX10_changed_X10 0 cE0 clX10 8 (by decide) tX10_changed_1 TX10_8 cV0_8 dX10_changed_23 ?_
          refine g_get hC hM inX10_changed_X4 28 cE28 clX4 9 (by decide) tX10_changed_2 TX4_9 cV28_9 dX10_changed_26 ?_
          refine lv_icmp_ge (tgt := 56) hx hb dX10_changed_29 (by decide) (fun c6 => ?_) (fun c6 => ?_)
          · replace hf := it_t c6 hf
            refine lv_iload_n hx hb dX10_changed_56 rfl (lv_at hl 3 rfl) ?_
            cases so_1 hf
            exact hQ _ _ _ _ _ _ dX10_changed_57 hM (by decide) (by decide)
          · replace hf := it_f c6 hf
            refine lv_aload_n hx hb dX10_changed_32 rfl (lv_at hl 0 rfl) ?_
            refine lv_iload_n hx hb dX10_changed_33 rfl (lv_at hl 1 rfl) ?_
            refine lv_iload hx hb dX10_changed_34 (lv_at hl 4 rfl) ?_
            refine lv_iload_n hx hb dX10_changed_36 rfl (lv_at hl 2 rfl) ?_
            obtain ⟨v7, hc, hf⟩ := bd_s hf
            refine gV_i hC hM hA hl.1 [.int p0, .int v5, .int p1] [] (c_X10_differs l D cs a q1 q2 N p0 v5 p1 S v7 hc) gX10_changed_X10_differs rfl hd_X10_differs ⟨by decide, by decide⟩ 0 10 clX10 rfl cE0 (Nat.le_of_ble_eq_true rfl) dX10_changed_37 rfl ⟨by decide, by decide⟩ (fun H locs hM => ?_)
            refine jp_W (fun k50 : Int32 → Option (Int32) => ∀ (v8 : Int32), k50 v8 = some rz → ∀ (H : Heap) (locs : List Loc) (ls : Array Slot), gw D A s.heap H locs (ccells cs a q1 q2 S) → lv_has ls 5 [(0, .ref (a 0)), (1, .int p0), (2, .int p1), (3, .int v8), (4, .int v5)] → W p l e rmX10_changed s m args below meth c H locs 0 0 Q (F0 m 50 ls [])) ?_ ?_ hf
            · intro v8 hf H locs ls hM hl
              unfold j_X10_changed_50 at hf
              obtain ⟨v9, ev9⟩ : ∃ y : Int32, y = v5 + 1 := ⟨_, rfl⟩
              replace hf := nm_q ev9 hf
              refine lv_iinc (v := v9) (lv' := [(4, .int v9), (0, .ref (a 0)), (1, .int p0), (2, .int p1), (3, .int v8)]) hx hb dX10_changed_50 hl (k := 4) rfl (by rw [ev9]; rfl) (by decide) rfl (fun ls hl => ?_)
              refine lv_goto (tgt := 20) hx hb dX10_changed_53 (by decide) ?_
              exact hk20 _ _ hf _ _ _ hM (lv_sub hl [1, 2, 3, 4, 0] rfl)
            · intro k50 hk50 hf
              refine lv_if_eq (tgt := 50) hx hb dX10_changed_40 (by decide) (fun c10 => ?_) (fun c10 => ?_)
              · replace hf := it_t c10 hf
                exact hk50 _ hf _ _ _ hM hl
              · replace hf := it_f c10 hf
                refine lv_iload_n hx hb dX10_changed_43 rfl (lv_at hl 3 rfl) ?_
                refine lv_iconst (v := 1) hx hb dX10_changed_44 (by decide) ?_
                refine lv_iload hx hb dX10_changed_45 (lv_at hl 4 rfl) ?_
                refine lv_ishl hx hb dX10_changed_47 ?_
                refine lv_ior hx hb dX10_changed_48 ?_
                refine lv_topi (fun v11 ev11 => ?_)
                replace hf := nm_q ev11 hf
                refine lv_istore_n (lv' := [(3, .int v11), (0, .ref (a 0)), (1, .int p0), (2, .int p1), (4, .int v5)]) hx hb dX10_changed_49 rfl hl (by decide) rfl (fun ls hl => ?_)
                exact hk50 _ hf _ _ _ hM (lv_sub hl [1, 2, 3, 0, 4] rfl)
        · intro k20 hk20 hf
          exact hk20 _ _ hf _ _ _ hM (lv_sub hl [2, 3, 4, 1, 0] rfl)
      · replace hf := it_f c3 hf
        refine lv_iconst (v := (-1)) hx hb dX10_changed_13 (by decide) ?_
        cases so_1 hf
        exact hQ _ _ _ _ _ _ dX10_changed_14 hM (by decide) (by decide)
