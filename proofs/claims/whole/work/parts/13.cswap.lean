theorem hd_X10_rules : yX10_rules.cls = RX10 ∧ yX10_rules.cls ≠ "java/lang/invoke/MethodHandle" ∧ yX10_rules.cls ≠ "java/lang/invoke/VarHandle" ∧ (parseMethodDescriptor yX10_rules.desc).map (fun d => d.parameters.length) = some 1 := by decide +kernel
theorem tX10_rules_1 : Cond.fieldLink RX10 12 "WeatherTeller" "tape" "LWeatherTeller$Tape;" ∈ wsX10_rules := List.mem_of_getElem? (i := 1) rfl
theorem inX10_rules_X10 : ∀ w ∈ u_ws RX10 TX10 13, w ∈ wsX10_rules := fun _ h => List.mem_cons_of_mem _ (List.mem_append_left _ (List.mem_append_left _ (List.mem_append_left _ (List.mem_append_left _ (List.mem_append_left _ (List.mem_append_left _ (List.mem_append_left _ (List.mem_append_right _ h))))))))
theorem tX10_rules_2 : Cond.fieldLink RX10 19 "WeatherTeller" "rulesReader" "LWeatherTeller$RulesReader;" ∈ wsX10_rules := List.mem_of_getElem? (i := 2) rfl
theorem tX10_rules_3 : Cond.fieldLink RX10 74 "WeatherTeller" "draft" "LWeatherTeller$Rules;" ∈ wsX10_rules := List.mem_of_getElem? (i := 3) rfl
theorem tX10_rules_4 : Cond.fieldLink RX10 106 "WeatherTeller$RulesReader" "faultKind" "I" ∈ wsX10_rules := List.mem_of_getElem? (i := 4) rfl
theorem inX10_rules_X5 : ∀ w ∈ u_ws RX5 TX5 8, w ∈ wsX10_rules := fun _ h => List.mem_cons_of_mem _ (List.mem_append_left _ (List.mem_append_left _ (List.mem_append_left _ (List.mem_append_left _ (List.mem_append_left _ (List.mem_append_left _ (List.mem_append_right _ h)))))))
theorem tX10_rules_5 : Cond.fieldLink RX10 70 "WeatherTeller" "rules" "LWeatherTeller$Rules;" ∈ wsX10_rules := List.mem_of_getElem? (i := 5) rfl
theorem tX10_rules_6 : Cond.fieldLink RX10 33 "WeatherTeller" "groups" "LWeatherTeller$Groups;" ∈ wsX10_rules := List.mem_of_getElem? (i := 6) rfl
theorem tX10_rules_7 : Cond.fieldLink RX10 80 "WeatherTeller" "now" "LWeatherTeller$Table;" ∈ wsX10_rules := List.mem_of_getElem? (i := 7) rfl
theorem tX10_rules_8 : Cond.fieldLink RX10 84 "WeatherTeller" "before" "LWeatherTeller$Table;" ∈ wsX10_rules := List.mem_of_getElem? (i := 8) rfl
theorem tX10_rules_9 : Cond.fieldLink RX10 54 "WeatherTeller" "text" "LWeatherTeller$Text;" ∈ wsX10_rules := List.mem_of_getElem? (i := 9) rfl
theorem tX10_rules_10 : Cond.fieldLink RX10 87 "WeatherTeller" "findingsKnown" "Z" ∈ wsX10_rules := List.mem_of_getElem? (i := 10) rfl
theorem tX10_rules_11 : Cond.fieldLink RX10 117 "WeatherTeller$Rules" "bands" "I" ∈ wsX10_rules := List.mem_of_getElem? (i := 11) rfl
theorem inX10_rules_X4 : ∀ w ∈ u_ws RX4 TX4 12, w ∈ wsX10_rules := fun _ h => List.mem_cons_of_mem _ (List.mem_append_left _ (List.mem_append_left _ (List.mem_append_left _ (List.mem_append_left _ (List.mem_append_left _ (List.mem_append_right _ h))))))
def f_X10_rules (N : Nat) (p0 : Int32) (S : St) : Option (Int32 × St) :=
  bd2 (f_X8_open N p0 S) fun v1 S2 =>
  if v1 = 0 then
    some ((-2), S2)
  else
    bd (f_X5_read N S2) fun S4 =>
    if (S4.1 3 5) = 0 then
      nm (swS S4) fun S6 =>
      bd (f_X3_join N S6) fun S7 =>
      bd (f_X7_clear N 48 S7) fun S8 =>
      bd (f_X7_clear N 50 S8) fun S9 =>
      bd (f_X9_clear N S9) fun S10 =>
      nm (puI S10 0 12 0) fun S11 =>
      some ((S11.1 28 11), S11)
    else
      some ((-1), S4)
abbrev rmX10_rules : Room := { frames := 6, cells := 0, slots := 0, locals := 149 }
set_option maxRecDepth 100000 in
set_option maxHeartbeats 4000000 in
theorem c_X10_rules (l : Launch) (D : va_G) (cs : Nat → ClassId) (a : Nat → Nat) (q1 q2 : Nat) (N : Nat) (p0 : Int32) (S : St) (rz : Int32) (Sz : St) (hf : f_X10_rules N p0 S = some (rz, Sz)) : gXi l yX10_rules wsX10_rules rmX10_rules D cs [.ref (a 0), .int p0] (ccells cs a q1 q2 S) rz Sz := by
  unfold f_X10_rules at hf
  refine gXE_i (cc := cX10_rules) (maxL := 3) (by decide) rfl (Nat.le_of_ble_eq_true rfl) ?_
  intro p e s m args below meth c A Q hC hA hQ hM ls hl
  obtain ⟨hx, hb, hml, hown, hts⟩ := hC.1
  have hl : lv_has ls 3 [(0, .ref (a 0)), (1, .int p0)] := hl
  refine lv_aload_n hx hb dX10_rules_0 rfl (lv_at hl 0 rfl) ?_
  refine g_get hC hM inX10_rules_X10 0 cE0 clX10 0 (by decide) tX10_rules_1 TX10_0 cV0_0 dX10_rules_1 ?_
  refine lv_iload_n hx hb dX10_rules_4 rfl (lv_at hl 1 rfl) ?_
  obtain ⟨v1, S2, hc, hf⟩ := bd2_s hf
  refine gV_i hC hM hA hl.1 [.int p0] [] (c_X8_open l D cs a q1 q2 N p0 S v1 S2 hc) gX10_rules_X8_open rfl hd_X8_open ⟨by decide, by decide⟩ 1 8 clX8 rfl cE1 (Nat.le_of_ble_eq_true rfl) dX10_rules_5 rfl ⟨by decide, by decide⟩ (fun H locs hM => ?_)
  refine lv_if_ne (tgt := 14) hx hb dX10_rules_8 (by decide) (fun c3 => ?_) (fun c3 => ?_)
  · replace hf := it_f c3 hf
    refine lv_aload_n hx hb dX10_rules_14 rfl (lv_at hl 0 rfl) ?_
    refine g_get hC hM inX10_rules_X10 0 cE0 clX10 1 (by decide) tX10_rules_2 TX10_1 cV0_1 dX10_rules_15 ?_
    refine lv_aload_n hx hb dX10_rules_18 rfl (lv_at hl 0 rfl) ?_
    refine g_get hC hM inX10_rules_X10 0 cE0 clX10 0 (by decide) tX10_rules_1 TX10_0 cV0_0 dX10_rules_19 ?_
    refine lv_aload_n hx hb dX10_rules_22 rfl (lv_at hl 0 rfl) ?_
    refine g_get hC hM inX10_rules_X10 0 cE0 clX10 9 (by decide) tX10_rules_3 TX10_9 cV0_9 dX10_rules_23 ?_
    obtain ⟨S4, hc, hf⟩ := bd_s hf
    refine gV_v hC hM hA hl.1 [.ref (a 1), .ref (a 38)] [] (c_X5_read l D cs a q1 q2 N S2 S4 hc) gX10_rules_X5_read rfl hd_X5_read ⟨by decide, by decide⟩ 3 5 clX5 rfl cE3 (Nat.le_of_ble_eq_true rfl) dX10_rules_26 rfl ⟨by decide, by decide⟩ (fun H locs hM => ?_)
    refine lv_aload_n hx hb dX10_rules_29 rfl (lv_at hl 0 rfl) ?_
    refine g_get hC hM inX10_rules_X10 0 cE0 clX10 1 (by decide) tX10_rules_2 TX10_1 cV0_1 dX10_rules_30 ?_
    refine g_get hC hM inX10_rules_X5 3 cE3 clX5 5 (by decide) tX10_rules_4 TX5_5 cV3_5 dX10_rules_33 ?_
    refine lv_if_eq (tgt := 41) hx hb dX10_rules_36 (by decide) (fun c5 => ?_) (fun c5 => ?_)
    · replace hf := it_t c5 hf
      refine lv_aload_n hx hb dX10_rules_41 rfl (lv_at hl 0 rfl) ?_
      refine g_get hC hM inX10_rules_X10 0 cE0 clX10 8 (by decide) tX10_rules_5 TX10_8 cV0_8 dX10_rules_42 ?_
      refine lv_astore_n (lv' := [(2, .ref (a 28)), (0, .ref (a 0)), (1, .int p0)]) hx hb dX10_rules_45 rfl hl (by decide) rfl (fun ls hl => ?_)
      refine lv_aload_n hx hb dX10_rules_46 rfl (lv_at hl 1 rfl) ?_
      refine lv_aload_n hx hb dX10_rules_47 rfl (lv_at hl 1 rfl) ?_
      refine g_get hC hM inX10_rules_X10 0 cE0 clX10 9 (by decide) tX10_rules_3 TX10_9 cV0_9 dX10_rules_48 ?_
      refine g_put (w' := (a 0, .inr (10, ((cf0 a q1 q2 S4).set 8 (.ref (a 38))))) :: (ccells cs a q1 q2 S4).tail) hC hM inX10_rules_X10 tyX10_ok nmX10 0 cE0 clX10 8 (by decide) tX10_rules_5 TX10_8 (ty := .object "WeatherTeller$Rules") rfl rfl rfl (Nat.le_of_ble_eq_true rfl) cset0 dX10_rules_51 (fun H locs hM => ?_)
      refine lv_aload_n hx hb dX10_rules_54 rfl (lv_at hl 1 rfl) ?_
      refine lv_aload_n hx hb dX10_rules_55 rfl (lv_at hl 0 rfl) ?_
      refine g_put (w' := (a 0, .inr (10, (((cf0 a q1 q2 S4).set 8 (.ref (a 38))).set 9 (.ref (a 28))))) :: (ccells cs a q1 q2 S4).tail) hC hM inX10_rules_X10 tyX10_ok nmX10 0 rfl clX10 9 (by decide) tX10_rules_3 TX10_9 (ty := .object "WeatherTeller$Rules") rfl rfl rfl (Nat.le_of_ble_eq_true rfl) rfl dX10_rules_56 (fun H locs hM => ?_)
      replace hM := cswR hM
      obtain ⟨S6, hf, hM⟩ := cnm hf hM
      skip
      refine lv_aload_n hx hb dX10_rules_59 rfl (lv_at hl 1 rfl) ?_
      refine g_get hC hM inX10_rules_X10 0 cE0 clX10 3 (by decide) tX10_rules_6 TX10_3 cV0_3 dX10_rules_60 ?_
      refine lv_aload_n hx hb dX10_rules_63 rfl (lv_at hl 1 rfl) ?_
      refine g_get hC hM inX10_rules_X10 0 cE0 clX10 8 (by decide) tX10_rules_5 TX10_8 cV0_8 dX10_rules_64 ?_
      obtain ⟨S7, hc, hf⟩ := bd_s hf
      refine gV_v hC hM hA hl.1 [.ref (swA a 28)] [] (c_X3_join l D cs (swA a) q1 q2 N S6 S7 hc) gX10_rules_X3_join rfl hd_X3_join ⟨by decide, by decide⟩ 5 3 clX3 rfl cE5 (Nat.le_of_ble_eq_true rfl) dX10_rules_67 rfl ⟨by decide, by decide⟩ (fun H locs hM => ?_)
      refine lv_aload_n hx hb dX10_rules_70 rfl (lv_at hl 1 rfl) ?_
      refine g_get hC hM inX10_rules_X10 0 cE0 clX10 10 (by decide) tX10_rules_7 TX10_10 cV0_10 dX10_rules_71 ?_
      obtain ⟨S8, hc, hf⟩ := bd_s hf
      refine gV_v hC hM hA hl.1 [] [] (c_X7_clear_48 l D cs (swA a) q1 q2 N S7 S8 hc) gX10_rules_X7_clear rfl hd_X7_clear ⟨by decide, by decide⟩ 48 7 clX7 rfl cE48 (Nat.le_of_ble_eq_true rfl) dX10_rules_74 rfl ⟨by decide, by decide⟩ (fun H locs hM => ?_)
      refine lv_aload_n hx hb dX10_rules_77 rfl (lv_at hl 1 rfl) ?_
      refine g_get hC hM inX10_rules_X10 0 cE0 clX10 11 (by decide) tX10_rules_8 TX10_11 cV0_11 dX10_rules_78 ?_
      obtain ⟨S9, hc, hf⟩ := bd_s hf
      refine gV_v hC hM hA hl.1 [] [] (c_X7_clear_50 l D cs (swA a) q1 q2 N S8 S9 hc) gX10_rules_X7_clear rfl hd_X7_clear ⟨by decide, by decide⟩ 50 7 clX7 rfl cE50 (Nat.le_of_ble_eq_true rfl) dX10_rules_81 rfl ⟨by decide, by decide⟩ (fun H locs hM => ?_)
      refine lv_aload_n hx hb dX10_rules_84 rfl (lv_at hl 1 rfl) ?_
      refine g_get hC hM inX10_rules_X10 0 cE0 clX10 6 (by decide) tX10_rules_9 TX10_6 cV0_6 dX10_rules_85 ?_
      obtain ⟨S10, hc, hf⟩ := bd_s hf
      refine gV_v hC hM hA hl.1 [] [] (c_X9_clear l D cs (swA a) q1 q2 N S9 S10 hc) gX10_rules_X9_clear rfl hd_X9_clear ⟨by decide, by decide⟩ 22 9 clX9 rfl cE22 (Nat.le_of_ble_eq_true rfl) dX10_rules_88 rfl ⟨by decide, by decide⟩ (fun H locs hM => ?_)
      refine lv_aload_n hx hb dX10_rules_91 rfl (lv_at hl 1 rfl) ?_
      refine lv_iconst (v := 0) hx hb dX10_rules_92 (by decide) ?_
      refine g_put hC hM inX10_rules_X10 tyX10_ok nmX10 0 cE0 clX10 12 (by decide) tX10_rules_10 TX10_12 tyX10_12 rfl rfl (by rw [cL0]; decide) cP0_12 dX10_rules_93 (fun H locs hM => ?_)
      obtain ⟨S11, hf, hM⟩ := cnm hf hM
      refine lv_aload_n hx hb dX10_rules_96 rfl (lv_at hl 1 rfl) ?_
      refine g_get hC hM inX10_rules_X10 0 cE0 clX10 8 (by decide) tX10_rules_5 TX10_8 cV0_8 dX10_rules_97 ?_
      refine g_get hC hM inX10_rules_X4 28 cE28 clX4 11 (by decide) tX10_rules_11 TX4_11 cV28_11 dX10_rules_100 ?_
      obtain ⟨e1, e2⟩ := so_2 hf
      cases e1; cases e2
      exact hQ _ _ _ _ _ _ _ _ _ dX10_rules_103 hM rfl (by decide) (by decide)
    · replace hf := it_f c5 hf
      refine lv_iconst (v := (-1)) hx hb dX10_rules_39 (by decide) ?_
      obtain ⟨e1, e2⟩ := so_2 hf
      cases e1; cases e2
      exact hQ _ _ _ _ _ _ _ _ _ dX10_rules_40 hM rfl (by decide) (by decide)
  · replace hf := it_t c3 hf
    refine lv_bipush (v := (-2)) hx hb dX10_rules_11 (by decide) ?_
    obtain ⟨e1, e2⟩ := so_2 hf
    cases e1; cases e2
    exact hQ _ _ _ _ _ _ _ _ _ dX10_rules_13 hM rfl (by decide) (by decide)

theorem hd_X10_next : yX10_next.cls = RX10 ∧ yX10_next.cls ≠ "java/lang/invoke/MethodHandle" ∧ yX10_next.cls ≠ "java/lang/invoke/VarHandle" ∧ (parseMethodDescriptor yX10_next.desc).map (fun d => d.parameters.length) = some 0 := by decide +kernel
theorem tX10_next_1 : Cond.fieldLink RX10 84 "WeatherTeller" "before" "LWeatherTeller$Table;" ∈ wsX10_next := List.mem_of_getElem? (i := 1) rfl
theorem inX10_next_X10 : ∀ w ∈ u_ws RX10 TX10 13, w ∈ wsX10_next := fun _ h => List.mem_cons_of_mem _ (List.mem_append_left _ (List.mem_append_right _ h))
theorem tX10_next_2 : Cond.fieldLink RX10 80 "WeatherTeller" "now" "LWeatherTeller$Table;" ∈ wsX10_next := List.mem_of_getElem? (i := 2) rfl
theorem tX10_next_3 : Cond.fieldLink RX10 87 "WeatherTeller" "findingsKnown" "Z" ∈ wsX10_next := List.mem_of_getElem? (i := 3) rfl
def f_X10_next (N : Nat)  (S : St) : Option (St) :=
  nm (stS S) fun S1 =>
  bd (f_X7_clear N 48 S1) fun S2 =>
  nm (puI S2 0 12 0) fun S3 =>
  some S3
abbrev rmX10_next : Room := { frames := 2, cells := 0, slots := 0, locals := 43 }
set_option maxRecDepth 100000 in
set_option maxHeartbeats 4000000 in
theorem c_X10_next (l : Launch) (D : va_G) (cs : Nat → ClassId) (a : Nat → Nat) (q1 q2 : Nat) (N : Nat) (S : St) (Sz : St) (hf : f_X10_next N S = some Sz) : gXv l yX10_next wsX10_next rmX10_next D cs [.ref (a 0)] (ccells cs a q1 q2 S) Sz := by
  unfold f_X10_next at hf
  refine gXE_v (cc := cX10_next) (maxL := 2) (by decide) rfl (Nat.le_of_ble_eq_true rfl) ?_
  intro p e s m args below meth c A Q hC hA hQ hM ls hl
  obtain ⟨hx, hb, hml, hown, hts⟩ := hC.1
  have hl : lv_has ls 2 [(0, .ref (a 0))] := hl
  refine lv_aload_n hx hb dX10_next_0 rfl (lv_at hl 0 rfl) ?_
  refine g_get hC hM inX10_next_X10 0 cE0 clX10 11 (by decide) tX10_next_1 TX10_11 cV0_11 dX10_next_1 ?_
  refine lv_astore_n (lv' := [(1, .ref (a 50)), (0, .ref (a 0))]) hx hb dX10_next_4 rfl hl (by decide) rfl (fun ls hl => ?_)
  refine lv_aload_n hx hb dX10_next_5 rfl (lv_at hl 1 rfl) ?_
  refine lv_aload_n hx hb dX10_next_6 rfl (lv_at hl 1 rfl) ?_
  refine g_get hC hM inX10_next_X10 0 cE0 clX10 10 (by decide) tX10_next_2 TX10_10 cV0_10 dX10_next_7 ?_
  refine g_put (w' := (a 0, .inr (10, ((cf0 a q1 q2 S).set 11 (.ref (a 48))))) :: (ccells cs a q1 q2 S).tail) hC hM inX10_next_X10 tyX10_ok nmX10 0 cE0 clX10 11 (by decide) tX10_next_1 TX10_11 (ty := .object "WeatherTeller$Table") rfl rfl rfl (Nat.le_of_ble_eq_true rfl) cset0 dX10_next_10 (fun H locs hM => ?_)
  refine lv_aload_n hx hb dX10_next_13 rfl (lv_at hl 1 rfl) ?_
  refine lv_aload_n hx hb dX10_next_14 rfl (lv_at hl 0 rfl) ?_
  refine g_put (w' := (a 0, .inr (10, (((cf0 a q1 q2 S).set 11 (.ref (a 48))).set 10 (.ref (a 50))))) :: (ccells cs a q1 q2 S).tail) hC hM inX10_next_X10 tyX10_ok nmX10 0 rfl clX10 10 (by decide) tX10_next_2 TX10_10 (ty := .object "WeatherTeller$Table") rfl rfl rfl (Nat.le_of_ble_eq_true rfl) rfl dX10_next_15 (fun H locs hM => ?_)
  replace hM := cswT hM
  obtain ⟨S1, hf, hM⟩ := cnm hf hM
  skip
  refine lv_aload_n hx hb dX10_next_18 rfl (lv_at hl 1 rfl) ?_
  refine g_get hC hM inX10_next_X10 0 cE0 clX10 10 (by decide) tX10_next_2 TX10_10 cV0_10 dX10_next_19 ?_
  obtain ⟨S2, hc, hf⟩ := bd_s hf
  refine gV_v hC hM hA hl.1 [] [] (c_X7_clear_48 l D cs (stA a) q1 q2 N S1 S2 hc) gX10_next_X7_clear rfl hd_X7_clear ⟨by decide, by decide⟩ 48 7 clX7 rfl cE48 (Nat.le_of_ble_eq_true rfl) dX10_next_22 rfl ⟨by decide, by decide⟩ (fun H locs hM => ?_)
  refine lv_aload_n hx hb dX10_next_25 rfl (lv_at hl 1 rfl) ?_
  refine lv_iconst (v := 0) hx hb dX10_next_26 (by decide) ?_
  refine g_put hC hM inX10_next_X10 tyX10_ok nmX10 0 cE0 clX10 12 (by decide) tX10_next_3 TX10_12 tyX10_12 rfl rfl (by rw [cL0]; decide) cP0_12 dX10_next_27 (fun H locs hM => ?_)
  obtain ⟨S3, hf, hM⟩ := cnm hf hM
  cases so_1 hf
  exact hQ _ _ _ _ _ _ _ _ _ dX10_next_30 hM rfl (by decide) (by decide)
