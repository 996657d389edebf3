theorem hd_X10_count : yX10_count.cls = RX10 ∧ yX10_count.cls ≠ "java/lang/invoke/MethodHandle" ∧ yX10_count.cls ≠ "java/lang/invoke/VarHandle" ∧ (parseMethodDescriptor yX10_count.desc).map (fun d => d.parameters.length) = some 1 := by decide +kernel
theorem tX10_count_1 : Cond.fieldLink RX10 70 "WeatherTeller" "rules" "LWeatherTeller$Rules;" ∈ wsX10_count := List.mem_of_getElem? (i := 1) rfl
theorem inX10_count_X10 : ∀ w ∈ u_ws RX10 TX10 13, w ∈ wsX10_count := fun _ h => List.mem_cons_of_mem _ (List.mem_append_left _ (List.mem_append_left _ (List.mem_append_left _ (List.mem_append_left _ (List.mem_append_right _ h)))))
theorem tX10_count_2 : Cond.fieldLink RX10 228 "WeatherTeller$Rules" "places" "I" ∈ wsX10_count := List.mem_of_getElem? (i := 2) rfl
theorem inX10_count_X4 : ∀ w ∈ u_ws RX4 TX4 12, w ∈ wsX10_count := fun _ h => List.mem_cons_of_mem _ (List.mem_append_left _ (List.mem_append_left _ (List.mem_append_left _ (List.mem_append_right _ h))))
theorem tX10_count_3 : Cond.fieldLink RX10 233 "WeatherTeller$Rules" "regions" "I" ∈ wsX10_count := List.mem_of_getElem? (i := 3) rfl
theorem tX10_count_4 : Cond.fieldLink RX10 117 "WeatherTeller$Rules" "bands" "I" ∈ wsX10_count := List.mem_of_getElem? (i := 4) rfl
theorem tX10_count_5 : Cond.fieldLink RX10 40 "WeatherTeller" "findings" "LWeatherTeller$Findings;" ∈ wsX10_count := List.mem_of_getElem? (i := 5) rfl
theorem tX10_count_6 : Cond.fieldLink RX10 142 "WeatherTeller$Findings" "size" "I" ∈ wsX10_count := List.mem_of_getElem? (i := 6) rfl
theorem inX10_count_X2 : ∀ w ∈ u_ws RX2 TX2 7, w ∈ wsX10_count := fun _ h => List.mem_cons_of_mem _ (List.mem_append_left _ (List.mem_append_left _ (List.mem_append_right _ h)))
theorem tX10_count_7 : Cond.fieldLink RX10 54 "WeatherTeller" "text" "LWeatherTeller$Text;" ∈ wsX10_count := List.mem_of_getElem? (i := 7) rfl
theorem tX10_count_8 : Cond.fieldLink RX10 193 "WeatherTeller$Text" "size" "I" ∈ wsX10_count := List.mem_of_getElem? (i := 8) rfl
theorem inX10_count_X9 : ∀ w ∈ u_ws RX9 TX9 4, w ∈ wsX10_count := fun _ h => List.mem_cons_of_mem _ (List.mem_append_left _ (List.mem_append_right _ h))
theorem tX10_count_9 : Cond.fieldLink RX10 240 "WeatherTeller$Text" "weight" "I" ∈ wsX10_count := List.mem_of_getElem? (i := 9) rfl
def f_X10_count (N : Nat) (p0 : Int32) (S : St) : Option (Int32 × St) :=
  if p0 = 0 then
    some ((S.1 28 9), S)
  else
  if p0 = 1 then
    some ((S.1 28 10), S)
  else
  if p0 = 2 then
    some ((S.1 28 11), S)
  else
  if p0 = 3 then
    bd (f_X10_knowFindings N S) fun S5 =>
    some ((S5.1 8 4), S5)
  else
  if p0 = 4 then
    bd (f_X10_knowFindings N S) fun S7 =>
    bd (f_X10_warningsFound N S7) fun v8 =>
    some (v8, S7)
  else
  if p0 = 5 then
    some ((S.1 22 2), S)
  else
  if p0 = 6 then
    some ((S.1 22 3), S)
  else
    some ((-1), S)
abbrev rmX10_count : Room := { frames := 6, cells := 0, slots := 0, locals := 137 }
set_option maxRecDepth 100000 in
set_option maxHeartbeats 4000000 in
theorem c_X10_count (l : Launch) (D : va_G) (cs : Nat → ClassId) (a : Nat → Nat) (q1 q2 : Nat) (N : Nat) (p0 : Int32) (S : St) (rz : Int32) (Sz : St) (hf : f_X10_count N p0 S = some (rz, Sz)) : gMi l yX10_count wsX10_count rmX10_count D cs [.ref (a 0), .int p0] (ccells cs a q1 q2 S) rz (ccells cs a q1 q2 Sz) := by
  unfold f_X10_count at hf
  refine gE_i (cc := cX10_count) (maxL := 2) (by decide) rfl (Nat.le_of_ble_eq_true rfl) ?_
  intro p e s m args below meth c A Q hC hA hQ hM ls hl
  obtain ⟨hx, hb, hml, hown, hts⟩ := hC.1
  have hl : lv_has ls 2 [(0, .ref (a 0)), (1, .int p0)] := hl
  refine lv_iload_n hx hb dX10_count_0 rfl (lv_at hl 1 rfl) ?_
  by_cases c1 : p0 = 0
  · replace hf := it_t c1 hf
    refine g_tIn (tgt := 44) 0 c1 hx hb dX10_count_1 (by decide) (by decide) rfl (by decide) ?_
    refine lv_aload_n hx hb dX10_count_44 rfl (lv_at hl 0 rfl) ?_
    refine g_get hC hM inX10_count_X10 0 cE0 clX10 8 (by decide) tX10_count_1 TX10_8 cV0_8 dX10_count_45 ?_
    refine g_get hC hM inX10_count_X4 28 cE28 clX4 9 (by decide) tX10_count_2 TX4_9 cV28_9 dX10_count_48 ?_
    obtain ⟨e1, e2⟩ := so_2 hf
    cases e1; cases e2
    exact hQ _ _ _ _ _ _ dX10_count_51 hM (by decide) (by decide)
  · replace hf := it_f c1 hf
    by_cases c2 : p0 = 1
    · replace hf := it_t c2 hf
      refine g_tIn (tgt := 52) 1 c2 hx hb dX10_count_1 (by decide) (by decide) rfl (by decide) ?_
      refine lv_aload_n hx hb dX10_count_52 rfl (lv_at hl 0 rfl) ?_
      refine g_get hC hM inX10_count_X10 0 cE0 clX10 8 (by decide) tX10_count_1 TX10_8 cV0_8 dX10_count_53 ?_
      refine g_get hC hM inX10_count_X4 28 cE28 clX4 10 (by decide) tX10_count_3 TX4_10 cV28_10 dX10_count_56 ?_
      obtain ⟨e1, e2⟩ := so_2 hf
      cases e1; cases e2
      exact hQ _ _ _ _ _ _ dX10_count_59 hM (by decide) (by decide)
    · replace hf := it_f c2 hf
      by_cases c3 : p0 = 2
      · replace hf := it_t c3 hf
        refine g_tIn (tgt := 60) 2 c3 hx hb dX10_count_1 (by decide) (by decide) rfl (by decide) ?_
        refine lv_aload_n hx hb dX10_count_60 rfl (lv_at hl 0 rfl) ?_
        refine g_get hC hM inX10_count_X10 0 cE0 clX10 8 (by decide) tX10_count_1 TX10_8 cV0_8 dX10_count_61 ?_
        refine g_get hC hM inX10_count_X4 28 cE28 clX4 11 (by decide) tX10_count_4 TX4_11 cV28_11 dX10_count_64 ?_
        obtain ⟨e1, e2⟩ := so_2 hf
        cases e1; cases e2
        exact hQ _ _ _ _ _ _ dX10_count_67 hM (by decide) (by decide)
      · replace hf := it_f c3 hf
        by_cases c4 : p0 = 3
        · replace hf := it_t c4 hf
          refine g_tIn (tgt := 68) 3 c4 hx hb dX10_count_1 (by decide) (by decide) rfl (by decide) ?_
          refine lv_aload_n hx hb dX10_count_68 rfl (lv_at hl 0 rfl) ?_
          obtain ⟨S5, hc, hf⟩ := bd_s hf
          refine gV_v hC hM hA hl.1 [] [] (c_X10_knowFindings l D cs a q1 q2 N S S5 hc) gX10_count_X10_knowFindings rfl hd_X10_knowFindings ⟨by decide, by decide⟩ 0 10 clX10 rfl cE0 (Nat.le_of_ble_eq_true rfl) dX10_count_69 rfl ⟨by decide, by decide⟩ (fun H locs hM => ?_)
          refine lv_aload_n hx hb dX10_count_72 rfl (lv_at hl 0 rfl) ?_
          refine g_get hC hM inX10_count_X10 0 cE0 clX10 4 (by decide) tX10_count_5 TX10_4 cV0_4 dX10_count_73 ?_
          refine g_get hC hM inX10_count_X2 8 cE8 clX2 4 (by decide) tX10_count_6 TX2_4 cV8_4 dX10_count_76 ?_
          obtain ⟨e1, e2⟩ := so_2 hf
          cases e1; cases e2
          exact hQ _ _ _ _ _ _ dX10_count_79 hM (by decide) (by decide)
        · replace hf := it_f c4 hf
          by_cases c6 : p0 = 4
          · replace hf := it_t c6 hf
            refine g_tIn (tgt := 80) 4 c6 hx hb dX10_count_1 (by decide) (by decide) rfl (by decide) ?_
            refine lv_aload_n hx hb dX10_count_80 rfl (lv_at hl 0 rfl) ?_
            obtain ⟨S7, hc, hf⟩ := bd_s hf
            refine gV_v hC hM hA hl.1 [] [] (c_X10_knowFindings l D cs a q1 q2 N S S7 hc) gX10_count_X10_knowFindings rfl hd_X10_knowFindings ⟨by decide, by decide⟩ 0 10 clX10 rfl cE0 (Nat.le_of_ble_eq_true rfl) dX10_count_81 rfl ⟨by decide, by decide⟩ (fun H locs hM => ?_)
            refine lv_aload_n hx hb dX10_count_84 rfl (lv_at hl 0 rfl) ?_
            obtain ⟨v8, hc, hf⟩ := bd_s hf
            refine gV_i hC hM hA hl.1 [] [] (c_X10_warningsFound l D cs a q1 q2 N S7 v8 hc) gX10_count_X10_warningsFound rfl hd_X10_warningsFound ⟨by decide, by decide⟩ 0 10 clX10 rfl cE0 (Nat.le_of_ble_eq_true rfl) dX10_count_85 rfl ⟨by decide, by decide⟩ (fun H locs hM => ?_)
            obtain ⟨e1, e2⟩ := so_2 hf
            cases e1; cases e2
            exact hQ _ _ _ _ _ _ dX10_count_88 hM (by decide) (by decide)
          · replace hf := it_f c6 hf
            by_cases c9 : p0 = 5
            · replace hf := it_t c9 hf
              refine g_tIn (tgt := 89) 5 c9 hx hb dX10_count_1 (by decide) (by decide) rfl (by decide) ?_
              refine lv_aload_n hx hb dX10_count_89 rfl (lv_at hl 0 rfl) ?_
              refine g_get hC hM inX10_count_X10 0 cE0 clX10 6 (by decide) tX10_count_7 TX10_6 cV0_6 dX10_count_90 ?_
              refine g_get hC hM inX10_count_X9 22 cE22 clX9 2 (by decide) tX10_count_8 TX9_2 cV22_2 dX10_count_93 ?_
              obtain ⟨e1, e2⟩ := so_2 hf
              cases e1; cases e2
              exact hQ _ _ _ _ _ _ dX10_count_96 hM (by decide) (by decide)
            · replace hf := it_f c9 hf
              by_cases c10 : p0 = 6
              · replace hf := it_t c10 hf
                refine g_tIn (tgt := 97) 6 c10 hx hb dX10_count_1 (by decide) (by decide) rfl (by decide) ?_
                refine lv_aload_n hx hb dX10_count_97 rfl (lv_at hl 0 rfl) ?_
                refine g_get hC hM inX10_count_X10 0 cE0 clX10 6 (by decide) tX10_count_7 TX10_6 cV0_6 dX10_count_98 ?_
                refine g_get hC hM inX10_count_X9 22 cE22 clX9 3 (by decide) tX10_count_9 TX9_3 cV22_3 dX10_count_101 ?_
                obtain ⟨e1, e2⟩ := so_2 hf
                cases e1; cases e2
                exact hQ _ _ _ _ _ _ dX10_count_104 hM (by decide) (by decide)
              · replace hf := it_f c10 hf
                have hne : ∀ j, j < 7 → ¬ p0 = nI j := by
                  intro j hj
                  rcases (show j = 0 ∨ j = 1 ∨ j = 2 ∨ j = 3 ∨ j = 4 ∨ j = 5 ∨ j = 6 by omega) with rfl | rfl | rfl | rfl | rfl | rfl | rfl
                  · exact c1
                  · exact c2
                  · exact c3
                  · exact c4
                  · exact c6
                  · exact c9
                  · exact c10
                refine g_tOut (tgt := 105) (n := 7) hne (by decide) hx hb dX10_count_1 rfl (by decide) (by decide) ?_
                refine lv_iconst (v := (-1)) hx hb dX10_count_105 (by decide) ?_
                obtain ⟨e1, e2⟩ := so_2 hf
                cases e1; cases e2
                exact hQ _ _ _ _ _ _ dX10_count_106 hM (by decide) (by decide)

theorem hd_X10_isInBand : yX10_isInBand.cls = RX10 ∧ yX10_isInBand.cls ≠ "java/lang/invoke/MethodHandle" ∧ yX10_isInBand.cls ≠ "java/lang/invoke/VarHandle" ∧ (parseMethodDescriptor yX10_isInBand.desc).map (fun d => d.parameters.length) = some 2 := by decide +kernel
theorem tX10_isInBand_1 : Cond.fieldLink RX10 313 "WeatherTeller$ClauseReader" "from" "I" ∈ wsX10_isInBand := List.mem_of_getElem? (i := 1) rfl
theorem inX10_isInBand_X1 : ∀ w ∈ u_ws RX1 TX1 5, w ∈ wsX10_isInBand := fun _ h => List.mem_cons_of_mem _ (List.mem_append_left _ (List.mem_append_left _ (List.mem_append_left _ (List.mem_append_right _ h))))
theorem tX10_isInBand_2 : Cond.fieldLink RX10 316 "WeatherTeller$ClauseReader" "to" "I" ∈ wsX10_isInBand := List.mem_of_getElem? (i := 2) rfl
theorem tX10_isInBand_3 : Cond.fieldLink RX10 70 "WeatherTeller" "rules" "LWeatherTeller$Rules;" ∈ wsX10_isInBand := List.mem_of_getElem? (i := 3) rfl
theorem inX10_isInBand_X10 : ∀ w ∈ u_ws RX10 TX10 13, w ∈ wsX10_isInBand := fun _ h => List.mem_cons_of_mem _ (List.mem_append_left _ (List.mem_append_left _ (List.mem_append_right _ h)))
theorem tX10_isInBand_4 : Cond.fieldLink RX10 323 "WeatherTeller$ClauseReader" "band" "I" ∈ wsX10_isInBand := List.mem_of_getElem? (i := 4) rfl
theorem tX10_isInBand_5 : Cond.fieldLink RX10 80 "WeatherTeller" "now" "LWeatherTeller$Table;" ∈ wsX10_isInBand := List.mem_of_getElem? (i := 5) rfl
theorem tX10_isInBand_6 : Cond.fieldLink RX10 326 "WeatherTeller$Rules" "quantities" "[I" ∈ wsX10_isInBand := List.mem_of_getElem? (i := 6) rfl
theorem inX10_isInBand_X4 : ∀ w ∈ u_ws RX4 TX4 12, w ∈ wsX10_isInBand := fun _ h => List.mem_cons_of_mem _ (List.mem_append_left _ (List.mem_append_right _ h))
def b_X10_isInBand_5 (N : Nat) (p0 : Int32) (S : St) (k5 : Int32 → Option (Int32)) (v2 : Int32) : Option (Int32) :=
  if (S.1 4 4) < v2 then
    some 1
  else
    ck (S.1 4 2) 24 <|
    bd (f_X7_at N 48 (S.1 33 (S.1 4 2).toNatClampNeg) p0 v2 S) fun v5 =>
    bd (f_X4_isIn N 28 (S.1 4 2) v5 S) fun v6 =>
    if v6 = 0 then
      some 0
    else
      nm (v2 + 1) fun v8 =>
      k5 v8
def f_X10_isInBand (N : Nat) (p0 : Int32) (S : St) : Option (Int32) :=
  z1 <|
  nm (S.1 4 3) fun v1 =>
  jp (lp (fun _ => none) (b_X10_isInBand_5 N p0 S) N) fun k5 =>
  k5 v1
abbrev rmX10_isInBand : Room := { frames := 3, cells := 0, slots := 0, locals := 68 }
set_option maxRecDepth 100000 in
set_option maxHeartbeats 4000000 in
theorem c_X10_isInBand (l : Launch) (D : va_G) (cs : Nat → ClassId) (a : Nat → Nat) (q1 q2 : Nat) (N : Nat) (p0 : Int32) (S : St) (rz : Int32) (hf : f_X10_isInBand N p0 S = some rz) : gMi l yX10_isInBand wsX10_isInBand rmX10_isInBand D cs [.ref (a 0), .int p0, .ref (a 4)] (ccells cs a q1 q2 S) rz (ccells cs a q1 q2 S) := by
  unfold f_X10_isInBand at hf
  obtain ⟨hrz, hf⟩ := z1_s hf
  refine gE_z (cc := cX10_isInBand) (maxL := 4) hrz (by decide) rfl (Nat.le_of_ble_eq_true rfl) ?_
  intro p e s m args below meth c A Q hC hA hQ hM ls hl
  obtain ⟨hx, hb, hml, hown, hts⟩ := hC.1
  have hl : lv_has ls 4 [(0, .ref (a 0)), (1, .int p0), (2, .ref (a 4))] := hl
  refine lv_aload_n hx hb dX10_isInBand_0 rfl (lv_at hl 2 rfl) ?_
  refine g_get hC hM inX10_isInBand_X1 4 cE4 clX1 3 (by decide) tX10_isInBand_1 TX1_3 cV4_3 dX10_isInBand_1 ?_
  refine lv_topi (fun v1 ev1 => ?_)
  replace hf := nm_q ev1 hf
  refine lv_istore_n (lv' := [(3, .int v1), (0, .ref (a 0)), (1, .int p0), (2, .ref (a 4))]) hx hb dX10_isInBand_4 rfl hl (by decide) rfl (fun ls hl => ?_)
  refine jl_W (fun k5 : Int32 → Option (Int32) => ∀ (v2 : Int32), k5 v2 = some rz → ∀ (H : Heap) (locs : List Loc) (ls : Array Slot), gw D A s.heap H locs (ccells cs a q1 q2 S) → lv_has ls 4 [(0, .ref (a 0)), (1, .int p0), (2, .ref (a 4)), (3, .int v2)] → W p l e rmX10_isInBand s m args below meth c H locs 0 0 Q (F0 m 5 ls [])) ?_ ?_ ?_ hf
  · intro v2 h; cases h
  · intro k5 hk5 v2 hf H locs ls hM hl
    unfold b_X10_isInBand_5 at hf
    refine lv_iload_n hx hb dX10_isInBand_5 rfl (lv_at hl 3 rfl) ?_
    refine lv_aload_n hx hb dX10_isInBand_6 rfl (lv_at hl 2 rfl) ?_
    refine g_get hC hM inX10_isInBand_X1 4 cE4 clX1 4 (by decide) tX10_isInBand_2 TX1_4 cV4_4 dX10_isInBand_7 ?_
    refine lv_icmp_gt (tgt := 56) hx hb dX10_isInBand_10 (by decide) (fun c3 => ?_) (fun c3 => ?_)
    · replace hf := it_t c3 hf
      refine lv_iconst (v := 1) hx hb dX10_isInBand_56 (by decide) ?_
      cases so_1 hf
      exact hQ _ _ _ _ _ _ dX10_isInBand_57 hM (by decide) (by decide)
    · replace hf := it_f c3 hf
      refine lv_aload_n hx hb dX10_isInBand_13 rfl (lv_at hl 0 rfl) ?_
      refine g_get hC hM inX10_isInBand_X10 0 cE0 clX10 8 (by decide) tX10_isInBand_3 TX10_8 cV0_8 dX10_isInBand_14 ?_
      refine lv_aload_n hx hb dX10_isInBand_17 rfl (lv_at hl 2 rfl) ?_
      refine g_get hC hM inX10_isInBand_X1 4 cE4 clX1 2 (by decide) tX10_isInBand_4 TX1_2 cV4_2 dX10_isInBand_18 ?_
      refine lv_aload_n hx hb dX10_isInBand_21 rfl (lv_at hl 0 rfl) ?_
      refine g_get hC hM inX10_isInBand_X10 0 cE0 clX10 10 (by decide) tX10_isInBand_5 TX10_10 cV0_10 dX10_isInBand_22 ?_
      refine lv_aload_n hx hb dX10_isInBand_25 rfl (lv_at hl 0 rfl) ?_
      refine g_get hC hM inX10_isInBand_X10 0 cE0 clX10 8 (by decide) tX10_isInBand_3 TX10_8 cV0_8 dX10_isInBand_26 ?_
      refine g_get hC hM inX10_isInBand_X4 28 cE28 clX4 4 (by decide) tX10_isInBand_6 TX4_4 cV28_4 dX10_isInBand_29 ?_
      refine lv_aload_n hx hb dX10_isInBand_32 rfl (lv_at hl 2 rfl) ?_
      refine g_get hC hM inX10_isInBand_X1 4 cE4 clX1 2 (by decide) tX10_isInBand_4 TX1_2 cV4_2 dX10_isInBand_33 ?_
      obtain ⟨h4, hf⟩ := ck_s hf
      refine g_iald hC hM 33 cE33 h4 dX10_isInBand_36 ?_
      refine lv_iload_n hx hb dX10_isInBand_37 rfl (lv_at hl 1 rfl) ?_
      refine lv_iload_n hx hb dX10_isInBand_38 rfl (lv_at hl 3 rfl) ?_
      obtain ⟨v5, hc, hf⟩ := bd_s hf
      refine gV_i hC hM hA hl.1 [.int (S.1 33 (S.1 4 2).toNatClampNeg), .int p0, .int v2] [.int (S.1 4 2), .ref (a 28)] (c_X7_at_48 l D cs a q1 q2 N (S.1 33 (S.1 4 2).toNatClampNeg) p0 v2 S v5 hc) gX10_isInBand_X7_at rfl hd_X7_at ⟨by decide, by decide⟩ 48 7 clX7 rfl cE48 (Nat.le_of_ble_eq_true rfl) dX10_isInBand_39 rfl ⟨by decide, by decide⟩ (fun H locs hM => ?_)
      obtain ⟨v6, hc, hf⟩ := bd_s hf
      refine gV_i hC hM hA hl.1 [.int (S.1 4 2), .int v5] [] (c_X4_isIn_28 l D cs a q1 q2 N (S.1 4 2) v5 S v6 hc) gX10_isInBand_X4_isIn rfl hd_X4_isIn ⟨by decide, by decide⟩ 28 4 clX4 rfl cE28 (Nat.le_of_ble_eq_true rfl) dX10_isInBand_42 rfl ⟨by decide, by decide⟩ (fun H locs hM => ?_)
      refine lv_if_ne (tgt := 50) hx hb dX10_isInBand_45 (by decide) (fun c7 => ?_) (fun c7 => ?_)
      · replace hf := it_f c7 hf
        obtain ⟨v8, ev8⟩ : ∃ y : Int32, y = v2 + 1 := ⟨_, rfl⟩
        replace hf := nm_q ev8 hf
        refine lv_iinc (v := v8) (lv' := [(3, .int v8), (0, .ref (a 0)), (1, .int p0), (2, .ref (a 4))]) hx hb dX10_isInBand_50 hl (k := 3) rfl (by rw [ev8]; rfl) (by decide) rfl (fun ls hl => ?_)
        refine lv_goto (tgt := 5) hx hb dX10_isInBand_53 (by decide) ?_
        exact hk5 _ hf _ _ _ hM (lv_sub hl [1, 2, 3, 0] rfl)
      · replace hf := it_t c7 hf
        refine lv_iconst (v := 0) hx hb dX10_isInBand_48 (by decide) ?_
        cases so_1 hf
        exact hQ _ _ _ _ _ _ dX10_isInBand_49 hM (by decide) (by decide)
  · intro k5 hk5 hf
    exact hk5 _ hf _ _ _ hM (lv_sub hl [1, 2, 3, 0] rfl)

theorem hd_X10_isTrue : yX10_isTrue.cls = RX10 ∧ yX10_isTrue.cls ≠ "java/lang/invoke/MethodHandle" ∧ yX10_isTrue.cls ≠ "java/lang/invoke/VarHandle" ∧ (parseMethodDescriptor yX10_isTrue.desc).map (fun d => d.parameters.length) = some 1 := by decide +kernel
theorem tX10_isTrue_1 : Cond.fieldLink RX10 312 "WeatherTeller$ClauseReader" "places" "I" ∈ wsX10_isTrue := List.mem_of_getElem? (i := 1) rfl
theorem inX10_isTrue_X1 : ∀ w ∈ u_ws RX1 TX1 5, w ∈ wsX10_isTrue := fun _ h => List.mem_cons_of_mem _ (List.mem_append_left _ (List.mem_append_left _ (List.mem_append_left _ (List.mem_append_right _ h))))
theorem tX10_isTrue_2 : Cond.fieldLink RX10 313 "WeatherTeller$ClauseReader" "from" "I" ∈ wsX10_isTrue := List.mem_of_getElem? (i := 2) rfl
theorem tX10_isTrue_3 : Cond.fieldLink RX10 316 "WeatherTeller$ClauseReader" "to" "I" ∈ wsX10_isTrue := List.mem_of_getElem? (i := 3) rfl
theorem tX10_isTrue_4 : Cond.fieldLink RX10 70 "WeatherTeller" "rules" "LWeatherTeller$Rules;" ∈ wsX10_isTrue := List.mem_of_getElem? (i := 4) rfl
theorem inX10_isTrue_X10 : ∀ w ∈ u_ws RX10 TX10 13, w ∈ wsX10_isTrue := fun _ h => List.mem_cons_of_mem _ (List.mem_append_left _ (List.mem_append_left _ (List.mem_append_right _ h)))
theorem tX10_isTrue_5 : Cond.fieldLink RX10 228 "WeatherTeller$Rules" "places" "I" ∈ wsX10_isTrue := List.mem_of_getElem? (i := 5) rfl
theorem inX10_isTrue_X4 : ∀ w ∈ u_ws RX4 TX4 12, w ∈ wsX10_isTrue := fun _ h => List.mem_cons_of_mem _ (List.mem_append_left _ (List.mem_append_right _ h))
def j_X10_isTrue_64 (v4 : Int32) (k31 : Int32 → Option (Int32))  : Option (Int32) :=
  nm (v4 + 1) fun v7 =>
  k31 v7
def b_X10_isTrue_31 (N : Nat) (S : St) (k31 : Int32 → Option (Int32)) (v4 : Int32) : Option (Int32) :=
  if (S.1 28 9) ≤ v4 then
    some 1
  else
    bd (f_X10_hasBit N (S.1 4 1) v4) fun v6 =>
    jp (j_X10_isTrue_64 v4 k31) fun k64 =>
    if v6 = 0 then
      k64
    else
      bd (f_X10_isInBand N v4 S) fun v9 =>
      if v9 = 0 then
        some 0
      else
        k64
def f_X10_isTrue (N : Nat)  (S : St) : Option (Int32) :=
  z1 <|
  if (S.1 4 1) = 0 then
    some 0
  else
    if (S.1 4 4) < (S.1 4 3) then
      some 0
    else
      if (S.1 4 4) < 24 then
        jp (lp (fun _ => none) (b_X10_isTrue_31 N S) N) fun k31 =>
        k31 0
      else
        some 0
abbrev rmX10_isTrue : Room := { frames := 4, cells := 0, slots := 0, locals := 91 }
set_option maxRecDepth 100000 in
set_option maxHeartbeats 4000000 in
theorem c_X10_isTrue (l : Launch) (D : va_G) (cs : Nat → ClassId) (a : Nat → Nat) (q1 q2 : Nat) (N : Nat) (S : St) (rz : Int32) (hf : f_X10_isTrue N S = some rz) : gMi l yX10_isTrue wsX10_isTrue rmX10_isTrue D cs [.ref (a 0), .ref (a 4)] (ccells cs a q1 q2 S) rz (ccells cs a q1 q2 S) := by
  unfold f_X10_isTrue at hf
  obtain ⟨hrz, hf⟩ := z1_s hf
  refine gE_z (cc := cX10_isTrue) (maxL := 3) hrz (by decide) rfl (Nat.le_of_ble_eq_true rfl) ?_
  intro p e s m args below meth c A Q hC hA hQ hM ls hl
  obtain ⟨hx, hb, hml, hown, hts⟩ := hC.1
  have hl : lv_has ls 3 [(0, .ref (a 0)), (1, .ref (a 4))] := hl
  refine lv_aload_n hx hb dX10_isTrue_0 rfl (lv_at hl 1 rfl) ?_
  refine g_get hC hM inX10_isTrue_X1 4 cE4 clX1 1 (by decide) tX10_isTrue_1 TX1_1 cV4_1 dX10_isTrue_1 ?_
  refine lv_if_eq (tgt := 27) hx hb dX10_isTrue_4 (by decide) (fun c1 => ?_) (fun c1 => ?_)
  · replace hf := it_t c1 hf
    refine lv_iconst (v := 0) hx hb dX10_isTrue_27 (by decide) ?_
    cases so_1 hf
    exact hQ _ _ _ _ _ _ dX10_isTrue_28 hM (by decide) (by decide)
  · replace hf := it_f c1 hf
    refine lv_aload_n hx hb dX10_isTrue_7 rfl (lv_at hl 1 rfl) ?_
    refine g_get hC hM inX10_isTrue_X1 4 cE4 clX1 3 (by decide) tX10_isTrue_2 TX1_3 cV4_3 dX10_isTrue_8 ?_
    refine lv_aload_n hx hb dX10_isTrue_11 rfl (lv_at hl 1 rfl) ?_
    refine g_get hC hM inX10_isTrue_X1 4 cE4 clX1 4 (by decide) tX10_isTrue_3 TX1_4 cV4_4 dX10_isTrue_12 ?_
    refine lv_icmp_gt (tgt := 27) hx hb dX10_isTrue_15 (by decide) (fun c2 => ?_) (fun c2 => ?_)
    · replace hf := it_t c2 hf
      refine lv_iconst (v := 0) hx hb dX10_isTrue_27 (by decide) ?_
      cases so_1 hf
      exact hQ _ _ _ _ _ _ dX10_isTrue_28 hM (by decide) (by decide)
    · replace hf := it_f c2 hf
      refine lv_aload_n hx hb dX10_isTrue_18 rfl (lv_at hl 1 rfl) ?_
      refine g_get hC hM inX10_isTrue_X1 4 cE4 clX1 4 (by decide) tX10_isTrue_3 TX1_4 cV4_4 dX10_isTrue_19 ?_
      refine lv_bipush (v := 24) hx hb dX10_isTrue_22 (by decide) ?_
      refine lv_icmp_lt (tgt := 29) hx hb dX10_isTrue_24 (by decide) (fun c3 => ?_) (fun c3 => ?_)
      · replace hf := it_t c3 hf
        refine lv_iconst (v := 0) hx hb dX10_isTrue_29 (by decide) ?_
        refine lv_istore_n (lv' := [(2, .int 0), (0, .ref (a 0)), (1, .ref (a 4))]) hx hb dX10_isTrue_30 rfl hl (by decide) rfl (fun ls hl => ?_)
        refine jl_W (fun k31 : Int32 → Option (Int32) => ∀ (v4 : Int32), k31 v4 = some rz → ∀ (H : Heap) (locs : List Loc) (ls : Array Slot), gw D A s.heap H locs (ccells cs a q1 q2 S) → lv_has ls 3 [(0, .ref (a 0)), (1, .ref (a 4)), (2, .int v4)] → W p l e rmX10_isTrue s m args below meth c H locs 0 0 Q (F0 m 31 ls [])) ?_ ?_ ?_ hf
        · intro v4 h; cases h
        · intro k31 hk31 v4 hf H locs ls hM hl
          unfold b_X10_isTrue_31 at hf
          refine lv_iload_n hx hb dX10_isTrue_31 rfl (lv_at hl 2 rfl) ?_
          refine lv_aload_n hx hb dX10_isTrue_32 rfl (lv_at hl 0 rfl) ?_
          refine g_get hC hM inX10_isTrue_X10 0 cE0 clX10 8 (by decide) tX10_isTrue_4 TX10_8 cV0_8 dX10_isTrue_33 ?_
          refine g_get hC hM inX10_isTrue_X4 28 cE28 clX4 9 (by decide) tX10_isTrue_5 TX4_9 cV28_9 dX10_isTrue_36 ?_
          refine lv_icmp_ge (tgt := 70) hx hb dX10_isTrue_39 (by decide) (fun c5 => ?_) (fun c5 => ?_)
          · replace hf := it_t c5 hf
            refine lv_iconst (v := 1) hx hb dX10_isTrue_70 (by decide) ?_
            cases so_1 hf
            exact hQ _ _ _ _ _ _ dX10_isTrue_71 hM (by decide) (by decide)
          · replace hf := it_f c5 hf
            refine lv_aload_n hx hb dX10_isTrue_42 rfl (lv_at hl 1 rfl) ?_
            refine g_get hC hM inX10_isTrue_X1 4 cE4 clX1 1 (by decide) tX10_isTrue_1 TX1_1 cV4_1 dX10_isTrue_43 ?_
            refine lv_iload_n hx hb dX10_isTrue_46 rfl (lv_at hl 2 rfl) ?_
            obtain ⟨v6, hc, hf⟩ := bd_s hf
            refine gS_i hC hM hA hl.1 [.int (S.1 4 1), .int v4] [] (c_X10_hasBit l D cs (ccells cs a q1 q2 S) N (S.1 4 1) v4 v6 hc) gX10_isTrue_X10_hasBit rfl hd_X10_hasBit ⟨by decide, by decide⟩ (Nat.le_of_ble_eq_true rfl) dX10_isTrue_47 rfl ⟨by decide, by decide⟩ (fun H locs hM => ?_)
            refine jp_W (fun k64 : Option (Int32) => k64 = some rz → ∀ (H : Heap) (locs : List Loc) (ls : Array Slot), gw D A s.heap H locs (ccells cs a q1 q2 S) → lv_has ls 3 [(0, .ref (a 0)), (1, .ref (a 4)), (2, .int v4)] → W p l e rmX10_isTrue s m args below meth c H locs 0 0 Q (F0 m 64 ls [])) ?_ ?_ hf
            · intro  hf H locs ls hM hl
              unfold j_X10_isTrue_64 at hf
              obtain ⟨v7, ev7⟩ : ∃ y : Int32, y = v4 + 1 := ⟨_, rfl⟩
              replace hf := nm_q ev7 hf
              refine lv_iinc (v := v7) (lv' := [(2, .int v7), (0, .ref (a 0)), (1, .ref (a 4))]) hx hb dX10_isTrue_64 hl (k := 2) rfl (by rw [ev7]; rfl) (by decide) rfl (fun ls hl => ?_)
              refine lv_goto (tgt := 31) hx hb dX10_isTrue_67 (by decide) ?_
              exact hk31 _ hf _ _ _ hM (lv_sub hl [1, 2, 0] rfl)
            · intro k64 hk64 hf
              refine lv_if_eq (tgt := 64) hx hb dX10_isTrue_50 (by decide) (fun c8 => ?_) (fun c8 => ?_)
              · replace hf := it_t c8 hf
                exact hk64 hf _ _ _ hM hl
              · replace hf := it_f c8 hf
                refine lv_aload_n hx hb dX10_isTrue_53 rfl (lv_at hl 0 rfl) ?_
                refine lv_iload_n hx hb dX10_isTrue_54 rfl (lv_at hl 2 rfl) ?_
                refine lv_aload_n hx hb dX10_isTrue_55 rfl (lv_at hl 1 rfl) ?_
                obtain ⟨v9, hc, hf⟩ := bd_s hf
                refine gV_i hC hM hA hl.1 [.int v4, .ref (a 4)] [] (c_X10_isInBand l D cs a q1 q2 N v4 S v9 hc) gX10_isTrue_X10_isInBand rfl hd_X10_isInBand ⟨by decide, by decide⟩ 0 10 clX10 rfl cE0 (Nat.le_of_ble_eq_true rfl) dX10_isTrue_56 rfl ⟨by decide, by decide⟩ (fun H locs hM => ?_)
                refine lv_if_ne (tgt := 64) hx hb dX10_isTrue_59 (by decide) (fun c10 => ?_) (fun c10 => ?_)
                · replace hf := it_f c10 hf
                  exact hk64 hf _ _ _ hM hl
                · replace hf := it_t c10 hf
                  refine lv_iconst (v := 0) hx hb dX10_isTrue_62 (by decide) ?_
                  cases so_1 hf
                  exact hQ _ _ _ _ _ _ dX10_isTrue_63 hM (by decide) (by decide)
        · intro k31 hk31 hf
          exact hk31 _ hf _ _ _ hM (lv_sub hl [1, 2, 0] rfl)
      · replace hf := it_f c3 hf
        refine lv_iconst (v := 0) hx hb dX10_isTrue_27 (by decide) ?_
        cases so_1 hf
        exact hQ _ _ _ _ _ _ dX10_isTrue_28 hM (by decide) (by decide)

theorem hd_X10_held : yX10_held.cls = RX10 ∧ yX10_held.cls ≠ "java/lang/invoke/MethodHandle" ∧ yX10_held.cls ≠ "java/lang/invoke/VarHandle" ∧ (parseMethodDescriptor yX10_held.desc).map (fun d => d.parameters.length) = some 1 := by decide +kernel
theorem tX10_held_1 : Cond.fieldLink RX10 12 "WeatherTeller" "tape" "LWeatherTeller$Tape;" ∈ wsX10_held := List.mem_of_getElem? (i := 1) rfl
theorem inX10_held_X10 : ∀ w ∈ u_ws RX10 TX10 13, w ∈ wsX10_held := fun _ h => List.mem_cons_of_mem _ (List.mem_append_left _ (List.mem_append_left _ (List.mem_append_left _ (List.mem_append_left _ (List.mem_append_right _ h)))))
theorem tX10_held_2 : Cond.fieldLink RX10 219 "WeatherTeller$Tape" "at" "I" ∈ wsX10_held := List.mem_of_getElem? (i := 2) rfl
theorem inX10_held_X8 : ∀ w ∈ u_ws RX8 TX8 4, w ∈ wsX10_held := fun _ h => List.mem_cons_of_mem _ (List.mem_append_left _ (List.mem_append_left _ (List.mem_append_left _ (List.mem_append_right _ h))))
theorem tX10_held_3 : Cond.fieldLink RX10 26 "WeatherTeller" "clauseReader" "LWeatherTeller$ClauseReader;" ∈ wsX10_held := List.mem_of_getElem? (i := 3) rfl
theorem tX10_held_4 : Cond.fieldLink RX10 70 "WeatherTeller" "rules" "LWeatherTeller$Rules;" ∈ wsX10_held := List.mem_of_getElem? (i := 4) rfl
def b_X10_held_26 (N : Nat) (k26 : Int32 → St → Option (Int32 × St)) (v5 : Int32) (S6 : St) : Option (Int32 × St) :=
  if 1000 ≤ v5 then
    some (v5, S6)
  else
    bd (f_X8_isAtEnd N S6) fun v8 =>
    if v8 = 0 then
      nm (S6.1 1 2) fun v10 =>
      bd2 (f_X1_read N S6) fun v11 S12 =>
      if v11 = 0 then
        some (((-1) - v10), S12)
      else
        bd (f_X10_isTrue N S12) fun v14 =>
        if v14 = 0 then
          some (((-1) - v10), S12)
        else
          nm (v5 + 1) fun v16 =>
          bd (f_X8_skip N 32 S12) fun S17 =>
          k26 v16 S17
    else
      some (v5, S6)
def f_X10_held (N : Nat) (p0 : Int32) (S : St) : Option (Int32 × St) :=
  bd2 (f_X8_open N p0 S) fun v1 S2 =>
  if v1 = 0 then
    some ((-10000), S2)
  else
    bd (f_X8_skip N 32 S2) fun S4 =>
    jp (lp (fun _ _ => none) (b_X10_held_26 N) N) fun k26 =>
    k26 0 S4
abbrev rmX10_held : Room := { frames := 6, cells := 0, slots := 0, locals := 137 }
set_option maxRecDepth 100000 in
set_option maxHeartbeats 4000000 in
theorem c_X10_held (l : Launch) (D : va_G) (cs : Nat → ClassId) (a : Nat → Nat) (q1 q2 : Nat) (N : Nat) (p0 : Int32) (S : St) (rz : Int32) (Sz : St) (hf : f_X10_held N p0 S = some (rz, Sz)) : gMi l yX10_held wsX10_held rmX10_held D cs [.ref (a 0), .int p0] (ccells cs a q1 q2 S) rz (ccells cs a q1 q2 Sz) := by
  unfold f_X10_held at hf
  refine gE_i (cc := cX10_held) (maxL := 4) (by decide) rfl (Nat.le_of_ble_eq_true rfl) ?_
  intro p e s m args below meth c A Q hC hA hQ hM ls hl
  obtain ⟨hx, hb, hml, hown, hts⟩ := hC.1
  have hl : lv_has ls 4 [(0, .ref (a 0)), (1, .int p0)] := hl
  refine lv_aload_n hx hb dX10_held_0 rfl (lv_at hl 0 rfl) ?_
  refine g_get hC hM inX10_held_X10 0 cE0 clX10 0 (by decide) tX10_held_1 TX10_0 cV0_0 dX10_held_1 ?_
  refine lv_iload_n hx hb dX10_held_4 rfl (lv_at hl 1 rfl) ?_
  obtain ⟨v1, S2, hc, hf⟩ := bd2_s hf
  refine gV_i hC hM hA hl.1 [.int p0] [] (c_X8_open l D cs a q1 q2 N p0 S v1 S2 hc) gX10_held_X8_open rfl hd_X8_open ⟨by decide, by decide⟩ 1 8 clX8 rfl cE1 (Nat.le_of_ble_eq_true rfl) dX10_held_5 rfl ⟨by decide, by decide⟩ (fun H locs hM => ?_)
  refine lv_if_ne (tgt := 15) hx hb dX10_held_8 (by decide) (fun c3 => ?_) (fun c3 => ?_)
  · replace hf := it_f c3 hf
    refine lv_aload_n hx hb dX10_held_15 rfl (lv_at hl 0 rfl) ?_
    refine g_get hC hM inX10_held_X10 0 cE0 clX10 0 (by decide) tX10_held_1 TX10_0 cV0_0 dX10_held_16 ?_
    refine lv_bipush (v := 32) hx hb dX10_held_19 (by decide) ?_
    obtain ⟨S4, hc, hf⟩ := bd_s hf
    refine gV_v hC hM hA hl.1 [.int 32] [] (c_X8_skip l D cs a q1 q2 N 32 S2 S4 hc) gX10_held_X8_skip rfl hd_X8_skip ⟨by decide, by decide⟩ 1 8 clX8 rfl cE1 (Nat.le_of_ble_eq_true rfl) dX10_held_21 rfl ⟨by decide, by decide⟩ (fun H locs hM => ?_)
    refine lv_iconst (v := 0) hx hb dX10_held_24 (by decide) ?_
    refine lv_istore_n (lv' := [(2, .int 0), (0, .ref (a 0)), (1, .int p0)]) hx hb dX10_held_25 rfl hl (by decide) rfl (fun ls hl => ?_)
    refine jl_W (fun k26 : Int32 → St → Option (Int32 × St) => ∀ (v5 : Int32) (S6 : St), k26 v5 S6 = some (rz, Sz) → ∀ (H : Heap) (locs : List Loc) (ls : Array Slot), gw D A s.heap H locs (ccells cs a q1 q2 S6) → lv_has ls 4 [(0, .ref (a 0)), (2, .int v5)] → W p l e rmX10_held s m args below meth c H locs 0 0 Q (F0 m 26 ls [])) ?_ ?_ ?_ hf
    · intro v5 S6 h; cases h
    · intro k26 hk26 v5 S6 hf H locs ls hM hl
      unfold b_X10_held_26 at hf
      refine lv_iload_n hx hb dX10_held_26 rfl (lv_at hl 1 rfl) ?_
      refine lv_sipush (v := 1000) hx hb dX10_held_27 (by decide) ?_
      refine lv_icmp_ge (tgt := 99) hx hb dX10_held_30 (by decide) (fun c7 => ?_) (fun c7 => ?_)
      · replace hf := it_t c7 hf
        refine lv_iload_n hx hb dX10_held_99 rfl (lv_at hl 1 rfl) ?_
        obtain ⟨e1, e2⟩ := so_2 hf
        cases e1; cases e2
        exact hQ _ _ _ _ _ _ dX10_held_100 hM (by decide) (by decide)
      · replace hf := it_f c7 hf
        refine lv_aload_n hx hb dX10_held_33 rfl (lv_at hl 0 rfl) ?_
        refine g_get hC hM inX10_held_X10 0 cE0 clX10 0 (by decide) tX10_held_1 TX10_0 cV0_0 dX10_held_34 ?_
        obtain ⟨v8, hc, hf⟩ := bd_s hf
        refine gV_i hC hM hA hl.1 [] [] (c_X8_isAtEnd l D cs a q1 q2 N S6 v8 hc) gX10_held_X8_isAtEnd rfl hd_X8_isAtEnd ⟨by decide, by decide⟩ 1 8 clX8 rfl cE1 (Nat.le_of_ble_eq_true rfl) dX10_held_37 rfl ⟨by decide, by decide⟩ (fun H locs hM => ?_)
        refine lv_if_ne (tgt := 99) hx hb dX10_held_40 (by decide) (fun c9 => ?_) (fun c9 => ?_)
        · replace hf := it_f c9 hf
          refine lv_iload_n hx hb dX10_held_99 rfl (lv_at hl 1 rfl) ?_
          obtain ⟨e1, e2⟩ := so_2 hf
          cases e1; cases e2
          exact hQ _ _ _ _ _ _ dX10_held_100 hM (by decide) (by decide)
        · replace hf := it_t c9 hf
          refine lv_aload_n hx hb dX10_held_43 rfl (lv_at hl 0 rfl) ?_
          refine g_get hC hM inX10_held_X10 0 cE0 clX10 0 (by decide) tX10_held_1 TX10_0 cV0_0 dX10_held_44 ?_
          refine g_get hC hM inX10_held_X8 1 cE1 clX8 2 (by decide) tX10_held_2 TX8_2 cV1_2 dX10_held_47 ?_
          refine lv_topi (fun v10 ev10 => ?_)
          replace hf := nm_q ev10 hf
          refine lv_istore_n (lv' := [(3, .int v10), (0, .ref (a 0)), (2, .int v5)]) hx hb dX10_held_50 rfl hl (by decide) rfl (fun ls hl => ?_)
          refine lv_aload_n hx hb dX10_held_51 rfl (lv_at hl 1 rfl) ?_
          refine g_get hC hM inX10_held_X10 0 cE0 clX10 2 (by decide) tX10_held_3 TX10_2 cV0_2 dX10_held_52 ?_
          refine lv_aload_n hx hb dX10_held_55 rfl (lv_at hl 1 rfl) ?_
          refine g_get hC hM inX10_held_X10 0 cE0 clX10 0 (by decide) tX10_held_1 TX10_0 cV0_0 dX10_held_56 ?_
          refine lv_aload_n hx hb dX10_held_59 rfl (lv_at hl 1 rfl) ?_
          refine g_get hC hM inX10_held_X10 0 cE0 clX10 8 (by decide) tX10_held_4 TX10_8 cV0_8 dX10_held_60 ?_
          obtain ⟨v11, S12, hc, hf⟩ := bd2_s hf
          refine gV_i hC hM hA hl.1 [.ref (a 1), .ref (a 28)] [] (c_X1_read l D cs a q1 q2 N S6 v11 S12 hc) gX10_held_X1_read rfl hd_X1_read ⟨by decide, by decide⟩ 4 1 clX1 rfl cE4 (Nat.le_of_ble_eq_true rfl) dX10_held_63 rfl ⟨by decide, by decide⟩ (fun H locs hM => ?_)
          refine lv_if_eq (tgt := 80) hx hb dX10_held_66 (by decide) (fun c13 => ?_) (fun c13 => ?_)
          · replace hf := it_t c13 hf
            refine lv_iconst (v := (-1)) hx hb dX10_held_80 (by decide) ?_
            refine lv_iload_n hx hb dX10_held_81 rfl (lv_at hl 0 rfl) ?_
            refine lv_isub hx hb dX10_held_82 ?_
            obtain ⟨e1, e2⟩ := so_2 hf
            cases e1; cases e2
            exact hQ _ _ _ _ _ _ dX10_held_83 hM (by decide) (by decide)
          · replace hf := it_f c13 hf
            refine lv_aload_n hx hb dX10_held_69 rfl (lv_at hl 1 rfl) ?_
            refine lv_aload_n hx hb dX10_held_70 rfl (lv_at hl 1 rfl) ?_
            refine g_get hC hM inX10_held_X10 0 cE0 clX10 2 (by decide) tX10_held_3 TX10_2 cV0_2 dX10_held_71 ?_
            obtain ⟨v14, hc, hf⟩ := bd_s hf
            refine gV_i hC hM hA hl.1 [.ref (a 4)] [] (c_X10_isTrue l D cs a q1 q2 N S12 v14 hc) gX10_held_X10_isTrue rfl hd_X10_isTrue ⟨by decide, by decide⟩ 0 10 clX10 rfl cE0 (Nat.le_of_ble_eq_true rfl) dX10_held_74 rfl ⟨by decide, by decide⟩ (fun H locs hM => ?_)
            refine lv_if_ne (tgt := 84) hx hb dX10_held_77 (by decide) (fun c15 => ?_) (fun c15 => ?_)
            · replace hf := it_f c15 hf
              obtain ⟨v16, ev16⟩ : ∃ y : Int32, y = v5 + 1 := ⟨_, rfl⟩
              replace hf := nm_q ev16 hf
              refine lv_iinc (v := v16) (lv' := [(2, .int v16), (3, .int v10), (0, .ref (a 0))]) hx hb dX10_held_84 hl (k := 2) rfl (by rw [ev16]; rfl) (by decide) rfl (fun ls hl => ?_)
              refine lv_aload_n hx hb dX10_held_87 rfl (lv_at hl 2 rfl) ?_
              refine g_get hC hM inX10_held_X10 0 cE0 clX10 0 (by decide) tX10_held_1 TX10_0 cV0_0 dX10_held_88 ?_
              refine lv_bipush (v := 32) hx hb dX10_held_91 (by decide) ?_
              obtain ⟨S17, hc, hf⟩ := bd_s hf
              refine gV_v hC hM hA hl.1 [.int 32] [] (c_X8_skip l D cs a q1 q2 N 32 S12 S17 hc) gX10_held_X8_skip rfl hd_X8_skip ⟨by decide, by decide⟩ 1 8 clX8 rfl cE1 (Nat.le_of_ble_eq_true rfl) dX10_held_93 rfl ⟨by decide, by decide⟩ (fun H locs hM => ?_)
              refine lv_goto (tgt := 26) hx hb dX10_held_96 (by decide) ?_
              exact hk26 _ _ hf _ _ _ hM (lv_sub hl [2, 0] rfl)
            · replace hf := it_t c15 hf
              refine lv_iconst (v := (-1)) hx hb dX10_held_80 (by decide) ?_
              refine lv_iload_n hx hb dX10_held_81 rfl (lv_at hl 0 rfl) ?_
              refine lv_isub hx hb dX10_held_82 ?_
              obtain ⟨e1, e2⟩ := so_2 hf
              cases e1; cases e2
              exact hQ _ _ _ _ _ _ dX10_held_83 hM (by decide) (by decide)
    · intro k26 hk26 hf
      exact hk26 _ _ hf _ _ _ hM (lv_sub hl [1, 0] rfl)
  · replace hf := it_t c3 hf
    refine lv_sipush (v := (-10000)) hx hb dX10_held_11 (by decide) ?_
    obtain ⟨e1, e2⟩ := so_2 hf
    cases e1; cases e2
    exact hQ _ _ _ _ _ _ dX10_held_14 hM (by decide) (by decide)
