theorem hd_X10_finding : yX10_finding.cls = RX10 ∧ yX10_finding.cls ≠ "java/lang/invoke/MethodHandle" ∧ yX10_finding.cls ≠ "java/lang/invoke/VarHandle" ∧ (parseMethodDescriptor yX10_finding.desc).map (fun d => d.parameters.length) = some 2 := by decide +kernel
theorem tX10_finding_5 : Cond.fieldLink RX10 40 "WeatherTeller" "findings" "LWeatherTeller$Findings;" ∈ wsX10_finding := List.mem_of_getElem? (i := 5) rfl
theorem inX10_finding_X10 : ∀ w ∈ u_ws RX10 TX10 13, w ∈ wsX10_finding := fun _ h => List.mem_cons_of_mem _ (List.mem_append_left _ (List.mem_append_left _ (List.mem_append_left _ (List.mem_append_left _ (List.mem_append_left _ (List.mem_append_left _ (List.mem_append_left _ (List.mem_append_right _ h))))))))
theorem tX10_finding_6 : Cond.fieldLink RX10 142 "WeatherTeller$Findings" "size" "I" ∈ wsX10_finding := List.mem_of_getElem? (i := 6) rfl
theorem inX10_finding_X2 : ∀ w ∈ u_ws RX2 TX2 7, w ∈ wsX10_finding := fun _ h => List.mem_cons_of_mem _ (List.mem_append_left _ (List.mem_append_left _ (List.mem_append_left _ (List.mem_append_left _ (List.mem_append_left _ (List.mem_append_left _ (List.mem_append_right _ h)))))))
theorem tX10_finding_7 : Cond.fieldLink RX10 152 "WeatherTeller$Findings" "bands" "[I" ∈ wsX10_finding := List.mem_of_getElem? (i := 7) rfl
theorem tX10_finding_8 : Cond.fieldLink RX10 155 "WeatherTeller$Findings" "froms" "[I" ∈ wsX10_finding := List.mem_of_getElem? (i := 8) rfl
theorem tX10_finding_9 : Cond.fieldLink RX10 158 "WeatherTeller$Findings" "tos" "[I" ∈ wsX10_finding := List.mem_of_getElem? (i := 9) rfl
theorem tX10_finding_10 : Cond.fieldLink RX10 161 "WeatherTeller$Findings" "places" "[I" ∈ wsX10_finding := List.mem_of_getElem? (i := 10) rfl
theorem tX10_finding_11 : Cond.fieldLink RX10 33 "WeatherTeller" "groups" "LWeatherTeller$Groups;" ∈ wsX10_finding := List.mem_of_getElem? (i := 11) rfl
def j_X10_finding_19 (S1 : St)  : Option ((Nat × Int32) × St) :=
  some ((1, 0), S1)
def f_X10_finding (N : Nat) (p0 : Int32) (p1 : Int32) (S : St) : Option ((Nat × Int32) × St) :=
  bd (f_X10_knowFindings N S) fun S1 =>
  jp (j_X10_finding_19 S1) fun k19 =>
  if p0 < 0 then
    k19
  else
    if p0 < (S1.1 8 4) then
      if p1 = 0 then
        ck p0 432 <|
        some ((0, (S1.1 9 p0.toNatClampNeg)), S1)
      else
      if p1 = 1 then
        ck p0 432 <|
        some ((0, (S1.1 10 p0.toNatClampNeg)), S1)
      else
      if p1 = 2 then
        ck p0 432 <|
        some ((0, (S1.1 11 p0.toNatClampNeg)), S1)
      else
      if p1 = 3 then
        ck p0 432 <|
        some ((0, (S1.1 12 p0.toNatClampNeg)), S1)
      else
      if p1 = 4 then
        bd (f_X10_weightOf N p0 S1) fun v13 =>
        some ((0, v13), S1)
      else
      if p1 = 5 then
        bd (f_X10_isWarning N p0 S1) fun v15 =>
        if v15 = 0 then
          some ((0, 0), S1)
        else
          some ((0, 1), S1)
      else
      if p1 = 6 then
        bd2 (f_X10_clauseLength N p0 S1) fun v18 S19 =>
        some ((0, v18), S19)
      else
      if p1 = 7 then
        ck p0 432 <|
        bd2 (f_X3_namesOf N (S1.1 12 p0.toNatClampNeg) S1) fun v22 S23 =>
        some ((0, v22), S23)
      else
      if p1 = 8 then
        ck p0 432 <|
        bd2 (f_X3_takenOutOf N (S1.1 12 p0.toNatClampNeg) S1) fun v26 S27 =>
        some ((0, v26), S27)
      else
        some ((2, 0), S1)
    else
      k19
theorem mo_X10_finding {N : Nat} {p0 : Int32} {p1 : Int32} {S : St} {cd : Nat} {rz : Int32} {Sz : St} (hf : f_X10_finding N p0 p1 S = some ((cd, rz), Sz)) : ph S ≤ ph Sz := by
  unfold f_X10_finding at hf
  obtain ⟨S1, hc, hf⟩ := bd_s hf
  have gS1 : ph S ≤ ph S1 := mo_X10_knowFindings hc
  refine jp_W (fun k19 : Option ((Nat × Int32) × St) => k19 = some ((cd, rz), Sz) → ph S1 ≤ ph Sz ∧ True) ?_ ?_ hf
  · intro  hf
    unfold j_X10_finding_19 at hf
    refine ⟨?_, trivial⟩
    obtain ⟨e1, e2⟩ := so_2 hf
    cases e1; cases e2
    omega
  · intro k19 hk19 hf
    rcases it_s hf with ⟨-, hf⟩ | ⟨-, hf⟩
    · skip
      have hj := (hk19 hf).1
      omega
    · skip
      rcases it_s hf with ⟨-, hf⟩ | ⟨-, hf⟩
      · skip
        rcases it_s hf with ⟨-, hf⟩ | ⟨-, hf⟩
        · skip
          obtain ⟨-, hf⟩ := ck_s hf
          obtain ⟨e1, e2⟩ := so_2 hf
          cases e1; cases e2
          omega
        · skip
          rcases it_s hf with ⟨-, hf⟩ | ⟨-, hf⟩
          · skip
            obtain ⟨-, hf⟩ := ck_s hf
            obtain ⟨e1, e2⟩ := so_2 hf
            cases e1; cases e2
            omega
          · skip
            rcases it_s hf with ⟨-, hf⟩ | ⟨-, hf⟩
            · skip
              obtain ⟨-, hf⟩ := ck_s hf
              obtain ⟨e1, e2⟩ := so_2 hf
              cases e1; cases e2
              omega
            · skip
              rcases it_s hf with ⟨-, hf⟩ | ⟨-, hf⟩
              · skip
                obtain ⟨-, hf⟩ := ck_s hf
                obtain ⟨e1, e2⟩ := so_2 hf
                cases e1; cases e2
                omega
              · skip
                rcases it_s hf with ⟨-, hf⟩ | ⟨-, hf⟩
                · skip
                  obtain ⟨v13, hc, hf⟩ := bd_s hf
                  obtain ⟨e1, e2⟩ := so_2 hf
                  cases e1; cases e2
                  omega
                · skip
                  rcases it_s hf with ⟨-, hf⟩ | ⟨-, hf⟩
                  · skip
                    obtain ⟨v15, hc, hf⟩ := bd_s hf
                    rcases it_s hf with ⟨-, hf⟩ | ⟨-, hf⟩
                    · skip
                      obtain ⟨e1, e2⟩ := so_2 hf
                      cases e1; cases e2
                      omega
                    · skip
                      obtain ⟨e1, e2⟩ := so_2 hf
                      cases e1; cases e2
                      omega
                  · skip
                    rcases it_s hf with ⟨-, hf⟩ | ⟨-, hf⟩
                    · skip
                      obtain ⟨v18, S19, hc, hf⟩ := bd2_s hf
                      have gS19 : ph S1 ≤ ph S19 := mo_X10_clauseLength hc
                      obtain ⟨e1, e2⟩ := so_2 hf
                      cases e1; cases e2
                      omega
                    · skip
                      rcases it_s hf with ⟨-, hf⟩ | ⟨-, hf⟩
                      · skip
                        obtain ⟨-, hf⟩ := ck_s hf
                        obtain ⟨v22, S23, hc, hf⟩ := bd2_s hf
                        have gS23 : ph S1 ≤ ph S23 := mo_X3_namesOf hc
                        obtain ⟨e1, e2⟩ := so_2 hf
                        cases e1; cases e2
                        omega
                      · skip
                        rcases it_s hf with ⟨-, hf⟩ | ⟨-, hf⟩
                        · skip
                          obtain ⟨-, hf⟩ := ck_s hf
                          obtain ⟨v26, S27, hc, hf⟩ := bd2_s hf
                          have gS27 : ph S1 ≤ ph S27 := mo_X3_takenOutOf hc
                          obtain ⟨e1, e2⟩ := so_2 hf
                          cases e1; cases e2
                          omega
                        · skip
                          obtain ⟨e1, e2⟩ := so_2 hf
                          cases e1; cases e2
                          omega
      · skip
        have hj := (hk19 hf).1
        omega
set_option maxRecDepth 100000 in
set_option maxHeartbeats 4000000 in
theorem c_X10_finding (l : Launch) (hl0 : l.stackTraces = false) (D : va_G) (cs : Nat → ClassId) (adK adV : Nat → Nat) (a : Nat → Nat) (q1 q2 : Nat) (N : Nat) (p0 : Int32) (p1 : Int32) (S : St) (cd : Nat) (rz : Int32) (Sz : St) (hf : f_X10_finding N p0 p1 S = some ((cd, rz), Sz)) : gF l yX10_finding wsX10_finding 8 176 D cs adK adV [.ref (a 0), .int p0, .int p1] a q1 q2 S cd rz Sz := by
  have hzz : ph S ≤ ph Sz := mo_X10_finding hf
  unfold f_X10_finding at hf
  refine gFE hl0 (by decide) (by decide) (Nat.le_of_ble_eq_true rfl) ?_
  intro p e s m args below meth c A Q hC hA hR hZ hQ hT1 hT2 hM ls hl
  obtain ⟨hx, hb, hml, hown, hts⟩ := hC.1
  have hl : lv_has ls 3 [(0, .ref (a 0)), (1, .int p0), (2, .int p1)] := hl
  have hpS : ph S ≤ ph S := Nat.le_refl _
  refine lv_aload_n hx hb dX10_finding_0 rfl (lv_at hl 0 rfl) ?_
  obtain ⟨S1, hc, hf⟩ := bd_s hf
  have gS1 : ph S ≤ ph S1 := mo_X10_knowFindings hc
  have gzS1 : ph S1 ≤ ph Sz := by
    refine jp_W (fun k19 : Option ((Nat × Int32) × St) => k19 = some ((cd, rz), Sz) → ph S1 ≤ ph Sz ∧ True) ?_ ?_ hf
    · intro  hf
      unfold j_X10_finding_19 at hf
      refine ⟨?_, trivial⟩
      obtain ⟨e1, e2⟩ := so_2 hf
      cases e1; cases e2
      omega
    · intro k19 hk19 hf
      rcases it_s hf with ⟨-, hf⟩ | ⟨-, hf⟩
      · skip
        have hj := (hk19 hf).1
        omega
      · skip
        rcases it_s hf with ⟨-, hf⟩ | ⟨-, hf⟩
        · skip
          rcases it_s hf with ⟨-, hf⟩ | ⟨-, hf⟩
          · skip
            obtain ⟨-, hf⟩ := ck_s hf
            obtain ⟨e1, e2⟩ := so_2 hf
            cases e1; cases e2
            omega
          · skip
            rcases it_s hf with ⟨-, hf⟩ | ⟨-, hf⟩
            · skip
              obtain ⟨-, hf⟩ := ck_s hf
              obtain ⟨e1, e2⟩ := so_2 hf
              cases e1; cases e2
              omega
            · skip
              rcases it_s hf with ⟨-, hf⟩ | ⟨-, hf⟩
              · skip
                obtain ⟨-, hf⟩ := ck_s hf
                obtain ⟨e1, e2⟩ := so_2 hf
                cases e1; cases e2
                omega
              · skip
                rcases it_s hf with ⟨-, hf⟩ | ⟨-, hf⟩
                · skip
                  obtain ⟨-, hf⟩ := ck_s hf
                  obtain ⟨e1, e2⟩ := so_2 hf
                  cases e1; cases e2
                  omega
                · skip
                  rcases it_s hf with ⟨-, hf⟩ | ⟨-, hf⟩
                  · skip
                    obtain ⟨v13, hc, hf⟩ := bd_s hf
                    obtain ⟨e1, e2⟩ := so_2 hf
                    cases e1; cases e2
                    omega
                  · skip
                    rcases it_s hf with ⟨-, hf⟩ | ⟨-, hf⟩
                    · skip
                      obtain ⟨v15, hc, hf⟩ := bd_s hf
                      rcases it_s hf with ⟨-, hf⟩ | ⟨-, hf⟩
                      · skip
                        obtain ⟨e1, e2⟩ := so_2 hf
                        cases e1; cases e2
                        omega
                      · skip
                        obtain ⟨e1, e2⟩ := so_2 hf
                        cases e1; cases e2
                        omega
                    · skip
                      rcases it_s hf with ⟨-, hf⟩ | ⟨-, hf⟩
                      · skip
                        obtain ⟨v18, S19, hc, hf⟩ := bd2_s hf
                        have gS19 : ph S1 ≤ ph S19 := mo_X10_clauseLength hc
                        obtain ⟨e1, e2⟩ := so_2 hf
                        cases e1; cases e2
                        omega
                      · skip
                        rcases it_s hf with ⟨-, hf⟩ | ⟨-, hf⟩
                        · skip
                          obtain ⟨-, hf⟩ := ck_s hf
                          obtain ⟨v22, S23, hc, hf⟩ := bd2_s hf
                          have gS23 : ph S1 ≤ ph S23 := mo_X3_namesOf hc
                          obtain ⟨e1, e2⟩ := so_2 hf
                          cases e1; cases e2
                          omega
                        · skip
                          rcases it_s hf with ⟨-, hf⟩ | ⟨-, hf⟩
                          · skip
                            obtain ⟨-, hf⟩ := ck_s hf
                            obtain ⟨v26, S27, hc, hf⟩ := bd2_s hf
                            have gS27 : ph S1 ≤ ph S27 := mo_X3_takenOutOf hc
                            obtain ⟨e1, e2⟩ := so_2 hf
                            cases e1; cases e2
                            omega
                          · skip
                            obtain ⟨e1, e2⟩ := so_2 hf
                            cases e1; cases e2
                            omega
        · skip
          have hj := (hk19 hf).1
          omega
  refine W.widen (k := ph S - ph S) (n := 2 * (ph S - ph S)) (by omega) (by omega) ?_
  refine gV_v hC hM hA hl.1 [] [] (c_X10_knowFindings l D cs a q1 q2 N S S1 hc) gX10_finding_X10_knowFindings rfl hd_X10_knowFindings ⟨Nat.le_of_ble_eq_true rfl, Nat.le_of_ble_eq_true rfl⟩ 0 10 clX10 rfl cE0 (Nat.le_of_ble_eq_true rfl) dX10_finding_1 rfl ⟨by show _ + 0 ≤ ph Sz - ph S + 1; omega, by show _ + 0 ≤ 2 * (ph Sz - ph S) + 6; omega⟩ (fun H locs hM => ?_)
  refine W.widen (k := ph S - ph S) (n := 2 * (ph S - ph S)) (Nat.le_refl _) (Nat.le_refl _) ?_
  refine lv_iload_n hx hb dX10_finding_4 rfl (lv_at hl 1 rfl) ?_
  refine jp_W (fun k19 : Option ((Nat × Int32) × St) => k19 = some ((cd, rz), Sz) → ph S1 ≤ ph Sz ∧ (ph S ≤ ph S1 → ∀ (q1 q2 : Nat) (H : Heap) (locs : List Loc) (ls : Array Slot), gw D A s.heap H locs (ccells cs a q1 q2 S1) → lv_has ls 3 [] → W p l e (rmF 8 176 S Sz) s m args below meth c H locs (ph S1 - ph S) (2 * (ph S1 - ph S)) Q (F0 m 19 ls []))) ?_ ?_ hf
  · intro  hf
    unfold j_X10_finding_19 at hf
    have gzS1 : ph S1 ≤ ph Sz := by
      obtain ⟨e1, e2⟩ := so_2 hf
      cases e1; cases e2
      omega
    refine ⟨gzS1, ?_⟩
    intro hpS1 q1 q2 H locs ls hM hl
    obtain ⟨e1, e2⟩ := so_2 hf
    cases e1; cases e2
    exact hT1 _ _ _ _ _ _ _ hM hl.1 (by omega) (by omega) rfl
  · intro k19 hk19 hf
    refine lv_if_lt (tgt := 19) hx hb dX10_finding_5 (by decide) (fun c2 => ?_) (fun c2 => ?_)
    · replace hf := it_t c2 hf
      refine W.widen (k := ph S1 - ph S) (n := 2 * (ph S1 - ph S)) (by omega) (by omega) ?_
      exact (hk19 hf).2 (by omega) _ _ _ _ _ hM (lv_sub hl [] rfl)
    · replace hf := it_f c2 hf
      refine lv_iload_n hx hb dX10_finding_8 rfl (lv_at hl 1 rfl) ?_
      refine lv_aload_n hx hb dX10_finding_9 rfl (lv_at hl 0 rfl) ?_
      refine g_get hC hM inX10_finding_X10 0 cE0 clX10 4 (by decide) tX10_finding_5 TX10_4 cV0_4 dX10_finding_10 ?_
      refine g_get hC hM inX10_finding_X2 8 cE8 clX2 4 (by decide) tX10_finding_6 TX2_4 cV8_4 dX10_finding_13 ?_
      refine lv_icmp_lt (tgt := 29) hx hb dX10_finding_16 (by decide) (fun c3 => ?_) (fun c3 => ?_)
      · replace hf := it_t c3 hf
        refine lv_iload_n hx hb dX10_finding_29 rfl (lv_at hl 2 rfl) ?_
        by_cases c4 : p1 = 0
        · replace hf := it_t c4 hf
          refine g_tIn (tgt := 80) 0 c4 hx hb dX10_finding_30 (by decide) (by decide) rfl (by decide) ?_
          refine lv_aload_n hx hb dX10_finding_80 rfl (lv_at hl 0 rfl) ?_
          refine g_get hC hM inX10_finding_X10 0 cE0 clX10 4 (by decide) tX10_finding_5 TX10_4 cV0_4 dX10_finding_81 ?_
          refine g_get hC hM inX10_finding_X2 8 cE8 clX2 0 (by decide) tX10_finding_7 TX2_0 cV8_0 dX10_finding_84 ?_
          refine lv_iload_n hx hb dX10_finding_87 rfl (lv_at hl 1 rfl) ?_
          obtain ⟨h5, hf⟩ := ck_s hf
          refine g_iald hC hM 9 cE9 h5 dX10_finding_88 ?_
          obtain ⟨e1, e2⟩ := so_2 hf
          cases e1; cases e2
          exact hQ _ _ _ _ _ _ _ _ dX10_finding_89 hM (by omega) (by omega) rfl
        · replace hf := it_f c4 hf
          by_cases c6 : p1 = 1
          · replace hf := it_t c6 hf
            refine g_tIn (tgt := 90) 1 c6 hx hb dX10_finding_30 (by decide) (by decide) rfl (by decide) ?_
            refine lv_aload_n hx hb dX10_finding_90 rfl (lv_at hl 0 rfl) ?_
            refine g_get hC hM inX10_finding_X10 0 cE0 clX10 4 (by decide) tX10_finding_5 TX10_4 cV0_4 dX10_finding_91 ?_
            refine g_get hC hM inX10_finding_X2 8 cE8 clX2 1 (by decide) tX10_finding_8 TX2_1 cV8_1 dX10_finding_94 ?_
            refine lv_iload_n hx hb dX10_finding_97 rfl (lv_at hl 1 rfl) ?_
            obtain ⟨h7, hf⟩ := ck_s hf
            refine g_iald hC hM 10 cE10 h7 dX10_finding_98 ?_
            obtain ⟨e1, e2⟩ := so_2 hf
            cases e1; cases e2
            exact hQ _ _ _ _ _ _ _ _ dX10_finding_99 hM (by omega) (by omega) rfl
          · replace hf := it_f c6 hf
            by_cases c8 : p1 = 2
            · replace hf := it_t c8 hf
              refine g_tIn (tgt := 100) 2 c8 hx hb dX10_finding_30 (by decide) (by decide) rfl (by decide) ?_
              refine lv_aload_n hx hb dX10_finding_100 rfl (lv_at hl 0 rfl) ?_
              refine g_get hC hM inX10_finding_X10 0 cE0 clX10 4 (by decide) tX10_finding_5 TX10_4 cV0_4 dX10_finding_101 ?_
              refine g_get hC hM inX10_finding_X2 8 cE8 clX2 2 (by decide) tX10_finding_9 TX2_2 cV8_2 dX10_finding_104 ?_
              refine lv_iload_n hx hb dX10_finding_107 rfl (lv_at hl 1 rfl) ?_
              obtain ⟨h9, hf⟩ := ck_s hf
              refine g_iald hC hM 11 cE11 h9 dX10_finding_108 ?_
              obtain ⟨e1, e2⟩ := so_2 hf
              cases e1; cases e2
              exact hQ _ _ _ _ _ _ _ _ dX10_finding_109 hM (by omega) (by omega) rfl
            · replace hf := it_f c8 hf
              by_cases c10 : p1 = 3
              · replace hf := it_t c10 hf
                refine g_tIn (tgt := 110) 3 c10 hx hb dX10_finding_30 (by decide) (by decide) rfl (by decide) ?_
                refine lv_aload_n hx hb dX10_finding_110 rfl (lv_at hl 0 rfl) ?_
                refine g_get hC hM inX10_finding_X10 0 cE0 clX10 4 (by decide) tX10_finding_5 TX10_4 cV0_4 dX10_finding_111 ?_
                refine g_get hC hM inX10_finding_X2 8 cE8 clX2 3 (by decide) tX10_finding_10 TX2_3 cV8_3 dX10_finding_114 ?_
                refine lv_iload_n hx hb dX10_finding_117 rfl (lv_at hl 1 rfl) ?_
                obtain ⟨h11, hf⟩ := ck_s hf
                refine g_iald hC hM 12 cE12 h11 dX10_finding_118 ?_
                obtain ⟨e1, e2⟩ := so_2 hf
                cases e1; cases e2
                exact hQ _ _ _ _ _ _ _ _ dX10_finding_119 hM (by omega) (by omega) rfl
              · replace hf := it_f c10 hf
                by_cases c12 : p1 = 4
                · replace hf := it_t c12 hf
                  refine g_tIn (tgt := 120) 4 c12 hx hb dX10_finding_30 (by decide) (by decide) rfl (by decide) ?_
                  refine lv_aload_n hx hb dX10_finding_120 rfl (lv_at hl 0 rfl) ?_
                  refine lv_iload_n hx hb dX10_finding_121 rfl (lv_at hl 1 rfl) ?_
                  obtain ⟨v13, hc, hf⟩ := bd_s hf
                  refine W.widen (k := ph S1 - ph S) (n := 2 * (ph S1 - ph S)) (by omega) (by omega) ?_
                  refine gV_i hC hM hA hl.1 [.int p0] [] (c_X10_weightOf l D cs a q1 q2 N p0 S1 v13 hc) gX10_finding_X10_weightOf rfl hd_X10_weightOf ⟨Nat.le_of_ble_eq_true rfl, Nat.le_of_ble_eq_true rfl⟩ 0 10 clX10 rfl cE0 (Nat.le_of_ble_eq_true rfl) dX10_finding_122 rfl ⟨by show _ + 0 ≤ ph Sz - ph S + 1; omega, by show _ + 0 ≤ 2 * (ph Sz - ph S) + 6; omega⟩ (fun H locs hM => ?_)
                  refine W.widen (k := ph S1 - ph S) (n := 2 * (ph S1 - ph S)) (Nat.le_refl _) (Nat.le_refl _) ?_
                  obtain ⟨e1, e2⟩ := so_2 hf
                  cases e1; cases e2
                  exact hQ _ _ _ _ _ _ _ _ dX10_finding_125 hM (by omega) (by omega) rfl
                · replace hf := it_f c12 hf
                  by_cases c14 : p1 = 5
                  · replace hf := it_t c14 hf
                    refine g_tIn (tgt := 126) 5 c14 hx hb dX10_finding_30 (by decide) (by decide) rfl (by decide) ?_
                    refine lv_aload_n hx hb dX10_finding_126 rfl (lv_at hl 0 rfl) ?_
                    refine lv_iload_n hx hb dX10_finding_127 rfl (lv_at hl 1 rfl) ?_
                    obtain ⟨v15, hc, hf⟩ := bd_s hf
                    refine W.widen (k := ph S1 - ph S) (n := 2 * (ph S1 - ph S)) (by omega) (by omega) ?_
                    refine gV_i hC hM hA hl.1 [.int p0] [] (c_X10_isWarning l D cs a q1 q2 N p0 S1 v15 hc) gX10_finding_X10_isWarning rfl hd_X10_isWarning ⟨Nat.le_of_ble_eq_true rfl, Nat.le_of_ble_eq_true rfl⟩ 0 10 clX10 rfl cE0 (Nat.le_of_ble_eq_true rfl) dX10_finding_128 rfl ⟨by show _ + 0 ≤ ph Sz - ph S + 1; omega, by show _ + 0 ≤ 2 * (ph Sz - ph S) + 6; omega⟩ (fun H locs hM => ?_)
                    refine W.widen (k := ph S1 - ph S) (n := 2 * (ph S1 - ph S)) (Nat.le_refl _) (Nat.le_refl _) ?_
                    refine lv_if_eq (tgt := 138) hx hb dX10_finding_131 (by decide) (fun c16 => ?_) (fun c16 => ?_)
                    · replace hf := it_t c16 hf
                      refine lv_iconst (v := 0) hx hb dX10_finding_138 (by decide) ?_
                      obtain ⟨e1, e2⟩ := so_2 hf
                      cases e1; cases e2
                      exact hQ _ _ _ _ _ _ _ _ dX10_finding_139 hM (by omega) (by omega) rfl
                    · replace hf := it_f c16 hf
                      refine lv_iconst (v := 1) hx hb dX10_finding_134 (by decide) ?_
                      refine lv_goto (tgt := 139) hx hb dX10_finding_135 (by decide) ?_
                      obtain ⟨e1, e2⟩ := so_2 hf
                      cases e1; cases e2
                      exact hQ _ _ _ _ _ _ _ _ dX10_finding_139 hM (by omega) (by omega) rfl
                  · replace hf := it_f c14 hf
                    by_cases c17 : p1 = 6
                    · replace hf := it_t c17 hf
                      refine g_tIn (tgt := 140) 6 c17 hx hb dX10_finding_30 (by decide) (by decide) rfl (by decide) ?_
                      refine lv_aload_n hx hb dX10_finding_140 rfl (lv_at hl 0 rfl) ?_
                      refine lv_iload_n hx hb dX10_finding_141 rfl (lv_at hl 1 rfl) ?_
                      refine W.widen (k := ph S1 - ph S) (n := 2 * (ph S1 - ph S)) (by omega) (by omega) ?_
                      obtain ⟨v18, S19, hc, hf⟩ := bd2_s hf
                      have gS19 : ph S1 ≤ ph S19 := mo_X10_clauseLength hc
                      have gzS19 : ph S19 ≤ ph Sz := by
                        obtain ⟨e1, e2⟩ := so_2 hf
                        cases e1; cases e2
                        omega
                      refine gGV_i hC hM hA hR hZ hl.1 [.int p0] [] (c_X10_clauseLength l D cs adK adV a q1 q2 N p0 S1 v18 S19 hc) gX10_finding_X10_clauseLength rfl hd_X10_clauseLength ⟨Nat.le_of_ble_eq_true rfl, Nat.le_of_ble_eq_true rfl⟩ 0 10 clX10 rfl cE0 (Nat.le_of_ble_eq_true rfl) dX10_finding_142 rfl ⟨by show _ + (ph S19 - ph S1) ≤ ph Sz - ph S + 1; omega, by show _ + 2 * (ph S19 - ph S1) ≤ 2 * (ph Sz - ph S) + 6; omega⟩ (fun q1 q2 H locs hM => ?_)
                      have hpS19 : ph S ≤ ph S19 := by omega
                      refine W.widen (k := ph S19 - ph S) (n := 2 * (ph S19 - ph S)) (by omega) (by omega) ?_
                      obtain ⟨e1, e2⟩ := so_2 hf
                      cases e1; cases e2
                      exact hQ _ _ _ _ _ _ _ _ dX10_finding_145 hM (by omega) (by omega) rfl
                    · replace hf := it_f c17 hf
                      by_cases c20 : p1 = 7
                      · replace hf := it_t c20 hf
                        refine g_tIn (tgt := 146) 7 c20 hx hb dX10_finding_30 (by decide) (by decide) rfl (by decide) ?_
                        refine lv_aload_n hx hb dX10_finding_146 rfl (lv_at hl 0 rfl) ?_
                        refine g_get hC hM inX10_finding_X10 0 cE0 clX10 3 (by decide) tX10_finding_11 TX10_3 cV0_3 dX10_finding_147 ?_
                        refine lv_aload_n hx hb dX10_finding_150 rfl (lv_at hl 0 rfl) ?_
                        refine g_get hC hM inX10_finding_X10 0 cE0 clX10 4 (by decide) tX10_finding_5 TX10_4 cV0_4 dX10_finding_151 ?_
                        refine g_get hC hM inX10_finding_X2 8 cE8 clX2 3 (by decide) tX10_finding_10 TX2_3 cV8_3 dX10_finding_154 ?_
                        refine lv_iload_n hx hb dX10_finding_157 rfl (lv_at hl 1 rfl) ?_
                        obtain ⟨h21, hf⟩ := ck_s hf
                        refine g_iald hC hM 12 cE12 h21 dX10_finding_158 ?_
                        obtain ⟨v22, S23, hc, hf⟩ := bd2_s hf
                        have gS23 : ph S1 ≤ ph S23 := mo_X3_namesOf hc
                        have gzS23 : ph S23 ≤ ph Sz := by
                          obtain ⟨e1, e2⟩ := so_2 hf
                          cases e1; cases e2
                          omega
                        refine W.widen (k := ph S1 - ph S) (n := 2 * (ph S1 - ph S)) (by omega) (by omega) ?_
                        refine gV_i hC hM hA hl.1 [.int (S1.1 12 p0.toNatClampNeg)] [] (c_X3_namesOf l D cs a q1 q2 N (S1.1 12 p0.toNatClampNeg) S1 v22 S23 hc) gX10_finding_X3_namesOf rfl hd_X3_namesOf ⟨Nat.le_of_ble_eq_true rfl, Nat.le_of_ble_eq_true rfl⟩ 5 3 clX3 rfl cE5 (Nat.le_of_ble_eq_true rfl) dX10_finding_159 rfl ⟨by show _ + 0 ≤ ph Sz - ph S + 1; omega, by show _ + 0 ≤ 2 * (ph Sz - ph S) + 6; omega⟩ (fun H locs hM => ?_)
                        refine W.widen (k := ph S1 - ph S) (n := 2 * (ph S1 - ph S)) (Nat.le_refl _) (Nat.le_refl _) ?_
                        obtain ⟨e1, e2⟩ := so_2 hf
                        cases e1; cases e2
                        exact hQ _ _ _ _ _ _ _ _ dX10_finding_162 hM (by omega) (by omega) rfl
                      · replace hf := it_f c20 hf
                        by_cases c24 : p1 = 8
                        · replace hf := it_t c24 hf
                          refine g_tIn (tgt := 163) 8 c24 hx hb dX10_finding_30 (by decide) (by decide) rfl (by decide) ?_
                          refine lv_aload_n hx hb dX10_finding_163 rfl (lv_at hl 0 rfl) ?_
                          refine g_get hC hM inX10_finding_X10 0 cE0 clX10 3 (by decide) tX10_finding_11 TX10_3 cV0_3 dX10_finding_164 ?_
                          refine lv_aload_n hx hb dX10_finding_167 rfl (lv_at hl 0 rfl) ?_
                          refine g_get hC hM inX10_finding_X10 0 cE0 clX10 4 (by decide) tX10_finding_5 TX10_4 cV0_4 dX10_finding_168 ?_
                          refine g_get hC hM inX10_finding_X2 8 cE8 clX2 3 (by decide) tX10_finding_10 TX2_3 cV8_3 dX10_finding_171 ?_
                          refine lv_iload_n hx hb dX10_finding_174 rfl (lv_at hl 1 rfl) ?_
                          obtain ⟨h25, hf⟩ := ck_s hf
                          refine g_iald hC hM 12 cE12 h25 dX10_finding_175 ?_
                          obtain ⟨v26, S27, hc, hf⟩ := bd2_s hf
                          have gS27 : ph S1 ≤ ph S27 := mo_X3_takenOutOf hc
                          have gzS27 : ph S27 ≤ ph Sz := by
                            obtain ⟨e1, e2⟩ := so_2 hf
                            cases e1; cases e2
                            omega
                          refine W.widen (k := ph S1 - ph S) (n := 2 * (ph S1 - ph S)) (by omega) (by omega) ?_
                          refine gV_i hC hM hA hl.1 [.int (S1.1 12 p0.toNatClampNeg)] [] (c_X3_takenOutOf l D cs a q1 q2 N (S1.1 12 p0.toNatClampNeg) S1 v26 S27 hc) gX10_finding_X3_takenOutOf rfl hd_X3_takenOutOf ⟨Nat.le_of_ble_eq_true rfl, Nat.le_of_ble_eq_true rfl⟩ 5 3 clX3 rfl cE5 (Nat.le_of_ble_eq_true rfl) dX10_finding_176 rfl ⟨by show _ + 0 ≤ ph Sz - ph S + 1; omega, by show _ + 0 ≤ 2 * (ph Sz - ph S) + 6; omega⟩ (fun H locs hM => ?_)
                          refine W.widen (k := ph S1 - ph S) (n := 2 * (ph S1 - ph S)) (Nat.le_refl _) (Nat.le_refl _) ?_
                          obtain ⟨e1, e2⟩ := so_2 hf
                          cases e1; cases e2
                          exact hQ _ _ _ _ _ _ _ _ dX10_finding_179 hM (by omega) (by omega) rfl
                        · replace hf := it_f c24 hf
                          have hne : ∀ j, j < 9 → ¬ p1 = nI j := by
                            intro j hj
                            rcases (show j = 0 ∨ j = 1 ∨ j = 2 ∨ j = 3 ∨ j = 4 ∨ j = 5 ∨ j = 6 ∨ j = 7 ∨ j = 8 by omega) with rfl | rfl | rfl | rfl | rfl | rfl | rfl | rfl | rfl
                            · exact c4
                            · exact c6
                            · exact c8
                            · exact c10
                            · exact c12
                            · exact c14
                            · exact c17
                            · exact c20
                            · exact c24
                          refine g_tOut (tgt := 180) (n := 9) hne (by decide) hx hb dX10_finding_30 rfl (by decide) (by decide) ?_
                          obtain ⟨e1, e2⟩ := so_2 hf
                          cases e1; cases e2
                          exact hT2 _ _ _ _ _ _ _ hM hl.1 (by omega) (by omega) rfl
      · replace hf := it_f c3 hf
        refine W.widen (k := ph S1 - ph S) (n := 2 * (ph S1 - ph S)) (by omega) (by omega) ?_
        exact (hk19 hf).2 (by omega) _ _ _ _ _ hM (lv_sub hl [] rfl)
