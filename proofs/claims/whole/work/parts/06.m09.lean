theorem hd_X11_count : yX11_count.cls = RX11 ∧ yX11_count.cls ≠ "java/lang/invoke/MethodHandle" ∧ yX11_count.cls ≠ "java/lang/invoke/VarHandle" ∧ (parseMethodDescriptor yX11_count.desc).map (fun d => d.parameters.length) = some 1 := by decide +kernel
theorem tX11_count_1 : Cond.fieldLink RX11 94 "WeatherTellerModel" "thrown" "I" ∈ wsX11_count := List.mem_of_getElem? (i := 1) rfl
theorem inX11_count_X11 : ∀ w ∈ u_ws RX11 TX11 50, w ∈ wsX11_count := fun _ h => List.mem_cons_of_mem _ (List.mem_append_right _ h)
theorem tX11_count_2 : Cond.fieldLink RX11 180 "WeatherTellerModel" "places" "I" ∈ wsX11_count := List.mem_of_getElem? (i := 2) rfl
theorem tX11_count_3 : Cond.fieldLink RX11 183 "WeatherTellerModel" "regions" "I" ∈ wsX11_count := List.mem_of_getElem? (i := 3) rfl
theorem tX11_count_4 : Cond.fieldLink RX11 186 "WeatherTellerModel" "bands" "I" ∈ wsX11_count := List.mem_of_getElem? (i := 4) rfl
theorem tX11_count_5 : Cond.fieldLink RX11 211 "WeatherTellerModel" "findings" "I" ∈ wsX11_count := List.mem_of_getElem? (i := 5) rfl
theorem tX11_count_6 : Cond.fieldLink RX11 34 "WeatherTellerModel" "bWarn" "[Z" ∈ wsX11_count := List.mem_of_getElem? (i := 6) rfl
theorem tX11_count_7 : Cond.fieldLink RX11 60 "WeatherTellerModel" "fBand" "[I" ∈ wsX11_count := List.mem_of_getElem? (i := 7) rfl
theorem tX11_count_8 : Cond.fieldLink RX11 193 "WeatherTellerModel" "toldMany" "I" ∈ wsX11_count := List.mem_of_getElem? (i := 8) rfl
theorem tX11_count_9 : Cond.fieldLink RX11 200 "WeatherTellerModel" "toldWeight" "I" ∈ wsX11_count := List.mem_of_getElem? (i := 9) rfl
def j_X11_count_110 (v10 : Int32) (k82 : Int32 → Int32 → Option (Int32 × St)) (v14 : Int32) (v15 : Int32) : Option (Int32 × St) :=
  nm (v14 + v15) fun v16 =>
  nm (v10 + 1) fun v17 =>
  k82 v16 v17
def b_X11_count_82 (S8 : St) (k82 : Int32 → Int32 → Option (Int32 × St)) (v9 : Int32) (v10 : Int32) : Option (Int32 × St) :=
  if (S8.1 0 32) ≤ v10 then
    some (v9, S8)
  else
    ck v10 432 <|
    ck (S8.1 16 v10.toNatClampNeg) 48 <|
    jp (j_X11_count_110 v10 k82) fun k110 =>
    if (S8.1 9 (S8.1 16 v10.toNatClampNeg).toNatClampNeg) = 0 then
      k110 v9 0
    else
      k110 v9 1
def f_X11_count (N : Nat) (p0 : Int32) (S : St) : Option (Int32 × St) :=
  nm (puI S 0 2 0) fun S1 =>
  if p0 = 0 then
    some ((S1.1 0 3), S1)
  else
  if p0 = 1 then
    some ((S1.1 0 4), S1)
  else
  if p0 = 2 then
    some ((S1.1 0 8), S1)
  else
  if p0 = 3 then
    bd (f_X11_find N S1) fun S6 =>
    some ((S6.1 0 32), S6)
  else
  if p0 = 4 then
    bd (f_X11_find N S1) fun S8 =>
    jp (lp (fun _ _ => none) (b_X11_count_82 S8) N) fun k82 =>
    k82 0 0
  else
  if p0 = 5 then
    some ((S1.1 0 38), S1)
  else
  if p0 = 6 then
    some ((S1.1 0 39), S1)
  else
    some ((-1), S1)
abbrev rmX11_count : Room := { frames := 3, cells := 0, slots := 0, locals := 74 }
set_option maxRecDepth 100000 in
set_option maxHeartbeats 4000000 in
theorem c_X11_count (l : Launch) (D : va_G) (cs : Nat → ClassId) (a : Nat → Nat) (N : Nat) (p0 : Int32) (S : St) (rz : Int32) (Sz : St) (hf : f_X11_count N p0 S = some (rz, Sz)) : gMi l yX11_count wsX11_count rmX11_count D cs [.ref (a 0), .int p0] (mcells cs a S) rz (mcells cs a Sz) := by
  unfold f_X11_count at hf
  refine gE_i (cc := cX11_count) (maxL := 4) (by decide) rfl (Nat.le_of_ble_eq_true rfl) ?_
  intro p e s m args below meth c A Q hC hA hQ hM ls hl
  obtain ⟨hx, hb, hml, hown, hts⟩ := hC.1
  have hl : lv_has ls 4 [(0, .ref (a 0)), (1, .int p0)] := hl
  refine lv_aload_n hx hb dX11_count_0 rfl (lv_at hl 0 rfl) ?_
  refine lv_iconst (v := 0) hx hb dX11_count_1 (by decide) ?_
  refine g_put hC hM inX11_count_X11 tyX11_ok nmX11 0 mE0 clX11 2 (by decide) tX11_count_1 TX11_2 tyX11_2 rfl rfl (by rw [mL0]; decide) mP0_2 dX11_count_2 (fun H locs hM => ?_)
  obtain ⟨S1, hf, hM⟩ := mnm hf hM
  refine lv_iconst (v := 0) hx hb dX11_count_5 (by decide) ?_
  refine lv_istore_n (lv' := [(2, .int 0), (0, .ref (a 0)), (1, .int p0)]) hx hb dX11_count_6 rfl hl (by decide) rfl (fun ls hl => ?_)
  refine lv_iload_n hx hb dX11_count_7 rfl (lv_at hl 2 rfl) ?_
  by_cases c2 : p0 = 0
  · replace hf := it_t c2 hf
    refine g_tIn (tgt := 52) 0 c2 hx hb dX11_count_8 (by decide) (by decide) rfl (by decide) ?_
    refine lv_aload_n hx hb dX11_count_52 rfl (lv_at hl 1 rfl) ?_
    refine g_get hC hM inX11_count_X11 0 mE0 clX11 3 (by decide) tX11_count_2 TX11_3 mV0_3 dX11_count_53 ?_
    obtain ⟨e1, e2⟩ := so_2 hf
    cases e1; cases e2
    exact hQ _ _ _ _ _ _ dX11_count_56 hM (by decide) (by decide)
  · replace hf := it_f c2 hf
    by_cases c3 : p0 = 1
    · replace hf := it_t c3 hf
      refine g_tIn (tgt := 57) 1 c3 hx hb dX11_count_8 (by decide) (by decide) rfl (by decide) ?_
      refine lv_aload_n hx hb dX11_count_57 rfl (lv_at hl 1 rfl) ?_
      refine g_get hC hM inX11_count_X11 0 mE0 clX11 4 (by decide) tX11_count_3 TX11_4 mV0_4 dX11_count_58 ?_
      obtain ⟨e1, e2⟩ := so_2 hf
      cases e1; cases e2
      exact hQ _ _ _ _ _ _ dX11_count_61 hM (by decide) (by decide)
    · replace hf := it_f c3 hf
      by_cases c4 : p0 = 2
      · replace hf := it_t c4 hf
        refine g_tIn (tgt := 62) 2 c4 hx hb dX11_count_8 (by decide) (by decide) rfl (by decide) ?_
        refine lv_aload_n hx hb dX11_count_62 rfl (lv_at hl 1 rfl) ?_
        refine g_get hC hM inX11_count_X11 0 mE0 clX11 8 (by decide) tX11_count_4 TX11_8 mV0_8 dX11_count_63 ?_
        obtain ⟨e1, e2⟩ := so_2 hf
        cases e1; cases e2
        exact hQ _ _ _ _ _ _ dX11_count_66 hM (by decide) (by decide)
      · replace hf := it_f c4 hf
        by_cases c5 : p0 = 3
        · replace hf := it_t c5 hf
          refine g_tIn (tgt := 67) 3 c5 hx hb dX11_count_8 (by decide) (by decide) rfl (by decide) ?_
          refine lv_aload_n hx hb dX11_count_67 rfl (lv_at hl 1 rfl) ?_
          obtain ⟨S6, hc, hf⟩ := bd_s hf
          refine gV_v hC hM hA hl.1 [] [] (c_X11_find l D cs a N S1 S6 hc) gX11_count_X11_find rfl hd_X11_find ⟨by decide, by decide⟩ 0 11 clX11 rfl mE0 (Nat.le_of_ble_eq_true rfl) dX11_count_68 rfl ⟨by decide, by decide⟩ (fun H locs hM => ?_)
          refine lv_aload_n hx hb dX11_count_71 rfl (lv_at hl 1 rfl) ?_
          refine g_get hC hM inX11_count_X11 0 mE0 clX11 32 (by decide) tX11_count_5 TX11_32 mV0_32 dX11_count_72 ?_
          obtain ⟨e1, e2⟩ := so_2 hf
          cases e1; cases e2
          exact hQ _ _ _ _ _ _ dX11_count_75 hM (by decide) (by decide)
        · replace hf := it_f c5 hf
          by_cases c7 : p0 = 4
          · replace hf := it_t c7 hf
            refine g_tIn (tgt := 76) 4 c7 hx hb dX11_count_8 (by decide) (by decide) rfl (by decide) ?_
            refine lv_aload_n hx hb dX11_count_76 rfl (lv_at hl 1 rfl) ?_
            obtain ⟨S8, hc, hf⟩ := bd_s hf
            refine gV_v hC hM hA hl.1 [] [] (c_X11_find l D cs a N S1 S8 hc) gX11_count_X11_find rfl hd_X11_find ⟨by decide, by decide⟩ 0 11 clX11 rfl mE0 (Nat.le_of_ble_eq_true rfl) dX11_count_77 rfl ⟨by decide, by decide⟩ (fun H locs hM => ?_)
            refine lv_iconst (v := 0) hx hb dX11_count_80 (by decide) ?_
            refine lv_istore_n (lv' := [(3, .int 0), (2, .int 0), (0, .ref (a 0)), (1, .int p0)]) hx hb dX11_count_81 rfl hl (by decide) rfl (fun ls hl => ?_)
            refine jl_W (fun k82 : Int32 → Int32 → Option (Int32 × St) => ∀ (v9 : Int32) (v10 : Int32), k82 v9 v10 = some (rz, Sz) → ∀ (H : Heap) (locs : List Loc) (ls : Array Slot), gw D A s.heap H locs (mcells cs a S8) → lv_has ls 4 [(0, .ref (a 0)), (2, .int v9), (3, .int v10)] → W p l e rmX11_count s m args below meth c H locs 0 0 Q (F0 m 82 ls [])) ?_ ?_ ?_ hf
            · intro v9 v10 h; cases h
            · intro k82 hk82 v9 v10 hf H locs ls hM hl
              unfold b_X11_count_82 at hf
              refine lv_iload_n hx hb dX11_count_82 rfl (lv_at hl 2 rfl) ?_
              refine lv_aload_n hx hb dX11_count_83 rfl (lv_at hl 0 rfl) ?_
              refine g_get hC hM inX11_count_X11 0 mE0 clX11 32 (by decide) tX11_count_5 TX11_32 mV0_32 dX11_count_84 ?_
              refine lv_icmp_ge (tgt := 118) hx hb dX11_count_87 (by decide) (fun c11 => ?_) (fun c11 => ?_)
              · replace hf := it_t c11 hf
                refine lv_iload_n hx hb dX11_count_118 rfl (lv_at hl 1 rfl) ?_
                obtain ⟨e1, e2⟩ := so_2 hf
                cases e1; cases e2
                exact hQ _ _ _ _ _ _ dX11_count_119 hM (by decide) (by decide)
              · replace hf := it_f c11 hf
                refine lv_iload_n hx hb dX11_count_90 rfl (lv_at hl 1 rfl) ?_
                refine lv_aload_n hx hb dX11_count_91 rfl (lv_at hl 0 rfl) ?_
                refine g_get hC hM inX11_count_X11 0 mE0 clX11 13 (by decide) tX11_count_6 TX11_13 mV0_13 dX11_count_92 ?_
                refine lv_aload_n hx hb dX11_count_95 rfl (lv_at hl 0 rfl) ?_
                refine g_get hC hM inX11_count_X11 0 mE0 clX11 33 (by decide) tX11_count_7 TX11_33 mV0_33 dX11_count_96 ?_
                refine lv_iload_n hx hb dX11_count_99 rfl (lv_at hl 2 rfl) ?_
                obtain ⟨h12, hf⟩ := ck_s hf
                refine g_iald hC hM 16 mE16 h12 dX11_count_100 ?_
                obtain ⟨h13, hf⟩ := ck_s hf
                refine g_zald hC hM 9 mE9 h13 dX11_count_101 ?_
                refine jp_W (fun k110 : Int32 → Int32 → Option (Int32 × St) => ∀ (v14 : Int32) (v15 : Int32), k110 v14 v15 = some (rz, Sz) → ∀ (H : Heap) (locs : List Loc) (ls : Array Slot), gw D A s.heap H locs (mcells cs a S8) → lv_has ls 4 [(0, .ref (a 0)), (3, .int v10)] → W p l e rmX11_count s m args below meth c H locs 0 0 Q (F0 m 110 ls [.int v15, .int v14])) ?_ ?_ hf
                · intro v14 v15 hf H locs ls hM hl
                  unfold j_X11_count_110 at hf
                  refine lv_iadd hx hb dX11_count_110 ?_
                  refine lv_topi (fun v16 ev16 => ?_)
                  replace hf := nm_q ev16 hf
                  refine lv_istore_n (lv' := [(2, .int v16), (0, .ref (a 0)), (3, .int v10)]) hx hb dX11_count_111 rfl hl (by decide) rfl (fun ls hl => ?_)
                  obtain ⟨v17, ev17⟩ : ∃ y : Int32, y = v10 + 1 := ⟨_, rfl⟩
                  replace hf := nm_q ev17 hf
                  refine lv_iinc (v := v17) (lv' := [(3, .int v17), (2, .int v16), (0, .ref (a 0))]) hx hb dX11_count_112 hl (k := 2) rfl (by rw [ev17]; rfl) (by decide) rfl (fun ls hl => ?_)
                  refine lv_goto (tgt := 82) hx hb dX11_count_115 (by decide) ?_
                  exact hk82 _ _ hf _ _ _ hM (lv_sub hl [2, 1, 0] rfl)
                · intro k110 hk110 hf
                  refine lv_if_eq (tgt := 109) hx hb dX11_count_102 (by decide) (fun c18 => ?_) (fun c18 => ?_)
                  · replace hf := it_t c18 hf
                    refine lv_iconst (v := 0) hx hb dX11_count_109 (by decide) ?_
                    exact hk110 _ _ hf _ _ _ hM (lv_sub hl [0, 2] rfl)
                  · replace hf := it_f c18 hf
                    refine lv_iconst (v := 1) hx hb dX11_count_105 (by decide) ?_
                    refine lv_goto (tgt := 110) hx hb dX11_count_106 (by decide) ?_
                    exact hk110 _ _ hf _ _ _ hM (lv_sub hl [0, 2] rfl)
            · intro k82 hk82 hf
              exact hk82 _ _ hf _ _ _ hM (lv_sub hl [2, 1, 0] rfl)
          · replace hf := it_f c7 hf
            by_cases c19 : p0 = 5
            · replace hf := it_t c19 hf
              refine g_tIn (tgt := 120) 5 c19 hx hb dX11_count_8 (by decide) (by decide) rfl (by decide) ?_
              refine lv_aload_n hx hb dX11_count_120 rfl (lv_at hl 1 rfl) ?_
              refine g_get hC hM inX11_count_X11 0 mE0 clX11 38 (by decide) tX11_count_8 TX11_38 mV0_38 dX11_count_121 ?_
              obtain ⟨e1, e2⟩ := so_2 hf
              cases e1; cases e2
              exact hQ _ _ _ _ _ _ dX11_count_124 hM (by decide) (by decide)
            · replace hf := it_f c19 hf
              by_cases c20 : p0 = 6
              · replace hf := it_t c20 hf
                refine g_tIn (tgt := 125) 6 c20 hx hb dX11_count_8 (by decide) (by decide) rfl (by decide) ?_
                refine lv_aload_n hx hb dX11_count_125 rfl (lv_at hl 1 rfl) ?_
                refine g_get hC hM inX11_count_X11 0 mE0 clX11 39 (by decide) tX11_count_9 TX11_39 mV0_39 dX11_count_126 ?_
                obtain ⟨e1, e2⟩ := so_2 hf
                cases e1; cases e2
                exact hQ _ _ _ _ _ _ dX11_count_129 hM (by decide) (by decide)
              · replace hf := it_f c20 hf
                have hne : ∀ j, j < 7 → ¬ p0 = nI j := by
                  intro j hj
                  rcases (show j = 0 ∨ j = 1 ∨ j = 2 ∨ j = 3 ∨ j = 4 ∨ j = 5 ∨ j = 6 by omega) with rfl | rfl | rfl | rfl | rfl | rfl | rfl
                  · exact c2
                  · exact c3
                  · exact c4
                  · exact c5
                  · exact c7
                  · exact c19
                  · exact c20
                refine g_tOut (tgt := 130) (n := 7) hne (by decide) hx hb dX11_count_8 rfl (by decide) (by decide) ?_
                refine lv_iconst (v := (-1)) hx hb dX11_count_130 (by decide) ?_
                obtain ⟨e1, e2⟩ := so_2 hf
                cases e1; cases e2
                exact hQ _ _ _ _ _ _ dX11_count_131 hM (by decide) (by decide)
