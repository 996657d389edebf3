theorem hd_X11_sign : yX11_sign.cls = RX11 ∧ yX11_sign.cls ≠ "java/lang/invoke/MethodHandle" ∧ yX11_sign.cls ≠ "java/lang/invoke/VarHandle" ∧ (parseMethodDescriptor yX11_sign.desc).map (fun d => d.parameters.length) = some 1 := by decide +kernel
theorem tX11_sign_1 : Cond.fieldLink RX11 94 "WeatherTellerModel" "thrown" "I" ∈ wsX11_sign := List.mem_of_getElem? (i := 1) rfl
theorem inX11_sign_X11 : ∀ w ∈ u_ws RX11 TX11 50, w ∈ wsX11_sign := fun _ h => List.mem_cons_of_mem _ (List.mem_append_right _ h)
theorem tX11_sign_2 : Cond.fieldLink RX11 196 "WeatherTellerModel" "isText" "Z" ∈ wsX11_sign := List.mem_of_getElem? (i := 2) rfl
theorem tX11_sign_4 : Cond.fieldLink RX11 75 "WeatherTellerModel" "tBand" "[I" ∈ wsX11_sign := List.mem_of_getElem? (i := 4) rfl
theorem tX11_sign_5 : Cond.fieldLink RX11 78 "WeatherTellerModel" "tFrom" "[I" ∈ wsX11_sign := List.mem_of_getElem? (i := 5) rfl
theorem tX11_sign_6 : Cond.fieldLink RX11 81 "WeatherTellerModel" "tTo" "[I" ∈ wsX11_sign := List.mem_of_getElem? (i := 6) rfl
theorem tX11_sign_7 : Cond.fieldLink RX11 84 "WeatherTellerModel" "tPlaces" "[I" ∈ wsX11_sign := List.mem_of_getElem? (i := 7) rfl
theorem tX11_sign_3 : Cond.fieldLink RX11 193 "WeatherTellerModel" "toldMany" "I" ∈ wsX11_sign := List.mem_of_getElem? (i := 3) rfl
def j_X11_sign_80 (N : Nat) (S1 : St) (v4 : Int32) (v5 : Int32) : Option (Int32 × St) :=
  ck v5 432 <|
  ck v5 432 <|
  ck v5 432 <|
  ck v5 432 <|
  bd (f_X11_clauseSign N (S1.1 21 v5.toNatClampNeg) (S1.1 22 v5.toNatClampNeg) (S1.1 23 v5.toNatClampNeg) (S1.1 24 v5.toNatClampNeg) v4 S1) fun v10 =>
  some (v10, S1)
def j_X11_sign_44 (N : Nat) (S1 : St) (k80 : Int32 → Int32 → Option (Int32 × St)) (v12 : Int32) (k22 : Int32 → Int32 → Option (Int32 × St)) (v14 : Int32) : Option (Int32 × St) :=
  ck v12 432 <|
  ck v12 432 <|
  ck v12 432 <|
  ck v12 432 <|
  bd (f_X11_clauseSize N (S1.1 21 v12.toNatClampNeg) (S1.1 22 v12.toNatClampNeg) (S1.1 23 v12.toNatClampNeg) (S1.1 24 v12.toNatClampNeg) S1) fun v19 =>
  if v19 ≤ v14 then
    nm (v14 - v19) fun v21 =>
    nm (v12 + 1) fun v22 =>
    k22 v21 v22
  else
    k80 v14 v12
def b_X11_sign_22 (N : Nat) (S1 : St) (k80 : Int32 → Int32 → Option (Int32 × St)) (k22 : Int32 → Int32 → Option (Int32 × St)) (v11 : Int32) (v12 : Int32) : Option (Int32 × St) :=
  if (S1.1 0 38) ≤ v12 then
    some ((-1), S1)
  else
    jp (j_X11_sign_44 N S1 k80 v12 k22) fun k44 =>
    if v12 ≤ 0 then
      k44 v11
    else
      if v11 = 0 then
        some (32, S1)
      else
        nm (v11 + (-1)) fun v25 =>
        k44 v25
def f_X11_sign (N : Nat) (p0 : Int32) (S : St) : Option (Int32 × St) :=
  nm (puI S 0 2 0) fun S1 =>
  if (S1.1 0 37) = 0 then
    some ((-1), S1)
  else
    if 0 ≤ p0 then
      jp (j_X11_sign_80 N S1) fun k80 =>
      jp (lp (fun _ _ => none) (b_X11_sign_22 N S1 k80) N) fun k22 =>
      k22 p0 0
    else
      some ((-1), S1)
abbrev rmX11_sign : Room := { frames := 2, cells := 0, slots := 0, locals := 52 }
set_option maxRecDepth 100000 in
set_option maxHeartbeats 4000000 in
theorem c_X11_sign (l : Launch) (D : va_G) (cs : Nat → ClassId) (a : Nat → Nat) (N : Nat) (p0 : Int32) (S : St) (rz : Int32) (Sz : St) (hf : f_X11_sign N p0 S = some (rz, Sz)) : gMi l yX11_sign wsX11_sign rmX11_sign D cs [.ref (a 0), .int p0] (mcells cs a S) rz (mcells cs a Sz) := by
  unfold f_X11_sign at hf
  refine gE_i (cc := cX11_sign) (maxL := 5) (by decide) rfl (Nat.le_of_ble_eq_true rfl) ?_
  intro p e s m args below meth c A Q hC hA hQ hM ls hl
  obtain ⟨hx, hb, hml, hown, hts⟩ := hC.1
  have hl : lv_has ls 5 [(0, .ref (a 0)), (1, .int p0)] := hl
  refine lv_aload_n hx hb dX11_sign_0 rfl (lv_at hl 0 rfl) ?_
  refine lv_iconst (v := 0) hx hb dX11_sign_1 (by decide) ?_
  refine g_put hC hM inX11_sign_X11 tyX11_ok nmX11 0 mE0 clX11 2 (by decide) tX11_sign_1 TX11_2 tyX11_2 rfl rfl (by rw [mL0]; decide) mP0_2 dX11_sign_2 (fun H locs hM => ?_)
  obtain ⟨S1, hf, hM⟩ := mnm hf hM
  refine lv_aload_n hx hb dX11_sign_5 rfl (lv_at hl 0 rfl) ?_
  refine g_get hC hM inX11_sign_X11 0 mE0 clX11 37 (by decide) tX11_sign_2 TX11_37 mV0_37 dX11_sign_6 ?_
  refine lv_if_eq (tgt := 16) hx hb dX11_sign_9 (by decide) (fun c2 => ?_) (fun c2 => ?_)
  · replace hf := it_t c2 hf
    refine lv_iconst (v := (-1)) hx hb dX11_sign_16 (by decide) ?_
    obtain ⟨e1, e2⟩ := so_2 hf
    cases e1; cases e2
    exact hQ _ _ _ _ _ _ dX11_sign_17 hM (by decide) (by decide)
  · replace hf := it_f c2 hf
    refine lv_iload_n hx hb dX11_sign_12 rfl (lv_at hl 1 rfl) ?_
    refine lv_if_ge (tgt := 18) hx hb dX11_sign_13 (by decide) (fun c3 => ?_) (fun c3 => ?_)
    · replace hf := it_t c3 hf
      refine lv_iload_n hx hb dX11_sign_18 rfl (lv_at hl 1 rfl) ?_
      refine lv_istore_n (lv' := [(2, .int p0), (0, .ref (a 0)), (1, .int p0)]) hx hb dX11_sign_19 rfl hl (by decide) rfl (fun ls hl => ?_)
      refine lv_iconst (v := 0) hx hb dX11_sign_20 (by decide) ?_
      refine lv_istore_n (lv' := [(3, .int 0), (2, .int p0), (0, .ref (a 0)), (1, .int p0)]) hx hb dX11_sign_21 rfl hl (by decide) rfl (fun ls hl => ?_)
      refine jp_W (fun k80 : Int32 → Int32 → Option (Int32 × St) => ∀ (v4 : Int32) (v5 : Int32), k80 v4 v5 = some (rz, Sz) → ∀ (H : Heap) (locs : List Loc) (ls : Array Slot), gw D A s.heap H locs (mcells cs a S1) → lv_has ls 5 [(0, .ref (a 0)), (2, .int v4), (3, .int v5)] → W p l e rmX11_sign s m args below meth c H locs 0 0 Q (F0 m 80 ls [])) ?_ ?_ hf
      · intro v4 v5 hf H locs ls hM hl
        unfold j_X11_sign_80 at hf
        refine lv_aload_n hx hb dX11_sign_80 rfl (lv_at hl 0 rfl) ?_
        refine lv_aload_n hx hb dX11_sign_81 rfl (lv_at hl 0 rfl) ?_
        refine g_get hC hM inX11_sign_X11 0 mE0 clX11 41 (by decide) tX11_sign_4 TX11_41 mV0_41 dX11_sign_82 ?_
        refine lv_iload_n hx hb dX11_sign_85 rfl (lv_at hl 2 rfl) ?_
        obtain ⟨h6, hf⟩ := ck_s hf
        refine g_iald hC hM 21 mE21 h6 dX11_sign_86 ?_
        refine lv_aload_n hx hb dX11_sign_87 rfl (lv_at hl 0 rfl) ?_
        refine g_get hC hM inX11_sign_X11 0 mE0 clX11 42 (by decide) tX11_sign_5 TX11_42 mV0_42 dX11_sign_88 ?_
        refine lv_iload_n hx hb dX11_sign_91 rfl (lv_at hl 2 rfl) ?_
        obtain ⟨h7, hf⟩ := ck_s hf
        refine g_iald hC hM 22 mE22 h7 dX11_sign_92 ?_
        refine lv_aload_n hx hb dX11_sign_93 rfl (lv_at hl 0 rfl) ?_
        refine g_get hC hM inX11_sign_X11 0 mE0 clX11 43 (by decide) tX11_sign_6 TX11_43 mV0_43 dX11_sign_94 ?_
        refine lv_iload_n hx hb dX11_sign_97 rfl (lv_at hl 2 rfl) ?_
        obtain ⟨h8, hf⟩ := ck_s hf
        refine g_iald hC hM 23 mE23 h8 dX11_sign_98 ?_
        refine lv_aload_n hx hb dX11_sign_99 rfl (lv_at hl 0 rfl) ?_
        refine g_get hC hM inX11_sign_X11 0 mE0 clX11 44 (by decide) tX11_sign_7 TX11_44 mV0_44 dX11_sign_100 ?_
        refine lv_iload_n hx hb dX11_sign_103 rfl (lv_at hl 2 rfl) ?_
        obtain ⟨h9, hf⟩ := ck_s hf
        refine g_iald hC hM 24 mE24 h9 dX11_sign_104 ?_
        refine lv_iload_n hx hb dX11_sign_105 rfl (lv_at hl 1 rfl) ?_
        obtain ⟨v10, hc, hf⟩ := bd_s hf
        refine gV_i hC hM hA hl.1 [.int (S1.1 21 v5.toNatClampNeg), .int (S1.1 22 v5.toNatClampNeg), .int (S1.1 23 v5.toNatClampNeg), .int (S1.1 24 v5.toNatClampNeg), .int v4] [] (c_X11_clauseSign l D cs a N (S1.1 21 v5.toNatClampNeg) (S1.1 22 v5.toNatClampNeg) (S1.1 23 v5.toNatClampNeg) (S1.1 24 v5.toNatClampNeg) v4 S1 v10 hc) gX11_sign_X11_clauseSign rfl hd_X11_clauseSign ⟨by decide, by decide⟩ 0 11 clX11 rfl mE0 (Nat.le_of_ble_eq_true rfl) dX11_sign_106 rfl ⟨by decide, by decide⟩ (fun H locs hM => ?_)
        obtain ⟨e1, e2⟩ := so_2 hf
        cases e1; cases e2
        exact hQ _ _ _ _ _ _ dX11_sign_109 hM (by decide) (by decide)
      · intro k80 hk80 hf
        refine jl_W (fun k22 : Int32 → Int32 → Option (Int32 × St) => ∀ (v11 : Int32) (v12 : Int32), k22 v11 v12 = some (rz, Sz) → ∀ (H : Heap) (locs : List Loc) (ls : Array Slot), gw D A s.heap H locs (mcells cs a S1) → lv_has ls 5 [(0, .ref (a 0)), (2, .int v11), (3, .int v12)] → W p l e rmX11_sign s m args below meth c H locs 0 0 Q (F0 m 22 ls [])) ?_ ?_ ?_ hf
        · intro v11 v12 h; cases h
        · intro k22 hk22 v11 v12 hf H locs ls hM hl
          unfold b_X11_sign_22 at hf
          refine lv_iload_n hx hb dX11_sign_22 rfl (lv_at hl 2 rfl) ?_
          refine lv_aload_n hx hb dX11_sign_23 rfl (lv_at hl 0 rfl) ?_
          refine g_get hC hM inX11_sign_X11 0 mE0 clX11 38 (by decide) tX11_sign_3 TX11_38 mV0_38 dX11_sign_24 ?_
          refine lv_icmp_ge (tgt := 121) hx hb dX11_sign_27 (by decide) (fun c13 => ?_) (fun c13 => ?_)
          · replace hf := it_t c13 hf
            refine lv_iconst (v := (-1)) hx hb dX11_sign_121 (by decide) ?_
            obtain ⟨e1, e2⟩ := so_2 hf
            cases e1; cases e2
            exact hQ _ _ _ _ _ _ dX11_sign_122 hM (by decide) (by decide)
          · replace hf := it_f c13 hf
            refine lv_iload_n hx hb dX11_sign_30 rfl (lv_at hl 2 rfl) ?_
            refine jp_W (fun k44 : Int32 → Option (Int32 × St) => ∀ (v14 : Int32), k44 v14 = some (rz, Sz) → ∀ (H : Heap) (locs : List Loc) (ls : Array Slot), gw D A s.heap H locs (mcells cs a S1) → lv_has ls 5 [(0, .ref (a 0)), (2, .int v14), (3, .int v12)] → W p l e rmX11_sign s m args below meth c H locs 0 0 Q (F0 m 44 ls [])) ?_ ?_ hf
            · intro v14 hf H locs ls hM hl
              unfold j_X11_sign_44 at hf
              refine lv_aload_n hx hb dX11_sign_44 rfl (lv_at hl 0 rfl) ?_
              refine lv_aload_n hx hb dX11_sign_45 rfl (lv_at hl 0 rfl) ?_
              refine g_get hC hM inX11_sign_X11 0 mE0 clX11 41 (by decide) tX11_sign_4 TX11_41 mV0_41 dX11_sign_46 ?_
              refine lv_iload_n hx hb dX11_sign_49 rfl (lv_at hl 2 rfl) ?_
              obtain ⟨h15, hf⟩ := ck_s hf
              refine g_iald hC hM 21 mE21 h15 dX11_sign_50 ?_
              refine lv_aload_n hx hb dX11_sign_51 rfl (lv_at hl 0 rfl) ?_
              refine g_get hC hM inX11_sign_X11 0 mE0 clX11 42 (by decide) tX11_sign_5 TX11_42 mV0_42 dX11_sign_52 ?_
              refine lv_iload_n hx hb dX11_sign_55 rfl (lv_at hl 2 rfl) ?_
              obtain ⟨h16, hf⟩ := ck_s hf
              refine g_iald hC hM 22 mE22 h16 dX11_sign_56 ?_
              refine lv_aload_n hx hb dX11_sign_57 rfl (lv_at hl 0 rfl) ?_
              refine g_get hC hM inX11_sign_X11 0 mE0 clX11 43 (by decide) tX11_sign_6 TX11_43 mV0_43 dX11_sign_58 ?_
              refine lv_iload_n hx hb dX11_sign_61 rfl (lv_at hl 2 rfl) ?_
              obtain ⟨h17, hf⟩ := ck_s hf
              refine g_iald hC hM 23 mE23 h17 dX11_sign_62 ?_
              refine lv_aload_n hx hb dX11_sign_63 rfl (lv_at hl 0 rfl) ?_
              refine g_get hC hM inX11_sign_X11 0 mE0 clX11 44 (by decide) tX11_sign_7 TX11_44 mV0_44 dX11_sign_64 ?_
              refine lv_iload_n hx hb dX11_sign_67 rfl (lv_at hl 2 rfl) ?_
              obtain ⟨h18, hf⟩ := ck_s hf
              refine g_iald hC hM 24 mE24 h18 dX11_sign_68 ?_
              obtain ⟨v19, hc, hf⟩ := bd_s hf
              refine gV_i hC hM hA hl.1 [.int (S1.1 21 v12.toNatClampNeg), .int (S1.1 22 v12.toNatClampNeg), .int (S1.1 23 v12.toNatClampNeg), .int (S1.1 24 v12.toNatClampNeg)] [] (c_X11_clauseSize l D cs a N (S1.1 21 v12.toNatClampNeg) (S1.1 22 v12.toNatClampNeg) (S1.1 23 v12.toNatClampNeg) (S1.1 24 v12.toNatClampNeg) S1 v19 hc) gX11_sign_X11_clauseSize rfl hd_X11_clauseSize ⟨by decide, by decide⟩ 0 11 clX11 rfl mE0 (Nat.le_of_ble_eq_true rfl) dX11_sign_69 rfl ⟨by decide, by decide⟩ (fun H locs hM => ?_)
              refine lv_istore (lv' := [(4, .int v19), (0, .ref (a 0)), (2, .int v14), (3, .int v12)]) hx hb dX11_sign_72 hl (by decide) rfl (fun ls hl => ?_)
              refine lv_iload_n hx hb dX11_sign_74 rfl (lv_at hl 2 rfl) ?_
              refine lv_iload hx hb dX11_sign_75 (lv_at hl 0 rfl) ?_
              refine lv_icmp_ge (tgt := 110) hx hb dX11_sign_77 (by decide) (fun c20 => ?_) (fun c20 => ?_)
              · replace hf := it_t c20 hf
                refine lv_iload_n hx hb dX11_sign_110 rfl (lv_at hl 2 rfl) ?_
                refine lv_iload hx hb dX11_sign_111 (lv_at hl 0 rfl) ?_
                refine lv_isub hx hb dX11_sign_113 ?_
                refine lv_topi (fun v21 ev21 => ?_)
                replace hf := nm_q ev21 hf
                refine lv_istore_n (lv' := [(2, .int v21), (4, .int v19), (0, .ref (a 0)), (3, .int v12)]) hx hb dX11_sign_114 rfl hl (by decide) rfl (fun ls hl => ?_)
                obtain ⟨v22, ev22⟩ : ∃ y : Int32, y = v12 + 1 := ⟨_, rfl⟩
                replace hf := nm_q ev22 hf
                refine lv_iinc (v := v22) (lv' := [(3, .int v22), (2, .int v21), (4, .int v19), (0, .ref (a 0))]) hx hb dX11_sign_115 hl (k := 3) rfl (by rw [ev22]; rfl) (by decide) rfl (fun ls hl => ?_)
                refine lv_goto (tgt := 22) hx hb dX11_sign_118 (by decide) ?_
                exact hk22 _ _ hf _ _ _ hM (lv_sub hl [3, 1, 0] rfl)
              · replace hf := it_f c20 hf
                exact hk80 _ _ hf _ _ _ hM (lv_sub hl [1, 2, 3] rfl)
            · intro k44 hk44 hf
              refine lv_if_le (tgt := 44) hx hb dX11_sign_31 (by decide) (fun c23 => ?_) (fun c23 => ?_)
              · replace hf := it_t c23 hf
                exact hk44 _ hf _ _ _ hM hl
              · replace hf := it_f c23 hf
                refine lv_iload_n hx hb dX11_sign_34 rfl (lv_at hl 1 rfl) ?_
                refine lv_if_ne (tgt := 41) hx hb dX11_sign_35 (by decide) (fun c24 => ?_) (fun c24 => ?_)
                · replace hf := it_f c24 hf
                  obtain ⟨v25, ev25⟩ : ∃ y : Int32, y = v11 + (-1) := ⟨_, rfl⟩
                  replace hf := nm_q ev25 hf
                  refine lv_iinc (v := v25) (lv' := [(2, .int v25), (0, .ref (a 0)), (3, .int v12)]) hx hb dX11_sign_41 hl (k := 1) rfl (by rw [ev25]; rfl) (by decide) rfl (fun ls hl => ?_)
                  exact hk44 _ hf _ _ _ hM (lv_sub hl [1, 0, 2] rfl)
                · replace hf := it_t c24 hf
                  refine lv_bipush (v := 32) hx hb dX11_sign_38 (by decide) ?_
                  obtain ⟨e1, e2⟩ := so_2 hf
                  cases e1; cases e2
                  exact hQ _ _ _ _ _ _ dX11_sign_40 hM (by decide) (by decide)
        · intro k22 hk22 hf
          exact hk22 _ _ hf _ _ _ hM (lv_sub hl [2, 1, 0] rfl)
    · replace hf := it_f c3 hf
      refine lv_iconst (v := (-1)) hx hb dX11_sign_16 (by decide) ?_
      obtain ⟨e1, e2⟩ := so_2 hf
      cases e1; cases e2
      exact hQ _ _ _ _ _ _ dX11_sign_17 hM (by decide) (by decide)

theorem hd_X11_told : yX11_told.cls = RX11 ∧ yX11_told.cls ≠ "java/lang/invoke/MethodHandle" ∧ yX11_told.cls ≠ "java/lang/invoke/VarHandle" ∧ (parseMethodDescriptor yX11_told.desc).map (fun d => d.parameters.length) = some 1 := by decide +kernel
theorem tX11_told_1 : Cond.fieldLink RX11 94 "WeatherTellerModel" "thrown" "I" ∈ wsX11_told := List.mem_of_getElem? (i := 1) rfl
theorem inX11_told_X11 : ∀ w ∈ u_ws RX11 TX11 50, w ∈ wsX11_told := fun _ h => List.mem_cons_of_mem _ (List.mem_append_right _ h)
theorem tX11_told_2 : Cond.fieldLink RX11 193 "WeatherTellerModel" "toldMany" "I" ∈ wsX11_told := List.mem_of_getElem? (i := 2) rfl
theorem tX11_told_3 : Cond.fieldLink RX11 72 "WeatherTellerModel" "tNumber" "[I" ∈ wsX11_told := List.mem_of_getElem? (i := 3) rfl
def f_X11_told (N : Nat) (p0 : Int32) (S : St) : Option (Int32 × St) :=
  nm (puI S 0 2 0) fun S1 =>
  if p0 < 0 then
    some ((-1), S1)
  else
    if p0 < (S1.1 0 38) then
      ck p0 432 <|
      some ((S1.1 20 p0.toNatClampNeg), S1)
    else
      some ((-1), S1)
abbrev rmX11_told : Room := { frames := 0, cells := 0, slots := 0, locals := 0 }
set_option maxRecDepth 100000 in
set_option maxHeartbeats 4000000 in
theorem c_X11_told (l : Launch) (D : va_G) (cs : Nat → ClassId) (a : Nat → Nat) (N : Nat) (p0 : Int32) (S : St) (rz : Int32) (Sz : St) (hf : f_X11_told N p0 S = some (rz, Sz)) : gMi l yX11_told wsX11_told rmX11_told D cs [.ref (a 0), .int p0] (mcells cs a S) rz (mcells cs a Sz) := by
  unfold f_X11_told at hf
  refine gE_i (cc := cX11_told) (maxL := 2) (by decide) rfl (Nat.le_of_ble_eq_true rfl) ?_
  intro p e s m args below meth c A Q hC hA hQ hM ls hl
  obtain ⟨hx, hb, hml, hown, hts⟩ := hC.1
  have hl : lv_has ls 2 [(0, .ref (a 0)), (1, .int p0)] := hl
  refine lv_aload_n hx hb dX11_told_0 rfl (lv_at hl 0 rfl) ?_
  refine lv_iconst (v := 0) hx hb dX11_told_1 (by decide) ?_
  refine g_put hC hM inX11_told_X11 tyX11_ok nmX11 0 mE0 clX11 2 (by decide) tX11_told_1 TX11_2 tyX11_2 rfl rfl (by rw [mL0]; decide) mP0_2 dX11_told_2 (fun H locs hM => ?_)
  obtain ⟨S1, hf, hM⟩ := mnm hf hM
  refine lv_iload_n hx hb dX11_told_5 rfl (lv_at hl 1 rfl) ?_
  refine lv_if_lt (tgt := 17) hx hb dX11_told_6 (by decide) (fun c2 => ?_) (fun c2 => ?_)
  · replace hf := it_t c2 hf
    refine lv_iconst (v := (-1)) hx hb dX11_told_17 (by decide) ?_
    refine lv_goto (tgt := 27) hx hb dX11_told_18 (by decide) ?_
    obtain ⟨e1, e2⟩ := so_2 hf
    cases e1; cases e2
    exact hQ _ _ _ _ _ _ dX11_told_27 hM (by decide) (by decide)
  · replace hf := it_f c2 hf
    refine lv_iload_n hx hb dX11_told_9 rfl (lv_at hl 1 rfl) ?_
    refine lv_aload_n hx hb dX11_told_10 rfl (lv_at hl 0 rfl) ?_
    refine g_get hC hM inX11_told_X11 0 mE0 clX11 38 (by decide) tX11_told_2 TX11_38 mV0_38 dX11_told_11 ?_
    refine lv_icmp_lt (tgt := 21) hx hb dX11_told_14 (by decide) (fun c3 => ?_) (fun c3 => ?_)
    · replace hf := it_t c3 hf
      refine lv_aload_n hx hb dX11_told_21 rfl (lv_at hl 0 rfl) ?_
      refine g_get hC hM inX11_told_X11 0 mE0 clX11 40 (by decide) tX11_told_3 TX11_40 mV0_40 dX11_told_22 ?_
      refine lv_iload_n hx hb dX11_told_25 rfl (lv_at hl 1 rfl) ?_
      obtain ⟨h4, hf⟩ := ck_s hf
      refine g_iald hC hM 20 mE20 h4 dX11_told_26 ?_
      obtain ⟨e1, e2⟩ := so_2 hf
      cases e1; cases e2
      exact hQ _ _ _ _ _ _ dX11_told_27 hM (by decide) (by decide)
    · replace hf := it_f c3 hf
      refine lv_iconst (v := (-1)) hx hb dX11_told_17 (by decide) ?_
      refine lv_goto (tgt := 27) hx hb dX11_told_18 (by decide) ?_
      obtain ⟨e1, e2⟩ := so_2 hf
      cases e1; cases e2
      exact hQ _ _ _ _ _ _ dX11_told_27 hM (by decide) (by decide)

theorem hd_X11_see : yX11_see.cls = RX11 ∧ yX11_see.cls ≠ "java/lang/invoke/MethodHandle" ∧ yX11_see.cls ≠ "java/lang/invoke/VarHandle" ∧ (parseMethodDescriptor yX11_see.desc).map (fun d => d.parameters.length) = some 0 := by decide +kernel
theorem tX11_see_1 : Cond.fieldLink RX11 262 "WeatherTellerModel" "at" "I" ∈ wsX11_see := List.mem_of_getElem? (i := 1) rfl
theorem inX11_see_X11 : ∀ w ∈ u_ws RX11 TX11 50, w ∈ wsX11_see := fun _ h => List.mem_cons_of_mem _ (List.mem_append_right _ h)
theorem tX11_see_2 : Cond.fieldLink RX11 103 "WeatherTellerModel" "size" "I" ∈ wsX11_see := List.mem_of_getElem? (i := 2) rfl
theorem tX11_see_3 : Cond.fieldLink RX11 7 "WeatherTellerModel" "tape" "[I" ∈ wsX11_see := List.mem_of_getElem? (i := 3) rfl
def f_X11_see (N : Nat)  (S : St) : Option (Int32) :=
  if (S.1 0 22) ≤ (S.1 0 47) then
    some (-1)
  else
    ck (S.1 0 47) 1000 <|
    some (S.1 1 (S.1 0 47).toNatClampNeg)
abbrev rmX11_see : Room := { frames := 0, cells := 0, slots := 0, locals := 0 }
set_option maxRecDepth 100000 in
set_option maxHeartbeats 4000000 in
theorem c_X11_see (l : Launch) (D : va_G) (cs : Nat → ClassId) (a : Nat → Nat) (N : Nat) (S : St) (rz : Int32) (hf : f_X11_see N S = some rz) : gMi l yX11_see wsX11_see rmX11_see D cs [.ref (a 0)] (mcells cs a S) rz (mcells cs a S) := by
  unfold f_X11_see at hf
  refine gE_i (cc := cX11_see) (maxL := 1) (by decide) rfl (Nat.le_of_ble_eq_true rfl) ?_
  intro p e s m args below meth c A Q hC hA hQ hM ls hl
  obtain ⟨hx, hb, hml, hown, hts⟩ := hC.1
  have hl : lv_has ls 1 [(0, .ref (a 0))] := hl
  refine lv_aload_n hx hb dX11_see_0 rfl (lv_at hl 0 rfl) ?_
  refine g_get hC hM inX11_see_X11 0 mE0 clX11 47 (by decide) tX11_see_1 TX11_47 mV0_47 dX11_see_1 ?_
  refine lv_aload_n hx hb dX11_see_4 rfl (lv_at hl 0 rfl) ?_
  refine g_get hC hM inX11_see_X11 0 mE0 clX11 22 (by decide) tX11_see_2 TX11_22 mV0_22 dX11_see_5 ?_
  refine lv_icmp_ge (tgt := 23) hx hb dX11_see_8 (by decide) (fun c1 => ?_) (fun c1 => ?_)
  · replace hf := it_t c1 hf
    refine lv_iconst (v := (-1)) hx hb dX11_see_23 (by decide) ?_
    cases so_1 hf
    exact hQ _ _ _ _ _ _ dX11_see_24 hM (by decide) (by decide)
  · replace hf := it_f c1 hf
    refine lv_aload_n hx hb dX11_see_11 rfl (lv_at hl 0 rfl) ?_
    refine g_get hC hM inX11_see_X11 0 mE0 clX11 0 (by decide) tX11_see_3 TX11_0 mV0_0 dX11_see_12 ?_
    refine lv_aload_n hx hb dX11_see_15 rfl (lv_at hl 0 rfl) ?_
    refine g_get hC hM inX11_see_X11 0 mE0 clX11 47 (by decide) tX11_see_1 TX11_47 mV0_47 dX11_see_16 ?_
    obtain ⟨h2, hf⟩ := ck_s hf
    refine g_iald hC hM 1 mE1 h2 dX11_see_19 ?_
    refine lv_goto (tgt := 24) hx hb dX11_see_20 (by decide) ?_
    cases so_1 hf
    exact hQ _ _ _ _ _ _ dX11_see_24 hM (by decide) (by decide)

theorem hd_X11_blanks : yX11_blanks.cls = RX11 ∧ yX11_blanks.cls ≠ "java/lang/invoke/MethodHandle" ∧ yX11_blanks.cls ≠ "java/lang/invoke/VarHandle" ∧ (parseMethodDescriptor yX11_blanks.desc).map (fun d => d.parameters.length) = some 0 := by decide +kernel
theorem tX11_blanks_1 : Cond.fieldLink RX11 262 "WeatherTellerModel" "at" "I" ∈ wsX11_blanks := List.mem_of_getElem? (i := 1) rfl
theorem inX11_blanks_X11 : ∀ w ∈ u_ws RX11 TX11 50, w ∈ wsX11_blanks := fun _ h => List.mem_cons_of_mem _ (List.mem_append_right _ h)
def b_X11_blanks_0 (N : Nat) (k0 : St → Option (St)) (S1 : St) : Option (St) :=
  bd (f_X11_see N S1) fun v2 =>
  if v2 = 32 then
    nm (puI S1 0 47 ((S1.1 0 47) + 1)) fun S4 =>
    k0 S4
  else
    some S1
def f_X11_blanks (N : Nat)  (S : St) : Option (St) :=
  jp (lp (fun _ => none) (b_X11_blanks_0 N) N) fun k0 =>
  k0 S
abbrev rmX11_blanks : Room := { frames := 1, cells := 0, slots := 0, locals := 20 }
set_option maxRecDepth 100000 in
set_option maxHeartbeats 4000000 in
theorem c_X11_blanks (l : Launch) (D : va_G) (cs : Nat → ClassId) (a : Nat → Nat) (N : Nat) (S : St) (Sz : St) (hf : f_X11_blanks N S = some Sz) : gMv l yX11_blanks wsX11_blanks rmX11_blanks D cs [.ref (a 0)] (mcells cs a S) (mcells cs a Sz) := by
  unfold f_X11_blanks at hf
  refine gE_v (cc := cX11_blanks) (maxL := 1) (by decide) rfl (Nat.le_of_ble_eq_true rfl) ?_
  intro p e s m args below meth c A Q hC hA hQ hM ls hl
  obtain ⟨hx, hb, hml, hown, hts⟩ := hC.1
  have hl : lv_has ls 1 [(0, .ref (a 0))] := hl
  refine jl_W (fun k0 : St → Option (St) => ∀ (S1 : St), k0 S1 = some Sz → ∀ (H : Heap) (locs : List Loc) (ls : Array Slot), gw D A s.heap H locs (mcells cs a S1) → lv_has ls 1 [(0, .ref (a 0))] → W p l e rmX11_blanks s m args below meth c H locs 0 0 Q (F0 m 0 ls [])) ?_ ?_ ?_ hf
  · intro S1 h; cases h
  · intro k0 hk0 S1 hf H locs ls hM hl
    unfold b_X11_blanks_0 at hf
    refine lv_aload_n hx hb dX11_blanks_0 rfl (lv_at hl 0 rfl) ?_
    obtain ⟨v2, hc, hf⟩ := bd_s hf
    refine gV_i hC hM hA hl.1 [] [] (c_X11_see l D cs a N S1 v2 hc) gX11_blanks_X11_see rfl hd_X11_see ⟨by decide, by decide⟩ 0 11 clX11 rfl mE0 (Nat.le_of_ble_eq_true rfl) dX11_blanks_1 rfl ⟨by decide, by decide⟩ (fun H locs hM => ?_)
    refine lv_bipush (v := 32) hx hb dX11_blanks_4 (by decide) ?_
    refine lv_icmp_ne (tgt := 22) hx hb dX11_blanks_6 (by decide) (fun c3 => ?_) (fun c3 => ?_)
    · replace hf := it_f c3 hf
      cases so_1 hf
      exact hQ _ _ _ _ _ _ dX11_blanks_22 hM (by decide) (by decide)
    · replace hf := it_t c3 hf
      refine lv_aload_n hx hb dX11_blanks_9 rfl (lv_at hl 0 rfl) ?_
      refine lv_dup hx hb dX11_blanks_10 rfl ?_
      refine g_get hC hM inX11_blanks_X11 0 mE0 clX11 47 (by decide) tX11_blanks_1 TX11_47 mV0_47 dX11_blanks_11 ?_
      refine lv_iconst (v := 1) hx hb dX11_blanks_14 (by decide) ?_
      refine lv_iadd hx hb dX11_blanks_15 ?_
      refine g_put hC hM inX11_blanks_X11 tyX11_ok nmX11 0 mE0 clX11 47 (by decide) tX11_blanks_1 TX11_47 tyX11_47 rfl rfl (by rw [mL0]; decide) mP0_47 dX11_blanks_16 (fun H locs hM => ?_)
      obtain ⟨S4, hf, hM⟩ := mnm hf hM
      refine lv_goto (tgt := 0) hx hb dX11_blanks_19 (by decide) ?_
      exact hk0 _ hf _ _ _ hM hl
  · intro k0 hk0 hf
    exact hk0 _ hf _ _ _ hM hl

theorem hd_X11_word : yX11_word.cls = RX11 ∧ yX11_word.cls ≠ "java/lang/invoke/MethodHandle" ∧ yX11_word.cls ≠ "java/lang/invoke/VarHandle" ∧ (parseMethodDescriptor yX11_word.desc).map (fun d => d.parameters.length) = some 0 := by decide +kernel
theorem tX11_word_1 : Cond.fieldLink RX11 262 "WeatherTellerModel" "at" "I" ∈ wsX11_word := List.mem_of_getElem? (i := 1) rfl
theorem inX11_word_X11 : ∀ w ∈ u_ws RX11 TX11 50, w ∈ wsX11_word := fun _ h => List.mem_cons_of_mem _ (List.mem_append_right _ h)
theorem tX11_word_2 : Cond.fieldLink RX11 272 "WeatherTellerModel" "from0" "I" ∈ wsX11_word := List.mem_of_getElem? (i := 2) rfl
def j_X11_word_36 (S3 : St) : Option (Int32 × St) :=
  if (S3.1 0 47) ≤ (S3.1 0 48) then
    some (0, S3)
  else
    some (1, S3)
def b_X11_word_12 (N : Nat) (k36 : St → Option (Int32 × St)) (k12 : St → Option (Int32 × St)) (S5 : St) : Option (Int32 × St) :=
  bd (f_X11_isSmall N (S5.1 0 47) S5) fun v6 =>
  if v6 = 0 then
    k36 S5
  else
    nm (puI S5 0 47 ((S5.1 0 47) + 1)) fun S8 =>
    k12 S8
def f_X11_word (N : Nat)  (S : St) : Option (Int32 × St) :=
  zb <|
  bd (f_X11_blanks N S) fun S1 =>
  nm (puI S1 0 48 (S1.1 0 47)) fun S2 =>
  jp (j_X11_word_36) fun k36 =>
  jp (lp (fun _ => none) (b_X11_word_12 N k36) N) fun k12 =>
  k12 S2
abbrev rmX11_word : Room := { frames := 2, cells := 0, slots := 0, locals := 40 }
set_option maxRecDepth 100000 in
set_option maxHeartbeats 4000000 in
theorem c_X11_word (l : Launch) (D : va_G) (cs : Nat → ClassId) (a : Nat → Nat) (N : Nat) (S : St) (rz : Int32) (Sz : St) (hf : f_X11_word N S = some (rz, Sz)) : gMi l yX11_word wsX11_word rmX11_word D cs [.ref (a 0)] (mcells cs a S) rz (mcells cs a Sz) := by
  unfold f_X11_word at hf
  obtain ⟨hrz, hf⟩ := zb_s hf
  refine gE_z (cc := cX11_word) (maxL := 1) hrz (by decide) rfl (Nat.le_of_ble_eq_true rfl) ?_
  intro p e s m args below meth c A Q hC hA hQ hM ls hl
  obtain ⟨hx, hb, hml, hown, hts⟩ := hC.1
  have hl : lv_has ls 1 [(0, .ref (a 0))] := hl
  refine lv_aload_n hx hb dX11_word_0 rfl (lv_at hl 0 rfl) ?_
  obtain ⟨S1, hc, hf⟩ := bd_s hf
  refine gV_v hC hM hA hl.1 [] [] (c_X11_blanks l D cs a N S S1 hc) gX11_word_X11_blanks rfl hd_X11_blanks ⟨by decide, by decide⟩ 0 11 clX11 rfl mE0 (Nat.le_of_ble_eq_true rfl) dX11_word_1 rfl ⟨by decide, by decide⟩ (fun H locs hM => ?_)
  refine lv_aload_n hx hb dX11_word_4 rfl (lv_at hl 0 rfl) ?_
  refine lv_aload_n hx hb dX11_word_5 rfl (lv_at hl 0 rfl) ?_
  refine g_get hC hM inX11_word_X11 0 mE0 clX11 47 (by decide) tX11_word_1 TX11_47 mV0_47 dX11_word_6 ?_
  refine g_put hC hM inX11_word_X11 tyX11_ok nmX11 0 mE0 clX11 48 (by decide) tX11_word_2 TX11_48 tyX11_48 rfl rfl (by rw [mL0]; decide) mP0_48 dX11_word_9 (fun H locs hM => ?_)
  obtain ⟨S2, hf, hM⟩ := mnm hf hM
  refine jp_W (fun k36 : St → Option (Int32 × St) => ∀ (S3 : St), k36 S3 = some (rz, Sz) → ∀ (H : Heap) (locs : List Loc) (ls : Array Slot), gw D A s.heap H locs (mcells cs a S3) → lv_has ls 1 [(0, .ref (a 0))] → W p l e rmX11_word s m args below meth c H locs 0 0 Q (F0 m 36 ls [])) ?_ ?_ hf
  · intro S3 hf H locs ls hM hl
    unfold j_X11_word_36 at hf
    refine lv_aload_n hx hb dX11_word_36 rfl (lv_at hl 0 rfl) ?_
    refine g_get hC hM inX11_word_X11 0 mE0 clX11 47 (by decide) tX11_word_1 TX11_47 mV0_47 dX11_word_37 ?_
    refine lv_aload_n hx hb dX11_word_40 rfl (lv_at hl 0 rfl) ?_
    refine g_get hC hM inX11_word_X11 0 mE0 clX11 48 (by decide) tX11_word_2 TX11_48 mV0_48 dX11_word_41 ?_
    refine lv_icmp_le (tgt := 51) hx hb dX11_word_44 (by decide) (fun c4 => ?_) (fun c4 => ?_)
    · replace hf := it_t c4 hf
      refine lv_iconst (v := 0) hx hb dX11_word_51 (by decide) ?_
      obtain ⟨e1, e2⟩ := so_2 hf
      cases e1; cases e2
      exact hQ _ _ _ _ _ _ dX11_word_52 hM (by decide) (by decide)
    · replace hf := it_f c4 hf
      refine lv_iconst (v := 1) hx hb dX11_word_47 (by decide) ?_
      refine lv_goto (tgt := 52) hx hb dX11_word_48 (by decide) ?_
      obtain ⟨e1, e2⟩ := so_2 hf
      cases e1; cases e2
      exact hQ _ _ _ _ _ _ dX11_word_52 hM (by decide) (by decide)
  · intro k36 hk36 hf
    refine jl_W (fun k12 : St → Option (Int32 × St) => ∀ (S5 : St), k12 S5 = some (rz, Sz) → ∀ (H : Heap) (locs : List Loc) (ls : Array Slot), gw D A s.heap H locs (mcells cs a S5) → lv_has ls 1 [(0, .ref (a 0))] → W p l e rmX11_word s m args below meth c H locs 0 0 Q (F0 m 12 ls [])) ?_ ?_ ?_ hf
    · intro S5 h; cases h
    · intro k12 hk12 S5 hf H locs ls hM hl
      unfold b_X11_word_12 at hf
      refine lv_aload_n hx hb dX11_word_12 rfl (lv_at hl 0 rfl) ?_
      refine lv_aload_n hx hb dX11_word_13 rfl (lv_at hl 0 rfl) ?_
      refine g_get hC hM inX11_word_X11 0 mE0 clX11 47 (by decide) tX11_word_1 TX11_47 mV0_47 dX11_word_14 ?_
      obtain ⟨v6, hc, hf⟩ := bd_s hf
      refine gV_i hC hM hA hl.1 [.int (S5.1 0 47)] [] (c_X11_isSmall l D cs a N (S5.1 0 47) S5 v6 hc) gX11_word_X11_isSmall rfl hd_X11_isSmall ⟨by decide, by decide⟩ 0 11 clX11 rfl mE0 (Nat.le_of_ble_eq_true rfl) dX11_word_17 rfl ⟨by decide, by decide⟩ (fun H locs hM => ?_)
      refine lv_if_eq (tgt := 36) hx hb dX11_word_20 (by decide) (fun c7 => ?_) (fun c7 => ?_)
      · replace hf := it_t c7 hf
        exact hk36 _ hf _ _ _ hM hl
      · replace hf := it_f c7 hf
        refine lv_aload_n hx hb dX11_word_23 rfl (lv_at hl 0 rfl) ?_
        refine lv_dup hx hb dX11_word_24 rfl ?_
        refine g_get hC hM inX11_word_X11 0 mE0 clX11 47 (by decide) tX11_word_1 TX11_47 mV0_47 dX11_word_25 ?_
        refine lv_iconst (v := 1) hx hb dX11_word_28 (by decide) ?_
        refine lv_iadd hx hb dX11_word_29 ?_
        refine g_put hC hM inX11_word_X11 tyX11_ok nmX11 0 mE0 clX11 47 (by decide) tX11_word_1 TX11_47 tyX11_47 rfl rfl (by rw [mL0]; decide) mP0_47 dX11_word_30 (fun H locs hM => ?_)
        obtain ⟨S8, hf, hM⟩ := mnm hf hM
        refine lv_goto (tgt := 12) hx hb dX11_word_33 (by decide) ?_
        exact hk12 _ hf _ _ _ hM hl
    · intro k12 hk12 hf
      exact hk12 _ hf _ _ _ hM hl

theorem hd_X11_isSign : yX11_isSign.cls = RX11 ∧ yX11_isSign.cls ≠ "java/lang/invoke/MethodHandle" ∧ yX11_isSign.cls ≠ "java/lang/invoke/VarHandle" ∧ (parseMethodDescriptor yX11_isSign.desc).map (fun d => d.parameters.length) = some 1 := by decide +kernel
theorem tX11_isSign_1 : Cond.fieldLink RX11 262 "WeatherTellerModel" "at" "I" ∈ wsX11_isSign := List.mem_of_getElem? (i := 1) rfl
theorem inX11_isSign_X11 : ∀ w ∈ u_ws RX11 TX11 50, w ∈ wsX11_isSign := fun _ h => List.mem_cons_of_mem _ (List.mem_append_right _ h)
def f_X11_isSign (N : Nat) (p0 : Int32) (S : St) : Option (Int32 × St) :=
  zb <|
  bd (f_X11_blanks N S) fun S1 =>
  bd (f_X11_see N S1) fun v2 =>
  if v2 = p0 then
    nm (puI S1 0 47 ((S1.1 0 47) + 1)) fun S4 =>
    some (1, S4)
  else
    some (0, S1)
abbrev rmX11_isSign : Room := { frames := 2, cells := 0, slots := 0, locals := 40 }
set_option maxRecDepth 100000 in
set_option maxHeartbeats 4000000 in
theorem c_X11_isSign (l : Launch) (D : va_G) (cs : Nat → ClassId) (a : Nat → Nat) (N : Nat) (p0 : Int32) (S : St) (rz : Int32) (Sz : St) (hf : f_X11_isSign N p0 S = some (rz, Sz)) : gMi l yX11_isSign wsX11_isSign rmX11_isSign D cs [.ref (a 0), .int p0] (mcells cs a S) rz (mcells cs a Sz) := by
  unfold f_X11_isSign at hf
  obtain ⟨hrz, hf⟩ := zb_s hf
  refine gE_z (cc := cX11_isSign) (maxL := 2) hrz (by decide) rfl (Nat.le_of_ble_eq_true rfl) ?_
  intro p e s m args below meth c A Q hC hA hQ hM ls hl
  obtain ⟨hx, hb, hml, hown, hts⟩ := hC.1
  have hl : lv_has ls 2 [(0, .ref (a 0)), (1, .int p0)] := hl
  refine lv_aload_n hx hb dX11_isSign_0 rfl (lv_at hl 0 rfl) ?_
  obtain ⟨S1, hc, hf⟩ := bd_s hf
  refine gV_v hC hM hA hl.1 [] [] (c_X11_blanks l D cs a N S S1 hc) gX11_isSign_X11_blanks rfl hd_X11_blanks ⟨by decide, by decide⟩ 0 11 clX11 rfl mE0 (Nat.le_of_ble_eq_true rfl) dX11_isSign_1 rfl ⟨by decide, by decide⟩ (fun H locs hM => ?_)
  refine lv_aload_n hx hb dX11_isSign_4 rfl (lv_at hl 0 rfl) ?_
  obtain ⟨v2, hc, hf⟩ := bd_s hf
  refine gV_i hC hM hA hl.1 [] [] (c_X11_see l D cs a N S1 v2 hc) gX11_isSign_X11_see rfl hd_X11_see ⟨by decide, by decide⟩ 0 11 clX11 rfl mE0 (Nat.le_of_ble_eq_true rfl) dX11_isSign_5 rfl ⟨by decide, by decide⟩ (fun H locs hM => ?_)
  refine lv_iload_n hx hb dX11_isSign_8 rfl (lv_at hl 1 rfl) ?_
  refine lv_icmp_eq (tgt := 14) hx hb dX11_isSign_9 (by decide) (fun c3 => ?_) (fun c3 => ?_)
  · replace hf := it_t c3 hf
    refine lv_aload_n hx hb dX11_isSign_14 rfl (lv_at hl 0 rfl) ?_
    refine lv_dup hx hb dX11_isSign_15 rfl ?_
    refine g_get hC hM inX11_isSign_X11 0 mE0 clX11 47 (by decide) tX11_isSign_1 TX11_47 mV0_47 dX11_isSign_16 ?_
    refine lv_iconst (v := 1) hx hb dX11_isSign_19 (by decide) ?_
    refine lv_iadd hx hb dX11_isSign_20 ?_
    refine g_put hC hM inX11_isSign_X11 tyX11_ok nmX11 0 mE0 clX11 47 (by decide) tX11_isSign_1 TX11_47 tyX11_47 rfl rfl (by rw [mL0]; decide) mP0_47 dX11_isSign_21 (fun H locs hM => ?_)
    obtain ⟨S4, hf, hM⟩ := mnm hf hM
    refine lv_iconst (v := 1) hx hb dX11_isSign_24 (by decide) ?_
    obtain ⟨e1, e2⟩ := so_2 hf
    cases e1; cases e2
    exact hQ _ _ _ _ _ _ dX11_isSign_25 hM (by decide) (by decide)
  · replace hf := it_f c3 hf
    refine lv_iconst (v := 0) hx hb dX11_isSign_12 (by decide) ?_
    obtain ⟨e1, e2⟩ := so_2 hf
    cases e1; cases e2
    exact hQ _ _ _ _ _ _ dX11_isSign_13 hM (by decide) (by decide)

theorem hd_X11_nameTaken : yX11_nameTaken.cls = RX11 ∧ yX11_nameTaken.cls ≠ "java/lang/invoke/MethodHandle" ∧ yX11_nameTaken.cls ≠ "java/lang/invoke/VarHandle" ∧ (parseMethodDescriptor yX11_nameTaken.desc).map (fun d => d.parameters.length) = some 1 := by decide +kernel
theorem tX11_nameTaken_1 : Cond.fieldLink RX11 16 "WeatherTellerModel" "sizes" "[I" ∈ wsX11_nameTaken := List.mem_of_getElem? (i := 1) rfl
theorem inX11_nameTaken_X11 : ∀ w ∈ u_ws RX11 TX11 50, w ∈ wsX11_nameTaken := fun _ h => List.mem_cons_of_mem _ (List.mem_append_right _ h)
theorem tX11_nameTaken_2 : Cond.fieldLink RX11 262 "WeatherTellerModel" "at" "I" ∈ wsX11_nameTaken := List.mem_of_getElem? (i := 2) rfl
theorem tX11_nameTaken_3 : Cond.fieldLink RX11 272 "WeatherTellerModel" "from0" "I" ∈ wsX11_nameTaken := List.mem_of_getElem? (i := 3) rfl
theorem tX11_nameTaken_4 : Cond.fieldLink RX11 13 "WeatherTellerModel" "letters" "[I" ∈ wsX11_nameTaken := List.mem_of_getElem? (i := 4) rfl
theorem tX11_nameTaken_5 : Cond.fieldLink RX11 7 "WeatherTellerModel" "tape" "[I" ∈ wsX11_nameTaken := List.mem_of_getElem? (i := 5) rfl
def j_X11_nameTaken_88 (v1 : Int32) (k2 : Int32 → Option (Int32)) (v5 : Int32) : Option (Int32) :=
  if v5 = 0 then
    nm (v1 + 1) fun v7 =>
    k2 v7
  else
    some v1
def j_X11_nameTaken_81 (v9 : Int32) (k34 : Int32 → Int32 → Option (Int32)) (v15 : Int32) : Option (Int32) :=
  nm (v9 + 1) fun v16 =>
  k34 v15 v16
def b_X11_nameTaken_34 (S : St) (v1 : Int32) (k88 : Int32 → Option (Int32)) (k34 : Int32 → Int32 → Option (Int32)) (v8 : Int32) (v9 : Int32) : Option (Int32) :=
  ck v1 24 <|
  if (S.1 3 v1.toNatClampNeg) ≤ v9 then
    k88 v8
  else
    if v8 = 0 then
      k88 v8
    else
      ck ((12 * v1) + v9) 288 <|
      ck ((S.1 0 48) + v9) 1000 <|
      jp (j_X11_nameTaken_81 v9 k34) fun k81 =>
      if (S.1 2 ((12 * v1) + v9).toNatClampNeg) = (S.1 1 ((S.1 0 48) + v9).toNatClampNeg) then
        k81 1
      else
        k81 0
def j_X11_nameTaken_30 (N : Nat) (S : St) (v1 : Int32) (k2 : Int32 → Option (Int32)) (v4 : Int32) : Option (Int32) :=
  jp (j_X11_nameTaken_88 v1 k2) fun k88 =>
  jp (lp (fun _ _ => none) (b_X11_nameTaken_34 S v1 k88) N) fun k34 =>
  k34 v4 0
def b_X11_nameTaken_2 (N : Nat) (p0 : Int32) (S : St) (k2 : Int32 → Option (Int32)) (v1 : Int32) : Option (Int32) :=
  if p0 ≤ v1 then
    some (-1)
  else
    ck v1 24 <|
    jp (j_X11_nameTaken_30 N S v1 k2) fun k30 =>
    if (S.1 3 v1.toNatClampNeg) = ((S.1 0 47) - (S.1 0 48)) then
      k30 1
    else
      k30 0
def f_X11_nameTaken (N : Nat) (p0 : Int32) (S : St) : Option (Int32) :=
  jp (lp (fun _ => none) (b_X11_nameTaken_2 N p0 S) N) fun k2 =>
  k2 0
abbrev rmX11_nameTaken : Room := { frames := 0, cells := 0, slots := 0, locals := 0 }
set_option maxRecDepth 100000 in
set_option maxHeartbeats 4000000 in
theorem c_X11_nameTaken (l : Launch) (D : va_G) (cs : Nat → ClassId) (a : Nat → Nat) (N : Nat) (p0 : Int32) (S : St) (rz : Int32) (hf : f_X11_nameTaken N p0 S = some rz) : gMi l yX11_nameTaken wsX11_nameTaken rmX11_nameTaken D cs [.ref (a 0), .int p0] (mcells cs a S) rz (mcells cs a S) := by
  unfold f_X11_nameTaken at hf
  refine gE_i (cc := cX11_nameTaken) (maxL := 5) (by decide) rfl (Nat.le_of_ble_eq_true rfl) ?_
  intro p e s m args below meth c A Q hC hA hQ hM ls hl
  obtain ⟨hx, hb, hml, hown, hts⟩ := hC.1
  have hl : lv_has ls 5 [(0, .ref (a 0)), (1, .int p0)] := hl
  refine lv_iconst (v := 0) hx hb dX11_nameTaken_0 (by decide) ?_
  refine lv_istore_n (lv' := [(2, .int 0), (0, .ref (a 0)), (1, .int p0)]) hx hb dX11_nameTaken_1 rfl hl (by decide) rfl (fun ls hl => ?_)
  refine jl_W (fun k2 : Int32 → Option (Int32) => ∀ (v1 : Int32), k2 v1 = some rz → ∀ (H : Heap) (locs : List Loc) (ls : Array Slot), gw D A s.heap H locs (mcells cs a S) → lv_has ls 5 [(0, .ref (a 0)), (1, .int p0), (2, .int v1)] → W p l e rmX11_nameTaken s m args below meth c H locs 0 0 Q (F0 m 2 ls [])) ?_ ?_ ?_ hf
  · intro v1 h; cases h
  · intro k2 hk2 v1 hf H locs ls hM hl
    unfold b_X11_nameTaken_2 at hf
    refine lv_iload_n hx hb dX11_nameTaken_2 rfl (lv_at hl 2 rfl) ?_
    refine lv_iload_n hx hb dX11_nameTaken_3 rfl (lv_at hl 1 rfl) ?_
    refine lv_icmp_ge (tgt := 100) hx hb dX11_nameTaken_4 (by decide) (fun c2 => ?_) (fun c2 => ?_)
    · replace hf := it_t c2 hf
      refine lv_iconst (v := (-1)) hx hb dX11_nameTaken_100 (by decide) ?_
      cases so_1 hf
      exact hQ _ _ _ _ _ _ dX11_nameTaken_101 hM (by decide) (by decide)
    · replace hf := it_f c2 hf
      refine lv_aload_n hx hb dX11_nameTaken_7 rfl (lv_at hl 0 rfl) ?_
      refine g_get hC hM inX11_nameTaken_X11 0 mE0 clX11 6 (by decide) tX11_nameTaken_1 TX11_6 mV0_6 dX11_nameTaken_8 ?_
      refine lv_iload_n hx hb dX11_nameTaken_11 rfl (lv_at hl 2 rfl) ?_
      obtain ⟨h3, hf⟩ := ck_s hf
      refine g_iald hC hM 3 mE3 h3 dX11_nameTaken_12 ?_
      refine lv_aload_n hx hb dX11_nameTaken_13 rfl (lv_at hl 0 rfl) ?_
      refine g_get hC hM inX11_nameTaken_X11 0 mE0 clX11 47 (by decide) tX11_nameTaken_2 TX11_47 mV0_47 dX11_nameTaken_14 ?_
      refine lv_aload_n hx hb dX11_nameTaken_17 rfl (lv_at hl 0 rfl) ?_
      refine g_get hC hM inX11_nameTaken_X11 0 mE0 clX11 48 (by decide) tX11_nameTaken_3 TX11_48 mV0_48 dX11_nameTaken_18 ?_
      refine lv_isub hx hb dX11_nameTaken_21 ?_
      refine jp_W (fun k30 : Int32 → Option (Int32) => ∀ (v4 : Int32), k30 v4 = some rz → ∀ (H : Heap) (locs : List Loc) (ls : Array Slot), gw D A s.heap H locs (mcells cs a S) → lv_has ls 5 [(0, .ref (a 0)), (1, .int p0), (2, .int v1)] → W p l e rmX11_nameTaken s m args below meth c H locs 0 0 Q (F0 m 30 ls [.int v4])) ?_ ?_ hf
      · intro v4 hf H locs ls hM hl
        unfold j_X11_nameTaken_30 at hf
        refine lv_istore_n (lv' := [(3, .int v4), (0, .ref (a 0)), (1, .int p0), (2, .int v1)]) hx hb dX11_nameTaken_30 rfl hl (by decide) rfl (fun ls hl => ?_)
        refine lv_iconst (v := 0) hx hb dX11_nameTaken_31 (by decide) ?_
        refine lv_istore (lv' := [(4, .int 0), (3, .int v4), (0, .ref (a 0)), (1, .int p0), (2, .int v1)]) hx hb dX11_nameTaken_32 hl (by decide) rfl (fun ls hl => ?_)
        refine jp_W (fun k88 : Int32 → Option (Int32) => ∀ (v5 : Int32), k88 v5 = some rz → ∀ (H : Heap) (locs : List Loc) (ls : Array Slot), gw D A s.heap H locs (mcells cs a S) → lv_has ls 5 [(0, .ref (a 0)), (1, .int p0), (2, .int v1), (3, .int v5)] → W p l e rmX11_nameTaken s m args below meth c H locs 0 0 Q (F0 m 88 ls [])) ?_ ?_ hf
        · intro v5 hf H locs ls hM hl
          unfold j_X11_nameTaken_88 at hf
          refine lv_iload_n hx hb dX11_nameTaken_88 rfl (lv_at hl 3 rfl) ?_
          refine lv_if_eq (tgt := 94) hx hb dX11_nameTaken_89 (by decide) (fun c6 => ?_) (fun c6 => ?_)
          · replace hf := it_t c6 hf
            obtain ⟨v7, ev7⟩ : ∃ y : Int32, y = v1 + 1 := ⟨_, rfl⟩
            replace hf := nm_q ev7 hf
            refine lv_iinc (v := v7) (lv' := [(2, .int v7), (0, .ref (a 0)), (1, .int p0), (3, .int v5)]) hx hb dX11_nameTaken_94 hl (k := 2) rfl (by rw [ev7]; rfl) (by decide) rfl (fun ls hl => ?_)
            refine lv_goto (tgt := 2) hx hb dX11_nameTaken_97 (by decide) ?_
            exact hk2 _ hf _ _ _ hM (lv_sub hl [1, 2, 0] rfl)
          · replace hf := it_f c6 hf
            refine lv_iload_n hx hb dX11_nameTaken_92 rfl (lv_at hl 2 rfl) ?_
            cases so_1 hf
            exact hQ _ _ _ _ _ _ dX11_nameTaken_93 hM (by decide) (by decide)
        · intro k88 hk88 hf
          refine jl_W (fun k34 : Int32 → Int32 → Option (Int32) => ∀ (v8 : Int32) (v9 : Int32), k34 v8 v9 = some rz → ∀ (H : Heap) (locs : List Loc) (ls : Array Slot), gw D A s.heap H locs (mcells cs a S) → lv_has ls 5 [(0, .ref (a 0)), (1, .int p0), (2, .int v1), (3, .int v8), (4, .int v9)] → W p l e rmX11_nameTaken s m args below meth c H locs 0 0 Q (F0 m 34 ls [])) ?_ ?_ ?_ hf
          · intro v8 v9 h; cases h
          · intro k34 hk34 v8 v9 hf H locs ls hM hl
            unfold b_X11_nameTaken_34 at hf
            refine lv_iload hx hb dX11_nameTaken_34 (lv_at hl 4 rfl) ?_
            refine lv_aload_n hx hb dX11_nameTaken_36 rfl (lv_at hl 0 rfl) ?_
            refine g_get hC hM inX11_nameTaken_X11 0 mE0 clX11 6 (by decide) tX11_nameTaken_1 TX11_6 mV0_6 dX11_nameTaken_37 ?_
            refine lv_iload_n hx hb dX11_nameTaken_40 rfl (lv_at hl 2 rfl) ?_
            obtain ⟨h10, hf⟩ := ck_s hf
            refine g_iald hC hM 3 mE3 h10 dX11_nameTaken_41 ?_
            refine lv_icmp_ge (tgt := 88) hx hb dX11_nameTaken_42 (by decide) (fun c11 => ?_) (fun c11 => ?_)
            · replace hf := it_t c11 hf
              exact hk88 _ hf _ _ _ hM (lv_sub hl [0, 1, 2, 3] rfl)
            · replace hf := it_f c11 hf
              refine lv_iload_n hx hb dX11_nameTaken_45 rfl (lv_at hl 3 rfl) ?_
              refine lv_if_eq (tgt := 88) hx hb dX11_nameTaken_46 (by decide) (fun c12 => ?_) (fun c12 => ?_)
              · replace hf := it_t c12 hf
                exact hk88 _ hf _ _ _ hM (lv_sub hl [0, 1, 2, 3] rfl)
              · replace hf := it_f c12 hf
                refine lv_aload_n hx hb dX11_nameTaken_49 rfl (lv_at hl 0 rfl) ?_
                refine g_get hC hM inX11_nameTaken_X11 0 mE0 clX11 5 (by decide) tX11_nameTaken_4 TX11_5 mV0_5 dX11_nameTaken_50 ?_
                refine lv_bipush (v := 12) hx hb dX11_nameTaken_53 (by decide) ?_
                refine lv_iload_n hx hb dX11_nameTaken_55 rfl (lv_at hl 2 rfl) ?_
                refine lv_imul hx hb dX11_nameTaken_56 ?_
                refine lv_iload hx hb dX11_nameTaken_57 (lv_at hl 4 rfl) ?_
                refine lv_iadd hx hb dX11_nameTaken_59 ?_
                obtain ⟨h13, hf⟩ := ck_s hf
                refine g_iald hC hM 2 mE2 h13 dX11_nameTaken_60 ?_
                refine lv_aload_n hx hb dX11_nameTaken_61 rfl (lv_at hl 0 rfl) ?_
                refine g_get hC hM inX11_nameTaken_X11 0 mE0 clX11 0 (by decide) tX11_nameTaken_5 TX11_0 mV0_0 dX11_nameTaken_62 ?_
                refine lv_aload_n hx hb dX11_nameTaken_65 rfl (lv_at hl 0 rfl) ?_
                refine g_get hC hM inX11_nameTaken_X11 0 mE0 clX11 48 (by decide) tX11_nameTaken_3 TX11_48 mV0_48 dX11_nameTaken_66 ?_
                refine lv_iload hx hb dX11_nameTaken_69 (lv_at hl 4 rfl) ?_
                refine lv_iadd hx hb dX11_nameTaken_71 ?_
                obtain ⟨h14, hf⟩ := ck_s hf
                refine g_iald hC hM 1 mE1 h14 dX11_nameTaken_72 ?_
                refine jp_W (fun k81 : Int32 → Option (Int32) => ∀ (v15 : Int32), k81 v15 = some rz → ∀ (H : Heap) (locs : List Loc) (ls : Array Slot), gw D A s.heap H locs (mcells cs a S) → lv_has ls 5 [(0, .ref (a 0)), (1, .int p0), (2, .int v1), (4, .int v9)] → W p l e rmX11_nameTaken s m args below meth c H locs 0 0 Q (F0 m 81 ls [.int v15])) ?_ ?_ hf
                · intro v15 hf H locs ls hM hl
                  unfold j_X11_nameTaken_81 at hf
                  refine lv_istore_n (lv' := [(3, .int v15), (0, .ref (a 0)), (1, .int p0), (2, .int v1), (4, .int v9)]) hx hb dX11_nameTaken_81 rfl hl (by decide) rfl (fun ls hl => ?_)
                  obtain ⟨v16, ev16⟩ : ∃ y : Int32, y = v9 + 1 := ⟨_, rfl⟩
                  replace hf := nm_q ev16 hf
                  refine lv_iinc (v := v16) (lv' := [(4, .int v16), (3, .int v15), (0, .ref (a 0)), (1, .int p0), (2, .int v1)]) hx hb dX11_nameTaken_82 hl (k := 4) rfl (by rw [ev16]; rfl) (by decide) rfl (fun ls hl => ?_)
                  refine lv_goto (tgt := 34) hx hb dX11_nameTaken_85 (by decide) ?_
                  exact hk34 _ _ hf _ _ _ hM (lv_sub hl [2, 3, 4, 1, 0] rfl)
                · intro k81 hk81 hf
                  refine lv_icmp_ne (tgt := 80) hx hb dX11_nameTaken_73 (by decide) (fun c17 => ?_) (fun c17 => ?_)
                  · replace hf := it_f c17 hf
                    refine lv_iconst (v := 0) hx hb dX11_nameTaken_80 (by decide) ?_
                    exact hk81 _ hf _ _ _ hM (lv_sub hl [0, 1, 2, 4] rfl)
                  · replace hf := it_t c17 hf
                    refine lv_iconst (v := 1) hx hb dX11_nameTaken_76 (by decide) ?_
                    refine lv_goto (tgt := 81) hx hb dX11_nameTaken_77 (by decide) ?_
                    exact hk81 _ hf _ _ _ hM (lv_sub hl [0, 1, 2, 4] rfl)
          · intro k34 hk34 hf
            exact hk34 _ _ hf _ _ _ hM (lv_sub hl [2, 3, 4, 1, 0] rfl)
      · intro k30 hk30 hf
        refine lv_icmp_ne (tgt := 29) hx hb dX11_nameTaken_22 (by decide) (fun c18 => ?_) (fun c18 => ?_)
        · replace hf := it_f c18 hf
          refine lv_iconst (v := 0) hx hb dX11_nameTaken_29 (by decide) ?_
          exact hk30 _ hf _ _ _ hM hl
        · replace hf := it_t c18 hf
          refine lv_iconst (v := 1) hx hb dX11_nameTaken_25 (by decide) ?_
          refine lv_goto (tgt := 30) hx hb dX11_nameTaken_26 (by decide) ?_
          exact hk30 _ hf _ _ _ hM hl
  · intro k2 hk2 hf
    exact hk2 _ hf _ _ _ hM (lv_sub hl [1, 2, 0] rfl)

theorem hd_X11_isBut : yX11_isBut.cls = RX11 ∧ yX11_isBut.cls ≠ "java/lang/invoke/MethodHandle" ∧ yX11_isBut.cls ≠ "java/lang/invoke/VarHandle" ∧ (parseMethodDescriptor yX11_isBut.desc).map (fun d => d.parameters.length) = some 0 := by decide +kernel
theorem tX11_isBut_1 : Cond.fieldLink RX11 262 "WeatherTellerModel" "at" "I" ∈ wsX11_isBut := List.mem_of_getElem? (i := 1) rfl
theorem inX11_isBut_X11 : ∀ w ∈ u_ws RX11 TX11 50, w ∈ wsX11_isBut := fun _ h => List.mem_cons_of_mem _ (List.mem_append_right _ h)
theorem tX11_isBut_2 : Cond.fieldLink RX11 272 "WeatherTellerModel" "from0" "I" ∈ wsX11_isBut := List.mem_of_getElem? (i := 2) rfl
def f_X11_isBut (N : Nat)  (S : St) : Option (Int32) :=
  z1 <|
  if ((S.1 0 47) - (S.1 0 48)) = 3 then
    bd (f_X11_wordAt N (S.1 0 48) (S.1 0 47) S) fun v2 =>
    if v2 = 5 then
      some 1
    else
      some 0
  else
    some 0
abbrev rmX11_isBut : Room := { frames := 1, cells := 0, slots := 0, locals := 27 }
set_option maxRecDepth 100000 in
set_option maxHeartbeats 4000000 in
theorem c_X11_isBut (l : Launch) (D : va_G) (cs : Nat → ClassId) (a : Nat → Nat) (N : Nat) (S : St) (rz : Int32) (hf : f_X11_isBut N S = some rz) : gMi l yX11_isBut wsX11_isBut rmX11_isBut D cs [.ref (a 0)] (mcells cs a S) rz (mcells cs a S) := by
  unfold f_X11_isBut at hf
  obtain ⟨hrz, hf⟩ := z1_s hf
  refine gE_z (cc := cX11_isBut) (maxL := 1) hrz (by decide) rfl (Nat.le_of_ble_eq_true rfl) ?_
  intro p e s m args below meth c A Q hC hA hQ hM ls hl
  obtain ⟨hx, hb, hml, hown, hts⟩ := hC.1
  have hl : lv_has ls 1 [(0, .ref (a 0))] := hl
  refine lv_aload_n hx hb dX11_isBut_0 rfl (lv_at hl 0 rfl) ?_
  refine g_get hC hM inX11_isBut_X11 0 mE0 clX11 47 (by decide) tX11_isBut_1 TX11_47 mV0_47 dX11_isBut_1 ?_
  refine lv_aload_n hx hb dX11_isBut_4 rfl (lv_at hl 0 rfl) ?_
  refine g_get hC hM inX11_isBut_X11 0 mE0 clX11 48 (by decide) tX11_isBut_2 TX11_48 mV0_48 dX11_isBut_5 ?_
  refine lv_isub hx hb dX11_isBut_8 ?_
  refine lv_iconst (v := 3) hx hb dX11_isBut_9 (by decide) ?_
  refine lv_icmp_ne (tgt := 33) hx hb dX11_isBut_10 (by decide) (fun c1 => ?_) (fun c1 => ?_)
  · replace hf := it_f c1 hf
    refine lv_iconst (v := 0) hx hb dX11_isBut_33 (by decide) ?_
    cases so_1 hf
    exact hQ _ _ _ _ _ _ dX11_isBut_34 hM (by decide) (by decide)
  · replace hf := it_t c1 hf
    refine lv_aload_n hx hb dX11_isBut_13 rfl (lv_at hl 0 rfl) ?_
    refine lv_aload_n hx hb dX11_isBut_14 rfl (lv_at hl 0 rfl) ?_
    refine g_get hC hM inX11_isBut_X11 0 mE0 clX11 48 (by decide) tX11_isBut_2 TX11_48 mV0_48 dX11_isBut_15 ?_
    refine lv_aload_n hx hb dX11_isBut_18 rfl (lv_at hl 0 rfl) ?_
    refine g_get hC hM inX11_isBut_X11 0 mE0 clX11 47 (by decide) tX11_isBut_1 TX11_47 mV0_47 dX11_isBut_19 ?_
    obtain ⟨v2, hc, hf⟩ := bd_s hf
    refine gV_i hC hM hA hl.1 [.int (S.1 0 48), .int (S.1 0 47)] [] (c_X11_wordAt l D cs a N (S.1 0 48) (S.1 0 47) S v2 hc) gX11_isBut_X11_wordAt rfl hd_X11_wordAt ⟨by decide, by decide⟩ 0 11 clX11 rfl mE0 (Nat.le_of_ble_eq_true rfl) dX11_isBut_22 rfl ⟨by decide, by decide⟩ (fun H locs hM => ?_)
    refine lv_iconst (v := 5) hx hb dX11_isBut_25 (by decide) ?_
    refine lv_icmp_ne (tgt := 33) hx hb dX11_isBut_26 (by decide) (fun c3 => ?_) (fun c3 => ?_)
    · replace hf := it_f c3 hf
      refine lv_iconst (v := 0) hx hb dX11_isBut_33 (by decide) ?_
      cases so_1 hf
      exact hQ _ _ _ _ _ _ dX11_isBut_34 hM (by decide) (by decide)
    · replace hf := it_t c3 hf
      refine lv_iconst (v := 1) hx hb dX11_isBut_29 (by decide) ?_
      refine lv_goto (tgt := 34) hx hb dX11_isBut_30 (by decide) ?_
      cases so_1 hf
      exact hQ _ _ _ _ _ _ dX11_isBut_34 hM (by decide) (by decide)

theorem hd_X11_digitsRead : yX11_digitsRead.cls = RX11 ∧ yX11_digitsRead.cls ≠ "java/lang/invoke/MethodHandle" ∧ yX11_digitsRead.cls ≠ "java/lang/invoke/VarHandle" ∧ (parseMethodDescriptor yX11_digitsRead.desc).map (fun d => d.parameters.length) = some 0 := by decide +kernel
theorem tX11_digitsRead_1 : Cond.fieldLink RX11 262 "WeatherTellerModel" "at" "I" ∈ wsX11_digitsRead := List.mem_of_getElem? (i := 1) rfl
theorem inX11_digitsRead_X11 : ∀ w ∈ u_ws RX11 TX11 50, w ∈ wsX11_digitsRead := fun _ h => List.mem_cons_of_mem _ (List.mem_append_right _ h)
theorem tX11_digitsRead_2 : Cond.fieldLink RX11 275 "WeatherTellerModel" "count" "I" ∈ wsX11_digitsRead := List.mem_of_getElem? (i := 2) rfl
theorem tX11_digitsRead_3 : Cond.fieldLink RX11 7 "WeatherTellerModel" "tape" "[I" ∈ wsX11_digitsRead := List.mem_of_getElem? (i := 3) rfl
def j_X11_digitsRead_78 (v2 : Int32) (S4 : St) : Option (Int32 × St) :=
  if (S4.1 0 47) ≤ v2 then
    some (0, S4)
  else
    some (1, S4)
def j_X11_digitsRead_62 (S6 : St) (k14 : St → Option (Int32 × St)) (v9 : Int32) : Option (Int32 × St) :=
  nm (puI S6 0 49 v9) fun S10 =>
  nm (puI S10 0 47 ((S10.1 0 47) + 1)) fun S11 =>
  k14 S11
def b_X11_digitsRead_14 (N : Nat) (k78 : St → Option (Int32 × St)) (k14 : St → Option (Int32 × St)) (S6 : St) : Option (Int32 × St) :=
  bd (f_X11_isDigit N (S6.1 0 47) S6) fun v7 =>
  if v7 = 0 then
    k78 S6
  else
    jp (j_X11_digitsRead_62 S6 k14) fun k62 =>
    if (S6.1 0 49) ≤ 99 then
      ck (S6.1 0 47) 1000 <|
      k62 (((10 * (S6.1 0 49)) + (S6.1 1 (S6.1 0 47).toNatClampNeg)) - 48)
    else
      k62 (S6.1 0 49)
def f_X11_digitsRead (N : Nat)  (S : St) : Option (Int32 × St) :=
  zb <|
  bd (f_X11_blanks N S) fun S1 =>
  nm (S1.1 0 47) fun v2 =>
  nm (puI S1 0 49 0) fun S3 =>
  jp (j_X11_digitsRead_78 v2) fun k78 =>
  jp (lp (fun _ => none) (b_X11_digitsRead_14 N k78) N) fun k14 =>
  k14 S3
abbrev rmX11_digitsRead : Room := { frames := 2, cells := 0, slots := 0, locals := 40 }
set_option maxRecDepth 100000 in
set_option maxHeartbeats 4000000 in
theorem c_X11_digitsRead (l : Launch) (D : va_G) (cs : Nat → ClassId) (a : Nat → Nat) (N : Nat) (S : St) (rz : Int32) (Sz : St) (hf : f_X11_digitsRead N S = some (rz, Sz)) : gMi l yX11_digitsRead wsX11_digitsRead rmX11_digitsRead D cs [.ref (a 0)] (mcells cs a S) rz (mcells cs a Sz) := by
  unfold f_X11_digitsRead at hf
  obtain ⟨hrz, hf⟩ := zb_s hf
  refine gE_z (cc := cX11_digitsRead) (maxL := 2) hrz (by decide) rfl (Nat.le_of_ble_eq_true rfl) ?_
  intro p e s m args below meth c A Q hC hA hQ hM ls hl
  obtain ⟨hx, hb, hml, hown, hts⟩ := hC.1
  have hl : lv_has ls 2 [(0, .ref (a 0))] := hl
  refine lv_aload_n hx hb dX11_digitsRead_0 rfl (lv_at hl 0 rfl) ?_
  obtain ⟨S1, hc, hf⟩ := bd_s hf
  refine gV_v hC hM hA hl.1 [] [] (c_X11_blanks l D cs a N S S1 hc) gX11_digitsRead_X11_blanks rfl hd_X11_blanks ⟨by decide, by decide⟩ 0 11 clX11 rfl mE0 (Nat.le_of_ble_eq_true rfl) dX11_digitsRead_1 rfl ⟨by decide, by decide⟩ (fun H locs hM => ?_)
  refine lv_aload_n hx hb dX11_digitsRead_4 rfl (lv_at hl 0 rfl) ?_
  refine g_get hC hM inX11_digitsRead_X11 0 mE0 clX11 47 (by decide) tX11_digitsRead_1 TX11_47 mV0_47 dX11_digitsRead_5 ?_
  refine lv_topi (fun v2 ev2 => ?_)
  replace hf := nm_q ev2 hf
  refine lv_istore_n (lv' := [(1, .int v2), (0, .ref (a 0))]) hx hb dX11_digitsRead_8 rfl hl (by decide) rfl (fun ls hl => ?_)
  refine lv_aload_n hx hb dX11_digitsRead_9 rfl (lv_at hl 1 rfl) ?_
  refine lv_iconst (v := 0) hx hb dX11_digitsRead_10 (by decide) ?_
  refine g_put hC hM inX11_digitsRead_X11 tyX11_ok nmX11 0 mE0 clX11 49 (by decide) tX11_digitsRead_2 TX11_49 tyX11_49 rfl rfl (by rw [mL0]; decide) mP0_49 dX11_digitsRead_11 (fun H locs hM => ?_)
  obtain ⟨S3, hf, hM⟩ := mnm hf hM
  refine jp_W (fun k78 : St → Option (Int32 × St) => ∀ (S4 : St), k78 S4 = some (rz, Sz) → ∀ (H : Heap) (locs : List Loc) (ls : Array Slot), gw D A s.heap H locs (mcells cs a S4) → lv_has ls 2 [(0, .ref (a 0)), (1, .int v2)] → W p l e rmX11_digitsRead s m args below meth c H locs 0 0 Q (F0 m 78 ls [])) ?_ ?_ hf
  · intro S4 hf H locs ls hM hl
    unfold j_X11_digitsRead_78 at hf
    refine lv_aload_n hx hb dX11_digitsRead_78 rfl (lv_at hl 0 rfl) ?_
    refine g_get hC hM inX11_digitsRead_X11 0 mE0 clX11 47 (by decide) tX11_digitsRead_1 TX11_47 mV0_47 dX11_digitsRead_79 ?_
    refine lv_iload_n hx hb dX11_digitsRead_82 rfl (lv_at hl 1 rfl) ?_
    refine lv_icmp_le (tgt := 90) hx hb dX11_digitsRead_83 (by decide) (fun c5 => ?_) (fun c5 => ?_)
    · replace hf := it_t c5 hf
      refine lv_iconst (v := 0) hx hb dX11_digitsRead_90 (by decide) ?_
      obtain ⟨e1, e2⟩ := so_2 hf
      cases e1; cases e2
      exact hQ _ _ _ _ _ _ dX11_digitsRead_91 hM (by decide) (by decide)
    · replace hf := it_f c5 hf
      refine lv_iconst (v := 1) hx hb dX11_digitsRead_86 (by decide) ?_
      refine lv_goto (tgt := 91) hx hb dX11_digitsRead_87 (by decide) ?_
      obtain ⟨e1, e2⟩ := so_2 hf
      cases e1; cases e2
      exact hQ _ _ _ _ _ _ dX11_digitsRead_91 hM (by decide) (by decide)
  · intro k78 hk78 hf
    refine jl_W (fun k14 : St → Option (Int32 × St) => ∀ (S6 : St), k14 S6 = some (rz, Sz) → ∀ (H : Heap) (locs : List Loc) (ls : Array Slot), gw D A s.heap H locs (mcells cs a S6) → lv_has ls 2 [(0, .ref (a 0)), (1, .int v2)] → W p l e rmX11_digitsRead s m args below meth c H locs 0 0 Q (F0 m 14 ls [])) ?_ ?_ ?_ hf
    · intro S6 h; cases h
    · intro k14 hk14 S6 hf H locs ls hM hl
      unfold b_X11_digitsRead_14 at hf
      refine lv_aload_n hx hb dX11_digitsRead_14 rfl (lv_at hl 0 rfl) ?_
      refine lv_aload_n hx hb dX11_digitsRead_15 rfl (lv_at hl 0 rfl) ?_
      refine g_get hC hM inX11_digitsRead_X11 0 mE0 clX11 47 (by decide) tX11_digitsRead_1 TX11_47 mV0_47 dX11_digitsRead_16 ?_
      obtain ⟨v7, hc, hf⟩ := bd_s hf
      refine gV_i hC hM hA hl.1 [.int (S6.1 0 47)] [] (c_X11_isDigit l D cs a N (S6.1 0 47) S6 v7 hc) gX11_digitsRead_X11_isDigit rfl hd_X11_isDigit ⟨by decide, by decide⟩ 0 11 clX11 rfl mE0 (Nat.le_of_ble_eq_true rfl) dX11_digitsRead_19 rfl ⟨by decide, by decide⟩ (fun H locs hM => ?_)
      refine lv_if_eq (tgt := 78) hx hb dX11_digitsRead_22 (by decide) (fun c8 => ?_) (fun c8 => ?_)
      · replace hf := it_t c8 hf
        exact hk78 _ hf _ _ _ hM hl
      · replace hf := it_f c8 hf
        refine lv_aload_n hx hb dX11_digitsRead_25 rfl (lv_at hl 0 rfl) ?_
        refine lv_aload_n hx hb dX11_digitsRead_26 rfl (lv_at hl 0 rfl) ?_
        refine g_get hC hM inX11_digitsRead_X11 0 mE0 clX11 49 (by decide) tX11_digitsRead_2 TX11_49 mV0_49 dX11_digitsRead_27 ?_
        refine lv_bipush (v := 99) hx hb dX11_digitsRead_30 (by decide) ?_
        refine jp_W (fun k62 : Int32 → Option (Int32 × St) => ∀ (v9 : Int32), k62 v9 = some (rz, Sz) → ∀ (H : Heap) (locs : List Loc) (ls : Array Slot), gw D A s.heap H locs (mcells cs a S6) → lv_has ls 2 [(0, .ref (a 0)), (1, .int v2)] → W p l e rmX11_digitsRead s m args below meth c H locs 0 0 Q (F0 m 62 ls [.int v9, .ref (a 0)])) ?_ ?_ hf
        · intro v9 hf H locs ls hM hl
          unfold j_X11_digitsRead_62 at hf
          refine g_put hC hM inX11_digitsRead_X11 tyX11_ok nmX11 0 mE0 clX11 49 (by decide) tX11_digitsRead_2 TX11_49 tyX11_49 rfl rfl (by rw [mL0]; decide) mP0_49 dX11_digitsRead_62 (fun H locs hM => ?_)
          obtain ⟨S10, hf, hM⟩ := mnm hf hM
          refine lv_aload_n hx hb dX11_digitsRead_65 rfl (lv_at hl 0 rfl) ?_
          refine lv_dup hx hb dX11_digitsRead_66 rfl ?_
          refine g_get hC hM inX11_digitsRead_X11 0 mE0 clX11 47 (by decide) tX11_digitsRead_1 TX11_47 mV0_47 dX11_digitsRead_67 ?_
          refine lv_iconst (v := 1) hx hb dX11_digitsRead_70 (by decide) ?_
          refine lv_iadd hx hb dX11_digitsRead_71 ?_
          refine g_put hC hM inX11_digitsRead_X11 tyX11_ok nmX11 0 mE0 clX11 47 (by decide) tX11_digitsRead_1 TX11_47 tyX11_47 rfl rfl (by rw [mL0]; decide) mP0_47 dX11_digitsRead_72 (fun H locs hM => ?_)
          obtain ⟨S11, hf, hM⟩ := mnm hf hM
          refine lv_goto (tgt := 14) hx hb dX11_digitsRead_75 (by decide) ?_
          exact hk14 _ hf _ _ _ hM hl
        · intro k62 hk62 hf
          refine lv_icmp_le (tgt := 42) hx hb dX11_digitsRead_32 (by decide) (fun c12 => ?_) (fun c12 => ?_)
          · replace hf := it_t c12 hf
            refine lv_bipush (v := 10) hx hb dX11_digitsRead_42 (by decide) ?_
            refine lv_aload_n hx hb dX11_digitsRead_44 rfl (lv_at hl 0 rfl) ?_
            refine g_get hC hM inX11_digitsRead_X11 0 mE0 clX11 49 (by decide) tX11_digitsRead_2 TX11_49 mV0_49 dX11_digitsRead_45 ?_
            refine lv_imul hx hb dX11_digitsRead_48 ?_
            refine lv_aload_n hx hb dX11_digitsRead_49 rfl (lv_at hl 0 rfl) ?_
            refine g_get hC hM inX11_digitsRead_X11 0 mE0 clX11 0 (by decide) tX11_digitsRead_3 TX11_0 mV0_0 dX11_digitsRead_50 ?_
            refine lv_aload_n hx hb dX11_digitsRead_53 rfl (lv_at hl 0 rfl) ?_
            refine g_get hC hM inX11_digitsRead_X11 0 mE0 clX11 47 (by decide) tX11_digitsRead_1 TX11_47 mV0_47 dX11_digitsRead_54 ?_
            obtain ⟨h13, hf⟩ := ck_s hf
            refine g_iald hC hM 1 mE1 h13 dX11_digitsRead_57 ?_
            refine lv_iadd hx hb dX11_digitsRead_58 ?_
            refine lv_bipush (v := 48) hx hb dX11_digitsRead_59 (by decide) ?_
            refine lv_isub hx hb dX11_digitsRead_61 ?_
            exact hk62 _ hf _ _ _ hM hl
          · replace hf := it_f c12 hf
            refine lv_aload_n hx hb dX11_digitsRead_35 rfl (lv_at hl 0 rfl) ?_
            refine g_get hC hM inX11_digitsRead_X11 0 mE0 clX11 49 (by decide) tX11_digitsRead_2 TX11_49 mV0_49 dX11_digitsRead_36 ?_
            refine lv_goto (tgt := 62) hx hb dX11_digitsRead_39 (by decide) ?_
            exact hk62 _ hf _ _ _ hM hl
    · intro k14 hk14 hf
      exact hk14 _ hf _ _ _ hM (lv_sub hl [1, 0] rfl)
