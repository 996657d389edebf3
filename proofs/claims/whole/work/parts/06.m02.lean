theorem hd_X11_bandLine : yX11_bandLine.cls = RX11 ∧ yX11_bandLine.cls ≠ "java/lang/invoke/MethodHandle" ∧ yX11_bandLine.cls ≠ "java/lang/invoke/VarHandle" ∧ (parseMethodDescriptor yX11_bandLine.desc).map (fun d => d.parameters.length) = some 0 := by decide +kernel
theorem tX11_bandLine_1 : Cond.fieldLink RX11 162 "WeatherTellerModel" "rBands" "I" ∈ wsX11_bandLine := List.mem_of_getElem? (i := 1) rfl
theorem inX11_bandLine_X11 : ∀ w ∈ u_ws RX11 TX11 50, w ∈ wsX11_bandLine := fun _ h => List.mem_cons_of_mem _ (List.mem_append_right _ h)
theorem tX11_bandLine_3 : Cond.fieldLink RX11 22 "WeatherTellerModel" "bQuantity" "[I" ∈ wsX11_bandLine := List.mem_of_getElem? (i := 3) rfl
theorem tX11_bandLine_4 : Cond.fieldLink RX11 140 "WeatherTellerModel" "read" "I" ∈ wsX11_bandLine := List.mem_of_getElem? (i := 4) rfl
theorem tX11_bandLine_2 : Cond.fieldLink RX11 109 "WeatherTellerModel" "place" "I" ∈ wsX11_bandLine := List.mem_of_getElem? (i := 2) rfl
theorem tX11_bandLine_5 : Cond.fieldLink RX11 41 "WeatherTellerModel" "bSize" "[I" ∈ wsX11_bandLine := List.mem_of_getElem? (i := 5) rfl
theorem tX11_bandLine_6 : Cond.fieldLink RX11 130 "WeatherTellerModel" "end" "I" ∈ wsX11_bandLine := List.mem_of_getElem? (i := 6) rfl
theorem tX11_bandLine_9 : Cond.fieldLink RX11 25 "WeatherTellerModel" "bLow" "[I" ∈ wsX11_bandLine := List.mem_of_getElem? (i := 9) rfl
theorem tX11_bandLine_10 : Cond.fieldLink RX11 28 "WeatherTellerModel" "bHigh" "[I" ∈ wsX11_bandLine := List.mem_of_getElem? (i := 10) rfl
theorem tX11_bandLine_11 : Cond.fieldLink RX11 31 "WeatherTellerModel" "bGrade" "[I" ∈ wsX11_bandLine := List.mem_of_getElem? (i := 11) rfl
theorem tX11_bandLine_12 : Cond.fieldLink RX11 34 "WeatherTellerModel" "bWarn" "[Z" ∈ wsX11_bandLine := List.mem_of_getElem? (i := 12) rfl
theorem tX11_bandLine_13 : Cond.fieldLink RX11 112 "WeatherTellerModel" "kind" "I" ∈ wsX11_bandLine := List.mem_of_getElem? (i := 13) rfl
theorem tX11_bandLine_14 : Cond.fieldLink RX11 123 "WeatherTellerModel" "which" "I" ∈ wsX11_bandLine := List.mem_of_getElem? (i := 14) rfl
theorem tX11_bandLine_7 : Cond.fieldLink RX11 38 "WeatherTellerModel" "bLetters" "[I" ∈ wsX11_bandLine := List.mem_of_getElem? (i := 7) rfl
theorem tX11_bandLine_8 : Cond.fieldLink RX11 7 "WeatherTellerModel" "tape" "[I" ∈ wsX11_bandLine := List.mem_of_getElem? (i := 8) rfl
def j_X11_bandLine_163 (N : Nat) (S8 : St)  : Option (Int32 × St) :=
  bd2 (f_X11_wrong N 3 (S8.1 0 26) S8) fun v11 S12 =>
  some (v11, S12)
def j_X11_bandLine_367 (N : Nat) (v18 : Int32) (S28 : St)  : Option (Int32 × St) :=
  bd2 (f_X11_wrong N 5 v18 S28) fun v32 S33 =>
  some (v32, S33)
def j_X11_bandLine_442 (S44 : St) : Option (Int32 × St) :=
  nm (puI S44 0 31 ((S44.1 0 31) + 1)) fun S45 =>
  some (1, S45)
def j_X11_bandLine_428 (N : Nat) (v3 : Int32) (S38 : St) (v39 : Int32) (v40 : Int32) : Option (Int32 × St) :=
  ck v39 48 <|
  nm (puI S38 9 v39.toNatClampNeg (vp_nar .boolean v40)) fun S42 =>
  ck v3 48 <|
  jp (j_X11_bandLine_442) fun k442 =>
  if (S42.1 9 v3.toNatClampNeg) = 0 then
    k442 S42
  else
    bd (f_X11_take N S42) fun S47 =>
    k442 S47
def j_X11_bandLine_427 (k428 : Int32 → Int32 → Option (Int32 × St)) (v48 : Int32) : Option (Int32 × St) :=
  k428 v48 0
def j_X11_bandLine_380 (N : Nat) (v3 : Int32) (S28 : St)  : Option (Int32 × St) :=
  bd2 (f_X11_numeral N 1 9 S28) fun v34 S35 =>
  if v34 = 0 then
    some (0, S35)
  else
    ck v3 48 <|
    nm (puI S35 8 v3.toNatClampNeg (S35.1 0 28)) fun S38 =>
    jp (j_X11_bandLine_428 N v3 S38) fun k428 =>
    jp (j_X11_bandLine_427 k428) fun k427 =>
    if (S38.1 0 24) = 1 then
      if (S38.1 0 25) = 4 then
        k428 v3 1
      else
        k427 v3
    else
      k427 v3
def j_X11_bandLine_374 (v51 : Int32) (k317 : Int32 → Option (Int32 × St))  : Option (Int32 × St) :=
  nm (v51 + 1) fun v55 =>
  k317 v55
def b_X11_bandLine_317 (v3 : Int32) (S28 : St) (k367 : Option (Int32 × St)) (k380 : Option (Int32 × St)) (k317 : Int32 → Option (Int32 × St)) (v51 : Int32) : Option (Int32 × St) :=
  if v3 ≤ v51 then
    k380
  else
    ck v51 48 <|
    ck v3 48 <|
    jp (j_X11_bandLine_374 v51 k317) fun k374 =>
    if (S28.1 5 v51.toNatClampNeg) = (S28.1 5 v3.toNatClampNeg) then
      ck v51 48 <|
      ck v3 48 <|
      if (S28.1 7 v3.toNatClampNeg) ≤ (S28.1 6 v51.toNatClampNeg) then
        k374
      else
        ck v3 48 <|
        ck v51 48 <|
        if (S28.1 7 v51.toNatClampNeg) ≤ (S28.1 6 v3.toNatClampNeg) then
          k374
        else
          k367
    else
      k374
def j_X11_bandLine_235 (N : Nat) (v3 : Int32) (S16 : St) : Option (Int32 × St) :=
  bd (f_X11_take N S16) fun S17 =>
  nm (S17.1 0 26) fun v18 =>
  bd2 (f_X11_numeral N (-99) 999 S17) fun v19 S20 =>
  if v19 = 0 then
    some (0, S20)
  else
    ck v3 48 <|
    nm (puI S20 6 v3.toNatClampNeg (S20.1 0 28)) fun S23 =>
    bd2 (f_X11_numeral N (-99) 999 S23) fun v24 S25 =>
    if v24 = 0 then
      some (0, S25)
    else
      ck v3 48 <|
      nm (puI S25 7 v3.toNatClampNeg (S25.1 0 28)) fun S28 =>
      ck v3 48 <|
      ck v3 48 <|
      if (S28.1 6 v3.toNatClampNeg) < (S28.1 7 v3.toNatClampNeg) then
        jp (j_X11_bandLine_367 N v18 S28) fun k367 =>
        jp (j_X11_bandLine_380 N v3 S28) fun k380 =>
        jp (lp (fun _ => none) (b_X11_bandLine_317 v3 S28 k367 k380) N) fun k317 =>
        k317 24
      else
        bd2 (f_X11_wrong N 5 v18 S28) fun v63 S64 =>
        some (v63, S64)
def b_X11_bandLine_199 (v3 : Int32) (k235 : St → Option (Int32 × St)) (k199 : Int32 → St → Option (Int32 × St)) (v65 : Int32) (S66 : St) : Option (Int32 × St) :=
  if (S66.1 0 27) ≤ v65 then
    k235 S66
  else
    ck v65 1000 <|
    ck (((12 * v3) + v65) - (S66.1 0 26)) 576 <|
    nm (puI S66 10 (((12 * v3) + v65) - (S66.1 0 26)).toNatClampNeg (S66.1 1 v65.toNatClampNeg)) fun S70 =>
    nm (v65 + 1) fun v71 =>
    k199 v71 S70
def j_X11_bandLine_179 (N : Nat) (v3 : Int32) (S8 : St)  : Option (Int32 × St) :=
  ck v3 48 <|
  nm (puI S8 11 v3.toNatClampNeg ((S8.1 0 27) - (S8.1 0 26))) fun S14 =>
  nm (S14.1 0 26) fun v15 =>
  jp (j_X11_bandLine_235 N v3) fun k235 =>
  jp (lp (fun _ _ => none) (b_X11_bandLine_199 v3 k235) N) fun k199 =>
  k199 v15 S14
def j_X11_bandLine_159 (k163 : Option (Int32 × St)) (v72 : Int32) (k72 : Int32 → Option (Int32 × St)) (v77 : Int32) : Option (Int32 × St) :=
  if v77 = 0 then
    nm (v72 + 1) fun v79 =>
    k72 v79
  else
    k163
def j_X11_bandLine_152 (v81 : Int32) (k107 : Int32 → Int32 → Option (Int32 × St)) (v86 : Int32) : Option (Int32 × St) :=
  nm (v81 + 1) fun v87 =>
  k107 v86 v87
def b_X11_bandLine_107 (S8 : St) (v72 : Int32) (k159 : Int32 → Option (Int32 × St)) (k107 : Int32 → Int32 → Option (Int32 × St)) (v80 : Int32) (v81 : Int32) : Option (Int32 × St) :=
  if (S8.1 0 27) ≤ v81 then
    k159 v80
  else
    if v80 = 0 then
      k159 v80
    else
      ck (((12 * v72) + v81) - (S8.1 0 26)) 576 <|
      ck v81 1000 <|
      jp (j_X11_bandLine_152 v81 k107) fun k152 =>
      if (S8.1 10 (((12 * v72) + v81) - (S8.1 0 26)).toNatClampNeg) = (S8.1 1 v81.toNatClampNeg) then
        k152 1
      else
        k152 0
def j_X11_bandLine_100 (N : Nat) (S8 : St) (k163 : Option (Int32 × St)) (v72 : Int32) (k72 : Int32 → Option (Int32 × St)) (v75 : Int32) : Option (Int32 × St) :=
  nm (S8.1 0 26) fun v76 =>
  jp (j_X11_bandLine_159 k163 v72 k72) fun k159 =>
  jp (lp (fun _ _ => none) (b_X11_bandLine_107 S8 v72 k159) N) fun k107 =>
  k107 v75 v76
def b_X11_bandLine_72 (N : Nat) (v3 : Int32) (S8 : St) (k163 : Option (Int32 × St)) (k179 : Option (Int32 × St)) (k72 : Int32 → Option (Int32 × St)) (v72 : Int32) : Option (Int32 × St) :=
  if v3 ≤ v72 then
    k179
  else
    ck v72 48 <|
    jp (j_X11_bandLine_100 N S8 k163 v72 k72) fun k100 =>
    if (S8.1 11 v72.toNatClampNeg) = ((S8.1 0 27) - (S8.1 0 26)) then
      k100 1
    else
      k100 0
def f_X11_bandLine (N : Nat)  (S : St) : Option (Int32 × St) :=
  zb <|
  if (S.1 0 31) = 24 then
    bd2 (f_X11_wrong N 2 (S.1 0 26) S) fun v92 S93 =>
    some (v92, S93)
  else
    bd (f_X11_take N S) fun S2 =>
    nm (24 + (S2.1 0 31)) fun v3 =>
    bd2 (f_X11_numeral N 0 2 S2) fun v4 S5 =>
    if v4 = 0 then
      some (0, S5)
    else
      ck v3 48 <|
      nm (puI S5 5 v3.toNatClampNeg (S5.1 0 28)) fun S8 =>
      bd (f_X11_isName N S8) fun v9 =>
      if v9 = 0 then
        bd2 (f_X11_wrong N 1 (S8.1 0 26) S8) fun v90 S91 =>
        some (v90, S91)
      else
        jp (j_X11_bandLine_163 N S8) fun k163 =>
        jp (j_X11_bandLine_179 N v3 S8) fun k179 =>
        jp (lp (fun _ => none) (b_X11_bandLine_72 N v3 S8 k163 k179) N) fun k72 =>
        k72 24
abbrev rmX11_bandLine : Room := { frames := 3, cells := 0, slots := 0, locals := 70 }
set_option maxRecDepth 100000 in
set_option maxHeartbeats 4000000 in
theorem c_X11_bandLine (l : Launch) (D : va_G) (cs : Nat → ClassId) (a : Nat → Nat) (N : Nat) (S : St) (rz : Int32) (Sz : St) (hf : f_X11_bandLine N S = some (rz, Sz)) : gMi l yX11_bandLine wsX11_bandLine rmX11_bandLine D cs [.ref (a 0)] (mcells cs a S) rz (mcells cs a Sz) := by
  unfold f_X11_bandLine at hf
  obtain ⟨hrz, hf⟩ := zb_s hf
  refine gE_z (cc := cX11_bandLine) (maxL := 5) hrz (by decide) rfl (Nat.le_of_ble_eq_true rfl) ?_
  intro p e s m args below meth c A Q hC hA hQ hM ls hl
  obtain ⟨hx, hb, hml, hown, hts⟩ := hC.1
  have hl : lv_has ls 5 [(0, .ref (a 0))] := hl
  refine lv_aload_n hx hb dX11_bandLine_0 rfl (lv_at hl 0 rfl) ?_
  refine g_get hC hM inX11_bandLine_X11 0 mE0 clX11 31 (by decide) tX11_bandLine_1 TX11_31 mV0_31 dX11_bandLine_1 ?_
  refine lv_bipush (v := 24) hx hb dX11_bandLine_4 (by decide) ?_
  refine lv_icmp_ne (tgt := 19) hx hb dX11_bandLine_6 (by decide) (fun c1 => ?_) (fun c1 => ?_)
  · replace hf := it_f c1 hf
    refine lv_aload_n hx hb dX11_bandLine_19 rfl (lv_at hl 0 rfl) ?_
    obtain ⟨S2, hc, hf⟩ := bd_s hf
    refine gV_v hC hM hA hl.1 [] [] (c_X11_take l D cs a N S S2 hc) gX11_bandLine_X11_take rfl hd_X11_take ⟨by decide, by decide⟩ 0 11 clX11 rfl mE0 (Nat.le_of_ble_eq_true rfl) dX11_bandLine_20 rfl ⟨by decide, by decide⟩ (fun H locs hM => ?_)
    refine lv_bipush (v := 24) hx hb dX11_bandLine_23 (by decide) ?_
    refine lv_aload_n hx hb dX11_bandLine_25 rfl (lv_at hl 0 rfl) ?_
    refine g_get hC hM inX11_bandLine_X11 0 mE0 clX11 31 (by decide) tX11_bandLine_1 TX11_31 mV0_31 dX11_bandLine_26 ?_
    refine lv_iadd hx hb dX11_bandLine_29 ?_
    refine lv_topi (fun v3 ev3 => ?_)
    replace hf := nm_q ev3 hf
    refine lv_istore_n (lv' := [(1, .int v3), (0, .ref (a 0))]) hx hb dX11_bandLine_30 rfl hl (by decide) rfl (fun ls hl => ?_)
    refine lv_aload_n hx hb dX11_bandLine_31 rfl (lv_at hl 1 rfl) ?_
    refine lv_iconst (v := 0) hx hb dX11_bandLine_32 (by decide) ?_
    refine lv_iconst (v := 2) hx hb dX11_bandLine_33 (by decide) ?_
    obtain ⟨v4, S5, hc, hf⟩ := bd2_s hf
    refine gV_i hC hM hA hl.1 [.int 0, .int 2] [] (c_X11_numeral l D cs a N 0 2 S2 v4 S5 hc) gX11_bandLine_X11_numeral rfl hd_X11_numeral ⟨by decide, by decide⟩ 0 11 clX11 rfl mE0 (Nat.le_of_ble_eq_true rfl) dX11_bandLine_34 rfl ⟨by decide, by decide⟩ (fun H locs hM => ?_)
    refine lv_if_ne (tgt := 42) hx hb dX11_bandLine_37 (by decide) (fun c6 => ?_) (fun c6 => ?_)
    · replace hf := it_f c6 hf
      refine lv_aload_n hx hb dX11_bandLine_42 rfl (lv_at hl 1 rfl) ?_
      refine g_get hC hM inX11_bandLine_X11 0 mE0 clX11 9 (by decide) tX11_bandLine_3 TX11_9 mV0_9 dX11_bandLine_43 ?_
      refine lv_iload_n hx hb dX11_bandLine_46 rfl (lv_at hl 0 rfl) ?_
      refine lv_aload_n hx hb dX11_bandLine_47 rfl (lv_at hl 1 rfl) ?_
      refine g_get hC hM inX11_bandLine_X11 0 mE0 clX11 28 (by decide) tX11_bandLine_4 TX11_28 mV0_28 dX11_bandLine_48 ?_
      obtain ⟨h7, hf⟩ := ck_s hf
      refine g_iast hC hM 5 mE5 h7 mA5 dX11_bandLine_51 (fun H locs hM => ?_)
      obtain ⟨S8, hf, hM⟩ := mnm hf hM
      refine lv_aload_n hx hb dX11_bandLine_52 rfl (lv_at hl 1 rfl) ?_
      obtain ⟨v9, hc, hf⟩ := bd_s hf
      refine gV_i hC hM hA hl.1 [] [] (c_X11_isName l D cs a N S8 v9 hc) gX11_bandLine_X11_isName rfl hd_X11_isName ⟨by decide, by decide⟩ 0 11 clX11 rfl mE0 (Nat.le_of_ble_eq_true rfl) dX11_bandLine_53 rfl ⟨by decide, by decide⟩ (fun H locs hM => ?_)
      refine lv_if_ne (tgt := 69) hx hb dX11_bandLine_56 (by decide) (fun c10 => ?_) (fun c10 => ?_)
      · replace hf := it_f c10 hf
        refine lv_bipush (v := 24) hx hb dX11_bandLine_69 (by decide) ?_
        refine lv_istore_n (lv' := [(2, .int 24), (1, .int v3), (0, .ref (a 0))]) hx hb dX11_bandLine_71 rfl hl (by decide) rfl (fun ls hl => ?_)
        refine jp_W (fun k163 : Option (Int32 × St) => k163 = some (rz, Sz) → ∀ (H : Heap) (locs : List Loc) (ls : Array Slot), gw D A s.heap H locs (mcells cs a S8) → lv_has ls 5 [(0, .ref (a 0))] → W p l e rmX11_bandLine s m args below meth c H locs 0 0 Q (F0 m 163 ls [])) ?_ ?_ hf
        · intro  hf H locs ls hM hl
          unfold j_X11_bandLine_163 at hf
          refine lv_aload_n hx hb dX11_bandLine_163 rfl (lv_at hl 0 rfl) ?_
          refine lv_iconst (v := 3) hx hb dX11_bandLine_164 (by decide) ?_
          refine lv_aload_n hx hb dX11_bandLine_165 rfl (lv_at hl 0 rfl) ?_
          refine g_get hC hM inX11_bandLine_X11 0 mE0 clX11 26 (by decide) tX11_bandLine_2 TX11_26 mV0_26 dX11_bandLine_166 ?_
          obtain ⟨v11, S12, hc, hf⟩ := bd2_s hf
          refine gV_i hC hM hA hl.1 [.int 3, .int (S8.1 0 26)] [] (c_X11_wrong l D cs a N 3 (S8.1 0 26) S8 v11 S12 hc) gX11_bandLine_X11_wrong rfl hd_X11_wrong ⟨by decide, by decide⟩ 0 11 clX11 rfl mE0 (Nat.le_of_ble_eq_true rfl) dX11_bandLine_169 rfl ⟨by decide, by decide⟩ (fun H locs hM => ?_)
          obtain ⟨e1, e2⟩ := so_2 hf
          cases e1; cases e2
          exact hQ _ _ _ _ _ _ dX11_bandLine_172 hM (by decide) (by decide)
        · intro k163 hk163 hf
          refine jp_W (fun k179 : Option (Int32 × St) => k179 = some (rz, Sz) → ∀ (H : Heap) (locs : List Loc) (ls : Array Slot), gw D A s.heap H locs (mcells cs a S8) → lv_has ls 5 [(0, .ref (a 0)), (1, .int v3)] → W p l e rmX11_bandLine s m args below meth c H locs 0 0 Q (F0 m 179 ls [])) ?_ ?_ hf
          · intro  hf H locs ls hM hl
            unfold j_X11_bandLine_179 at hf
            refine lv_aload_n hx hb dX11_bandLine_179 rfl (lv_at hl 0 rfl) ?_
            refine g_get hC hM inX11_bandLine_X11 0 mE0 clX11 15 (by decide) tX11_bandLine_5 TX11_15 mV0_15 dX11_bandLine_180 ?_
            refine lv_iload_n hx hb dX11_bandLine_183 rfl (lv_at hl 1 rfl) ?_
            refine lv_aload_n hx hb dX11_bandLine_184 rfl (lv_at hl 0 rfl) ?_
            refine g_get hC hM inX11_bandLine_X11 0 mE0 clX11 27 (by decide) tX11_bandLine_6 TX11_27 mV0_27 dX11_bandLine_185 ?_
            refine lv_aload_n hx hb dX11_bandLine_188 rfl (lv_at hl 0 rfl) ?_
            refine g_get hC hM inX11_bandLine_X11 0 mE0 clX11 26 (by decide) tX11_bandLine_2 TX11_26 mV0_26 dX11_bandLine_189 ?_
            refine lv_isub hx hb dX11_bandLine_192 ?_
            obtain ⟨h13, hf⟩ := ck_s hf
            refine g_iast hC hM 11 mE11 h13 mA11 dX11_bandLine_193 (fun H locs hM => ?_)
            obtain ⟨S14, hf, hM⟩ := mnm hf hM
            refine lv_aload_n hx hb dX11_bandLine_194 rfl (lv_at hl 0 rfl) ?_
            refine g_get hC hM inX11_bandLine_X11 0 mE0 clX11 26 (by decide) tX11_bandLine_2 TX11_26 mV0_26 dX11_bandLine_195 ?_
            refine lv_topi (fun v15 ev15 => ?_)
            replace hf := nm_q ev15 hf
            refine lv_istore_n (lv' := [(2, .int v15), (0, .ref (a 0)), (1, .int v3)]) hx hb dX11_bandLine_198 rfl hl (by decide) rfl (fun ls hl => ?_)
            refine jp_W (fun k235 : St → Option (Int32 × St) => ∀ (S16 : St), k235 S16 = some (rz, Sz) → ∀ (H : Heap) (locs : List Loc) (ls : Array Slot), gw D A s.heap H locs (mcells cs a S16) → lv_has ls 5 [(0, .ref (a 0)), (1, .int v3)] → W p l e rmX11_bandLine s m args below meth c H locs 0 0 Q (F0 m 235 ls [])) ?_ ?_ hf
            · intro S16 hf H locs ls hM hl
              unfold j_X11_bandLine_235 at hf
              refine lv_aload_n hx hb dX11_bandLine_235 rfl (lv_at hl 0 rfl) ?_
              obtain ⟨S17, hc, hf⟩ := bd_s hf
              refine gV_v hC hM hA hl.1 [] [] (c_X11_take l D cs a N S16 S17 hc) gX11_bandLine_X11_take rfl hd_X11_take ⟨by decide, by decide⟩ 0 11 clX11 rfl mE0 (Nat.le_of_ble_eq_true rfl) dX11_bandLine_236 rfl ⟨by decide, by decide⟩ (fun H locs hM => ?_)
              refine lv_aload_n hx hb dX11_bandLine_239 rfl (lv_at hl 0 rfl) ?_
              refine g_get hC hM inX11_bandLine_X11 0 mE0 clX11 26 (by decide) tX11_bandLine_2 TX11_26 mV0_26 dX11_bandLine_240 ?_
              refine lv_topi (fun v18 ev18 => ?_)
              replace hf := nm_q ev18 hf
              refine lv_istore_n (lv' := [(2, .int v18), (0, .ref (a 0)), (1, .int v3)]) hx hb dX11_bandLine_243 rfl hl (by decide) rfl (fun ls hl => ?_)
              refine lv_aload_n hx hb dX11_bandLine_244 rfl (lv_at hl 1 rfl) ?_
              refine lv_bipush (v := (-99)) hx hb dX11_bandLine_245 (by decide) ?_
              refine lv_sipush (v := 999) hx hb dX11_bandLine_247 (by decide) ?_
              obtain ⟨v19, S20, hc, hf⟩ := bd2_s hf
              refine gV_i hC hM hA hl.1 [.int (-99), .int 999] [] (c_X11_numeral l D cs a N (-99) 999 S17 v19 S20 hc) gX11_bandLine_X11_numeral rfl hd_X11_numeral ⟨by decide, by decide⟩ 0 11 clX11 rfl mE0 (Nat.le_of_ble_eq_true rfl) dX11_bandLine_250 rfl ⟨by decide, by decide⟩ (fun H locs hM => ?_)
              refine lv_if_ne (tgt := 258) hx hb dX11_bandLine_253 (by decide) (fun c21 => ?_) (fun c21 => ?_)
              · replace hf := it_f c21 hf
                refine lv_aload_n hx hb dX11_bandLine_258 rfl (lv_at hl 1 rfl) ?_
                refine g_get hC hM inX11_bandLine_X11 0 mE0 clX11 10 (by decide) tX11_bandLine_9 TX11_10 mV0_10 dX11_bandLine_259 ?_
                refine lv_iload_n hx hb dX11_bandLine_262 rfl (lv_at hl 2 rfl) ?_
                refine lv_aload_n hx hb dX11_bandLine_263 rfl (lv_at hl 1 rfl) ?_
                refine g_get hC hM inX11_bandLine_X11 0 mE0 clX11 28 (by decide) tX11_bandLine_4 TX11_28 mV0_28 dX11_bandLine_264 ?_
                obtain ⟨h22, hf⟩ := ck_s hf
                refine g_iast hC hM 6 mE6 h22 mA6 dX11_bandLine_267 (fun H locs hM => ?_)
                obtain ⟨S23, hf, hM⟩ := mnm hf hM
                refine lv_aload_n hx hb dX11_bandLine_268 rfl (lv_at hl 1 rfl) ?_
                refine lv_bipush (v := (-99)) hx hb dX11_bandLine_269 (by decide) ?_
                refine lv_sipush (v := 999) hx hb dX11_bandLine_271 (by decide) ?_
                obtain ⟨v24, S25, hc, hf⟩ := bd2_s hf
                refine gV_i hC hM hA hl.1 [.int (-99), .int 999] [] (c_X11_numeral l D cs a N (-99) 999 S23 v24 S25 hc) gX11_bandLine_X11_numeral rfl hd_X11_numeral ⟨by decide, by decide⟩ 0 11 clX11 rfl mE0 (Nat.le_of_ble_eq_true rfl) dX11_bandLine_274 rfl ⟨by decide, by decide⟩ (fun H locs hM => ?_)
                refine lv_if_ne (tgt := 282) hx hb dX11_bandLine_277 (by decide) (fun c26 => ?_) (fun c26 => ?_)
                · replace hf := it_f c26 hf
                  refine lv_aload_n hx hb dX11_bandLine_282 rfl (lv_at hl 1 rfl) ?_
                  refine g_get hC hM inX11_bandLine_X11 0 mE0 clX11 11 (by decide) tX11_bandLine_10 TX11_11 mV0_11 dX11_bandLine_283 ?_
                  refine lv_iload_n hx hb dX11_bandLine_286 rfl (lv_at hl 2 rfl) ?_
                  refine lv_aload_n hx hb dX11_bandLine_287 rfl (lv_at hl 1 rfl) ?_
                  refine g_get hC hM inX11_bandLine_X11 0 mE0 clX11 28 (by decide) tX11_bandLine_4 TX11_28 mV0_28 dX11_bandLine_288 ?_
                  obtain ⟨h27, hf⟩ := ck_s hf
                  refine g_iast hC hM 7 mE7 h27 mA7 dX11_bandLine_291 (fun H locs hM => ?_)
                  obtain ⟨S28, hf, hM⟩ := mnm hf hM
                  refine lv_aload_n hx hb dX11_bandLine_292 rfl (lv_at hl 1 rfl) ?_
                  refine g_get hC hM inX11_bandLine_X11 0 mE0 clX11 11 (by decide) tX11_bandLine_10 TX11_11 mV0_11 dX11_bandLine_293 ?_
                  refine lv_iload_n hx hb dX11_bandLine_296 rfl (lv_at hl 2 rfl) ?_
                  obtain ⟨h29, hf⟩ := ck_s hf
                  refine g_iald hC hM 7 mE7 h29 dX11_bandLine_297 ?_
                  refine lv_aload_n hx hb dX11_bandLine_298 rfl (lv_at hl 1 rfl) ?_
                  refine g_get hC hM inX11_bandLine_X11 0 mE0 clX11 10 (by decide) tX11_bandLine_9 TX11_10 mV0_10 dX11_bandLine_299 ?_
                  refine lv_iload_n hx hb dX11_bandLine_302 rfl (lv_at hl 2 rfl) ?_
                  obtain ⟨h30, hf⟩ := ck_s hf
                  refine g_iald hC hM 6 mE6 h30 dX11_bandLine_303 ?_
                  refine lv_icmp_gt (tgt := 314) hx hb dX11_bandLine_304 (by decide) (fun c31 => ?_) (fun c31 => ?_)
                  · replace hf := it_t c31 hf
                    refine lv_bipush (v := 24) hx hb dX11_bandLine_314 (by decide) ?_
                    refine lv_istore_n (lv' := [(3, .int 24), (2, .int v18), (0, .ref (a 0)), (1, .int v3)]) hx hb dX11_bandLine_316 rfl hl (by decide) rfl (fun ls hl => ?_)
                    refine jp_W (fun k367 : Option (Int32 × St) => k367 = some (rz, Sz) → ∀ (H : Heap) (locs : List Loc) (ls : Array Slot), gw D A s.heap H locs (mcells cs a S28) → lv_has ls 5 [(0, .ref (a 0)), (2, .int v18)] → W p l e rmX11_bandLine s m args below meth c H locs 0 0 Q (F0 m 367 ls [])) ?_ ?_ hf
                    · intro  hf H locs ls hM hl
                      unfold j_X11_bandLine_367 at hf
                      refine lv_aload_n hx hb dX11_bandLine_367 rfl (lv_at hl 0 rfl) ?_
                      refine lv_iconst (v := 5) hx hb dX11_bandLine_368 (by decide) ?_
                      refine lv_iload_n hx hb dX11_bandLine_369 rfl (lv_at hl 1 rfl) ?_
                      obtain ⟨v32, S33, hc, hf⟩ := bd2_s hf
                      refine gV_i hC hM hA hl.1 [.int 5, .int v18] [] (c_X11_wrong l D cs a N 5 v18 S28 v32 S33 hc) gX11_bandLine_X11_wrong rfl hd_X11_wrong ⟨by decide, by decide⟩ 0 11 clX11 rfl mE0 (Nat.le_of_ble_eq_true rfl) dX11_bandLine_370 rfl ⟨by decide, by decide⟩ (fun H locs hM => ?_)
                      obtain ⟨e1, e2⟩ := so_2 hf
                      cases e1; cases e2
                      exact hQ _ _ _ _ _ _ dX11_bandLine_373 hM (by decide) (by decide)
                    · intro k367 hk367 hf
                      refine jp_W (fun k380 : Option (Int32 × St) => k380 = some (rz, Sz) → ∀ (H : Heap) (locs : List Loc) (ls : Array Slot), gw D A s.heap H locs (mcells cs a S28) → lv_has ls 5 [(0, .ref (a 0)), (1, .int v3)] → W p l e rmX11_bandLine s m args below meth c H locs 0 0 Q (F0 m 380 ls [])) ?_ ?_ hf
                      · intro  hf H locs ls hM hl
                        unfold j_X11_bandLine_380 at hf
                        refine lv_aload_n hx hb dX11_bandLine_380 rfl (lv_at hl 0 rfl) ?_
                        refine lv_iconst (v := 1) hx hb dX11_bandLine_381 (by decide) ?_
                        refine lv_bipush (v := 9) hx hb dX11_bandLine_382 (by decide) ?_
                        obtain ⟨v34, S35, hc, hf⟩ := bd2_s hf
                        refine gV_i hC hM hA hl.1 [.int 1, .int 9] [] (c_X11_numeral l D cs a N 1 9 S28 v34 S35 hc) gX11_bandLine_X11_numeral rfl hd_X11_numeral ⟨by decide, by decide⟩ 0 11 clX11 rfl mE0 (Nat.le_of_ble_eq_true rfl) dX11_bandLine_384 rfl ⟨by decide, by decide⟩ (fun H locs hM => ?_)
                        refine lv_if_ne (tgt := 392) hx hb dX11_bandLine_387 (by decide) (fun c36 => ?_) (fun c36 => ?_)
                        · replace hf := it_f c36 hf
                          refine lv_aload_n hx hb dX11_bandLine_392 rfl (lv_at hl 0 rfl) ?_
                          refine g_get hC hM inX11_bandLine_X11 0 mE0 clX11 12 (by decide) tX11_bandLine_11 TX11_12 mV0_12 dX11_bandLine_393 ?_
                          refine lv_iload_n hx hb dX11_bandLine_396 rfl (lv_at hl 1 rfl) ?_
                          refine lv_aload_n hx hb dX11_bandLine_397 rfl (lv_at hl 0 rfl) ?_
                          refine g_get hC hM inX11_bandLine_X11 0 mE0 clX11 28 (by decide) tX11_bandLine_4 TX11_28 mV0_28 dX11_bandLine_398 ?_
                          obtain ⟨h37, hf⟩ := ck_s hf
                          refine g_iast hC hM 8 mE8 h37 mA8 dX11_bandLine_401 (fun H locs hM => ?_)
                          obtain ⟨S38, hf, hM⟩ := mnm hf hM
                          refine lv_aload_n hx hb dX11_bandLine_402 rfl (lv_at hl 0 rfl) ?_
                          refine g_get hC hM inX11_bandLine_X11 0 mE0 clX11 13 (by decide) tX11_bandLine_12 TX11_13 mV0_13 dX11_bandLine_403 ?_
                          refine lv_iload_n hx hb dX11_bandLine_406 rfl (lv_at hl 1 rfl) ?_
                          refine lv_aload_n hx hb dX11_bandLine_407 rfl (lv_at hl 0 rfl) ?_
                          refine g_get hC hM inX11_bandLine_X11 0 mE0 clX11 24 (by decide) tX11_bandLine_13 TX11_24 mV0_24 dX11_bandLine_408 ?_
                          refine lv_iconst (v := 1) hx hb dX11_bandLine_411 (by decide) ?_
                          refine jp_W (fun k428 : Int32 → Int32 → Option (Int32 × St) => ∀ (v39 : Int32) (v40 : Int32), k428 v39 v40 = some (rz, Sz) → ∀ (H : Heap) (locs : List Loc) (ls : Array Slot), gw D A s.heap H locs (mcells cs a S38) → lv_has ls 5 [(0, .ref (a 0)), (1, .int v3)] → W p l e rmX11_bandLine s m args below meth c H locs 0 0 Q (F0 m 428 ls [.int v40, .int v39, .ref (a 9)])) ?_ ?_ hf
                          · intro v39 v40 hf H locs ls hM hl
                            unfold j_X11_bandLine_428 at hf
                            obtain ⟨h41, hf⟩ := ck_s hf
                            refine g_zast hC hM 9 mE9 h41 mA9 dX11_bandLine_428 (fun H locs hM => ?_)
                            obtain ⟨S42, hf, hM⟩ := mnm hf hM
                            refine lv_aload_n hx hb dX11_bandLine_429 rfl (lv_at hl 0 rfl) ?_
                            refine g_get hC hM inX11_bandLine_X11 0 mE0 clX11 13 (by decide) tX11_bandLine_12 TX11_13 mV0_13 dX11_bandLine_430 ?_
                            refine lv_iload_n hx hb dX11_bandLine_433 rfl (lv_at hl 1 rfl) ?_
                            obtain ⟨h43, hf⟩ := ck_s hf
                            refine g_zald hC hM 9 mE9 h43 dX11_bandLine_434 ?_
                            refine jp_W (fun k442 : St → Option (Int32 × St) => ∀ (S44 : St), k442 S44 = some (rz, Sz) → ∀ (H : Heap) (locs : List Loc) (ls : Array Slot), gw D A s.heap H locs (mcells cs a S44) → lv_has ls 5 [(0, .ref (a 0))] → W p l e rmX11_bandLine s m args below meth c H locs 0 0 Q (F0 m 442 ls [])) ?_ ?_ hf
                            · intro S44 hf H locs ls hM hl
                              unfold j_X11_bandLine_442 at hf
                              refine lv_aload_n hx hb dX11_bandLine_442 rfl (lv_at hl 0 rfl) ?_
                              refine lv_dup hx hb dX11_bandLine_443 rfl ?_
                              refine g_get hC hM inX11_bandLine_X11 0 mE0 clX11 31 (by decide) tX11_bandLine_1 TX11_31 mV0_31 dX11_bandLine_444 ?_
                              refine lv_iconst (v := 1) hx hb dX11_bandLine_447 (by decide) ?_
                              refine lv_iadd hx hb dX11_bandLine_448 ?_
                              refine g_put hC hM inX11_bandLine_X11 tyX11_ok nmX11 0 mE0 clX11 31 (by decide) tX11_bandLine_1 TX11_31 tyX11_31 rfl rfl (by rw [mL0]; decide) mP0_31 dX11_bandLine_449 (fun H locs hM => ?_)
                              obtain ⟨S45, hf, hM⟩ := mnm hf hM
                              refine lv_iconst (v := 1) hx hb dX11_bandLine_452 (by decide) ?_
                              obtain ⟨e1, e2⟩ := so_2 hf
                              cases e1; cases e2
                              exact hQ _ _ _ _ _ _ dX11_bandLine_453 hM (by decide) (by decide)
                            · intro k442 hk442 hf
                              refine lv_if_eq (tgt := 442) hx hb dX11_bandLine_435 (by decide) (fun c46 => ?_) (fun c46 => ?_)
                              · replace hf := it_t c46 hf
                                exact hk442 _ hf _ _ _ hM (lv_sub hl [0] rfl)
                              · replace hf := it_f c46 hf
                                refine lv_aload_n hx hb dX11_bandLine_438 rfl (lv_at hl 0 rfl) ?_
                                obtain ⟨S47, hc, hf⟩ := bd_s hf
                                refine gV_v hC hM hA hl.1 [] [] (c_X11_take l D cs a N S42 S47 hc) gX11_bandLine_X11_take rfl hd_X11_take ⟨by decide, by decide⟩ 0 11 clX11 rfl mE0 (Nat.le_of_ble_eq_true rfl) dX11_bandLine_439 rfl ⟨by decide, by decide⟩ (fun H locs hM => ?_)
                                exact hk442 _ hf _ _ _ hM (lv_sub hl [0] rfl)
                          · intro k428 hk428 hf
                            refine jp_W (fun k427 : Int32 → Option (Int32 × St) => ∀ (v48 : Int32), k427 v48 = some (rz, Sz) → ∀ (H : Heap) (locs : List Loc) (ls : Array Slot), gw D A s.heap H locs (mcells cs a S38) → lv_has ls 5 [(0, .ref (a 0)), (1, .int v3)] → W p l e rmX11_bandLine s m args below meth c H locs 0 0 Q (F0 m 427 ls [.int v48, .ref (a 9)])) ?_ ?_ hf
                            · intro v48 hf H locs ls hM hl
                              unfold j_X11_bandLine_427 at hf
                              refine lv_iconst (v := 0) hx hb dX11_bandLine_427 (by decide) ?_
                              exact hk428 _ _ hf _ _ _ hM hl
                            · intro k427 hk427 hf
                              refine lv_icmp_ne (tgt := 427) hx hb dX11_bandLine_412 (by decide) (fun c49 => ?_) (fun c49 => ?_)
                              · replace hf := it_f c49 hf
                                exact hk427 _ hf _ _ _ hM hl
                              · replace hf := it_t c49 hf
                                refine lv_aload_n hx hb dX11_bandLine_415 rfl (lv_at hl 0 rfl) ?_
                                refine g_get hC hM inX11_bandLine_X11 0 mE0 clX11 25 (by decide) tX11_bandLine_14 TX11_25 mV0_25 dX11_bandLine_416 ?_
                                refine lv_iconst (v := 4) hx hb dX11_bandLine_419 (by decide) ?_
                                refine lv_icmp_ne (tgt := 427) hx hb dX11_bandLine_420 (by decide) (fun c50 => ?_) (fun c50 => ?_)
                                · replace hf := it_f c50 hf
                                  exact hk427 _ hf _ _ _ hM hl
                                · replace hf := it_t c50 hf
                                  refine lv_iconst (v := 1) hx hb dX11_bandLine_423 (by decide) ?_
                                  refine lv_goto (tgt := 428) hx hb dX11_bandLine_424 (by decide) ?_
                                  exact hk428 _ _ hf _ _ _ hM hl
                        · replace hf := it_t c36 hf
                          refine lv_iconst (v := 0) hx hb dX11_bandLine_390 (by decide) ?_
                          obtain ⟨e1, e2⟩ := so_2 hf
                          cases e1; cases e2
                          exact hQ _ _ _ _ _ _ dX11_bandLine_391 hM (by decide) (by decide)
                      · intro k380 hk380 hf
                        refine jl_W (fun k317 : Int32 → Option (Int32 × St) => ∀ (v51 : Int32), k317 v51 = some (rz, Sz) → ∀ (H : Heap) (locs : List Loc) (ls : Array Slot), gw D A s.heap H locs (mcells cs a S28) → lv_has ls 5 [(0, .ref (a 0)), (1, .int v3), (2, .int v18), (3, .int v51)] → W p l e rmX11_bandLine s m args below meth c H locs 0 0 Q (F0 m 317 ls [])) ?_ ?_ ?_ hf
                        · intro v51 h; cases h
                        · intro k317 hk317 v51 hf H locs ls hM hl
                          unfold b_X11_bandLine_317 at hf
                          refine lv_iload_n hx hb dX11_bandLine_317 rfl (lv_at hl 3 rfl) ?_
                          refine lv_iload_n hx hb dX11_bandLine_318 rfl (lv_at hl 1 rfl) ?_
                          refine lv_icmp_ge (tgt := 380) hx hb dX11_bandLine_319 (by decide) (fun c52 => ?_) (fun c52 => ?_)
                          · replace hf := it_t c52 hf
                            exact hk380 hf _ _ _ hM (lv_sub hl [0, 1] rfl)
                          · replace hf := it_f c52 hf
                            refine lv_aload_n hx hb dX11_bandLine_322 rfl (lv_at hl 0 rfl) ?_
                            refine g_get hC hM inX11_bandLine_X11 0 mE0 clX11 9 (by decide) tX11_bandLine_3 TX11_9 mV0_9 dX11_bandLine_323 ?_
                            refine lv_iload_n hx hb dX11_bandLine_326 rfl (lv_at hl 3 rfl) ?_
                            obtain ⟨h53, hf⟩ := ck_s hf
                            refine g_iald hC hM 5 mE5 h53 dX11_bandLine_327 ?_
                            refine lv_aload_n hx hb dX11_bandLine_328 rfl (lv_at hl 0 rfl) ?_
                            refine g_get hC hM inX11_bandLine_X11 0 mE0 clX11 9 (by decide) tX11_bandLine_3 TX11_9 mV0_9 dX11_bandLine_329 ?_
                            refine lv_iload_n hx hb dX11_bandLine_332 rfl (lv_at hl 1 rfl) ?_
                            obtain ⟨h54, hf⟩ := ck_s hf
                            refine g_iald hC hM 5 mE5 h54 dX11_bandLine_333 ?_
                            refine jp_W (fun k374 : Option (Int32 × St) => k374 = some (rz, Sz) → ∀ (H : Heap) (locs : List Loc) (ls : Array Slot), gw D A s.heap H locs (mcells cs a S28) → lv_has ls 5 [(0, .ref (a 0)), (1, .int v3), (2, .int v18), (3, .int v51)] → W p l e rmX11_bandLine s m args below meth c H locs 0 0 Q (F0 m 374 ls [])) ?_ ?_ hf
                            · intro  hf H locs ls hM hl
                              unfold j_X11_bandLine_374 at hf
                              obtain ⟨v55, ev55⟩ : ∃ y : Int32, y = v51 + 1 := ⟨_, rfl⟩
                              replace hf := nm_q ev55 hf
                              refine lv_iinc (v := v55) (lv' := [(3, .int v55), (0, .ref (a 0)), (1, .int v3), (2, .int v18)]) hx hb dX11_bandLine_374 hl (k := 3) rfl (by rw [ev55]; rfl) (by decide) rfl (fun ls hl => ?_)
                              refine lv_goto (tgt := 317) hx hb dX11_bandLine_377 (by decide) ?_
                              exact hk317 _ hf _ _ _ hM (lv_sub hl [1, 2, 3, 0] rfl)
                            · intro k374 hk374 hf
                              refine lv_icmp_ne (tgt := 374) hx hb dX11_bandLine_334 (by decide) (fun c56 => ?_) (fun c56 => ?_)
                              · replace hf := it_f c56 hf
                                exact hk374 hf _ _ _ hM hl
                              · replace hf := it_t c56 hf
                                refine lv_aload_n hx hb dX11_bandLine_337 rfl (lv_at hl 0 rfl) ?_
                                refine g_get hC hM inX11_bandLine_X11 0 mE0 clX11 10 (by decide) tX11_bandLine_9 TX11_10 mV0_10 dX11_bandLine_338 ?_
                                refine lv_iload_n hx hb dX11_bandLine_341 rfl (lv_at hl 3 rfl) ?_
                                obtain ⟨h57, hf⟩ := ck_s hf
                                refine g_iald hC hM 6 mE6 h57 dX11_bandLine_342 ?_
                                refine lv_aload_n hx hb dX11_bandLine_343 rfl (lv_at hl 0 rfl) ?_
                                refine g_get hC hM inX11_bandLine_X11 0 mE0 clX11 11 (by decide) tX11_bandLine_10 TX11_11 mV0_11 dX11_bandLine_344 ?_
                                refine lv_iload_n hx hb dX11_bandLine_347 rfl (lv_at hl 1 rfl) ?_
                                obtain ⟨h58, hf⟩ := ck_s hf
                                refine g_iald hC hM 7 mE7 h58 dX11_bandLine_348 ?_
                                refine lv_icmp_ge (tgt := 374) hx hb dX11_bandLine_349 (by decide) (fun c59 => ?_) (fun c59 => ?_)
                                · replace hf := it_t c59 hf
                                  exact hk374 hf _ _ _ hM hl
                                · replace hf := it_f c59 hf
                                  refine lv_aload_n hx hb dX11_bandLine_352 rfl (lv_at hl 0 rfl) ?_
                                  refine g_get hC hM inX11_bandLine_X11 0 mE0 clX11 10 (by decide) tX11_bandLine_9 TX11_10 mV0_10 dX11_bandLine_353 ?_
                                  refine lv_iload_n hx hb dX11_bandLine_356 rfl (lv_at hl 1 rfl) ?_
                                  obtain ⟨h60, hf⟩ := ck_s hf
                                  refine g_iald hC hM 6 mE6 h60 dX11_bandLine_357 ?_
                                  refine lv_aload_n hx hb dX11_bandLine_358 rfl (lv_at hl 0 rfl) ?_
                                  refine g_get hC hM inX11_bandLine_X11 0 mE0 clX11 11 (by decide) tX11_bandLine_10 TX11_11 mV0_11 dX11_bandLine_359 ?_
                                  refine lv_iload_n hx hb dX11_bandLine_362 rfl (lv_at hl 3 rfl) ?_
                                  obtain ⟨h61, hf⟩ := ck_s hf
                                  refine g_iald hC hM 7 mE7 h61 dX11_bandLine_363 ?_
                                  refine lv_icmp_ge (tgt := 374) hx hb dX11_bandLine_364 (by decide) (fun c62 => ?_) (fun c62 => ?_)
                                  · replace hf := it_t c62 hf
                                    exact hk374 hf _ _ _ hM hl
                                  · replace hf := it_f c62 hf
                                    exact hk367 hf _ _ _ hM (lv_sub hl [0, 2] rfl)
                        · intro k317 hk317 hf
                          exact hk317 _ hf _ _ _ hM (lv_sub hl [2, 3, 1, 0] rfl)
                  · replace hf := it_f c31 hf
                    refine lv_aload_n hx hb dX11_bandLine_307 rfl (lv_at hl 1 rfl) ?_
                    refine lv_iconst (v := 5) hx hb dX11_bandLine_308 (by decide) ?_
                    refine lv_iload_n hx hb dX11_bandLine_309 rfl (lv_at hl 0 rfl) ?_
                    obtain ⟨v63, S64, hc, hf⟩ := bd2_s hf
                    refine gV_i hC hM hA hl.1 [.int 5, .int v18] [] (c_X11_wrong l D cs a N 5 v18 S28 v63 S64 hc) gX11_bandLine_X11_wrong rfl hd_X11_wrong ⟨by decide, by decide⟩ 0 11 clX11 rfl mE0 (Nat.le_of_ble_eq_true rfl) dX11_bandLine_310 rfl ⟨by decide, by decide⟩ (fun H locs hM => ?_)
                    obtain ⟨e1, e2⟩ := so_2 hf
                    cases e1; cases e2
                    exact hQ _ _ _ _ _ _ dX11_bandLine_313 hM (by decide) (by decide)
                · replace hf := it_t c26 hf
                  refine lv_iconst (v := 0) hx hb dX11_bandLine_280 (by decide) ?_
                  obtain ⟨e1, e2⟩ := so_2 hf
                  cases e1; cases e2
                  exact hQ _ _ _ _ _ _ dX11_bandLine_281 hM (by decide) (by decide)
              · replace hf := it_t c21 hf
                refine lv_iconst (v := 0) hx hb dX11_bandLine_256 (by decide) ?_
                obtain ⟨e1, e2⟩ := so_2 hf
                cases e1; cases e2
                exact hQ _ _ _ _ _ _ dX11_bandLine_257 hM (by decide) (by decide)
            · intro k235 hk235 hf
              refine jl_W (fun k199 : Int32 → St → Option (Int32 × St) => ∀ (v65 : Int32) (S66 : St), k199 v65 S66 = some (rz, Sz) → ∀ (H : Heap) (locs : List Loc) (ls : Array Slot), gw D A s.heap H locs (mcells cs a S66) → lv_has ls 5 [(0, .ref (a 0)), (1, .int v3), (2, .int v65)] → W p l e rmX11_bandLine s m args below meth c H locs 0 0 Q (F0 m 199 ls [])) ?_ ?_ ?_ hf
              · intro v65 S66 h; cases h
              · intro k199 hk199 v65 S66 hf H locs ls hM hl
                unfold b_X11_bandLine_199 at hf
                refine lv_iload_n hx hb dX11_bandLine_199 rfl (lv_at hl 2 rfl) ?_
                refine lv_aload_n hx hb dX11_bandLine_200 rfl (lv_at hl 0 rfl) ?_
                refine g_get hC hM inX11_bandLine_X11 0 mE0 clX11 27 (by decide) tX11_bandLine_6 TX11_27 mV0_27 dX11_bandLine_201 ?_
                refine lv_icmp_ge (tgt := 235) hx hb dX11_bandLine_204 (by decide) (fun c67 => ?_) (fun c67 => ?_)
                · replace hf := it_t c67 hf
                  exact hk235 _ hf _ _ _ hM (lv_sub hl [0, 1] rfl)
                · replace hf := it_f c67 hf
                  refine lv_aload_n hx hb dX11_bandLine_207 rfl (lv_at hl 0 rfl) ?_
                  refine g_get hC hM inX11_bandLine_X11 0 mE0 clX11 14 (by decide) tX11_bandLine_7 TX11_14 mV0_14 dX11_bandLine_208 ?_
                  refine lv_bipush (v := 12) hx hb dX11_bandLine_211 (by decide) ?_
                  refine lv_iload_n hx hb dX11_bandLine_213 rfl (lv_at hl 1 rfl) ?_
                  refine lv_imul hx hb dX11_bandLine_214 ?_
                  refine lv_iload_n hx hb dX11_bandLine_215 rfl (lv_at hl 2 rfl) ?_
                  refine lv_iadd hx hb dX11_bandLine_216 ?_
                  refine lv_aload_n hx hb dX11_bandLine_217 rfl (lv_at hl 0 rfl) ?_
                  refine g_get hC hM inX11_bandLine_X11 0 mE0 clX11 26 (by decide) tX11_bandLine_2 TX11_26 mV0_26 dX11_bandLine_218 ?_
                  refine lv_isub hx hb dX11_bandLine_221 ?_
                  refine lv_aload_n hx hb dX11_bandLine_222 rfl (lv_at hl 0 rfl) ?_
                  refine g_get hC hM inX11_bandLine_X11 0 mE0 clX11 0 (by decide) tX11_bandLine_8 TX11_0 mV0_0 dX11_bandLine_223 ?_
                  refine lv_iload_n hx hb dX11_bandLine_226 rfl (lv_at hl 2 rfl) ?_
                  obtain ⟨h68, hf⟩ := ck_s hf
                  refine g_iald hC hM 1 mE1 h68 dX11_bandLine_227 ?_
                  obtain ⟨h69, hf⟩ := ck_s hf
                  refine g_iast hC hM 10 mE10 h69 mA10 dX11_bandLine_228 (fun H locs hM => ?_)
                  obtain ⟨S70, hf, hM⟩ := mnm hf hM
                  obtain ⟨v71, ev71⟩ : ∃ y : Int32, y = v65 + 1 := ⟨_, rfl⟩
                  replace hf := nm_q ev71 hf
                  refine lv_iinc (v := v71) (lv' := [(2, .int v71), (0, .ref (a 0)), (1, .int v3)]) hx hb dX11_bandLine_229 hl (k := 2) rfl (by rw [ev71]; rfl) (by decide) rfl (fun ls hl => ?_)
                  refine lv_goto (tgt := 199) hx hb dX11_bandLine_232 (by decide) ?_
                  exact hk199 _ _ hf _ _ _ hM (lv_sub hl [1, 2, 0] rfl)
              · intro k199 hk199 hf
                exact hk199 _ _ hf _ _ _ hM (lv_sub hl [1, 2, 0] rfl)
          · intro k179 hk179 hf
            refine jl_W (fun k72 : Int32 → Option (Int32 × St) => ∀ (v72 : Int32), k72 v72 = some (rz, Sz) → ∀ (H : Heap) (locs : List Loc) (ls : Array Slot), gw D A s.heap H locs (mcells cs a S8) → lv_has ls 5 [(0, .ref (a 0)), (1, .int v3), (2, .int v72)] → W p l e rmX11_bandLine s m args below meth c H locs 0 0 Q (F0 m 72 ls [])) ?_ ?_ ?_ hf
            · intro v72 h; cases h
            · intro k72 hk72 v72 hf H locs ls hM hl
              unfold b_X11_bandLine_72 at hf
              refine lv_iload_n hx hb dX11_bandLine_72 rfl (lv_at hl 2 rfl) ?_
              refine lv_iload_n hx hb dX11_bandLine_73 rfl (lv_at hl 1 rfl) ?_
              refine lv_icmp_ge (tgt := 179) hx hb dX11_bandLine_74 (by decide) (fun c73 => ?_) (fun c73 => ?_)
              · replace hf := it_t c73 hf
                exact hk179 hf _ _ _ hM (lv_sub hl [0, 1] rfl)
              · replace hf := it_f c73 hf
                refine lv_aload_n hx hb dX11_bandLine_77 rfl (lv_at hl 0 rfl) ?_
                refine g_get hC hM inX11_bandLine_X11 0 mE0 clX11 15 (by decide) tX11_bandLine_5 TX11_15 mV0_15 dX11_bandLine_78 ?_
                refine lv_iload_n hx hb dX11_bandLine_81 rfl (lv_at hl 2 rfl) ?_
                obtain ⟨h74, hf⟩ := ck_s hf
                refine g_iald hC hM 11 mE11 h74 dX11_bandLine_82 ?_
                refine lv_aload_n hx hb dX11_bandLine_83 rfl (lv_at hl 0 rfl) ?_
                refine g_get hC hM inX11_bandLine_X11 0 mE0 clX11 27 (by decide) tX11_bandLine_6 TX11_27 mV0_27 dX11_bandLine_84 ?_
                refine lv_aload_n hx hb dX11_bandLine_87 rfl (lv_at hl 0 rfl) ?_
                refine g_get hC hM inX11_bandLine_X11 0 mE0 clX11 26 (by decide) tX11_bandLine_2 TX11_26 mV0_26 dX11_bandLine_88 ?_
                refine lv_isub hx hb dX11_bandLine_91 ?_
                refine jp_W (fun k100 : Int32 → Option (Int32 × St) => ∀ (v75 : Int32), k100 v75 = some (rz, Sz) → ∀ (H : Heap) (locs : List Loc) (ls : Array Slot), gw D A s.heap H locs (mcells cs a S8) → lv_has ls 5 [(0, .ref (a 0)), (1, .int v3), (2, .int v72)] → W p l e rmX11_bandLine s m args below meth c H locs 0 0 Q (F0 m 100 ls [.int v75])) ?_ ?_ hf
                · intro v75 hf H locs ls hM hl
                  unfold j_X11_bandLine_100 at hf
                  refine lv_istore_n (lv' := [(3, .int v75), (0, .ref (a 0)), (1, .int v3), (2, .int v72)]) hx hb dX11_bandLine_100 rfl hl (by decide) rfl (fun ls hl => ?_)
                  refine lv_aload_n hx hb dX11_bandLine_101 rfl (lv_at hl 1 rfl) ?_
                  refine g_get hC hM inX11_bandLine_X11 0 mE0 clX11 26 (by decide) tX11_bandLine_2 TX11_26 mV0_26 dX11_bandLine_102 ?_
                  refine lv_topi (fun v76 ev76 => ?_)
                  replace hf := nm_q ev76 hf
                  refine lv_istore (lv' := [(4, .int v76), (3, .int v75), (0, .ref (a 0)), (1, .int v3), (2, .int v72)]) hx hb dX11_bandLine_105 hl (by decide) rfl (fun ls hl => ?_)
                  refine jp_W (fun k159 : Int32 → Option (Int32 × St) => ∀ (v77 : Int32), k159 v77 = some (rz, Sz) → ∀ (H : Heap) (locs : List Loc) (ls : Array Slot), gw D A s.heap H locs (mcells cs a S8) → lv_has ls 5 [(0, .ref (a 0)), (1, .int v3), (2, .int v72), (3, .int v77)] → W p l e rmX11_bandLine s m args below meth c H locs 0 0 Q (F0 m 159 ls [])) ?_ ?_ hf
                  · intro v77 hf H locs ls hM hl
                    unfold j_X11_bandLine_159 at hf
                    refine lv_iload_n hx hb dX11_bandLine_159 rfl (lv_at hl 3 rfl) ?_
                    refine lv_if_eq (tgt := 173) hx hb dX11_bandLine_160 (by decide) (fun c78 => ?_) (fun c78 => ?_)
                    · replace hf := it_t c78 hf
                      obtain ⟨v79, ev79⟩ : ∃ y : Int32, y = v72 + 1 := ⟨_, rfl⟩
                      replace hf := nm_q ev79 hf
                      refine lv_iinc (v := v79) (lv' := [(2, .int v79), (0, .ref (a 0)), (1, .int v3), (3, .int v77)]) hx hb dX11_bandLine_173 hl (k := 2) rfl (by rw [ev79]; rfl) (by decide) rfl (fun ls hl => ?_)
                      refine lv_goto (tgt := 72) hx hb dX11_bandLine_176 (by decide) ?_
                      exact hk72 _ hf _ _ _ hM (lv_sub hl [1, 2, 0] rfl)
                    · replace hf := it_f c78 hf
                      exact hk163 hf _ _ _ hM (lv_sub hl [0] rfl)
                  · intro k159 hk159 hf
                    refine jl_W (fun k107 : Int32 → Int32 → Option (Int32 × St) => ∀ (v80 : Int32) (v81 : Int32), k107 v80 v81 = some (rz, Sz) → ∀ (H : Heap) (locs : List Loc) (ls : Array Slot), gw D A s.heap H locs (mcells cs a S8) → lv_has ls 5 [(0, .ref (a 0)), (1, .int v3), (2, .int v72), (3, .int v80), (4, .int v81)] → W p l e rmX11_bandLine s m args below meth c H locs 0 0 Q (F0 m 107 ls [])) ?_ ?_ ?_ hf
                    · intro v80 v81 h; cases h
                    · intro k107 hk107 v80 v81 hf H locs ls hM hl
                      unfold b_X11_bandLine_107 at hf
                      refine lv_iload hx hb dX11_bandLine_107 (lv_at hl 4 rfl) ?_
                      refine lv_aload_n hx hb dX11_bandLine_109 rfl (lv_at hl 0 rfl) ?_
                      refine g_get hC hM inX11_bandLine_X11 0 mE0 clX11 27 (by decide) tX11_bandLine_6 TX11_27 mV0_27 dX11_bandLine_110 ?_
                      refine lv_icmp_ge (tgt := 159) hx hb dX11_bandLine_113 (by decide) (fun c82 => ?_) (fun c82 => ?_)
                      · replace hf := it_t c82 hf
                        exact hk159 _ hf _ _ _ hM (lv_sub hl [0, 1, 2, 3] rfl)
                      · replace hf := it_f c82 hf
                        refine lv_iload_n hx hb dX11_bandLine_116 rfl (lv_at hl 3 rfl) ?_
                        refine lv_if_eq (tgt := 159) hx hb dX11_bandLine_117 (by decide) (fun c83 => ?_) (fun c83 => ?_)
                        · replace hf := it_t c83 hf
                          exact hk159 _ hf _ _ _ hM (lv_sub hl [0, 1, 2, 3] rfl)
                        · replace hf := it_f c83 hf
                          refine lv_aload_n hx hb dX11_bandLine_120 rfl (lv_at hl 0 rfl) ?_
                          refine g_get hC hM inX11_bandLine_X11 0 mE0 clX11 14 (by decide) tX11_bandLine_7 TX11_14 mV0_14 dX11_bandLine_121 ?_
                          refine lv_bipush (v := 12) hx hb dX11_bandLine_124 (by decide) ?_
                          refine lv_iload_n hx hb dX11_bandLine_126 rfl (lv_at hl 2 rfl) ?_
                          refine lv_imul hx hb dX11_bandLine_127 ?_
                          refine lv_iload hx hb dX11_bandLine_128 (lv_at hl 4 rfl) ?_
                          refine lv_iadd hx hb dX11_bandLine_130 ?_
                          refine lv_aload_n hx hb dX11_bandLine_131 rfl (lv_at hl 0 rfl) ?_
                          refine g_get hC hM inX11_bandLine_X11 0 mE0 clX11 26 (by decide) tX11_bandLine_2 TX11_26 mV0_26 dX11_bandLine_132 ?_
                          refine lv_isub hx hb dX11_bandLine_135 ?_
                          obtain ⟨h84, hf⟩ := ck_s hf
                          refine g_iald hC hM 10 mE10 h84 dX11_bandLine_136 ?_
                          refine lv_aload_n hx hb dX11_bandLine_137 rfl (lv_at hl 0 rfl) ?_
                          refine g_get hC hM inX11_bandLine_X11 0 mE0 clX11 0 (by decide) tX11_bandLine_8 TX11_0 mV0_0 dX11_bandLine_138 ?_
                          refine lv_iload hx hb dX11_bandLine_141 (lv_at hl 4 rfl) ?_
                          obtain ⟨h85, hf⟩ := ck_s hf
                          refine g_iald hC hM 1 mE1 h85 dX11_bandLine_143 ?_
                          refine jp_W (fun k152 : Int32 → Option (Int32 × St) => ∀ (v86 : Int32), k152 v86 = some (rz, Sz) → ∀ (H : Heap) (locs : List Loc) (ls : Array Slot), gw D A s.heap H locs (mcells cs a S8) → lv_has ls 5 [(0, .ref (a 0)), (1, .int v3), (2, .int v72), (4, .int v81)] → W p l e rmX11_bandLine s m args below meth c H locs 0 0 Q (F0 m 152 ls [.int v86])) ?_ ?_ hf
                          · intro v86 hf H locs ls hM hl
                            unfold j_X11_bandLine_152 at hf
                            refine lv_istore_n (lv' := [(3, .int v86), (0, .ref (a 0)), (1, .int v3), (2, .int v72), (4, .int v81)]) hx hb dX11_bandLine_152 rfl hl (by decide) rfl (fun ls hl => ?_)
                            obtain ⟨v87, ev87⟩ : ∃ y : Int32, y = v81 + 1 := ⟨_, rfl⟩
                            replace hf := nm_q ev87 hf
                            refine lv_iinc (v := v87) (lv' := [(4, .int v87), (3, .int v86), (0, .ref (a 0)), (1, .int v3), (2, .int v72)]) hx hb dX11_bandLine_153 hl (k := 4) rfl (by rw [ev87]; rfl) (by decide) rfl (fun ls hl => ?_)
                            refine lv_goto (tgt := 107) hx hb dX11_bandLine_156 (by decide) ?_
                            exact hk107 _ _ hf _ _ _ hM (lv_sub hl [2, 3, 4, 1, 0] rfl)
                          · intro k152 hk152 hf
                            refine lv_icmp_ne (tgt := 151) hx hb dX11_bandLine_144 (by decide) (fun c88 => ?_) (fun c88 => ?_)
                            · replace hf := it_f c88 hf
                              refine lv_iconst (v := 0) hx hb dX11_bandLine_151 (by decide) ?_
                              exact hk152 _ hf _ _ _ hM (lv_sub hl [0, 1, 2, 4] rfl)
                            · replace hf := it_t c88 hf
                              refine lv_iconst (v := 1) hx hb dX11_bandLine_147 (by decide) ?_
                              refine lv_goto (tgt := 152) hx hb dX11_bandLine_148 (by decide) ?_
                              exact hk152 _ hf _ _ _ hM (lv_sub hl [0, 1, 2, 4] rfl)
                    · intro k107 hk107 hf
                      exact hk107 _ _ hf _ _ _ hM (lv_sub hl [2, 3, 4, 1, 0] rfl)
                · intro k100 hk100 hf
                  refine lv_icmp_ne (tgt := 99) hx hb dX11_bandLine_92 (by decide) (fun c89 => ?_) (fun c89 => ?_)
                  · replace hf := it_f c89 hf
                    refine lv_iconst (v := 0) hx hb dX11_bandLine_99 (by decide) ?_
                    exact hk100 _ hf _ _ _ hM hl
                  · replace hf := it_t c89 hf
                    refine lv_iconst (v := 1) hx hb dX11_bandLine_95 (by decide) ?_
                    refine lv_goto (tgt := 100) hx hb dX11_bandLine_96 (by decide) ?_
                    exact hk100 _ hf _ _ _ hM hl
            · intro k72 hk72 hf
              exact hk72 _ hf _ _ _ hM (lv_sub hl [2, 1, 0] rfl)
      · replace hf := it_t c10 hf
        refine lv_aload_n hx hb dX11_bandLine_59 rfl (lv_at hl 1 rfl) ?_
        refine lv_iconst (v := 1) hx hb dX11_bandLine_60 (by decide) ?_
        refine lv_aload_n hx hb dX11_bandLine_61 rfl (lv_at hl 1 rfl) ?_
        refine g_get hC hM inX11_bandLine_X11 0 mE0 clX11 26 (by decide) tX11_bandLine_2 TX11_26 mV0_26 dX11_bandLine_62 ?_
        obtain ⟨v90, S91, hc, hf⟩ := bd2_s hf
        refine gV_i hC hM hA hl.1 [.int 1, .int (S8.1 0 26)] [] (c_X11_wrong l D cs a N 1 (S8.1 0 26) S8 v90 S91 hc) gX11_bandLine_X11_wrong rfl hd_X11_wrong ⟨by decide, by decide⟩ 0 11 clX11 rfl mE0 (Nat.le_of_ble_eq_true rfl) dX11_bandLine_65 rfl ⟨by decide, by decide⟩ (fun H locs hM => ?_)
        obtain ⟨e1, e2⟩ := so_2 hf
        cases e1; cases e2
        exact hQ _ _ _ _ _ _ dX11_bandLine_68 hM (by decide) (by decide)
    · replace hf := it_t c6 hf
      refine lv_iconst (v := 0) hx hb dX11_bandLine_40 (by decide) ?_
      obtain ⟨e1, e2⟩ := so_2 hf
      cases e1; cases e2
      exact hQ _ _ _ _ _ _ dX11_bandLine_41 hM (by decide) (by decide)
  · replace hf := it_t c1 hf
    refine lv_aload_n hx hb dX11_bandLine_9 rfl (lv_at hl 0 rfl) ?_
    refine lv_iconst (v := 2) hx hb dX11_bandLine_10 (by decide) ?_
    refine lv_aload_n hx hb dX11_bandLine_11 rfl (lv_at hl 0 rfl) ?_
    refine g_get hC hM inX11_bandLine_X11 0 mE0 clX11 26 (by decide) tX11_bandLine_2 TX11_26 mV0_26 dX11_bandLine_12 ?_
    obtain ⟨v92, S93, hc, hf⟩ := bd2_s hf
    refine gV_i hC hM hA hl.1 [.int 2, .int (S.1 0 26)] [] (c_X11_wrong l D cs a N 2 (S.1 0 26) S v92 S93 hc) gX11_bandLine_X11_wrong rfl hd_X11_wrong ⟨by decide, by decide⟩ 0 11 clX11 rfl mE0 (Nat.le_of_ble_eq_true rfl) dX11_bandLine_15 rfl ⟨by decide, by decide⟩ (fun H locs hM => ?_)
    obtain ⟨e1, e2⟩ := so_2 hf
    cases e1; cases e2
    exact hQ _ _ _ _ _ _ dX11_bandLine_18 hM (by decide) (by decide)

theorem hd_X11_line : yX11_line.cls = RX11 ∧ yX11_line.cls ≠ "java/lang/invoke/MethodHandle" ∧ yX11_line.cls ≠ "java/lang/invoke/VarHandle" ∧ (parseMethodDescriptor yX11_line.desc).map (fun d => d.parameters.length) = some 0 := by decide +kernel
theorem tX11_line_1 : Cond.fieldLink RX11 112 "WeatherTellerModel" "kind" "I" ∈ wsX11_line := List.mem_of_getElem? (i := 1) rfl
theorem inX11_line_X11 : ∀ w ∈ u_ws RX11 TX11 50, w ∈ wsX11_line := fun _ h => List.mem_cons_of_mem _ (List.mem_append_right _ h)
theorem tX11_line_3 : Cond.fieldLink RX11 109 "WeatherTellerModel" "place" "I" ∈ wsX11_line := List.mem_of_getElem? (i := 3) rfl
theorem tX11_line_2 : Cond.fieldLink RX11 123 "WeatherTellerModel" "which" "I" ∈ wsX11_line := List.mem_of_getElem? (i := 2) rfl
def j_X11_line_24 (N : Nat) (S : St)  : Option (Int32 × St) :=
  bd2 (f_X11_wrong N 1 (S.1 0 26) S) fun v1 S2 =>
  some (v1, S2)
def j_X11_line_68 (N : Nat) (v6 : Int32) (S7 : St) : Option (Int32 × St) :=
  if v6 = 0 then
    some (0, S7)
  else
    bd2 (f_X11_need N 59 S7) fun v9 S10 =>
    if v9 = 0 then
      some (0, S10)
    else
      some (1, S10)
def f_X11_line (N : Nat)  (S : St) : Option (Int32 × St) :=
  zb <|
  jp (j_X11_line_24 N S) fun k24 =>
  if (S.1 0 24) = 1 then
    if (S.1 0 25) < 1 then
      k24
    else
      if (S.1 0 25) ≤ 3 then
        jp (j_X11_line_68 N) fun k68 =>
        if (S.1 0 25) = 1 then
          bd2 (f_X11_placeLine N S) fun v18 S19 =>
          k68 v18 S19
        else
          if (S.1 0 25) = 2 then
            bd2 (f_X11_regionLine N S) fun v16 S17 =>
            k68 v16 S17
          else
            bd2 (f_X11_bandLine N S) fun v14 S15 =>
            k68 v14 S15
      else
        k24
  else
    k24
abbrev rmX11_line : Room := { frames := 4, cells := 0, slots := 0, locals := 94 }
set_option maxRecDepth 100000 in
set_option maxHeartbeats 4000000 in
theorem c_X11_line (l : Launch) (D : va_G) (cs : Nat → ClassId) (a : Nat → Nat) (N : Nat) (S : St) (rz : Int32) (Sz : St) (hf : f_X11_line N S = some (rz, Sz)) : gMi l yX11_line wsX11_line rmX11_line D cs [.ref (a 0)] (mcells cs a S) rz (mcells cs a Sz) := by
  unfold f_X11_line at hf
  obtain ⟨hrz, hf⟩ := zb_s hf
  refine gE_z (cc := cX11_line) (maxL := 2) hrz (by decide) rfl (Nat.le_of_ble_eq_true rfl) ?_
  intro p e s m args below meth c A Q hC hA hQ hM ls hl
  obtain ⟨hx, hb, hml, hown, hts⟩ := hC.1
  have hl : lv_has ls 2 [(0, .ref (a 0))] := hl
  refine lv_aload_n hx hb dX11_line_0 rfl (lv_at hl 0 rfl) ?_
  refine g_get hC hM inX11_line_X11 0 mE0 clX11 24 (by decide) tX11_line_1 TX11_24 mV0_24 dX11_line_1 ?_
  refine lv_iconst (v := 1) hx hb dX11_line_4 (by decide) ?_
  refine jp_W (fun k24 : Option (Int32 × St) => k24 = some (rz, Sz) → ∀ (H : Heap) (locs : List Loc) (ls : Array Slot), gw D A s.heap H locs (mcells cs a S) → lv_has ls 2 [(0, .ref (a 0))] → W p l e rmX11_line s m args below meth c H locs 0 0 Q (F0 m 24 ls [])) ?_ ?_ hf
  · intro  hf H locs ls hM hl
    unfold j_X11_line_24 at hf
    refine lv_aload_n hx hb dX11_line_24 rfl (lv_at hl 0 rfl) ?_
    refine lv_iconst (v := 1) hx hb dX11_line_25 (by decide) ?_
    refine lv_aload_n hx hb dX11_line_26 rfl (lv_at hl 0 rfl) ?_
    refine g_get hC hM inX11_line_X11 0 mE0 clX11 26 (by decide) tX11_line_3 TX11_26 mV0_26 dX11_line_27 ?_
    obtain ⟨v1, S2, hc, hf⟩ := bd2_s hf
    refine gV_i hC hM hA hl.1 [.int 1, .int (S.1 0 26)] [] (c_X11_wrong l D cs a N 1 (S.1 0 26) S v1 S2 hc) gX11_line_X11_wrong rfl hd_X11_wrong ⟨by decide, by decide⟩ 0 11 clX11 rfl mE0 (Nat.le_of_ble_eq_true rfl) dX11_line_30 rfl ⟨by decide, by decide⟩ (fun H locs hM => ?_)
    obtain ⟨e1, e2⟩ := so_2 hf
    cases e1; cases e2
    exact hQ _ _ _ _ _ _ dX11_line_33 hM (by decide) (by decide)
  · intro k24 hk24 hf
    refine lv_icmp_ne (tgt := 24) hx hb dX11_line_5 (by decide) (fun c3 => ?_) (fun c3 => ?_)
    · replace hf := it_f c3 hf
      exact hk24 hf _ _ _ hM hl
    · replace hf := it_t c3 hf
      refine lv_aload_n hx hb dX11_line_8 rfl (lv_at hl 0 rfl) ?_
      refine g_get hC hM inX11_line_X11 0 mE0 clX11 25 (by decide) tX11_line_2 TX11_25 mV0_25 dX11_line_9 ?_
      refine lv_iconst (v := 1) hx hb dX11_line_12 (by decide) ?_
      refine lv_icmp_lt (tgt := 24) hx hb dX11_line_13 (by decide) (fun c4 => ?_) (fun c4 => ?_)
      · replace hf := it_t c4 hf
        exact hk24 hf _ _ _ hM hl
      · replace hf := it_f c4 hf
        refine lv_aload_n hx hb dX11_line_16 rfl (lv_at hl 0 rfl) ?_
        refine g_get hC hM inX11_line_X11 0 mE0 clX11 25 (by decide) tX11_line_2 TX11_25 mV0_25 dX11_line_17 ?_
        refine lv_iconst (v := 3) hx hb dX11_line_20 (by decide) ?_
        refine lv_icmp_le (tgt := 34) hx hb dX11_line_21 (by decide) (fun c5 => ?_) (fun c5 => ?_)
        · replace hf := it_t c5 hf
          refine lv_aload_n hx hb dX11_line_34 rfl (lv_at hl 0 rfl) ?_
          refine g_get hC hM inX11_line_X11 0 mE0 clX11 25 (by decide) tX11_line_2 TX11_25 mV0_25 dX11_line_35 ?_
          refine lv_iconst (v := 1) hx hb dX11_line_38 (by decide) ?_
          refine jp_W (fun k68 : Int32 → St → Option (Int32 × St) => ∀ (v6 : Int32) (S7 : St), k68 v6 S7 = some (rz, Sz) → ∀ (H : Heap) (locs : List Loc) (ls : Array Slot), gw D A s.heap H locs (mcells cs a S7) → lv_has ls 2 [(0, .ref (a 0))] → W p l e rmX11_line s m args below meth c H locs 0 0 Q (F0 m 68 ls [.int v6])) ?_ ?_ hf
          · intro v6 S7 hf H locs ls hM hl
            unfold j_X11_line_68 at hf
            refine lv_istore_n (lv' := [(1, .int v6), (0, .ref (a 0))]) hx hb dX11_line_68 rfl hl (by decide) rfl (fun ls hl => ?_)
            refine lv_iload_n hx hb dX11_line_69 rfl (lv_at hl 0 rfl) ?_
            refine lv_if_eq (tgt := 86) hx hb dX11_line_70 (by decide) (fun c8 => ?_) (fun c8 => ?_)
            · replace hf := it_t c8 hf
              refine lv_iconst (v := 0) hx hb dX11_line_86 (by decide) ?_
              obtain ⟨e1, e2⟩ := so_2 hf
              cases e1; cases e2
              exact hQ _ _ _ _ _ _ dX11_line_87 hM (by decide) (by decide)
            · replace hf := it_f c8 hf
              refine lv_aload_n hx hb dX11_line_73 rfl (lv_at hl 1 rfl) ?_
              refine lv_bipush (v := 59) hx hb dX11_line_74 (by decide) ?_
              obtain ⟨v9, S10, hc, hf⟩ := bd2_s hf
              refine gV_i hC hM hA hl.1 [.int 59] [] (c_X11_need l D cs a N 59 S7 v9 S10 hc) gX11_line_X11_need rfl hd_X11_need ⟨by decide, by decide⟩ 0 11 clX11 rfl mE0 (Nat.le_of_ble_eq_true rfl) dX11_line_76 rfl ⟨by decide, by decide⟩ (fun H locs hM => ?_)
              refine lv_if_eq (tgt := 86) hx hb dX11_line_79 (by decide) (fun c11 => ?_) (fun c11 => ?_)
              · replace hf := it_t c11 hf
                refine lv_iconst (v := 0) hx hb dX11_line_86 (by decide) ?_
                obtain ⟨e1, e2⟩ := so_2 hf
                cases e1; cases e2
                exact hQ _ _ _ _ _ _ dX11_line_87 hM (by decide) (by decide)
              · replace hf := it_f c11 hf
                refine lv_iconst (v := 1) hx hb dX11_line_82 (by decide) ?_
                refine lv_goto (tgt := 87) hx hb dX11_line_83 (by decide) ?_
                obtain ⟨e1, e2⟩ := so_2 hf
                cases e1; cases e2
                exact hQ _ _ _ _ _ _ dX11_line_87 hM (by decide) (by decide)
          · intro k68 hk68 hf
            refine lv_icmp_ne (tgt := 49) hx hb dX11_line_39 (by decide) (fun c12 => ?_) (fun c12 => ?_)
            · replace hf := it_f c12 hf
              refine lv_aload_n hx hb dX11_line_49 rfl (lv_at hl 0 rfl) ?_
              refine g_get hC hM inX11_line_X11 0 mE0 clX11 25 (by decide) tX11_line_2 TX11_25 mV0_25 dX11_line_50 ?_
              refine lv_iconst (v := 2) hx hb dX11_line_53 (by decide) ?_
              refine lv_icmp_ne (tgt := 64) hx hb dX11_line_54 (by decide) (fun c13 => ?_) (fun c13 => ?_)
              · replace hf := it_f c13 hf
                refine lv_aload_n hx hb dX11_line_64 rfl (lv_at hl 0 rfl) ?_
                obtain ⟨v14, S15, hc, hf⟩ := bd2_s hf
                refine gV_i hC hM hA hl.1 [] [] (c_X11_bandLine l D cs a N S v14 S15 hc) gX11_line_X11_bandLine rfl hd_X11_bandLine ⟨by decide, by decide⟩ 0 11 clX11 rfl mE0 (Nat.le_of_ble_eq_true rfl) dX11_line_65 rfl ⟨by decide, by decide⟩ (fun H locs hM => ?_)
                exact hk68 _ _ hf _ _ _ hM hl
              · replace hf := it_t c13 hf
                refine lv_aload_n hx hb dX11_line_57 rfl (lv_at hl 0 rfl) ?_
                obtain ⟨v16, S17, hc, hf⟩ := bd2_s hf
                refine gV_i hC hM hA hl.1 [] [] (c_X11_regionLine l D cs a N S v16 S17 hc) gX11_line_X11_regionLine rfl hd_X11_regionLine ⟨by decide, by decide⟩ 0 11 clX11 rfl mE0 (Nat.le_of_ble_eq_true rfl) dX11_line_58 rfl ⟨by decide, by decide⟩ (fun H locs hM => ?_)
                refine lv_goto (tgt := 68) hx hb dX11_line_61 (by decide) ?_
                exact hk68 _ _ hf _ _ _ hM hl
            · replace hf := it_t c12 hf
              refine lv_aload_n hx hb dX11_line_42 rfl (lv_at hl 0 rfl) ?_
              obtain ⟨v18, S19, hc, hf⟩ := bd2_s hf
              refine gV_i hC hM hA hl.1 [] [] (c_X11_placeLine l D cs a N S v18 S19 hc) gX11_line_X11_placeLine rfl hd_X11_placeLine ⟨by decide, by decide⟩ 0 11 clX11 rfl mE0 (Nat.le_of_ble_eq_true rfl) dX11_line_43 rfl ⟨by decide, by decide⟩ (fun H locs hM => ?_)
              refine lv_goto (tgt := 68) hx hb dX11_line_46 (by decide) ?_
              exact hk68 _ _ hf _ _ _ hM hl
        · replace hf := it_f c5 hf
          exact hk24 hf _ _ _ hM hl

theorem hd_X11_bits : yX11_bits.cls ≠ "java/lang/invoke/MethodHandle" ∧ yX11_bits.cls ≠ "java/lang/invoke/VarHandle" ∧ (parseMethodDescriptor yX11_bits.desc).map (fun d => d.parameters.length) = some 1 := by decide +kernel
def b_X11_bits_4 (p0 : Int32) (k4 : Int32 → Int32 → Option (Int32)) (v1 : Int32) (v2 : Int32) : Option (Int32) :=
  if 12 ≤ v2 then
    some v1
  else
    nm (v1 + ((p0 >>> (v2 &&& 31)) &&& 1)) fun v4 =>
    nm (v2 + 1) fun v5 =>
    k4 v4 v5
def f_X11_bits (N : Nat) (p0 : Int32) : Option (Int32) :=
  jp (lp (fun _ _ => none) (b_X11_bits_4 p0) N) fun k4 =>
  k4 0 0
abbrev rmX11_bits : Room := { frames := 0, cells := 0, slots := 0, locals := 0 }
set_option maxRecDepth 100000 in
set_option maxHeartbeats 4000000 in
theorem c_X11_bits (l : Launch) (D : va_G) (cs : Nat → ClassId) (w : va_W) (N : Nat) (p0 : Int32) (rz : Int32) (hf : f_X11_bits N p0 = some rz) : gMi l yX11_bits wsX11_bits rmX11_bits D cs [.int p0] w rz w := by
  unfold f_X11_bits at hf
  refine gE_i (cc := cX11_bits) (maxL := 3) (by decide) rfl (Nat.le_of_ble_eq_true rfl) ?_
  intro p e s m args below meth c A Q hC hA hQ hM ls hl
  obtain ⟨hx, hb, hml, hown, hts⟩ := hC.1
  have hl : lv_has ls 3 [(0, .int p0)] := hl
  refine lv_iconst (v := 0) hx hb dX11_bits_0 (by decide) ?_
  refine lv_istore_n (lv' := [(1, .int 0), (0, .int p0)]) hx hb dX11_bits_1 rfl hl (by decide) rfl (fun ls hl => ?_)
  refine lv_iconst (v := 0) hx hb dX11_bits_2 (by decide) ?_
  refine lv_istore_n (lv' := [(2, .int 0), (1, .int 0), (0, .int p0)]) hx hb dX11_bits_3 rfl hl (by decide) rfl (fun ls hl => ?_)
  refine jl_W (fun k4 : Int32 → Int32 → Option (Int32) => ∀ (v1 : Int32) (v2 : Int32), k4 v1 v2 = some rz → ∀ (H : Heap) (locs : List Loc) (ls : Array Slot), gw D A s.heap H locs w → lv_has ls 3 [(0, .int p0), (1, .int v1), (2, .int v2)] → W p l e rmX11_bits s m args below meth c H locs 0 0 Q (F0 m 4 ls [])) ?_ ?_ ?_ hf
  · intro v1 v2 h; cases h
  · intro k4 hk4 v1 v2 hf H locs ls hM hl
    unfold b_X11_bits_4 at hf
    refine lv_iload_n hx hb dX11_bits_4 rfl (lv_at hl 2 rfl) ?_
    refine lv_bipush (v := 12) hx hb dX11_bits_5 (by decide) ?_
    refine lv_icmp_ge (tgt := 24) hx hb dX11_bits_7 (by decide) (fun c3 => ?_) (fun c3 => ?_)
    · replace hf := it_t c3 hf
      refine lv_iload_n hx hb dX11_bits_24 rfl (lv_at hl 1 rfl) ?_
      cases so_1 hf
      exact hQ _ _ _ _ _ _ dX11_bits_25 hM (by decide) (by decide)
    · replace hf := it_f c3 hf
      refine lv_iload_n hx hb dX11_bits_10 rfl (lv_at hl 1 rfl) ?_
      refine lv_iload_n hx hb dX11_bits_11 rfl (lv_at hl 0 rfl) ?_
      refine lv_iload_n hx hb dX11_bits_12 rfl (lv_at hl 2 rfl) ?_
      refine lv_ishr hx hb dX11_bits_13 ?_
      refine lv_iconst (v := 1) hx hb dX11_bits_14 (by decide) ?_
      refine lv_iand hx hb dX11_bits_15 ?_
      refine lv_iadd hx hb dX11_bits_16 ?_
      refine lv_topi (fun v4 ev4 => ?_)
      replace hf := nm_q ev4 hf
      refine lv_istore_n (lv' := [(1, .int v4), (0, .int p0), (2, .int v2)]) hx hb dX11_bits_17 rfl hl (by decide) rfl (fun ls hl => ?_)
      obtain ⟨v5, ev5⟩ : ∃ y : Int32, y = v2 + 1 := ⟨_, rfl⟩
      replace hf := nm_q ev5 hf
      refine lv_iinc (v := v5) (lv' := [(2, .int v5), (1, .int v4), (0, .int p0)]) hx hb dX11_bits_18 hl (k := 2) rfl (by rw [ev5]; rfl) (by decide) rfl (fun ls hl => ?_)
      refine lv_goto (tgt := 4) hx hb dX11_bits_21 (by decide) ?_
      exact hk4 _ _ hf _ _ _ hM (lv_sub hl [2, 1, 0] rfl)
  · intro k4 hk4 hf
    exact hk4 _ _ hf _ _ _ hM (lv_sub hl [2, 1, 0] rfl)

theorem hd_X11_group : yX11_group.cls = RX11 ∧ yX11_group.cls ≠ "java/lang/invoke/MethodHandle" ∧ yX11_group.cls ≠ "java/lang/invoke/VarHandle" ∧ (parseMethodDescriptor yX11_group.desc).map (fun d => d.parameters.length) = some 1 := by decide +kernel
theorem tX11_group_1 : Cond.fieldLink RX11 180 "WeatherTellerModel" "places" "I" ∈ wsX11_group := List.mem_of_getElem? (i := 1) rfl
theorem inX11_group_X11 : ∀ w ∈ u_ws RX11 TX11 50, w ∈ wsX11_group := fun _ h => List.mem_cons_of_mem _ (List.mem_append_right _ h)
theorem tX11_group_2 : Cond.fieldLink RX11 183 "WeatherTellerModel" "regions" "I" ∈ wsX11_group := List.mem_of_getElem? (i := 2) rfl
theorem tX11_group_4 : Cond.fieldLink RX11 48 "WeatherTellerModel" "groupNames" "[I" ∈ wsX11_group := List.mem_of_getElem? (i := 4) rfl
theorem tX11_group_5 : Cond.fieldLink RX11 51 "WeatherTellerModel" "groupOut" "[I" ∈ wsX11_group := List.mem_of_getElem? (i := 5) rfl
theorem tX11_group_3 : Cond.fieldLink RX11 19 "WeatherTellerModel" "members" "[I" ∈ wsX11_group := List.mem_of_getElem? (i := 3) rfl
def j_X11_group_131 (v2 : Int32) (k5 : Int32 → Int32 → St → Option (St)) (v6 : Int32) (S7 : St) : Option (St) :=
  nm (v2 + 1) fun v8 =>
  k5 v6 v8 S7
def j_X11_group_72 (N : Nat) (p0 : Int32) (v1 : Int32) (v2 : Int32) (S3 : St) (k5 : Int32 → Int32 → St → Option (St)) (v5 : Int32) : Option (St) :=
  jp (j_X11_group_131 v2 k5) fun k131 =>
  if (p0 &&& (v5 ^^^ (-1))) = 0 then
    bd (f_X11_bits N v2) fun v10 =>
    bd (f_X11_bits N (v5 &&& (p0 ^^^ (-1)))) fun v11 =>
    nm (v10 + v11) fun v12 =>
    if v12 < v1 then
      ck p0 64 <|
      nm (puI S3 12 p0.toNatClampNeg v2) fun S15 =>
      ck p0 64 <|
      nm (puI S15 13 p0.toNatClampNeg (v5 &&& (p0 ^^^ (-1)))) fun S17 =>
      k131 v12 S17
    else
      k131 v1 S3
  else
    k131 v1 S3
def j_X11_group_63 (v19 : Int32) (k26 : Int32 → Int32 → Option (St)) (v21 : Int32) (v22 : Int32) : Option (St) :=
  nm (v21 ||| v22) fun v23 =>
  nm (v19 + 1) fun v24 =>
  k26 v23 v24
def b_X11_group_26 (v2 : Int32) (S3 : St) (k72 : Int32 → Option (St)) (k26 : Int32 → Int32 → Option (St)) (v18 : Int32) (v19 : Int32) : Option (St) :=
  if ((S3.1 0 3) + (S3.1 0 4)) ≤ v19 then
    k72 v18
  else
    jp (j_X11_group_63 v19 k26) fun k63 =>
    if ((v2 >>> (v19 &&& 31)) &&& 1) = 1 then
      ck v19 24 <|
      k63 v18 (S3.1 4 v19.toNatClampNeg)
    else
      k63 v18 0
def b_X11_group_5 (N : Nat) (p0 : Int32) (k5 : Int32 → Int32 → St → Option (St)) (v1 : Int32) (v2 : Int32) (S3 : St) : Option (St) :=
  if (1 <<< (((S3.1 0 3) + (S3.1 0 4)) &&& 31)) ≤ v2 then
    some S3
  else
    jp (j_X11_group_72 N p0 v1 v2 S3 k5) fun k72 =>
    jp (lp (fun _ _ => none) (b_X11_group_26 v2 S3 k72) N) fun k26 =>
    k26 0 0
def f_X11_group (N : Nat) (p0 : Int32) (S : St) : Option (St) :=
  jp (lp (fun _ _ _ => none) (b_X11_group_5 N p0) N) fun k5 =>
  k5 99 1 S
abbrev rmX11_group : Room := { frames := 1, cells := 0, slots := 0, locals := 22 }
set_option maxRecDepth 100000 in
set_option maxHeartbeats 4000000 in
theorem c_X11_group (l : Launch) (D : va_G) (cs : Nat → ClassId) (a : Nat → Nat) (N : Nat) (p0 : Int32) (S : St) (Sz : St) (hf : f_X11_group N p0 S = some Sz) : gMv l yX11_group wsX11_group rmX11_group D cs [.ref (a 0), .int p0] (mcells cs a S) (mcells cs a Sz) := by
  unfold f_X11_group at hf
  refine gE_v (cc := cX11_group) (maxL := 6) (by decide) rfl (Nat.le_of_ble_eq_true rfl) ?_
  intro p e s m args below meth c A Q hC hA hQ hM ls hl
  obtain ⟨hx, hb, hml, hown, hts⟩ := hC.1
  have hl : lv_has ls 6 [(0, .ref (a 0)), (1, .int p0)] := hl
  refine lv_bipush (v := 99) hx hb dX11_group_0 (by decide) ?_
  refine lv_istore_n (lv' := [(2, .int 99), (0, .ref (a 0)), (1, .int p0)]) hx hb dX11_group_2 rfl hl (by decide) rfl (fun ls hl => ?_)
  refine lv_iconst (v := 1) hx hb dX11_group_3 (by decide) ?_
  refine lv_istore_n (lv' := [(3, .int 1), (2, .int 99), (0, .ref (a 0)), (1, .int p0)]) hx hb dX11_group_4 rfl hl (by decide) rfl (fun ls hl => ?_)
  refine jl_W (fun k5 : Int32 → Int32 → St → Option (St) => ∀ (v1 : Int32) (v2 : Int32) (S3 : St), k5 v1 v2 S3 = some Sz → ∀ (H : Heap) (locs : List Loc) (ls : Array Slot), gw D A s.heap H locs (mcells cs a S3) → lv_has ls 6 [(0, .ref (a 0)), (1, .int p0), (2, .int v1), (3, .int v2)] → W p l e rmX11_group s m args below meth c H locs 0 0 Q (F0 m 5 ls [])) ?_ ?_ ?_ hf
  · intro v1 v2 S3 h; cases h
  · intro k5 hk5 v1 v2 S3 hf H locs ls hM hl
    unfold b_X11_group_5 at hf
    refine lv_iload_n hx hb dX11_group_5 rfl (lv_at hl 3 rfl) ?_
    refine lv_iconst (v := 1) hx hb dX11_group_6 (by decide) ?_
    refine lv_aload_n hx hb dX11_group_7 rfl (lv_at hl 0 rfl) ?_
    refine g_get hC hM inX11_group_X11 0 mE0 clX11 3 (by decide) tX11_group_1 TX11_3 mV0_3 dX11_group_8 ?_
    refine lv_aload_n hx hb dX11_group_11 rfl (lv_at hl 0 rfl) ?_
    refine g_get hC hM inX11_group_X11 0 mE0 clX11 4 (by decide) tX11_group_2 TX11_4 mV0_4 dX11_group_12 ?_
    refine lv_iadd hx hb dX11_group_15 ?_
    refine lv_ishl hx hb dX11_group_16 ?_
    refine lv_icmp_ge (tgt := 137) hx hb dX11_group_17 (by decide) (fun c4 => ?_) (fun c4 => ?_)
    · replace hf := it_t c4 hf
      cases so_1 hf
      exact hQ _ _ _ _ _ _ dX11_group_137 hM (by decide) (by decide)
    · replace hf := it_f c4 hf
      refine lv_iconst (v := 0) hx hb dX11_group_20 (by decide) ?_
      refine lv_istore (lv' := [(4, .int 0), (0, .ref (a 0)), (1, .int p0), (2, .int v1), (3, .int v2)]) hx hb dX11_group_21 hl (by decide) rfl (fun ls hl => ?_)
      refine lv_iconst (v := 0) hx hb dX11_group_23 (by decide) ?_
      refine lv_istore (lv' := [(5, .int 0), (4, .int 0), (0, .ref (a 0)), (1, .int p0), (2, .int v1), (3, .int v2)]) hx hb dX11_group_24 hl (by decide) rfl (fun ls hl => ?_)
      refine jp_W (fun k72 : Int32 → Option (St) => ∀ (v5 : Int32), k72 v5 = some Sz → ∀ (H : Heap) (locs : List Loc) (ls : Array Slot), gw D A s.heap H locs (mcells cs a S3) → lv_has ls 6 [(0, .ref (a 0)), (1, .int p0), (2, .int v1), (3, .int v2), (4, .int v5)] → W p l e rmX11_group s m args below meth c H locs 0 0 Q (F0 m 72 ls [])) ?_ ?_ hf
      · intro v5 hf H locs ls hM hl
        unfold j_X11_group_72 at hf
        refine lv_iload_n hx hb dX11_group_72 rfl (lv_at hl 1 rfl) ?_
        refine lv_iload hx hb dX11_group_73 (lv_at hl 4 rfl) ?_
        refine lv_iconst (v := (-1)) hx hb dX11_group_75 (by decide) ?_
        refine lv_ixor hx hb dX11_group_76 ?_
        refine lv_iand hx hb dX11_group_77 ?_
        refine jp_W (fun k131 : Int32 → St → Option (St) => ∀ (v6 : Int32) (S7 : St), k131 v6 S7 = some Sz → ∀ (H : Heap) (locs : List Loc) (ls : Array Slot), gw D A s.heap H locs (mcells cs a S7) → lv_has ls 6 [(0, .ref (a 0)), (1, .int p0), (2, .int v6), (3, .int v2)] → W p l e rmX11_group s m args below meth c H locs 0 0 Q (F0 m 131 ls [])) ?_ ?_ hf
        · intro v6 S7 hf H locs ls hM hl
          unfold j_X11_group_131 at hf
          obtain ⟨v8, ev8⟩ : ∃ y : Int32, y = v2 + 1 := ⟨_, rfl⟩
          replace hf := nm_q ev8 hf
          refine lv_iinc (v := v8) (lv' := [(3, .int v8), (0, .ref (a 0)), (1, .int p0), (2, .int v6)]) hx hb dX11_group_131 hl (k := 3) rfl (by rw [ev8]; rfl) (by decide) rfl (fun ls hl => ?_)
          refine lv_goto (tgt := 5) hx hb dX11_group_134 (by decide) ?_
          exact hk5 _ _ _ hf _ _ _ hM (lv_sub hl [1, 2, 3, 0] rfl)
        · intro k131 hk131 hf
          refine lv_if_eq (tgt := 84) hx hb dX11_group_78 (by decide) (fun c9 => ?_) (fun c9 => ?_)
          · replace hf := it_t c9 hf
            refine lv_iload_n hx hb dX11_group_84 rfl (lv_at hl 3 rfl) ?_
            obtain ⟨v10, hc, hf⟩ := bd_s hf
            refine gS_i hC hM hA hl.1 [.int v2] [] (c_X11_bits l D cs (mcells cs a S3) N v2 v10 hc) gX11_group_X11_bits rfl hd_X11_bits ⟨by decide, by decide⟩ (Nat.le_of_ble_eq_true rfl) dX11_group_85 rfl ⟨by decide, by decide⟩ (fun H locs hM => ?_)
            refine lv_iload hx hb dX11_group_88 (lv_at hl 4 rfl) ?_
            refine lv_iload_n hx hb dX11_group_90 rfl (lv_at hl 1 rfl) ?_
            refine lv_iconst (v := (-1)) hx hb dX11_group_91 (by decide) ?_
            refine lv_ixor hx hb dX11_group_92 ?_
            refine lv_iand hx hb dX11_group_93 ?_
            obtain ⟨v11, hc, hf⟩ := bd_s hf
            refine gS_i hC hM hA hl.1 [.int (v5 &&& (p0 ^^^ (-1)))] [.int v10] (c_X11_bits l D cs (mcells cs a S3) N (v5 &&& (p0 ^^^ (-1))) v11 hc) gX11_group_X11_bits rfl hd_X11_bits ⟨by decide, by decide⟩ (Nat.le_of_ble_eq_true rfl) dX11_group_94 rfl ⟨by decide, by decide⟩ (fun H locs hM => ?_)
            refine lv_iadd hx hb dX11_group_97 ?_
            refine lv_topi (fun v12 ev12 => ?_)
            replace hf := nm_q ev12 hf
            refine lv_istore (lv' := [(5, .int v12), (0, .ref (a 0)), (1, .int p0), (2, .int v1), (3, .int v2), (4, .int v5)]) hx hb dX11_group_98 hl (by decide) rfl (fun ls hl => ?_)
            refine lv_iload hx hb dX11_group_100 (lv_at hl 0 rfl) ?_
            refine lv_iload_n hx hb dX11_group_102 rfl (lv_at hl 3 rfl) ?_
            refine lv_icmp_lt (tgt := 109) hx hb dX11_group_103 (by decide) (fun c13 => ?_) (fun c13 => ?_)
            · replace hf := it_t c13 hf
              refine lv_iload hx hb dX11_group_109 (lv_at hl 0 rfl) ?_
              refine lv_istore_n (lv' := [(2, .int v12), (5, .int v12), (0, .ref (a 0)), (1, .int p0), (3, .int v2), (4, .int v5)]) hx hb dX11_group_111 rfl hl (by decide) rfl (fun ls hl => ?_)
              refine lv_aload_n hx hb dX11_group_112 rfl (lv_at hl 2 rfl) ?_
              refine g_get hC hM inX11_group_X11 0 mE0 clX11 18 (by decide) tX11_group_4 TX11_18 mV0_18 dX11_group_113 ?_
              refine lv_iload_n hx hb dX11_group_116 rfl (lv_at hl 3 rfl) ?_
              refine lv_iload_n hx hb dX11_group_117 rfl (lv_at hl 4 rfl) ?_
              obtain ⟨h14, hf⟩ := ck_s hf
              refine g_iast hC hM 12 mE12 h14 mA12 dX11_group_118 (fun H locs hM => ?_)
              obtain ⟨S15, hf, hM⟩ := mnm hf hM
              refine lv_aload_n hx hb dX11_group_119 rfl (lv_at hl 2 rfl) ?_
              refine g_get hC hM inX11_group_X11 0 mE0 clX11 19 (by decide) tX11_group_5 TX11_19 mV0_19 dX11_group_120 ?_
              refine lv_iload_n hx hb dX11_group_123 rfl (lv_at hl 3 rfl) ?_
              refine lv_iload hx hb dX11_group_124 (lv_at hl 5 rfl) ?_
              refine lv_iload_n hx hb dX11_group_126 rfl (lv_at hl 3 rfl) ?_
              refine lv_iconst (v := (-1)) hx hb dX11_group_127 (by decide) ?_
              refine lv_ixor hx hb dX11_group_128 ?_
              refine lv_iand hx hb dX11_group_129 ?_
              obtain ⟨h16, hf⟩ := ck_s hf
              refine g_iast hC hM 13 mE13 h16 mA13 dX11_group_130 (fun H locs hM => ?_)
              obtain ⟨S17, hf, hM⟩ := mnm hf hM
              exact hk131 _ _ hf _ _ _ hM (lv_sub hl [2, 3, 0, 4] rfl)
            · replace hf := it_f c13 hf
              refine lv_goto (tgt := 131) hx hb dX11_group_106 (by decide) ?_
              exact hk131 _ _ hf _ _ _ hM (lv_sub hl [1, 2, 3, 4] rfl)
          · replace hf := it_f c9 hf
            refine lv_goto (tgt := 131) hx hb dX11_group_81 (by decide) ?_
            exact hk131 _ _ hf _ _ _ hM (lv_sub hl [0, 1, 2, 3] rfl)
      · intro k72 hk72 hf
        refine jl_W (fun k26 : Int32 → Int32 → Option (St) => ∀ (v18 : Int32) (v19 : Int32), k26 v18 v19 = some Sz → ∀ (H : Heap) (locs : List Loc) (ls : Array Slot), gw D A s.heap H locs (mcells cs a S3) → lv_has ls 6 [(0, .ref (a 0)), (1, .int p0), (2, .int v1), (3, .int v2), (4, .int v18), (5, .int v19)] → W p l e rmX11_group s m args below meth c H locs 0 0 Q (F0 m 26 ls [])) ?_ ?_ ?_ hf
        · intro v18 v19 h; cases h
        · intro k26 hk26 v18 v19 hf H locs ls hM hl
          unfold b_X11_group_26 at hf
          refine lv_iload hx hb dX11_group_26 (lv_at hl 5 rfl) ?_
          refine lv_aload_n hx hb dX11_group_28 rfl (lv_at hl 0 rfl) ?_
          refine g_get hC hM inX11_group_X11 0 mE0 clX11 3 (by decide) tX11_group_1 TX11_3 mV0_3 dX11_group_29 ?_
          refine lv_aload_n hx hb dX11_group_32 rfl (lv_at hl 0 rfl) ?_
          refine g_get hC hM inX11_group_X11 0 mE0 clX11 4 (by decide) tX11_group_2 TX11_4 mV0_4 dX11_group_33 ?_
          refine lv_iadd hx hb dX11_group_36 ?_
          refine lv_icmp_ge (tgt := 72) hx hb dX11_group_37 (by decide) (fun c20 => ?_) (fun c20 => ?_)
          · replace hf := it_t c20 hf
            exact hk72 _ hf _ _ _ hM (lv_sub hl [0, 1, 2, 3, 4] rfl)
          · replace hf := it_f c20 hf
            refine lv_iload hx hb dX11_group_40 (lv_at hl 4 rfl) ?_
            refine lv_iload_n hx hb dX11_group_42 rfl (lv_at hl 3 rfl) ?_
            refine lv_iload hx hb dX11_group_43 (lv_at hl 5 rfl) ?_
            refine lv_ishr hx hb dX11_group_45 ?_
            refine lv_iconst (v := 1) hx hb dX11_group_46 (by decide) ?_
            refine lv_iand hx hb dX11_group_47 ?_
            refine lv_iconst (v := 1) hx hb dX11_group_48 (by decide) ?_
            refine jp_W (fun k63 : Int32 → Int32 → Option (St) => ∀ (v21 : Int32) (v22 : Int32), k63 v21 v22 = some Sz → ∀ (H : Heap) (locs : List Loc) (ls : Array Slot), gw D A s.heap H locs (mcells cs a S3) → lv_has ls 6 [(0, .ref (a 0)), (1, .int p0), (2, .int v1), (3, .int v2), (5, .int v19)] → W p l e rmX11_group s m args below meth c H locs 0 0 Q (F0 m 63 ls [.int v22, .int v21])) ?_ ?_ hf
            · intro v21 v22 hf H locs ls hM hl
              unfold j_X11_group_63 at hf
              refine lv_ior hx hb dX11_group_63 ?_
              refine lv_topi (fun v23 ev23 => ?_)
              replace hf := nm_q ev23 hf
              refine lv_istore (lv' := [(4, .int v23), (0, .ref (a 0)), (1, .int p0), (2, .int v1), (3, .int v2), (5, .int v19)]) hx hb dX11_group_64 hl (by decide) rfl (fun ls hl => ?_)
              obtain ⟨v24, ev24⟩ : ∃ y : Int32, y = v19 + 1 := ⟨_, rfl⟩
              replace hf := nm_q ev24 hf
              refine lv_iinc (v := v24) (lv' := [(5, .int v24), (4, .int v23), (0, .ref (a 0)), (1, .int p0), (2, .int v1), (3, .int v2)]) hx hb dX11_group_66 hl (k := 5) rfl (by rw [ev24]; rfl) (by decide) rfl (fun ls hl => ?_)
              refine lv_goto (tgt := 26) hx hb dX11_group_69 (by decide) ?_
              exact hk26 _ _ hf _ _ _ hM (lv_sub hl [2, 3, 4, 5, 1, 0] rfl)
            · intro k63 hk63 hf
              refine lv_icmp_ne (tgt := 62) hx hb dX11_group_49 (by decide) (fun c25 => ?_) (fun c25 => ?_)
              · replace hf := it_f c25 hf
                refine lv_iconst (v := 0) hx hb dX11_group_62 (by decide) ?_
                exact hk63 _ _ hf _ _ _ hM (lv_sub hl [0, 1, 2, 3, 5] rfl)
              · replace hf := it_t c25 hf
                refine lv_aload_n hx hb dX11_group_52 rfl (lv_at hl 0 rfl) ?_
                refine g_get hC hM inX11_group_X11 0 mE0 clX11 7 (by decide) tX11_group_3 TX11_7 mV0_7 dX11_group_53 ?_
                refine lv_iload hx hb dX11_group_56 (lv_at hl 5 rfl) ?_
                obtain ⟨h26, hf⟩ := ck_s hf
                refine g_iald hC hM 4 mE4 h26 dX11_group_58 ?_
                refine lv_goto (tgt := 63) hx hb dX11_group_59 (by decide) ?_
                exact hk63 _ _ hf _ _ _ hM (lv_sub hl [0, 1, 2, 3, 5] rfl)
        · intro k26 hk26 hf
          exact hk26 _ _ hf _ _ _ hM (lv_sub hl [2, 3, 4, 5, 1, 0] rfl)
  · intro k5 hk5 hf
    exact hk5 _ _ _ hf _ _ _ hM (lv_sub hl [2, 3, 1, 0] rfl)
