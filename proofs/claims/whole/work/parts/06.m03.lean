theorem hd_X11_rules : yX11_rules.cls = RX11 ∧ yX11_rules.cls ≠ "java/lang/invoke/MethodHandle" ∧ yX11_rules.cls ≠ "java/lang/invoke/VarHandle" ∧ (parseMethodDescriptor yX11_rules.desc).map (fun d => d.parameters.length) = some 1 := by decide +kernel
theorem tX11_rules_1 : Cond.fieldLink RX11 94 "WeatherTellerModel" "thrown" "I" ∈ wsX11_rules := List.mem_of_getElem? (i := 1) rfl
theorem inX11_rules_X11 : ∀ w ∈ u_ws RX11 TX11 50, w ∈ wsX11_rules := fun _ h => List.mem_cons_of_mem _ (List.mem_append_right _ h)
theorem tX11_rules_2 : Cond.fieldLink RX11 97 "WeatherTellerModel" "tapeSize" "I" ∈ wsX11_rules := List.mem_of_getElem? (i := 2) rfl
theorem tX11_rules_3 : Cond.fieldLink RX11 103 "WeatherTellerModel" "size" "I" ∈ wsX11_rules := List.mem_of_getElem? (i := 3) rfl
theorem tX11_rules_4 : Cond.fieldLink RX11 100 "WeatherTellerModel" "fault" "I" ∈ wsX11_rules := List.mem_of_getElem? (i := 4) rfl
theorem tX11_rules_5 : Cond.fieldLink RX11 44 "WeatherTellerModel" "faultPlace" "I" ∈ wsX11_rules := List.mem_of_getElem? (i := 5) rfl
theorem tX11_rules_6 : Cond.fieldLink RX11 143 "WeatherTellerModel" "rPlaces" "I" ∈ wsX11_rules := List.mem_of_getElem? (i := 6) rfl
theorem tX11_rules_7 : Cond.fieldLink RX11 146 "WeatherTellerModel" "rRegions" "I" ∈ wsX11_rules := List.mem_of_getElem? (i := 7) rfl
theorem tX11_rules_8 : Cond.fieldLink RX11 162 "WeatherTellerModel" "rBands" "I" ∈ wsX11_rules := List.mem_of_getElem? (i := 8) rfl
theorem tX11_rules_9 : Cond.fieldLink RX11 106 "WeatherTellerModel" "next" "I" ∈ wsX11_rules := List.mem_of_getElem? (i := 9) rfl
theorem tX11_rules_11 : Cond.fieldLink RX11 180 "WeatherTellerModel" "places" "I" ∈ wsX11_rules := List.mem_of_getElem? (i := 11) rfl
theorem tX11_rules_12 : Cond.fieldLink RX11 183 "WeatherTellerModel" "regions" "I" ∈ wsX11_rules := List.mem_of_getElem? (i := 12) rfl
theorem tX11_rules_13 : Cond.fieldLink RX11 186 "WeatherTellerModel" "bands" "I" ∈ wsX11_rules := List.mem_of_getElem? (i := 13) rfl
theorem tX11_rules_25 : Cond.fieldLink RX11 193 "WeatherTellerModel" "toldMany" "I" ∈ wsX11_rules := List.mem_of_getElem? (i := 25) rfl
theorem tX11_rules_26 : Cond.fieldLink RX11 196 "WeatherTellerModel" "isText" "Z" ∈ wsX11_rules := List.mem_of_getElem? (i := 26) rfl
theorem tX11_rules_27 : Cond.fieldLink RX11 200 "WeatherTellerModel" "toldWeight" "I" ∈ wsX11_rules := List.mem_of_getElem? (i := 27) rfl
theorem tX11_rules_24 : Cond.fieldLink RX11 54 "WeatherTellerModel" "table" "[I" ∈ wsX11_rules := List.mem_of_getElem? (i := 24) rfl
theorem tX11_rules_17 : Cond.fieldLink RX11 22 "WeatherTellerModel" "bQuantity" "[I" ∈ wsX11_rules := List.mem_of_getElem? (i := 17) rfl
theorem tX11_rules_18 : Cond.fieldLink RX11 25 "WeatherTellerModel" "bLow" "[I" ∈ wsX11_rules := List.mem_of_getElem? (i := 18) rfl
theorem tX11_rules_19 : Cond.fieldLink RX11 28 "WeatherTellerModel" "bHigh" "[I" ∈ wsX11_rules := List.mem_of_getElem? (i := 19) rfl
theorem tX11_rules_20 : Cond.fieldLink RX11 31 "WeatherTellerModel" "bGrade" "[I" ∈ wsX11_rules := List.mem_of_getElem? (i := 20) rfl
theorem tX11_rules_21 : Cond.fieldLink RX11 34 "WeatherTellerModel" "bWarn" "[Z" ∈ wsX11_rules := List.mem_of_getElem? (i := 21) rfl
theorem tX11_rules_22 : Cond.fieldLink RX11 41 "WeatherTellerModel" "bSize" "[I" ∈ wsX11_rules := List.mem_of_getElem? (i := 22) rfl
theorem tX11_rules_23 : Cond.fieldLink RX11 38 "WeatherTellerModel" "bLetters" "[I" ∈ wsX11_rules := List.mem_of_getElem? (i := 23) rfl
theorem tX11_rules_14 : Cond.fieldLink RX11 16 "WeatherTellerModel" "sizes" "[I" ∈ wsX11_rules := List.mem_of_getElem? (i := 14) rfl
theorem tX11_rules_15 : Cond.fieldLink RX11 19 "WeatherTellerModel" "members" "[I" ∈ wsX11_rules := List.mem_of_getElem? (i := 15) rfl
theorem tX11_rules_16 : Cond.fieldLink RX11 13 "WeatherTellerModel" "letters" "[I" ∈ wsX11_rules := List.mem_of_getElem? (i := 16) rfl
theorem tX11_rules_10 : Cond.fieldLink RX11 112 "WeatherTellerModel" "kind" "I" ∈ wsX11_rules := List.mem_of_getElem? (i := 10) rfl
def j_X11_rules_406 (S20 : St) : Option (Int32 × St) :=
  nm (puI S20 0 38 0) fun S21 =>
  nm (puI S21 0 37 0) fun S22 =>
  nm (puI S22 0 39 0) fun S23 =>
  some ((S23.1 0 8), S23)
def b_X11_rules_385 (k406 : St → Option (Int32 × St)) (k385 : Int32 → St → Option (Int32 × St)) (v24 : Int32) (S25 : St) : Option (Int32 × St) :=
  if 864 ≤ v24 then
    k406 S25
  else
    ck v24 864 <|
    nm (puI S25 14 v24.toNatClampNeg (-100)) fun S28 =>
    nm (v24 + 1) fun v29 =>
    k385 v29 S28
def j_X11_rules_383 (N : Nat) (S19 : St) : Option (Int32 × St) :=
  jp (j_X11_rules_406) fun k406 =>
  jp (lp (fun _ _ => none) (b_X11_rules_385 k406) N) fun k385 =>
  k385 0 S19
def b_X11_rules_362 (N : Nat) (k383 : St → Option (Int32 × St)) (k362 : Int32 → St → Option (Int32 × St)) (v30 : Int32) (S31 : St) : Option (Int32 × St) :=
  if (1 <<< ((S31.1 0 3) &&& 31)) ≤ v30 then
    k383 S31
  else
    bd (f_X11_group N v30 S31) fun S33 =>
    nm (v30 + 1) fun v34 =>
    k362 v34 S33
def j_X11_rules_360 (N : Nat) (S18 : St) : Option (Int32 × St) :=
  jp (j_X11_rules_383 N) fun k383 =>
  jp (lp (fun _ _ => none) (b_X11_rules_362 N k383) N) fun k362 =>
  k362 1 S18
def j_X11_rules_354 (v35 : Int32) (k216 : Int32 → St → Option (Int32 × St)) (S56 : St) : Option (Int32 × St) :=
  nm (v35 + 1) fun v57 =>
  k216 v57 S56
def b_X11_rules_316 (v35 : Int32) (k354 : St → Option (Int32 × St)) (k316 : Int32 → St → Option (Int32 × St)) (v58 : Int32) (S59 : St) : Option (Int32 × St) :=
  if 12 ≤ v58 then
    k354 S59
  else
    ck ((288 + (12 * v35)) + v58) 576 <|
    ck ((12 * v35) + v58) 576 <|
    nm (puI S59 10 ((12 * v35) + v58).toNatClampNeg (S59.1 10 ((288 + (12 * v35)) + v58).toNatClampNeg)) fun S63 =>
    nm (v58 + 1) fun v64 =>
    k316 v64 S63
def b_X11_rules_216 (N : Nat) (k360 : St → Option (Int32 × St)) (k216 : Int32 → St → Option (Int32 × St)) (v35 : Int32) (S36 : St) : Option (Int32 × St) :=
  if (S36.1 0 8) ≤ v35 then
    k360 S36
  else
    ck (24 + v35) 48 <|
    ck v35 48 <|
    nm (puI S36 5 v35.toNatClampNeg (S36.1 5 (24 + v35).toNatClampNeg)) fun S40 =>
    ck (24 + v35) 48 <|
    ck v35 48 <|
    nm (puI S40 6 v35.toNatClampNeg (S40.1 6 (24 + v35).toNatClampNeg)) fun S43 =>
    ck (24 + v35) 48 <|
    ck v35 48 <|
    nm (puI S43 7 v35.toNatClampNeg (S43.1 7 (24 + v35).toNatClampNeg)) fun S46 =>
    ck (24 + v35) 48 <|
    ck v35 48 <|
    nm (puI S46 8 v35.toNatClampNeg (S46.1 8 (24 + v35).toNatClampNeg)) fun S49 =>
    ck (24 + v35) 48 <|
    ck v35 48 <|
    nm (puI S49 9 v35.toNatClampNeg (vp_nar .boolean (S49.1 9 (24 + v35).toNatClampNeg))) fun S52 =>
    ck (24 + v35) 48 <|
    ck v35 48 <|
    nm (puI S52 11 v35.toNatClampNeg (S52.1 11 (24 + v35).toNatClampNeg)) fun S55 =>
    jp (j_X11_rules_354 v35 k216) fun k354 =>
    jp (lp (fun _ _ => none) (b_X11_rules_316 v35 k354) N) fun k316 =>
    k316 0 S55
def j_X11_rules_214 (N : Nat) (S17 : St) : Option (Int32 × St) :=
  jp (j_X11_rules_360 N) fun k360 =>
  jp (lp (fun _ _ => none) (b_X11_rules_216 N k360) N) fun k216 =>
  k216 0 S17
def j_X11_rules_208 (v65 : Int32) (k106 : Int32 → St → Option (Int32 × St)) (S75 : St) : Option (Int32 × St) :=
  nm (v65 + 1) fun v76 =>
  k106 v76 S75
def b_X11_rules_171 (v65 : Int32) (v68 : Int32) (k208 : St → Option (Int32 × St)) (k171 : Int32 → St → Option (Int32 × St)) (v77 : Int32) (S78 : St) : Option (Int32 × St) :=
  if 12 ≤ v77 then
    k208 S78
  else
    ck ((12 * v68) + v77) 288 <|
    ck ((12 * v65) + v77) 288 <|
    nm (puI S78 2 ((12 * v65) + v77).toNatClampNeg (S78.1 2 ((12 * v68) + v77).toNatClampNeg)) fun S82 =>
    nm (v77 + 1) fun v83 =>
    k171 v83 S82
def j_X11_rules_143 (N : Nat) (v65 : Int32) (S66 : St) (k106 : Int32 → St → Option (Int32 × St)) (v68 : Int32) : Option (Int32 × St) :=
  ck v68 24 <|
  ck v65 24 <|
  nm (puI S66 3 v65.toNatClampNeg (S66.1 3 v68.toNatClampNeg)) fun S71 =>
  ck v68 24 <|
  ck v65 24 <|
  nm (puI S71 4 v65.toNatClampNeg (S71.1 4 v68.toNatClampNeg)) fun S74 =>
  jp (j_X11_rules_208 v65 k106) fun k208 =>
  jp (lp (fun _ _ => none) (b_X11_rules_171 v65 v68 k208) N) fun k171 =>
  k171 0 S74
def b_X11_rules_106 (N : Nat) (k214 : St → Option (Int32 × St)) (k106 : Int32 → St → Option (Int32 × St)) (v65 : Int32) (S66 : St) : Option (Int32 × St) :=
  if ((S66.1 0 3) + (S66.1 0 4)) ≤ v65 then
    k214 S66
  else
    jp (j_X11_rules_143 N v65 S66 k106) fun k143 =>
    if (S66.1 0 3) ≤ v65 then
      k143 ((18 + v65) - (S66.1 0 3))
    else
      k143 (12 + v65)
def j_X11_rules_80 (N : Nat) (S13 : St) : Option (Int32 × St) :=
  nm (puI S13 0 3 (S13.1 0 29)) fun S14 =>
  nm (puI S14 0 4 (S14.1 0 30)) fun S15 =>
  nm (puI S15 0 8 (S15.1 0 31)) fun S16 =>
  jp (j_X11_rules_214 N) fun k214 =>
  jp (lp (fun _ _ => none) (b_X11_rules_106 N k214) N) fun k106 =>
  k106 0 S16
def b_X11_rules_64 (N : Nat) (k80 : St → Option (Int32 × St)) (k64 : St → Option (Int32 × St)) (S85 : St) : Option (Int32 × St) :=
  if (S85.1 0 24) = 0 then
    k80 S85
  else
    bd2 (f_X11_line N S85) fun v87 S88 =>
    if v87 = 0 then
      some ((-1), S88)
    else
      k64 S88
def f_X11_rules (N : Nat) (p0 : Int32) (S : St) : Option (Int32 × St) :=
  nm (puI S 0 2 0) fun S1 =>
  if p0 < 0 then
    some ((-2), S1)
  else
    if p0 ≤ (S1.1 0 1) then
      nm (puI S1 0 22 p0) fun S4 =>
      nm (puI S4 0 1 0) fun S5 =>
      nm (puI S5 0 16 0) fun S6 =>
      nm (puI S6 0 17 (-1)) fun S7 =>
      nm (puI S7 0 29 0) fun S8 =>
      nm (puI S8 0 30 0) fun S9 =>
      nm (puI S9 0 31 0) fun S10 =>
      nm (puI S10 0 23 0) fun S11 =>
      bd (f_X11_take N S11) fun S12 =>
      jp (j_X11_rules_80 N) fun k80 =>
      jp (lp (fun _ => none) (b_X11_rules_64 N k80) N) fun k64 =>
      k64 S12
    else
      some ((-2), S1)
abbrev rmX11_rules : Room := { frames := 5, cells := 0, slots := 0, locals := 115 }
set_option maxRecDepth 100000 in
set_option maxHeartbeats 4000000 in
theorem c_X11_rules (l : Launch) (D : va_G) (cs : Nat → ClassId) (a : Nat → Nat) (N : Nat) (p0 : Int32) (S : St) (rz : Int32) (Sz : St) (hf : f_X11_rules N p0 S = some (rz, Sz)) : gMi l yX11_rules wsX11_rules rmX11_rules D cs [.ref (a 0), .int p0] (mcells cs a S) rz (mcells cs a Sz) := by
  unfold f_X11_rules at hf
  refine gE_i (cc := cX11_rules) (maxL := 5) (by decide) rfl (Nat.le_of_ble_eq_true rfl) ?_
  intro p e s m args below meth c A Q hC hA hQ hM ls hl
  obtain ⟨hx, hb, hml, hown, hts⟩ := hC.1
  have hl : lv_has ls 5 [(0, .ref (a 0)), (1, .int p0)] := hl
  refine lv_aload_n hx hb dX11_rules_0 rfl (lv_at hl 0 rfl) ?_
  refine lv_iconst (v := 0) hx hb dX11_rules_1 (by decide) ?_
  refine g_put hC hM inX11_rules_X11 tyX11_ok nmX11 0 mE0 clX11 2 (by decide) tX11_rules_1 TX11_2 tyX11_2 rfl rfl (by rw [mL0]; decide) mP0_2 dX11_rules_2 (fun H locs hM => ?_)
  obtain ⟨S1, hf, hM⟩ := mnm hf hM
  refine lv_iload_n hx hb dX11_rules_5 rfl (lv_at hl 1 rfl) ?_
  refine lv_if_lt (tgt := 17) hx hb dX11_rules_6 (by decide) (fun c2 => ?_) (fun c2 => ?_)
  · replace hf := it_t c2 hf
    refine lv_bipush (v := (-2)) hx hb dX11_rules_17 (by decide) ?_
    obtain ⟨e1, e2⟩ := so_2 hf
    cases e1; cases e2
    exact hQ _ _ _ _ _ _ dX11_rules_19 hM (by decide) (by decide)
  · replace hf := it_f c2 hf
    refine lv_iload_n hx hb dX11_rules_9 rfl (lv_at hl 1 rfl) ?_
    refine lv_aload_n hx hb dX11_rules_10 rfl (lv_at hl 0 rfl) ?_
    refine g_get hC hM inX11_rules_X11 0 mE0 clX11 1 (by decide) tX11_rules_2 TX11_1 mV0_1 dX11_rules_11 ?_
    refine lv_icmp_le (tgt := 20) hx hb dX11_rules_14 (by decide) (fun c3 => ?_) (fun c3 => ?_)
    · replace hf := it_t c3 hf
      refine lv_aload_n hx hb dX11_rules_20 rfl (lv_at hl 0 rfl) ?_
      refine lv_iload_n hx hb dX11_rules_21 rfl (lv_at hl 1 rfl) ?_
      refine g_put hC hM inX11_rules_X11 tyX11_ok nmX11 0 mE0 clX11 22 (by decide) tX11_rules_3 TX11_22 tyX11_22 rfl rfl (by rw [mL0]; decide) mP0_22 dX11_rules_22 (fun H locs hM => ?_)
      obtain ⟨S4, hf, hM⟩ := mnm hf hM
      refine lv_aload_n hx hb dX11_rules_25 rfl (lv_at hl 0 rfl) ?_
      refine lv_iconst (v := 0) hx hb dX11_rules_26 (by decide) ?_
      refine g_put hC hM inX11_rules_X11 tyX11_ok nmX11 0 mE0 clX11 1 (by decide) tX11_rules_2 TX11_1 tyX11_1 rfl rfl (by rw [mL0]; decide) mP0_1 dX11_rules_27 (fun H locs hM => ?_)
      obtain ⟨S5, hf, hM⟩ := mnm hf hM
      refine lv_aload_n hx hb dX11_rules_30 rfl (lv_at hl 0 rfl) ?_
      refine lv_iconst (v := 0) hx hb dX11_rules_31 (by decide) ?_
      refine g_put hC hM inX11_rules_X11 tyX11_ok nmX11 0 mE0 clX11 16 (by decide) tX11_rules_4 TX11_16 tyX11_16 rfl rfl (by rw [mL0]; decide) mP0_16 dX11_rules_32 (fun H locs hM => ?_)
      obtain ⟨S6, hf, hM⟩ := mnm hf hM
      refine lv_aload_n hx hb dX11_rules_35 rfl (lv_at hl 0 rfl) ?_
      refine lv_iconst (v := (-1)) hx hb dX11_rules_36 (by decide) ?_
      refine g_put hC hM inX11_rules_X11 tyX11_ok nmX11 0 mE0 clX11 17 (by decide) tX11_rules_5 TX11_17 tyX11_17 rfl rfl (by rw [mL0]; decide) mP0_17 dX11_rules_37 (fun H locs hM => ?_)
      obtain ⟨S7, hf, hM⟩ := mnm hf hM
      refine lv_aload_n hx hb dX11_rules_40 rfl (lv_at hl 0 rfl) ?_
      refine lv_iconst (v := 0) hx hb dX11_rules_41 (by decide) ?_
      refine g_put hC hM inX11_rules_X11 tyX11_ok nmX11 0 mE0 clX11 29 (by decide) tX11_rules_6 TX11_29 tyX11_29 rfl rfl (by rw [mL0]; decide) mP0_29 dX11_rules_42 (fun H locs hM => ?_)
      obtain ⟨S8, hf, hM⟩ := mnm hf hM
      refine lv_aload_n hx hb dX11_rules_45 rfl (lv_at hl 0 rfl) ?_
      refine lv_iconst (v := 0) hx hb dX11_rules_46 (by decide) ?_
      refine g_put hC hM inX11_rules_X11 tyX11_ok nmX11 0 mE0 clX11 30 (by decide) tX11_rules_7 TX11_30 tyX11_30 rfl rfl (by rw [mL0]; decide) mP0_30 dX11_rules_47 (fun H locs hM => ?_)
      obtain ⟨S9, hf, hM⟩ := mnm hf hM
      refine lv_aload_n hx hb dX11_rules_50 rfl (lv_at hl 0 rfl) ?_
      refine lv_iconst (v := 0) hx hb dX11_rules_51 (by decide) ?_
      refine g_put hC hM inX11_rules_X11 tyX11_ok nmX11 0 mE0 clX11 31 (by decide) tX11_rules_8 TX11_31 tyX11_31 rfl rfl (by rw [mL0]; decide) mP0_31 dX11_rules_52 (fun H locs hM => ?_)
      obtain ⟨S10, hf, hM⟩ := mnm hf hM
      refine lv_aload_n hx hb dX11_rules_55 rfl (lv_at hl 0 rfl) ?_
      refine lv_iconst (v := 0) hx hb dX11_rules_56 (by decide) ?_
      refine g_put hC hM inX11_rules_X11 tyX11_ok nmX11 0 mE0 clX11 23 (by decide) tX11_rules_9 TX11_23 tyX11_23 rfl rfl (by rw [mL0]; decide) mP0_23 dX11_rules_57 (fun H locs hM => ?_)
      obtain ⟨S11, hf, hM⟩ := mnm hf hM
      refine lv_aload_n hx hb dX11_rules_60 rfl (lv_at hl 0 rfl) ?_
      obtain ⟨S12, hc, hf⟩ := bd_s hf
      refine gV_v hC hM hA hl.1 [] [] (c_X11_take l D cs a N S11 S12 hc) gX11_rules_X11_take rfl hd_X11_take ⟨by decide, by decide⟩ 0 11 clX11 rfl mE0 (Nat.le_of_ble_eq_true rfl) dX11_rules_61 rfl ⟨by decide, by decide⟩ (fun H locs hM => ?_)
      refine jp_W (fun k80 : St → Option (Int32 × St) => ∀ (S13 : St), k80 S13 = some (rz, Sz) → ∀ (H : Heap) (locs : List Loc) (ls : Array Slot), gw D A s.heap H locs (mcells cs a S13) → lv_has ls 5 [(0, .ref (a 0))] → W p l e rmX11_rules s m args below meth c H locs 0 0 Q (F0 m 80 ls [])) ?_ ?_ hf
      · intro S13 hf H locs ls hM hl
        unfold j_X11_rules_80 at hf
        refine lv_aload_n hx hb dX11_rules_80 rfl (lv_at hl 0 rfl) ?_
        refine lv_aload_n hx hb dX11_rules_81 rfl (lv_at hl 0 rfl) ?_
        refine g_get hC hM inX11_rules_X11 0 mE0 clX11 29 (by decide) tX11_rules_6 TX11_29 mV0_29 dX11_rules_82 ?_
        refine g_put hC hM inX11_rules_X11 tyX11_ok nmX11 0 mE0 clX11 3 (by decide) tX11_rules_11 TX11_3 tyX11_3 rfl rfl (by rw [mL0]; decide) mP0_3 dX11_rules_85 (fun H locs hM => ?_)
        obtain ⟨S14, hf, hM⟩ := mnm hf hM
        refine lv_aload_n hx hb dX11_rules_88 rfl (lv_at hl 0 rfl) ?_
        refine lv_aload_n hx hb dX11_rules_89 rfl (lv_at hl 0 rfl) ?_
        refine g_get hC hM inX11_rules_X11 0 mE0 clX11 30 (by decide) tX11_rules_7 TX11_30 mV0_30 dX11_rules_90 ?_
        refine g_put hC hM inX11_rules_X11 tyX11_ok nmX11 0 mE0 clX11 4 (by decide) tX11_rules_12 TX11_4 tyX11_4 rfl rfl (by rw [mL0]; decide) mP0_4 dX11_rules_93 (fun H locs hM => ?_)
        obtain ⟨S15, hf, hM⟩ := mnm hf hM
        refine lv_aload_n hx hb dX11_rules_96 rfl (lv_at hl 0 rfl) ?_
        refine lv_aload_n hx hb dX11_rules_97 rfl (lv_at hl 0 rfl) ?_
        refine g_get hC hM inX11_rules_X11 0 mE0 clX11 31 (by decide) tX11_rules_8 TX11_31 mV0_31 dX11_rules_98 ?_
        refine g_put hC hM inX11_rules_X11 tyX11_ok nmX11 0 mE0 clX11 8 (by decide) tX11_rules_13 TX11_8 tyX11_8 rfl rfl (by rw [mL0]; decide) mP0_8 dX11_rules_101 (fun H locs hM => ?_)
        obtain ⟨S16, hf, hM⟩ := mnm hf hM
        refine lv_iconst (v := 0) hx hb dX11_rules_104 (by decide) ?_
        refine lv_istore_n (lv' := [(2, .int 0), (0, .ref (a 0))]) hx hb dX11_rules_105 rfl hl (by decide) rfl (fun ls hl => ?_)
        refine jp_W (fun k214 : St → Option (Int32 × St) => ∀ (S17 : St), k214 S17 = some (rz, Sz) → ∀ (H : Heap) (locs : List Loc) (ls : Array Slot), gw D A s.heap H locs (mcells cs a S17) → lv_has ls 5 [(0, .ref (a 0))] → W p l e rmX11_rules s m args below meth c H locs 0 0 Q (F0 m 214 ls [])) ?_ ?_ hf
        · intro S17 hf H locs ls hM hl
          unfold j_X11_rules_214 at hf
          refine lv_iconst (v := 0) hx hb dX11_rules_214 (by decide) ?_
          refine lv_istore_n (lv' := [(2, .int 0), (0, .ref (a 0))]) hx hb dX11_rules_215 rfl hl (by decide) rfl (fun ls hl => ?_)
          refine jp_W (fun k360 : St → Option (Int32 × St) => ∀ (S18 : St), k360 S18 = some (rz, Sz) → ∀ (H : Heap) (locs : List Loc) (ls : Array Slot), gw D A s.heap H locs (mcells cs a S18) → lv_has ls 5 [(0, .ref (a 0))] → W p l e rmX11_rules s m args below meth c H locs 0 0 Q (F0 m 360 ls [])) ?_ ?_ hf
          · intro S18 hf H locs ls hM hl
            unfold j_X11_rules_360 at hf
            refine lv_iconst (v := 1) hx hb dX11_rules_360 (by decide) ?_
            refine lv_istore_n (lv' := [(2, .int 1), (0, .ref (a 0))]) hx hb dX11_rules_361 rfl hl (by decide) rfl (fun ls hl => ?_)
            refine jp_W (fun k383 : St → Option (Int32 × St) => ∀ (S19 : St), k383 S19 = some (rz, Sz) → ∀ (H : Heap) (locs : List Loc) (ls : Array Slot), gw D A s.heap H locs (mcells cs a S19) → lv_has ls 5 [(0, .ref (a 0))] → W p l e rmX11_rules s m args below meth c H locs 0 0 Q (F0 m 383 ls [])) ?_ ?_ hf
            · intro S19 hf H locs ls hM hl
              unfold j_X11_rules_383 at hf
              refine lv_iconst (v := 0) hx hb dX11_rules_383 (by decide) ?_
              refine lv_istore_n (lv' := [(2, .int 0), (0, .ref (a 0))]) hx hb dX11_rules_384 rfl hl (by decide) rfl (fun ls hl => ?_)
              refine jp_W (fun k406 : St → Option (Int32 × St) => ∀ (S20 : St), k406 S20 = some (rz, Sz) → ∀ (H : Heap) (locs : List Loc) (ls : Array Slot), gw D A s.heap H locs (mcells cs a S20) → lv_has ls 5 [(0, .ref (a 0))] → W p l e rmX11_rules s m args below meth c H locs 0 0 Q (F0 m 406 ls [])) ?_ ?_ hf
              · intro S20 hf H locs ls hM hl
                unfold j_X11_rules_406 at hf
                refine lv_aload_n hx hb dX11_rules_406 rfl (lv_at hl 0 rfl) ?_
                refine lv_iconst (v := 0) hx hb dX11_rules_407 (by decide) ?_
                refine g_put hC hM inX11_rules_X11 tyX11_ok nmX11 0 mE0 clX11 38 (by decide) tX11_rules_25 TX11_38 tyX11_38 rfl rfl (by rw [mL0]; decide) mP0_38 dX11_rules_408 (fun H locs hM => ?_)
                obtain ⟨S21, hf, hM⟩ := mnm hf hM
                refine lv_aload_n hx hb dX11_rules_411 rfl (lv_at hl 0 rfl) ?_
                refine lv_iconst (v := 0) hx hb dX11_rules_412 (by decide) ?_
                refine g_put hC hM inX11_rules_X11 tyX11_ok nmX11 0 mE0 clX11 37 (by decide) tX11_rules_26 TX11_37 tyX11_37 rfl rfl (by rw [mL0]; decide) mP0_37 dX11_rules_413 (fun H locs hM => ?_)
                obtain ⟨S22, hf, hM⟩ := mnm hf hM
                refine lv_aload_n hx hb dX11_rules_416 rfl (lv_at hl 0 rfl) ?_
                refine lv_iconst (v := 0) hx hb dX11_rules_417 (by decide) ?_
                refine g_put hC hM inX11_rules_X11 tyX11_ok nmX11 0 mE0 clX11 39 (by decide) tX11_rules_27 TX11_39 tyX11_39 rfl rfl (by rw [mL0]; decide) mP0_39 dX11_rules_418 (fun H locs hM => ?_)
                obtain ⟨S23, hf, hM⟩ := mnm hf hM
                refine lv_aload_n hx hb dX11_rules_421 rfl (lv_at hl 0 rfl) ?_
                refine g_get hC hM inX11_rules_X11 0 mE0 clX11 8 (by decide) tX11_rules_13 TX11_8 mV0_8 dX11_rules_422 ?_
                obtain ⟨e1, e2⟩ := so_2 hf
                cases e1; cases e2
                exact hQ _ _ _ _ _ _ dX11_rules_425 hM (by decide) (by decide)
              · intro k406 hk406 hf
                refine jl_W (fun k385 : Int32 → St → Option (Int32 × St) => ∀ (v24 : Int32) (S25 : St), k385 v24 S25 = some (rz, Sz) → ∀ (H : Heap) (locs : List Loc) (ls : Array Slot), gw D A s.heap H locs (mcells cs a S25) → lv_has ls 5 [(0, .ref (a 0)), (2, .int v24)] → W p l e rmX11_rules s m args below meth c H locs 0 0 Q (F0 m 385 ls [])) ?_ ?_ ?_ hf
                · intro v24 S25 h; cases h
                · intro k385 hk385 v24 S25 hf H locs ls hM hl
                  unfold b_X11_rules_385 at hf
                  refine lv_iload_n hx hb dX11_rules_385 rfl (lv_at hl 1 rfl) ?_
                  refine lv_sipush (v := 864) hx hb dX11_rules_386 (by decide) ?_
                  refine lv_icmp_ge (tgt := 406) hx hb dX11_rules_389 (by decide) (fun c26 => ?_) (fun c26 => ?_)
                  · replace hf := it_t c26 hf
                    exact hk406 _ hf _ _ _ hM (lv_sub hl [0] rfl)
                  · replace hf := it_f c26 hf
                    refine lv_aload_n hx hb dX11_rules_392 rfl (lv_at hl 0 rfl) ?_
                    refine g_get hC hM inX11_rules_X11 0 mE0 clX11 20 (by decide) tX11_rules_24 TX11_20 mV0_20 dX11_rules_393 ?_
                    refine lv_iload_n hx hb dX11_rules_396 rfl (lv_at hl 1 rfl) ?_
                    refine lv_bipush (v := (-100)) hx hb dX11_rules_397 (by decide) ?_
                    obtain ⟨h27, hf⟩ := ck_s hf
                    refine g_iast hC hM 14 mE14 h27 mA14 dX11_rules_399 (fun H locs hM => ?_)
                    obtain ⟨S28, hf, hM⟩ := mnm hf hM
                    obtain ⟨v29, ev29⟩ : ∃ y : Int32, y = v24 + 1 := ⟨_, rfl⟩
                    replace hf := nm_q ev29 hf
                    refine lv_iinc (v := v29) (lv' := [(2, .int v29), (0, .ref (a 0))]) hx hb dX11_rules_400 hl (k := 1) rfl (by rw [ev29]; rfl) (by decide) rfl (fun ls hl => ?_)
                    refine lv_goto (tgt := 385) hx hb dX11_rules_403 (by decide) ?_
                    exact hk385 _ _ hf _ _ _ hM (lv_sub hl [1, 0] rfl)
                · intro k385 hk385 hf
                  exact hk385 _ _ hf _ _ _ hM (lv_sub hl [1, 0] rfl)
            · intro k383 hk383 hf
              refine jl_W (fun k362 : Int32 → St → Option (Int32 × St) => ∀ (v30 : Int32) (S31 : St), k362 v30 S31 = some (rz, Sz) → ∀ (H : Heap) (locs : List Loc) (ls : Array Slot), gw D A s.heap H locs (mcells cs a S31) → lv_has ls 5 [(0, .ref (a 0)), (2, .int v30)] → W p l e rmX11_rules s m args below meth c H locs 0 0 Q (F0 m 362 ls [])) ?_ ?_ ?_ hf
              · intro v30 S31 h; cases h
              · intro k362 hk362 v30 S31 hf H locs ls hM hl
                unfold b_X11_rules_362 at hf
                refine lv_iload_n hx hb dX11_rules_362 rfl (lv_at hl 1 rfl) ?_
                refine lv_iconst (v := 1) hx hb dX11_rules_363 (by decide) ?_
                refine lv_aload_n hx hb dX11_rules_364 rfl (lv_at hl 0 rfl) ?_
                refine g_get hC hM inX11_rules_X11 0 mE0 clX11 3 (by decide) tX11_rules_11 TX11_3 mV0_3 dX11_rules_365 ?_
                refine lv_ishl hx hb dX11_rules_368 ?_
                refine lv_icmp_ge (tgt := 383) hx hb dX11_rules_369 (by decide) (fun c32 => ?_) (fun c32 => ?_)
                · replace hf := it_t c32 hf
                  exact hk383 _ hf _ _ _ hM (lv_sub hl [0] rfl)
                · replace hf := it_f c32 hf
                  refine lv_aload_n hx hb dX11_rules_372 rfl (lv_at hl 0 rfl) ?_
                  refine lv_iload_n hx hb dX11_rules_373 rfl (lv_at hl 1 rfl) ?_
                  obtain ⟨S33, hc, hf⟩ := bd_s hf
                  refine gV_v hC hM hA hl.1 [.int v30] [] (c_X11_group l D cs a N v30 S31 S33 hc) gX11_rules_X11_group rfl hd_X11_group ⟨by decide, by decide⟩ 0 11 clX11 rfl mE0 (Nat.le_of_ble_eq_true rfl) dX11_rules_374 rfl ⟨by decide, by decide⟩ (fun H locs hM => ?_)
                  obtain ⟨v34, ev34⟩ : ∃ y : Int32, y = v30 + 1 := ⟨_, rfl⟩
                  replace hf := nm_q ev34 hf
                  refine lv_iinc (v := v34) (lv' := [(2, .int v34), (0, .ref (a 0))]) hx hb dX11_rules_377 hl (k := 1) rfl (by rw [ev34]; rfl) (by decide) rfl (fun ls hl => ?_)
                  refine lv_goto (tgt := 362) hx hb dX11_rules_380 (by decide) ?_
                  exact hk362 _ _ hf _ _ _ hM (lv_sub hl [1, 0] rfl)
              · intro k362 hk362 hf
                exact hk362 _ _ hf _ _ _ hM (lv_sub hl [1, 0] rfl)
          · intro k360 hk360 hf
            refine jl_W (fun k216 : Int32 → St → Option (Int32 × St) => ∀ (v35 : Int32) (S36 : St), k216 v35 S36 = some (rz, Sz) → ∀ (H : Heap) (locs : List Loc) (ls : Array Slot), gw D A s.heap H locs (mcells cs a S36) → lv_has ls 5 [(0, .ref (a 0)), (2, .int v35)] → W p l e rmX11_rules s m args below meth c H locs 0 0 Q (F0 m 216 ls [])) ?_ ?_ ?_ hf
            · intro v35 S36 h; cases h
            · intro k216 hk216 v35 S36 hf H locs ls hM hl
              unfold b_X11_rules_216 at hf
              refine lv_iload_n hx hb dX11_rules_216 rfl (lv_at hl 1 rfl) ?_
              refine lv_aload_n hx hb dX11_rules_217 rfl (lv_at hl 0 rfl) ?_
              refine g_get hC hM inX11_rules_X11 0 mE0 clX11 8 (by decide) tX11_rules_13 TX11_8 mV0_8 dX11_rules_218 ?_
              refine lv_icmp_ge (tgt := 360) hx hb dX11_rules_221 (by decide) (fun c37 => ?_) (fun c37 => ?_)
              · replace hf := it_t c37 hf
                exact hk360 _ hf _ _ _ hM (lv_sub hl [0] rfl)
              · replace hf := it_f c37 hf
                refine lv_aload_n hx hb dX11_rules_224 rfl (lv_at hl 0 rfl) ?_
                refine g_get hC hM inX11_rules_X11 0 mE0 clX11 9 (by decide) tX11_rules_17 TX11_9 mV0_9 dX11_rules_225 ?_
                refine lv_iload_n hx hb dX11_rules_228 rfl (lv_at hl 1 rfl) ?_
                refine lv_aload_n hx hb dX11_rules_229 rfl (lv_at hl 0 rfl) ?_
                refine g_get hC hM inX11_rules_X11 0 mE0 clX11 9 (by decide) tX11_rules_17 TX11_9 mV0_9 dX11_rules_230 ?_
                refine lv_bipush (v := 24) hx hb dX11_rules_233 (by decide) ?_
                refine lv_iload_n hx hb dX11_rules_235 rfl (lv_at hl 1 rfl) ?_
                refine lv_iadd hx hb dX11_rules_236 ?_
                obtain ⟨h38, hf⟩ := ck_s hf
                refine g_iald hC hM 5 mE5 h38 dX11_rules_237 ?_
                obtain ⟨h39, hf⟩ := ck_s hf
                refine g_iast hC hM 5 mE5 h39 mA5 dX11_rules_238 (fun H locs hM => ?_)
                obtain ⟨S40, hf, hM⟩ := mnm hf hM
                refine lv_aload_n hx hb dX11_rules_239 rfl (lv_at hl 0 rfl) ?_
                refine g_get hC hM inX11_rules_X11 0 mE0 clX11 10 (by decide) tX11_rules_18 TX11_10 mV0_10 dX11_rules_240 ?_
                refine lv_iload_n hx hb dX11_rules_243 rfl (lv_at hl 1 rfl) ?_
                refine lv_aload_n hx hb dX11_rules_244 rfl (lv_at hl 0 rfl) ?_
                refine g_get hC hM inX11_rules_X11 0 mE0 clX11 10 (by decide) tX11_rules_18 TX11_10 mV0_10 dX11_rules_245 ?_
                refine lv_bipush (v := 24) hx hb dX11_rules_248 (by decide) ?_
                refine lv_iload_n hx hb dX11_rules_250 rfl (lv_at hl 1 rfl) ?_
                refine lv_iadd hx hb dX11_rules_251 ?_
                obtain ⟨h41, hf⟩ := ck_s hf
                refine g_iald hC hM 6 mE6 h41 dX11_rules_252 ?_
                obtain ⟨h42, hf⟩ := ck_s hf
                refine g_iast hC hM 6 mE6 h42 mA6 dX11_rules_253 (fun H locs hM => ?_)
                obtain ⟨S43, hf, hM⟩ := mnm hf hM
                refine lv_aload_n hx hb dX11_rules_254 rfl (lv_at hl 0 rfl) ?_
                refine g_get hC hM inX11_rules_X11 0 mE0 clX11 11 (by decide) tX11_rules_19 TX11_11 mV0_11 dX11_rules_255 ?_
                refine lv_iload_n hx hb dX11_rules_258 rfl (lv_at hl 1 rfl) ?_
                refine lv_aload_n hx hb dX11_rules_259 rfl (lv_at hl 0 rfl) ?_
                refine g_get hC hM inX11_rules_X11 0 mE0 clX11 11 (by decide) tX11_rules_19 TX11_11 mV0_11 dX11_rules_260 ?_
                refine lv_bipush (v := 24) hx hb dX11_rules_263 (by decide) ?_
                refine lv_iload_n hx hb dX11_rules_265 rfl (lv_at hl 1 rfl) ?_
                refine lv_iadd hx hb dX11_rules_266 ?_
                obtain ⟨h44, hf⟩ := ck_s hf
                refine g_iald hC hM 7 mE7 h44 dX11_rules_267 ?_
                obtain ⟨h45, hf⟩ := ck_s hf
                refine g_iast hC hM 7 mE7 h45 mA7 dX11_rules_268 (fun H locs hM => ?_)
                obtain ⟨S46, hf, hM⟩ := mnm hf hM
                refine lv_aload_n hx hb dX11_rules_269 rfl (lv_at hl 0 rfl) ?_
                refine g_get hC hM inX11_rules_X11 0 mE0 clX11 12 (by decide) tX11_rules_20 TX11_12 mV0_12 dX11_rules_270 ?_
                refine lv_iload_n hx hb dX11_rules_273 rfl (lv_at hl 1 rfl) ?_
                refine lv_aload_n hx hb dX11_rules_274 rfl (lv_at hl 0 rfl) ?_
                refine g_get hC hM inX11_rules_X11 0 mE0 clX11 12 (by decide) tX11_rules_20 TX11_12 mV0_12 dX11_rules_275 ?_
                refine lv_bipush (v := 24) hx hb dX11_rules_278 (by decide) ?_
                refine lv_iload_n hx hb dX11_rules_280 rfl (lv_at hl 1 rfl) ?_
                refine lv_iadd hx hb dX11_rules_281 ?_
                obtain ⟨h47, hf⟩ := ck_s hf
                refine g_iald hC hM 8 mE8 h47 dX11_rules_282 ?_
                obtain ⟨h48, hf⟩ := ck_s hf
                refine g_iast hC hM 8 mE8 h48 mA8 dX11_rules_283 (fun H locs hM => ?_)
                obtain ⟨S49, hf, hM⟩ := mnm hf hM
                refine lv_aload_n hx hb dX11_rules_284 rfl (lv_at hl 0 rfl) ?_
                refine g_get hC hM inX11_rules_X11 0 mE0 clX11 13 (by decide) tX11_rules_21 TX11_13 mV0_13 dX11_rules_285 ?_
                refine lv_iload_n hx hb dX11_rules_288 rfl (lv_at hl 1 rfl) ?_
                refine lv_aload_n hx hb dX11_rules_289 rfl (lv_at hl 0 rfl) ?_
                refine g_get hC hM inX11_rules_X11 0 mE0 clX11 13 (by decide) tX11_rules_21 TX11_13 mV0_13 dX11_rules_290 ?_
                refine lv_bipush (v := 24) hx hb dX11_rules_293 (by decide) ?_
                refine lv_iload_n hx hb dX11_rules_295 rfl (lv_at hl 1 rfl) ?_
                refine lv_iadd hx hb dX11_rules_296 ?_
                obtain ⟨h50, hf⟩ := ck_s hf
                refine g_zald hC hM 9 mE9 h50 dX11_rules_297 ?_
                obtain ⟨h51, hf⟩ := ck_s hf
                refine g_zast hC hM 9 mE9 h51 mA9 dX11_rules_298 (fun H locs hM => ?_)
                obtain ⟨S52, hf, hM⟩ := mnm hf hM
                refine lv_aload_n hx hb dX11_rules_299 rfl (lv_at hl 0 rfl) ?_
                refine g_get hC hM inX11_rules_X11 0 mE0 clX11 15 (by decide) tX11_rules_22 TX11_15 mV0_15 dX11_rules_300 ?_
                refine lv_iload_n hx hb dX11_rules_303 rfl (lv_at hl 1 rfl) ?_
                refine lv_aload_n hx hb dX11_rules_304 rfl (lv_at hl 0 rfl) ?_
                refine g_get hC hM inX11_rules_X11 0 mE0 clX11 15 (by decide) tX11_rules_22 TX11_15 mV0_15 dX11_rules_305 ?_
                refine lv_bipush (v := 24) hx hb dX11_rules_308 (by decide) ?_
                refine lv_iload_n hx hb dX11_rules_310 rfl (lv_at hl 1 rfl) ?_
                refine lv_iadd hx hb dX11_rules_311 ?_
                obtain ⟨h53, hf⟩ := ck_s hf
                refine g_iald hC hM 11 mE11 h53 dX11_rules_312 ?_
                obtain ⟨h54, hf⟩ := ck_s hf
                refine g_iast hC hM 11 mE11 h54 mA11 dX11_rules_313 (fun H locs hM => ?_)
                obtain ⟨S55, hf, hM⟩ := mnm hf hM
                refine lv_iconst (v := 0) hx hb dX11_rules_314 (by decide) ?_
                refine lv_istore_n (lv' := [(3, .int 0), (0, .ref (a 0)), (2, .int v35)]) hx hb dX11_rules_315 rfl hl (by decide) rfl (fun ls hl => ?_)
                refine jp_W (fun k354 : St → Option (Int32 × St) => ∀ (S56 : St), k354 S56 = some (rz, Sz) → ∀ (H : Heap) (locs : List Loc) (ls : Array Slot), gw D A s.heap H locs (mcells cs a S56) → lv_has ls 5 [(0, .ref (a 0)), (2, .int v35)] → W p l e rmX11_rules s m args below meth c H locs 0 0 Q (F0 m 354 ls [])) ?_ ?_ hf
                · intro S56 hf H locs ls hM hl
                  unfold j_X11_rules_354 at hf
                  obtain ⟨v57, ev57⟩ : ∃ y : Int32, y = v35 + 1 := ⟨_, rfl⟩
                  replace hf := nm_q ev57 hf
                  refine lv_iinc (v := v57) (lv' := [(2, .int v57), (0, .ref (a 0))]) hx hb dX11_rules_354 hl (k := 1) rfl (by rw [ev57]; rfl) (by decide) rfl (fun ls hl => ?_)
                  refine lv_goto (tgt := 216) hx hb dX11_rules_357 (by decide) ?_
                  exact hk216 _ _ hf _ _ _ hM (lv_sub hl [1, 0] rfl)
                · intro k354 hk354 hf
                  refine jl_W (fun k316 : Int32 → St → Option (Int32 × St) => ∀ (v58 : Int32) (S59 : St), k316 v58 S59 = some (rz, Sz) → ∀ (H : Heap) (locs : List Loc) (ls : Array Slot), gw D A s.heap H locs (mcells cs a S59) → lv_has ls 5 [(0, .ref (a 0)), (2, .int v35), (3, .int v58)] → W p l e rmX11_rules s m args below meth c H locs 0 0 Q (F0 m 316 ls [])) ?_ ?_ ?_ hf
                  · intro v58 S59 h; cases h
                  · intro k316 hk316 v58 S59 hf H locs ls hM hl
                    unfold b_X11_rules_316 at hf
                    refine lv_iload_n hx hb dX11_rules_316 rfl (lv_at hl 2 rfl) ?_
                    refine lv_bipush (v := 12) hx hb dX11_rules_317 (by decide) ?_
                    refine lv_icmp_ge (tgt := 354) hx hb dX11_rules_319 (by decide) (fun c60 => ?_) (fun c60 => ?_)
                    · replace hf := it_t c60 hf
                      exact hk354 _ hf _ _ _ hM (lv_sub hl [0, 1] rfl)
                    · replace hf := it_f c60 hf
                      refine lv_aload_n hx hb dX11_rules_322 rfl (lv_at hl 0 rfl) ?_
                      refine g_get hC hM inX11_rules_X11 0 mE0 clX11 14 (by decide) tX11_rules_23 TX11_14 mV0_14 dX11_rules_323 ?_
                      refine lv_bipush (v := 12) hx hb dX11_rules_326 (by decide) ?_
                      refine lv_iload_n hx hb dX11_rules_328 rfl (lv_at hl 1 rfl) ?_
                      refine lv_imul hx hb dX11_rules_329 ?_
                      refine lv_iload_n hx hb dX11_rules_330 rfl (lv_at hl 2 rfl) ?_
                      refine lv_iadd hx hb dX11_rules_331 ?_
                      refine lv_aload_n hx hb dX11_rules_332 rfl (lv_at hl 0 rfl) ?_
                      refine g_get hC hM inX11_rules_X11 0 mE0 clX11 14 (by decide) tX11_rules_23 TX11_14 mV0_14 dX11_rules_333 ?_
                      refine lv_sipush (v := 288) hx hb dX11_rules_336 (by decide) ?_
                      refine lv_bipush (v := 12) hx hb dX11_rules_339 (by decide) ?_
                      refine lv_iload_n hx hb dX11_rules_341 rfl (lv_at hl 1 rfl) ?_
                      refine lv_imul hx hb dX11_rules_342 ?_
                      refine lv_iadd hx hb dX11_rules_343 ?_
                      refine lv_iload_n hx hb dX11_rules_344 rfl (lv_at hl 2 rfl) ?_
                      refine lv_iadd hx hb dX11_rules_345 ?_
                      obtain ⟨h61, hf⟩ := ck_s hf
                      refine g_iald hC hM 10 mE10 h61 dX11_rules_346 ?_
                      obtain ⟨h62, hf⟩ := ck_s hf
                      refine g_iast hC hM 10 mE10 h62 mA10 dX11_rules_347 (fun H locs hM => ?_)
                      obtain ⟨S63, hf, hM⟩ := mnm hf hM
                      obtain ⟨v64, ev64⟩ : ∃ y : Int32, y = v58 + 1 := ⟨_, rfl⟩
                      replace hf := nm_q ev64 hf
                      refine lv_iinc (v := v64) (lv' := [(3, .int v64), (0, .ref (a 0)), (2, .int v35)]) hx hb dX11_rules_348 hl (k := 2) rfl (by rw [ev64]; rfl) (by decide) rfl (fun ls hl => ?_)
                      refine lv_goto (tgt := 316) hx hb dX11_rules_351 (by decide) ?_
                      exact hk316 _ _ hf _ _ _ hM (lv_sub hl [1, 2, 0] rfl)
                  · intro k316 hk316 hf
                    exact hk316 _ _ hf _ _ _ hM (lv_sub hl [1, 2, 0] rfl)
            · intro k216 hk216 hf
              exact hk216 _ _ hf _ _ _ hM (lv_sub hl [1, 0] rfl)
        · intro k214 hk214 hf
          refine jl_W (fun k106 : Int32 → St → Option (Int32 × St) => ∀ (v65 : Int32) (S66 : St), k106 v65 S66 = some (rz, Sz) → ∀ (H : Heap) (locs : List Loc) (ls : Array Slot), gw D A s.heap H locs (mcells cs a S66) → lv_has ls 5 [(0, .ref (a 0)), (2, .int v65)] → W p l e rmX11_rules s m args below meth c H locs 0 0 Q (F0 m 106 ls [])) ?_ ?_ ?_ hf
          · intro v65 S66 h; cases h
          · intro k106 hk106 v65 S66 hf H locs ls hM hl
            unfold b_X11_rules_106 at hf
            refine lv_iload_n hx hb dX11_rules_106 rfl (lv_at hl 1 rfl) ?_
            refine lv_aload_n hx hb dX11_rules_107 rfl (lv_at hl 0 rfl) ?_
            refine g_get hC hM inX11_rules_X11 0 mE0 clX11 3 (by decide) tX11_rules_11 TX11_3 mV0_3 dX11_rules_108 ?_
            refine lv_aload_n hx hb dX11_rules_111 rfl (lv_at hl 0 rfl) ?_
            refine g_get hC hM inX11_rules_X11 0 mE0 clX11 4 (by decide) tX11_rules_12 TX11_4 mV0_4 dX11_rules_112 ?_
            refine lv_iadd hx hb dX11_rules_115 ?_
            refine lv_icmp_ge (tgt := 214) hx hb dX11_rules_116 (by decide) (fun c67 => ?_) (fun c67 => ?_)
            · replace hf := it_t c67 hf
              exact hk214 _ hf _ _ _ hM (lv_sub hl [0] rfl)
            · replace hf := it_f c67 hf
              refine lv_iload_n hx hb dX11_rules_119 rfl (lv_at hl 1 rfl) ?_
              refine lv_aload_n hx hb dX11_rules_120 rfl (lv_at hl 0 rfl) ?_
              refine g_get hC hM inX11_rules_X11 0 mE0 clX11 3 (by decide) tX11_rules_11 TX11_3 mV0_3 dX11_rules_121 ?_
              refine jp_W (fun k143 : Int32 → Option (Int32 × St) => ∀ (v68 : Int32), k143 v68 = some (rz, Sz) → ∀ (H : Heap) (locs : List Loc) (ls : Array Slot), gw D A s.heap H locs (mcells cs a S66) → lv_has ls 5 [(0, .ref (a 0)), (2, .int v65)] → W p l e rmX11_rules s m args below meth c H locs 0 0 Q (F0 m 143 ls [.int v68])) ?_ ?_ hf
              · intro v68 hf H locs ls hM hl
                unfold j_X11_rules_143 at hf
                refine lv_istore_n (lv' := [(3, .int v68), (0, .ref (a 0)), (2, .int v65)]) hx hb dX11_rules_143 rfl hl (by decide) rfl (fun ls hl => ?_)
                refine lv_aload_n hx hb dX11_rules_144 rfl (lv_at hl 1 rfl) ?_
                refine g_get hC hM inX11_rules_X11 0 mE0 clX11 6 (by decide) tX11_rules_14 TX11_6 mV0_6 dX11_rules_145 ?_
                refine lv_iload_n hx hb dX11_rules_148 rfl (lv_at hl 2 rfl) ?_
                refine lv_aload_n hx hb dX11_rules_149 rfl (lv_at hl 1 rfl) ?_
                refine g_get hC hM inX11_rules_X11 0 mE0 clX11 6 (by decide) tX11_rules_14 TX11_6 mV0_6 dX11_rules_150 ?_
                refine lv_iload_n hx hb dX11_rules_153 rfl (lv_at hl 0 rfl) ?_
                obtain ⟨h69, hf⟩ := ck_s hf
                refine g_iald hC hM 3 mE3 h69 dX11_rules_154 ?_
                obtain ⟨h70, hf⟩ := ck_s hf
                refine g_iast hC hM 3 mE3 h70 mA3 dX11_rules_155 (fun H locs hM => ?_)
                obtain ⟨S71, hf, hM⟩ := mnm hf hM
                refine lv_aload_n hx hb dX11_rules_156 rfl (lv_at hl 1 rfl) ?_
                refine g_get hC hM inX11_rules_X11 0 mE0 clX11 7 (by decide) tX11_rules_15 TX11_7 mV0_7 dX11_rules_157 ?_
                refine lv_iload_n hx hb dX11_rules_160 rfl (lv_at hl 2 rfl) ?_
                refine lv_aload_n hx hb dX11_rules_161 rfl (lv_at hl 1 rfl) ?_
                refine g_get hC hM inX11_rules_X11 0 mE0 clX11 7 (by decide) tX11_rules_15 TX11_7 mV0_7 dX11_rules_162 ?_
                refine lv_iload_n hx hb dX11_rules_165 rfl (lv_at hl 0 rfl) ?_
                obtain ⟨h72, hf⟩ := ck_s hf
                refine g_iald hC hM 4 mE4 h72 dX11_rules_166 ?_
                obtain ⟨h73, hf⟩ := ck_s hf
                refine g_iast hC hM 4 mE4 h73 mA4 dX11_rules_167 (fun H locs hM => ?_)
                obtain ⟨S74, hf, hM⟩ := mnm hf hM
                refine lv_iconst (v := 0) hx hb dX11_rules_168 (by decide) ?_
                refine lv_istore (lv' := [(4, .int 0), (3, .int v68), (0, .ref (a 0)), (2, .int v65)]) hx hb dX11_rules_169 hl (by decide) rfl (fun ls hl => ?_)
                refine jp_W (fun k208 : St → Option (Int32 × St) => ∀ (S75 : St), k208 S75 = some (rz, Sz) → ∀ (H : Heap) (locs : List Loc) (ls : Array Slot), gw D A s.heap H locs (mcells cs a S75) → lv_has ls 5 [(0, .ref (a 0)), (2, .int v65)] → W p l e rmX11_rules s m args below meth c H locs 0 0 Q (F0 m 208 ls [])) ?_ ?_ hf
                · intro S75 hf H locs ls hM hl
                  unfold j_X11_rules_208 at hf
                  obtain ⟨v76, ev76⟩ : ∃ y : Int32, y = v65 + 1 := ⟨_, rfl⟩
                  replace hf := nm_q ev76 hf
                  refine lv_iinc (v := v76) (lv' := [(2, .int v76), (0, .ref (a 0))]) hx hb dX11_rules_208 hl (k := 1) rfl (by rw [ev76]; rfl) (by decide) rfl (fun ls hl => ?_)
                  refine lv_goto (tgt := 106) hx hb dX11_rules_211 (by decide) ?_
                  exact hk106 _ _ hf _ _ _ hM (lv_sub hl [1, 0] rfl)
                · intro k208 hk208 hf
                  refine jl_W (fun k171 : Int32 → St → Option (Int32 × St) => ∀ (v77 : Int32) (S78 : St), k171 v77 S78 = some (rz, Sz) → ∀ (H : Heap) (locs : List Loc) (ls : Array Slot), gw D A s.heap H locs (mcells cs a S78) → lv_has ls 5 [(0, .ref (a 0)), (2, .int v65), (3, .int v68), (4, .int v77)] → W p l e rmX11_rules s m args below meth c H locs 0 0 Q (F0 m 171 ls [])) ?_ ?_ ?_ hf
                  · intro v77 S78 h; cases h
                  · intro k171 hk171 v77 S78 hf H locs ls hM hl
                    unfold b_X11_rules_171 at hf
                    refine lv_iload hx hb dX11_rules_171 (lv_at hl 3 rfl) ?_
                    refine lv_bipush (v := 12) hx hb dX11_rules_173 (by decide) ?_
                    refine lv_icmp_ge (tgt := 208) hx hb dX11_rules_175 (by decide) (fun c79 => ?_) (fun c79 => ?_)
                    · replace hf := it_t c79 hf
                      exact hk208 _ hf _ _ _ hM (lv_sub hl [0, 1] rfl)
                    · replace hf := it_f c79 hf
                      refine lv_aload_n hx hb dX11_rules_178 rfl (lv_at hl 0 rfl) ?_
                      refine g_get hC hM inX11_rules_X11 0 mE0 clX11 5 (by decide) tX11_rules_16 TX11_5 mV0_5 dX11_rules_179 ?_
                      refine lv_bipush (v := 12) hx hb dX11_rules_182 (by decide) ?_
                      refine lv_iload_n hx hb dX11_rules_184 rfl (lv_at hl 1 rfl) ?_
                      refine lv_imul hx hb dX11_rules_185 ?_
                      refine lv_iload hx hb dX11_rules_186 (lv_at hl 3 rfl) ?_
                      refine lv_iadd hx hb dX11_rules_188 ?_
                      refine lv_aload_n hx hb dX11_rules_189 rfl (lv_at hl 0 rfl) ?_
                      refine g_get hC hM inX11_rules_X11 0 mE0 clX11 5 (by decide) tX11_rules_16 TX11_5 mV0_5 dX11_rules_190 ?_
                      refine lv_bipush (v := 12) hx hb dX11_rules_193 (by decide) ?_
                      refine lv_iload_n hx hb dX11_rules_195 rfl (lv_at hl 2 rfl) ?_
                      refine lv_imul hx hb dX11_rules_196 ?_
                      refine lv_iload hx hb dX11_rules_197 (lv_at hl 3 rfl) ?_
                      refine lv_iadd hx hb dX11_rules_199 ?_
                      obtain ⟨h80, hf⟩ := ck_s hf
                      refine g_iald hC hM 2 mE2 h80 dX11_rules_200 ?_
                      obtain ⟨h81, hf⟩ := ck_s hf
                      refine g_iast hC hM 2 mE2 h81 mA2 dX11_rules_201 (fun H locs hM => ?_)
                      obtain ⟨S82, hf, hM⟩ := mnm hf hM
                      obtain ⟨v83, ev83⟩ : ∃ y : Int32, y = v77 + 1 := ⟨_, rfl⟩
                      replace hf := nm_q ev83 hf
                      refine lv_iinc (v := v83) (lv' := [(4, .int v83), (0, .ref (a 0)), (2, .int v65), (3, .int v68)]) hx hb dX11_rules_202 hl (k := 3) rfl (by rw [ev83]; rfl) (by decide) rfl (fun ls hl => ?_)
                      refine lv_goto (tgt := 171) hx hb dX11_rules_205 (by decide) ?_
                      exact hk171 _ _ hf _ _ _ hM (lv_sub hl [1, 2, 3, 0] rfl)
                  · intro k171 hk171 hf
                    exact hk171 _ _ hf _ _ _ hM (lv_sub hl [2, 3, 1, 0] rfl)
              · intro k143 hk143 hf
                refine lv_icmp_ge (tgt := 134) hx hb dX11_rules_124 (by decide) (fun c84 => ?_) (fun c84 => ?_)
                · replace hf := it_t c84 hf
                  refine lv_bipush (v := 18) hx hb dX11_rules_134 (by decide) ?_
                  refine lv_iload_n hx hb dX11_rules_136 rfl (lv_at hl 1 rfl) ?_
                  refine lv_iadd hx hb dX11_rules_137 ?_
                  refine lv_aload_n hx hb dX11_rules_138 rfl (lv_at hl 0 rfl) ?_
                  refine g_get hC hM inX11_rules_X11 0 mE0 clX11 3 (by decide) tX11_rules_11 TX11_3 mV0_3 dX11_rules_139 ?_
                  refine lv_isub hx hb dX11_rules_142 ?_
                  exact hk143 _ hf _ _ _ hM hl
                · replace hf := it_f c84 hf
                  refine lv_bipush (v := 12) hx hb dX11_rules_127 (by decide) ?_
                  refine lv_iload_n hx hb dX11_rules_129 rfl (lv_at hl 1 rfl) ?_
                  refine lv_iadd hx hb dX11_rules_130 ?_
                  refine lv_goto (tgt := 143) hx hb dX11_rules_131 (by decide) ?_
                  exact hk143 _ hf _ _ _ hM hl
          · intro k106 hk106 hf
            exact hk106 _ _ hf _ _ _ hM (lv_sub hl [1, 0] rfl)
      · intro k80 hk80 hf
        refine jl_W (fun k64 : St → Option (Int32 × St) => ∀ (S85 : St), k64 S85 = some (rz, Sz) → ∀ (H : Heap) (locs : List Loc) (ls : Array Slot), gw D A s.heap H locs (mcells cs a S85) → lv_has ls 5 [(0, .ref (a 0))] → W p l e rmX11_rules s m args below meth c H locs 0 0 Q (F0 m 64 ls [])) ?_ ?_ ?_ hf
        · intro S85 h; cases h
        · intro k64 hk64 S85 hf H locs ls hM hl
          unfold b_X11_rules_64 at hf
          refine lv_aload_n hx hb dX11_rules_64 rfl (lv_at hl 0 rfl) ?_
          refine g_get hC hM inX11_rules_X11 0 mE0 clX11 24 (by decide) tX11_rules_10 TX11_24 mV0_24 dX11_rules_65 ?_
          refine lv_if_eq (tgt := 80) hx hb dX11_rules_68 (by decide) (fun c86 => ?_) (fun c86 => ?_)
          · replace hf := it_t c86 hf
            exact hk80 _ hf _ _ _ hM hl
          · replace hf := it_f c86 hf
            refine lv_aload_n hx hb dX11_rules_71 rfl (lv_at hl 0 rfl) ?_
            obtain ⟨v87, S88, hc, hf⟩ := bd2_s hf
            refine gV_i hC hM hA hl.1 [] [] (c_X11_line l D cs a N S85 v87 S88 hc) gX11_rules_X11_line rfl hd_X11_line ⟨by decide, by decide⟩ 0 11 clX11 rfl mE0 (Nat.le_of_ble_eq_true rfl) dX11_rules_72 rfl ⟨by decide, by decide⟩ (fun H locs hM => ?_)
            refine lv_if_ne (tgt := 64) hx hb dX11_rules_75 (by decide) (fun c89 => ?_) (fun c89 => ?_)
            · replace hf := it_f c89 hf
              exact hk64 _ hf _ _ _ hM hl
            · replace hf := it_t c89 hf
              refine lv_iconst (v := (-1)) hx hb dX11_rules_78 (by decide) ?_
              obtain ⟨e1, e2⟩ := so_2 hf
              cases e1; cases e2
              exact hQ _ _ _ _ _ _ dX11_rules_79 hM (by decide) (by decide)
        · intro k64 hk64 hf
          exact hk64 _ hf _ _ _ hM (lv_sub hl [0] rfl)
    · replace hf := it_f c3 hf
      refine lv_bipush (v := (-2)) hx hb dX11_rules_17 (by decide) ?_
      obtain ⟨e1, e2⟩ := so_2 hf
      cases e1; cases e2
      exact hQ _ _ _ _ _ _ dX11_rules_19 hM (by decide) (by decide)

theorem hd_X11_fault : yX11_fault.cls = RX11 ∧ yX11_fault.cls ≠ "java/lang/invoke/MethodHandle" ∧ yX11_fault.cls ≠ "java/lang/invoke/VarHandle" ∧ (parseMethodDescriptor yX11_fault.desc).map (fun d => d.parameters.length) = some 1 := by decide +kernel
theorem tX11_fault_1 : Cond.fieldLink RX11 94 "WeatherTellerModel" "thrown" "I" ∈ wsX11_fault := List.mem_of_getElem? (i := 1) rfl
theorem inX11_fault_X11 : ∀ w ∈ u_ws RX11 TX11 50, w ∈ wsX11_fault := fun _ h => List.mem_cons_of_mem _ (List.mem_append_right _ h)
theorem tX11_fault_3 : Cond.fieldLink RX11 44 "WeatherTellerModel" "faultPlace" "I" ∈ wsX11_fault := List.mem_of_getElem? (i := 3) rfl
theorem tX11_fault_2 : Cond.fieldLink RX11 100 "WeatherTellerModel" "fault" "I" ∈ wsX11_fault := List.mem_of_getElem? (i := 2) rfl
def f_X11_fault (N : Nat) (p0 : Int32) (S : St) : Option (Int32 × St) :=
  nm (puI S 0 2 0) fun S1 =>
  if p0 = 0 then
    some ((S1.1 0 16), S1)
  else
    if p0 = 1 then
      some ((S1.1 0 17), S1)
    else
      some ((-1), S1)
abbrev rmX11_fault : Room := { frames := 0, cells := 0, slots := 0, locals := 0 }
set_option maxRecDepth 100000 in
set_option maxHeartbeats 4000000 in
theorem c_X11_fault (l : Launch) (D : va_G) (cs : Nat → ClassId) (a : Nat → Nat) (N : Nat) (p0 : Int32) (S : St) (rz : Int32) (Sz : St) (hf : f_X11_fault N p0 S = some (rz, Sz)) : gMi l yX11_fault wsX11_fault rmX11_fault D cs [.ref (a 0), .int p0] (mcells cs a S) rz (mcells cs a Sz) := by
  unfold f_X11_fault at hf
  refine gE_i (cc := cX11_fault) (maxL := 2) (by decide) rfl (Nat.le_of_ble_eq_true rfl) ?_
  intro p e s m args below meth c A Q hC hA hQ hM ls hl
  obtain ⟨hx, hb, hml, hown, hts⟩ := hC.1
  have hl : lv_has ls 2 [(0, .ref (a 0)), (1, .int p0)] := hl
  refine lv_aload_n hx hb dX11_fault_0 rfl (lv_at hl 0 rfl) ?_
  refine lv_iconst (v := 0) hx hb dX11_fault_1 (by decide) ?_
  refine g_put hC hM inX11_fault_X11 tyX11_ok nmX11 0 mE0 clX11 2 (by decide) tX11_fault_1 TX11_2 tyX11_2 rfl rfl (by rw [mL0]; decide) mP0_2 dX11_fault_2 (fun H locs hM => ?_)
  obtain ⟨S1, hf, hM⟩ := mnm hf hM
  refine lv_iload_n hx hb dX11_fault_5 rfl (lv_at hl 1 rfl) ?_
  refine lv_if_ne (tgt := 16) hx hb dX11_fault_6 (by decide) (fun c2 => ?_) (fun c2 => ?_)
  · replace hf := it_f c2 hf
    refine lv_iload_n hx hb dX11_fault_16 rfl (lv_at hl 1 rfl) ?_
    refine lv_iconst (v := 1) hx hb dX11_fault_17 (by decide) ?_
    refine lv_icmp_ne (tgt := 28) hx hb dX11_fault_18 (by decide) (fun c3 => ?_) (fun c3 => ?_)
    · replace hf := it_f c3 hf
      refine lv_iconst (v := (-1)) hx hb dX11_fault_28 (by decide) ?_
      obtain ⟨e1, e2⟩ := so_2 hf
      cases e1; cases e2
      exact hQ _ _ _ _ _ _ dX11_fault_29 hM (by decide) (by decide)
    · replace hf := it_t c3 hf
      refine lv_aload_n hx hb dX11_fault_21 rfl (lv_at hl 0 rfl) ?_
      refine g_get hC hM inX11_fault_X11 0 mE0 clX11 17 (by decide) tX11_fault_3 TX11_17 mV0_17 dX11_fault_22 ?_
      refine lv_goto (tgt := 29) hx hb dX11_fault_25 (by decide) ?_
      obtain ⟨e1, e2⟩ := so_2 hf
      cases e1; cases e2
      exact hQ _ _ _ _ _ _ dX11_fault_29 hM (by decide) (by decide)
  · replace hf := it_t c2 hf
    refine lv_aload_n hx hb dX11_fault_9 rfl (lv_at hl 0 rfl) ?_
    refine g_get hC hM inX11_fault_X11 0 mE0 clX11 16 (by decide) tX11_fault_2 TX11_16 mV0_16 dX11_fault_10 ?_
    refine lv_goto (tgt := 29) hx hb dX11_fault_13 (by decide) ?_
    obtain ⟨e1, e2⟩ := so_2 hf
    cases e1; cases e2
    exact hQ _ _ _ _ _ _ dX11_fault_29 hM (by decide) (by decide)

theorem hd_X11_areHours : yX11_areHours.cls = RX11 ∧ yX11_areHours.cls ≠ "java/lang/invoke/MethodHandle" ∧ yX11_areHours.cls ≠ "java/lang/invoke/VarHandle" ∧ (parseMethodDescriptor yX11_areHours.desc).map (fun d => d.parameters.length) = some 4 := by decide +kernel
theorem tX11_areHours_1 : Cond.fieldLink RX11 180 "WeatherTellerModel" "places" "I" ∈ wsX11_areHours := List.mem_of_getElem? (i := 1) rfl
theorem inX11_areHours_X11 : ∀ w ∈ u_ws RX11 TX11 50, w ∈ wsX11_areHours := fun _ h => List.mem_cons_of_mem _ (List.mem_append_right _ h)
def f_X11_areHours (N : Nat) (p0 : Int32) (p1 : Int32) (p2 : Int32) (p3 : Int32) (S : St) : Option (Int32) :=
  z1 <|
  if p0 < 0 then
    some 0
  else
    if 3 ≤ p0 then
      some 0
    else
      if p1 < 0 then
        some 0
      else
        if (S.1 0 3) ≤ p1 then
          some 0
        else
          if p2 < 0 then
            some 0
          else
            if p3 < p2 then
              some 0
            else
              if 24 ≤ p3 then
                some 0
              else
                some 1
abbrev rmX11_areHours : Room := { frames := 0, cells := 0, slots := 0, locals := 0 }
set_option maxRecDepth 100000 in
set_option maxHeartbeats 4000000 in
theorem c_X11_areHours (l : Launch) (D : va_G) (cs : Nat → ClassId) (a : Nat → Nat) (N : Nat) (p0 : Int32) (p1 : Int32) (p2 : Int32) (p3 : Int32) (S : St) (rz : Int32) (hf : f_X11_areHours N p0 p1 p2 p3 S = some rz) : gMi l yX11_areHours wsX11_areHours rmX11_areHours D cs [.ref (a 0), .int p0, .int p1, .int p2, .int p3] (mcells cs a S) rz (mcells cs a S) := by
  unfold f_X11_areHours at hf
  obtain ⟨hrz, hf⟩ := z1_s hf
  refine gE_z (cc := cX11_areHours) (maxL := 5) hrz (by decide) rfl (Nat.le_of_ble_eq_true rfl) ?_
  intro p e s m args below meth c A Q hC hA hQ hM ls hl
  obtain ⟨hx, hb, hml, hown, hts⟩ := hC.1
  have hl : lv_has ls 5 [(0, .ref (a 0)), (1, .int p0), (2, .int p1), (3, .int p2), (4, .int p3)] := hl
  refine lv_iload_n hx hb dX11_areHours_0 rfl (lv_at hl 1 rfl) ?_
  refine lv_if_lt (tgt := 42) hx hb dX11_areHours_1 (by decide) (fun c1 => ?_) (fun c1 => ?_)
  · replace hf := it_t c1 hf
    refine lv_iconst (v := 0) hx hb dX11_areHours_42 (by decide) ?_
    cases so_1 hf
    exact hQ _ _ _ _ _ _ dX11_areHours_43 hM (by decide) (by decide)
  · replace hf := it_f c1 hf
    refine lv_iload_n hx hb dX11_areHours_4 rfl (lv_at hl 1 rfl) ?_
    refine lv_iconst (v := 3) hx hb dX11_areHours_5 (by decide) ?_
    refine lv_icmp_ge (tgt := 42) hx hb dX11_areHours_6 (by decide) (fun c2 => ?_) (fun c2 => ?_)
    · replace hf := it_t c2 hf
      refine lv_iconst (v := 0) hx hb dX11_areHours_42 (by decide) ?_
      cases so_1 hf
      exact hQ _ _ _ _ _ _ dX11_areHours_43 hM (by decide) (by decide)
    · replace hf := it_f c2 hf
      refine lv_iload_n hx hb dX11_areHours_9 rfl (lv_at hl 2 rfl) ?_
      refine lv_if_lt (tgt := 42) hx hb dX11_areHours_10 (by decide) (fun c3 => ?_) (fun c3 => ?_)
      · replace hf := it_t c3 hf
        refine lv_iconst (v := 0) hx hb dX11_areHours_42 (by decide) ?_
        cases so_1 hf
        exact hQ _ _ _ _ _ _ dX11_areHours_43 hM (by decide) (by decide)
      · replace hf := it_f c3 hf
        refine lv_iload_n hx hb dX11_areHours_13 rfl (lv_at hl 2 rfl) ?_
        refine lv_aload_n hx hb dX11_areHours_14 rfl (lv_at hl 0 rfl) ?_
        refine g_get hC hM inX11_areHours_X11 0 mE0 clX11 3 (by decide) tX11_areHours_1 TX11_3 mV0_3 dX11_areHours_15 ?_
        refine lv_icmp_ge (tgt := 42) hx hb dX11_areHours_18 (by decide) (fun c4 => ?_) (fun c4 => ?_)
        · replace hf := it_t c4 hf
          refine lv_iconst (v := 0) hx hb dX11_areHours_42 (by decide) ?_
          cases so_1 hf
          exact hQ _ _ _ _ _ _ dX11_areHours_43 hM (by decide) (by decide)
        · replace hf := it_f c4 hf
          refine lv_iload_n hx hb dX11_areHours_21 rfl (lv_at hl 3 rfl) ?_
          refine lv_if_lt (tgt := 42) hx hb dX11_areHours_22 (by decide) (fun c5 => ?_) (fun c5 => ?_)
          · replace hf := it_t c5 hf
            refine lv_iconst (v := 0) hx hb dX11_areHours_42 (by decide) ?_
            cases so_1 hf
            exact hQ _ _ _ _ _ _ dX11_areHours_43 hM (by decide) (by decide)
          · replace hf := it_f c5 hf
            refine lv_iload_n hx hb dX11_areHours_25 rfl (lv_at hl 3 rfl) ?_
            refine lv_iload hx hb dX11_areHours_26 (lv_at hl 4 rfl) ?_
            refine lv_icmp_gt (tgt := 42) hx hb dX11_areHours_28 (by decide) (fun c6 => ?_) (fun c6 => ?_)
            · replace hf := it_t c6 hf
              refine lv_iconst (v := 0) hx hb dX11_areHours_42 (by decide) ?_
              cases so_1 hf
              exact hQ _ _ _ _ _ _ dX11_areHours_43 hM (by decide) (by decide)
            · replace hf := it_f c6 hf
              refine lv_iload hx hb dX11_areHours_31 (lv_at hl 4 rfl) ?_
              refine lv_bipush (v := 24) hx hb dX11_areHours_33 (by decide) ?_
              refine lv_icmp_ge (tgt := 42) hx hb dX11_areHours_35 (by decide) (fun c7 => ?_) (fun c7 => ?_)
              · replace hf := it_t c7 hf
                refine lv_iconst (v := 0) hx hb dX11_areHours_42 (by decide) ?_
                cases so_1 hf
                exact hQ _ _ _ _ _ _ dX11_areHours_43 hM (by decide) (by decide)
              · replace hf := it_f c7 hf
                refine lv_iconst (v := 1) hx hb dX11_areHours_38 (by decide) ?_
                refine lv_goto (tgt := 43) hx hb dX11_areHours_39 (by decide) ?_
                cases so_1 hf
                exact hQ _ _ _ _ _ _ dX11_areHours_43 hM (by decide) (by decide)

theorem hd_X11_put : yX11_put.cls = RX11 ∧ yX11_put.cls ≠ "java/lang/invoke/MethodHandle" ∧ yX11_put.cls ≠ "java/lang/invoke/VarHandle" ∧ (parseMethodDescriptor yX11_put.desc).map (fun d => d.parameters.length) = some 6 := by decide +kernel
theorem tX11_put_1 : Cond.fieldLink RX11 94 "WeatherTellerModel" "thrown" "I" ∈ wsX11_put := List.mem_of_getElem? (i := 1) rfl
theorem inX11_put_X11 : ∀ w ∈ u_ws RX11 TX11 50, w ∈ wsX11_put := fun _ h => List.mem_cons_of_mem _ (List.mem_append_right _ h)
theorem tX11_put_2 : Cond.fieldLink RX11 54 "WeatherTellerModel" "table" "[I" ∈ wsX11_put := List.mem_of_getElem? (i := 2) rfl
def b_X11_put_80 (p0 : Int32) (p1 : Int32) (p2 : Int32) (p3 : Int32) (p4 : Int32) (p5 : Int32) (k80 : Int32 → St → Option (Int32 × St)) (v11 : Int32) (S12 : St) : Option (Int32 × St) :=
  if p3 < v11 then
    some (1, S12)
  else
    ck (((144 * p0) + (24 * p1)) + v11) 864 <|
    nm (puI S12 14 (((144 * p0) + (24 * p1)) + v11).toNatClampNeg (p4 + ((v11 - p2) * p5))) fun S15 =>
    nm (v11 + 1) fun v16 =>
    k80 v16 S15
def f_X11_put (N : Nat) (p0 : Int32) (p1 : Int32) (p2 : Int32) (p3 : Int32) (p4 : Int32) (p5 : Int32) (S : St) : Option (Int32 × St) :=
  zb <|
  nm (puI S 0 2 0) fun S1 =>
  bd (f_X11_areHours N p0 p1 p2 p3 S1) fun v2 =>
  if v2 = 0 then
    some (0, S1)
  else
    if p5 < (-99) then
      some (0, S1)
    else
      if 99 < p5 then
        some (0, S1)
      else
        if p4 < (-99) then
          some (0, S1)
        else
          if p4 ≤ 999 then
            nm (p4 + ((p3 - p2) * p5)) fun v8 =>
            if v8 < (-99) then
              some (0, S1)
            else
              if v8 ≤ 999 then
                jp (lp (fun _ _ => none) (b_X11_put_80 p0 p1 p2 p3 p4 p5) N) fun k80 =>
                k80 p2 S1
              else
                some (0, S1)
          else
            some (0, S1)
abbrev rmX11_put : Room := { frames := 1, cells := 0, slots := 0, locals := 24 }
set_option maxRecDepth 100000 in
set_option maxHeartbeats 4000000 in
theorem c_X11_put (l : Launch) (D : va_G) (cs : Nat → ClassId) (a : Nat → Nat) (N : Nat) (p0 : Int32) (p1 : Int32) (p2 : Int32) (p3 : Int32) (p4 : Int32) (p5 : Int32) (S : St) (rz : Int32) (Sz : St) (hf : f_X11_put N p0 p1 p2 p3 p4 p5 S = some (rz, Sz)) : gMi l yX11_put wsX11_put rmX11_put D cs [.ref (a 0), .int p0, .int p1, .int p2, .int p3, .int p4, .int p5] (mcells cs a S) rz (mcells cs a Sz) := by
  unfold f_X11_put at hf
  obtain ⟨hrz, hf⟩ := zb_s hf
  refine gE_z (cc := cX11_put) (maxL := 9) hrz (by decide) rfl (Nat.le_of_ble_eq_true rfl) ?_
  intro p e s m args below meth c A Q hC hA hQ hM ls hl
  obtain ⟨hx, hb, hml, hown, hts⟩ := hC.1
  have hl : lv_has ls 9 [(0, .ref (a 0)), (1, .int p0), (2, .int p1), (3, .int p2), (4, .int p3), (5, .int p4), (6, .int p5)] := hl
  refine lv_aload_n hx hb dX11_put_0 rfl (lv_at hl 0 rfl) ?_
  refine lv_iconst (v := 0) hx hb dX11_put_1 (by decide) ?_
  refine g_put hC hM inX11_put_X11 tyX11_ok nmX11 0 mE0 clX11 2 (by decide) tX11_put_1 TX11_2 tyX11_2 rfl rfl (by rw [mL0]; decide) mP0_2 dX11_put_2 (fun H locs hM => ?_)
  obtain ⟨S1, hf, hM⟩ := mnm hf hM
  refine lv_aload_n hx hb dX11_put_5 rfl (lv_at hl 0 rfl) ?_
  refine lv_iload_n hx hb dX11_put_6 rfl (lv_at hl 1 rfl) ?_
  refine lv_iload_n hx hb dX11_put_7 rfl (lv_at hl 2 rfl) ?_
  refine lv_iload_n hx hb dX11_put_8 rfl (lv_at hl 3 rfl) ?_
  refine lv_iload hx hb dX11_put_9 (lv_at hl 4 rfl) ?_
  obtain ⟨v2, hc, hf⟩ := bd_s hf
  refine gV_i hC hM hA hl.1 [.int p0, .int p1, .int p2, .int p3] [] (c_X11_areHours l D cs a N p0 p1 p2 p3 S1 v2 hc) gX11_put_X11_areHours rfl hd_X11_areHours ⟨by decide, by decide⟩ 0 11 clX11 rfl mE0 (Nat.le_of_ble_eq_true rfl) dX11_put_11 rfl ⟨by decide, by decide⟩ (fun H locs hM => ?_)
  refine lv_if_eq (tgt := 46) hx hb dX11_put_14 (by decide) (fun c3 => ?_) (fun c3 => ?_)
  · replace hf := it_t c3 hf
    refine lv_iconst (v := 0) hx hb dX11_put_46 (by decide) ?_
    obtain ⟨e1, e2⟩ := so_2 hf
    cases e1; cases e2
    exact hQ _ _ _ _ _ _ dX11_put_47 hM (by decide) (by decide)
  · replace hf := it_f c3 hf
    refine lv_iload hx hb dX11_put_17 (lv_at hl 6 rfl) ?_
    refine lv_bipush (v := (-99)) hx hb dX11_put_19 (by decide) ?_
    refine lv_icmp_lt (tgt := 46) hx hb dX11_put_21 (by decide) (fun c4 => ?_) (fun c4 => ?_)
    · replace hf := it_t c4 hf
      refine lv_iconst (v := 0) hx hb dX11_put_46 (by decide) ?_
      obtain ⟨e1, e2⟩ := so_2 hf
      cases e1; cases e2
      exact hQ _ _ _ _ _ _ dX11_put_47 hM (by decide) (by decide)
    · replace hf := it_f c4 hf
      refine lv_iload hx hb dX11_put_24 (lv_at hl 6 rfl) ?_
      refine lv_bipush (v := 99) hx hb dX11_put_26 (by decide) ?_
      refine lv_icmp_gt (tgt := 46) hx hb dX11_put_28 (by decide) (fun c5 => ?_) (fun c5 => ?_)
      · replace hf := it_t c5 hf
        refine lv_iconst (v := 0) hx hb dX11_put_46 (by decide) ?_
        obtain ⟨e1, e2⟩ := so_2 hf
        cases e1; cases e2
        exact hQ _ _ _ _ _ _ dX11_put_47 hM (by decide) (by decide)
      · replace hf := it_f c5 hf
        refine lv_iload hx hb dX11_put_31 (lv_at hl 5 rfl) ?_
        refine lv_bipush (v := (-99)) hx hb dX11_put_33 (by decide) ?_
        refine lv_icmp_lt (tgt := 46) hx hb dX11_put_35 (by decide) (fun c6 => ?_) (fun c6 => ?_)
        · replace hf := it_t c6 hf
          refine lv_iconst (v := 0) hx hb dX11_put_46 (by decide) ?_
          obtain ⟨e1, e2⟩ := so_2 hf
          cases e1; cases e2
          exact hQ _ _ _ _ _ _ dX11_put_47 hM (by decide) (by decide)
        · replace hf := it_f c6 hf
          refine lv_iload hx hb dX11_put_38 (lv_at hl 5 rfl) ?_
          refine lv_sipush (v := 999) hx hb dX11_put_40 (by decide) ?_
          refine lv_icmp_le (tgt := 48) hx hb dX11_put_43 (by decide) (fun c7 => ?_) (fun c7 => ?_)
          · replace hf := it_t c7 hf
            refine lv_iload hx hb dX11_put_48 (lv_at hl 5 rfl) ?_
            refine lv_iload hx hb dX11_put_50 (lv_at hl 4 rfl) ?_
            refine lv_iload_n hx hb dX11_put_52 rfl (lv_at hl 3 rfl) ?_
            refine lv_isub hx hb dX11_put_53 ?_
            refine lv_iload hx hb dX11_put_54 (lv_at hl 6 rfl) ?_
            refine lv_imul hx hb dX11_put_56 ?_
            refine lv_iadd hx hb dX11_put_57 ?_
            refine lv_topi (fun v8 ev8 => ?_)
            replace hf := nm_q ev8 hf
            refine lv_istore (lv' := [(7, .int v8), (0, .ref (a 0)), (1, .int p0), (2, .int p1), (3, .int p2), (4, .int p3), (5, .int p4), (6, .int p5)]) hx hb dX11_put_58 hl (by decide) rfl (fun ls hl => ?_)
            refine lv_iload hx hb dX11_put_60 (lv_at hl 0 rfl) ?_
            refine lv_bipush (v := (-99)) hx hb dX11_put_62 (by decide) ?_
            refine lv_icmp_lt (tgt := 75) hx hb dX11_put_64 (by decide) (fun c9 => ?_) (fun c9 => ?_)
            · replace hf := it_t c9 hf
              refine lv_iconst (v := 0) hx hb dX11_put_75 (by decide) ?_
              obtain ⟨e1, e2⟩ := so_2 hf
              cases e1; cases e2
              exact hQ _ _ _ _ _ _ dX11_put_76 hM (by decide) (by decide)
            · replace hf := it_f c9 hf
              refine lv_iload hx hb dX11_put_67 (lv_at hl 0 rfl) ?_
              refine lv_sipush (v := 999) hx hb dX11_put_69 (by decide) ?_
              refine lv_icmp_le (tgt := 77) hx hb dX11_put_72 (by decide) (fun c10 => ?_) (fun c10 => ?_)
              · replace hf := it_t c10 hf
                refine lv_iload_n hx hb dX11_put_77 rfl (lv_at hl 4 rfl) ?_
                refine lv_istore (lv' := [(8, .int p2), (7, .int v8), (0, .ref (a 0)), (1, .int p0), (2, .int p1), (3, .int p2), (4, .int p3), (5, .int p4), (6, .int p5)]) hx hb dX11_put_78 hl (by decide) rfl (fun ls hl => ?_)
                refine jl_W (fun k80 : Int32 → St → Option (Int32 × St) => ∀ (v11 : Int32) (S12 : St), k80 v11 S12 = some (rz, Sz) → ∀ (H : Heap) (locs : List Loc) (ls : Array Slot), gw D A s.heap H locs (mcells cs a S12) → lv_has ls 9 [(0, .ref (a 0)), (1, .int p0), (2, .int p1), (3, .int p2), (4, .int p3), (5, .int p4), (6, .int p5), (8, .int v11)] → W p l e rmX11_put s m args below meth c H locs 0 0 Q (F0 m 80 ls [])) ?_ ?_ ?_ hf
                · intro v11 S12 h; cases h
                · intro k80 hk80 v11 S12 hf H locs ls hM hl
                  unfold b_X11_put_80 at hf
                  refine lv_iload hx hb dX11_put_80 (lv_at hl 7 rfl) ?_
                  refine lv_iload hx hb dX11_put_82 (lv_at hl 4 rfl) ?_
                  refine lv_icmp_gt (tgt := 121) hx hb dX11_put_84 (by decide) (fun c13 => ?_) (fun c13 => ?_)
                  · replace hf := it_t c13 hf
                    refine lv_iconst (v := 1) hx hb dX11_put_121 (by decide) ?_
                    obtain ⟨e1, e2⟩ := so_2 hf
                    cases e1; cases e2
                    exact hQ _ _ _ _ _ _ dX11_put_122 hM (by decide) (by decide)
                  · replace hf := it_f c13 hf
                    refine lv_aload_n hx hb dX11_put_87 rfl (lv_at hl 0 rfl) ?_
                    refine g_get hC hM inX11_put_X11 0 mE0 clX11 20 (by decide) tX11_put_2 TX11_20 mV0_20 dX11_put_88 ?_
                    refine lv_sipush (v := 144) hx hb dX11_put_91 (by decide) ?_
                    refine lv_iload_n hx hb dX11_put_94 rfl (lv_at hl 1 rfl) ?_
                    refine lv_imul hx hb dX11_put_95 ?_
                    refine lv_bipush (v := 24) hx hb dX11_put_96 (by decide) ?_
                    refine lv_iload_n hx hb dX11_put_98 rfl (lv_at hl 2 rfl) ?_
                    refine lv_imul hx hb dX11_put_99 ?_
                    refine lv_iadd hx hb dX11_put_100 ?_
                    refine lv_iload hx hb dX11_put_101 (lv_at hl 7 rfl) ?_
                    refine lv_iadd hx hb dX11_put_103 ?_
                    refine lv_iload hx hb dX11_put_104 (lv_at hl 5 rfl) ?_
                    refine lv_iload hx hb dX11_put_106 (lv_at hl 7 rfl) ?_
                    refine lv_iload_n hx hb dX11_put_108 rfl (lv_at hl 3 rfl) ?_
                    refine lv_isub hx hb dX11_put_109 ?_
                    refine lv_iload hx hb dX11_put_110 (lv_at hl 6 rfl) ?_
                    refine lv_imul hx hb dX11_put_112 ?_
                    refine lv_iadd hx hb dX11_put_113 ?_
                    obtain ⟨h14, hf⟩ := ck_s hf
                    refine g_iast hC hM 14 mE14 h14 mA14 dX11_put_114 (fun H locs hM => ?_)
                    obtain ⟨S15, hf, hM⟩ := mnm hf hM
                    obtain ⟨v16, ev16⟩ : ∃ y : Int32, y = v11 + 1 := ⟨_, rfl⟩
                    replace hf := nm_q ev16 hf
                    refine lv_iinc (v := v16) (lv' := [(8, .int v16), (0, .ref (a 0)), (1, .int p0), (2, .int p1), (3, .int p2), (4, .int p3), (5, .int p4), (6, .int p5)]) hx hb dX11_put_115 hl (k := 7) rfl (by rw [ev16]; rfl) (by decide) rfl (fun ls hl => ?_)
                    refine lv_goto (tgt := 80) hx hb dX11_put_118 (by decide) ?_
                    exact hk80 _ _ hf _ _ _ hM (lv_sub hl [1, 2, 3, 4, 5, 6, 7, 0] rfl)
                · intro k80 hk80 hf
                  exact hk80 _ _ hf _ _ _ hM (lv_sub hl [2, 3, 4, 5, 6, 7, 8, 0] rfl)
              · replace hf := it_f c10 hf
                refine lv_iconst (v := 0) hx hb dX11_put_75 (by decide) ?_
                obtain ⟨e1, e2⟩ := so_2 hf
                cases e1; cases e2
                exact hQ _ _ _ _ _ _ dX11_put_76 hM (by decide) (by decide)
          · replace hf := it_f c7 hf
            refine lv_iconst (v := 0) hx hb dX11_put_46 (by decide) ?_
            obtain ⟨e1, e2⟩ := so_2 hf
            cases e1; cases e2
            exact hQ _ _ _ _ _ _ dX11_put_47 hM (by decide) (by decide)

theorem hd_X11_miss : yX11_miss.cls = RX11 ∧ yX11_miss.cls ≠ "java/lang/invoke/MethodHandle" ∧ yX11_miss.cls ≠ "java/lang/invoke/VarHandle" ∧ (parseMethodDescriptor yX11_miss.desc).map (fun d => d.parameters.length) = some 4 := by decide +kernel
theorem tX11_miss_1 : Cond.fieldLink RX11 94 "WeatherTellerModel" "thrown" "I" ∈ wsX11_miss := List.mem_of_getElem? (i := 1) rfl
theorem inX11_miss_X11 : ∀ w ∈ u_ws RX11 TX11 50, w ∈ wsX11_miss := fun _ h => List.mem_cons_of_mem _ (List.mem_append_right _ h)
theorem tX11_miss_2 : Cond.fieldLink RX11 54 "WeatherTellerModel" "table" "[I" ∈ wsX11_miss := List.mem_of_getElem? (i := 2) rfl
def b_X11_miss_22 (p0 : Int32) (p1 : Int32) (p3 : Int32) (k22 : Int32 → St → Option (Int32 × St)) (v4 : Int32) (S5 : St) : Option (Int32 × St) :=
  if p3 < v4 then
    some (1, S5)
  else
    ck (((144 * p0) + (24 * p1)) + v4) 864 <|
    nm (puI S5 14 (((144 * p0) + (24 * p1)) + v4).toNatClampNeg (-100)) fun S8 =>
    nm (v4 + 1) fun v9 =>
    k22 v9 S8
def f_X11_miss (N : Nat) (p0 : Int32) (p1 : Int32) (p2 : Int32) (p3 : Int32) (S : St) : Option (Int32 × St) :=
  zb <|
  nm (puI S 0 2 0) fun S1 =>
  bd (f_X11_areHours N p0 p1 p2 p3 S1) fun v2 =>
  if v2 = 0 then
    some (0, S1)
  else
    jp (lp (fun _ _ => none) (b_X11_miss_22 p0 p1 p3) N) fun k22 =>
    k22 p2 S1
abbrev rmX11_miss : Room := { frames := 1, cells := 0, slots := 0, locals := 24 }
set_option maxRecDepth 100000 in
set_option maxHeartbeats 4000000 in
theorem c_X11_miss (l : Launch) (D : va_G) (cs : Nat → ClassId) (a : Nat → Nat) (N : Nat) (p0 : Int32) (p1 : Int32) (p2 : Int32) (p3 : Int32) (S : St) (rz : Int32) (Sz : St) (hf : f_X11_miss N p0 p1 p2 p3 S = some (rz, Sz)) : gMi l yX11_miss wsX11_miss rmX11_miss D cs [.ref (a 0), .int p0, .int p1, .int p2, .int p3] (mcells cs a S) rz (mcells cs a Sz) := by
  unfold f_X11_miss at hf
  obtain ⟨hrz, hf⟩ := zb_s hf
  refine gE_z (cc := cX11_miss) (maxL := 6) hrz (by decide) rfl (Nat.le_of_ble_eq_true rfl) ?_
  intro p e s m args below meth c A Q hC hA hQ hM ls hl
  obtain ⟨hx, hb, hml, hown, hts⟩ := hC.1
  have hl : lv_has ls 6 [(0, .ref (a 0)), (1, .int p0), (2, .int p1), (3, .int p2), (4, .int p3)] := hl
  refine lv_aload_n hx hb dX11_miss_0 rfl (lv_at hl 0 rfl) ?_
  refine lv_iconst (v := 0) hx hb dX11_miss_1 (by decide) ?_
  refine g_put hC hM inX11_miss_X11 tyX11_ok nmX11 0 mE0 clX11 2 (by decide) tX11_miss_1 TX11_2 tyX11_2 rfl rfl (by rw [mL0]; decide) mP0_2 dX11_miss_2 (fun H locs hM => ?_)
  obtain ⟨S1, hf, hM⟩ := mnm hf hM
  refine lv_aload_n hx hb dX11_miss_5 rfl (lv_at hl 0 rfl) ?_
  refine lv_iload_n hx hb dX11_miss_6 rfl (lv_at hl 1 rfl) ?_
  refine lv_iload_n hx hb dX11_miss_7 rfl (lv_at hl 2 rfl) ?_
  refine lv_iload_n hx hb dX11_miss_8 rfl (lv_at hl 3 rfl) ?_
  refine lv_iload hx hb dX11_miss_9 (lv_at hl 4 rfl) ?_
  obtain ⟨v2, hc, hf⟩ := bd_s hf
  refine gV_i hC hM hA hl.1 [.int p0, .int p1, .int p2, .int p3] [] (c_X11_areHours l D cs a N p0 p1 p2 p3 S1 v2 hc) gX11_miss_X11_areHours rfl hd_X11_areHours ⟨by decide, by decide⟩ 0 11 clX11 rfl mE0 (Nat.le_of_ble_eq_true rfl) dX11_miss_11 rfl ⟨by decide, by decide⟩ (fun H locs hM => ?_)
  refine lv_if_ne (tgt := 19) hx hb dX11_miss_14 (by decide) (fun c3 => ?_) (fun c3 => ?_)
  · replace hf := it_f c3 hf
    refine lv_iload_n hx hb dX11_miss_19 rfl (lv_at hl 3 rfl) ?_
    refine lv_istore (lv' := [(5, .int p2), (0, .ref (a 0)), (1, .int p0), (2, .int p1), (3, .int p2), (4, .int p3)]) hx hb dX11_miss_20 hl (by decide) rfl (fun ls hl => ?_)
    refine jl_W (fun k22 : Int32 → St → Option (Int32 × St) => ∀ (v4 : Int32) (S5 : St), k22 v4 S5 = some (rz, Sz) → ∀ (H : Heap) (locs : List Loc) (ls : Array Slot), gw D A s.heap H locs (mcells cs a S5) → lv_has ls 6 [(0, .ref (a 0)), (1, .int p0), (2, .int p1), (4, .int p3), (5, .int v4)] → W p l e rmX11_miss s m args below meth c H locs 0 0 Q (F0 m 22 ls [])) ?_ ?_ ?_ hf
    · intro v4 S5 h; cases h
    · intro k22 hk22 v4 S5 hf H locs ls hM hl
      unfold b_X11_miss_22 at hf
      refine lv_iload hx hb dX11_miss_22 (lv_at hl 4 rfl) ?_
      refine lv_iload hx hb dX11_miss_24 (lv_at hl 3 rfl) ?_
      refine lv_icmp_gt (tgt := 55) hx hb dX11_miss_26 (by decide) (fun c6 => ?_) (fun c6 => ?_)
      · replace hf := it_t c6 hf
        refine lv_iconst (v := 1) hx hb dX11_miss_55 (by decide) ?_
        obtain ⟨e1, e2⟩ := so_2 hf
        cases e1; cases e2
        exact hQ _ _ _ _ _ _ dX11_miss_56 hM (by decide) (by decide)
      · replace hf := it_f c6 hf
        refine lv_aload_n hx hb dX11_miss_29 rfl (lv_at hl 0 rfl) ?_
        refine g_get hC hM inX11_miss_X11 0 mE0 clX11 20 (by decide) tX11_miss_2 TX11_20 mV0_20 dX11_miss_30 ?_
        refine lv_sipush (v := 144) hx hb dX11_miss_33 (by decide) ?_
        refine lv_iload_n hx hb dX11_miss_36 rfl (lv_at hl 1 rfl) ?_
        refine lv_imul hx hb dX11_miss_37 ?_
        refine lv_bipush (v := 24) hx hb dX11_miss_38 (by decide) ?_
        refine lv_iload_n hx hb dX11_miss_40 rfl (lv_at hl 2 rfl) ?_
        refine lv_imul hx hb dX11_miss_41 ?_
        refine lv_iadd hx hb dX11_miss_42 ?_
        refine lv_iload hx hb dX11_miss_43 (lv_at hl 4 rfl) ?_
        refine lv_iadd hx hb dX11_miss_45 ?_
        refine lv_bipush (v := (-100)) hx hb dX11_miss_46 (by decide) ?_
        obtain ⟨h7, hf⟩ := ck_s hf
        refine g_iast hC hM 14 mE14 h7 mA14 dX11_miss_48 (fun H locs hM => ?_)
        obtain ⟨S8, hf, hM⟩ := mnm hf hM
        obtain ⟨v9, ev9⟩ : ∃ y : Int32, y = v4 + 1 := ⟨_, rfl⟩
        replace hf := nm_q ev9 hf
        refine lv_iinc (v := v9) (lv' := [(5, .int v9), (0, .ref (a 0)), (1, .int p0), (2, .int p1), (4, .int p3)]) hx hb dX11_miss_49 hl (k := 4) rfl (by rw [ev9]; rfl) (by decide) rfl (fun ls hl => ?_)
        refine lv_goto (tgt := 22) hx hb dX11_miss_52 (by decide) ?_
        exact hk22 _ _ hf _ _ _ hM (lv_sub hl [1, 2, 3, 4, 0] rfl)
    · intro k22 hk22 hf
      exact hk22 _ _ hf _ _ _ hM (lv_sub hl [1, 2, 3, 5, 0] rfl)
  · replace hf := it_t c3 hf
    refine lv_iconst (v := 0) hx hb dX11_miss_17 (by decide) ?_
    obtain ⟨e1, e2⟩ := so_2 hf
    cases e1; cases e2
    exact hQ _ _ _ _ _ _ dX11_miss_18 hM (by decide) (by decide)

theorem hd_X11_number : yX11_number.cls = RX11 ∧ yX11_number.cls ≠ "java/lang/invoke/MethodHandle" ∧ yX11_number.cls ≠ "java/lang/invoke/VarHandle" ∧ (parseMethodDescriptor yX11_number.desc).map (fun d => d.parameters.length) = some 3 := by decide +kernel
theorem tX11_number_1 : Cond.fieldLink RX11 94 "WeatherTellerModel" "thrown" "I" ∈ wsX11_number := List.mem_of_getElem? (i := 1) rfl
theorem inX11_number_X11 : ∀ w ∈ u_ws RX11 TX11 50, w ∈ wsX11_number := fun _ h => List.mem_cons_of_mem _ (List.mem_append_right _ h)
theorem tX11_number_2 : Cond.fieldLink RX11 54 "WeatherTellerModel" "table" "[I" ∈ wsX11_number := List.mem_of_getElem? (i := 2) rfl
def f_X11_number (N : Nat) (p0 : Int32) (p1 : Int32) (p2 : Int32) (S : St) : Option (Int32 × St) :=
  nm (puI S 0 2 0) fun S1 =>
  bd (f_X11_areHours N p0 p1 p2 p2 S1) fun v2 =>
  if v2 = 0 then
    some ((-100), S1)
  else
    ck (((144 * p0) + (24 * p1)) + p2) 864 <|
    some ((S1.1 14 (((144 * p0) + (24 * p1)) + p2).toNatClampNeg), S1)
abbrev rmX11_number : Room := { frames := 1, cells := 0, slots := 0, locals := 24 }
set_option maxRecDepth 100000 in
set_option maxHeartbeats 4000000 in
theorem c_X11_number (l : Launch) (D : va_G) (cs : Nat → ClassId) (a : Nat → Nat) (N : Nat) (p0 : Int32) (p1 : Int32) (p2 : Int32) (S : St) (rz : Int32) (Sz : St) (hf : f_X11_number N p0 p1 p2 S = some (rz, Sz)) : gMi l yX11_number wsX11_number rmX11_number D cs [.ref (a 0), .int p0, .int p1, .int p2] (mcells cs a S) rz (mcells cs a Sz) := by
  unfold f_X11_number at hf
  refine gE_i (cc := cX11_number) (maxL := 4) (by decide) rfl (Nat.le_of_ble_eq_true rfl) ?_
  intro p e s m args below meth c A Q hC hA hQ hM ls hl
  obtain ⟨hx, hb, hml, hown, hts⟩ := hC.1
  have hl : lv_has ls 4 [(0, .ref (a 0)), (1, .int p0), (2, .int p1), (3, .int p2)] := hl
  refine lv_aload_n hx hb dX11_number_0 rfl (lv_at hl 0 rfl) ?_
  refine lv_iconst (v := 0) hx hb dX11_number_1 (by decide) ?_
  refine g_put hC hM inX11_number_X11 tyX11_ok nmX11 0 mE0 clX11 2 (by decide) tX11_number_1 TX11_2 tyX11_2 rfl rfl (by rw [mL0]; decide) mP0_2 dX11_number_2 (fun H locs hM => ?_)
  obtain ⟨S1, hf, hM⟩ := mnm hf hM
  refine lv_aload_n hx hb dX11_number_5 rfl (lv_at hl 0 rfl) ?_
  refine lv_iload_n hx hb dX11_number_6 rfl (lv_at hl 1 rfl) ?_
  refine lv_iload_n hx hb dX11_number_7 rfl (lv_at hl 2 rfl) ?_
  refine lv_iload_n hx hb dX11_number_8 rfl (lv_at hl 3 rfl) ?_
  refine lv_iload_n hx hb dX11_number_9 rfl (lv_at hl 3 rfl) ?_
  obtain ⟨v2, hc, hf⟩ := bd_s hf
  refine gV_i hC hM hA hl.1 [.int p0, .int p1, .int p2, .int p2] [] (c_X11_areHours l D cs a N p0 p1 p2 p2 S1 v2 hc) gX11_number_X11_areHours rfl hd_X11_areHours ⟨by decide, by decide⟩ 0 11 clX11 rfl mE0 (Nat.le_of_ble_eq_true rfl) dX11_number_10 rfl ⟨by decide, by decide⟩ (fun H locs hM => ?_)
  refine lv_if_eq (tgt := 36) hx hb dX11_number_13 (by decide) (fun c3 => ?_) (fun c3 => ?_)
  · replace hf := it_t c3 hf
    refine lv_bipush (v := (-100)) hx hb dX11_number_36 (by decide) ?_
    obtain ⟨e1, e2⟩ := so_2 hf
    cases e1; cases e2
    exact hQ _ _ _ _ _ _ dX11_number_38 hM (by decide) (by decide)
  · replace hf := it_f c3 hf
    refine lv_aload_n hx hb dX11_number_16 rfl (lv_at hl 0 rfl) ?_
    refine g_get hC hM inX11_number_X11 0 mE0 clX11 20 (by decide) tX11_number_2 TX11_20 mV0_20 dX11_number_17 ?_
    refine lv_sipush (v := 144) hx hb dX11_number_20 (by decide) ?_
    refine lv_iload_n hx hb dX11_number_23 rfl (lv_at hl 1 rfl) ?_
    refine lv_imul hx hb dX11_number_24 ?_
    refine lv_bipush (v := 24) hx hb dX11_number_25 (by decide) ?_
    refine lv_iload_n hx hb dX11_number_27 rfl (lv_at hl 2 rfl) ?_
    refine lv_imul hx hb dX11_number_28 ?_
    refine lv_iadd hx hb dX11_number_29 ?_
    refine lv_iload_n hx hb dX11_number_30 rfl (lv_at hl 3 rfl) ?_
    refine lv_iadd hx hb dX11_number_31 ?_
    obtain ⟨h4, hf⟩ := ck_s hf
    refine g_iald hC hM 14 mE14 h4 dX11_number_32 ?_
    refine lv_goto (tgt := 38) hx hb dX11_number_33 (by decide) ?_
    obtain ⟨e1, e2⟩ := so_2 hf
    cases e1; cases e2
    exact hQ _ _ _ _ _ _ dX11_number_38 hM (by decide) (by decide)
