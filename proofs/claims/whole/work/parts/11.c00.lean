theorem hd_X10_isWithin : yX10_isWithin.cls ≠ "java/lang/invoke/MethodHandle" ∧ yX10_isWithin.cls ≠ "java/lang/invoke/VarHandle" ∧ (parseMethodDescriptor yX10_isWithin.desc).map (fun d => d.parameters.length) = some 3 := by decide +kernel
def f_X10_isWithin (N : Nat) (p0 : Int32) (p1 : Int32) (p2 : Int32) : Option (Int32) :=
  z1 <|
  if p0 < p1 then
    some 0
  else
    if p2 < p0 then
      some 0
    else
      some 1
abbrev rmX10_isWithin : Room := { frames := 0, cells := 0, slots := 0, locals := 0 }
set_option maxRecDepth 100000 in
set_option maxHeartbeats 4000000 in
theorem c_X10_isWithin (l : Launch) (D : va_G) (cs : Nat → ClassId) (w : va_W) (N : Nat) (p0 : Int32) (p1 : Int32) (p2 : Int32) (rz : Int32) (hf : f_X10_isWithin N p0 p1 p2 = some rz) : gMi l yX10_isWithin wsX10_isWithin rmX10_isWithin D cs [.int p0, .int p1, .int p2] w rz w := by
  unfold f_X10_isWithin at hf
  obtain ⟨hrz, hf⟩ := z1_s hf
  refine gE_z (cc := cX10_isWithin) (maxL := 3) hrz (by decide) rfl (Nat.le_of_ble_eq_true rfl) ?_
  intro p e s m args below meth c A Q hC hA hQ hM ls hl
  obtain ⟨hx, hb, hml, hown, hts⟩ := hC.1
  have hl : lv_has ls 3 [(0, .int p0), (1, .int p1), (2, .int p2)] := hl
  refine lv_iload_n hx hb dX10_isWithin_0 rfl (lv_at hl 0 rfl) ?_
  refine lv_iload_n hx hb dX10_isWithin_1 rfl (lv_at hl 1 rfl) ?_
  refine lv_icmp_lt (tgt := 14) hx hb dX10_isWithin_2 (by decide) (fun c1 => ?_) (fun c1 => ?_)
  · replace hf := it_t c1 hf
    refine lv_iconst (v := 0) hx hb dX10_isWithin_14 (by decide) ?_
    cases so_1 hf
    exact hQ _ _ _ _ _ _ dX10_isWithin_15 hM (by decide) (by decide)
  · replace hf := it_f c1 hf
    refine lv_iload_n hx hb dX10_isWithin_5 rfl (lv_at hl 0 rfl) ?_
    refine lv_iload_n hx hb dX10_isWithin_6 rfl (lv_at hl 2 rfl) ?_
    refine lv_icmp_gt (tgt := 14) hx hb dX10_isWithin_7 (by decide) (fun c2 => ?_) (fun c2 => ?_)
    · replace hf := it_t c2 hf
      refine lv_iconst (v := 0) hx hb dX10_isWithin_14 (by decide) ?_
      cases so_1 hf
      exact hQ _ _ _ _ _ _ dX10_isWithin_15 hM (by decide) (by decide)
    · replace hf := it_f c2 hf
      refine lv_iconst (v := 1) hx hb dX10_isWithin_10 (by decide) ?_
      refine lv_goto (tgt := 15) hx hb dX10_isWithin_11 (by decide) ?_
      cases so_1 hf
      exact hQ _ _ _ _ _ _ dX10_isWithin_15 hM (by decide) (by decide)

theorem hd_X10_hasBit : yX10_hasBit.cls ≠ "java/lang/invoke/MethodHandle" ∧ yX10_hasBit.cls ≠ "java/lang/invoke/VarHandle" ∧ (parseMethodDescriptor yX10_hasBit.desc).map (fun d => d.parameters.length) = some 2 := by decide +kernel
def f_X10_hasBit (N : Nat) (p0 : Int32) (p1 : Int32) : Option (Int32) :=
  z1 <|
  if ((p0 >>> (p1 &&& 31)) &&& 1) = 0 then
    some 0
  else
    some 1
abbrev rmX10_hasBit : Room := { frames := 0, cells := 0, slots := 0, locals := 0 }
set_option maxRecDepth 100000 in
set_option maxHeartbeats 4000000 in
theorem c_X10_hasBit (l : Launch) (D : va_G) (cs : Nat → ClassId) (w : va_W) (N : Nat) (p0 : Int32) (p1 : Int32) (rz : Int32) (hf : f_X10_hasBit N p0 p1 = some rz) : gMi l yX10_hasBit wsX10_hasBit rmX10_hasBit D cs [.int p0, .int p1] w rz w := by
  unfold f_X10_hasBit at hf
  obtain ⟨hrz, hf⟩ := z1_s hf
  refine gE_z (cc := cX10_hasBit) (maxL := 2) hrz (by decide) rfl (Nat.le_of_ble_eq_true rfl) ?_
  intro p e s m args below meth c A Q hC hA hQ hM ls hl
  obtain ⟨hx, hb, hml, hown, hts⟩ := hC.1
  have hl : lv_has ls 2 [(0, .int p0), (1, .int p1)] := hl
  refine lv_iload_n hx hb dX10_hasBit_0 rfl (lv_at hl 0 rfl) ?_
  refine lv_iload_n hx hb dX10_hasBit_1 rfl (lv_at hl 1 rfl) ?_
  refine lv_ishr hx hb dX10_hasBit_2 ?_
  refine lv_iconst (v := 1) hx hb dX10_hasBit_3 (by decide) ?_
  refine lv_iand hx hb dX10_hasBit_4 ?_
  refine lv_if_eq (tgt := 12) hx hb dX10_hasBit_5 (by decide) (fun c1 => ?_) (fun c1 => ?_)
  · replace hf := it_t c1 hf
    refine lv_iconst (v := 0) hx hb dX10_hasBit_12 (by decide) ?_
    cases so_1 hf
    exact hQ _ _ _ _ _ _ dX10_hasBit_13 hM (by decide) (by decide)
  · replace hf := it_f c1 hf
    refine lv_iconst (v := 1) hx hb dX10_hasBit_8 (by decide) ?_
    refine lv_goto (tgt := 13) hx hb dX10_hasBit_9 (by decide) ?_
    cases so_1 hf
    exact hQ _ _ _ _ _ _ dX10_hasBit_13 hM (by decide) (by decide)

theorem hd_X10_staysInSpan : yX10_staysInSpan.cls ≠ "java/lang/invoke/MethodHandle" ∧ yX10_staysInSpan.cls ≠ "java/lang/invoke/VarHandle" ∧ (parseMethodDescriptor yX10_staysInSpan.desc).map (fun d => d.parameters.length) = some 3 := by decide +kernel
def f_X10_staysInSpan (N : Nat) (p0 : Int32) (p1 : Int32) (p2 : Int32) : Option (Int32) :=
  z1 <|
  bd (f_X10_isWithin N p1 (-99) 99) fun v1 =>
  if v1 = 0 then
    some 0
  else
    bd (f_X10_isWithin N p0 (-99) 999) fun v3 =>
    if v3 = 0 then
      some 0
    else
      bd (f_X10_isWithin N (p0 + (p2 * p1)) (-99) 999) fun v5 =>
      if v5 = 0 then
        some 0
      else
        some 1
abbrev rmX10_staysInSpan : Room := { frames := 1, cells := 0, slots := 0, locals := 22 }
set_option maxRecDepth 100000 in
set_option maxHeartbeats 4000000 in
theorem c_X10_staysInSpan (l : Launch) (D : va_G) (cs : Nat → ClassId) (w : va_W) (N : Nat) (p0 : Int32) (p1 : Int32) (p2 : Int32) (rz : Int32) (hf : f_X10_staysInSpan N p0 p1 p2 = some rz) : gMi l yX10_staysInSpan wsX10_staysInSpan rmX10_staysInSpan D cs [.int p0, .int p1, .int p2] w rz w := by
  unfold f_X10_staysInSpan at hf
  obtain ⟨hrz, hf⟩ := z1_s hf
  refine gE_z (cc := cX10_staysInSpan) (maxL := 3) hrz (by decide) rfl (Nat.le_of_ble_eq_true rfl) ?_
  intro p e s m args below meth c A Q hC hA hQ hM ls hl
  obtain ⟨hx, hb, hml, hown, hts⟩ := hC.1
  have hl : lv_has ls 3 [(0, .int p0), (1, .int p1), (2, .int p2)] := hl
  refine lv_iload_n hx hb dX10_staysInSpan_0 rfl (lv_at hl 1 rfl) ?_
  refine lv_bipush (v := (-99)) hx hb dX10_staysInSpan_1 (by decide) ?_
  refine lv_bipush (v := 99) hx hb dX10_staysInSpan_3 (by decide) ?_
  obtain ⟨v1, hc, hf⟩ := bd_s hf
  refine gS_i hC hM hA hl.1 [.int p1, .int (-99), .int 99] [] (c_X10_isWithin l D cs w N p1 (-99) 99 v1 hc) gX10_staysInSpan_X10_isWithin rfl hd_X10_isWithin ⟨by decide, by decide⟩ (Nat.le_of_ble_eq_true rfl) dX10_staysInSpan_5 rfl ⟨by decide, by decide⟩ (fun H locs hM => ?_)
  refine lv_if_eq (tgt := 43) hx hb dX10_staysInSpan_8 (by decide) (fun c2 => ?_) (fun c2 => ?_)
  · replace hf := it_t c2 hf
    refine lv_iconst (v := 0) hx hb dX10_staysInSpan_43 (by decide) ?_
    cases so_1 hf
    exact hQ _ _ _ _ _ _ dX10_staysInSpan_44 hM (by decide) (by decide)
  · replace hf := it_f c2 hf
    refine lv_iload_n hx hb dX10_staysInSpan_11 rfl (lv_at hl 0 rfl) ?_
    refine lv_bipush (v := (-99)) hx hb dX10_staysInSpan_12 (by decide) ?_
    refine lv_sipush (v := 999) hx hb dX10_staysInSpan_14 (by decide) ?_
    obtain ⟨v3, hc, hf⟩ := bd_s hf
    refine gS_i hC hM hA hl.1 [.int p0, .int (-99), .int 999] [] (c_X10_isWithin l D cs w N p0 (-99) 999 v3 hc) gX10_staysInSpan_X10_isWithin rfl hd_X10_isWithin ⟨by decide, by decide⟩ (Nat.le_of_ble_eq_true rfl) dX10_staysInSpan_17 rfl ⟨by decide, by decide⟩ (fun H locs hM => ?_)
    refine lv_if_eq (tgt := 43) hx hb dX10_staysInSpan_20 (by decide) (fun c4 => ?_) (fun c4 => ?_)
    · replace hf := it_t c4 hf
      refine lv_iconst (v := 0) hx hb dX10_staysInSpan_43 (by decide) ?_
      cases so_1 hf
      exact hQ _ _ _ _ _ _ dX10_staysInSpan_44 hM (by decide) (by decide)
    · replace hf := it_f c4 hf
      refine lv_iload_n hx hb dX10_staysInSpan_23 rfl (lv_at hl 0 rfl) ?_
      refine lv_iload_n hx hb dX10_staysInSpan_24 rfl (lv_at hl 2 rfl) ?_
      refine lv_iload_n hx hb dX10_staysInSpan_25 rfl (lv_at hl 1 rfl) ?_
      refine lv_imul hx hb dX10_staysInSpan_26 ?_
      refine lv_iadd hx hb dX10_staysInSpan_27 ?_
      refine lv_bipush (v := (-99)) hx hb dX10_staysInSpan_28 (by decide) ?_
      refine lv_sipush (v := 999) hx hb dX10_staysInSpan_30 (by decide) ?_
      obtain ⟨v5, hc, hf⟩ := bd_s hf
      refine gS_i hC hM hA hl.1 [.int (p0 + (p2 * p1)), .int (-99), .int 999] [] (c_X10_isWithin l D cs w N (p0 + (p2 * p1)) (-99) 999 v5 hc) gX10_staysInSpan_X10_isWithin rfl hd_X10_isWithin ⟨by decide, by decide⟩ (Nat.le_of_ble_eq_true rfl) dX10_staysInSpan_33 rfl ⟨by decide, by decide⟩ (fun H locs hM => ?_)
      refine lv_if_eq (tgt := 43) hx hb dX10_staysInSpan_36 (by decide) (fun c6 => ?_) (fun c6 => ?_)
      · replace hf := it_t c6 hf
        refine lv_iconst (v := 0) hx hb dX10_staysInSpan_43 (by decide) ?_
        cases so_1 hf
        exact hQ _ _ _ _ _ _ dX10_staysInSpan_44 hM (by decide) (by decide)
      · replace hf := it_f c6 hf
        refine lv_iconst (v := 1) hx hb dX10_staysInSpan_39 (by decide) ?_
        refine lv_goto (tgt := 44) hx hb dX10_staysInSpan_40 (by decide) ?_
        cases so_1 hf
        exact hQ _ _ _ _ _ _ dX10_staysInSpan_44 hM (by decide) (by decide)

theorem hd_X7_cellOf : yX7_cellOf.cls ≠ "java/lang/invoke/MethodHandle" ∧ yX7_cellOf.cls ≠ "java/lang/invoke/VarHandle" ∧ (parseMethodDescriptor yX7_cellOf.desc).map (fun d => d.parameters.length) = some 3 := by decide +kernel
theorem tX7_cellOf_1 : Cond.static yX10_isWithin ∈ wsX7_cellOf := List.mem_of_getElem? (i := 1) rfl
theorem tX7_cellOf_2 : Cond.initialized RX10 ∈ wsX7_cellOf := List.mem_of_getElem? (i := 2) rfl
def f_X7_cellOf (N : Nat) (p0 : Int32) (p1 : Int32) (p2 : Int32) : Option (Int32) :=
  bd (f_X10_isWithin N p0 0 2) fun v1 =>
  if v1 = 0 then
    some (-1)
  else
    bd (f_X10_isWithin N p1 0 5) fun v3 =>
    if v3 = 0 then
      some (-1)
    else
      bd (f_X10_isWithin N p2 0 23) fun v5 =>
      if v5 = 0 then
        some (-1)
      else
        some ((((p0 * 6) + p1) * 24) + p2)
abbrev rmX7_cellOf : Room := { frames := 1, cells := 0, slots := 0, locals := 22 }
set_option maxRecDepth 100000 in
set_option maxHeartbeats 4000000 in
theorem c_X7_cellOf (l : Launch) (D : va_G) (cs : Nat → ClassId) (w : va_W) (N : Nat) (p0 : Int32) (p1 : Int32) (p2 : Int32) (rz : Int32) (hf : f_X7_cellOf N p0 p1 p2 = some rz) : gMi l yX7_cellOf wsX7_cellOf rmX7_cellOf D cs [.int p0, .int p1, .int p2] w rz w := by
  unfold f_X7_cellOf at hf
  refine gE_i (cc := cX7_cellOf) (maxL := 3) (by decide) rfl (Nat.le_of_ble_eq_true rfl) ?_
  intro p e s m args below meth c A Q hC hA hQ hM ls hl
  obtain ⟨hx, hb, hml, hown, hts⟩ := hC.1
  have hl : lv_has ls 3 [(0, .int p0), (1, .int p1), (2, .int p2)] := hl
  refine lv_iload_n hx hb dX7_cellOf_0 rfl (lv_at hl 0 rfl) ?_
  refine lv_iconst (v := 0) hx hb dX7_cellOf_1 (by decide) ?_
  refine lv_iconst (v := 2) hx hb dX7_cellOf_2 (by decide) ?_
  obtain ⟨v1, hc, hf⟩ := bd_s hf
  refine gN_i (host := "WeatherTeller") hC hM hA hl.1 [.int p0, .int 0, .int 2] [] (c_X10_isWithin l D cs w N p0 0 2 v1 hc) ggX7_cellOf_X10_isWithin tX7_cellOf_1 tX7_cellOf_2 (by decide) rfl hd_X10_isWithin ⟨by decide, by decide⟩ (Nat.le_of_ble_eq_true rfl) dX7_cellOf_3 rfl ⟨by decide, by decide⟩ (fun H locs hM => ?_)
  refine lv_if_eq (tgt := 28) hx hb dX7_cellOf_6 (by decide) (fun c2 => ?_) (fun c2 => ?_)
  · replace hf := it_t c2 hf
    refine lv_iconst (v := (-1)) hx hb dX7_cellOf_28 (by decide) ?_
    cases so_1 hf
    exact hQ _ _ _ _ _ _ dX7_cellOf_29 hM (by decide) (by decide)
  · replace hf := it_f c2 hf
    refine lv_iload_n hx hb dX7_cellOf_9 rfl (lv_at hl 1 rfl) ?_
    refine lv_iconst (v := 0) hx hb dX7_cellOf_10 (by decide) ?_
    refine lv_iconst (v := 5) hx hb dX7_cellOf_11 (by decide) ?_
    obtain ⟨v3, hc, hf⟩ := bd_s hf
    refine gN_i (host := "WeatherTeller") hC hM hA hl.1 [.int p1, .int 0, .int 5] [] (c_X10_isWithin l D cs w N p1 0 5 v3 hc) ggX7_cellOf_X10_isWithin tX7_cellOf_1 tX7_cellOf_2 (by decide) rfl hd_X10_isWithin ⟨by decide, by decide⟩ (Nat.le_of_ble_eq_true rfl) dX7_cellOf_12 rfl ⟨by decide, by decide⟩ (fun H locs hM => ?_)
    refine lv_if_eq (tgt := 28) hx hb dX7_cellOf_15 (by decide) (fun c4 => ?_) (fun c4 => ?_)
    · replace hf := it_t c4 hf
      refine lv_iconst (v := (-1)) hx hb dX7_cellOf_28 (by decide) ?_
      cases so_1 hf
      exact hQ _ _ _ _ _ _ dX7_cellOf_29 hM (by decide) (by decide)
    · replace hf := it_f c4 hf
      refine lv_iload_n hx hb dX7_cellOf_18 rfl (lv_at hl 2 rfl) ?_
      refine lv_iconst (v := 0) hx hb dX7_cellOf_19 (by decide) ?_
      refine lv_bipush (v := 23) hx hb dX7_cellOf_20 (by decide) ?_
      obtain ⟨v5, hc, hf⟩ := bd_s hf
      refine gN_i (host := "WeatherTeller") hC hM hA hl.1 [.int p2, .int 0, .int 23] [] (c_X10_isWithin l D cs w N p2 0 23 v5 hc) ggX7_cellOf_X10_isWithin tX7_cellOf_1 tX7_cellOf_2 (by decide) rfl hd_X10_isWithin ⟨by decide, by decide⟩ (Nat.le_of_ble_eq_true rfl) dX7_cellOf_22 rfl ⟨by decide, by decide⟩ (fun H locs hM => ?_)
      refine lv_if_ne (tgt := 30) hx hb dX7_cellOf_25 (by decide) (fun c6 => ?_) (fun c6 => ?_)
      · replace hf := it_f c6 hf
        refine lv_iload_n hx hb dX7_cellOf_30 rfl (lv_at hl 0 rfl) ?_
        refine lv_bipush (v := 6) hx hb dX7_cellOf_31 (by decide) ?_
        refine lv_imul hx hb dX7_cellOf_33 ?_
        refine lv_iload_n hx hb dX7_cellOf_34 rfl (lv_at hl 1 rfl) ?_
        refine lv_iadd hx hb dX7_cellOf_35 ?_
        refine lv_bipush (v := 24) hx hb dX7_cellOf_36 (by decide) ?_
        refine lv_imul hx hb dX7_cellOf_38 ?_
        refine lv_iload_n hx hb dX7_cellOf_39 rfl (lv_at hl 2 rfl) ?_
        refine lv_iadd hx hb dX7_cellOf_40 ?_
        cases so_1 hf
        exact hQ _ _ _ _ _ _ dX7_cellOf_41 hM (by decide) (by decide)
      · replace hf := it_t c6 hf
        refine lv_iconst (v := (-1)) hx hb dX7_cellOf_28 (by decide) ?_
        cases so_1 hf
        exact hQ _ _ _ _ _ _ dX7_cellOf_29 hM (by decide) (by decide)

theorem hd_J6_bitCount_0f7a4 : yJ6_bitCount_0f7a4.cls ≠ "java/lang/invoke/MethodHandle" ∧ yJ6_bitCount_0f7a4.cls ≠ "java/lang/invoke/VarHandle" ∧ (parseMethodDescriptor yJ6_bitCount_0f7a4.desc).map (fun d => d.parameters.length) = some 1 := by decide +kernel
theorem tJ6_bitCount_0f7a4_1 : Cond.constant RJ6 265 (1431655765) ∈ wsJ6_bitCount_0f7a4 := List.mem_of_getElem? (i := 1) rfl
theorem tJ6_bitCount_0f7a4_2 : Cond.constant RJ6 266 (858993459) ∈ wsJ6_bitCount_0f7a4 := List.mem_of_getElem? (i := 2) rfl
theorem tJ6_bitCount_0f7a4_3 : Cond.constant RJ6 267 (252645135) ∈ wsJ6_bitCount_0f7a4 := List.mem_of_getElem? (i := 3) rfl
def f_J6_bitCount_0f7a4 (N : Nat) (p0 : Int32) : Option (Int32) :=
  nm (p0 - ((p0.toUInt32 >>> ((1 : Int32).toUInt32 &&& Int32.toUInt32 31)).toInt32 &&& 1431655765)) fun v1 =>
  nm ((v1 &&& 858993459) + ((v1.toUInt32 >>> ((2 : Int32).toUInt32 &&& Int32.toUInt32 31)).toInt32 &&& 858993459)) fun v2 =>
  nm ((v2 + (v2.toUInt32 >>> ((4 : Int32).toUInt32 &&& Int32.toUInt32 31)).toInt32) &&& 252645135) fun v3 =>
  nm (v3 + (v3.toUInt32 >>> ((8 : Int32).toUInt32 &&& Int32.toUInt32 31)).toInt32) fun v4 =>
  nm (v4 + (v4.toUInt32 >>> ((16 : Int32).toUInt32 &&& Int32.toUInt32 31)).toInt32) fun v5 =>
  some (v5 &&& 63)
abbrev rmJ6_bitCount_0f7a4 : Room := { frames := 0, cells := 0, slots := 0, locals := 0 }
set_option maxRecDepth 100000 in
set_option maxHeartbeats 4000000 in
theorem c_J6_bitCount_0f7a4 (l : Launch) (D : va_G) (cs : Nat → ClassId) (w : va_W) (N : Nat) (p0 : Int32) (rz : Int32) (hf : f_J6_bitCount_0f7a4 N p0 = some rz) : gMi l yJ6_bitCount_0f7a4 wsJ6_bitCount_0f7a4 rmJ6_bitCount_0f7a4 D cs [.int p0] w rz w := by
  unfold f_J6_bitCount_0f7a4 at hf
  refine gE_i (cc := cJ6_bitCount_0f7a4) (maxL := 1) (by decide) rfl (Nat.le_of_ble_eq_true rfl) ?_
  intro p e s m args below meth c A Q hC hA hQ hM ls hl
  obtain ⟨hx, hb, hml, hown, hts⟩ := hC.1
  have hl : lv_has ls 1 [(0, .int p0)] := hl
  refine lv_iload_n hx hb dJ6_bitCount_0f7a4_0 rfl (lv_at hl 0 rfl) ?_
  refine lv_iload_n hx hb dJ6_bitCount_0f7a4_1 rfl (lv_at hl 0 rfl) ?_
  refine lv_iconst (v := 1) hx hb dJ6_bitCount_0f7a4_2 (by decide) ?_
  refine lv_iushr hx hb dJ6_bitCount_0f7a4_3 rfl ?_
  refine lv_ldcw hx hb hown (hts _ tJ6_bitCount_0f7a4_1) dJ6_bitCount_0f7a4_4 ?_
  refine lv_iand hx hb dJ6_bitCount_0f7a4_7 ?_
  refine lv_isub hx hb dJ6_bitCount_0f7a4_8 ?_
  refine lv_topi (fun v1 ev1 => ?_)
  replace hf := nm_q ev1 hf
  refine lv_istore_n (lv' := [(0, .int v1)]) hx hb dJ6_bitCount_0f7a4_9 rfl hl (by decide) rfl (fun ls hl => ?_)
  refine lv_iload_n hx hb dJ6_bitCount_0f7a4_10 rfl (lv_at hl 0 rfl) ?_
  refine lv_ldcw hx hb hown (hts _ tJ6_bitCount_0f7a4_2) dJ6_bitCount_0f7a4_11 ?_
  refine lv_iand hx hb dJ6_bitCount_0f7a4_14 ?_
  refine lv_iload_n hx hb dJ6_bitCount_0f7a4_15 rfl (lv_at hl 0 rfl) ?_
  refine lv_iconst (v := 2) hx hb dJ6_bitCount_0f7a4_16 (by decide) ?_
  refine lv_iushr hx hb dJ6_bitCount_0f7a4_17 rfl ?_
  refine lv_ldcw hx hb hown (hts _ tJ6_bitCount_0f7a4_2) dJ6_bitCount_0f7a4_18 ?_
  refine lv_iand hx hb dJ6_bitCount_0f7a4_21 ?_
  refine lv_iadd hx hb dJ6_bitCount_0f7a4_22 ?_
  refine lv_topi (fun v2 ev2 => ?_)
  replace hf := nm_q ev2 hf
  refine lv_istore_n (lv' := [(0, .int v2)]) hx hb dJ6_bitCount_0f7a4_23 rfl hl (by decide) rfl (fun ls hl => ?_)
  refine lv_iload_n hx hb dJ6_bitCount_0f7a4_24 rfl (lv_at hl 0 rfl) ?_
  refine lv_iload_n hx hb dJ6_bitCount_0f7a4_25 rfl (lv_at hl 0 rfl) ?_
  refine lv_iconst (v := 4) hx hb dJ6_bitCount_0f7a4_26 (by decide) ?_
  refine lv_iushr hx hb dJ6_bitCount_0f7a4_27 rfl ?_
  refine lv_iadd hx hb dJ6_bitCount_0f7a4_28 ?_
  refine lv_ldcw hx hb hown (hts _ tJ6_bitCount_0f7a4_3) dJ6_bitCount_0f7a4_29 ?_
  refine lv_iand hx hb dJ6_bitCount_0f7a4_32 ?_
  refine lv_topi (fun v3 ev3 => ?_)
  replace hf := nm_q ev3 hf
  refine lv_istore_n (lv' := [(0, .int v3)]) hx hb dJ6_bitCount_0f7a4_33 rfl hl (by decide) rfl (fun ls hl => ?_)
  refine lv_iload_n hx hb dJ6_bitCount_0f7a4_34 rfl (lv_at hl 0 rfl) ?_
  refine lv_iload_n hx hb dJ6_bitCount_0f7a4_35 rfl (lv_at hl 0 rfl) ?_
  refine lv_bipush (v := 8) hx hb dJ6_bitCount_0f7a4_36 (by decide) ?_
  refine lv_iushr hx hb dJ6_bitCount_0f7a4_38 rfl ?_
  refine lv_iadd hx hb dJ6_bitCount_0f7a4_39 ?_
  refine lv_topi (fun v4 ev4 => ?_)
  replace hf := nm_q ev4 hf
  refine lv_istore_n (lv' := [(0, .int v4)]) hx hb dJ6_bitCount_0f7a4_40 rfl hl (by decide) rfl (fun ls hl => ?_)
  refine lv_iload_n hx hb dJ6_bitCount_0f7a4_41 rfl (lv_at hl 0 rfl) ?_
  refine lv_iload_n hx hb dJ6_bitCount_0f7a4_42 rfl (lv_at hl 0 rfl) ?_
  refine lv_bipush (v := 16) hx hb dJ6_bitCount_0f7a4_43 (by decide) ?_
  refine lv_iushr hx hb dJ6_bitCount_0f7a4_45 rfl ?_
  refine lv_iadd hx hb dJ6_bitCount_0f7a4_46 ?_
  refine lv_topi (fun v5 ev5 => ?_)
  replace hf := nm_q ev5 hf
  refine lv_istore_n (lv' := [(0, .int v5)]) hx hb dJ6_bitCount_0f7a4_47 rfl hl (by decide) rfl (fun ls hl => ?_)
  refine lv_iload_n hx hb dJ6_bitCount_0f7a4_48 rfl (lv_at hl 0 rfl) ?_
  refine lv_bipush (v := 63) hx hb dJ6_bitCount_0f7a4_49 (by decide) ?_
  refine lv_iand hx hb dJ6_bitCount_0f7a4_51 ?_
  cases so_1 hf
  exact hQ _ _ _ _ _ _ dJ6_bitCount_0f7a4_52 hM (by decide) (by decide)

theorem hd_J7_fill_53178 : yJ7_fill_53178.cls ≠ "java/lang/invoke/MethodHandle" ∧ yJ7_fill_53178.cls ≠ "java/lang/invoke/VarHandle" ∧ (parseMethodDescriptor yJ7_fill_53178.desc).map (fun d => d.parameters.length) = some 2 := by decide +kernel
def b_J7_fill_53178_5 (rr : Nat) (nn : Nat) (p1 : Int32) (v1 : Int32) (k5 : Int32 → St → Option (St)) (v2 : Int32) (S3 : St) : Option (St) :=
  if v1 ≤ v2 then
    some S3
  else
    ck v2 (nn) <|
    nm (puI S3 rr v2.toNatClampNeg p1) fun S6 =>
    nm (v2 + 1) fun v7 =>
    k5 v7 S6
def f_J7_fill_53178 (N : Nat) (rr : Nat) (nn : Nat) (p1 : Int32) (S : St) : Option (St) :=
  nm (Int32.ofNat nn) fun v1 =>
  jp (lp (fun _ _ => none) (b_J7_fill_53178_5 rr nn p1 v1) N) fun k5 =>
  k5 0 S
abbrev rmJ7_fill_53178_7 : Room := { frames := 0, cells := 0, slots := 0, locals := 0 }
set_option maxRecDepth 100000 in
set_option maxHeartbeats 4000000 in
theorem c_J7_fill_53178_7 (l : Launch) (D : va_G) (cs : Nat → ClassId) (a : Nat → Nat) (q1 q2 : Nat) (N : Nat) (p1 : Int32) (S : St) (Sz : St) (hf : f_J7_fill_53178 N 7 64 p1 S = some Sz) : gMv l yJ7_fill_53178 wsJ7_fill_53178 rmJ7_fill_53178_7 D cs [.ref (a 7), .int p1] (ccells cs a q1 q2 S) (ccells cs a q1 q2 Sz) := by
  unfold f_J7_fill_53178 at hf
  refine gE_v (cc := cJ7_fill_53178) (maxL := 4) (by decide) rfl (Nat.le_of_ble_eq_true rfl) ?_
  intro p e s m args below meth c A Q hC hA hQ hM ls hl
  obtain ⟨hx, hb, hml, hown, hts⟩ := hC.1
  have hl : lv_has ls 4 [(0, .ref (a 7)), (1, .int p1)] := hl
  refine lv_iconst (v := 0) hx hb dJ7_fill_53178_0 (by decide) ?_
  refine lv_istore_n (lv' := [(2, .int 0), (0, .ref (a 7)), (1, .int p1)]) hx hb dJ7_fill_53178_1 rfl hl (by decide) rfl (fun ls hl => ?_)
  refine lv_aload_n hx hb dJ7_fill_53178_2 rfl (lv_at hl 1 rfl) ?_
  refine va_alen (v := (Int32.ofNat 64)) hx hb hC.2.1 hM.1 7 0 cE7 rfl rfl dJ7_fill_53178_3 ?_
  refine lv_topi (fun v1 ev1 => ?_)
  replace hf := nm_q ev1 hf
  refine lv_istore_n (lv' := [(3, .int v1), (2, .int 0), (0, .ref (a 7)), (1, .int p1)]) hx hb dJ7_fill_53178_4 rfl hl (by decide) rfl (fun ls hl => ?_)
  refine jl_W (fun k5 : Int32 → St → Option (St) => ∀ (v2 : Int32) (S3 : St), k5 v2 S3 = some Sz → ∀ (H : Heap) (locs : List Loc) (ls : Array Slot), gw D A s.heap H locs (ccells cs a q1 q2 S3) → lv_has ls 4 [(0, .ref (a 7)), (1, .int p1), (2, .int v2), (3, .int v1)] → W p l e rmJ7_fill_53178_7 s m args below meth c H locs 0 0 Q (F0 m 5 ls [])) ?_ ?_ ?_ hf
  · intro v2 S3 h; cases h
  · intro k5 hk5 v2 S3 hf H locs ls hM hl
    unfold b_J7_fill_53178_5 at hf
    refine lv_iload_n hx hb dJ7_fill_53178_5 rfl (lv_at hl 2 rfl) ?_
    refine lv_iload_n hx hb dJ7_fill_53178_6 rfl (lv_at hl 3 rfl) ?_
    refine lv_icmp_ge (tgt := 20) hx hb dJ7_fill_53178_7 (by decide) (fun c4 => ?_) (fun c4 => ?_)
    · replace hf := it_t c4 hf
      cases so_1 hf
      exact hQ _ _ _ _ _ _ dJ7_fill_53178_20 hM (by decide) (by decide)
    · replace hf := it_f c4 hf
      refine lv_aload_n hx hb dJ7_fill_53178_10 rfl (lv_at hl 0 rfl) ?_
      refine lv_iload_n hx hb dJ7_fill_53178_11 rfl (lv_at hl 2 rfl) ?_
      refine lv_iload_n hx hb dJ7_fill_53178_12 rfl (lv_at hl 1 rfl) ?_
      obtain ⟨h5, hf⟩ := ck_s hf
      refine g_iast hC hM 7 cE7 h5 cA7 dJ7_fill_53178_13 (fun H locs hM => ?_)
      obtain ⟨S6, hf, hM⟩ := cnm hf hM
      obtain ⟨v7, ev7⟩ : ∃ y : Int32, y = v2 + 1 := ⟨_, rfl⟩
      replace hf := nm_q ev7 hf
      refine lv_iinc (v := v7) (lv' := [(2, .int v7), (0, .ref (a 7)), (1, .int p1), (3, .int v1)]) hx hb dJ7_fill_53178_14 hl (k := 2) rfl (by rw [ev7]; rfl) (by decide) rfl (fun ls hl => ?_)
      refine lv_goto (tgt := 5) hx hb dJ7_fill_53178_17 (by decide) ?_
      exact hk5 _ _ hf _ _ _ hM (lv_sub hl [1, 2, 0, 3] rfl)
  · intro k5 hk5 hf
    exact hk5 _ _ hf _ _ _ hM (lv_sub hl [2, 3, 1, 0] rfl)

abbrev rmJ7_fill_53178_20 : Room := { frames := 0, cells := 0, slots := 0, locals := 0 }
set_option maxRecDepth 100000 in
set_option maxHeartbeats 4000000 in
theorem c_J7_fill_53178_20 (l : Launch) (D : va_G) (cs : Nat → ClassId) (a : Nat → Nat) (q1 q2 : Nat) (N : Nat) (p1 : Int32) (S : St) (Sz : St) (hf : f_J7_fill_53178 N 20 401 p1 S = some Sz) : gMv l yJ7_fill_53178 wsJ7_fill_53178 rmJ7_fill_53178_20 D cs [.ref (a 20), .int p1] (ccells cs a q1 q2 S) (ccells cs a q1 q2 Sz) := by
  unfold f_J7_fill_53178 at hf
  refine gE_v (cc := cJ7_fill_53178) (maxL := 4) (by decide) rfl (Nat.le_of_ble_eq_true rfl) ?_
  intro p e s m args below meth c A Q hC hA hQ hM ls hl
  obtain ⟨hx, hb, hml, hown, hts⟩ := hC.1
  have hl : lv_has ls 4 [(0, .ref (a 20)), (1, .int p1)] := hl
  refine lv_iconst (v := 0) hx hb dJ7_fill_53178_0 (by decide) ?_
  refine lv_istore_n (lv' := [(2, .int 0), (0, .ref (a 20)), (1, .int p1)]) hx hb dJ7_fill_53178_1 rfl hl (by decide) rfl (fun ls hl => ?_)
  refine lv_aload_n hx hb dJ7_fill_53178_2 rfl (lv_at hl 1 rfl) ?_
  refine va_alen (v := (Int32.ofNat 401)) hx hb hC.2.1 hM.1 20 0 cE20 rfl rfl dJ7_fill_53178_3 ?_
  refine lv_topi (fun v1 ev1 => ?_)
  replace hf := nm_q ev1 hf
  refine lv_istore_n (lv' := [(3, .int v1), (2, .int 0), (0, .ref (a 20)), (1, .int p1)]) hx hb dJ7_fill_53178_4 rfl hl (by decide) rfl (fun ls hl => ?_)
  refine jl_W (fun k5 : Int32 → St → Option (St) => ∀ (v2 : Int32) (S3 : St), k5 v2 S3 = some Sz → ∀ (H : Heap) (locs : List Loc) (ls : Array Slot), gw D A s.heap H locs (ccells cs a q1 q2 S3) → lv_has ls 4 [(0, .ref (a 20)), (1, .int p1), (2, .int v2), (3, .int v1)] → W p l e rmJ7_fill_53178_20 s m args below meth c H locs 0 0 Q (F0 m 5 ls [])) ?_ ?_ ?_ hf
  · intro v2 S3 h; cases h
  · intro k5 hk5 v2 S3 hf H locs ls hM hl
    unfold b_J7_fill_53178_5 at hf
    refine lv_iload_n hx hb dJ7_fill_53178_5 rfl (lv_at hl 2 rfl) ?_
    refine lv_iload_n hx hb dJ7_fill_53178_6 rfl (lv_at hl 3 rfl) ?_
    refine lv_icmp_ge (tgt := 20) hx hb dJ7_fill_53178_7 (by decide) (fun c4 => ?_) (fun c4 => ?_)
    · replace hf := it_t c4 hf
      cases so_1 hf
      exact hQ _ _ _ _ _ _ dJ7_fill_53178_20 hM (by decide) (by decide)
    · replace hf := it_f c4 hf
      refine lv_aload_n hx hb dJ7_fill_53178_10 rfl (lv_at hl 0 rfl) ?_
      refine lv_iload_n hx hb dJ7_fill_53178_11 rfl (lv_at hl 2 rfl) ?_
      refine lv_iload_n hx hb dJ7_fill_53178_12 rfl (lv_at hl 1 rfl) ?_
      obtain ⟨h5, hf⟩ := ck_s hf
      refine g_iast hC hM 20 cE20 h5 cA20 dJ7_fill_53178_13 (fun H locs hM => ?_)
      obtain ⟨S6, hf, hM⟩ := cnm hf hM
      obtain ⟨v7, ev7⟩ : ∃ y : Int32, y = v2 + 1 := ⟨_, rfl⟩
      replace hf := nm_q ev7 hf
      refine lv_iinc (v := v7) (lv' := [(2, .int v7), (0, .ref (a 20)), (1, .int p1), (3, .int v1)]) hx hb dJ7_fill_53178_14 hl (k := 2) rfl (by rw [ev7]; rfl) (by decide) rfl (fun ls hl => ?_)
      refine lv_goto (tgt := 5) hx hb dJ7_fill_53178_17 (by decide) ?_
      exact hk5 _ _ hf _ _ _ hM (lv_sub hl [1, 2, 0, 3] rfl)
  · intro k5 hk5 hf
    exact hk5 _ _ hf _ _ _ hM (lv_sub hl [2, 3, 1, 0] rfl)

abbrev rmJ7_fill_53178_21 : Room := { frames := 0, cells := 0, slots := 0, locals := 0 }
set_option maxRecDepth 100000 in
set_option maxHeartbeats 4000000 in
theorem c_J7_fill_53178_21 (l : Launch) (D : va_G) (cs : Nat → ClassId) (a : Nat → Nat) (q1 q2 : Nat) (N : Nat) (p1 : Int32) (S : St) (Sz : St) (hf : f_J7_fill_53178 N 21 5616 p1 S = some Sz) : gMv l yJ7_fill_53178 wsJ7_fill_53178 rmJ7_fill_53178_21 D cs [.ref (a 21), .int p1] (ccells cs a q1 q2 S) (ccells cs a q1 q2 Sz) := by
  unfold f_J7_fill_53178 at hf
  refine gE_v (cc := cJ7_fill_53178) (maxL := 4) (by decide) rfl (Nat.le_of_ble_eq_true rfl) ?_
  intro p e s m args below meth c A Q hC hA hQ hM ls hl
  obtain ⟨hx, hb, hml, hown, hts⟩ := hC.1
  have hl : lv_has ls 4 [(0, .ref (a 21)), (1, .int p1)] := hl
  refine lv_iconst (v := 0) hx hb dJ7_fill_53178_0 (by decide) ?_
  refine lv_istore_n (lv' := [(2, .int 0), (0, .ref (a 21)), (1, .int p1)]) hx hb dJ7_fill_53178_1 rfl hl (by decide) rfl (fun ls hl => ?_)
  refine lv_aload_n hx hb dJ7_fill_53178_2 rfl (lv_at hl 1 rfl) ?_
  refine va_alen (v := (Int32.ofNat 5616)) hx hb hC.2.1 hM.1 21 0 cE21 rfl rfl dJ7_fill_53178_3 ?_
  refine lv_topi (fun v1 ev1 => ?_)
  replace hf := nm_q ev1 hf
  refine lv_istore_n (lv' := [(3, .int v1), (2, .int 0), (0, .ref (a 21)), (1, .int p1)]) hx hb dJ7_fill_53178_4 rfl hl (by decide) rfl (fun ls hl => ?_)
  refine jl_W (fun k5 : Int32 → St → Option (St) => ∀ (v2 : Int32) (S3 : St), k5 v2 S3 = some Sz → ∀ (H : Heap) (locs : List Loc) (ls : Array Slot), gw D A s.heap H locs (ccells cs a q1 q2 S3) → lv_has ls 4 [(0, .ref (a 21)), (1, .int p1), (2, .int v2), (3, .int v1)] → W p l e rmJ7_fill_53178_21 s m args below meth c H locs 0 0 Q (F0 m 5 ls [])) ?_ ?_ ?_ hf
  · intro v2 S3 h; cases h
  · intro k5 hk5 v2 S3 hf H locs ls hM hl
    unfold b_J7_fill_53178_5 at hf
    refine lv_iload_n hx hb dJ7_fill_53178_5 rfl (lv_at hl 2 rfl) ?_
    refine lv_iload_n hx hb dJ7_fill_53178_6 rfl (lv_at hl 3 rfl) ?_
    refine lv_icmp_ge (tgt := 20) hx hb dJ7_fill_53178_7 (by decide) (fun c4 => ?_) (fun c4 => ?_)
    · replace hf := it_t c4 hf
      cases so_1 hf
      exact hQ _ _ _ _ _ _ dJ7_fill_53178_20 hM (by decide) (by decide)
    · replace hf := it_f c4 hf
      refine lv_aload_n hx hb dJ7_fill_53178_10 rfl (lv_at hl 0 rfl) ?_
      refine lv_iload_n hx hb dJ7_fill_53178_11 rfl (lv_at hl 2 rfl) ?_
      refine lv_iload_n hx hb dJ7_fill_53178_12 rfl (lv_at hl 1 rfl) ?_
      obtain ⟨h5, hf⟩ := ck_s hf
      refine g_iast hC hM 21 cE21 h5 cA21 dJ7_fill_53178_13 (fun H locs hM => ?_)
      obtain ⟨S6, hf, hM⟩ := cnm hf hM
      obtain ⟨v7, ev7⟩ : ∃ y : Int32, y = v2 + 1 := ⟨_, rfl⟩
      replace hf := nm_q ev7 hf
      refine lv_iinc (v := v7) (lv' := [(2, .int v7), (0, .ref (a 21)), (1, .int p1), (3, .int v1)]) hx hb dJ7_fill_53178_14 hl (k := 2) rfl (by rw [ev7]; rfl) (by decide) rfl (fun ls hl => ?_)
      refine lv_goto (tgt := 5) hx hb dJ7_fill_53178_17 (by decide) ?_
      exact hk5 _ _ hf _ _ _ hM (lv_sub hl [1, 2, 0, 3] rfl)
  · intro k5 hk5 hf
    exact hk5 _ _ hf _ _ _ hM (lv_sub hl [2, 3, 1, 0] rfl)

abbrev rmJ7_fill_53178_49 : Room := { frames := 0, cells := 0, slots := 0, locals := 0 }
set_option maxRecDepth 100000 in
set_option maxHeartbeats 4000000 in
theorem c_J7_fill_53178_49 (l : Launch) (D : va_G) (cs : Nat → ClassId) (a : Nat → Nat) (q1 q2 : Nat) (N : Nat) (p1 : Int32) (S : St) (Sz : St) (hf : f_J7_fill_53178 N 49 432 p1 S = some Sz) : gMv l yJ7_fill_53178 wsJ7_fill_53178 rmJ7_fill_53178_49 D cs [.ref (a 49), .int p1] (ccells cs a q1 q2 S) (ccells cs a q1 q2 Sz) := by
  unfold f_J7_fill_53178 at hf
  refine gE_v (cc := cJ7_fill_53178) (maxL := 4) (by decide) rfl (Nat.le_of_ble_eq_true rfl) ?_
  intro p e s m args below meth c A Q hC hA hQ hM ls hl
  obtain ⟨hx, hb, hml, hown, hts⟩ := hC.1
  have hl : lv_has ls 4 [(0, .ref (a 49)), (1, .int p1)] := hl
  refine lv_iconst (v := 0) hx hb dJ7_fill_53178_0 (by decide) ?_
  refine lv_istore_n (lv' := [(2, .int 0), (0, .ref (a 49)), (1, .int p1)]) hx hb dJ7_fill_53178_1 rfl hl (by decide) rfl (fun ls hl => ?_)
  refine lv_aload_n hx hb dJ7_fill_53178_2 rfl (lv_at hl 1 rfl) ?_
  refine va_alen (v := (Int32.ofNat 432)) hx hb hC.2.1 hM.1 49 0 cE49 rfl rfl dJ7_fill_53178_3 ?_
  refine lv_topi (fun v1 ev1 => ?_)
  replace hf := nm_q ev1 hf
  refine lv_istore_n (lv' := [(3, .int v1), (2, .int 0), (0, .ref (a 49)), (1, .int p1)]) hx hb dJ7_fill_53178_4 rfl hl (by decide) rfl (fun ls hl => ?_)
  refine jl_W (fun k5 : Int32 → St → Option (St) => ∀ (v2 : Int32) (S3 : St), k5 v2 S3 = some Sz → ∀ (H : Heap) (locs : List Loc) (ls : Array Slot), gw D A s.heap H locs (ccells cs a q1 q2 S3) → lv_has ls 4 [(0, .ref (a 49)), (1, .int p1), (2, .int v2), (3, .int v1)] → W p l e rmJ7_fill_53178_49 s m args below meth c H locs 0 0 Q (F0 m 5 ls [])) ?_ ?_ ?_ hf
  · intro v2 S3 h; cases h
  · intro k5 hk5 v2 S3 hf H locs ls hM hl
    unfold b_J7_fill_53178_5 at hf
    refine lv_iload_n hx hb dJ7_fill_53178_5 rfl (lv_at hl 2 rfl) ?_
    refine lv_iload_n hx hb dJ7_fill_53178_6 rfl (lv_at hl 3 rfl) ?_
    refine lv_icmp_ge (tgt := 20) hx hb dJ7_fill_53178_7 (by decide) (fun c4 => ?_) (fun c4 => ?_)
    · replace hf := it_t c4 hf
      cases so_1 hf
      exact hQ _ _ _ _ _ _ dJ7_fill_53178_20 hM (by decide) (by decide)
    · replace hf := it_f c4 hf
      refine lv_aload_n hx hb dJ7_fill_53178_10 rfl (lv_at hl 0 rfl) ?_
      refine lv_iload_n hx hb dJ7_fill_53178_11 rfl (lv_at hl 2 rfl) ?_
      refine lv_iload_n hx hb dJ7_fill_53178_12 rfl (lv_at hl 1 rfl) ?_
      obtain ⟨h5, hf⟩ := ck_s hf
      refine g_iast hC hM 49 cE49 h5 cA49 dJ7_fill_53178_13 (fun H locs hM => ?_)
      obtain ⟨S6, hf, hM⟩ := cnm hf hM
      obtain ⟨v7, ev7⟩ : ∃ y : Int32, y = v2 + 1 := ⟨_, rfl⟩
      replace hf := nm_q ev7 hf
      refine lv_iinc (v := v7) (lv' := [(2, .int v7), (0, .ref (a 49)), (1, .int p1), (3, .int v1)]) hx hb dJ7_fill_53178_14 hl (k := 2) rfl (by rw [ev7]; rfl) (by decide) rfl (fun ls hl => ?_)
      refine lv_goto (tgt := 5) hx hb dJ7_fill_53178_17 (by decide) ?_
      exact hk5 _ _ hf _ _ _ hM (lv_sub hl [1, 2, 0, 3] rfl)
  · intro k5 hk5 hf
    exact hk5 _ _ hf _ _ _ hM (lv_sub hl [2, 3, 1, 0] rfl)

abbrev rmJ7_fill_53178_51 : Room := { frames := 0, cells := 0, slots := 0, locals := 0 }
set_option maxRecDepth 100000 in
set_option maxHeartbeats 4000000 in
theorem c_J7_fill_53178_51 (l : Launch) (D : va_G) (cs : Nat → ClassId) (a : Nat → Nat) (q1 q2 : Nat) (N : Nat) (p1 : Int32) (S : St) (Sz : St) (hf : f_J7_fill_53178 N 51 432 p1 S = some Sz) : gMv l yJ7_fill_53178 wsJ7_fill_53178 rmJ7_fill_53178_51 D cs [.ref (a 51), .int p1] (ccells cs a q1 q2 S) (ccells cs a q1 q2 Sz) := by
  unfold f_J7_fill_53178 at hf
  refine gE_v (cc := cJ7_fill_53178) (maxL := 4) (by decide) rfl (Nat.le_of_ble_eq_true rfl) ?_
  intro p e s m args below meth c A Q hC hA hQ hM ls hl
  obtain ⟨hx, hb, hml, hown, hts⟩ := hC.1
  have hl : lv_has ls 4 [(0, .ref (a 51)), (1, .int p1)] := hl
  refine lv_iconst (v := 0) hx hb dJ7_fill_53178_0 (by decide) ?_
  refine lv_istore_n (lv' := [(2, .int 0), (0, .ref (a 51)), (1, .int p1)]) hx hb dJ7_fill_53178_1 rfl hl (by decide) rfl (fun ls hl => ?_)
  refine lv_aload_n hx hb dJ7_fill_53178_2 rfl (lv_at hl 1 rfl) ?_
  refine va_alen (v := (Int32.ofNat 432)) hx hb hC.2.1 hM.1 51 0 cE51 rfl rfl dJ7_fill_53178_3 ?_
  refine lv_topi (fun v1 ev1 => ?_)
  replace hf := nm_q ev1 hf
  refine lv_istore_n (lv' := [(3, .int v1), (2, .int 0), (0, .ref (a 51)), (1, .int p1)]) hx hb dJ7_fill_53178_4 rfl hl (by decide) rfl (fun ls hl => ?_)
  refine jl_W (fun k5 : Int32 → St → Option (St) => ∀ (v2 : Int32) (S3 : St), k5 v2 S3 = some Sz → ∀ (H : Heap) (locs : List Loc) (ls : Array Slot), gw D A s.heap H locs (ccells cs a q1 q2 S3) → lv_has ls 4 [(0, .ref (a 51)), (1, .int p1), (2, .int v2), (3, .int v1)] → W p l e rmJ7_fill_53178_51 s m args below meth c H locs 0 0 Q (F0 m 5 ls [])) ?_ ?_ ?_ hf
  · intro v2 S3 h; cases h
  · intro k5 hk5 v2 S3 hf H locs ls hM hl
    unfold b_J7_fill_53178_5 at hf
    refine lv_iload_n hx hb dJ7_fill_53178_5 rfl (lv_at hl 2 rfl) ?_
    refine lv_iload_n hx hb dJ7_fill_53178_6 rfl (lv_at hl 3 rfl) ?_
    refine lv_icmp_ge (tgt := 20) hx hb dJ7_fill_53178_7 (by decide) (fun c4 => ?_) (fun c4 => ?_)
    · replace hf := it_t c4 hf
      cases so_1 hf
      exact hQ _ _ _ _ _ _ dJ7_fill_53178_20 hM (by decide) (by decide)
    · replace hf := it_f c4 hf
      refine lv_aload_n hx hb dJ7_fill_53178_10 rfl (lv_at hl 0 rfl) ?_
      refine lv_iload_n hx hb dJ7_fill_53178_11 rfl (lv_at hl 2 rfl) ?_
      refine lv_iload_n hx hb dJ7_fill_53178_12 rfl (lv_at hl 1 rfl) ?_
      obtain ⟨h5, hf⟩ := ck_s hf
      refine g_iast hC hM 51 cE51 h5 cA51 dJ7_fill_53178_13 (fun H locs hM => ?_)
      obtain ⟨S6, hf, hM⟩ := cnm hf hM
      obtain ⟨v7, ev7⟩ : ∃ y : Int32, y = v2 + 1 := ⟨_, rfl⟩
      replace hf := nm_q ev7 hf
      refine lv_iinc (v := v7) (lv' := [(2, .int v7), (0, .ref (a 51)), (1, .int p1), (3, .int v1)]) hx hb dJ7_fill_53178_14 hl (k := 2) rfl (by rw [ev7]; rfl) (by decide) rfl (fun ls hl => ?_)
      refine lv_goto (tgt := 5) hx hb dJ7_fill_53178_17 (by decide) ?_
      exact hk5 _ _ hf _ _ _ hM (lv_sub hl [1, 2, 0, 3] rfl)
  · intro k5 hk5 hf
    exact hk5 _ _ hf _ _ _ hM (lv_sub hl [2, 3, 1, 0] rfl)

theorem hd_X8_append : yX8_append.cls = RX8 ∧ yX8_append.cls ≠ "java/lang/invoke/MethodHandle" ∧ yX8_append.cls ≠ "java/lang/invoke/VarHandle" ∧ (parseMethodDescriptor yX8_append.desc).map (fun d => d.parameters.length) = some 1 := by decide +kernel
theorem tX8_append_1 : Cond.fieldLink RX8 15 "WeatherTeller$Tape" "length" "I" ∈ wsX8_append := List.mem_of_getElem? (i := 1) rfl
theorem inX8_append_X8 : ∀ w ∈ u_ws RX8 TX8 4, w ∈ wsX8_append := fun _ h => List.mem_cons_of_mem _ (List.mem_append_right _ h)
theorem tX8_append_2 : Cond.fieldLink RX8 9 "WeatherTeller$Tape" "bytes" "[B" ∈ wsX8_append := List.mem_of_getElem? (i := 2) rfl
def j_X8_append_42 (v1 : Int32) (k3 : Int32 → St → Option (St)) (S4 : St) : Option (St) :=
  nm (v1 + (-8)) fun v5 =>
  k3 v5 S4
def b_X8_append_3 (p0 : Int32) (k3 : Int32 → St → Option (St)) (v1 : Int32) (S2 : St) : Option (St) :=
  if v1 < 0 then
    some S2
  else
    jp (j_X8_append_42 v1 k3) fun k42 =>
    if 1000 ≤ (S2.1 1 1) then
      k42 S2
    else
      ck (S2.1 1 1) 1000 <|
      nm (puI S2 2 (S2.1 1 1).toNatClampNeg (vp_nar .byte ((p0 >>> (v1 &&& 31)).toInt8.toInt32))) fun S8 =>
      nm (puI S8 1 1 ((S8.1 1 1) + 1)) fun S9 =>
      k42 S9
def f_X8_append (N : Nat) (p0 : Int32) (S : St) : Option (St) :=
  jp (lp (fun _ _ => none) (b_X8_append_3 p0) N) fun k3 =>
  k3 24 S
abbrev rmX8_append : Room := { frames := 0, cells := 0, slots := 0, locals := 0 }
set_option maxRecDepth 100000 in
set_option maxHeartbeats 4000000 in
theorem c_X8_append (l : Launch) (D : va_G) (cs : Nat → ClassId) (a : Nat → Nat) (q1 q2 : Nat) (N : Nat) (p0 : Int32) (S : St) (Sz : St) (hf : f_X8_append N p0 S = some Sz) : gMv l yX8_append wsX8_append rmX8_append D cs [.ref (a 1), .int p0] (ccells cs a q1 q2 S) (ccells cs a q1 q2 Sz) := by
  unfold f_X8_append at hf
  refine gE_v (cc := cX8_append) (maxL := 3) (by decide) rfl (Nat.le_of_ble_eq_true rfl) ?_
  intro p e s m args below meth c A Q hC hA hQ hM ls hl
  obtain ⟨hx, hb, hml, hown, hts⟩ := hC.1
  have hl : lv_has ls 3 [(0, .ref (a 1)), (1, .int p0)] := hl
  refine lv_bipush (v := 24) hx hb dX8_append_0 (by decide) ?_
  refine lv_istore_n (lv' := [(2, .int 24), (0, .ref (a 1)), (1, .int p0)]) hx hb dX8_append_2 rfl hl (by decide) rfl (fun ls hl => ?_)
  refine jl_W (fun k3 : Int32 → St → Option (St) => ∀ (v1 : Int32) (S2 : St), k3 v1 S2 = some Sz → ∀ (H : Heap) (locs : List Loc) (ls : Array Slot), gw D A s.heap H locs (ccells cs a q1 q2 S2) → lv_has ls 3 [(0, .ref (a 1)), (1, .int p0), (2, .int v1)] → W p l e rmX8_append s m args below meth c H locs 0 0 Q (F0 m 3 ls [])) ?_ ?_ ?_ hf
  · intro v1 S2 h; cases h
  · intro k3 hk3 v1 S2 hf H locs ls hM hl
    unfold b_X8_append_3 at hf
    refine lv_iload_n hx hb dX8_append_3 rfl (lv_at hl 2 rfl) ?_
    refine lv_if_lt (tgt := 48) hx hb dX8_append_4 (by decide) (fun c3 => ?_) (fun c3 => ?_)
    · replace hf := it_t c3 hf
      cases so_1 hf
      exact hQ _ _ _ _ _ _ dX8_append_48 hM (by decide) (by decide)
    · replace hf := it_f c3 hf
      refine lv_aload_n hx hb dX8_append_7 rfl (lv_at hl 0 rfl) ?_
      refine g_get hC hM inX8_append_X8 1 cE1 clX8 1 (by decide) tX8_append_1 TX8_1 cV1_1 dX8_append_8 ?_
      refine lv_aload_n hx hb dX8_append_11 rfl (lv_at hl 0 rfl) ?_
      refine g_get hC hM inX8_append_X8 1 cE1 clX8 0 (by decide) tX8_append_2 TX8_0 cV1_0 dX8_append_12 ?_
      refine va_alen (v := 1000) hx hb hC.2.1 hM.1 2 1 cE2 rfl rfl dX8_append_15 ?_
      refine jp_W (fun k42 : St → Option (St) => ∀ (S4 : St), k42 S4 = some Sz → ∀ (H : Heap) (locs : List Loc) (ls : Array Slot), gw D A s.heap H locs (ccells cs a q1 q2 S4) → lv_has ls 3 [(0, .ref (a 1)), (1, .int p0), (2, .int v1)] → W p l e rmX8_append s m args below meth c H locs 0 0 Q (F0 m 42 ls [])) ?_ ?_ hf
      · intro S4 hf H locs ls hM hl
        unfold j_X8_append_42 at hf
        obtain ⟨v5, ev5⟩ : ∃ y : Int32, y = v1 + (-8) := ⟨_, rfl⟩
        replace hf := nm_q ev5 hf
        refine lv_iinc (v := v5) (lv' := [(2, .int v5), (0, .ref (a 1)), (1, .int p0)]) hx hb dX8_append_42 hl (k := 2) rfl (by rw [ev5]; rfl) (by decide) rfl (fun ls hl => ?_)
        refine lv_goto (tgt := 3) hx hb dX8_append_45 (by decide) ?_
        exact hk3 _ _ hf _ _ _ hM (lv_sub hl [1, 2, 0] rfl)
      · intro k42 hk42 hf
        refine lv_icmp_ge (tgt := 42) hx hb dX8_append_16 (by decide) (fun c6 => ?_) (fun c6 => ?_)
        · replace hf := it_t c6 hf
          exact hk42 _ hf _ _ _ hM hl
        · replace hf := it_f c6 hf
          refine lv_aload_n hx hb dX8_append_19 rfl (lv_at hl 0 rfl) ?_
          refine g_get hC hM inX8_append_X8 1 cE1 clX8 0 (by decide) tX8_append_2 TX8_0 cV1_0 dX8_append_20 ?_
          refine lv_aload_n hx hb dX8_append_23 rfl (lv_at hl 0 rfl) ?_
          refine g_get hC hM inX8_append_X8 1 cE1 clX8 1 (by decide) tX8_append_1 TX8_1 cV1_1 dX8_append_24 ?_
          refine lv_iload_n hx hb dX8_append_27 rfl (lv_at hl 1 rfl) ?_
          refine lv_iload_n hx hb dX8_append_28 rfl (lv_at hl 2 rfl) ?_
          refine lv_ishr hx hb dX8_append_29 ?_
          refine lv_i2b hx hb dX8_append_30 rfl ?_
          obtain ⟨h7, hf⟩ := ck_s hf
          refine g_bast hC hM 2 cE2 h7 cA2 dX8_append_31 (fun H locs hM => ?_)
          obtain ⟨S8, hf, hM⟩ := cnm hf hM
          refine lv_aload_n hx hb dX8_append_32 rfl (lv_at hl 0 rfl) ?_
          refine lv_dup hx hb dX8_append_33 rfl ?_
          refine g_get hC hM inX8_append_X8 1 cE1 clX8 1 (by decide) tX8_append_1 TX8_1 cV1_1 dX8_append_34 ?_
          refine lv_iconst (v := 1) hx hb dX8_append_37 (by decide) ?_
          refine lv_iadd hx hb dX8_append_38 ?_
          refine g_put hC hM inX8_append_X8 tyX8_ok nmX8 1 cE1 clX8 1 (by decide) tX8_append_1 TX8_1 tyX8_1 rfl rfl (by rw [cL1]; decide) cP1_1 dX8_append_39 (fun H locs hM => ?_)
          obtain ⟨S9, hf, hM⟩ := cnm hf hM
          exact hk42 _ hf _ _ _ hM hl
  · intro k3 hk3 hf
    exact hk3 _ _ hf _ _ _ hM (lv_sub hl [1, 2, 0] rfl)

theorem hd_X8_open : yX8_open.cls = RX8 ∧ yX8_open.cls ≠ "java/lang/invoke/MethodHandle" ∧ yX8_open.cls ≠ "java/lang/invoke/VarHandle" ∧ (parseMethodDescriptor yX8_open.desc).map (fun d => d.parameters.length) = some 1 := by decide +kernel
theorem tX8_open_1 : Cond.fieldLink RX8 15 "WeatherTeller$Tape" "length" "I" ∈ wsX8_open := List.mem_of_getElem? (i := 1) rfl
theorem inX8_open_X8 : ∀ w ∈ u_ws RX8 TX8 4, w ∈ wsX8_open := fun _ h => List.mem_cons_of_mem _ (List.mem_append_right _ h)
theorem tX8_open_2 : Cond.fieldLink RX8 19 "WeatherTeller$Tape" "at" "I" ∈ wsX8_open := List.mem_of_getElem? (i := 2) rfl
theorem tX8_open_3 : Cond.fieldLink RX8 22 "WeatherTeller$Tape" "end" "I" ∈ wsX8_open := List.mem_of_getElem? (i := 3) rfl
def f_X8_open (N : Nat) (p0 : Int32) (S : St) : Option (Int32 × St) :=
  zb <|
  if p0 < 0 then
    some (0, S)
  else
    if p0 ≤ (S.1 1 1) then
      nm (puI S 1 2 0) fun S3 =>
      nm (puI S3 1 3 p0) fun S4 =>
      nm (puI S4 1 1 0) fun S5 =>
      some (1, S5)
    else
      some (0, S)
abbrev rmX8_open : Room := { frames := 0, cells := 0, slots := 0, locals := 0 }
set_option maxRecDepth 100000 in
set_option maxHeartbeats 4000000 in
theorem c_X8_open (l : Launch) (D : va_G) (cs : Nat → ClassId) (a : Nat → Nat) (q1 q2 : Nat) (N : Nat) (p0 : Int32) (S : St) (rz : Int32) (Sz : St) (hf : f_X8_open N p0 S = some (rz, Sz)) : gMi l yX8_open wsX8_open rmX8_open D cs [.ref (a 1), .int p0] (ccells cs a q1 q2 S) rz (ccells cs a q1 q2 Sz) := by
  unfold f_X8_open at hf
  obtain ⟨hrz, hf⟩ := zb_s hf
  refine gE_z (cc := cX8_open) (maxL := 2) hrz (by decide) rfl (Nat.le_of_ble_eq_true rfl) ?_
  intro p e s m args below meth c A Q hC hA hQ hM ls hl
  obtain ⟨hx, hb, hml, hown, hts⟩ := hC.1
  have hl : lv_has ls 2 [(0, .ref (a 1)), (1, .int p0)] := hl
  refine lv_iload_n hx hb dX8_open_0 rfl (lv_at hl 1 rfl) ?_
  refine lv_if_lt (tgt := 12) hx hb dX8_open_1 (by decide) (fun c1 => ?_) (fun c1 => ?_)
  · replace hf := it_t c1 hf
    refine lv_iconst (v := 0) hx hb dX8_open_12 (by decide) ?_
    obtain ⟨e1, e2⟩ := so_2 hf
    cases e1; cases e2
    exact hQ _ _ _ _ _ _ dX8_open_13 hM (by decide) (by decide)
  · replace hf := it_f c1 hf
    refine lv_iload_n hx hb dX8_open_4 rfl (lv_at hl 1 rfl) ?_
    refine lv_aload_n hx hb dX8_open_5 rfl (lv_at hl 0 rfl) ?_
    refine g_get hC hM inX8_open_X8 1 cE1 clX8 1 (by decide) tX8_open_1 TX8_1 cV1_1 dX8_open_6 ?_
    refine lv_icmp_le (tgt := 14) hx hb dX8_open_9 (by decide) (fun c2 => ?_) (fun c2 => ?_)
    · replace hf := it_t c2 hf
      refine lv_aload_n hx hb dX8_open_14 rfl (lv_at hl 0 rfl) ?_
      refine lv_iconst (v := 0) hx hb dX8_open_15 (by decide) ?_
      refine g_put hC hM inX8_open_X8 tyX8_ok nmX8 1 cE1 clX8 2 (by decide) tX8_open_2 TX8_2 tyX8_2 rfl rfl (by rw [cL1]; decide) cP1_2 dX8_open_16 (fun H locs hM => ?_)
      obtain ⟨S3, hf, hM⟩ := cnm hf hM
      refine lv_aload_n hx hb dX8_open_19 rfl (lv_at hl 0 rfl) ?_
      refine lv_iload_n hx hb dX8_open_20 rfl (lv_at hl 1 rfl) ?_
      refine g_put hC hM inX8_open_X8 tyX8_ok nmX8 1 cE1 clX8 3 (by decide) tX8_open_3 TX8_3 tyX8_3 rfl rfl (by rw [cL1]; decide) cP1_3 dX8_open_21 (fun H locs hM => ?_)
      obtain ⟨S4, hf, hM⟩ := cnm hf hM
      refine lv_aload_n hx hb dX8_open_24 rfl (lv_at hl 0 rfl) ?_
      refine lv_iconst (v := 0) hx hb dX8_open_25 (by decide) ?_
      refine g_put hC hM inX8_open_X8 tyX8_ok nmX8 1 cE1 clX8 1 (by decide) tX8_open_1 TX8_1 tyX8_1 rfl rfl (by rw [cL1]; decide) cP1_1 dX8_open_26 (fun H locs hM => ?_)
      obtain ⟨S5, hf, hM⟩ := cnm hf hM
      refine lv_iconst (v := 1) hx hb dX8_open_29 (by decide) ?_
      obtain ⟨e1, e2⟩ := so_2 hf
      cases e1; cases e2
      exact hQ _ _ _ _ _ _ dX8_open_30 hM (by decide) (by decide)
    · replace hf := it_f c2 hf
      refine lv_iconst (v := 0) hx hb dX8_open_12 (by decide) ?_
      obtain ⟨e1, e2⟩ := so_2 hf
      cases e1; cases e2
      exact hQ _ _ _ _ _ _ dX8_open_13 hM (by decide) (by decide)

theorem hd_X8_isAtEnd : yX8_isAtEnd.cls = RX8 ∧ yX8_isAtEnd.cls ≠ "java/lang/invoke/MethodHandle" ∧ yX8_isAtEnd.cls ≠ "java/lang/invoke/VarHandle" ∧ (parseMethodDescriptor yX8_isAtEnd.desc).map (fun d => d.parameters.length) = some 0 := by decide +kernel
theorem tX8_isAtEnd_1 : Cond.fieldLink RX8 19 "WeatherTeller$Tape" "at" "I" ∈ wsX8_isAtEnd := List.mem_of_getElem? (i := 1) rfl
theorem inX8_isAtEnd_X8 : ∀ w ∈ u_ws RX8 TX8 4, w ∈ wsX8_isAtEnd := fun _ h => List.mem_cons_of_mem _ (List.mem_append_right _ h)
theorem tX8_isAtEnd_2 : Cond.fieldLink RX8 22 "WeatherTeller$Tape" "end" "I" ∈ wsX8_isAtEnd := List.mem_of_getElem? (i := 2) rfl
def f_X8_isAtEnd (N : Nat)  (S : St) : Option (Int32) :=
  z1 <|
  if (S.1 1 2) < (S.1 1 3) then
    some 0
  else
    some 1
abbrev rmX8_isAtEnd : Room := { frames := 0, cells := 0, slots := 0, locals := 0 }
set_option maxRecDepth 100000 in
set_option maxHeartbeats 4000000 in
theorem c_X8_isAtEnd (l : Launch) (D : va_G) (cs : Nat → ClassId) (a : Nat → Nat) (q1 q2 : Nat) (N : Nat) (S : St) (rz : Int32) (hf : f_X8_isAtEnd N S = some rz) : gMi l yX8_isAtEnd wsX8_isAtEnd rmX8_isAtEnd D cs [.ref (a 1)] (ccells cs a q1 q2 S) rz (ccells cs a q1 q2 S) := by
  unfold f_X8_isAtEnd at hf
  obtain ⟨hrz, hf⟩ := z1_s hf
  refine gE_z (cc := cX8_isAtEnd) (maxL := 1) hrz (by decide) rfl (Nat.le_of_ble_eq_true rfl) ?_
  intro p e s m args below meth c A Q hC hA hQ hM ls hl
  obtain ⟨hx, hb, hml, hown, hts⟩ := hC.1
  have hl : lv_has ls 1 [(0, .ref (a 1))] := hl
  refine lv_aload_n hx hb dX8_isAtEnd_0 rfl (lv_at hl 0 rfl) ?_
  refine g_get hC hM inX8_isAtEnd_X8 1 cE1 clX8 2 (by decide) tX8_isAtEnd_1 TX8_2 cV1_2 dX8_isAtEnd_1 ?_
  refine lv_aload_n hx hb dX8_isAtEnd_4 rfl (lv_at hl 0 rfl) ?_
  refine g_get hC hM inX8_isAtEnd_X8 1 cE1 clX8 3 (by decide) tX8_isAtEnd_2 TX8_3 cV1_3 dX8_isAtEnd_5 ?_
  refine lv_icmp_lt (tgt := 15) hx hb dX8_isAtEnd_8 (by decide) (fun c1 => ?_) (fun c1 => ?_)
  · replace hf := it_t c1 hf
    refine lv_iconst (v := 0) hx hb dX8_isAtEnd_15 (by decide) ?_
    cases so_1 hf
    exact hQ _ _ _ _ _ _ dX8_isAtEnd_16 hM (by decide) (by decide)
  · replace hf := it_f c1 hf
    refine lv_iconst (v := 1) hx hb dX8_isAtEnd_11 (by decide) ?_
    refine lv_goto (tgt := 16) hx hb dX8_isAtEnd_12 (by decide) ?_
    cases so_1 hf
    exact hQ _ _ _ _ _ _ dX8_isAtEnd_16 hM (by decide) (by decide)

theorem hd_X8_look : yX8_look.cls = RX8 ∧ yX8_look.cls ≠ "java/lang/invoke/MethodHandle" ∧ yX8_look.cls ≠ "java/lang/invoke/VarHandle" ∧ (parseMethodDescriptor yX8_look.desc).map (fun d => d.parameters.length) = some 0 := by decide +kernel
theorem tX8_look_1 : Cond.fieldLink RX8 19 "WeatherTeller$Tape" "at" "I" ∈ wsX8_look := List.mem_of_getElem? (i := 1) rfl
theorem inX8_look_X8 : ∀ w ∈ u_ws RX8 TX8 4, w ∈ wsX8_look := fun _ h => List.mem_cons_of_mem _ (List.mem_append_right _ h)
theorem tX8_look_2 : Cond.fieldLink RX8 22 "WeatherTeller$Tape" "end" "I" ∈ wsX8_look := List.mem_of_getElem? (i := 2) rfl
theorem tX8_look_3 : Cond.fieldLink RX8 9 "WeatherTeller$Tape" "bytes" "[B" ∈ wsX8_look := List.mem_of_getElem? (i := 3) rfl
def f_X8_look (N : Nat)  (S : St) : Option (Int32) :=
  if (S.1 1 2) < 0 then
    some (-1)
  else
    if (S.1 1 3) ≤ (S.1 1 2) then
      some (-1)
    else
      if 1000 ≤ (S.1 1 2) then
        some (-1)
      else
        ck (S.1 1 2) 1000 <|
        some ((S.1 2 (S.1 1 2).toNatClampNeg) &&& 255)
abbrev rmX8_look : Room := { frames := 0, cells := 0, slots := 0, locals := 0 }
set_option maxRecDepth 100000 in
set_option maxHeartbeats 4000000 in
theorem c_X8_look (l : Launch) (D : va_G) (cs : Nat → ClassId) (a : Nat → Nat) (q1 q2 : Nat) (N : Nat) (S : St) (rz : Int32) (hf : f_X8_look N S = some rz) : gMi l yX8_look wsX8_look rmX8_look D cs [.ref (a 1)] (ccells cs a q1 q2 S) rz (ccells cs a q1 q2 S) := by
  unfold f_X8_look at hf
  refine gE_i (cc := cX8_look) (maxL := 1) (by decide) rfl (Nat.le_of_ble_eq_true rfl) ?_
  intro p e s m args below meth c A Q hC hA hQ hM ls hl
  obtain ⟨hx, hb, hml, hown, hts⟩ := hC.1
  have hl : lv_has ls 1 [(0, .ref (a 1))] := hl
  refine lv_aload_n hx hb dX8_look_0 rfl (lv_at hl 0 rfl) ?_
  refine g_get hC hM inX8_look_X8 1 cE1 clX8 2 (by decide) tX8_look_1 TX8_2 cV1_2 dX8_look_1 ?_
  refine lv_if_lt (tgt := 46) hx hb dX8_look_4 (by decide) (fun c1 => ?_) (fun c1 => ?_)
  · replace hf := it_t c1 hf
    refine lv_iconst (v := (-1)) hx hb dX8_look_46 (by decide) ?_
    cases so_1 hf
    exact hQ _ _ _ _ _ _ dX8_look_47 hM (by decide) (by decide)
  · replace hf := it_f c1 hf
    refine lv_aload_n hx hb dX8_look_7 rfl (lv_at hl 0 rfl) ?_
    refine g_get hC hM inX8_look_X8 1 cE1 clX8 2 (by decide) tX8_look_1 TX8_2 cV1_2 dX8_look_8 ?_
    refine lv_aload_n hx hb dX8_look_11 rfl (lv_at hl 0 rfl) ?_
    refine g_get hC hM inX8_look_X8 1 cE1 clX8 3 (by decide) tX8_look_2 TX8_3 cV1_3 dX8_look_12 ?_
    refine lv_icmp_ge (tgt := 46) hx hb dX8_look_15 (by decide) (fun c2 => ?_) (fun c2 => ?_)
    · replace hf := it_t c2 hf
      refine lv_iconst (v := (-1)) hx hb dX8_look_46 (by decide) ?_
      cases so_1 hf
      exact hQ _ _ _ _ _ _ dX8_look_47 hM (by decide) (by decide)
    · replace hf := it_f c2 hf
      refine lv_aload_n hx hb dX8_look_18 rfl (lv_at hl 0 rfl) ?_
      refine g_get hC hM inX8_look_X8 1 cE1 clX8 2 (by decide) tX8_look_1 TX8_2 cV1_2 dX8_look_19 ?_
      refine lv_aload_n hx hb dX8_look_22 rfl (lv_at hl 0 rfl) ?_
      refine g_get hC hM inX8_look_X8 1 cE1 clX8 0 (by decide) tX8_look_3 TX8_0 cV1_0 dX8_look_23 ?_
      refine va_alen (v := 1000) hx hb hC.2.1 hM.1 2 1 cE2 rfl rfl dX8_look_26 ?_
      refine lv_icmp_ge (tgt := 46) hx hb dX8_look_27 (by decide) (fun c3 => ?_) (fun c3 => ?_)
      · replace hf := it_t c3 hf
        refine lv_iconst (v := (-1)) hx hb dX8_look_46 (by decide) ?_
        cases so_1 hf
        exact hQ _ _ _ _ _ _ dX8_look_47 hM (by decide) (by decide)
      · replace hf := it_f c3 hf
        refine lv_aload_n hx hb dX8_look_30 rfl (lv_at hl 0 rfl) ?_
        refine g_get hC hM inX8_look_X8 1 cE1 clX8 0 (by decide) tX8_look_3 TX8_0 cV1_0 dX8_look_31 ?_
        refine lv_aload_n hx hb dX8_look_34 rfl (lv_at hl 0 rfl) ?_
        refine g_get hC hM inX8_look_X8 1 cE1 clX8 2 (by decide) tX8_look_1 TX8_2 cV1_2 dX8_look_35 ?_
        obtain ⟨h4, hf⟩ := ck_s hf
        refine g_bald hC hM 2 cE2 h4 dX8_look_38 ?_
        refine lv_sipush (v := 255) hx hb dX8_look_39 (by decide) ?_
        refine lv_iand hx hb dX8_look_42 ?_
        refine lv_goto (tgt := 47) hx hb dX8_look_43 (by decide) ?_
        cases so_1 hf
        exact hQ _ _ _ _ _ _ dX8_look_47 hM (by decide) (by decide)

theorem hd_X8_skip : yX8_skip.cls = RX8 ∧ yX8_skip.cls ≠ "java/lang/invoke/MethodHandle" ∧ yX8_skip.cls ≠ "java/lang/invoke/VarHandle" ∧ (parseMethodDescriptor yX8_skip.desc).map (fun d => d.parameters.length) = some 1 := by decide +kernel
theorem tX8_skip_1 : Cond.fieldLink RX8 19 "WeatherTeller$Tape" "at" "I" ∈ wsX8_skip := List.mem_of_getElem? (i := 1) rfl
theorem inX8_skip_X8 : ∀ w ∈ u_ws RX8 TX8 4, w ∈ wsX8_skip := fun _ h => List.mem_cons_of_mem _ (List.mem_append_right _ h)
theorem tX8_skip_2 : Cond.fieldLink RX8 22 "WeatherTeller$Tape" "end" "I" ∈ wsX8_skip := List.mem_of_getElem? (i := 2) rfl
def j_X8_skip_28 (S1 : St) (k0 : St → Option (St))  : Option (St) :=
  nm (puI S1 1 2 ((S1.1 1 2) + 1)) fun S4 =>
  k0 S4
def b_X8_skip_0 (N : Nat) (p0 : Int32) (k0 : St → Option (St)) (S1 : St) : Option (St) :=
  if (S1.1 1 3) ≤ (S1.1 1 2) then
    some S1
  else
    bd (f_X8_look N S1) fun v3 =>
    jp (j_X8_skip_28 S1 k0) fun k28 =>
    if v3 = 32 then
      k28
    else
      bd (f_X8_look N S1) fun v6 =>
      if v6 = p0 then
        k28
      else
        some S1
def f_X8_skip (N : Nat) (p0 : Int32) (S : St) : Option (St) :=
  jp (lp (fun _ => none) (b_X8_skip_0 N p0) N) fun k0 =>
  k0 S
abbrev rmX8_skip : Room := { frames := 1, cells := 0, slots := 0, locals := 20 }
set_option maxRecDepth 100000 in
set_option maxHeartbeats 4000000 in
theorem c_X8_skip (l : Launch) (D : va_G) (cs : Nat → ClassId) (a : Nat → Nat) (q1 q2 : Nat) (N : Nat) (p0 : Int32) (S : St) (Sz : St) (hf : f_X8_skip N p0 S = some Sz) : gMv l yX8_skip wsX8_skip rmX8_skip D cs [.ref (a 1), .int p0] (ccells cs a q1 q2 S) (ccells cs a q1 q2 Sz) := by
  unfold f_X8_skip at hf
  refine gE_v (cc := cX8_skip) (maxL := 2) (by decide) rfl (Nat.le_of_ble_eq_true rfl) ?_
  intro p e s m args below meth c A Q hC hA hQ hM ls hl
  obtain ⟨hx, hb, hml, hown, hts⟩ := hC.1
  have hl : lv_has ls 2 [(0, .ref (a 1)), (1, .int p0)] := hl
  refine jl_W (fun k0 : St → Option (St) => ∀ (S1 : St), k0 S1 = some Sz → ∀ (H : Heap) (locs : List Loc) (ls : Array Slot), gw D A s.heap H locs (ccells cs a q1 q2 S1) → lv_has ls 2 [(0, .ref (a 1)), (1, .int p0)] → W p l e rmX8_skip s m args below meth c H locs 0 0 Q (F0 m 0 ls [])) ?_ ?_ ?_ hf
  · intro S1 h; cases h
  · intro k0 hk0 S1 hf H locs ls hM hl
    unfold b_X8_skip_0 at hf
    refine lv_aload_n hx hb dX8_skip_0 rfl (lv_at hl 0 rfl) ?_
    refine g_get hC hM inX8_skip_X8 1 cE1 clX8 2 (by decide) tX8_skip_1 TX8_2 cV1_2 dX8_skip_1 ?_
    refine lv_aload_n hx hb dX8_skip_4 rfl (lv_at hl 0 rfl) ?_
    refine g_get hC hM inX8_skip_X8 1 cE1 clX8 3 (by decide) tX8_skip_2 TX8_3 cV1_3 dX8_skip_5 ?_
    refine lv_icmp_ge (tgt := 41) hx hb dX8_skip_8 (by decide) (fun c2 => ?_) (fun c2 => ?_)
    · replace hf := it_t c2 hf
      cases so_1 hf
      exact hQ _ _ _ _ _ _ dX8_skip_41 hM (by decide) (by decide)
    · replace hf := it_f c2 hf
      refine lv_aload_n hx hb dX8_skip_11 rfl (lv_at hl 0 rfl) ?_
      obtain ⟨v3, hc, hf⟩ := bd_s hf
      refine gV_i hC hM hA hl.1 [] [] (c_X8_look l D cs a q1 q2 N S1 v3 hc) gX8_skip_X8_look rfl hd_X8_look ⟨by decide, by decide⟩ 1 8 clX8 rfl cE1 (Nat.le_of_ble_eq_true rfl) dX8_skip_12 rfl ⟨by decide, by decide⟩ (fun H locs hM => ?_)
      refine lv_bipush (v := 32) hx hb dX8_skip_15 (by decide) ?_
      refine jp_W (fun k28 : Option (St) => k28 = some Sz → ∀ (H : Heap) (locs : List Loc) (ls : Array Slot), gw D A s.heap H locs (ccells cs a q1 q2 S1) → lv_has ls 2 [(0, .ref (a 1)), (1, .int p0)] → W p l e rmX8_skip s m args below meth c H locs 0 0 Q (F0 m 28 ls [])) ?_ ?_ hf
      · intro  hf H locs ls hM hl
        unfold j_X8_skip_28 at hf
        refine lv_aload_n hx hb dX8_skip_28 rfl (lv_at hl 0 rfl) ?_
        refine lv_dup hx hb dX8_skip_29 rfl ?_
        refine g_get hC hM inX8_skip_X8 1 cE1 clX8 2 (by decide) tX8_skip_1 TX8_2 cV1_2 dX8_skip_30 ?_
        refine lv_iconst (v := 1) hx hb dX8_skip_33 (by decide) ?_
        refine lv_iadd hx hb dX8_skip_34 ?_
        refine g_put hC hM inX8_skip_X8 tyX8_ok nmX8 1 cE1 clX8 2 (by decide) tX8_skip_1 TX8_2 tyX8_2 rfl rfl (by rw [cL1]; decide) cP1_2 dX8_skip_35 (fun H locs hM => ?_)
        obtain ⟨S4, hf, hM⟩ := cnm hf hM
        refine lv_goto (tgt := 0) hx hb dX8_skip_38 (by decide) ?_
        exact hk0 _ hf _ _ _ hM hl
      · intro k28 hk28 hf
        refine lv_icmp_eq (tgt := 28) hx hb dX8_skip_17 (by decide) (fun c5 => ?_) (fun c5 => ?_)
        · replace hf := it_t c5 hf
          exact hk28 hf _ _ _ hM hl
        · replace hf := it_f c5 hf
          refine lv_aload_n hx hb dX8_skip_20 rfl (lv_at hl 0 rfl) ?_
          obtain ⟨v6, hc, hf⟩ := bd_s hf
          refine gV_i hC hM hA hl.1 [] [] (c_X8_look l D cs a q1 q2 N S1 v6 hc) gX8_skip_X8_look rfl hd_X8_look ⟨by decide, by decide⟩ 1 8 clX8 rfl cE1 (Nat.le_of_ble_eq_true rfl) dX8_skip_21 rfl ⟨by decide, by decide⟩ (fun H locs hM => ?_)
          refine lv_iload_n hx hb dX8_skip_24 rfl (lv_at hl 1 rfl) ?_
          refine lv_icmp_ne (tgt := 41) hx hb dX8_skip_25 (by decide) (fun c7 => ?_) (fun c7 => ?_)
          · replace hf := it_f c7 hf
            cases so_1 hf
            exact hQ _ _ _ _ _ _ dX8_skip_41 hM (by decide) (by decide)
          · replace hf := it_t c7 hf
            exact hk28 hf _ _ _ hM hl
  · intro k0 hk0 hf
    exact hk0 _ hf _ _ _ hM hl

theorem hd_X8_take : yX8_take.cls = RX8 ∧ yX8_take.cls ≠ "java/lang/invoke/MethodHandle" ∧ yX8_take.cls ≠ "java/lang/invoke/VarHandle" ∧ (parseMethodDescriptor yX8_take.desc).map (fun d => d.parameters.length) = some 1 := by decide +kernel
theorem tX8_take_1 : Cond.fieldLink RX8 19 "WeatherTeller$Tape" "at" "I" ∈ wsX8_take := List.mem_of_getElem? (i := 1) rfl
theorem inX8_take_X8 : ∀ w ∈ u_ws RX8 TX8 4, w ∈ wsX8_take := fun _ h => List.mem_cons_of_mem _ (List.mem_append_right _ h)
def f_X8_take (N : Nat) (p0 : Int32) (S : St) : Option (Int32 × St) :=
  zb <|
  bd (f_X8_look N S) fun v1 =>
  if v1 = p0 then
    nm (puI S 1 2 ((S.1 1 2) + 1)) fun S3 =>
    some (1, S3)
  else
    some (0, S)
abbrev rmX8_take : Room := { frames := 1, cells := 0, slots := 0, locals := 20 }
set_option maxRecDepth 100000 in
set_option maxHeartbeats 4000000 in
theorem c_X8_take (l : Launch) (D : va_G) (cs : Nat → ClassId) (a : Nat → Nat) (q1 q2 : Nat) (N : Nat) (p0 : Int32) (S : St) (rz : Int32) (Sz : St) (hf : f_X8_take N p0 S = some (rz, Sz)) : gMi l yX8_take wsX8_take rmX8_take D cs [.ref (a 1), .int p0] (ccells cs a q1 q2 S) rz (ccells cs a q1 q2 Sz) := by
  unfold f_X8_take at hf
  obtain ⟨hrz, hf⟩ := zb_s hf
  refine gE_z (cc := cX8_take) (maxL := 2) hrz (by decide) rfl (Nat.le_of_ble_eq_true rfl) ?_
  intro p e s m args below meth c A Q hC hA hQ hM ls hl
  obtain ⟨hx, hb, hml, hown, hts⟩ := hC.1
  have hl : lv_has ls 2 [(0, .ref (a 1)), (1, .int p0)] := hl
  refine lv_aload_n hx hb dX8_take_0 rfl (lv_at hl 0 rfl) ?_
  obtain ⟨v1, hc, hf⟩ := bd_s hf
  refine gV_i hC hM hA hl.1 [] [] (c_X8_look l D cs a q1 q2 N S v1 hc) gX8_take_X8_look rfl hd_X8_look ⟨by decide, by decide⟩ 1 8 clX8 rfl cE1 (Nat.le_of_ble_eq_true rfl) dX8_take_1 rfl ⟨by decide, by decide⟩ (fun H locs hM => ?_)
  refine lv_iload_n hx hb dX8_take_4 rfl (lv_at hl 1 rfl) ?_
  refine lv_icmp_eq (tgt := 10) hx hb dX8_take_5 (by decide) (fun c2 => ?_) (fun c2 => ?_)
  · replace hf := it_t c2 hf
    refine lv_aload_n hx hb dX8_take_10 rfl (lv_at hl 0 rfl) ?_
    refine lv_dup hx hb dX8_take_11 rfl ?_
    refine g_get hC hM inX8_take_X8 1 cE1 clX8 2 (by decide) tX8_take_1 TX8_2 cV1_2 dX8_take_12 ?_
    refine lv_iconst (v := 1) hx hb dX8_take_15 (by decide) ?_
    refine lv_iadd hx hb dX8_take_16 ?_
    refine g_put hC hM inX8_take_X8 tyX8_ok nmX8 1 cE1 clX8 2 (by decide) tX8_take_1 TX8_2 tyX8_2 rfl rfl (by rw [cL1]; decide) cP1_2 dX8_take_17 (fun H locs hM => ?_)
    obtain ⟨S3, hf, hM⟩ := cnm hf hM
    refine lv_iconst (v := 1) hx hb dX8_take_20 (by decide) ?_
    obtain ⟨e1, e2⟩ := so_2 hf
    cases e1; cases e2
    exact hQ _ _ _ _ _ _ dX8_take_21 hM (by decide) (by decide)
  · replace hf := it_f c2 hf
    refine lv_iconst (v := 0) hx hb dX8_take_8 (by decide) ?_
    obtain ⟨e1, e2⟩ := so_2 hf
    cases e1; cases e2
    exact hQ _ _ _ _ _ _ dX8_take_9 hM (by decide) (by decide)

theorem hd_X8_takeWord : yX8_takeWord.cls = RX8 ∧ yX8_takeWord.cls ≠ "java/lang/invoke/MethodHandle" ∧ yX8_takeWord.cls ≠ "java/lang/invoke/VarHandle" ∧ (parseMethodDescriptor yX8_takeWord.desc).map (fun d => d.parameters.length) = some 0 := by decide +kernel
theorem tX8_takeWord_1 : Cond.fieldLink RX8 19 "WeatherTeller$Tape" "at" "I" ∈ wsX8_takeWord := List.mem_of_getElem? (i := 1) rfl
theorem inX8_takeWord_X8 : ∀ w ∈ u_ws RX8 TX8 4, w ∈ wsX8_takeWord := fun _ h => List.mem_cons_of_mem _ (List.mem_append_right _ h)
theorem tX8_takeWord_2 : Cond.fieldLink RX8 22 "WeatherTeller$Tape" "end" "I" ∈ wsX8_takeWord := List.mem_of_getElem? (i := 2) rfl
theorem tX8_takeWord_9 : Cond.static yX10_isWithin ∈ wsX8_takeWord := List.mem_of_getElem? (i := 9) rfl
theorem tX8_takeWord_10 : Cond.initialized RX10 ∈ wsX8_takeWord := List.mem_of_getElem? (i := 10) rfl
def j_X8_takeWord_58 (w1 : Int64) (v2 : Int32) (S3 : St) : Option (Int64 × St) :=
  if v2 ≤ 12 then
    some (w1, S3)
  else
    some (0, S3)
def b_X8_takeWord_4 (N : Nat) (k58 : Int64 → Int32 → St → Option (Int64 × St)) (k4 : Int64 → Int32 → St → Option (Int64 × St)) (w5 : Int64) (v6 : Int32) (S7 : St) : Option (Int64 × St) :=
  if (S7.1 1 3) ≤ (S7.1 1 2) then
    k58 w5 v6 S7
  else
    bd (f_X8_look N S7) fun v9 =>
    bd (f_X10_isWithin N v9 97 122) fun v10 =>
    if v10 = 0 then
      k58 w5 v6 S7
    else
      bd (f_X8_look N S7) fun v12 =>
      nm ((w5 <<< ((5 : Int32).toInt64 &&& 63)) ||| (v12 - 96).toInt64) fun w13 =>
      nm (v6 + 1) fun v14 =>
      nm (puI S7 1 2 ((S7.1 1 2) + 1)) fun S15 =>
      k4 w13 v14 S15
def f_X8_takeWord (N : Nat)  (S : St) : Option (Int64 × St) :=
  jp (j_X8_takeWord_58) fun k58 =>
  jp (lp (fun _ _ _ => none) (b_X8_takeWord_4 N k58) N) fun k4 =>
  k4 0 0 S
abbrev rmX8_takeWord : Room := { frames := 1, cells := 0, slots := 0, locals := 22 }
set_option maxRecDepth 100000 in
set_option maxHeartbeats 4000000 in
theorem c_X8_takeWord (l : Launch) (D : va_G) (cs : Nat → ClassId) (a : Nat → Nat) (q1 q2 : Nat) (N : Nat) (S : St) (rz : Int64) (Sz : St) (hf : f_X8_takeWord N S = some (rz, Sz)) : gMl l yX8_takeWord wsX8_takeWord rmX8_takeWord D cs [.ref (a 1)] (ccells cs a q1 q2 S) rz (ccells cs a q1 q2 Sz) := by
  unfold f_X8_takeWord at hf
  refine gE_l (cc := cX8_takeWord) (maxL := 4) (by decide) rfl (Nat.le_of_ble_eq_true rfl) ?_
  intro p e s m args below meth c A Q hC hA hQ hM ls hl
  obtain ⟨hx, hb, hml, hown, hts⟩ := hC.1
  have hl : lv_has ls 4 [(0, .ref (a 1))] := hl
  refine lv_lconst (v := 0) hx hb dX8_takeWord_0 (by decide) ?_
  refine lv_lstore_n (lv' := [(1, .long 0), (0, .ref (a 1))]) hx hb dX8_takeWord_1 rfl hl (by decide) rfl (fun ls hl => ?_)
  refine lv_iconst (v := 0) hx hb dX8_takeWord_2 (by decide) ?_
  refine lv_istore_n (lv' := [(3, .int 0), (1, .long 0), (0, .ref (a 1))]) hx hb dX8_takeWord_3 rfl hl (by decide) rfl (fun ls hl => ?_)
  refine jp_W (fun k58 : Int64 → Int32 → St → Option (Int64 × St) => ∀ (w1 : Int64) (v2 : Int32) (S3 : St), k58 w1 v2 S3 = some (rz, Sz) → ∀ (H : Heap) (locs : List Loc) (ls : Array Slot), gw D A s.heap H locs (ccells cs a q1 q2 S3) → lv_has ls 4 [(1, .long w1), (3, .int v2)] → W p l e rmX8_takeWord s m args below meth c H locs 0 0 Q (F0 m 58 ls [])) ?_ ?_ hf
  · intro w1 v2 S3 hf H locs ls hM hl
    unfold j_X8_takeWord_58 at hf
    refine lv_iload_n hx hb dX8_takeWord_58 rfl (lv_at hl 1 rfl) ?_
    refine lv_bipush (v := 12) hx hb dX8_takeWord_59 (by decide) ?_
    refine lv_icmp_le (tgt := 68) hx hb dX8_takeWord_61 (by decide) (fun c4 => ?_) (fun c4 => ?_)
    · replace hf := it_t c4 hf
      refine lv_lload_n hx hb dX8_takeWord_68 rfl (lv_at hl 0 rfl) ?_
      obtain ⟨e1, e2⟩ := so_2 hf
      cases e1; cases e2
      exact hQ _ _ _ _ _ _ dX8_takeWord_69 hM (by decide) (by decide)
    · replace hf := it_f c4 hf
      refine lv_lconst (v := 0) hx hb dX8_takeWord_64 (by decide) ?_
      refine lv_goto (tgt := 69) hx hb dX8_takeWord_65 (by decide) ?_
      obtain ⟨e1, e2⟩ := so_2 hf
      cases e1; cases e2
      exact hQ _ _ _ _ _ _ dX8_takeWord_69 hM (by decide) (by decide)
  · intro k58 hk58 hf
    refine jl_W (fun k4 : Int64 → Int32 → St → Option (Int64 × St) => ∀ (w5 : Int64) (v6 : Int32) (S7 : St), k4 w5 v6 S7 = some (rz, Sz) → ∀ (H : Heap) (locs : List Loc) (ls : Array Slot), gw D A s.heap H locs (ccells cs a q1 q2 S7) → lv_has ls 4 [(0, .ref (a 1)), (1, .long w5), (3, .int v6)] → W p l e rmX8_takeWord s m args below meth c H locs 0 0 Q (F0 m 4 ls [])) ?_ ?_ ?_ hf
    · intro w5 v6 S7 h; cases h
    · intro k4 hk4 w5 v6 S7 hf H locs ls hM hl
      unfold b_X8_takeWord_4 at hf
      refine lv_aload_n hx hb dX8_takeWord_4 rfl (lv_at hl 0 rfl) ?_
      refine g_get hC hM inX8_takeWord_X8 1 cE1 clX8 2 (by decide) tX8_takeWord_1 TX8_2 cV1_2 dX8_takeWord_5 ?_
      refine lv_aload_n hx hb dX8_takeWord_8 rfl (lv_at hl 0 rfl) ?_
      refine g_get hC hM inX8_takeWord_X8 1 cE1 clX8 3 (by decide) tX8_takeWord_2 TX8_3 cV1_3 dX8_takeWord_9 ?_
      refine lv_icmp_ge (tgt := 58) hx hb dX8_takeWord_12 (by decide) (fun c8 => ?_) (fun c8 => ?_)
      · replace hf := it_t c8 hf
        exact hk58 _ _ _ hf _ _ _ hM (lv_sub hl [1, 2] rfl)
      · replace hf := it_f c8 hf
        refine lv_aload_n hx hb dX8_takeWord_15 rfl (lv_at hl 0 rfl) ?_
        obtain ⟨v9, hc, hf⟩ := bd_s hf
        refine gV_i hC hM hA hl.1 [] [] (c_X8_look l D cs a q1 q2 N S7 v9 hc) gX8_takeWord_X8_look rfl hd_X8_look ⟨by decide, by decide⟩ 1 8 clX8 rfl cE1 (Nat.le_of_ble_eq_true rfl) dX8_takeWord_16 rfl ⟨by decide, by decide⟩ (fun H locs hM => ?_)
        refine lv_bipush (v := 97) hx hb dX8_takeWord_19 (by decide) ?_
        refine lv_bipush (v := 122) hx hb dX8_takeWord_21 (by decide) ?_
        obtain ⟨v10, hc, hf⟩ := bd_s hf
        refine gN_i (host := "WeatherTeller") hC hM hA hl.1 [.int v9, .int 97, .int 122] [] (c_X10_isWithin l D cs (ccells cs a q1 q2 S7) N v9 97 122 v10 hc) ggX8_takeWord_X10_isWithin tX8_takeWord_9 tX8_takeWord_10 (by decide) rfl hd_X10_isWithin ⟨by decide, by decide⟩ (Nat.le_of_ble_eq_true rfl) dX8_takeWord_23 rfl ⟨by decide, by decide⟩ (fun H locs hM => ?_)
        refine lv_if_eq (tgt := 58) hx hb dX8_takeWord_26 (by decide) (fun c11 => ?_) (fun c11 => ?_)
        · replace hf := it_t c11 hf
          exact hk58 _ _ _ hf _ _ _ hM (lv_sub hl [1, 2] rfl)
        · replace hf := it_f c11 hf
          refine lv_lload_n hx hb dX8_takeWord_29 rfl (lv_at hl 1 rfl) ?_
          refine lv_iconst (v := 5) hx hb dX8_takeWord_30 (by decide) ?_
          refine lv_lshl hx hb dX8_takeWord_31 rfl ?_
          refine lv_aload_n hx hb dX8_takeWord_32 rfl (lv_at hl 0 rfl) ?_
          obtain ⟨v12, hc, hf⟩ := bd_s hf
          refine gV_i hC hM hA hl.1 [] [.long (w5 <<< ((5 : Int32).toInt64 &&& 63))] (c_X8_look l D cs a q1 q2 N S7 v12 hc) gX8_takeWord_X8_look rfl hd_X8_look ⟨by decide, by decide⟩ 1 8 clX8 rfl cE1 (Nat.le_of_ble_eq_true rfl) dX8_takeWord_33 rfl ⟨by decide, by decide⟩ (fun H locs hM => ?_)
          refine lv_bipush (v := 96) hx hb dX8_takeWord_36 (by decide) ?_
          refine lv_isub hx hb dX8_takeWord_38 ?_
          refine lv_i2l hx hb dX8_takeWord_39 rfl ?_
          refine lv_lor hx hb dX8_takeWord_40 ?_
          refine lv_topl (fun w13 ew13 => ?_)
          replace hf := nm_q ew13 hf
          refine lv_lstore_n (lv' := [(1, .long w13), (0, .ref (a 1)), (3, .int v6)]) hx hb dX8_takeWord_41 rfl hl (by decide) rfl (fun ls hl => ?_)
          obtain ⟨v14, ev14⟩ : ∃ y : Int32, y = v6 + 1 := ⟨_, rfl⟩
          replace hf := nm_q ev14 hf
          refine lv_iinc (v := v14) (lv' := [(3, .int v14), (1, .long w13), (0, .ref (a 1))]) hx hb dX8_takeWord_42 hl (k := 2) rfl (by rw [ev14]; rfl) (by decide) rfl (fun ls hl => ?_)
          refine lv_aload_n hx hb dX8_takeWord_45 rfl (lv_at hl 2 rfl) ?_
          refine lv_dup hx hb dX8_takeWord_46 rfl ?_
          refine g_get hC hM inX8_takeWord_X8 1 cE1 clX8 2 (by decide) tX8_takeWord_1 TX8_2 cV1_2 dX8_takeWord_47 ?_
          refine lv_iconst (v := 1) hx hb dX8_takeWord_50 (by decide) ?_
          refine lv_iadd hx hb dX8_takeWord_51 ?_
          refine g_put hC hM inX8_takeWord_X8 tyX8_ok nmX8 1 cE1 clX8 2 (by decide) tX8_takeWord_1 TX8_2 tyX8_2 rfl rfl (by rw [cL1]; decide) cP1_2 dX8_takeWord_52 (fun H locs hM => ?_)
          obtain ⟨S15, hf, hM⟩ := cnm hf hM
          refine lv_goto (tgt := 4) hx hb dX8_takeWord_55 (by decide) ?_
          exact hk4 _ _ _ hf _ _ _ hM (lv_sub hl [2, 1, 0] rfl)
    · intro k4 hk4 hf
      exact hk4 _ _ _ hf _ _ _ hM (lv_sub hl [2, 1, 0] rfl)

theorem hd_X8_takeDigits : yX8_takeDigits.cls = RX8 ∧ yX8_takeDigits.cls ≠ "java/lang/invoke/MethodHandle" ∧ yX8_takeDigits.cls ≠ "java/lang/invoke/VarHandle" ∧ (parseMethodDescriptor yX8_takeDigits.desc).map (fun d => d.parameters.length) = some 0 := by decide +kernel
theorem tX8_takeDigits_1 : Cond.fieldLink RX8 19 "WeatherTeller$Tape" "at" "I" ∈ wsX8_takeDigits := List.mem_of_getElem? (i := 1) rfl
theorem inX8_takeDigits_X8 : ∀ w ∈ u_ws RX8 TX8 4, w ∈ wsX8_takeDigits := fun _ h => List.mem_cons_of_mem _ (List.mem_append_right _ h)
theorem tX8_takeDigits_2 : Cond.fieldLink RX8 22 "WeatherTeller$Tape" "end" "I" ∈ wsX8_takeDigits := List.mem_of_getElem? (i := 2) rfl
theorem tX8_takeDigits_17 : Cond.static yX10_isWithin ∈ wsX8_takeDigits := List.mem_of_getElem? (i := 17) rfl
theorem tX8_takeDigits_18 : Cond.initialized RX10 ∈ wsX8_takeDigits := List.mem_of_getElem? (i := 18) rfl
theorem tX8_takeDigits_3 : Cond.constant RX8 33 (100000) ∈ wsX8_takeDigits := List.mem_of_getElem? (i := 3) rfl
def b_X8_takeDigits_2 (N : Nat) (k2 : Int32 → St → Option (Int32 × St)) (v1 : Int32) (S2 : St) : Option (Int32 × St) :=
  if (S2.1 1 3) ≤ (S2.1 1 2) then
    some (v1, S2)
  else
    bd (f_X8_look N S2) fun v4 =>
    bd (f_X10_isWithin N v4 48 57) fun v5 =>
    if v5 = 0 then
      some (v1, S2)
    else
      bd (f_X8_look N S2) fun v7 =>
      nm (if ((((if v1 < 0 then 0 else v1) * 10) + v7) - 48) < 100000 then ((((if v1 < 0 then 0 else v1) * 10) + v7) - 48) else 100000) fun v8 =>
      nm (puI S2 1 2 ((S2.1 1 2) + 1)) fun S9 =>
      k2 v8 S9
def f_X8_takeDigits (N : Nat)  (S : St) : Option (Int32 × St) :=
  jp (lp (fun _ _ => none) (b_X8_takeDigits_2 N) N) fun k2 =>
  k2 (-1) S
abbrev rmX8_takeDigits : Room := { frames := 1, cells := 0, slots := 0, locals := 22 }
set_option maxRecDepth 100000 in
set_option maxHeartbeats 4000000 in
theorem c_X8_takeDigits (l : Launch) (D : va_G) (cs : Nat → ClassId) (a : Nat → Nat) (q1 q2 : Nat) (N : Nat) (S : St) (rz : Int32) (Sz : St) (hf : f_X8_takeDigits N S = some (rz, Sz)) : gMi l yX8_takeDigits wsX8_takeDigits rmX8_takeDigits D cs [.ref (a 1)] (ccells cs a q1 q2 S) rz (ccells cs a q1 q2 Sz) := by
  unfold f_X8_takeDigits at hf
  refine gE_i (cc := cX8_takeDigits) (maxL := 2) (by decide) rfl (Nat.le_of_ble_eq_true rfl) ?_
  intro p e s m args below meth c A Q hC hA hQ hM ls hl
  obtain ⟨hx, hb, hml, hown, hts⟩ := hC.1
  have hl : lv_has ls 2 [(0, .ref (a 1))] := hl
  refine lv_iconst (v := (-1)) hx hb dX8_takeDigits_0 (by decide) ?_
  refine lv_istore_n (lv' := [(1, .int (-1)), (0, .ref (a 1))]) hx hb dX8_takeDigits_1 rfl hl (by decide) rfl (fun ls hl => ?_)
  refine jl_W (fun k2 : Int32 → St → Option (Int32 × St) => ∀ (v1 : Int32) (S2 : St), k2 v1 S2 = some (rz, Sz) → ∀ (H : Heap) (locs : List Loc) (ls : Array Slot), gw D A s.heap H locs (ccells cs a q1 q2 S2) → lv_has ls 2 [(0, .ref (a 1)), (1, .int v1)] → W p l e rmX8_takeDigits s m args below meth c H locs 0 0 Q (F0 m 2 ls [])) ?_ ?_ ?_ hf
  · intro v1 S2 h; cases h
  · intro k2 hk2 v1 S2 hf H locs ls hM hl
    unfold b_X8_takeDigits_2 at hf
    refine lv_aload_n hx hb dX8_takeDigits_2 rfl (lv_at hl 0 rfl) ?_
    refine g_get hC hM inX8_takeDigits_X8 1 cE1 clX8 2 (by decide) tX8_takeDigits_1 TX8_2 cV1_2 dX8_takeDigits_3 ?_
    refine lv_aload_n hx hb dX8_takeDigits_6 rfl (lv_at hl 0 rfl) ?_
    refine g_get hC hM inX8_takeDigits_X8 1 cE1 clX8 3 (by decide) tX8_takeDigits_2 TX8_3 cV1_3 dX8_takeDigits_7 ?_
    refine lv_icmp_ge (tgt := 62) hx hb dX8_takeDigits_10 (by decide) (fun c3 => ?_) (fun c3 => ?_)
    · replace hf := it_t c3 hf
      refine lv_iload_n hx hb dX8_takeDigits_62 rfl (lv_at hl 1 rfl) ?_
      obtain ⟨e1, e2⟩ := so_2 hf
      cases e1; cases e2
      exact hQ _ _ _ _ _ _ dX8_takeDigits_63 hM (by decide) (by decide)
    · replace hf := it_f c3 hf
      refine lv_aload_n hx hb dX8_takeDigits_13 rfl (lv_at hl 0 rfl) ?_
      obtain ⟨v4, hc, hf⟩ := bd_s hf
      refine gV_i hC hM hA hl.1 [] [] (c_X8_look l D cs a q1 q2 N S2 v4 hc) gX8_takeDigits_X8_look rfl hd_X8_look ⟨by decide, by decide⟩ 1 8 clX8 rfl cE1 (Nat.le_of_ble_eq_true rfl) dX8_takeDigits_14 rfl ⟨by decide, by decide⟩ (fun H locs hM => ?_)
      refine lv_bipush (v := 48) hx hb dX8_takeDigits_17 (by decide) ?_
      refine lv_bipush (v := 57) hx hb dX8_takeDigits_19 (by decide) ?_
      obtain ⟨v5, hc, hf⟩ := bd_s hf
      refine gN_i (host := "WeatherTeller") hC hM hA hl.1 [.int v4, .int 48, .int 57] [] (c_X10_isWithin l D cs (ccells cs a q1 q2 S2) N v4 48 57 v5 hc) ggX8_takeDigits_X10_isWithin tX8_takeDigits_17 tX8_takeDigits_18 (by decide) rfl hd_X10_isWithin ⟨by decide, by decide⟩ (Nat.le_of_ble_eq_true rfl) dX8_takeDigits_21 rfl ⟨by decide, by decide⟩ (fun H locs hM => ?_)
      refine lv_if_eq (tgt := 62) hx hb dX8_takeDigits_24 (by decide) (fun c6 => ?_) (fun c6 => ?_)
      · replace hf := it_t c6 hf
        refine lv_iload_n hx hb dX8_takeDigits_62 rfl (lv_at hl 1 rfl) ?_
        obtain ⟨e1, e2⟩ := so_2 hf
        cases e1; cases e2
        exact hQ _ _ _ _ _ _ dX8_takeDigits_63 hM (by decide) (by decide)
      · replace hf := it_f c6 hf
        refine lv_ldc hx hb hown (hts _ tX8_takeDigits_3) dX8_takeDigits_27 ?_
        refine lv_iload_n hx hb dX8_takeDigits_29 rfl (lv_at hl 1 rfl) ?_
        refine lv_iconst (v := 0) hx hb dX8_takeDigits_30 (by decide) ?_
        refine va_mmax hx hb (by rw [hml]; exact hl.1.symm) hown (hts _ (List.mem_of_getElem? (i := 4) rfl)) (hts _ (List.mem_of_getElem? (i := 5) rfl)) (hts _ (List.mem_of_getElem? (i := 6) rfl)) (hts _ (List.mem_of_getElem? (i := 7) rfl)) (by decide) (Nat.le_of_ble_eq_true rfl) (by decide) (by decide) dX8_takeDigits_31 ?_
        refine lv_bipush (v := 10) hx hb dX8_takeDigits_34 (by decide) ?_
        refine lv_imul hx hb dX8_takeDigits_36 ?_
        refine lv_aload_n hx hb dX8_takeDigits_37 rfl (lv_at hl 0 rfl) ?_
        obtain ⟨v7, hc, hf⟩ := bd_s hf
        refine gV_i hC hM hA hl.1 [] [.int ((if v1 < 0 then 0 else v1) * 10), .int 100000] (c_X8_look l D cs a q1 q2 N S2 v7 hc) gX8_takeDigits_X8_look rfl hd_X8_look ⟨by decide, by decide⟩ 1 8 clX8 rfl cE1 (Nat.le_of_ble_eq_true rfl) dX8_takeDigits_38 rfl ⟨by decide, by decide⟩ (fun H locs hM => ?_)
        refine lv_iadd hx hb dX8_takeDigits_41 ?_
        refine lv_bipush (v := 48) hx hb dX8_takeDigits_42 (by decide) ?_
        refine lv_isub hx hb dX8_takeDigits_44 ?_
        refine va_mmin hx hb (by rw [hml]; exact hl.1.symm) hown (hts _ (List.mem_of_getElem? (i := 8) rfl)) (hts _ (List.mem_of_getElem? (i := 9) rfl)) (hts _ (List.mem_of_getElem? (i := 6) rfl)) (hts _ (List.mem_of_getElem? (i := 10) rfl)) (by decide) (Nat.le_of_ble_eq_true rfl) (by decide) (by decide) dX8_takeDigits_45 ?_
        refine lv_topi (fun v8 ev8 => ?_)
        replace hf := nm_q ev8 hf
        refine lv_istore_n (lv' := [(1, .int v8), (0, .ref (a 1))]) hx hb dX8_takeDigits_48 rfl hl (by decide) rfl (fun ls hl => ?_)
        refine lv_aload_n hx hb dX8_takeDigits_49 rfl (lv_at hl 1 rfl) ?_
        refine lv_dup hx hb dX8_takeDigits_50 rfl ?_
        refine g_get hC hM inX8_takeDigits_X8 1 cE1 clX8 2 (by decide) tX8_takeDigits_1 TX8_2 cV1_2 dX8_takeDigits_51 ?_
        refine lv_iconst (v := 1) hx hb dX8_takeDigits_54 (by decide) ?_
        refine lv_iadd hx hb dX8_takeDigits_55 ?_
        refine g_put hC hM inX8_takeDigits_X8 tyX8_ok nmX8 1 cE1 clX8 2 (by decide) tX8_takeDigits_1 TX8_2 tyX8_2 rfl rfl (by rw [cL1]; decide) cP1_2 dX8_takeDigits_56 (fun H locs hM => ?_)
        obtain ⟨S9, hf, hM⟩ := cnm hf hM
        refine lv_goto (tgt := 2) hx hb dX8_takeDigits_59 (by decide) ?_
        exact hk2 _ _ hf _ _ _ hM (lv_sub hl [1, 0] rfl)
  · intro k2 hk2 hf
    exact hk2 _ _ hf _ _ _ hM (lv_sub hl [1, 0] rfl)

theorem hd_X4_placeNamed : yX4_placeNamed.cls = RX4 ∧ yX4_placeNamed.cls ≠ "java/lang/invoke/MethodHandle" ∧ yX4_placeNamed.cls ≠ "java/lang/invoke/VarHandle" ∧ (parseMethodDescriptor yX4_placeNamed.desc).map (fun d => d.parameters.length) = some 1 := by decide +kernel
theorem tX4_placeNamed_1 : Cond.fieldLink RX4 41 "WeatherTeller$Rules" "places" "I" ∈ wsX4_placeNamed := List.mem_of_getElem? (i := 1) rfl
theorem inX4_placeNamed_X4 : ∀ w ∈ u_ws RX4 TX4 12, w ∈ wsX4_placeNamed := fun _ h => List.mem_cons_of_mem _ (List.mem_append_right _ h)
theorem tX4_placeNamed_2 : Cond.fieldLink RX4 9 "WeatherTeller$Rules" "placeNames" "[J" ∈ wsX4_placeNamed := List.mem_of_getElem? (i := 2) rfl
def b_X4_placeNamed_2 (rr : Nat) (p0 : Int64) (S : St) (k2 : Int32 → Option (Int32)) (v1 : Int32) : Option (Int32) :=
  if (S.1 rr 9) ≤ v1 then
    some 0
  else
    ck v1 6 <|
    if (lg_cmp (S.2 (rr + 1) v1.toNatClampNeg) p0) = 0 then
      some (1 <<< (v1 &&& 31))
    else
      nm (v1 + 1) fun v5 =>
      k2 v5
def f_X4_placeNamed (N : Nat) (rr : Nat) (p0 : Int64) (S : St) : Option (Int32) :=
  jp (lp (fun _ => none) (b_X4_placeNamed_2 rr p0 S) N) fun k2 =>
  k2 0
abbrev rmX4_placeNamed_28 : Room := { frames := 0, cells := 0, slots := 0, locals := 0 }
set_option maxRecDepth 100000 in
set_option maxHeartbeats 4000000 in
theorem c_X4_placeNamed_28 (l : Launch) (D : va_G) (cs : Nat → ClassId) (a : Nat → Nat) (q1 q2 : Nat) (N : Nat) (p0 : Int64) (S : St) (rz : Int32) (hf : f_X4_placeNamed N 28 p0 S = some rz) : gMi l yX4_placeNamed wsX4_placeNamed rmX4_placeNamed_28 D cs [.ref (a 28), .long p0] (ccells cs a q1 q2 S) rz (ccells cs a q1 q2 S) := by
  unfold f_X4_placeNamed at hf
  refine gE_i (cc := cX4_placeNamed) (maxL := 4) (by decide) rfl (Nat.le_of_ble_eq_true rfl) ?_
  intro p e s m args below meth c A Q hC hA hQ hM ls hl
  obtain ⟨hx, hb, hml, hown, hts⟩ := hC.1
  have hl : lv_has ls 4 [(0, .ref (a 28)), (1, .long p0)] := hl
  refine lv_iconst (v := 0) hx hb dX4_placeNamed_0 (by decide) ?_
  refine lv_istore_n (lv' := [(3, .int 0), (0, .ref (a 28)), (1, .long p0)]) hx hb dX4_placeNamed_1 rfl hl (by decide) rfl (fun ls hl => ?_)
  refine jl_W (fun k2 : Int32 → Option (Int32) => ∀ (v1 : Int32), k2 v1 = some rz → ∀ (H : Heap) (locs : List Loc) (ls : Array Slot), gw D A s.heap H locs (ccells cs a q1 q2 S) → lv_has ls 4 [(0, .ref (a 28)), (1, .long p0), (3, .int v1)] → W p l e rmX4_placeNamed_28 s m args below meth c H locs 0 0 Q (F0 m 2 ls [])) ?_ ?_ ?_ hf
  · intro v1 h; cases h
  · intro k2 hk2 v1 hf H locs ls hM hl
    unfold b_X4_placeNamed_2 at hf
    refine lv_iload_n hx hb dX4_placeNamed_2 rfl (lv_at hl 2 rfl) ?_
    refine lv_aload_n hx hb dX4_placeNamed_3 rfl (lv_at hl 0 rfl) ?_
    refine g_get hC hM inX4_placeNamed_X4 28 cE28 clX4 9 (by decide) tX4_placeNamed_1 TX4_9 cV28_9 dX4_placeNamed_4 ?_
    refine lv_icmp_ge (tgt := 31) hx hb dX4_placeNamed_7 (by decide) (fun c2 => ?_) (fun c2 => ?_)
    · replace hf := it_t c2 hf
      refine lv_iconst (v := 0) hx hb dX4_placeNamed_31 (by decide) ?_
      cases so_1 hf
      exact hQ _ _ _ _ _ _ dX4_placeNamed_32 hM (by decide) (by decide)
    · replace hf := it_f c2 hf
      refine lv_aload_n hx hb dX4_placeNamed_10 rfl (lv_at hl 0 rfl) ?_
      refine g_get hC hM inX4_placeNamed_X4 28 cE28 clX4 0 (by decide) tX4_placeNamed_2 TX4_0 cV28_0 dX4_placeNamed_11 ?_
      refine lv_iload_n hx hb dX4_placeNamed_14 rfl (lv_at hl 2 rfl) ?_
      obtain ⟨h3, hf⟩ := ck_s hf
      refine g_lald hC hM 29 cE29 h3 dX4_placeNamed_15 ?_
      refine lv_lload_n hx hb dX4_placeNamed_16 rfl (lv_at hl 1 rfl) ?_
      refine W.lcmp hx hb dX4_placeNamed_17 ?_
      refine lv_if_ne (tgt := 25) hx hb dX4_placeNamed_18 (by decide) (fun c4 => ?_) (fun c4 => ?_)
      · replace hf := it_f c4 hf
        obtain ⟨v5, ev5⟩ : ∃ y : Int32, y = v1 + 1 := ⟨_, rfl⟩
        replace hf := nm_q ev5 hf
        refine lv_iinc (v := v5) (lv' := [(3, .int v5), (0, .ref (a 28)), (1, .long p0)]) hx hb dX4_placeNamed_25 hl (k := 2) rfl (by rw [ev5]; rfl) (by decide) rfl (fun ls hl => ?_)
        refine lv_goto (tgt := 2) hx hb dX4_placeNamed_28 (by decide) ?_
        exact hk2 _ hf _ _ _ hM (lv_sub hl [1, 2, 0] rfl)
      · replace hf := it_t c4 hf
        refine lv_iconst (v := 1) hx hb dX4_placeNamed_21 (by decide) ?_
        refine lv_iload_n hx hb dX4_placeNamed_22 rfl (lv_at hl 2 rfl) ?_
        refine lv_ishl hx hb dX4_placeNamed_23 ?_
        cases so_1 hf
        exact hQ _ _ _ _ _ _ dX4_placeNamed_24 hM (by decide) (by decide)
  · intro k2 hk2 hf
    exact hk2 _ hf _ _ _ hM (lv_sub hl [1, 2, 0] rfl)
