theorem hd_X11_numeral : yX11_numeral.cls = RX11 ∧ yX11_numeral.cls ≠ "java/lang/invoke/MethodHandle" ∧ yX11_numeral.cls ≠ "java/lang/invoke/VarHandle" ∧ (parseMethodDescriptor yX11_numeral.desc).map (fun d => d.parameters.length) = some 2 := by decide +kernel
theorem tX11_numeral_1 : Cond.fieldLink RX11 112 "WeatherTellerModel" "kind" "I" ∈ wsX11_numeral := List.mem_of_getElem? (i := 1) rfl
theorem inX11_numeral_X11 : ∀ w ∈ u_ws RX11 TX11 50, w ∈ wsX11_numeral := fun _ h => List.mem_cons_of_mem _ (List.mem_append_right _ h)
theorem tX11_numeral_3 : Cond.fieldLink RX11 123 "WeatherTellerModel" "which" "I" ∈ wsX11_numeral := List.mem_of_getElem? (i := 3) rfl
theorem tX11_numeral_2 : Cond.fieldLink RX11 109 "WeatherTellerModel" "place" "I" ∈ wsX11_numeral := List.mem_of_getElem? (i := 2) rfl
theorem tX11_numeral_4 : Cond.fieldLink RX11 140 "WeatherTellerModel" "read" "I" ∈ wsX11_numeral := List.mem_of_getElem? (i := 4) rfl
def j_X11_numeral_34 (N : Nat) (S : St)  : Option (Int32 × St) :=
  bd2 (f_X11_wrong N 2 (S.1 0 26) S) fun v2 S3 =>
  some (v2, S3)
def f_X11_numeral (N : Nat) (p0 : Int32) (p1 : Int32) (S : St) : Option (Int32 × St) :=
  zb <|
  if (S.1 0 24) = 2 then
    jp (j_X11_numeral_34 N S) fun k34 =>
    if (S.1 0 25) < p0 then
      k34
    else
      if (S.1 0 25) ≤ p1 then
        nm (puI S 0 28 (S.1 0 25)) fun S6 =>
        bd (f_X11_take N S6) fun S7 =>
        some (1, S7)
      else
        k34
  else
    bd2 (f_X11_wrong N 1 (S.1 0 26) S) fun v8 S9 =>
    some (v8, S9)
abbrev rmX11_numeral : Room := { frames := 2, cells := 0, slots := 0, locals := 48 }
set_option maxRecDepth 100000 in
set_option maxHeartbeats 4000000 in
theorem c_X11_numeral (l : Launch) (D : va_G) (cs : Nat → ClassId) (a : Nat → Nat) (N : Nat) (p0 : Int32) (p1 : Int32) (S : St) (rz : Int32) (Sz : St) (hf : f_X11_numeral N p0 p1 S = some (rz, Sz)) : gMi l yX11_numeral wsX11_numeral rmX11_numeral D cs [.ref (a 0), .int p0, .int p1] (mcells cs a S) rz (mcells cs a Sz) := by
  unfold f_X11_numeral at hf
  obtain ⟨hrz, hf⟩ := zb_s hf
  refine gE_z (cc := cX11_numeral) (maxL := 3) hrz (by decide) rfl (Nat.le_of_ble_eq_true rfl) ?_
  intro p e s m args below meth c A Q hC hA hQ hM ls hl
  obtain ⟨hx, hb, hml, hown, hts⟩ := hC.1
  have hl : lv_has ls 3 [(0, .ref (a 0)), (1, .int p0), (2, .int p1)] := hl
  refine lv_aload_n hx hb dX11_numeral_0 rfl (lv_at hl 0 rfl) ?_
  refine g_get hC hM inX11_numeral_X11 0 mE0 clX11 24 (by decide) tX11_numeral_1 TX11_24 mV0_24 dX11_numeral_1 ?_
  refine lv_iconst (v := 2) hx hb dX11_numeral_4 (by decide) ?_
  refine lv_icmp_eq (tgt := 18) hx hb dX11_numeral_5 (by decide) (fun c1 => ?_) (fun c1 => ?_)
  · replace hf := it_t c1 hf
    refine lv_aload_n hx hb dX11_numeral_18 rfl (lv_at hl 0 rfl) ?_
    refine g_get hC hM inX11_numeral_X11 0 mE0 clX11 25 (by decide) tX11_numeral_3 TX11_25 mV0_25 dX11_numeral_19 ?_
    refine lv_iload_n hx hb dX11_numeral_22 rfl (lv_at hl 1 rfl) ?_
    refine jp_W (fun k34 : Option (Int32 × St) => k34 = some (rz, Sz) → ∀ (H : Heap) (locs : List Loc) (ls : Array Slot), gw D A s.heap H locs (mcells cs a S) → lv_has ls 3 [(0, .ref (a 0))] → W p l e rmX11_numeral s m args below meth c H locs 0 0 Q (F0 m 34 ls [])) ?_ ?_ hf
    · intro  hf H locs ls hM hl
      unfold j_X11_numeral_34 at hf
      refine lv_aload_n hx hb dX11_numeral_34 rfl (lv_at hl 0 rfl) ?_
      refine lv_iconst (v := 2) hx hb dX11_numeral_35 (by decide) ?_
      refine lv_aload_n hx hb dX11_numeral_36 rfl (lv_at hl 0 rfl) ?_
      refine g_get hC hM inX11_numeral_X11 0 mE0 clX11 26 (by decide) tX11_numeral_2 TX11_26 mV0_26 dX11_numeral_37 ?_
      obtain ⟨v2, S3, hc, hf⟩ := bd2_s hf
      refine gV_i hC hM hA hl.1 [.int 2, .int (S.1 0 26)] [] (c_X11_wrong l D cs a N 2 (S.1 0 26) S v2 S3 hc) gX11_numeral_X11_wrong rfl hd_X11_wrong ⟨by decide, by decide⟩ 0 11 clX11 rfl mE0 (Nat.le_of_ble_eq_true rfl) dX11_numeral_40 rfl ⟨by decide, by decide⟩ (fun H locs hM => ?_)
      obtain ⟨e1, e2⟩ := so_2 hf
      cases e1; cases e2
      exact hQ _ _ _ _ _ _ dX11_numeral_43 hM (by decide) (by decide)
    · intro k34 hk34 hf
      refine lv_icmp_lt (tgt := 34) hx hb dX11_numeral_23 (by decide) (fun c4 => ?_) (fun c4 => ?_)
      · replace hf := it_t c4 hf
        exact hk34 hf _ _ _ hM (lv_sub hl [0] rfl)
      · replace hf := it_f c4 hf
        refine lv_aload_n hx hb dX11_numeral_26 rfl (lv_at hl 0 rfl) ?_
        refine g_get hC hM inX11_numeral_X11 0 mE0 clX11 25 (by decide) tX11_numeral_3 TX11_25 mV0_25 dX11_numeral_27 ?_
        refine lv_iload_n hx hb dX11_numeral_30 rfl (lv_at hl 2 rfl) ?_
        refine lv_icmp_le (tgt := 44) hx hb dX11_numeral_31 (by decide) (fun c5 => ?_) (fun c5 => ?_)
        · replace hf := it_t c5 hf
          refine lv_aload_n hx hb dX11_numeral_44 rfl (lv_at hl 0 rfl) ?_
          refine lv_aload_n hx hb dX11_numeral_45 rfl (lv_at hl 0 rfl) ?_
          refine g_get hC hM inX11_numeral_X11 0 mE0 clX11 25 (by decide) tX11_numeral_3 TX11_25 mV0_25 dX11_numeral_46 ?_
          refine g_put hC hM inX11_numeral_X11 tyX11_ok nmX11 0 mE0 clX11 28 (by decide) tX11_numeral_4 TX11_28 tyX11_28 rfl rfl (by rw [mL0]; decide) mP0_28 dX11_numeral_49 (fun H locs hM => ?_)
          obtain ⟨S6, hf, hM⟩ := mnm hf hM
          refine lv_aload_n hx hb dX11_numeral_52 rfl (lv_at hl 0 rfl) ?_
          obtain ⟨S7, hc, hf⟩ := bd_s hf
          refine gV_v hC hM hA hl.1 [] [] (c_X11_take l D cs a N S6 S7 hc) gX11_numeral_X11_take rfl hd_X11_take ⟨by decide, by decide⟩ 0 11 clX11 rfl mE0 (Nat.le_of_ble_eq_true rfl) dX11_numeral_53 rfl ⟨by decide, by decide⟩ (fun H locs hM => ?_)
          refine lv_iconst (v := 1) hx hb dX11_numeral_56 (by decide) ?_
          obtain ⟨e1, e2⟩ := so_2 hf
          cases e1; cases e2
          exact hQ _ _ _ _ _ _ dX11_numeral_57 hM (by decide) (by decide)
        · replace hf := it_f c5 hf
          exact hk34 hf _ _ _ hM (lv_sub hl [0] rfl)
  · replace hf := it_f c1 hf
    refine lv_aload_n hx hb dX11_numeral_8 rfl (lv_at hl 0 rfl) ?_
    refine lv_iconst (v := 1) hx hb dX11_numeral_9 (by decide) ?_
    refine lv_aload_n hx hb dX11_numeral_10 rfl (lv_at hl 0 rfl) ?_
    refine g_get hC hM inX11_numeral_X11 0 mE0 clX11 26 (by decide) tX11_numeral_2 TX11_26 mV0_26 dX11_numeral_11 ?_
    obtain ⟨v8, S9, hc, hf⟩ := bd2_s hf
    refine gV_i hC hM hA hl.1 [.int 1, .int (S.1 0 26)] [] (c_X11_wrong l D cs a N 1 (S.1 0 26) S v8 S9 hc) gX11_numeral_X11_wrong rfl hd_X11_wrong ⟨by decide, by decide⟩ 0 11 clX11 rfl mE0 (Nat.le_of_ble_eq_true rfl) dX11_numeral_14 rfl ⟨by decide, by decide⟩ (fun H locs hM => ?_)
    obtain ⟨e1, e2⟩ := so_2 hf
    cases e1; cases e2
    exact hQ _ _ _ _ _ _ dX11_numeral_17 hM (by decide) (by decide)

theorem hd_X11_nameRead : yX11_nameRead.cls = RX11 ∧ yX11_nameRead.cls ≠ "java/lang/invoke/MethodHandle" ∧ yX11_nameRead.cls ≠ "java/lang/invoke/VarHandle" ∧ (parseMethodDescriptor yX11_nameRead.desc).map (fun d => d.parameters.length) = some 2 := by decide +kernel
theorem tX11_nameRead_4 : Cond.fieldLink RX11 13 "WeatherTellerModel" "letters" "[I" ∈ wsX11_nameRead := List.mem_of_getElem? (i := 4) rfl
theorem inX11_nameRead_X11 : ∀ w ∈ u_ws RX11 TX11 50, w ∈ wsX11_nameRead := fun _ h => List.mem_cons_of_mem _ (List.mem_append_right _ h)
theorem tX11_nameRead_5 : Cond.fieldLink RX11 7 "WeatherTellerModel" "tape" "[I" ∈ wsX11_nameRead := List.mem_of_getElem? (i := 5) rfl
theorem tX11_nameRead_3 : Cond.fieldLink RX11 16 "WeatherTellerModel" "sizes" "[I" ∈ wsX11_nameRead := List.mem_of_getElem? (i := 3) rfl
theorem tX11_nameRead_2 : Cond.fieldLink RX11 146 "WeatherTellerModel" "rRegions" "I" ∈ wsX11_nameRead := List.mem_of_getElem? (i := 2) rfl
theorem tX11_nameRead_1 : Cond.fieldLink RX11 143 "WeatherTellerModel" "rPlaces" "I" ∈ wsX11_nameRead := List.mem_of_getElem? (i := 1) rfl
def j_X11_nameRead_129 (v1 : Int32) (k3 : Int32 → Option (Int32)) (v5 : Int32) : Option (Int32) :=
  if v5 = 0 then
    nm (v1 + 1) fun v7 =>
    k3 v7
  else
    some v1
def j_X11_nameRead_121 (v9 : Int32) (k79 : Int32 → Int32 → Option (Int32)) (v14 : Int32) : Option (Int32) :=
  nm (v9 + 1) fun v15 =>
  k79 v14 v15
def b_X11_nameRead_79 (p0 : Int32) (p1 : Int32) (S : St) (v1 : Int32) (k129 : Int32 → Option (Int32)) (k79 : Int32 → Int32 → Option (Int32)) (v8 : Int32) (v9 : Int32) : Option (Int32) :=
  if (p1 - p0) ≤ v9 then
    k129 v8
  else
    if v8 = 0 then
      k129 v8
    else
      ck ((12 * v1) + v9) 288 <|
      ck (p0 + v9) 1000 <|
      jp (j_X11_nameRead_121 v9 k79) fun k121 =>
      if (S.1 2 ((12 * v1) + v9).toNatClampNeg) = (S.1 1 (p0 + v9).toNatClampNeg) then
        k121 1
      else
        k121 0
def j_X11_nameRead_74 (N : Nat) (p0 : Int32) (p1 : Int32) (S : St) (v1 : Int32) (k3 : Int32 → Option (Int32)) (v4 : Int32) : Option (Int32) :=
  jp (j_X11_nameRead_129 v1 k3) fun k129 =>
  jp (lp (fun _ _ => none) (b_X11_nameRead_79 p0 p1 S v1 k129) N) fun k79 =>
  k79 v4 0
def j_X11_nameRead_73 (k74 : Int32 → Option (Int32))  : Option (Int32) :=
  k74 0
def j_X11_nameRead_50 (N : Nat) (p0 : Int32) (p1 : Int32) (S : St) (v1 : Int32) (k3 : Int32 → Option (Int32)) (v3 : Int32) : Option (Int32) :=
  jp (j_X11_nameRead_74 N p0 p1 S v1 k3) fun k74 =>
  jp (j_X11_nameRead_73 k74) fun k73 =>
  if v3 = 0 then
    k73
  else
    ck v1 24 <|
    if (S.1 3 v1.toNatClampNeg) = (p1 - p0) then
      k74 1
    else
      k73
def b_X11_nameRead_3 (N : Nat) (p0 : Int32) (p1 : Int32) (S : St) (k3 : Int32 → Option (Int32)) (v1 : Int32) : Option (Int32) :=
  if 24 ≤ v1 then
    some (-1)
  else
    jp (j_X11_nameRead_50 N p0 p1 S v1 k3) fun k50 =>
    if 18 ≤ v1 then
      if (S.1 0 30) ≤ (v1 - 18) then
        k50 0
      else
        k50 1
    else
      if (S.1 0 29) ≤ (v1 - 12) then
        k50 0
      else
        k50 1
def f_X11_nameRead (N : Nat) (p0 : Int32) (p1 : Int32) (S : St) : Option (Int32) :=
  jp (lp (fun _ => none) (b_X11_nameRead_3 N p0 p1 S) N) fun k3 =>
  k3 12
abbrev rmX11_nameRead : Room := { frames := 0, cells := 0, slots := 0, locals := 0 }
set_option maxRecDepth 100000 in
set_option maxHeartbeats 4000000 in
theorem c_X11_nameRead (l : Launch) (D : va_G) (cs : Nat → ClassId) (a : Nat → Nat) (N : Nat) (p0 : Int32) (p1 : Int32) (S : St) (rz : Int32) (hf : f_X11_nameRead N p0 p1 S = some rz) : gMi l yX11_nameRead wsX11_nameRead rmX11_nameRead D cs [.ref (a 0), .int p0, .int p1] (mcells cs a S) rz (mcells cs a S) := by
  unfold f_X11_nameRead at hf
  refine gE_i (cc := cX11_nameRead) (maxL := 6) (by decide) rfl (Nat.le_of_ble_eq_true rfl) ?_
  intro p e s m args below meth c A Q hC hA hQ hM ls hl
  obtain ⟨hx, hb, hml, hown, hts⟩ := hC.1
  have hl : lv_has ls 6 [(0, .ref (a 0)), (1, .int p0), (2, .int p1)] := hl
  refine lv_bipush (v := 12) hx hb dX11_nameRead_0 (by decide) ?_
  refine lv_istore_n (lv' := [(3, .int 12), (0, .ref (a 0)), (1, .int p0), (2, .int p1)]) hx hb dX11_nameRead_2 rfl hl (by decide) rfl (fun ls hl => ?_)
  refine jl_W (fun k3 : Int32 → Option (Int32) => ∀ (v1 : Int32), k3 v1 = some rz → ∀ (H : Heap) (locs : List Loc) (ls : Array Slot), gw D A s.heap H locs (mcells cs a S) → lv_has ls 6 [(0, .ref (a 0)), (1, .int p0), (2, .int p1), (3, .int v1)] → W p l e rmX11_nameRead s m args below meth c H locs 0 0 Q (F0 m 3 ls [])) ?_ ?_ ?_ hf
  · intro v1 h; cases h
  · intro k3 hk3 v1 hf H locs ls hM hl
    unfold b_X11_nameRead_3 at hf
    refine lv_iload_n hx hb dX11_nameRead_3 rfl (lv_at hl 3 rfl) ?_
    refine lv_bipush (v := 24) hx hb dX11_nameRead_4 (by decide) ?_
    refine lv_icmp_ge (tgt := 142) hx hb dX11_nameRead_6 (by decide) (fun c2 => ?_) (fun c2 => ?_)
    · replace hf := it_t c2 hf
      refine lv_iconst (v := (-1)) hx hb dX11_nameRead_142 (by decide) ?_
      cases so_1 hf
      exact hQ _ _ _ _ _ _ dX11_nameRead_143 hM (by decide) (by decide)
    · replace hf := it_f c2 hf
      refine lv_iload_n hx hb dX11_nameRead_9 rfl (lv_at hl 3 rfl) ?_
      refine lv_bipush (v := 18) hx hb dX11_nameRead_10 (by decide) ?_
      refine jp_W (fun k50 : Int32 → Option (Int32) => ∀ (v3 : Int32), k50 v3 = some rz → ∀ (H : Heap) (locs : List Loc) (ls : Array Slot), gw D A s.heap H locs (mcells cs a S) → lv_has ls 6 [(0, .ref (a 0)), (1, .int p0), (2, .int p1), (3, .int v1)] → W p l e rmX11_nameRead s m args below meth c H locs 0 0 Q (F0 m 50 ls [.int v3])) ?_ ?_ hf
      · intro v3 hf H locs ls hM hl
        unfold j_X11_nameRead_50 at hf
        refine lv_istore (lv' := [(4, .int v3), (0, .ref (a 0)), (1, .int p0), (2, .int p1), (3, .int v1)]) hx hb dX11_nameRead_50 hl (by decide) rfl (fun ls hl => ?_)
        refine lv_iload hx hb dX11_nameRead_52 (lv_at hl 0 rfl) ?_
        refine jp_W (fun k74 : Int32 → Option (Int32) => ∀ (v4 : Int32), k74 v4 = some rz → ∀ (H : Heap) (locs : List Loc) (ls : Array Slot), gw D A s.heap H locs (mcells cs a S) → lv_has ls 6 [(0, .ref (a 0)), (1, .int p0), (2, .int p1), (3, .int v1)] → W p l e rmX11_nameRead s m args below meth c H locs 0 0 Q (F0 m 74 ls [.int v4])) ?_ ?_ hf
        · intro v4 hf H locs ls hM hl
          unfold j_X11_nameRead_74 at hf
          refine lv_istore (lv' := [(4, .int v4), (0, .ref (a 0)), (1, .int p0), (2, .int p1), (3, .int v1)]) hx hb dX11_nameRead_74 hl (by decide) rfl (fun ls hl => ?_)
          refine lv_iconst (v := 0) hx hb dX11_nameRead_76 (by decide) ?_
          refine lv_istore (lv' := [(5, .int 0), (4, .int v4), (0, .ref (a 0)), (1, .int p0), (2, .int p1), (3, .int v1)]) hx hb dX11_nameRead_77 hl (by decide) rfl (fun ls hl => ?_)
          refine jp_W (fun k129 : Int32 → Option (Int32) => ∀ (v5 : Int32), k129 v5 = some rz → ∀ (H : Heap) (locs : List Loc) (ls : Array Slot), gw D A s.heap H locs (mcells cs a S) → lv_has ls 6 [(0, .ref (a 0)), (1, .int p0), (2, .int p1), (3, .int v1), (4, .int v5)] → W p l e rmX11_nameRead s m args below meth c H locs 0 0 Q (F0 m 129 ls [])) ?_ ?_ hf
          · intro v5 hf H locs ls hM hl
            unfold j_X11_nameRead_129 at hf
            refine lv_iload hx hb dX11_nameRead_129 (lv_at hl 4 rfl) ?_
            refine lv_if_eq (tgt := 136) hx hb dX11_nameRead_131 (by decide) (fun c6 => ?_) (fun c6 => ?_)
            · replace hf := it_t c6 hf
              obtain ⟨v7, ev7⟩ : ∃ y : Int32, y = v1 + 1 := ⟨_, rfl⟩
              replace hf := nm_q ev7 hf
              refine lv_iinc (v := v7) (lv' := [(3, .int v7), (0, .ref (a 0)), (1, .int p0), (2, .int p1), (4, .int v5)]) hx hb dX11_nameRead_136 hl (k := 3) rfl (by rw [ev7]; rfl) (by decide) rfl (fun ls hl => ?_)
              refine lv_goto (tgt := 3) hx hb dX11_nameRead_139 (by decide) ?_
              exact hk3 _ hf _ _ _ hM (lv_sub hl [1, 2, 3, 0] rfl)
            · replace hf := it_f c6 hf
              refine lv_iload_n hx hb dX11_nameRead_134 rfl (lv_at hl 3 rfl) ?_
              cases so_1 hf
              exact hQ _ _ _ _ _ _ dX11_nameRead_135 hM (by decide) (by decide)
          · intro k129 hk129 hf
            refine jl_W (fun k79 : Int32 → Int32 → Option (Int32) => ∀ (v8 : Int32) (v9 : Int32), k79 v8 v9 = some rz → ∀ (H : Heap) (locs : List Loc) (ls : Array Slot), gw D A s.heap H locs (mcells cs a S) → lv_has ls 6 [(0, .ref (a 0)), (1, .int p0), (2, .int p1), (3, .int v1), (4, .int v8), (5, .int v9)] → W p l e rmX11_nameRead s m args below meth c H locs 0 0 Q (F0 m 79 ls [])) ?_ ?_ ?_ hf
            · intro v8 v9 h; cases h
            · intro k79 hk79 v8 v9 hf H locs ls hM hl
              unfold b_X11_nameRead_79 at hf
              refine lv_iload hx hb dX11_nameRead_79 (lv_at hl 5 rfl) ?_
              refine lv_iload_n hx hb dX11_nameRead_81 rfl (lv_at hl 2 rfl) ?_
              refine lv_iload_n hx hb dX11_nameRead_82 rfl (lv_at hl 1 rfl) ?_
              refine lv_isub hx hb dX11_nameRead_83 ?_
              refine lv_icmp_ge (tgt := 129) hx hb dX11_nameRead_84 (by decide) (fun c10 => ?_) (fun c10 => ?_)
              · replace hf := it_t c10 hf
                exact hk129 _ hf _ _ _ hM (lv_sub hl [0, 1, 2, 3, 4] rfl)
              · replace hf := it_f c10 hf
                refine lv_iload hx hb dX11_nameRead_87 (lv_at hl 4 rfl) ?_
                refine lv_if_eq (tgt := 129) hx hb dX11_nameRead_89 (by decide) (fun c11 => ?_) (fun c11 => ?_)
                · replace hf := it_t c11 hf
                  exact hk129 _ hf _ _ _ hM (lv_sub hl [0, 1, 2, 3, 4] rfl)
                · replace hf := it_f c11 hf
                  refine lv_aload_n hx hb dX11_nameRead_92 rfl (lv_at hl 0 rfl) ?_
                  refine g_get hC hM inX11_nameRead_X11 0 mE0 clX11 5 (by decide) tX11_nameRead_4 TX11_5 mV0_5 dX11_nameRead_93 ?_
                  refine lv_bipush (v := 12) hx hb dX11_nameRead_96 (by decide) ?_
                  refine lv_iload_n hx hb dX11_nameRead_98 rfl (lv_at hl 3 rfl) ?_
                  refine lv_imul hx hb dX11_nameRead_99 ?_
                  refine lv_iload hx hb dX11_nameRead_100 (lv_at hl 5 rfl) ?_
                  refine lv_iadd hx hb dX11_nameRead_102 ?_
                  obtain ⟨h12, hf⟩ := ck_s hf
                  refine g_iald hC hM 2 mE2 h12 dX11_nameRead_103 ?_
                  refine lv_aload_n hx hb dX11_nameRead_104 rfl (lv_at hl 0 rfl) ?_
                  refine g_get hC hM inX11_nameRead_X11 0 mE0 clX11 0 (by decide) tX11_nameRead_5 TX11_0 mV0_0 dX11_nameRead_105 ?_
                  refine lv_iload_n hx hb dX11_nameRead_108 rfl (lv_at hl 1 rfl) ?_
                  refine lv_iload hx hb dX11_nameRead_109 (lv_at hl 5 rfl) ?_
                  refine lv_iadd hx hb dX11_nameRead_111 ?_
                  obtain ⟨h13, hf⟩ := ck_s hf
                  refine g_iald hC hM 1 mE1 h13 dX11_nameRead_112 ?_
                  refine jp_W (fun k121 : Int32 → Option (Int32) => ∀ (v14 : Int32), k121 v14 = some rz → ∀ (H : Heap) (locs : List Loc) (ls : Array Slot), gw D A s.heap H locs (mcells cs a S) → lv_has ls 6 [(0, .ref (a 0)), (1, .int p0), (2, .int p1), (3, .int v1), (5, .int v9)] → W p l e rmX11_nameRead s m args below meth c H locs 0 0 Q (F0 m 121 ls [.int v14])) ?_ ?_ hf
                  · intro v14 hf H locs ls hM hl
                    unfold j_X11_nameRead_121 at hf
                    refine lv_istore (lv' := [(4, .int v14), (0, .ref (a 0)), (1, .int p0), (2, .int p1), (3, .int v1), (5, .int v9)]) hx hb dX11_nameRead_121 hl (by decide) rfl (fun ls hl => ?_)
                    obtain ⟨v15, ev15⟩ : ∃ y : Int32, y = v9 + 1 := ⟨_, rfl⟩
                    replace hf := nm_q ev15 hf
                    refine lv_iinc (v := v15) (lv' := [(5, .int v15), (4, .int v14), (0, .ref (a 0)), (1, .int p0), (2, .int p1), (3, .int v1)]) hx hb dX11_nameRead_123 hl (k := 5) rfl (by rw [ev15]; rfl) (by decide) rfl (fun ls hl => ?_)
                    refine lv_goto (tgt := 79) hx hb dX11_nameRead_126 (by decide) ?_
                    exact hk79 _ _ hf _ _ _ hM (lv_sub hl [2, 3, 4, 5, 1, 0] rfl)
                  · intro k121 hk121 hf
                    refine lv_icmp_ne (tgt := 120) hx hb dX11_nameRead_113 (by decide) (fun c16 => ?_) (fun c16 => ?_)
                    · replace hf := it_f c16 hf
                      refine lv_iconst (v := 0) hx hb dX11_nameRead_120 (by decide) ?_
                      exact hk121 _ hf _ _ _ hM (lv_sub hl [0, 1, 2, 3, 5] rfl)
                    · replace hf := it_t c16 hf
                      refine lv_iconst (v := 1) hx hb dX11_nameRead_116 (by decide) ?_
                      refine lv_goto (tgt := 121) hx hb dX11_nameRead_117 (by decide) ?_
                      exact hk121 _ hf _ _ _ hM (lv_sub hl [0, 1, 2, 3, 5] rfl)
            · intro k79 hk79 hf
              exact hk79 _ _ hf _ _ _ hM (lv_sub hl [2, 3, 4, 5, 1, 0] rfl)
        · intro k74 hk74 hf
          refine jp_W (fun k73 : Option (Int32) => k73 = some rz → ∀ (H : Heap) (locs : List Loc) (ls : Array Slot), gw D A s.heap H locs (mcells cs a S) → lv_has ls 6 [(0, .ref (a 0)), (1, .int p0), (2, .int p1), (3, .int v1)] → W p l e rmX11_nameRead s m args below meth c H locs 0 0 Q (F0 m 73 ls [])) ?_ ?_ hf
          · intro  hf H locs ls hM hl
            unfold j_X11_nameRead_73 at hf
            refine lv_iconst (v := 0) hx hb dX11_nameRead_73 (by decide) ?_
            exact hk74 _ hf _ _ _ hM hl
          · intro k73 hk73 hf
            refine lv_if_eq (tgt := 73) hx hb dX11_nameRead_54 (by decide) (fun c17 => ?_) (fun c17 => ?_)
            · replace hf := it_t c17 hf
              exact hk73 hf _ _ _ hM (lv_sub hl [1, 2, 3, 4] rfl)
            · replace hf := it_f c17 hf
              refine lv_aload_n hx hb dX11_nameRead_57 rfl (lv_at hl 1 rfl) ?_
              refine g_get hC hM inX11_nameRead_X11 0 mE0 clX11 6 (by decide) tX11_nameRead_3 TX11_6 mV0_6 dX11_nameRead_58 ?_
              refine lv_iload_n hx hb dX11_nameRead_61 rfl (lv_at hl 4 rfl) ?_
              obtain ⟨h18, hf⟩ := ck_s hf
              refine g_iald hC hM 3 mE3 h18 dX11_nameRead_62 ?_
              refine lv_iload_n hx hb dX11_nameRead_63 rfl (lv_at hl 3 rfl) ?_
              refine lv_iload_n hx hb dX11_nameRead_64 rfl (lv_at hl 2 rfl) ?_
              refine lv_isub hx hb dX11_nameRead_65 ?_
              refine lv_icmp_ne (tgt := 73) hx hb dX11_nameRead_66 (by decide) (fun c19 => ?_) (fun c19 => ?_)
              · replace hf := it_f c19 hf
                exact hk73 hf _ _ _ hM (lv_sub hl [1, 2, 3, 4] rfl)
              · replace hf := it_t c19 hf
                refine lv_iconst (v := 1) hx hb dX11_nameRead_69 (by decide) ?_
                refine lv_goto (tgt := 74) hx hb dX11_nameRead_70 (by decide) ?_
                exact hk74 _ hf _ _ _ hM (lv_sub hl [1, 2, 3, 4] rfl)
      · intro k50 hk50 hf
        refine lv_icmp_ge (tgt := 34) hx hb dX11_nameRead_12 (by decide) (fun c20 => ?_) (fun c20 => ?_)
        · replace hf := it_t c20 hf
          refine lv_iload_n hx hb dX11_nameRead_34 rfl (lv_at hl 3 rfl) ?_
          refine lv_bipush (v := 18) hx hb dX11_nameRead_35 (by decide) ?_
          refine lv_isub hx hb dX11_nameRead_37 ?_
          refine lv_aload_n hx hb dX11_nameRead_38 rfl (lv_at hl 0 rfl) ?_
          refine g_get hC hM inX11_nameRead_X11 0 mE0 clX11 30 (by decide) tX11_nameRead_2 TX11_30 mV0_30 dX11_nameRead_39 ?_
          refine lv_icmp_ge (tgt := 49) hx hb dX11_nameRead_42 (by decide) (fun c21 => ?_) (fun c21 => ?_)
          · replace hf := it_t c21 hf
            refine lv_iconst (v := 0) hx hb dX11_nameRead_49 (by decide) ?_
            exact hk50 _ hf _ _ _ hM hl
          · replace hf := it_f c21 hf
            refine lv_iconst (v := 1) hx hb dX11_nameRead_45 (by decide) ?_
            refine lv_goto (tgt := 50) hx hb dX11_nameRead_46 (by decide) ?_
            exact hk50 _ hf _ _ _ hM hl
        · replace hf := it_f c20 hf
          refine lv_iload_n hx hb dX11_nameRead_15 rfl (lv_at hl 3 rfl) ?_
          refine lv_bipush (v := 12) hx hb dX11_nameRead_16 (by decide) ?_
          refine lv_isub hx hb dX11_nameRead_18 ?_
          refine lv_aload_n hx hb dX11_nameRead_19 rfl (lv_at hl 0 rfl) ?_
          refine g_get hC hM inX11_nameRead_X11 0 mE0 clX11 29 (by decide) tX11_nameRead_1 TX11_29 mV0_29 dX11_nameRead_20 ?_
          refine lv_icmp_ge (tgt := 30) hx hb dX11_nameRead_23 (by decide) (fun c22 => ?_) (fun c22 => ?_)
          · replace hf := it_t c22 hf
            refine lv_iconst (v := 0) hx hb dX11_nameRead_30 (by decide) ?_
            refine lv_goto (tgt := 50) hx hb dX11_nameRead_31 (by decide) ?_
            exact hk50 _ hf _ _ _ hM hl
          · replace hf := it_f c22 hf
            refine lv_iconst (v := 1) hx hb dX11_nameRead_26 (by decide) ?_
            refine lv_goto (tgt := 50) hx hb dX11_nameRead_27 (by decide) ?_
            exact hk50 _ hf _ _ _ hM hl
  · intro k3 hk3 hf
    exact hk3 _ hf _ _ _ hM (lv_sub hl [1, 2, 3, 0] rfl)

theorem hd_X11_isName : yX11_isName.cls = RX11 ∧ yX11_isName.cls ≠ "java/lang/invoke/MethodHandle" ∧ yX11_isName.cls ≠ "java/lang/invoke/VarHandle" ∧ (parseMethodDescriptor yX11_isName.desc).map (fun d => d.parameters.length) = some 0 := by decide +kernel
theorem tX11_isName_1 : Cond.fieldLink RX11 112 "WeatherTellerModel" "kind" "I" ∈ wsX11_isName := List.mem_of_getElem? (i := 1) rfl
theorem inX11_isName_X11 : ∀ w ∈ u_ws RX11 TX11 50, w ∈ wsX11_isName := fun _ h => List.mem_cons_of_mem _ (List.mem_append_right _ h)
theorem tX11_isName_2 : Cond.fieldLink RX11 123 "WeatherTellerModel" "which" "I" ∈ wsX11_isName := List.mem_of_getElem? (i := 2) rfl
def f_X11_isName (N : Nat)  (S : St) : Option (Int32) :=
  z1 <|
  if (S.1 0 24) = 1 then
    if (S.1 0 25) = 0 then
      some 1
    else
      some 0
  else
    some 0
abbrev rmX11_isName : Room := { frames := 0, cells := 0, slots := 0, locals := 0 }
set_option maxRecDepth 100000 in
set_option maxHeartbeats 4000000 in
theorem c_X11_isName (l : Launch) (D : va_G) (cs : Nat → ClassId) (a : Nat → Nat) (N : Nat) (S : St) (rz : Int32) (hf : f_X11_isName N S = some rz) : gMi l yX11_isName wsX11_isName rmX11_isName D cs [.ref (a 0)] (mcells cs a S) rz (mcells cs a S) := by
  unfold f_X11_isName at hf
  obtain ⟨hrz, hf⟩ := z1_s hf
  refine gE_z (cc := cX11_isName) (maxL := 1) hrz (by decide) rfl (Nat.le_of_ble_eq_true rfl) ?_
  intro p e s m args below meth c A Q hC hA hQ hM ls hl
  obtain ⟨hx, hb, hml, hown, hts⟩ := hC.1
  have hl : lv_has ls 1 [(0, .ref (a 0))] := hl
  refine lv_aload_n hx hb dX11_isName_0 rfl (lv_at hl 0 rfl) ?_
  refine g_get hC hM inX11_isName_X11 0 mE0 clX11 24 (by decide) tX11_isName_1 TX11_24 mV0_24 dX11_isName_1 ?_
  refine lv_iconst (v := 1) hx hb dX11_isName_4 (by decide) ?_
  refine lv_icmp_ne (tgt := 19) hx hb dX11_isName_5 (by decide) (fun c1 => ?_) (fun c1 => ?_)
  · replace hf := it_f c1 hf
    refine lv_iconst (v := 0) hx hb dX11_isName_19 (by decide) ?_
    cases so_1 hf
    exact hQ _ _ _ _ _ _ dX11_isName_20 hM (by decide) (by decide)
  · replace hf := it_t c1 hf
    refine lv_aload_n hx hb dX11_isName_8 rfl (lv_at hl 0 rfl) ?_
    refine g_get hC hM inX11_isName_X11 0 mE0 clX11 25 (by decide) tX11_isName_2 TX11_25 mV0_25 dX11_isName_9 ?_
    refine lv_if_ne (tgt := 19) hx hb dX11_isName_12 (by decide) (fun c2 => ?_) (fun c2 => ?_)
    · replace hf := it_f c2 hf
      refine lv_iconst (v := 0) hx hb dX11_isName_19 (by decide) ?_
      cases so_1 hf
      exact hQ _ _ _ _ _ _ dX11_isName_20 hM (by decide) (by decide)
    · replace hf := it_t c2 hf
      refine lv_iconst (v := 1) hx hb dX11_isName_15 (by decide) ?_
      refine lv_goto (tgt := 20) hx hb dX11_isName_16 (by decide) ?_
      cases so_1 hf
      exact hQ _ _ _ _ _ _ dX11_isName_20 hM (by decide) (by decide)

theorem hd_X11_newName : yX11_newName.cls = RX11 ∧ yX11_newName.cls ≠ "java/lang/invoke/MethodHandle" ∧ yX11_newName.cls ≠ "java/lang/invoke/VarHandle" ∧ (parseMethodDescriptor yX11_newName.desc).map (fun d => d.parameters.length) = some 1 := by decide +kernel
theorem tX11_newName_1 : Cond.fieldLink RX11 109 "WeatherTellerModel" "place" "I" ∈ wsX11_newName := List.mem_of_getElem? (i := 1) rfl
theorem inX11_newName_X11 : ∀ w ∈ u_ws RX11 TX11 50, w ∈ wsX11_newName := fun _ h => List.mem_cons_of_mem _ (List.mem_append_right _ h)
theorem tX11_newName_2 : Cond.fieldLink RX11 130 "WeatherTellerModel" "end" "I" ∈ wsX11_newName := List.mem_of_getElem? (i := 2) rfl
theorem tX11_newName_3 : Cond.fieldLink RX11 16 "WeatherTellerModel" "sizes" "[I" ∈ wsX11_newName := List.mem_of_getElem? (i := 3) rfl
theorem tX11_newName_4 : Cond.fieldLink RX11 13 "WeatherTellerModel" "letters" "[I" ∈ wsX11_newName := List.mem_of_getElem? (i := 4) rfl
theorem tX11_newName_5 : Cond.fieldLink RX11 7 "WeatherTellerModel" "tape" "[I" ∈ wsX11_newName := List.mem_of_getElem? (i := 5) rfl
def j_X11_newName_98 (N : Nat) (S8 : St) : Option (Int32 × St) :=
  bd (f_X11_take N S8) fun S9 =>
  some (1, S9)
def b_X11_newName_62 (p0 : Int32) (k98 : St → Option (Int32 × St)) (k62 : Int32 → St → Option (Int32 × St)) (v10 : Int32) (S11 : St) : Option (Int32 × St) :=
  if (S11.1 0 27) ≤ v10 then
    k98 S11
  else
    ck v10 1000 <|
    ck (((12 * p0) + v10) - (S11.1 0 26)) 288 <|
    nm (puI S11 2 (((12 * p0) + v10) - (S11.1 0 26)).toNatClampNeg (S11.1 1 v10.toNatClampNeg)) fun S15 =>
    nm (v10 + 1) fun v16 =>
    k62 v16 S15
def f_X11_newName (N : Nat) (p0 : Int32) (S : St) : Option (Int32 × St) :=
  zb <|
  bd (f_X11_isName N S) fun v1 =>
  if v1 = 0 then
    bd2 (f_X11_wrong N 1 (S.1 0 26) S) fun v19 S20 =>
    some (v19, S20)
  else
    bd (f_X11_nameRead N (S.1 0 26) (S.1 0 27) S) fun v3 =>
    if v3 < 0 then
      ck p0 24 <|
      nm (puI S 3 p0.toNatClampNeg ((S.1 0 27) - (S.1 0 26))) fun S6 =>
      nm (S6.1 0 26) fun v7 =>
      jp (j_X11_newName_98 N) fun k98 =>
      jp (lp (fun _ _ => none) (b_X11_newName_62 p0 k98) N) fun k62 =>
      k62 v7 S6
    else
      bd2 (f_X11_wrong N 3 (S.1 0 26) S) fun v17 S18 =>
      some (v17, S18)
abbrev rmX11_newName : Room := { frames := 2, cells := 0, slots := 0, locals := 48 }
set_option maxRecDepth 100000 in
set_option maxHeartbeats 4000000 in
theorem c_X11_newName (l : Launch) (D : va_G) (cs : Nat → ClassId) (a : Nat → Nat) (N : Nat) (p0 : Int32) (S : St) (rz : Int32) (Sz : St) (hf : f_X11_newName N p0 S = some (rz, Sz)) : gMi l yX11_newName wsX11_newName rmX11_newName D cs [.ref (a 0), .int p0] (mcells cs a S) rz (mcells cs a Sz) := by
  unfold f_X11_newName at hf
  obtain ⟨hrz, hf⟩ := zb_s hf
  refine gE_z (cc := cX11_newName) (maxL := 3) hrz (by decide) rfl (Nat.le_of_ble_eq_true rfl) ?_
  intro p e s m args below meth c A Q hC hA hQ hM ls hl
  obtain ⟨hx, hb, hml, hown, hts⟩ := hC.1
  have hl : lv_has ls 3 [(0, .ref (a 0)), (1, .int p0)] := hl
  refine lv_aload_n hx hb dX11_newName_0 rfl (lv_at hl 0 rfl) ?_
  obtain ⟨v1, hc, hf⟩ := bd_s hf
  refine gV_i hC hM hA hl.1 [] [] (c_X11_isName l D cs a N S v1 hc) gX11_newName_X11_isName rfl hd_X11_isName ⟨by decide, by decide⟩ 0 11 clX11 rfl mE0 (Nat.le_of_ble_eq_true rfl) dX11_newName_1 rfl ⟨by decide, by decide⟩ (fun H locs hM => ?_)
  refine lv_if_ne (tgt := 17) hx hb dX11_newName_4 (by decide) (fun c2 => ?_) (fun c2 => ?_)
  · replace hf := it_f c2 hf
    refine lv_aload_n hx hb dX11_newName_17 rfl (lv_at hl 0 rfl) ?_
    refine lv_aload_n hx hb dX11_newName_18 rfl (lv_at hl 0 rfl) ?_
    refine g_get hC hM inX11_newName_X11 0 mE0 clX11 26 (by decide) tX11_newName_1 TX11_26 mV0_26 dX11_newName_19 ?_
    refine lv_aload_n hx hb dX11_newName_22 rfl (lv_at hl 0 rfl) ?_
    refine g_get hC hM inX11_newName_X11 0 mE0 clX11 27 (by decide) tX11_newName_2 TX11_27 mV0_27 dX11_newName_23 ?_
    obtain ⟨v3, hc, hf⟩ := bd_s hf
    refine gV_i hC hM hA hl.1 [.int (S.1 0 26), .int (S.1 0 27)] [] (c_X11_nameRead l D cs a N (S.1 0 26) (S.1 0 27) S v3 hc) gX11_newName_X11_nameRead rfl hd_X11_nameRead ⟨by decide, by decide⟩ 0 11 clX11 rfl mE0 (Nat.le_of_ble_eq_true rfl) dX11_newName_26 rfl ⟨by decide, by decide⟩ (fun H locs hM => ?_)
    refine lv_if_lt (tgt := 42) hx hb dX11_newName_29 (by decide) (fun c4 => ?_) (fun c4 => ?_)
    · replace hf := it_t c4 hf
      refine lv_aload_n hx hb dX11_newName_42 rfl (lv_at hl 0 rfl) ?_
      refine g_get hC hM inX11_newName_X11 0 mE0 clX11 6 (by decide) tX11_newName_3 TX11_6 mV0_6 dX11_newName_43 ?_
      refine lv_iload_n hx hb dX11_newName_46 rfl (lv_at hl 1 rfl) ?_
      refine lv_aload_n hx hb dX11_newName_47 rfl (lv_at hl 0 rfl) ?_
      refine g_get hC hM inX11_newName_X11 0 mE0 clX11 27 (by decide) tX11_newName_2 TX11_27 mV0_27 dX11_newName_48 ?_
      refine lv_aload_n hx hb dX11_newName_51 rfl (lv_at hl 0 rfl) ?_
      refine g_get hC hM inX11_newName_X11 0 mE0 clX11 26 (by decide) tX11_newName_1 TX11_26 mV0_26 dX11_newName_52 ?_
      refine lv_isub hx hb dX11_newName_55 ?_
      obtain ⟨h5, hf⟩ := ck_s hf
      refine g_iast hC hM 3 mE3 h5 mA3 dX11_newName_56 (fun H locs hM => ?_)
      obtain ⟨S6, hf, hM⟩ := mnm hf hM
      refine lv_aload_n hx hb dX11_newName_57 rfl (lv_at hl 0 rfl) ?_
      refine g_get hC hM inX11_newName_X11 0 mE0 clX11 26 (by decide) tX11_newName_1 TX11_26 mV0_26 dX11_newName_58 ?_
      refine lv_topi (fun v7 ev7 => ?_)
      replace hf := nm_q ev7 hf
      refine lv_istore_n (lv' := [(2, .int v7), (0, .ref (a 0)), (1, .int p0)]) hx hb dX11_newName_61 rfl hl (by decide) rfl (fun ls hl => ?_)
      refine jp_W (fun k98 : St → Option (Int32 × St) => ∀ (S8 : St), k98 S8 = some (rz, Sz) → ∀ (H : Heap) (locs : List Loc) (ls : Array Slot), gw D A s.heap H locs (mcells cs a S8) → lv_has ls 3 [(0, .ref (a 0))] → W p l e rmX11_newName s m args below meth c H locs 0 0 Q (F0 m 98 ls [])) ?_ ?_ hf
      · intro S8 hf H locs ls hM hl
        unfold j_X11_newName_98 at hf
        refine lv_aload_n hx hb dX11_newName_98 rfl (lv_at hl 0 rfl) ?_
        obtain ⟨S9, hc, hf⟩ := bd_s hf
        refine gV_v hC hM hA hl.1 [] [] (c_X11_take l D cs a N S8 S9 hc) gX11_newName_X11_take rfl hd_X11_take ⟨by decide, by decide⟩ 0 11 clX11 rfl mE0 (Nat.le_of_ble_eq_true rfl) dX11_newName_99 rfl ⟨by decide, by decide⟩ (fun H locs hM => ?_)
        refine lv_iconst (v := 1) hx hb dX11_newName_102 (by decide) ?_
        obtain ⟨e1, e2⟩ := so_2 hf
        cases e1; cases e2
        exact hQ _ _ _ _ _ _ dX11_newName_103 hM (by decide) (by decide)
      · intro k98 hk98 hf
        refine jl_W (fun k62 : Int32 → St → Option (Int32 × St) => ∀ (v10 : Int32) (S11 : St), k62 v10 S11 = some (rz, Sz) → ∀ (H : Heap) (locs : List Loc) (ls : Array Slot), gw D A s.heap H locs (mcells cs a S11) → lv_has ls 3 [(0, .ref (a 0)), (1, .int p0), (2, .int v10)] → W p l e rmX11_newName s m args below meth c H locs 0 0 Q (F0 m 62 ls [])) ?_ ?_ ?_ hf
        · intro v10 S11 h; cases h
        · intro k62 hk62 v10 S11 hf H locs ls hM hl
          unfold b_X11_newName_62 at hf
          refine lv_iload_n hx hb dX11_newName_62 rfl (lv_at hl 2 rfl) ?_
          refine lv_aload_n hx hb dX11_newName_63 rfl (lv_at hl 0 rfl) ?_
          refine g_get hC hM inX11_newName_X11 0 mE0 clX11 27 (by decide) tX11_newName_2 TX11_27 mV0_27 dX11_newName_64 ?_
          refine lv_icmp_ge (tgt := 98) hx hb dX11_newName_67 (by decide) (fun c12 => ?_) (fun c12 => ?_)
          · replace hf := it_t c12 hf
            exact hk98 _ hf _ _ _ hM (lv_sub hl [0] rfl)
          · replace hf := it_f c12 hf
            refine lv_aload_n hx hb dX11_newName_70 rfl (lv_at hl 0 rfl) ?_
            refine g_get hC hM inX11_newName_X11 0 mE0 clX11 5 (by decide) tX11_newName_4 TX11_5 mV0_5 dX11_newName_71 ?_
            refine lv_bipush (v := 12) hx hb dX11_newName_74 (by decide) ?_
            refine lv_iload_n hx hb dX11_newName_76 rfl (lv_at hl 1 rfl) ?_
            refine lv_imul hx hb dX11_newName_77 ?_
            refine lv_iload_n hx hb dX11_newName_78 rfl (lv_at hl 2 rfl) ?_
            refine lv_iadd hx hb dX11_newName_79 ?_
            refine lv_aload_n hx hb dX11_newName_80 rfl (lv_at hl 0 rfl) ?_
            refine g_get hC hM inX11_newName_X11 0 mE0 clX11 26 (by decide) tX11_newName_1 TX11_26 mV0_26 dX11_newName_81 ?_
            refine lv_isub hx hb dX11_newName_84 ?_
            refine lv_aload_n hx hb dX11_newName_85 rfl (lv_at hl 0 rfl) ?_
            refine g_get hC hM inX11_newName_X11 0 mE0 clX11 0 (by decide) tX11_newName_5 TX11_0 mV0_0 dX11_newName_86 ?_
            refine lv_iload_n hx hb dX11_newName_89 rfl (lv_at hl 2 rfl) ?_
            obtain ⟨h13, hf⟩ := ck_s hf
            refine g_iald hC hM 1 mE1 h13 dX11_newName_90 ?_
            obtain ⟨h14, hf⟩ := ck_s hf
            refine g_iast hC hM 2 mE2 h14 mA2 dX11_newName_91 (fun H locs hM => ?_)
            obtain ⟨S15, hf, hM⟩ := mnm hf hM
            obtain ⟨v16, ev16⟩ : ∃ y : Int32, y = v10 + 1 := ⟨_, rfl⟩
            replace hf := nm_q ev16 hf
            refine lv_iinc (v := v16) (lv' := [(2, .int v16), (0, .ref (a 0)), (1, .int p0)]) hx hb dX11_newName_92 hl (k := 2) rfl (by rw [ev16]; rfl) (by decide) rfl (fun ls hl => ?_)
            refine lv_goto (tgt := 62) hx hb dX11_newName_95 (by decide) ?_
            exact hk62 _ _ hf _ _ _ hM (lv_sub hl [1, 2, 0] rfl)
        · intro k62 hk62 hf
          exact hk62 _ _ hf _ _ _ hM (lv_sub hl [1, 2, 0] rfl)
    · replace hf := it_f c4 hf
      refine lv_aload_n hx hb dX11_newName_32 rfl (lv_at hl 0 rfl) ?_
      refine lv_iconst (v := 3) hx hb dX11_newName_33 (by decide) ?_
      refine lv_aload_n hx hb dX11_newName_34 rfl (lv_at hl 0 rfl) ?_
      refine g_get hC hM inX11_newName_X11 0 mE0 clX11 26 (by decide) tX11_newName_1 TX11_26 mV0_26 dX11_newName_35 ?_
      obtain ⟨v17, S18, hc, hf⟩ := bd2_s hf
      refine gV_i hC hM hA hl.1 [.int 3, .int (S.1 0 26)] [] (c_X11_wrong l D cs a N 3 (S.1 0 26) S v17 S18 hc) gX11_newName_X11_wrong rfl hd_X11_wrong ⟨by decide, by decide⟩ 0 11 clX11 rfl mE0 (Nat.le_of_ble_eq_true rfl) dX11_newName_38 rfl ⟨by decide, by decide⟩ (fun H locs hM => ?_)
      obtain ⟨e1, e2⟩ := so_2 hf
      cases e1; cases e2
      exact hQ _ _ _ _ _ _ dX11_newName_41 hM (by decide) (by decide)
  · replace hf := it_t c2 hf
    refine lv_aload_n hx hb dX11_newName_7 rfl (lv_at hl 0 rfl) ?_
    refine lv_iconst (v := 1) hx hb dX11_newName_8 (by decide) ?_
    refine lv_aload_n hx hb dX11_newName_9 rfl (lv_at hl 0 rfl) ?_
    refine g_get hC hM inX11_newName_X11 0 mE0 clX11 26 (by decide) tX11_newName_1 TX11_26 mV0_26 dX11_newName_10 ?_
    obtain ⟨v19, S20, hc, hf⟩ := bd2_s hf
    refine gV_i hC hM hA hl.1 [.int 1, .int (S.1 0 26)] [] (c_X11_wrong l D cs a N 1 (S.1 0 26) S v19 S20 hc) gX11_newName_X11_wrong rfl hd_X11_wrong ⟨by decide, by decide⟩ 0 11 clX11 rfl mE0 (Nat.le_of_ble_eq_true rfl) dX11_newName_13 rfl ⟨by decide, by decide⟩ (fun H locs hM => ?_)
    obtain ⟨e1, e2⟩ := so_2 hf
    cases e1; cases e2
    exact hQ _ _ _ _ _ _ dX11_newName_16 hM (by decide) (by decide)

theorem hd_X11_placeLine : yX11_placeLine.cls = RX11 ∧ yX11_placeLine.cls ≠ "java/lang/invoke/MethodHandle" ∧ yX11_placeLine.cls ≠ "java/lang/invoke/VarHandle" ∧ (parseMethodDescriptor yX11_placeLine.desc).map (fun d => d.parameters.length) = some 0 := by decide +kernel
theorem tX11_placeLine_1 : Cond.fieldLink RX11 143 "WeatherTellerModel" "rPlaces" "I" ∈ wsX11_placeLine := List.mem_of_getElem? (i := 1) rfl
theorem inX11_placeLine_X11 : ∀ w ∈ u_ws RX11 TX11 50, w ∈ wsX11_placeLine := fun _ h => List.mem_cons_of_mem _ (List.mem_append_right _ h)
theorem tX11_placeLine_3 : Cond.fieldLink RX11 19 "WeatherTellerModel" "members" "[I" ∈ wsX11_placeLine := List.mem_of_getElem? (i := 3) rfl
theorem tX11_placeLine_2 : Cond.fieldLink RX11 109 "WeatherTellerModel" "place" "I" ∈ wsX11_placeLine := List.mem_of_getElem? (i := 2) rfl
def f_X11_placeLine (N : Nat)  (S : St) : Option (Int32 × St) :=
  zb <|
  if (S.1 0 29) = 6 then
    bd2 (f_X11_wrong N 2 (S.1 0 26) S) fun v9 S10 =>
    some (v9, S10)
  else
    bd (f_X11_take N S) fun S2 =>
    bd2 (f_X11_newName N (12 + (S2.1 0 29)) S2) fun v3 S4 =>
    if v3 = 0 then
      some (0, S4)
    else
      ck (12 + (S4.1 0 29)) 24 <|
      nm (puI S4 4 (12 + (S4.1 0 29)).toNatClampNeg (1 <<< ((S4.1 0 29) &&& 31))) fun S7 =>
      nm (puI S7 0 29 ((S7.1 0 29) + 1)) fun S8 =>
      some (1, S8)
abbrev rmX11_placeLine : Room := { frames := 3, cells := 0, slots := 0, locals := 70 }
set_option maxRecDepth 100000 in
set_option maxHeartbeats 4000000 in
theorem c_X11_placeLine (l : Launch) (D : va_G) (cs : Nat → ClassId) (a : Nat → Nat) (N : Nat) (S : St) (rz : Int32) (Sz : St) (hf : f_X11_placeLine N S = some (rz, Sz)) : gMi l yX11_placeLine wsX11_placeLine rmX11_placeLine D cs [.ref (a 0)] (mcells cs a S) rz (mcells cs a Sz) := by
  unfold f_X11_placeLine at hf
  obtain ⟨hrz, hf⟩ := zb_s hf
  refine gE_z (cc := cX11_placeLine) (maxL := 1) hrz (by decide) rfl (Nat.le_of_ble_eq_true rfl) ?_
  intro p e s m args below meth c A Q hC hA hQ hM ls hl
  obtain ⟨hx, hb, hml, hown, hts⟩ := hC.1
  have hl : lv_has ls 1 [(0, .ref (a 0))] := hl
  refine lv_aload_n hx hb dX11_placeLine_0 rfl (lv_at hl 0 rfl) ?_
  refine g_get hC hM inX11_placeLine_X11 0 mE0 clX11 29 (by decide) tX11_placeLine_1 TX11_29 mV0_29 dX11_placeLine_1 ?_
  refine lv_bipush (v := 6) hx hb dX11_placeLine_4 (by decide) ?_
  refine lv_icmp_ne (tgt := 19) hx hb dX11_placeLine_6 (by decide) (fun c1 => ?_) (fun c1 => ?_)
  · replace hf := it_f c1 hf
    refine lv_aload_n hx hb dX11_placeLine_19 rfl (lv_at hl 0 rfl) ?_
    obtain ⟨S2, hc, hf⟩ := bd_s hf
    refine gV_v hC hM hA hl.1 [] [] (c_X11_take l D cs a N S S2 hc) gX11_placeLine_X11_take rfl hd_X11_take ⟨by decide, by decide⟩ 0 11 clX11 rfl mE0 (Nat.le_of_ble_eq_true rfl) dX11_placeLine_20 rfl ⟨by decide, by decide⟩ (fun H locs hM => ?_)
    refine lv_aload_n hx hb dX11_placeLine_23 rfl (lv_at hl 0 rfl) ?_
    refine lv_bipush (v := 12) hx hb dX11_placeLine_24 (by decide) ?_
    refine lv_aload_n hx hb dX11_placeLine_26 rfl (lv_at hl 0 rfl) ?_
    refine g_get hC hM inX11_placeLine_X11 0 mE0 clX11 29 (by decide) tX11_placeLine_1 TX11_29 mV0_29 dX11_placeLine_27 ?_
    refine lv_iadd hx hb dX11_placeLine_30 ?_
    obtain ⟨v3, S4, hc, hf⟩ := bd2_s hf
    refine gV_i hC hM hA hl.1 [.int (12 + (S2.1 0 29))] [] (c_X11_newName l D cs a N (12 + (S2.1 0 29)) S2 v3 S4 hc) gX11_placeLine_X11_newName rfl hd_X11_newName ⟨by decide, by decide⟩ 0 11 clX11 rfl mE0 (Nat.le_of_ble_eq_true rfl) dX11_placeLine_31 rfl ⟨by decide, by decide⟩ (fun H locs hM => ?_)
    refine lv_if_ne (tgt := 39) hx hb dX11_placeLine_34 (by decide) (fun c5 => ?_) (fun c5 => ?_)
    · replace hf := it_f c5 hf
      refine lv_aload_n hx hb dX11_placeLine_39 rfl (lv_at hl 0 rfl) ?_
      refine g_get hC hM inX11_placeLine_X11 0 mE0 clX11 7 (by decide) tX11_placeLine_3 TX11_7 mV0_7 dX11_placeLine_40 ?_
      refine lv_bipush (v := 12) hx hb dX11_placeLine_43 (by decide) ?_
      refine lv_aload_n hx hb dX11_placeLine_45 rfl (lv_at hl 0 rfl) ?_
      refine g_get hC hM inX11_placeLine_X11 0 mE0 clX11 29 (by decide) tX11_placeLine_1 TX11_29 mV0_29 dX11_placeLine_46 ?_
      refine lv_iadd hx hb dX11_placeLine_49 ?_
      refine lv_iconst (v := 1) hx hb dX11_placeLine_50 (by decide) ?_
      refine lv_aload_n hx hb dX11_placeLine_51 rfl (lv_at hl 0 rfl) ?_
      refine g_get hC hM inX11_placeLine_X11 0 mE0 clX11 29 (by decide) tX11_placeLine_1 TX11_29 mV0_29 dX11_placeLine_52 ?_
      refine lv_ishl hx hb dX11_placeLine_55 ?_
      obtain ⟨h6, hf⟩ := ck_s hf
      refine g_iast hC hM 4 mE4 h6 mA4 dX11_placeLine_56 (fun H locs hM => ?_)
      obtain ⟨S7, hf, hM⟩ := mnm hf hM
      refine lv_aload_n hx hb dX11_placeLine_57 rfl (lv_at hl 0 rfl) ?_
      refine lv_dup hx hb dX11_placeLine_58 rfl ?_
      refine g_get hC hM inX11_placeLine_X11 0 mE0 clX11 29 (by decide) tX11_placeLine_1 TX11_29 mV0_29 dX11_placeLine_59 ?_
      refine lv_iconst (v := 1) hx hb dX11_placeLine_62 (by decide) ?_
      refine lv_iadd hx hb dX11_placeLine_63 ?_
      refine g_put hC hM inX11_placeLine_X11 tyX11_ok nmX11 0 mE0 clX11 29 (by decide) tX11_placeLine_1 TX11_29 tyX11_29 rfl rfl (by rw [mL0]; decide) mP0_29 dX11_placeLine_64 (fun H locs hM => ?_)
      obtain ⟨S8, hf, hM⟩ := mnm hf hM
      refine lv_iconst (v := 1) hx hb dX11_placeLine_67 (by decide) ?_
      obtain ⟨e1, e2⟩ := so_2 hf
      cases e1; cases e2
      exact hQ _ _ _ _ _ _ dX11_placeLine_68 hM (by decide) (by decide)
    · replace hf := it_t c5 hf
      refine lv_iconst (v := 0) hx hb dX11_placeLine_37 (by decide) ?_
      obtain ⟨e1, e2⟩ := so_2 hf
      cases e1; cases e2
      exact hQ _ _ _ _ _ _ dX11_placeLine_38 hM (by decide) (by decide)
  · replace hf := it_t c1 hf
    refine lv_aload_n hx hb dX11_placeLine_9 rfl (lv_at hl 0 rfl) ?_
    refine lv_iconst (v := 2) hx hb dX11_placeLine_10 (by decide) ?_
    refine lv_aload_n hx hb dX11_placeLine_11 rfl (lv_at hl 0 rfl) ?_
    refine g_get hC hM inX11_placeLine_X11 0 mE0 clX11 26 (by decide) tX11_placeLine_2 TX11_26 mV0_26 dX11_placeLine_12 ?_
    obtain ⟨v9, S10, hc, hf⟩ := bd2_s hf
    refine gV_i hC hM hA hl.1 [.int 2, .int (S.1 0 26)] [] (c_X11_wrong l D cs a N 2 (S.1 0 26) S v9 S10 hc) gX11_placeLine_X11_wrong rfl hd_X11_wrong ⟨by decide, by decide⟩ 0 11 clX11 rfl mE0 (Nat.le_of_ble_eq_true rfl) dX11_placeLine_15 rfl ⟨by decide, by decide⟩ (fun H locs hM => ?_)
    obtain ⟨e1, e2⟩ := so_2 hf
    cases e1; cases e2
    exact hQ _ _ _ _ _ _ dX11_placeLine_18 hM (by decide) (by decide)

theorem hd_X11_regionLine : yX11_regionLine.cls = RX11 ∧ yX11_regionLine.cls ≠ "java/lang/invoke/MethodHandle" ∧ yX11_regionLine.cls ≠ "java/lang/invoke/VarHandle" ∧ (parseMethodDescriptor yX11_regionLine.desc).map (fun d => d.parameters.length) = some 0 := by decide +kernel
theorem tX11_regionLine_1 : Cond.fieldLink RX11 146 "WeatherTellerModel" "rRegions" "I" ∈ wsX11_regionLine := List.mem_of_getElem? (i := 1) rfl
theorem inX11_regionLine_X11 : ∀ w ∈ u_ws RX11 TX11 50, w ∈ wsX11_regionLine := fun _ h => List.mem_cons_of_mem _ (List.mem_append_right _ h)
theorem tX11_regionLine_3 : Cond.fieldLink RX11 19 "WeatherTellerModel" "members" "[I" ∈ wsX11_regionLine := List.mem_of_getElem? (i := 3) rfl
theorem tX11_regionLine_2 : Cond.fieldLink RX11 109 "WeatherTellerModel" "place" "I" ∈ wsX11_regionLine := List.mem_of_getElem? (i := 2) rfl
theorem tX11_regionLine_4 : Cond.fieldLink RX11 130 "WeatherTellerModel" "end" "I" ∈ wsX11_regionLine := List.mem_of_getElem? (i := 4) rfl
theorem tX11_regionLine_5 : Cond.fieldLink RX11 112 "WeatherTellerModel" "kind" "I" ∈ wsX11_regionLine := List.mem_of_getElem? (i := 5) rfl
theorem tX11_regionLine_6 : Cond.fieldLink RX11 123 "WeatherTellerModel" "which" "I" ∈ wsX11_regionLine := List.mem_of_getElem? (i := 6) rfl
def j_X11_regionLine_69 (N : Nat) (S12 : St) : Option (Int32 × St) :=
  bd2 (f_X11_wrong N 1 (S12.1 0 26) S12) fun v13 S14 =>
  some (v13, S14)
def j_X11_regionLine_96 (N : Nat) (S15 : St) : Option (Int32 × St) :=
  bd2 (f_X11_wrong N 4 (S15.1 0 26) S15) fun v16 S17 =>
  some (v16, S17)
def j_X11_regionLine_159 (S18 : St) : Option (Int32 × St) :=
  nm (puI S18 0 30 ((S18.1 0 30) + 1)) fun S19 =>
  some (1, S19)
def j_X11_regionLine_156 (k58 : Int32 → St → Option (Int32 × St)) (v32 : Int32) (S33 : St) : Option (Int32 × St) :=
  k58 v32 S33
def j_X11_regionLine_147 (N : Nat) (k58 : Int32 → St → Option (Int32 × St)) (S31 : St) (v32 : Int32) : Option (Int32 × St) :=
  jp (j_X11_regionLine_156 k58 v32) fun k156 =>
  if v32 = 0 then
    k156 S31
  else
    bd (f_X11_take N S31) fun S35 =>
    k156 S35
def j_X11_regionLine_146 (k147 : Int32 → Option (Int32 × St))  : Option (Int32 × St) :=
  k147 0
def b_X11_regionLine_58 (N : Nat) (v3 : Int32) (k69 : St → Option (Int32 × St)) (k96 : St → Option (Int32 × St)) (k159 : St → Option (Int32 × St)) (k58 : Int32 → St → Option (Int32 × St)) (v20 : Int32) (S21 : St) : Option (Int32 × St) :=
  if v20 = 0 then
    k159 S21
  else
    bd (f_X11_isName N S21) fun v23 =>
    if v23 = 0 then
      k69 S21
    else
      bd (f_X11_nameRead N (S21.1 0 26) (S21.1 0 27) S21) fun v25 =>
      if 0 ≤ v25 then
        ck v3 24 <|
        ck v25 24 <|
        ck v3 24 <|
        nm (puI S21 4 v3.toNatClampNeg ((S21.1 4 v3.toNatClampNeg) ||| (S21.1 4 v25.toNatClampNeg))) fun S30 =>
        bd (f_X11_take N S30) fun S31 =>
        jp (j_X11_regionLine_147 N k58 S31) fun k147 =>
        jp (j_X11_regionLine_146 k147) fun k146 =>
        if (S31.1 0 24) = 3 then
          if (S31.1 0 25) = 44 then
            k147 1
          else
            k146
        else
          k146
      else
        k96 S21
def f_X11_regionLine (N : Nat)  (S : St) : Option (Int32 × St) :=
  zb <|
  if (S.1 0 30) = 5 then
    bd2 (f_X11_wrong N 2 (S.1 0 26) S) fun v38 S39 =>
    some (v38, S39)
  else
    bd (f_X11_take N S) fun S2 =>
    nm (18 + (S2.1 0 30)) fun v3 =>
    bd2 (f_X11_newName N v3 S2) fun v4 S5 =>
    if v4 = 0 then
      some (0, S5)
    else
      bd2 (f_X11_need N 61 S5) fun v7 S8 =>
      if v7 = 0 then
        some (0, S8)
      else
        ck v3 24 <|
        nm (puI S8 4 v3.toNatClampNeg 0) fun S11 =>
        jp (j_X11_regionLine_69 N) fun k69 =>
        jp (j_X11_regionLine_96 N) fun k96 =>
        jp (j_X11_regionLine_159) fun k159 =>
        jp (lp (fun _ _ => none) (b_X11_regionLine_58 N v3 k69 k96 k159) N) fun k58 =>
        k58 1 S11
abbrev rmX11_regionLine : Room := { frames := 3, cells := 0, slots := 0, locals := 70 }
set_option maxRecDepth 100000 in
set_option maxHeartbeats 4000000 in
theorem c_X11_regionLine (l : Launch) (D : va_G) (cs : Nat → ClassId) (a : Nat → Nat) (N : Nat) (S : St) (rz : Int32) (Sz : St) (hf : f_X11_regionLine N S = some (rz, Sz)) : gMi l yX11_regionLine wsX11_regionLine rmX11_regionLine D cs [.ref (a 0)] (mcells cs a S) rz (mcells cs a Sz) := by
  unfold f_X11_regionLine at hf
  obtain ⟨hrz, hf⟩ := zb_s hf
  refine gE_z (cc := cX11_regionLine) (maxL := 4) hrz (by decide) rfl (Nat.le_of_ble_eq_true rfl) ?_
  intro p e s m args below meth c A Q hC hA hQ hM ls hl
  obtain ⟨hx, hb, hml, hown, hts⟩ := hC.1
  have hl : lv_has ls 4 [(0, .ref (a 0))] := hl
  refine lv_aload_n hx hb dX11_regionLine_0 rfl (lv_at hl 0 rfl) ?_
  refine g_get hC hM inX11_regionLine_X11 0 mE0 clX11 30 (by decide) tX11_regionLine_1 TX11_30 mV0_30 dX11_regionLine_1 ?_
  refine lv_iconst (v := 5) hx hb dX11_regionLine_4 (by decide) ?_
  refine lv_icmp_ne (tgt := 18) hx hb dX11_regionLine_5 (by decide) (fun c1 => ?_) (fun c1 => ?_)
  · replace hf := it_f c1 hf
    refine lv_aload_n hx hb dX11_regionLine_18 rfl (lv_at hl 0 rfl) ?_
    obtain ⟨S2, hc, hf⟩ := bd_s hf
    refine gV_v hC hM hA hl.1 [] [] (c_X11_take l D cs a N S S2 hc) gX11_regionLine_X11_take rfl hd_X11_take ⟨by decide, by decide⟩ 0 11 clX11 rfl mE0 (Nat.le_of_ble_eq_true rfl) dX11_regionLine_19 rfl ⟨by decide, by decide⟩ (fun H locs hM => ?_)
    refine lv_bipush (v := 18) hx hb dX11_regionLine_22 (by decide) ?_
    refine lv_aload_n hx hb dX11_regionLine_24 rfl (lv_at hl 0 rfl) ?_
    refine g_get hC hM inX11_regionLine_X11 0 mE0 clX11 30 (by decide) tX11_regionLine_1 TX11_30 mV0_30 dX11_regionLine_25 ?_
    refine lv_iadd hx hb dX11_regionLine_28 ?_
    refine lv_topi (fun v3 ev3 => ?_)
    replace hf := nm_q ev3 hf
    refine lv_istore_n (lv' := [(1, .int v3), (0, .ref (a 0))]) hx hb dX11_regionLine_29 rfl hl (by decide) rfl (fun ls hl => ?_)
    refine lv_aload_n hx hb dX11_regionLine_30 rfl (lv_at hl 1 rfl) ?_
    refine lv_iload_n hx hb dX11_regionLine_31 rfl (lv_at hl 0 rfl) ?_
    obtain ⟨v4, S5, hc, hf⟩ := bd2_s hf
    refine gV_i hC hM hA hl.1 [.int v3] [] (c_X11_newName l D cs a N v3 S2 v4 S5 hc) gX11_regionLine_X11_newName rfl hd_X11_newName ⟨by decide, by decide⟩ 0 11 clX11 rfl mE0 (Nat.le_of_ble_eq_true rfl) dX11_regionLine_32 rfl ⟨by decide, by decide⟩ (fun H locs hM => ?_)
    refine lv_if_eq (tgt := 47) hx hb dX11_regionLine_35 (by decide) (fun c6 => ?_) (fun c6 => ?_)
    · replace hf := it_t c6 hf
      refine lv_iconst (v := 0) hx hb dX11_regionLine_47 (by decide) ?_
      obtain ⟨e1, e2⟩ := so_2 hf
      cases e1; cases e2
      exact hQ _ _ _ _ _ _ dX11_regionLine_48 hM (by decide) (by decide)
    · replace hf := it_f c6 hf
      refine lv_aload_n hx hb dX11_regionLine_38 rfl (lv_at hl 1 rfl) ?_
      refine lv_bipush (v := 61) hx hb dX11_regionLine_39 (by decide) ?_
      obtain ⟨v7, S8, hc, hf⟩ := bd2_s hf
      refine gV_i hC hM hA hl.1 [.int 61] [] (c_X11_need l D cs a N 61 S5 v7 S8 hc) gX11_regionLine_X11_need rfl hd_X11_need ⟨by decide, by decide⟩ 0 11 clX11 rfl mE0 (Nat.le_of_ble_eq_true rfl) dX11_regionLine_41 rfl ⟨by decide, by decide⟩ (fun H locs hM => ?_)
      refine lv_if_ne (tgt := 49) hx hb dX11_regionLine_44 (by decide) (fun c9 => ?_) (fun c9 => ?_)
      · replace hf := it_f c9 hf
        refine lv_aload_n hx hb dX11_regionLine_49 rfl (lv_at hl 1 rfl) ?_
        refine g_get hC hM inX11_regionLine_X11 0 mE0 clX11 7 (by decide) tX11_regionLine_3 TX11_7 mV0_7 dX11_regionLine_50 ?_
        refine lv_iload_n hx hb dX11_regionLine_53 rfl (lv_at hl 0 rfl) ?_
        refine lv_iconst (v := 0) hx hb dX11_regionLine_54 (by decide) ?_
        obtain ⟨h10, hf⟩ := ck_s hf
        refine g_iast hC hM 4 mE4 h10 mA4 dX11_regionLine_55 (fun H locs hM => ?_)
        obtain ⟨S11, hf, hM⟩ := mnm hf hM
        refine lv_iconst (v := 1) hx hb dX11_regionLine_56 (by decide) ?_
        refine lv_istore_n (lv' := [(2, .int 1), (1, .int v3), (0, .ref (a 0))]) hx hb dX11_regionLine_57 rfl hl (by decide) rfl (fun ls hl => ?_)
        refine jp_W (fun k69 : St → Option (Int32 × St) => ∀ (S12 : St), k69 S12 = some (rz, Sz) → ∀ (H : Heap) (locs : List Loc) (ls : Array Slot), gw D A s.heap H locs (mcells cs a S12) → lv_has ls 4 [(0, .ref (a 0))] → W p l e rmX11_regionLine s m args below meth c H locs 0 0 Q (F0 m 69 ls [])) ?_ ?_ hf
        · intro S12 hf H locs ls hM hl
          unfold j_X11_regionLine_69 at hf
          refine lv_aload_n hx hb dX11_regionLine_69 rfl (lv_at hl 0 rfl) ?_
          refine lv_iconst (v := 1) hx hb dX11_regionLine_70 (by decide) ?_
          refine lv_aload_n hx hb dX11_regionLine_71 rfl (lv_at hl 0 rfl) ?_
          refine g_get hC hM inX11_regionLine_X11 0 mE0 clX11 26 (by decide) tX11_regionLine_2 TX11_26 mV0_26 dX11_regionLine_72 ?_
          obtain ⟨v13, S14, hc, hf⟩ := bd2_s hf
          refine gV_i hC hM hA hl.1 [.int 1, .int (S12.1 0 26)] [] (c_X11_wrong l D cs a N 1 (S12.1 0 26) S12 v13 S14 hc) gX11_regionLine_X11_wrong rfl hd_X11_wrong ⟨by decide, by decide⟩ 0 11 clX11 rfl mE0 (Nat.le_of_ble_eq_true rfl) dX11_regionLine_75 rfl ⟨by decide, by decide⟩ (fun H locs hM => ?_)
          obtain ⟨e1, e2⟩ := so_2 hf
          cases e1; cases e2
          exact hQ _ _ _ _ _ _ dX11_regionLine_78 hM (by decide) (by decide)
        · intro k69 hk69 hf
          refine jp_W (fun k96 : St → Option (Int32 × St) => ∀ (S15 : St), k96 S15 = some (rz, Sz) → ∀ (H : Heap) (locs : List Loc) (ls : Array Slot), gw D A s.heap H locs (mcells cs a S15) → lv_has ls 4 [(0, .ref (a 0))] → W p l e rmX11_regionLine s m args below meth c H locs 0 0 Q (F0 m 96 ls [])) ?_ ?_ hf
          · intro S15 hf H locs ls hM hl
            unfold j_X11_regionLine_96 at hf
            refine lv_aload_n hx hb dX11_regionLine_96 rfl (lv_at hl 0 rfl) ?_
            refine lv_iconst (v := 4) hx hb dX11_regionLine_97 (by decide) ?_
            refine lv_aload_n hx hb dX11_regionLine_98 rfl (lv_at hl 0 rfl) ?_
            refine g_get hC hM inX11_regionLine_X11 0 mE0 clX11 26 (by decide) tX11_regionLine_2 TX11_26 mV0_26 dX11_regionLine_99 ?_
            obtain ⟨v16, S17, hc, hf⟩ := bd2_s hf
            refine gV_i hC hM hA hl.1 [.int 4, .int (S15.1 0 26)] [] (c_X11_wrong l D cs a N 4 (S15.1 0 26) S15 v16 S17 hc) gX11_regionLine_X11_wrong rfl hd_X11_wrong ⟨by decide, by decide⟩ 0 11 clX11 rfl mE0 (Nat.le_of_ble_eq_true rfl) dX11_regionLine_102 rfl ⟨by decide, by decide⟩ (fun H locs hM => ?_)
            obtain ⟨e1, e2⟩ := so_2 hf
            cases e1; cases e2
            exact hQ _ _ _ _ _ _ dX11_regionLine_105 hM (by decide) (by decide)
          · intro k96 hk96 hf
            refine jp_W (fun k159 : St → Option (Int32 × St) => ∀ (S18 : St), k159 S18 = some (rz, Sz) → ∀ (H : Heap) (locs : List Loc) (ls : Array Slot), gw D A s.heap H locs (mcells cs a S18) → lv_has ls 4 [(0, .ref (a 0))] → W p l e rmX11_regionLine s m args below meth c H locs 0 0 Q (F0 m 159 ls [])) ?_ ?_ hf
            · intro S18 hf H locs ls hM hl
              unfold j_X11_regionLine_159 at hf
              refine lv_aload_n hx hb dX11_regionLine_159 rfl (lv_at hl 0 rfl) ?_
              refine lv_dup hx hb dX11_regionLine_160 rfl ?_
              refine g_get hC hM inX11_regionLine_X11 0 mE0 clX11 30 (by decide) tX11_regionLine_1 TX11_30 mV0_30 dX11_regionLine_161 ?_
              refine lv_iconst (v := 1) hx hb dX11_regionLine_164 (by decide) ?_
              refine lv_iadd hx hb dX11_regionLine_165 ?_
              refine g_put hC hM inX11_regionLine_X11 tyX11_ok nmX11 0 mE0 clX11 30 (by decide) tX11_regionLine_1 TX11_30 tyX11_30 rfl rfl (by rw [mL0]; decide) mP0_30 dX11_regionLine_166 (fun H locs hM => ?_)
              obtain ⟨S19, hf, hM⟩ := mnm hf hM
              refine lv_iconst (v := 1) hx hb dX11_regionLine_169 (by decide) ?_
              obtain ⟨e1, e2⟩ := so_2 hf
              cases e1; cases e2
              exact hQ _ _ _ _ _ _ dX11_regionLine_170 hM (by decide) (by decide)
            · intro k159 hk159 hf
              refine jl_W (fun k58 : Int32 → St → Option (Int32 × St) => ∀ (v20 : Int32) (S21 : St), k58 v20 S21 = some (rz, Sz) → ∀ (H : Heap) (locs : List Loc) (ls : Array Slot), gw D A s.heap H locs (mcells cs a S21) → lv_has ls 4 [(0, .ref (a 0)), (1, .int v3), (2, .int v20)] → W p l e rmX11_regionLine s m args below meth c H locs 0 0 Q (F0 m 58 ls [])) ?_ ?_ ?_ hf
              · intro v20 S21 h; cases h
              · intro k58 hk58 v20 S21 hf H locs ls hM hl
                unfold b_X11_regionLine_58 at hf
                refine lv_iload_n hx hb dX11_regionLine_58 rfl (lv_at hl 2 rfl) ?_
                refine lv_if_eq (tgt := 159) hx hb dX11_regionLine_59 (by decide) (fun c22 => ?_) (fun c22 => ?_)
                · replace hf := it_t c22 hf
                  exact hk159 _ hf _ _ _ hM (lv_sub hl [0] rfl)
                · replace hf := it_f c22 hf
                  refine lv_aload_n hx hb dX11_regionLine_62 rfl (lv_at hl 0 rfl) ?_
                  obtain ⟨v23, hc, hf⟩ := bd_s hf
                  refine gV_i hC hM hA hl.1 [] [] (c_X11_isName l D cs a N S21 v23 hc) gX11_regionLine_X11_isName rfl hd_X11_isName ⟨by decide, by decide⟩ 0 11 clX11 rfl mE0 (Nat.le_of_ble_eq_true rfl) dX11_regionLine_63 rfl ⟨by decide, by decide⟩ (fun H locs hM => ?_)
                  refine lv_if_ne (tgt := 79) hx hb dX11_regionLine_66 (by decide) (fun c24 => ?_) (fun c24 => ?_)
                  · replace hf := it_f c24 hf
                    refine lv_aload_n hx hb dX11_regionLine_79 rfl (lv_at hl 0 rfl) ?_
                    refine lv_aload_n hx hb dX11_regionLine_80 rfl (lv_at hl 0 rfl) ?_
                    refine g_get hC hM inX11_regionLine_X11 0 mE0 clX11 26 (by decide) tX11_regionLine_2 TX11_26 mV0_26 dX11_regionLine_81 ?_
                    refine lv_aload_n hx hb dX11_regionLine_84 rfl (lv_at hl 0 rfl) ?_
                    refine g_get hC hM inX11_regionLine_X11 0 mE0 clX11 27 (by decide) tX11_regionLine_4 TX11_27 mV0_27 dX11_regionLine_85 ?_
                    obtain ⟨v25, hc, hf⟩ := bd_s hf
                    refine gV_i hC hM hA hl.1 [.int (S21.1 0 26), .int (S21.1 0 27)] [] (c_X11_nameRead l D cs a N (S21.1 0 26) (S21.1 0 27) S21 v25 hc) gX11_regionLine_X11_nameRead rfl hd_X11_nameRead ⟨by decide, by decide⟩ 0 11 clX11 rfl mE0 (Nat.le_of_ble_eq_true rfl) dX11_regionLine_88 rfl ⟨by decide, by decide⟩ (fun H locs hM => ?_)
                    refine lv_istore_n (lv' := [(3, .int v25), (0, .ref (a 0)), (1, .int v3), (2, .int v20)]) hx hb dX11_regionLine_91 rfl hl (by decide) rfl (fun ls hl => ?_)
                    refine lv_iload_n hx hb dX11_regionLine_92 rfl (lv_at hl 0 rfl) ?_
                    refine lv_if_ge (tgt := 106) hx hb dX11_regionLine_93 (by decide) (fun c26 => ?_) (fun c26 => ?_)
                    · replace hf := it_t c26 hf
                      refine lv_aload_n hx hb dX11_regionLine_106 rfl (lv_at hl 1 rfl) ?_
                      refine g_get hC hM inX11_regionLine_X11 0 mE0 clX11 7 (by decide) tX11_regionLine_3 TX11_7 mV0_7 dX11_regionLine_107 ?_
                      refine lv_iload_n hx hb dX11_regionLine_110 rfl (lv_at hl 2 rfl) ?_
                      refine lv_dup2_11 hx hb dX11_regionLine_111 rfl rfl ?_
                      obtain ⟨h27, hf⟩ := ck_s hf
                      refine g_iald hC hM 4 mE4 h27 dX11_regionLine_112 ?_
                      refine lv_aload_n hx hb dX11_regionLine_113 rfl (lv_at hl 1 rfl) ?_
                      refine g_get hC hM inX11_regionLine_X11 0 mE0 clX11 7 (by decide) tX11_regionLine_3 TX11_7 mV0_7 dX11_regionLine_114 ?_
                      refine lv_iload_n hx hb dX11_regionLine_117 rfl (lv_at hl 0 rfl) ?_
                      obtain ⟨h28, hf⟩ := ck_s hf
                      refine g_iald hC hM 4 mE4 h28 dX11_regionLine_118 ?_
                      refine lv_ior hx hb dX11_regionLine_119 ?_
                      obtain ⟨h29, hf⟩ := ck_s hf
                      refine g_iast hC hM 4 mE4 h29 mA4 dX11_regionLine_120 (fun H locs hM => ?_)
                      obtain ⟨S30, hf, hM⟩ := mnm hf hM
                      refine lv_aload_n hx hb dX11_regionLine_121 rfl (lv_at hl 1 rfl) ?_
                      obtain ⟨S31, hc, hf⟩ := bd_s hf
                      refine gV_v hC hM hA hl.1 [] [] (c_X11_take l D cs a N S30 S31 hc) gX11_regionLine_X11_take rfl hd_X11_take ⟨by decide, by decide⟩ 0 11 clX11 rfl mE0 (Nat.le_of_ble_eq_true rfl) dX11_regionLine_122 rfl ⟨by decide, by decide⟩ (fun H locs hM => ?_)
                      refine lv_aload_n hx hb dX11_regionLine_125 rfl (lv_at hl 1 rfl) ?_
                      refine g_get hC hM inX11_regionLine_X11 0 mE0 clX11 24 (by decide) tX11_regionLine_5 TX11_24 mV0_24 dX11_regionLine_126 ?_
                      refine lv_iconst (v := 3) hx hb dX11_regionLine_129 (by decide) ?_
                      refine jp_W (fun k147 : Int32 → Option (Int32 × St) => ∀ (v32 : Int32), k147 v32 = some (rz, Sz) → ∀ (H : Heap) (locs : List Loc) (ls : Array Slot), gw D A s.heap H locs (mcells cs a S31) → lv_has ls 4 [(0, .ref (a 0)), (1, .int v3)] → W p l e rmX11_regionLine s m args below meth c H locs 0 0 Q (F0 m 147 ls [.int v32])) ?_ ?_ hf
                      · intro v32 hf H locs ls hM hl
                        unfold j_X11_regionLine_147 at hf
                        refine lv_istore_n (lv' := [(2, .int v32), (0, .ref (a 0)), (1, .int v3)]) hx hb dX11_regionLine_147 rfl hl (by decide) rfl (fun ls hl => ?_)
                        refine lv_iload_n hx hb dX11_regionLine_148 rfl (lv_at hl 0 rfl) ?_
                        refine jp_W (fun k156 : St → Option (Int32 × St) => ∀ (S33 : St), k156 S33 = some (rz, Sz) → ∀ (H : Heap) (locs : List Loc) (ls : Array Slot), gw D A s.heap H locs (mcells cs a S33) → lv_has ls 4 [(0, .ref (a 0)), (1, .int v3), (2, .int v32)] → W p l e rmX11_regionLine s m args below meth c H locs 0 0 Q (F0 m 156 ls [])) ?_ ?_ hf
                        · intro S33 hf H locs ls hM hl
                          unfold j_X11_regionLine_156 at hf
                          refine lv_goto (tgt := 58) hx hb dX11_regionLine_156 (by decide) ?_
                          exact hk58 _ _ hf _ _ _ hM hl
                        · intro k156 hk156 hf
                          refine lv_if_eq (tgt := 156) hx hb dX11_regionLine_149 (by decide) (fun c34 => ?_) (fun c34 => ?_)
                          · replace hf := it_t c34 hf
                            exact hk156 _ hf _ _ _ hM (lv_sub hl [1, 2, 0] rfl)
                          · replace hf := it_f c34 hf
                            refine lv_aload_n hx hb dX11_regionLine_152 rfl (lv_at hl 1 rfl) ?_
                            obtain ⟨S35, hc, hf⟩ := bd_s hf
                            refine gV_v hC hM hA hl.1 [] [] (c_X11_take l D cs a N S31 S35 hc) gX11_regionLine_X11_take rfl hd_X11_take ⟨by decide, by decide⟩ 0 11 clX11 rfl mE0 (Nat.le_of_ble_eq_true rfl) dX11_regionLine_153 rfl ⟨by decide, by decide⟩ (fun H locs hM => ?_)
                            exact hk156 _ hf _ _ _ hM (lv_sub hl [1, 2, 0] rfl)
                      · intro k147 hk147 hf
                        refine jp_W (fun k146 : Option (Int32 × St) => k146 = some (rz, Sz) → ∀ (H : Heap) (locs : List Loc) (ls : Array Slot), gw D A s.heap H locs (mcells cs a S31) → lv_has ls 4 [(0, .ref (a 0)), (1, .int v3)] → W p l e rmX11_regionLine s m args below meth c H locs 0 0 Q (F0 m 146 ls [])) ?_ ?_ hf
                        · intro  hf H locs ls hM hl
                          unfold j_X11_regionLine_146 at hf
                          refine lv_iconst (v := 0) hx hb dX11_regionLine_146 (by decide) ?_
                          exact hk147 _ hf _ _ _ hM hl
                        · intro k146 hk146 hf
                          refine lv_icmp_ne (tgt := 146) hx hb dX11_regionLine_130 (by decide) (fun c36 => ?_) (fun c36 => ?_)
                          · replace hf := it_f c36 hf
                            exact hk146 hf _ _ _ hM (lv_sub hl [1, 2] rfl)
                          · replace hf := it_t c36 hf
                            refine lv_aload_n hx hb dX11_regionLine_133 rfl (lv_at hl 1 rfl) ?_
                            refine g_get hC hM inX11_regionLine_X11 0 mE0 clX11 25 (by decide) tX11_regionLine_6 TX11_25 mV0_25 dX11_regionLine_134 ?_
                            refine lv_bipush (v := 44) hx hb dX11_regionLine_137 (by decide) ?_
                            refine lv_icmp_ne (tgt := 146) hx hb dX11_regionLine_139 (by decide) (fun c37 => ?_) (fun c37 => ?_)
                            · replace hf := it_f c37 hf
                              exact hk146 hf _ _ _ hM (lv_sub hl [1, 2] rfl)
                            · replace hf := it_t c37 hf
                              refine lv_iconst (v := 1) hx hb dX11_regionLine_142 (by decide) ?_
                              refine lv_goto (tgt := 147) hx hb dX11_regionLine_143 (by decide) ?_
                              exact hk147 _ hf _ _ _ hM (lv_sub hl [1, 2] rfl)
                    · replace hf := it_f c26 hf
                      exact hk96 _ hf _ _ _ hM (lv_sub hl [1] rfl)
                  · replace hf := it_t c24 hf
                    exact hk69 _ hf _ _ _ hM (lv_sub hl [0] rfl)
              · intro k58 hk58 hf
                exact hk58 _ _ hf _ _ _ hM (lv_sub hl [2, 1, 0] rfl)
      · replace hf := it_t c9 hf
        refine lv_iconst (v := 0) hx hb dX11_regionLine_47 (by decide) ?_
        obtain ⟨e1, e2⟩ := so_2 hf
        cases e1; cases e2
        exact hQ _ _ _ _ _ _ dX11_regionLine_48 hM (by decide) (by decide)
  · replace hf := it_t c1 hf
    refine lv_aload_n hx hb dX11_regionLine_8 rfl (lv_at hl 0 rfl) ?_
    refine lv_iconst (v := 2) hx hb dX11_regionLine_9 (by decide) ?_
    refine lv_aload_n hx hb dX11_regionLine_10 rfl (lv_at hl 0 rfl) ?_
    refine g_get hC hM inX11_regionLine_X11 0 mE0 clX11 26 (by decide) tX11_regionLine_2 TX11_26 mV0_26 dX11_regionLine_11 ?_
    obtain ⟨v38, S39, hc, hf⟩ := bd2_s hf
    refine gV_i hC hM hA hl.1 [.int 2, .int (S.1 0 26)] [] (c_X11_wrong l D cs a N 2 (S.1 0 26) S v38 S39 hc) gX11_regionLine_X11_wrong rfl hd_X11_wrong ⟨by decide, by decide⟩ 0 11 clX11 rfl mE0 (Nat.le_of_ble_eq_true rfl) dX11_regionLine_14 rfl ⟨by decide, by decide⟩ (fun H locs hM => ?_)
    obtain ⟨e1, e2⟩ := so_2 hf
    cases e1; cases e2
    exact hQ _ _ _ _ _ _ dX11_regionLine_17 hM (by decide) (by decide)
