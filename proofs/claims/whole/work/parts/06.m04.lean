theorem hd_X11_isIn : yX11_isIn.cls = RX11 ∧ yX11_isIn.cls ≠ "java/lang/invoke/MethodHandle" ∧ yX11_isIn.cls ≠ "java/lang/invoke/VarHandle" ∧ (parseMethodDescriptor yX11_isIn.desc).map (fun d => d.parameters.length) = some 3 := by decide +kernel
theorem tX11_isIn_1 : Cond.fieldLink RX11 54 "WeatherTellerModel" "table" "[I" ∈ wsX11_isIn := List.mem_of_getElem? (i := 1) rfl
theorem inX11_isIn_X11 : ∀ w ∈ u_ws RX11 TX11 50, w ∈ wsX11_isIn := fun _ h => List.mem_cons_of_mem _ (List.mem_append_right _ h)
theorem tX11_isIn_2 : Cond.fieldLink RX11 22 "WeatherTellerModel" "bQuantity" "[I" ∈ wsX11_isIn := List.mem_of_getElem? (i := 2) rfl
theorem tX11_isIn_3 : Cond.fieldLink RX11 25 "WeatherTellerModel" "bLow" "[I" ∈ wsX11_isIn := List.mem_of_getElem? (i := 3) rfl
theorem tX11_isIn_4 : Cond.fieldLink RX11 28 "WeatherTellerModel" "bHigh" "[I" ∈ wsX11_isIn := List.mem_of_getElem? (i := 4) rfl
def f_X11_isIn (N : Nat) (p0 : Int32) (p1 : Int32) (p2 : Int32) (S : St) : Option (Int32) :=
  z1 <|
  if p2 < 0 then
    some 0
  else
    if p2 ≤ 23 then
      ck p0 48 <|
      ck (((144 * (S.1 5 p0.toNatClampNeg)) + (24 * p1)) + p2) 864 <|
      nm (S.1 14 (((144 * (S.1 5 p0.toNatClampNeg)) + (24 * p1)) + p2).toNatClampNeg) fun v5 =>
      if v5 = (-100) then
        some 0
      else
        ck p0 48 <|
        if v5 < (S.1 6 p0.toNatClampNeg) then
          some 0
        else
          ck p0 48 <|
          if (S.1 7 p0.toNatClampNeg) ≤ v5 then
            some 0
          else
            some 1
    else
      some 0
abbrev rmX11_isIn : Room := { frames := 0, cells := 0, slots := 0, locals := 0 }
set_option maxRecDepth 100000 in
set_option maxHeartbeats 4000000 in
theorem c_X11_isIn (l : Launch) (D : va_G) (cs : Nat → ClassId) (a : Nat → Nat) (N : Nat) (p0 : Int32) (p1 : Int32) (p2 : Int32) (S : St) (rz : Int32) (hf : f_X11_isIn N p0 p1 p2 S = some rz) : gMi l yX11_isIn wsX11_isIn rmX11_isIn D cs [.ref (a 0), .int p0, .int p1, .int p2] (mcells cs a S) rz (mcells cs a S) := by
  unfold f_X11_isIn at hf
  obtain ⟨hrz, hf⟩ := z1_s hf
  refine gE_z (cc := cX11_isIn) (maxL := 5) hrz (by decide) rfl (Nat.le_of_ble_eq_true rfl) ?_
  intro p e s m args below meth c A Q hC hA hQ hM ls hl
  obtain ⟨hx, hb, hml, hown, hts⟩ := hC.1
  have hl : lv_has ls 5 [(0, .ref (a 0)), (1, .int p0), (2, .int p1), (3, .int p2)] := hl
  refine lv_iload_n hx hb dX11_isIn_0 rfl (lv_at hl 3 rfl) ?_
  refine lv_if_lt (tgt := 10) hx hb dX11_isIn_1 (by decide) (fun c1 => ?_) (fun c1 => ?_)
  · replace hf := it_t c1 hf
    refine lv_iconst (v := 0) hx hb dX11_isIn_10 (by decide) ?_
    cases so_1 hf
    exact hQ _ _ _ _ _ _ dX11_isIn_11 hM (by decide) (by decide)
  · replace hf := it_f c1 hf
    refine lv_iload_n hx hb dX11_isIn_4 rfl (lv_at hl 3 rfl) ?_
    refine lv_bipush (v := 23) hx hb dX11_isIn_5 (by decide) ?_
    refine lv_icmp_le (tgt := 12) hx hb dX11_isIn_7 (by decide) (fun c2 => ?_) (fun c2 => ?_)
    · replace hf := it_t c2 hf
      refine lv_aload_n hx hb dX11_isIn_12 rfl (lv_at hl 0 rfl) ?_
      refine g_get hC hM inX11_isIn_X11 0 mE0 clX11 20 (by decide) tX11_isIn_1 TX11_20 mV0_20 dX11_isIn_13 ?_
      refine lv_sipush (v := 144) hx hb dX11_isIn_16 (by decide) ?_
      refine lv_aload_n hx hb dX11_isIn_19 rfl (lv_at hl 0 rfl) ?_
      refine g_get hC hM inX11_isIn_X11 0 mE0 clX11 9 (by decide) tX11_isIn_2 TX11_9 mV0_9 dX11_isIn_20 ?_
      refine lv_iload_n hx hb dX11_isIn_23 rfl (lv_at hl 1 rfl) ?_
      obtain ⟨h3, hf⟩ := ck_s hf
      refine g_iald hC hM 5 mE5 h3 dX11_isIn_24 ?_
      refine lv_imul hx hb dX11_isIn_25 ?_
      refine lv_bipush (v := 24) hx hb dX11_isIn_26 (by decide) ?_
      refine lv_iload_n hx hb dX11_isIn_28 rfl (lv_at hl 2 rfl) ?_
      refine lv_imul hx hb dX11_isIn_29 ?_
      refine lv_iadd hx hb dX11_isIn_30 ?_
      refine lv_iload_n hx hb dX11_isIn_31 rfl (lv_at hl 3 rfl) ?_
      refine lv_iadd hx hb dX11_isIn_32 ?_
      obtain ⟨h4, hf⟩ := ck_s hf
      refine g_iald hC hM 14 mE14 h4 dX11_isIn_33 ?_
      refine lv_topi (fun v5 ev5 => ?_)
      replace hf := nm_q ev5 hf
      refine lv_istore (lv' := [(4, .int v5), (0, .ref (a 0)), (1, .int p0), (2, .int p1), (3, .int p2)]) hx hb dX11_isIn_34 hl (by decide) rfl (fun ls hl => ?_)
      refine lv_iload hx hb dX11_isIn_36 (lv_at hl 0 rfl) ?_
      refine lv_bipush (v := (-100)) hx hb dX11_isIn_38 (by decide) ?_
      refine lv_icmp_eq (tgt := 69) hx hb dX11_isIn_40 (by decide) (fun c6 => ?_) (fun c6 => ?_)
      · replace hf := it_t c6 hf
        refine lv_iconst (v := 0) hx hb dX11_isIn_69 (by decide) ?_
        cases so_1 hf
        exact hQ _ _ _ _ _ _ dX11_isIn_70 hM (by decide) (by decide)
      · replace hf := it_f c6 hf
        refine lv_iload hx hb dX11_isIn_43 (lv_at hl 0 rfl) ?_
        refine lv_aload_n hx hb dX11_isIn_45 rfl (lv_at hl 1 rfl) ?_
        refine g_get hC hM inX11_isIn_X11 0 mE0 clX11 10 (by decide) tX11_isIn_3 TX11_10 mV0_10 dX11_isIn_46 ?_
        refine lv_iload_n hx hb dX11_isIn_49 rfl (lv_at hl 2 rfl) ?_
        obtain ⟨h7, hf⟩ := ck_s hf
        refine g_iald hC hM 6 mE6 h7 dX11_isIn_50 ?_
        refine lv_icmp_lt (tgt := 69) hx hb dX11_isIn_51 (by decide) (fun c8 => ?_) (fun c8 => ?_)
        · replace hf := it_t c8 hf
          refine lv_iconst (v := 0) hx hb dX11_isIn_69 (by decide) ?_
          cases so_1 hf
          exact hQ _ _ _ _ _ _ dX11_isIn_70 hM (by decide) (by decide)
        · replace hf := it_f c8 hf
          refine lv_iload hx hb dX11_isIn_54 (lv_at hl 0 rfl) ?_
          refine lv_aload_n hx hb dX11_isIn_56 rfl (lv_at hl 1 rfl) ?_
          refine g_get hC hM inX11_isIn_X11 0 mE0 clX11 11 (by decide) tX11_isIn_4 TX11_11 mV0_11 dX11_isIn_57 ?_
          refine lv_iload_n hx hb dX11_isIn_60 rfl (lv_at hl 2 rfl) ?_
          obtain ⟨h9, hf⟩ := ck_s hf
          refine g_iald hC hM 7 mE7 h9 dX11_isIn_61 ?_
          refine lv_icmp_ge (tgt := 69) hx hb dX11_isIn_62 (by decide) (fun c10 => ?_) (fun c10 => ?_)
          · replace hf := it_t c10 hf
            refine lv_iconst (v := 0) hx hb dX11_isIn_69 (by decide) ?_
            cases so_1 hf
            exact hQ _ _ _ _ _ _ dX11_isIn_70 hM (by decide) (by decide)
          · replace hf := it_f c10 hf
            refine lv_iconst (v := 1) hx hb dX11_isIn_65 (by decide) ?_
            refine lv_goto (tgt := 70) hx hb dX11_isIn_66 (by decide) ?_
            cases so_1 hf
            exact hQ _ _ _ _ _ _ dX11_isIn_70 hM (by decide) (by decide)
    · replace hf := it_f c2 hf
      refine lv_iconst (v := 0) hx hb dX11_isIn_10 (by decide) ?_
      cases so_1 hf
      exact hQ _ _ _ _ _ _ dX11_isIn_11 hM (by decide) (by decide)

theorem hd_X11_runs : yX11_runs.cls = RX11 ∧ yX11_runs.cls ≠ "java/lang/invoke/MethodHandle" ∧ yX11_runs.cls ≠ "java/lang/invoke/VarHandle" ∧ (parseMethodDescriptor yX11_runs.desc).map (fun d => d.parameters.length) = some 4 := by decide +kernel
def b_X11_runs_40 (N : Nat) (p0 : Int32) (p1 : Int32) (p3 : Int32) (S : St) (k40 : Int32 → Option (Int32)) (v7 : Int32) : Option (Int32) :=
  if p3 < v7 then
    some 1
  else
    bd (f_X11_isIn N p0 p1 v7 S) fun v9 =>
    if v9 = 0 then
      some 0
    else
      nm (v7 + 1) fun v11 =>
      k40 v11
def f_X11_runs (N : Nat) (p0 : Int32) (p1 : Int32) (p2 : Int32) (p3 : Int32) (S : St) : Option (Int32) :=
  z1 <|
  bd (f_X11_isIn N p0 p1 p2 S) fun v1 =>
  if v1 = 0 then
    some 0
  else
    bd (f_X11_isIn N p0 p1 (p2 - 1) S) fun v3 =>
    if v3 = 0 then
      bd (f_X11_isIn N p0 p1 (p3 + 1) S) fun v5 =>
      if v5 = 0 then
        jp (lp (fun _ => none) (b_X11_runs_40 N p0 p1 p3 S) N) fun k40 =>
        k40 p2
      else
        some 0
    else
      some 0
abbrev rmX11_runs : Room := { frames := 1, cells := 0, slots := 0, locals := 24 }
set_option maxRecDepth 100000 in
set_option maxHeartbeats 4000000 in
theorem c_X11_runs (l : Launch) (D : va_G) (cs : Nat → ClassId) (a : Nat → Nat) (N : Nat) (p0 : Int32) (p1 : Int32) (p2 : Int32) (p3 : Int32) (S : St) (rz : Int32) (hf : f_X11_runs N p0 p1 p2 p3 S = some rz) : gMi l yX11_runs wsX11_runs rmX11_runs D cs [.ref (a 0), .int p0, .int p1, .int p2, .int p3] (mcells cs a S) rz (mcells cs a S) := by
  unfold f_X11_runs at hf
  obtain ⟨hrz, hf⟩ := z1_s hf
  refine gE_z (cc := cX11_runs) (maxL := 6) hrz (by decide) rfl (Nat.le_of_ble_eq_true rfl) ?_
  intro p e s m args below meth c A Q hC hA hQ hM ls hl
  obtain ⟨hx, hb, hml, hown, hts⟩ := hC.1
  have hl : lv_has ls 6 [(0, .ref (a 0)), (1, .int p0), (2, .int p1), (3, .int p2), (4, .int p3)] := hl
  refine lv_aload_n hx hb dX11_runs_0 rfl (lv_at hl 0 rfl) ?_
  refine lv_iload_n hx hb dX11_runs_1 rfl (lv_at hl 1 rfl) ?_
  refine lv_iload_n hx hb dX11_runs_2 rfl (lv_at hl 2 rfl) ?_
  refine lv_iload_n hx hb dX11_runs_3 rfl (lv_at hl 3 rfl) ?_
  obtain ⟨v1, hc, hf⟩ := bd_s hf
  refine gV_i hC hM hA hl.1 [.int p0, .int p1, .int p2] [] (c_X11_isIn l D cs a N p0 p1 p2 S v1 hc) gX11_runs_X11_isIn rfl hd_X11_isIn ⟨by decide, by decide⟩ 0 11 clX11 rfl mE0 (Nat.le_of_ble_eq_true rfl) dX11_runs_4 rfl ⟨by decide, by decide⟩ (fun H locs hM => ?_)
  refine lv_if_eq (tgt := 35) hx hb dX11_runs_7 (by decide) (fun c2 => ?_) (fun c2 => ?_)
  · replace hf := it_t c2 hf
    refine lv_iconst (v := 0) hx hb dX11_runs_35 (by decide) ?_
    cases so_1 hf
    exact hQ _ _ _ _ _ _ dX11_runs_36 hM (by decide) (by decide)
  · replace hf := it_f c2 hf
    refine lv_aload_n hx hb dX11_runs_10 rfl (lv_at hl 0 rfl) ?_
    refine lv_iload_n hx hb dX11_runs_11 rfl (lv_at hl 1 rfl) ?_
    refine lv_iload_n hx hb dX11_runs_12 rfl (lv_at hl 2 rfl) ?_
    refine lv_iload_n hx hb dX11_runs_13 rfl (lv_at hl 3 rfl) ?_
    refine lv_iconst (v := 1) hx hb dX11_runs_14 (by decide) ?_
    refine lv_isub hx hb dX11_runs_15 ?_
    obtain ⟨v3, hc, hf⟩ := bd_s hf
    refine gV_i hC hM hA hl.1 [.int p0, .int p1, .int (p2 - 1)] [] (c_X11_isIn l D cs a N p0 p1 (p2 - 1) S v3 hc) gX11_runs_X11_isIn rfl hd_X11_isIn ⟨by decide, by decide⟩ 0 11 clX11 rfl mE0 (Nat.le_of_ble_eq_true rfl) dX11_runs_16 rfl ⟨by decide, by decide⟩ (fun H locs hM => ?_)
    refine lv_if_ne (tgt := 35) hx hb dX11_runs_19 (by decide) (fun c4 => ?_) (fun c4 => ?_)
    · replace hf := it_f c4 hf
      refine lv_iconst (v := 0) hx hb dX11_runs_35 (by decide) ?_
      cases so_1 hf
      exact hQ _ _ _ _ _ _ dX11_runs_36 hM (by decide) (by decide)
    · replace hf := it_t c4 hf
      refine lv_aload_n hx hb dX11_runs_22 rfl (lv_at hl 0 rfl) ?_
      refine lv_iload_n hx hb dX11_runs_23 rfl (lv_at hl 1 rfl) ?_
      refine lv_iload_n hx hb dX11_runs_24 rfl (lv_at hl 2 rfl) ?_
      refine lv_iload hx hb dX11_runs_25 (lv_at hl 4 rfl) ?_
      refine lv_iconst (v := 1) hx hb dX11_runs_27 (by decide) ?_
      refine lv_iadd hx hb dX11_runs_28 ?_
      obtain ⟨v5, hc, hf⟩ := bd_s hf
      refine gV_i hC hM hA hl.1 [.int p0, .int p1, .int (p3 + 1)] [] (c_X11_isIn l D cs a N p0 p1 (p3 + 1) S v5 hc) gX11_runs_X11_isIn rfl hd_X11_isIn ⟨by decide, by decide⟩ 0 11 clX11 rfl mE0 (Nat.le_of_ble_eq_true rfl) dX11_runs_29 rfl ⟨by decide, by decide⟩ (fun H locs hM => ?_)
      refine lv_if_eq (tgt := 37) hx hb dX11_runs_32 (by decide) (fun c6 => ?_) (fun c6 => ?_)
      · replace hf := it_t c6 hf
        refine lv_iload_n hx hb dX11_runs_37 rfl (lv_at hl 3 rfl) ?_
        refine lv_istore (lv' := [(5, .int p2), (0, .ref (a 0)), (1, .int p0), (2, .int p1), (3, .int p2), (4, .int p3)]) hx hb dX11_runs_38 hl (by decide) rfl (fun ls hl => ?_)
        refine jl_W (fun k40 : Int32 → Option (Int32) => ∀ (v7 : Int32), k40 v7 = some rz → ∀ (H : Heap) (locs : List Loc) (ls : Array Slot), gw D A s.heap H locs (mcells cs a S) → lv_has ls 6 [(0, .ref (a 0)), (1, .int p0), (2, .int p1), (4, .int p3), (5, .int v7)] → W p l e rmX11_runs s m args below meth c H locs 0 0 Q (F0 m 40 ls [])) ?_ ?_ ?_ hf
        · intro v7 h; cases h
        · intro k40 hk40 v7 hf H locs ls hM hl
          unfold b_X11_runs_40 at hf
          refine lv_iload hx hb dX11_runs_40 (lv_at hl 4 rfl) ?_
          refine lv_iload hx hb dX11_runs_42 (lv_at hl 3 rfl) ?_
          refine lv_icmp_gt (tgt := 66) hx hb dX11_runs_44 (by decide) (fun c8 => ?_) (fun c8 => ?_)
          · replace hf := it_t c8 hf
            refine lv_iconst (v := 1) hx hb dX11_runs_66 (by decide) ?_
            cases so_1 hf
            exact hQ _ _ _ _ _ _ dX11_runs_67 hM (by decide) (by decide)
          · replace hf := it_f c8 hf
            refine lv_aload_n hx hb dX11_runs_47 rfl (lv_at hl 0 rfl) ?_
            refine lv_iload_n hx hb dX11_runs_48 rfl (lv_at hl 1 rfl) ?_
            refine lv_iload_n hx hb dX11_runs_49 rfl (lv_at hl 2 rfl) ?_
            refine lv_iload hx hb dX11_runs_50 (lv_at hl 4 rfl) ?_
            obtain ⟨v9, hc, hf⟩ := bd_s hf
            refine gV_i hC hM hA hl.1 [.int p0, .int p1, .int v7] [] (c_X11_isIn l D cs a N p0 p1 v7 S v9 hc) gX11_runs_X11_isIn rfl hd_X11_isIn ⟨by decide, by decide⟩ 0 11 clX11 rfl mE0 (Nat.le_of_ble_eq_true rfl) dX11_runs_52 rfl ⟨by decide, by decide⟩ (fun H locs hM => ?_)
            refine lv_if_ne (tgt := 60) hx hb dX11_runs_55 (by decide) (fun c10 => ?_) (fun c10 => ?_)
            · replace hf := it_f c10 hf
              obtain ⟨v11, ev11⟩ : ∃ y : Int32, y = v7 + 1 := ⟨_, rfl⟩
              replace hf := nm_q ev11 hf
              refine lv_iinc (v := v11) (lv' := [(5, .int v11), (0, .ref (a 0)), (1, .int p0), (2, .int p1), (4, .int p3)]) hx hb dX11_runs_60 hl (k := 4) rfl (by rw [ev11]; rfl) (by decide) rfl (fun ls hl => ?_)
              refine lv_goto (tgt := 40) hx hb dX11_runs_63 (by decide) ?_
              exact hk40 _ hf _ _ _ hM (lv_sub hl [1, 2, 3, 4, 0] rfl)
            · replace hf := it_t c10 hf
              refine lv_iconst (v := 0) hx hb dX11_runs_58 (by decide) ?_
              cases so_1 hf
              exact hQ _ _ _ _ _ _ dX11_runs_59 hM (by decide) (by decide)
        · intro k40 hk40 hf
          exact hk40 _ hf _ _ _ hM (lv_sub hl [1, 2, 3, 5, 0] rfl)
      · replace hf := it_f c6 hf
        refine lv_iconst (v := 0) hx hb dX11_runs_35 (by decide) ?_
        cases so_1 hf
        exact hQ _ _ _ _ _ _ dX11_runs_36 hM (by decide) (by decide)

theorem hd_X11_find : yX11_find.cls = RX11 ∧ yX11_find.cls ≠ "java/lang/invoke/MethodHandle" ∧ yX11_find.cls ≠ "java/lang/invoke/VarHandle" ∧ (parseMethodDescriptor yX11_find.desc).map (fun d => d.parameters.length) = some 0 := by decide +kernel
theorem tX11_find_1 : Cond.fieldLink RX11 211 "WeatherTellerModel" "findings" "I" ∈ wsX11_find := List.mem_of_getElem? (i := 1) rfl
theorem inX11_find_X11 : ∀ w ∈ u_ws RX11 TX11 50, w ∈ wsX11_find := fun _ h => List.mem_cons_of_mem _ (List.mem_append_right _ h)
theorem tX11_find_2 : Cond.fieldLink RX11 186 "WeatherTellerModel" "bands" "I" ∈ wsX11_find := List.mem_of_getElem? (i := 2) rfl
theorem tX11_find_4 : Cond.fieldLink RX11 60 "WeatherTellerModel" "fBand" "[I" ∈ wsX11_find := List.mem_of_getElem? (i := 4) rfl
theorem tX11_find_5 : Cond.fieldLink RX11 63 "WeatherTellerModel" "fFrom" "[I" ∈ wsX11_find := List.mem_of_getElem? (i := 5) rfl
theorem tX11_find_6 : Cond.fieldLink RX11 66 "WeatherTellerModel" "fTo" "[I" ∈ wsX11_find := List.mem_of_getElem? (i := 6) rfl
theorem tX11_find_7 : Cond.fieldLink RX11 69 "WeatherTellerModel" "fPlaces" "[I" ∈ wsX11_find := List.mem_of_getElem? (i := 7) rfl
theorem tX11_find_3 : Cond.fieldLink RX11 180 "WeatherTellerModel" "places" "I" ∈ wsX11_find := List.mem_of_getElem? (i := 3) rfl
def j_X11_find_148 (v2 : Int32) (k7 : Int32 → St → Option (St)) (S5 : St) : Option (St) :=
  nm (v2 + 1) fun v6 =>
  k7 v6 S5
def j_X11_find_142 (v7 : Int32) (k17 : Int32 → St → Option (St)) (S10 : St) : Option (St) :=
  nm (v7 + 1) fun v11 =>
  k17 v11 S10
def j_X11_find_136 (v12 : Int32) (k25 : Int32 → St → Option (St)) (S16 : St) : Option (St) :=
  nm (v12 + 1) fun v17 =>
  k25 v17 S16
def j_X11_find_77 (v2 : Int32) (v7 : Int32) (v12 : Int32) (S13 : St) (k25 : Int32 → St → Option (St)) (v15 : Int32) : Option (St) :=
  jp (j_X11_find_136 v12 k25) fun k136 =>
  if v15 = 0 then
    k136 S13
  else
    ck (S13.1 0 32) 432 <|
    nm (puI S13 16 (S13.1 0 32).toNatClampNeg v2) fun S20 =>
    ck (S20.1 0 32) 432 <|
    nm (puI S20 17 (S20.1 0 32).toNatClampNeg v7) fun S22 =>
    ck (S22.1 0 32) 432 <|
    nm (puI S22 18 (S22.1 0 32).toNatClampNeg v12) fun S24 =>
    ck (S24.1 0 32) 432 <|
    nm (puI S24 19 (S24.1 0 32).toNatClampNeg v15) fun S26 =>
    nm (puI S26 0 32 ((S26.1 0 32) + 1)) fun S27 =>
    k136 S27
def j_X11_find_68 (v29 : Int32) (k37 : Int32 → Int32 → Option (St)) (v32 : Int32) (v33 : Int32) : Option (St) :=
  nm (v32 ||| v33) fun v34 =>
  nm (v29 + 1) fun v35 =>
  k37 v34 v35
def b_X11_find_37 (N : Nat) (v2 : Int32) (v7 : Int32) (v12 : Int32) (S13 : St) (k77 : Int32 → Option (St)) (k37 : Int32 → Int32 → Option (St)) (v28 : Int32) (v29 : Int32) : Option (St) :=
  if (S13.1 0 3) ≤ v29 then
    k77 v28
  else
    bd (f_X11_runs N v2 v29 v7 v12 S13) fun v31 =>
    jp (j_X11_find_68 v29 k37) fun k68 =>
    if v31 = 0 then
      k68 v28 0
    else
      k68 v28 (1 <<< (v29 &&& 31))
def b_X11_find_25 (N : Nat) (v2 : Int32) (v7 : Int32) (k142 : St → Option (St)) (k25 : Int32 → St → Option (St)) (v12 : Int32) (S13 : St) : Option (St) :=
  if 24 ≤ v12 then
    k142 S13
  else
    jp (j_X11_find_77 v2 v7 v12 S13 k25) fun k77 =>
    jp (lp (fun _ _ => none) (b_X11_find_37 N v2 v7 v12 S13 k77) N) fun k37 =>
    k37 0 0
def b_X11_find_17 (N : Nat) (v2 : Int32) (k148 : St → Option (St)) (k17 : Int32 → St → Option (St)) (v7 : Int32) (S8 : St) : Option (St) :=
  if 24 ≤ v7 then
    k148 S8
  else
    jp (j_X11_find_142 v7 k17) fun k142 =>
    jp (lp (fun _ _ => none) (b_X11_find_25 N v2 v7 k142) N) fun k25 =>
    k25 v7 S8
def b_X11_find_7 (N : Nat) (k7 : Int32 → St → Option (St)) (v2 : Int32) (S3 : St) : Option (St) :=
  if (S3.1 0 8) ≤ v2 then
    some S3
  else
    jp (j_X11_find_148 v2 k7) fun k148 =>
    jp (lp (fun _ _ => none) (b_X11_find_17 N v2 k148) N) fun k17 =>
    k17 0 S3
def f_X11_find (N : Nat)  (S : St) : Option (St) :=
  nm (puI S 0 32 0) fun S1 =>
  jp (lp (fun _ _ => none) (b_X11_find_7 N) N) fun k7 =>
  k7 0 S1
abbrev rmX11_find : Room := { frames := 2, cells := 0, slots := 0, locals := 49 }
set_option maxRecDepth 100000 in
set_option maxHeartbeats 4000000 in
theorem c_X11_find (l : Launch) (D : va_G) (cs : Nat → ClassId) (a : Nat → Nat) (N : Nat) (S : St) (Sz : St) (hf : f_X11_find N S = some Sz) : gMv l yX11_find wsX11_find rmX11_find D cs [.ref (a 0)] (mcells cs a S) (mcells cs a Sz) := by
  unfold f_X11_find at hf
  refine gE_v (cc := cX11_find) (maxL := 6) (by decide) rfl (Nat.le_of_ble_eq_true rfl) ?_
  intro p e s m args below meth c A Q hC hA hQ hM ls hl
  obtain ⟨hx, hb, hml, hown, hts⟩ := hC.1
  have hl : lv_has ls 6 [(0, .ref (a 0))] := hl
  refine lv_aload_n hx hb dX11_find_0 rfl (lv_at hl 0 rfl) ?_
  refine lv_iconst (v := 0) hx hb dX11_find_1 (by decide) ?_
  refine g_put hC hM inX11_find_X11 tyX11_ok nmX11 0 mE0 clX11 32 (by decide) tX11_find_1 TX11_32 tyX11_32 rfl rfl (by rw [mL0]; decide) mP0_32 dX11_find_2 (fun H locs hM => ?_)
  obtain ⟨S1, hf, hM⟩ := mnm hf hM
  refine lv_iconst (v := 0) hx hb dX11_find_5 (by decide) ?_
  refine lv_istore_n (lv' := [(1, .int 0), (0, .ref (a 0))]) hx hb dX11_find_6 rfl hl (by decide) rfl (fun ls hl => ?_)
  refine jl_W (fun k7 : Int32 → St → Option (St) => ∀ (v2 : Int32) (S3 : St), k7 v2 S3 = some Sz → ∀ (H : Heap) (locs : List Loc) (ls : Array Slot), gw D A s.heap H locs (mcells cs a S3) → lv_has ls 6 [(0, .ref (a 0)), (1, .int v2)] → W p l e rmX11_find s m args below meth c H locs 0 0 Q (F0 m 7 ls [])) ?_ ?_ ?_ hf
  · intro v2 S3 h; cases h
  · intro k7 hk7 v2 S3 hf H locs ls hM hl
    unfold b_X11_find_7 at hf
    refine lv_iload_n hx hb dX11_find_7 rfl (lv_at hl 1 rfl) ?_
    refine lv_aload_n hx hb dX11_find_8 rfl (lv_at hl 0 rfl) ?_
    refine g_get hC hM inX11_find_X11 0 mE0 clX11 8 (by decide) tX11_find_2 TX11_8 mV0_8 dX11_find_9 ?_
    refine lv_icmp_ge (tgt := 154) hx hb dX11_find_12 (by decide) (fun c4 => ?_) (fun c4 => ?_)
    · replace hf := it_t c4 hf
      cases so_1 hf
      exact hQ _ _ _ _ _ _ dX11_find_154 hM (by decide) (by decide)
    · replace hf := it_f c4 hf
      refine lv_iconst (v := 0) hx hb dX11_find_15 (by decide) ?_
      refine lv_istore_n (lv' := [(2, .int 0), (0, .ref (a 0)), (1, .int v2)]) hx hb dX11_find_16 rfl hl (by decide) rfl (fun ls hl => ?_)
      refine jp_W (fun k148 : St → Option (St) => ∀ (S5 : St), k148 S5 = some Sz → ∀ (H : Heap) (locs : List Loc) (ls : Array Slot), gw D A s.heap H locs (mcells cs a S5) → lv_has ls 6 [(0, .ref (a 0)), (1, .int v2)] → W p l e rmX11_find s m args below meth c H locs 0 0 Q (F0 m 148 ls [])) ?_ ?_ hf
      · intro S5 hf H locs ls hM hl
        unfold j_X11_find_148 at hf
        obtain ⟨v6, ev6⟩ : ∃ y : Int32, y = v2 + 1 := ⟨_, rfl⟩
        replace hf := nm_q ev6 hf
        refine lv_iinc (v := v6) (lv' := [(1, .int v6), (0, .ref (a 0))]) hx hb dX11_find_148 hl (k := 1) rfl (by rw [ev6]; rfl) (by decide) rfl (fun ls hl => ?_)
        refine lv_goto (tgt := 7) hx hb dX11_find_151 (by decide) ?_
        exact hk7 _ _ hf _ _ _ hM (lv_sub hl [1, 0] rfl)
      · intro k148 hk148 hf
        refine jl_W (fun k17 : Int32 → St → Option (St) => ∀ (v7 : Int32) (S8 : St), k17 v7 S8 = some Sz → ∀ (H : Heap) (locs : List Loc) (ls : Array Slot), gw D A s.heap H locs (mcells cs a S8) → lv_has ls 6 [(0, .ref (a 0)), (1, .int v2), (2, .int v7)] → W p l e rmX11_find s m args below meth c H locs 0 0 Q (F0 m 17 ls [])) ?_ ?_ ?_ hf
        · intro v7 S8 h; cases h
        · intro k17 hk17 v7 S8 hf H locs ls hM hl
          unfold b_X11_find_17 at hf
          refine lv_iload_n hx hb dX11_find_17 rfl (lv_at hl 2 rfl) ?_
          refine lv_bipush (v := 24) hx hb dX11_find_18 (by decide) ?_
          refine lv_icmp_ge (tgt := 148) hx hb dX11_find_20 (by decide) (fun c9 => ?_) (fun c9 => ?_)
          · replace hf := it_t c9 hf
            exact hk148 _ hf _ _ _ hM (lv_sub hl [0, 1] rfl)
          · replace hf := it_f c9 hf
            refine lv_iload_n hx hb dX11_find_23 rfl (lv_at hl 2 rfl) ?_
            refine lv_istore_n (lv' := [(3, .int v7), (0, .ref (a 0)), (1, .int v2), (2, .int v7)]) hx hb dX11_find_24 rfl hl (by decide) rfl (fun ls hl => ?_)
            refine jp_W (fun k142 : St → Option (St) => ∀ (S10 : St), k142 S10 = some Sz → ∀ (H : Heap) (locs : List Loc) (ls : Array Slot), gw D A s.heap H locs (mcells cs a S10) → lv_has ls 6 [(0, .ref (a 0)), (1, .int v2), (2, .int v7)] → W p l e rmX11_find s m args below meth c H locs 0 0 Q (F0 m 142 ls [])) ?_ ?_ hf
            · intro S10 hf H locs ls hM hl
              unfold j_X11_find_142 at hf
              obtain ⟨v11, ev11⟩ : ∃ y : Int32, y = v7 + 1 := ⟨_, rfl⟩
              replace hf := nm_q ev11 hf
              refine lv_iinc (v := v11) (lv' := [(2, .int v11), (0, .ref (a 0)), (1, .int v2)]) hx hb dX11_find_142 hl (k := 2) rfl (by rw [ev11]; rfl) (by decide) rfl (fun ls hl => ?_)
              refine lv_goto (tgt := 17) hx hb dX11_find_145 (by decide) ?_
              exact hk17 _ _ hf _ _ _ hM (lv_sub hl [1, 2, 0] rfl)
            · intro k142 hk142 hf
              refine jl_W (fun k25 : Int32 → St → Option (St) => ∀ (v12 : Int32) (S13 : St), k25 v12 S13 = some Sz → ∀ (H : Heap) (locs : List Loc) (ls : Array Slot), gw D A s.heap H locs (mcells cs a S13) → lv_has ls 6 [(0, .ref (a 0)), (1, .int v2), (2, .int v7), (3, .int v12)] → W p l e rmX11_find s m args below meth c H locs 0 0 Q (F0 m 25 ls [])) ?_ ?_ ?_ hf
              · intro v12 S13 h; cases h
              · intro k25 hk25 v12 S13 hf H locs ls hM hl
                unfold b_X11_find_25 at hf
                refine lv_iload_n hx hb dX11_find_25 rfl (lv_at hl 3 rfl) ?_
                refine lv_bipush (v := 24) hx hb dX11_find_26 (by decide) ?_
                refine lv_icmp_ge (tgt := 142) hx hb dX11_find_28 (by decide) (fun c14 => ?_) (fun c14 => ?_)
                · replace hf := it_t c14 hf
                  exact hk142 _ hf _ _ _ hM (lv_sub hl [0, 1, 2] rfl)
                · replace hf := it_f c14 hf
                  refine lv_iconst (v := 0) hx hb dX11_find_31 (by decide) ?_
                  refine lv_istore (lv' := [(4, .int 0), (0, .ref (a 0)), (1, .int v2), (2, .int v7), (3, .int v12)]) hx hb dX11_find_32 hl (by decide) rfl (fun ls hl => ?_)
                  refine lv_iconst (v := 0) hx hb dX11_find_34 (by decide) ?_
                  refine lv_istore (lv' := [(5, .int 0), (4, .int 0), (0, .ref (a 0)), (1, .int v2), (2, .int v7), (3, .int v12)]) hx hb dX11_find_35 hl (by decide) rfl (fun ls hl => ?_)
                  refine jp_W (fun k77 : Int32 → Option (St) => ∀ (v15 : Int32), k77 v15 = some Sz → ∀ (H : Heap) (locs : List Loc) (ls : Array Slot), gw D A s.heap H locs (mcells cs a S13) → lv_has ls 6 [(0, .ref (a 0)), (1, .int v2), (2, .int v7), (3, .int v12), (4, .int v15)] → W p l e rmX11_find s m args below meth c H locs 0 0 Q (F0 m 77 ls [])) ?_ ?_ hf
                  · intro v15 hf H locs ls hM hl
                    unfold j_X11_find_77 at hf
                    refine lv_iload hx hb dX11_find_77 (lv_at hl 4 rfl) ?_
                    refine jp_W (fun k136 : St → Option (St) => ∀ (S16 : St), k136 S16 = some Sz → ∀ (H : Heap) (locs : List Loc) (ls : Array Slot), gw D A s.heap H locs (mcells cs a S16) → lv_has ls 6 [(0, .ref (a 0)), (1, .int v2), (2, .int v7), (3, .int v12)] → W p l e rmX11_find s m args below meth c H locs 0 0 Q (F0 m 136 ls [])) ?_ ?_ hf
                    · intro S16 hf H locs ls hM hl
                      unfold j_X11_find_136 at hf
                      obtain ⟨v17, ev17⟩ : ∃ y : Int32, y = v12 + 1 := ⟨_, rfl⟩
                      replace hf := nm_q ev17 hf
                      refine lv_iinc (v := v17) (lv' := [(3, .int v17), (0, .ref (a 0)), (1, .int v2), (2, .int v7)]) hx hb dX11_find_136 hl (k := 3) rfl (by rw [ev17]; rfl) (by decide) rfl (fun ls hl => ?_)
                      refine lv_goto (tgt := 25) hx hb dX11_find_139 (by decide) ?_
                      exact hk25 _ _ hf _ _ _ hM (lv_sub hl [1, 2, 3, 0] rfl)
                    · intro k136 hk136 hf
                      refine lv_if_ne (tgt := 85) hx hb dX11_find_79 (by decide) (fun c18 => ?_) (fun c18 => ?_)
                      · replace hf := it_f c18 hf
                        refine lv_aload_n hx hb dX11_find_85 rfl (lv_at hl 0 rfl) ?_
                        refine g_get hC hM inX11_find_X11 0 mE0 clX11 33 (by decide) tX11_find_4 TX11_33 mV0_33 dX11_find_86 ?_
                        refine lv_aload_n hx hb dX11_find_89 rfl (lv_at hl 0 rfl) ?_
                        refine g_get hC hM inX11_find_X11 0 mE0 clX11 32 (by decide) tX11_find_1 TX11_32 mV0_32 dX11_find_90 ?_
                        refine lv_iload_n hx hb dX11_find_93 rfl (lv_at hl 1 rfl) ?_
                        obtain ⟨h19, hf⟩ := ck_s hf
                        refine g_iast hC hM 16 mE16 h19 mA16 dX11_find_94 (fun H locs hM => ?_)
                        obtain ⟨S20, hf, hM⟩ := mnm hf hM
                        refine lv_aload_n hx hb dX11_find_95 rfl (lv_at hl 0 rfl) ?_
                        refine g_get hC hM inX11_find_X11 0 mE0 clX11 34 (by decide) tX11_find_5 TX11_34 mV0_34 dX11_find_96 ?_
                        refine lv_aload_n hx hb dX11_find_99 rfl (lv_at hl 0 rfl) ?_
                        refine g_get hC hM inX11_find_X11 0 mE0 clX11 32 (by decide) tX11_find_1 TX11_32 mV0_32 dX11_find_100 ?_
                        refine lv_iload_n hx hb dX11_find_103 rfl (lv_at hl 2 rfl) ?_
                        obtain ⟨h21, hf⟩ := ck_s hf
                        refine g_iast hC hM 17 mE17 h21 mA17 dX11_find_104 (fun H locs hM => ?_)
                        obtain ⟨S22, hf, hM⟩ := mnm hf hM
                        refine lv_aload_n hx hb dX11_find_105 rfl (lv_at hl 0 rfl) ?_
                        refine g_get hC hM inX11_find_X11 0 mE0 clX11 35 (by decide) tX11_find_6 TX11_35 mV0_35 dX11_find_106 ?_
                        refine lv_aload_n hx hb dX11_find_109 rfl (lv_at hl 0 rfl) ?_
                        refine g_get hC hM inX11_find_X11 0 mE0 clX11 32 (by decide) tX11_find_1 TX11_32 mV0_32 dX11_find_110 ?_
                        refine lv_iload_n hx hb dX11_find_113 rfl (lv_at hl 3 rfl) ?_
                        obtain ⟨h23, hf⟩ := ck_s hf
                        refine g_iast hC hM 18 mE18 h23 mA18 dX11_find_114 (fun H locs hM => ?_)
                        obtain ⟨S24, hf, hM⟩ := mnm hf hM
                        refine lv_aload_n hx hb dX11_find_115 rfl (lv_at hl 0 rfl) ?_
                        refine g_get hC hM inX11_find_X11 0 mE0 clX11 36 (by decide) tX11_find_7 TX11_36 mV0_36 dX11_find_116 ?_
                        refine lv_aload_n hx hb dX11_find_119 rfl (lv_at hl 0 rfl) ?_
                        refine g_get hC hM inX11_find_X11 0 mE0 clX11 32 (by decide) tX11_find_1 TX11_32 mV0_32 dX11_find_120 ?_
                        refine lv_iload hx hb dX11_find_123 (lv_at hl 4 rfl) ?_
                        obtain ⟨h25, hf⟩ := ck_s hf
                        refine g_iast hC hM 19 mE19 h25 mA19 dX11_find_125 (fun H locs hM => ?_)
                        obtain ⟨S26, hf, hM⟩ := mnm hf hM
                        refine lv_aload_n hx hb dX11_find_126 rfl (lv_at hl 0 rfl) ?_
                        refine lv_dup hx hb dX11_find_127 rfl ?_
                        refine g_get hC hM inX11_find_X11 0 mE0 clX11 32 (by decide) tX11_find_1 TX11_32 mV0_32 dX11_find_128 ?_
                        refine lv_iconst (v := 1) hx hb dX11_find_131 (by decide) ?_
                        refine lv_iadd hx hb dX11_find_132 ?_
                        refine g_put hC hM inX11_find_X11 tyX11_ok nmX11 0 mE0 clX11 32 (by decide) tX11_find_1 TX11_32 tyX11_32 rfl rfl (by rw [mL0]; decide) mP0_32 dX11_find_133 (fun H locs hM => ?_)
                        obtain ⟨S27, hf, hM⟩ := mnm hf hM
                        exact hk136 _ hf _ _ _ hM (lv_sub hl [0, 1, 2, 3] rfl)
                      · replace hf := it_t c18 hf
                        refine lv_goto (tgt := 136) hx hb dX11_find_82 (by decide) ?_
                        exact hk136 _ hf _ _ _ hM (lv_sub hl [0, 1, 2, 3] rfl)
                  · intro k77 hk77 hf
                    refine jl_W (fun k37 : Int32 → Int32 → Option (St) => ∀ (v28 : Int32) (v29 : Int32), k37 v28 v29 = some Sz → ∀ (H : Heap) (locs : List Loc) (ls : Array Slot), gw D A s.heap H locs (mcells cs a S13) → lv_has ls 6 [(0, .ref (a 0)), (1, .int v2), (2, .int v7), (3, .int v12), (4, .int v28), (5, .int v29)] → W p l e rmX11_find s m args below meth c H locs 0 0 Q (F0 m 37 ls [])) ?_ ?_ ?_ hf
                    · intro v28 v29 h; cases h
                    · intro k37 hk37 v28 v29 hf H locs ls hM hl
                      unfold b_X11_find_37 at hf
                      refine lv_iload hx hb dX11_find_37 (lv_at hl 5 rfl) ?_
                      refine lv_aload_n hx hb dX11_find_39 rfl (lv_at hl 0 rfl) ?_
                      refine g_get hC hM inX11_find_X11 0 mE0 clX11 3 (by decide) tX11_find_3 TX11_3 mV0_3 dX11_find_40 ?_
                      refine lv_icmp_ge (tgt := 77) hx hb dX11_find_43 (by decide) (fun c30 => ?_) (fun c30 => ?_)
                      · replace hf := it_t c30 hf
                        exact hk77 _ hf _ _ _ hM (lv_sub hl [0, 1, 2, 3, 4] rfl)
                      · replace hf := it_f c30 hf
                        refine lv_iload hx hb dX11_find_46 (lv_at hl 4 rfl) ?_
                        refine lv_aload_n hx hb dX11_find_48 rfl (lv_at hl 0 rfl) ?_
                        refine lv_iload_n hx hb dX11_find_49 rfl (lv_at hl 1 rfl) ?_
                        refine lv_iload hx hb dX11_find_50 (lv_at hl 5 rfl) ?_
                        refine lv_iload_n hx hb dX11_find_52 rfl (lv_at hl 2 rfl) ?_
                        refine lv_iload_n hx hb dX11_find_53 rfl (lv_at hl 3 rfl) ?_
                        obtain ⟨v31, hc, hf⟩ := bd_s hf
                        refine gV_i hC hM hA hl.1 [.int v2, .int v29, .int v7, .int v12] [.int v28] (c_X11_runs l D cs a N v2 v29 v7 v12 S13 v31 hc) gX11_find_X11_runs rfl hd_X11_runs ⟨by decide, by decide⟩ 0 11 clX11 rfl mE0 (Nat.le_of_ble_eq_true rfl) dX11_find_54 rfl ⟨by decide, by decide⟩ (fun H locs hM => ?_)
                        refine jp_W (fun k68 : Int32 → Int32 → Option (St) => ∀ (v32 : Int32) (v33 : Int32), k68 v32 v33 = some Sz → ∀ (H : Heap) (locs : List Loc) (ls : Array Slot), gw D A s.heap H locs (mcells cs a S13) → lv_has ls 6 [(0, .ref (a 0)), (1, .int v2), (2, .int v7), (3, .int v12), (5, .int v29)] → W p l e rmX11_find s m args below meth c H locs 0 0 Q (F0 m 68 ls [.int v33, .int v32])) ?_ ?_ hf
                        · intro v32 v33 hf H locs ls hM hl
                          unfold j_X11_find_68 at hf
                          refine lv_ior hx hb dX11_find_68 ?_
                          refine lv_topi (fun v34 ev34 => ?_)
                          replace hf := nm_q ev34 hf
                          refine lv_istore (lv' := [(4, .int v34), (0, .ref (a 0)), (1, .int v2), (2, .int v7), (3, .int v12), (5, .int v29)]) hx hb dX11_find_69 hl (by decide) rfl (fun ls hl => ?_)
                          obtain ⟨v35, ev35⟩ : ∃ y : Int32, y = v29 + 1 := ⟨_, rfl⟩
                          replace hf := nm_q ev35 hf
                          refine lv_iinc (v := v35) (lv' := [(5, .int v35), (4, .int v34), (0, .ref (a 0)), (1, .int v2), (2, .int v7), (3, .int v12)]) hx hb dX11_find_71 hl (k := 5) rfl (by rw [ev35]; rfl) (by decide) rfl (fun ls hl => ?_)
                          refine lv_goto (tgt := 37) hx hb dX11_find_74 (by decide) ?_
                          exact hk37 _ _ hf _ _ _ hM (lv_sub hl [2, 3, 4, 5, 1, 0] rfl)
                        · intro k68 hk68 hf
                          refine lv_if_eq (tgt := 67) hx hb dX11_find_57 (by decide) (fun c36 => ?_) (fun c36 => ?_)
                          · replace hf := it_t c36 hf
                            refine lv_iconst (v := 0) hx hb dX11_find_67 (by decide) ?_
                            exact hk68 _ _ hf _ _ _ hM (lv_sub hl [0, 1, 2, 3, 5] rfl)
                          · replace hf := it_f c36 hf
                            refine lv_iconst (v := 1) hx hb dX11_find_60 (by decide) ?_
                            refine lv_iload hx hb dX11_find_61 (lv_at hl 5 rfl) ?_
                            refine lv_ishl hx hb dX11_find_63 ?_
                            refine lv_goto (tgt := 68) hx hb dX11_find_64 (by decide) ?_
                            exact hk68 _ _ hf _ _ _ hM (lv_sub hl [0, 1, 2, 3, 5] rfl)
                    · intro k37 hk37 hf
                      exact hk37 _ _ hf _ _ _ hM (lv_sub hl [2, 3, 4, 5, 1, 0] rfl)
              · intro k25 hk25 hf
                exact hk25 _ _ hf _ _ _ hM (lv_sub hl [1, 2, 3, 0] rfl)
        · intro k17 hk17 hf
          exact hk17 _ _ hf _ _ _ hM (lv_sub hl [1, 2, 0] rfl)
  · intro k7 hk7 hf
    exact hk7 _ _ hf _ _ _ hM (lv_sub hl [1, 0] rfl)

theorem hd_X11_weightOf : yX11_weightOf.cls = RX11 ∧ yX11_weightOf.cls ≠ "java/lang/invoke/MethodHandle" ∧ yX11_weightOf.cls ≠ "java/lang/invoke/VarHandle" ∧ (parseMethodDescriptor yX11_weightOf.desc).map (fun d => d.parameters.length) = some 1 := by decide +kernel
theorem tX11_weightOf_1 : Cond.fieldLink RX11 31 "WeatherTellerModel" "bGrade" "[I" ∈ wsX11_weightOf := List.mem_of_getElem? (i := 1) rfl
theorem inX11_weightOf_X11 : ∀ w ∈ u_ws RX11 TX11 50, w ∈ wsX11_weightOf := fun _ h => List.mem_cons_of_mem _ (List.mem_append_right _ h)
theorem tX11_weightOf_2 : Cond.fieldLink RX11 60 "WeatherTellerModel" "fBand" "[I" ∈ wsX11_weightOf := List.mem_of_getElem? (i := 2) rfl
theorem tX11_weightOf_3 : Cond.fieldLink RX11 69 "WeatherTellerModel" "fPlaces" "[I" ∈ wsX11_weightOf := List.mem_of_getElem? (i := 3) rfl
theorem tX11_weightOf_4 : Cond.fieldLink RX11 66 "WeatherTellerModel" "fTo" "[I" ∈ wsX11_weightOf := List.mem_of_getElem? (i := 4) rfl
theorem tX11_weightOf_5 : Cond.fieldLink RX11 63 "WeatherTellerModel" "fFrom" "[I" ∈ wsX11_weightOf := List.mem_of_getElem? (i := 5) rfl
def f_X11_weightOf (N : Nat) (p0 : Int32) (S : St) : Option (Int32) :=
  ck p0 432 <|
  ck (S.1 16 p0.toNatClampNeg) 48 <|
  ck p0 432 <|
  bd (f_X11_bits N (S.1 19 p0.toNatClampNeg)) fun v4 =>
  ck p0 432 <|
  ck p0 432 <|
  some (((S.1 8 (S.1 16 p0.toNatClampNeg).toNatClampNeg) * v4) * (((S.1 18 p0.toNatClampNeg) - (S.1 17 p0.toNatClampNeg)) + 1))
abbrev rmX11_weightOf : Room := { frames := 1, cells := 0, slots := 0, locals := 22 }
set_option maxRecDepth 100000 in
set_option maxHeartbeats 4000000 in
theorem c_X11_weightOf (l : Launch) (D : va_G) (cs : Nat → ClassId) (a : Nat → Nat) (N : Nat) (p0 : Int32) (S : St) (rz : Int32) (hf : f_X11_weightOf N p0 S = some rz) : gMi l yX11_weightOf wsX11_weightOf rmX11_weightOf D cs [.ref (a 0), .int p0] (mcells cs a S) rz (mcells cs a S) := by
  unfold f_X11_weightOf at hf
  refine gE_i (cc := cX11_weightOf) (maxL := 2) (by decide) rfl (Nat.le_of_ble_eq_true rfl) ?_
  intro p e s m args below meth c A Q hC hA hQ hM ls hl
  obtain ⟨hx, hb, hml, hown, hts⟩ := hC.1
  have hl : lv_has ls 2 [(0, .ref (a 0)), (1, .int p0)] := hl
  refine lv_aload_n hx hb dX11_weightOf_0 rfl (lv_at hl 0 rfl) ?_
  refine g_get hC hM inX11_weightOf_X11 0 mE0 clX11 12 (by decide) tX11_weightOf_1 TX11_12 mV0_12 dX11_weightOf_1 ?_
  refine lv_aload_n hx hb dX11_weightOf_4 rfl (lv_at hl 0 rfl) ?_
  refine g_get hC hM inX11_weightOf_X11 0 mE0 clX11 33 (by decide) tX11_weightOf_2 TX11_33 mV0_33 dX11_weightOf_5 ?_
  refine lv_iload_n hx hb dX11_weightOf_8 rfl (lv_at hl 1 rfl) ?_
  obtain ⟨h1, hf⟩ := ck_s hf
  refine g_iald hC hM 16 mE16 h1 dX11_weightOf_9 ?_
  obtain ⟨h2, hf⟩ := ck_s hf
  refine g_iald hC hM 8 mE8 h2 dX11_weightOf_10 ?_
  refine lv_aload_n hx hb dX11_weightOf_11 rfl (lv_at hl 0 rfl) ?_
  refine g_get hC hM inX11_weightOf_X11 0 mE0 clX11 36 (by decide) tX11_weightOf_3 TX11_36 mV0_36 dX11_weightOf_12 ?_
  refine lv_iload_n hx hb dX11_weightOf_15 rfl (lv_at hl 1 rfl) ?_
  obtain ⟨h3, hf⟩ := ck_s hf
  refine g_iald hC hM 19 mE19 h3 dX11_weightOf_16 ?_
  obtain ⟨v4, hc, hf⟩ := bd_s hf
  refine gS_i hC hM hA hl.1 [.int (S.1 19 p0.toNatClampNeg)] [.int (S.1 8 (S.1 16 p0.toNatClampNeg).toNatClampNeg)] (c_X11_bits l D cs (mcells cs a S) N (S.1 19 p0.toNatClampNeg) v4 hc) gX11_weightOf_X11_bits rfl hd_X11_bits ⟨by decide, by decide⟩ (Nat.le_of_ble_eq_true rfl) dX11_weightOf_17 rfl ⟨by decide, by decide⟩ (fun H locs hM => ?_)
  refine lv_imul hx hb dX11_weightOf_20 ?_
  refine lv_aload_n hx hb dX11_weightOf_21 rfl (lv_at hl 0 rfl) ?_
  refine g_get hC hM inX11_weightOf_X11 0 mE0 clX11 35 (by decide) tX11_weightOf_4 TX11_35 mV0_35 dX11_weightOf_22 ?_
  refine lv_iload_n hx hb dX11_weightOf_25 rfl (lv_at hl 1 rfl) ?_
  obtain ⟨h5, hf⟩ := ck_s hf
  refine g_iald hC hM 18 mE18 h5 dX11_weightOf_26 ?_
  refine lv_aload_n hx hb dX11_weightOf_27 rfl (lv_at hl 0 rfl) ?_
  refine g_get hC hM inX11_weightOf_X11 0 mE0 clX11 34 (by decide) tX11_weightOf_5 TX11_34 mV0_34 dX11_weightOf_28 ?_
  refine lv_iload_n hx hb dX11_weightOf_31 rfl (lv_at hl 1 rfl) ?_
  obtain ⟨h6, hf⟩ := ck_s hf
  refine g_iald hC hM 17 mE17 h6 dX11_weightOf_32 ?_
  refine lv_isub hx hb dX11_weightOf_33 ?_
  refine lv_iconst (v := 1) hx hb dX11_weightOf_34 (by decide) ?_
  refine lv_iadd hx hb dX11_weightOf_35 ?_
  refine lv_imul hx hb dX11_weightOf_36 ?_
  cases so_1 hf
  exact hQ _ _ _ _ _ _ dX11_weightOf_37 hM (by decide) (by decide)

theorem hd_X11_digits : yX11_digits.cls ≠ "java/lang/invoke/MethodHandle" ∧ yX11_digits.cls ≠ "java/lang/invoke/VarHandle" ∧ (parseMethodDescriptor yX11_digits.desc).map (fun d => d.parameters.length) = some 1 := by decide +kernel
def f_X11_digits (N : Nat) (p0 : Int32) : Option (Int32) :=
  if 10 ≤ p0 then
    some 2
  else
    some 1
abbrev rmX11_digits : Room := { frames := 0, cells := 0, slots := 0, locals := 0 }
set_option maxRecDepth 100000 in
set_option maxHeartbeats 4000000 in
theorem c_X11_digits (l : Launch) (D : va_G) (cs : Nat → ClassId) (w : va_W) (N : Nat) (p0 : Int32) (rz : Int32) (hf : f_X11_digits N p0 = some rz) : gMi l yX11_digits wsX11_digits rmX11_digits D cs [.int p0] w rz w := by
  unfold f_X11_digits at hf
  refine gE_i (cc := cX11_digits) (maxL := 1) (by decide) rfl (Nat.le_of_ble_eq_true rfl) ?_
  intro p e s m args below meth c A Q hC hA hQ hM ls hl
  obtain ⟨hx, hb, hml, hown, hts⟩ := hC.1
  have hl : lv_has ls 1 [(0, .int p0)] := hl
  refine lv_iload_n hx hb dX11_digits_0 rfl (lv_at hl 0 rfl) ?_
  refine lv_bipush (v := 10) hx hb dX11_digits_1 (by decide) ?_
  refine lv_icmp_ge (tgt := 10) hx hb dX11_digits_3 (by decide) (fun c1 => ?_) (fun c1 => ?_)
  · replace hf := it_t c1 hf
    refine lv_iconst (v := 2) hx hb dX11_digits_10 (by decide) ?_
    cases so_1 hf
    exact hQ _ _ _ _ _ _ dX11_digits_11 hM (by decide) (by decide)
  · replace hf := it_f c1 hf
    refine lv_iconst (v := 1) hx hb dX11_digits_6 (by decide) ?_
    refine lv_goto (tgt := 11) hx hb dX11_digits_7 (by decide) ?_
    cases so_1 hf
    exact hQ _ _ _ _ _ _ dX11_digits_11 hM (by decide) (by decide)

theorem hd_X11_namesSize : yX11_namesSize.cls = RX11 ∧ yX11_namesSize.cls ≠ "java/lang/invoke/MethodHandle" ∧ yX11_namesSize.cls ≠ "java/lang/invoke/VarHandle" ∧ (parseMethodDescriptor yX11_namesSize.desc).map (fun d => d.parameters.length) = some 1 := by decide +kernel
theorem tX11_namesSize_1 : Cond.fieldLink RX11 180 "WeatherTellerModel" "places" "I" ∈ wsX11_namesSize := List.mem_of_getElem? (i := 1) rfl
theorem inX11_namesSize_X11 : ∀ w ∈ u_ws RX11 TX11 50, w ∈ wsX11_namesSize := fun _ h => List.mem_cons_of_mem _ (List.mem_append_right _ h)
theorem tX11_namesSize_2 : Cond.fieldLink RX11 183 "WeatherTellerModel" "regions" "I" ∈ wsX11_namesSize := List.mem_of_getElem? (i := 2) rfl
theorem tX11_namesSize_3 : Cond.fieldLink RX11 16 "WeatherTellerModel" "sizes" "[I" ∈ wsX11_namesSize := List.mem_of_getElem? (i := 3) rfl
def j_X11_namesSize_39 (v2 : Int32) (k4 : Int32 → Int32 → Option (Int32)) (v4 : Int32) (v5 : Int32) : Option (Int32) :=
  nm (v4 + v5) fun v6 =>
  nm (v2 + 1) fun v7 =>
  k4 v6 v7
def b_X11_namesSize_4 (p0 : Int32) (S : St) (k4 : Int32 → Int32 → Option (Int32)) (v1 : Int32) (v2 : Int32) : Option (Int32) :=
  if ((S.1 0 3) + (S.1 0 4)) ≤ v2 then
    some (v1 - 2)
  else
    jp (j_X11_namesSize_39 v2 k4) fun k39 =>
    if ((p0 >>> (v2 &&& 31)) &&& 1) = 1 then
      ck v2 24 <|
      k39 v1 ((S.1 3 v2.toNatClampNeg) + 2)
    else
      k39 v1 0
def f_X11_namesSize (N : Nat) (p0 : Int32) (S : St) : Option (Int32) :=
  jp (lp (fun _ _ => none) (b_X11_namesSize_4 p0 S) N) fun k4 =>
  k4 0 0
abbrev rmX11_namesSize : Room := { frames := 0, cells := 0, slots := 0, locals := 0 }
set_option maxRecDepth 100000 in
set_option maxHeartbeats 4000000 in
theorem c_X11_namesSize (l : Launch) (D : va_G) (cs : Nat → ClassId) (a : Nat → Nat) (N : Nat) (p0 : Int32) (S : St) (rz : Int32) (hf : f_X11_namesSize N p0 S = some rz) : gMi l yX11_namesSize wsX11_namesSize rmX11_namesSize D cs [.ref (a 0), .int p0] (mcells cs a S) rz (mcells cs a S) := by
  unfold f_X11_namesSize at hf
  refine gE_i (cc := cX11_namesSize) (maxL := 4) (by decide) rfl (Nat.le_of_ble_eq_true rfl) ?_
  intro p e s m args below meth c A Q hC hA hQ hM ls hl
  obtain ⟨hx, hb, hml, hown, hts⟩ := hC.1
  have hl : lv_has ls 4 [(0, .ref (a 0)), (1, .int p0)] := hl
  refine lv_iconst (v := 0) hx hb dX11_namesSize_0 (by decide) ?_
  refine lv_istore_n (lv' := [(2, .int 0), (0, .ref (a 0)), (1, .int p0)]) hx hb dX11_namesSize_1 rfl hl (by decide) rfl (fun ls hl => ?_)
  refine lv_iconst (v := 0) hx hb dX11_namesSize_2 (by decide) ?_
  refine lv_istore_n (lv' := [(3, .int 0), (2, .int 0), (0, .ref (a 0)), (1, .int p0)]) hx hb dX11_namesSize_3 rfl hl (by decide) rfl (fun ls hl => ?_)
  refine jl_W (fun k4 : Int32 → Int32 → Option (Int32) => ∀ (v1 : Int32) (v2 : Int32), k4 v1 v2 = some rz → ∀ (H : Heap) (locs : List Loc) (ls : Array Slot), gw D A s.heap H locs (mcells cs a S) → lv_has ls 4 [(0, .ref (a 0)), (1, .int p0), (2, .int v1), (3, .int v2)] → W p l e rmX11_namesSize s m args below meth c H locs 0 0 Q (F0 m 4 ls [])) ?_ ?_ ?_ hf
  · intro v1 v2 h; cases h
  · intro k4 hk4 v1 v2 hf H locs ls hM hl
    unfold b_X11_namesSize_4 at hf
    refine lv_iload_n hx hb dX11_namesSize_4 rfl (lv_at hl 3 rfl) ?_
    refine lv_aload_n hx hb dX11_namesSize_5 rfl (lv_at hl 0 rfl) ?_
    refine g_get hC hM inX11_namesSize_X11 0 mE0 clX11 3 (by decide) tX11_namesSize_1 TX11_3 mV0_3 dX11_namesSize_6 ?_
    refine lv_aload_n hx hb dX11_namesSize_9 rfl (lv_at hl 0 rfl) ?_
    refine g_get hC hM inX11_namesSize_X11 0 mE0 clX11 4 (by decide) tX11_namesSize_2 TX11_4 mV0_4 dX11_namesSize_10 ?_
    refine lv_iadd hx hb dX11_namesSize_13 ?_
    refine lv_icmp_ge (tgt := 47) hx hb dX11_namesSize_14 (by decide) (fun c3 => ?_) (fun c3 => ?_)
    · replace hf := it_t c3 hf
      refine lv_iload_n hx hb dX11_namesSize_47 rfl (lv_at hl 2 rfl) ?_
      refine lv_iconst (v := 2) hx hb dX11_namesSize_48 (by decide) ?_
      refine lv_isub hx hb dX11_namesSize_49 ?_
      cases so_1 hf
      exact hQ _ _ _ _ _ _ dX11_namesSize_50 hM (by decide) (by decide)
    · replace hf := it_f c3 hf
      refine lv_iload_n hx hb dX11_namesSize_17 rfl (lv_at hl 2 rfl) ?_
      refine lv_iload_n hx hb dX11_namesSize_18 rfl (lv_at hl 1 rfl) ?_
      refine lv_iload_n hx hb dX11_namesSize_19 rfl (lv_at hl 3 rfl) ?_
      refine lv_ishr hx hb dX11_namesSize_20 ?_
      refine lv_iconst (v := 1) hx hb dX11_namesSize_21 (by decide) ?_
      refine lv_iand hx hb dX11_namesSize_22 ?_
      refine lv_iconst (v := 1) hx hb dX11_namesSize_23 (by decide) ?_
      refine jp_W (fun k39 : Int32 → Int32 → Option (Int32) => ∀ (v4 : Int32) (v5 : Int32), k39 v4 v5 = some rz → ∀ (H : Heap) (locs : List Loc) (ls : Array Slot), gw D A s.heap H locs (mcells cs a S) → lv_has ls 4 [(0, .ref (a 0)), (1, .int p0), (3, .int v2)] → W p l e rmX11_namesSize s m args below meth c H locs 0 0 Q (F0 m 39 ls [.int v5, .int v4])) ?_ ?_ hf
      · intro v4 v5 hf H locs ls hM hl
        unfold j_X11_namesSize_39 at hf
        refine lv_iadd hx hb dX11_namesSize_39 ?_
        refine lv_topi (fun v6 ev6 => ?_)
        replace hf := nm_q ev6 hf
        refine lv_istore_n (lv' := [(2, .int v6), (0, .ref (a 0)), (1, .int p0), (3, .int v2)]) hx hb dX11_namesSize_40 rfl hl (by decide) rfl (fun ls hl => ?_)
        obtain ⟨v7, ev7⟩ : ∃ y : Int32, y = v2 + 1 := ⟨_, rfl⟩
        replace hf := nm_q ev7 hf
        refine lv_iinc (v := v7) (lv' := [(3, .int v7), (2, .int v6), (0, .ref (a 0)), (1, .int p0)]) hx hb dX11_namesSize_41 hl (k := 3) rfl (by rw [ev7]; rfl) (by decide) rfl (fun ls hl => ?_)
        refine lv_goto (tgt := 4) hx hb dX11_namesSize_44 (by decide) ?_
        exact hk4 _ _ hf _ _ _ hM (lv_sub hl [2, 3, 1, 0] rfl)
      · intro k39 hk39 hf
        refine lv_icmp_ne (tgt := 38) hx hb dX11_namesSize_24 (by decide) (fun c8 => ?_) (fun c8 => ?_)
        · replace hf := it_f c8 hf
          refine lv_iconst (v := 0) hx hb dX11_namesSize_38 (by decide) ?_
          exact hk39 _ _ hf _ _ _ hM (lv_sub hl [0, 1, 3] rfl)
        · replace hf := it_t c8 hf
          refine lv_aload_n hx hb dX11_namesSize_27 rfl (lv_at hl 0 rfl) ?_
          refine g_get hC hM inX11_namesSize_X11 0 mE0 clX11 6 (by decide) tX11_namesSize_3 TX11_6 mV0_6 dX11_namesSize_28 ?_
          refine lv_iload_n hx hb dX11_namesSize_31 rfl (lv_at hl 3 rfl) ?_
          obtain ⟨h9, hf⟩ := ck_s hf
          refine g_iald hC hM 3 mE3 h9 dX11_namesSize_32 ?_
          refine lv_iconst (v := 2) hx hb dX11_namesSize_33 (by decide) ?_
          refine lv_iadd hx hb dX11_namesSize_34 ?_
          refine lv_goto (tgt := 39) hx hb dX11_namesSize_35 (by decide) ?_
          exact hk39 _ _ hf _ _ _ hM (lv_sub hl [0, 1, 3] rfl)
  · intro k4 hk4 hf
    exact hk4 _ _ hf _ _ _ hM (lv_sub hl [2, 3, 1, 0] rfl)

theorem hd_X11_clauseSize : yX11_clauseSize.cls = RX11 ∧ yX11_clauseSize.cls ≠ "java/lang/invoke/MethodHandle" ∧ yX11_clauseSize.cls ≠ "java/lang/invoke/VarHandle" ∧ (parseMethodDescriptor yX11_clauseSize.desc).map (fun d => d.parameters.length) = some 4 := by decide +kernel
theorem tX11_clauseSize_1 : Cond.fieldLink RX11 48 "WeatherTellerModel" "groupNames" "[I" ∈ wsX11_clauseSize := List.mem_of_getElem? (i := 1) rfl
theorem inX11_clauseSize_X11 : ∀ w ∈ u_ws RX11 TX11 50, w ∈ wsX11_clauseSize := fun _ h => List.mem_cons_of_mem _ (List.mem_append_right _ h)
theorem tX11_clauseSize_2 : Cond.fieldLink RX11 51 "WeatherTellerModel" "groupOut" "[I" ∈ wsX11_clauseSize := List.mem_of_getElem? (i := 2) rfl
theorem tX11_clauseSize_3 : Cond.fieldLink RX11 41 "WeatherTellerModel" "bSize" "[I" ∈ wsX11_clauseSize := List.mem_of_getElem? (i := 3) rfl
def j_X11_clauseSize_41 (N : Nat) (p0 : Int32) (p1 : Int32) (p2 : Int32) (S : St) (v4 : Int32) : Option (Int32) :=
  ck p0 48 <|
  bd (f_X11_digits N p1) fun v6 =>
  bd (f_X11_digits N p2) fun v7 =>
  some (((((((v4 + 2) + (S.1 11 p0.toNatClampNeg)) + 1) + v6) + 1) + v7) + 1)
def f_X11_clauseSize (N : Nat) (p0 : Int32) (p1 : Int32) (p2 : Int32) (p3 : Int32) (S : St) : Option (Int32) :=
  ck p3 64 <|
  bd (f_X11_namesSize N (S.1 12 p3.toNatClampNeg) S) fun v2 =>
  ck p3 64 <|
  jp (j_X11_clauseSize_41 N p0 p1 p2 S) fun k41 =>
  if (S.1 13 p3.toNatClampNeg) = 0 then
    k41 v2
  else
    ck p3 64 <|
    bd (f_X11_namesSize N (S.1 13 p3.toNatClampNeg) S) fun v10 =>
    nm (v2 + (5 + v10)) fun v11 =>
    k41 v11
abbrev rmX11_clauseSize : Room := { frames := 1, cells := 0, slots := 0, locals := 23 }
set_option maxRecDepth 100000 in
set_option maxHeartbeats 4000000 in
theorem c_X11_clauseSize (l : Launch) (D : va_G) (cs : Nat → ClassId) (a : Nat → Nat) (N : Nat) (p0 : Int32) (p1 : Int32) (p2 : Int32) (p3 : Int32) (S : St) (rz : Int32) (hf : f_X11_clauseSize N p0 p1 p2 p3 S = some rz) : gMi l yX11_clauseSize wsX11_clauseSize rmX11_clauseSize D cs [.ref (a 0), .int p0, .int p1, .int p2, .int p3] (mcells cs a S) rz (mcells cs a S) := by
  unfold f_X11_clauseSize at hf
  refine gE_i (cc := cX11_clauseSize) (maxL := 6) (by decide) rfl (Nat.le_of_ble_eq_true rfl) ?_
  intro p e s m args below meth c A Q hC hA hQ hM ls hl
  obtain ⟨hx, hb, hml, hown, hts⟩ := hC.1
  have hl : lv_has ls 6 [(0, .ref (a 0)), (1, .int p0), (2, .int p1), (3, .int p2), (4, .int p3)] := hl
  refine lv_aload_n hx hb dX11_clauseSize_0 rfl (lv_at hl 0 rfl) ?_
  refine lv_aload_n hx hb dX11_clauseSize_1 rfl (lv_at hl 0 rfl) ?_
  refine g_get hC hM inX11_clauseSize_X11 0 mE0 clX11 18 (by decide) tX11_clauseSize_1 TX11_18 mV0_18 dX11_clauseSize_2 ?_
  refine lv_iload hx hb dX11_clauseSize_5 (lv_at hl 4 rfl) ?_
  obtain ⟨h1, hf⟩ := ck_s hf
  refine g_iald hC hM 12 mE12 h1 dX11_clauseSize_7 ?_
  obtain ⟨v2, hc, hf⟩ := bd_s hf
  refine gV_i hC hM hA hl.1 [.int (S.1 12 p3.toNatClampNeg)] [] (c_X11_namesSize l D cs a N (S.1 12 p3.toNatClampNeg) S v2 hc) gX11_clauseSize_X11_namesSize rfl hd_X11_namesSize ⟨by decide, by decide⟩ 0 11 clX11 rfl mE0 (Nat.le_of_ble_eq_true rfl) dX11_clauseSize_8 rfl ⟨by decide, by decide⟩ (fun H locs hM => ?_)
  refine lv_istore (lv' := [(5, .int v2), (0, .ref (a 0)), (1, .int p0), (2, .int p1), (3, .int p2), (4, .int p3)]) hx hb dX11_clauseSize_11 hl (by decide) rfl (fun ls hl => ?_)
  refine lv_aload_n hx hb dX11_clauseSize_13 rfl (lv_at hl 1 rfl) ?_
  refine g_get hC hM inX11_clauseSize_X11 0 mE0 clX11 19 (by decide) tX11_clauseSize_2 TX11_19 mV0_19 dX11_clauseSize_14 ?_
  refine lv_iload hx hb dX11_clauseSize_17 (lv_at hl 5 rfl) ?_
  obtain ⟨h3, hf⟩ := ck_s hf
  refine g_iald hC hM 13 mE13 h3 dX11_clauseSize_19 ?_
  refine jp_W (fun k41 : Int32 → Option (Int32) => ∀ (v4 : Int32), k41 v4 = some rz → ∀ (H : Heap) (locs : List Loc) (ls : Array Slot), gw D A s.heap H locs (mcells cs a S) → lv_has ls 6 [(0, .ref (a 0)), (1, .int p0), (2, .int p1), (3, .int p2), (5, .int v4)] → W p l e rmX11_clauseSize s m args below meth c H locs 0 0 Q (F0 m 41 ls [])) ?_ ?_ hf
  · intro v4 hf H locs ls hM hl
    unfold j_X11_clauseSize_41 at hf
    refine lv_iload hx hb dX11_clauseSize_41 (lv_at hl 4 rfl) ?_
    refine lv_iconst (v := 2) hx hb dX11_clauseSize_43 (by decide) ?_
    refine lv_iadd hx hb dX11_clauseSize_44 ?_
    refine lv_aload_n hx hb dX11_clauseSize_45 rfl (lv_at hl 0 rfl) ?_
    refine g_get hC hM inX11_clauseSize_X11 0 mE0 clX11 15 (by decide) tX11_clauseSize_3 TX11_15 mV0_15 dX11_clauseSize_46 ?_
    refine lv_iload_n hx hb dX11_clauseSize_49 rfl (lv_at hl 1 rfl) ?_
    obtain ⟨h5, hf⟩ := ck_s hf
    refine g_iald hC hM 11 mE11 h5 dX11_clauseSize_50 ?_
    refine lv_iadd hx hb dX11_clauseSize_51 ?_
    refine lv_iconst (v := 1) hx hb dX11_clauseSize_52 (by decide) ?_
    refine lv_iadd hx hb dX11_clauseSize_53 ?_
    refine lv_iload_n hx hb dX11_clauseSize_54 rfl (lv_at hl 2 rfl) ?_
    obtain ⟨v6, hc, hf⟩ := bd_s hf
    refine gS_i hC hM hA hl.1 [.int p1] [.int (((v4 + 2) + (S.1 11 p0.toNatClampNeg)) + 1)] (c_X11_digits l D cs (mcells cs a S) N p1 v6 hc) gX11_clauseSize_X11_digits rfl hd_X11_digits ⟨by decide, by decide⟩ (Nat.le_of_ble_eq_true rfl) dX11_clauseSize_55 rfl ⟨by decide, by decide⟩ (fun H locs hM => ?_)
    refine lv_iadd hx hb dX11_clauseSize_58 ?_
    refine lv_iconst (v := 1) hx hb dX11_clauseSize_59 (by decide) ?_
    refine lv_iadd hx hb dX11_clauseSize_60 ?_
    refine lv_iload_n hx hb dX11_clauseSize_61 rfl (lv_at hl 3 rfl) ?_
    obtain ⟨v7, hc, hf⟩ := bd_s hf
    refine gS_i hC hM hA hl.1 [.int p2] [.int (((((v4 + 2) + (S.1 11 p0.toNatClampNeg)) + 1) + v6) + 1)] (c_X11_digits l D cs (mcells cs a S) N p2 v7 hc) gX11_clauseSize_X11_digits rfl hd_X11_digits ⟨by decide, by decide⟩ (Nat.le_of_ble_eq_true rfl) dX11_clauseSize_62 rfl ⟨by decide, by decide⟩ (fun H locs hM => ?_)
    refine lv_iadd hx hb dX11_clauseSize_65 ?_
    refine lv_iconst (v := 1) hx hb dX11_clauseSize_66 (by decide) ?_
    refine lv_iadd hx hb dX11_clauseSize_67 ?_
    cases so_1 hf
    exact hQ _ _ _ _ _ _ dX11_clauseSize_68 hM (by decide) (by decide)
  · intro k41 hk41 hf
    refine lv_if_eq (tgt := 41) hx hb dX11_clauseSize_20 (by decide) (fun c8 => ?_) (fun c8 => ?_)
    · replace hf := it_t c8 hf
      exact hk41 _ hf _ _ _ hM (lv_sub hl [1, 2, 3, 4, 0] rfl)
    · replace hf := it_f c8 hf
      refine lv_iload hx hb dX11_clauseSize_23 (lv_at hl 0 rfl) ?_
      refine lv_iconst (v := 5) hx hb dX11_clauseSize_25 (by decide) ?_
      refine lv_aload_n hx hb dX11_clauseSize_26 rfl (lv_at hl 1 rfl) ?_
      refine lv_aload_n hx hb dX11_clauseSize_27 rfl (lv_at hl 1 rfl) ?_
      refine g_get hC hM inX11_clauseSize_X11 0 mE0 clX11 19 (by decide) tX11_clauseSize_2 TX11_19 mV0_19 dX11_clauseSize_28 ?_
      refine lv_iload hx hb dX11_clauseSize_31 (lv_at hl 5 rfl) ?_
      obtain ⟨h9, hf⟩ := ck_s hf
      refine g_iald hC hM 13 mE13 h9 dX11_clauseSize_33 ?_
      obtain ⟨v10, hc, hf⟩ := bd_s hf
      refine gV_i hC hM hA hl.1 [.int (S.1 13 p3.toNatClampNeg)] [.int 5, .int v2] (c_X11_namesSize l D cs a N (S.1 13 p3.toNatClampNeg) S v10 hc) gX11_clauseSize_X11_namesSize rfl hd_X11_namesSize ⟨by decide, by decide⟩ 0 11 clX11 rfl mE0 (Nat.le_of_ble_eq_true rfl) dX11_clauseSize_34 rfl ⟨by decide, by decide⟩ (fun H locs hM => ?_)
      refine lv_iadd hx hb dX11_clauseSize_37 ?_
      refine lv_iadd hx hb dX11_clauseSize_38 ?_
      refine lv_topi (fun v11 ev11 => ?_)
      replace hf := nm_q ev11 hf
      refine lv_istore (lv' := [(5, .int v11), (0, .ref (a 0)), (1, .int p0), (2, .int p1), (3, .int p2), (4, .int p3)]) hx hb dX11_clauseSize_39 hl (by decide) rfl (fun ls hl => ?_)
      exact hk41 _ hf _ _ _ hM (lv_sub hl [1, 2, 3, 4, 0] rfl)

theorem hd_X11_nameSign : yX11_nameSign.cls = RX11 ∧ yX11_nameSign.cls ≠ "java/lang/invoke/MethodHandle" ∧ yX11_nameSign.cls ≠ "java/lang/invoke/VarHandle" ∧ (parseMethodDescriptor yX11_nameSign.desc).map (fun d => d.parameters.length) = some 2 := by decide +kernel
theorem tX11_nameSign_4 : Cond.fieldLink RX11 13 "WeatherTellerModel" "letters" "[I" ∈ wsX11_nameSign := List.mem_of_getElem? (i := 4) rfl
theorem inX11_nameSign_X11 : ∀ w ∈ u_ws RX11 TX11 50, w ∈ wsX11_nameSign := fun _ h => List.mem_cons_of_mem _ (List.mem_append_right _ h)
theorem tX11_nameSign_1 : Cond.fieldLink RX11 180 "WeatherTellerModel" "places" "I" ∈ wsX11_nameSign := List.mem_of_getElem? (i := 1) rfl
theorem tX11_nameSign_2 : Cond.fieldLink RX11 183 "WeatherTellerModel" "regions" "I" ∈ wsX11_nameSign := List.mem_of_getElem? (i := 2) rfl
theorem tX11_nameSign_3 : Cond.fieldLink RX11 16 "WeatherTellerModel" "sizes" "[I" ∈ wsX11_nameSign := List.mem_of_getElem? (i := 3) rfl
def j_X11_nameSign_44 (v1 : Int32) : Option (Int32) :=
  if v1 = 0 then
    some 44
  else
    some 32
def j_X11_nameSign_73 (S : St) (v3 : Int32) (v4 : Int32) : Option (Int32) :=
  ck ((12 * v4) + v3) 288 <|
  some (S.1 2 ((12 * v4) + v3).toNatClampNeg)
def j_X11_nameSign_96 (v8 : Int32) (k8 : Int32 → Int32 → Int32 → Option (Int32)) (v10 : Int32) (v11 : Int32) : Option (Int32) :=
  nm (v8 + 1) fun v12 =>
  k8 v10 v11 v12
def j_X11_nameSign_59 (S : St) (k73 : Int32 → Int32 → Option (Int32)) (v8 : Int32) (k96 : Int32 → Int32 → Option (Int32)) (v14 : Int32) : Option (Int32) :=
  ck v8 24 <|
  if (S.1 3 v8.toNatClampNeg) ≤ v14 then
    ck v8 24 <|
    nm (v14 - (S.1 3 v8.toNatClampNeg)) fun v18 =>
    k96 v18 0
  else
    k73 v14 v8
def b_X11_nameSign_8 (p0 : Int32) (S : St) (k44 : Int32 → Option (Int32)) (k73 : Int32 → Int32 → Option (Int32)) (k8 : Int32 → Int32 → Int32 → Option (Int32)) (v6 : Int32) (v7 : Int32) (v8 : Int32) : Option (Int32) :=
  if ((S.1 0 3) + (S.1 0 4)) ≤ v8 then
    some ((-2) - v6)
  else
    jp (j_X11_nameSign_96 v8 k8) fun k96 =>
    if ((p0 >>> (v8 &&& 31)) &&& 1) = 0 then
      k96 v6 v7
    else
      jp (j_X11_nameSign_59 S k73 v8 k96) fun k59 =>
      if v7 = 0 then
        if 2 ≤ v6 then
          nm (v6 + (-2)) fun v21 =>
          k59 v21
        else
          k44 v6
      else
        k59 v6
def f_X11_nameSign (N : Nat) (p0 : Int32) (p1 : Int32) (S : St) : Option (Int32) :=
  jp (j_X11_nameSign_44) fun k44 =>
  jp (j_X11_nameSign_73 S) fun k73 =>
  jp (lp (fun _ _ _ => none) (b_X11_nameSign_8 p0 S k44 k73) N) fun k8 =>
  k8 p1 1 0
abbrev rmX11_nameSign : Room := { frames := 0, cells := 0, slots := 0, locals := 0 }
set_option maxRecDepth 100000 in
set_option maxHeartbeats 4000000 in
theorem c_X11_nameSign (l : Launch) (D : va_G) (cs : Nat → ClassId) (a : Nat → Nat) (N : Nat) (p0 : Int32) (p1 : Int32) (S : St) (rz : Int32) (hf : f_X11_nameSign N p0 p1 S = some rz) : gMi l yX11_nameSign wsX11_nameSign rmX11_nameSign D cs [.ref (a 0), .int p0, .int p1] (mcells cs a S) rz (mcells cs a S) := by
  unfold f_X11_nameSign at hf
  refine gE_i (cc := cX11_nameSign) (maxL := 6) (by decide) rfl (Nat.le_of_ble_eq_true rfl) ?_
  intro p e s m args below meth c A Q hC hA hQ hM ls hl
  obtain ⟨hx, hb, hml, hown, hts⟩ := hC.1
  have hl : lv_has ls 6 [(0, .ref (a 0)), (1, .int p0), (2, .int p1)] := hl
  refine lv_iload_n hx hb dX11_nameSign_0 rfl (lv_at hl 2 rfl) ?_
  refine lv_istore_n (lv' := [(3, .int p1), (0, .ref (a 0)), (1, .int p0), (2, .int p1)]) hx hb dX11_nameSign_1 rfl hl (by decide) rfl (fun ls hl => ?_)
  refine lv_iconst (v := 1) hx hb dX11_nameSign_2 (by decide) ?_
  refine lv_istore (lv' := [(4, .int 1), (3, .int p1), (0, .ref (a 0)), (1, .int p0), (2, .int p1)]) hx hb dX11_nameSign_3 hl (by decide) rfl (fun ls hl => ?_)
  refine lv_iconst (v := 0) hx hb dX11_nameSign_5 (by decide) ?_
  refine lv_istore (lv' := [(5, .int 0), (4, .int 1), (3, .int p1), (0, .ref (a 0)), (1, .int p0), (2, .int p1)]) hx hb dX11_nameSign_6 hl (by decide) rfl (fun ls hl => ?_)
  refine jp_W (fun k44 : Int32 → Option (Int32) => ∀ (v1 : Int32), k44 v1 = some rz → ∀ (H : Heap) (locs : List Loc) (ls : Array Slot), gw D A s.heap H locs (mcells cs a S) → lv_has ls 6 [(3, .int v1)] → W p l e rmX11_nameSign s m args below meth c H locs 0 0 Q (F0 m 44 ls [])) ?_ ?_ hf
  · intro v1 hf H locs ls hM hl
    unfold j_X11_nameSign_44 at hf
    refine lv_iload_n hx hb dX11_nameSign_44 rfl (lv_at hl 0 rfl) ?_
    refine lv_if_ne (tgt := 53) hx hb dX11_nameSign_45 (by decide) (fun c2 => ?_) (fun c2 => ?_)
    · replace hf := it_f c2 hf
      refine lv_bipush (v := 32) hx hb dX11_nameSign_53 (by decide) ?_
      cases so_1 hf
      exact hQ _ _ _ _ _ _ dX11_nameSign_55 hM (by decide) (by decide)
    · replace hf := it_t c2 hf
      refine lv_bipush (v := 44) hx hb dX11_nameSign_48 (by decide) ?_
      refine lv_goto (tgt := 55) hx hb dX11_nameSign_50 (by decide) ?_
      cases so_1 hf
      exact hQ _ _ _ _ _ _ dX11_nameSign_55 hM (by decide) (by decide)
  · intro k44 hk44 hf
    refine jp_W (fun k73 : Int32 → Int32 → Option (Int32) => ∀ (v3 : Int32) (v4 : Int32), k73 v3 v4 = some rz → ∀ (H : Heap) (locs : List Loc) (ls : Array Slot), gw D A s.heap H locs (mcells cs a S) → lv_has ls 6 [(0, .ref (a 0)), (3, .int v3), (5, .int v4)] → W p l e rmX11_nameSign s m args below meth c H locs 0 0 Q (F0 m 73 ls [])) ?_ ?_ hf
    · intro v3 v4 hf H locs ls hM hl
      unfold j_X11_nameSign_73 at hf
      refine lv_aload_n hx hb dX11_nameSign_73 rfl (lv_at hl 0 rfl) ?_
      refine g_get hC hM inX11_nameSign_X11 0 mE0 clX11 5 (by decide) tX11_nameSign_4 TX11_5 mV0_5 dX11_nameSign_74 ?_
      refine lv_bipush (v := 12) hx hb dX11_nameSign_77 (by decide) ?_
      refine lv_iload hx hb dX11_nameSign_79 (lv_at hl 2 rfl) ?_
      refine lv_imul hx hb dX11_nameSign_81 ?_
      refine lv_iload_n hx hb dX11_nameSign_82 rfl (lv_at hl 1 rfl) ?_
      refine lv_iadd hx hb dX11_nameSign_83 ?_
      obtain ⟨h5, hf⟩ := ck_s hf
      refine g_iald hC hM 2 mE2 h5 dX11_nameSign_84 ?_
      cases so_1 hf
      exact hQ _ _ _ _ _ _ dX11_nameSign_85 hM (by decide) (by decide)
    · intro k73 hk73 hf
      refine jl_W (fun k8 : Int32 → Int32 → Int32 → Option (Int32) => ∀ (v6 : Int32) (v7 : Int32) (v8 : Int32), k8 v6 v7 v8 = some rz → ∀ (H : Heap) (locs : List Loc) (ls : Array Slot), gw D A s.heap H locs (mcells cs a S) → lv_has ls 6 [(0, .ref (a 0)), (1, .int p0), (3, .int v6), (4, .int v7), (5, .int v8)] → W p l e rmX11_nameSign s m args below meth c H locs 0 0 Q (F0 m 8 ls [])) ?_ ?_ ?_ hf
      · intro v6 v7 v8 h; cases h
      · intro k8 hk8 v6 v7 v8 hf H locs ls hM hl
        unfold b_X11_nameSign_8 at hf
        refine lv_iload hx hb dX11_nameSign_8 (lv_at hl 4 rfl) ?_
        refine lv_aload_n hx hb dX11_nameSign_10 rfl (lv_at hl 0 rfl) ?_
        refine g_get hC hM inX11_nameSign_X11 0 mE0 clX11 3 (by decide) tX11_nameSign_1 TX11_3 mV0_3 dX11_nameSign_11 ?_
        refine lv_aload_n hx hb dX11_nameSign_14 rfl (lv_at hl 0 rfl) ?_
        refine g_get hC hM inX11_nameSign_X11 0 mE0 clX11 4 (by decide) tX11_nameSign_2 TX11_4 mV0_4 dX11_nameSign_15 ?_
        refine lv_iadd hx hb dX11_nameSign_18 ?_
        refine lv_icmp_ge (tgt := 102) hx hb dX11_nameSign_19 (by decide) (fun c9 => ?_) (fun c9 => ?_)
        · replace hf := it_t c9 hf
          refine lv_bipush (v := (-2)) hx hb dX11_nameSign_102 (by decide) ?_
          refine lv_iload_n hx hb dX11_nameSign_104 rfl (lv_at hl 2 rfl) ?_
          refine lv_isub hx hb dX11_nameSign_105 ?_
          cases so_1 hf
          exact hQ _ _ _ _ _ _ dX11_nameSign_106 hM (by decide) (by decide)
        · replace hf := it_f c9 hf
          refine lv_iload_n hx hb dX11_nameSign_22 rfl (lv_at hl 1 rfl) ?_
          refine lv_iload hx hb dX11_nameSign_23 (lv_at hl 4 rfl) ?_
          refine lv_ishr hx hb dX11_nameSign_25 ?_
          refine lv_iconst (v := 1) hx hb dX11_nameSign_26 (by decide) ?_
          refine lv_iand hx hb dX11_nameSign_27 ?_
          refine jp_W (fun k96 : Int32 → Int32 → Option (Int32) => ∀ (v10 : Int32) (v11 : Int32), k96 v10 v11 = some rz → ∀ (H : Heap) (locs : List Loc) (ls : Array Slot), gw D A s.heap H locs (mcells cs a S) → lv_has ls 6 [(0, .ref (a 0)), (1, .int p0), (3, .int v10), (4, .int v11), (5, .int v8)] → W p l e rmX11_nameSign s m args below meth c H locs 0 0 Q (F0 m 96 ls [])) ?_ ?_ hf
          · intro v10 v11 hf H locs ls hM hl
            unfold j_X11_nameSign_96 at hf
            obtain ⟨v12, ev12⟩ : ∃ y : Int32, y = v8 + 1 := ⟨_, rfl⟩
            replace hf := nm_q ev12 hf
            refine lv_iinc (v := v12) (lv' := [(5, .int v12), (0, .ref (a 0)), (1, .int p0), (3, .int v10), (4, .int v11)]) hx hb dX11_nameSign_96 hl (k := 4) rfl (by rw [ev12]; rfl) (by decide) rfl (fun ls hl => ?_)
            refine lv_goto (tgt := 8) hx hb dX11_nameSign_99 (by decide) ?_
            exact hk8 _ _ _ hf _ _ _ hM (lv_sub hl [1, 2, 3, 4, 0] rfl)
          · intro k96 hk96 hf
            refine lv_if_ne (tgt := 34) hx hb dX11_nameSign_28 (by decide) (fun c13 => ?_) (fun c13 => ?_)
            · replace hf := it_f c13 hf
              refine lv_iload hx hb dX11_nameSign_34 (lv_at hl 3 rfl) ?_
              refine jp_W (fun k59 : Int32 → Option (Int32) => ∀ (v14 : Int32), k59 v14 = some rz → ∀ (H : Heap) (locs : List Loc) (ls : Array Slot), gw D A s.heap H locs (mcells cs a S) → lv_has ls 6 [(0, .ref (a 0)), (1, .int p0), (3, .int v14), (5, .int v8)] → W p l e rmX11_nameSign s m args below meth c H locs 0 0 Q (F0 m 59 ls [])) ?_ ?_ hf
              · intro v14 hf H locs ls hM hl
                unfold j_X11_nameSign_59 at hf
                refine lv_iconst (v := 0) hx hb dX11_nameSign_59 (by decide) ?_
                refine lv_istore (lv' := [(4, .int 0), (0, .ref (a 0)), (1, .int p0), (3, .int v14), (5, .int v8)]) hx hb dX11_nameSign_60 hl (by decide) rfl (fun ls hl => ?_)
                refine lv_iload_n hx hb dX11_nameSign_62 rfl (lv_at hl 3 rfl) ?_
                refine lv_aload_n hx hb dX11_nameSign_63 rfl (lv_at hl 1 rfl) ?_
                refine g_get hC hM inX11_nameSign_X11 0 mE0 clX11 6 (by decide) tX11_nameSign_3 TX11_6 mV0_6 dX11_nameSign_64 ?_
                refine lv_iload hx hb dX11_nameSign_67 (lv_at hl 4 rfl) ?_
                obtain ⟨h15, hf⟩ := ck_s hf
                refine g_iald hC hM 3 mE3 h15 dX11_nameSign_69 ?_
                refine lv_icmp_ge (tgt := 86) hx hb dX11_nameSign_70 (by decide) (fun c16 => ?_) (fun c16 => ?_)
                · replace hf := it_t c16 hf
                  refine lv_iload_n hx hb dX11_nameSign_86 rfl (lv_at hl 3 rfl) ?_
                  refine lv_aload_n hx hb dX11_nameSign_87 rfl (lv_at hl 1 rfl) ?_
                  refine g_get hC hM inX11_nameSign_X11 0 mE0 clX11 6 (by decide) tX11_nameSign_3 TX11_6 mV0_6 dX11_nameSign_88 ?_
                  refine lv_iload hx hb dX11_nameSign_91 (lv_at hl 4 rfl) ?_
                  obtain ⟨h17, hf⟩ := ck_s hf
                  refine g_iald hC hM 3 mE3 h17 dX11_nameSign_93 ?_
                  refine lv_isub hx hb dX11_nameSign_94 ?_
                  refine lv_topi (fun v18 ev18 => ?_)
                  replace hf := nm_q ev18 hf
                  refine lv_istore_n (lv' := [(3, .int v18), (4, .int 0), (0, .ref (a 0)), (1, .int p0), (5, .int v8)]) hx hb dX11_nameSign_95 rfl hl (by decide) rfl (fun ls hl => ?_)
                  exact hk96 _ _ hf _ _ _ hM (lv_sub hl [2, 3, 0, 1, 4] rfl)
                · replace hf := it_f c16 hf
                  exact hk73 _ _ hf _ _ _ hM (lv_sub hl [1, 3, 4] rfl)
              · intro k59 hk59 hf
                refine lv_if_ne (tgt := 59) hx hb dX11_nameSign_36 (by decide) (fun c19 => ?_) (fun c19 => ?_)
                · replace hf := it_f c19 hf
                  exact hk59 _ hf _ _ _ hM (lv_sub hl [0, 1, 2, 4] rfl)
                · replace hf := it_t c19 hf
                  refine lv_iload_n hx hb dX11_nameSign_39 rfl (lv_at hl 2 rfl) ?_
                  refine lv_iconst (v := 2) hx hb dX11_nameSign_40 (by decide) ?_
                  refine lv_icmp_ge (tgt := 56) hx hb dX11_nameSign_41 (by decide) (fun c20 => ?_) (fun c20 => ?_)
                  · replace hf := it_t c20 hf
                    obtain ⟨v21, ev21⟩ : ∃ y : Int32, y = v6 + (-2) := ⟨_, rfl⟩
                    replace hf := nm_q ev21 hf
                    refine lv_iinc (v := v21) (lv' := [(3, .int v21), (0, .ref (a 0)), (1, .int p0), (4, .int v7), (5, .int v8)]) hx hb dX11_nameSign_56 hl (k := 2) rfl (by rw [ev21]; rfl) (by decide) rfl (fun ls hl => ?_)
                    exact hk59 _ hf _ _ _ hM (lv_sub hl [1, 2, 0, 4] rfl)
                  · replace hf := it_f c20 hf
                    exact hk44 _ hf _ _ _ hM (lv_sub hl [2] rfl)
            · replace hf := it_t c13 hf
              refine lv_goto (tgt := 96) hx hb dX11_nameSign_31 (by decide) ?_
              exact hk96 _ _ hf _ _ _ hM hl
      · intro k8 hk8 hf
        exact hk8 _ _ _ hf _ _ _ hM (lv_sub hl [3, 4, 2, 1, 0] rfl)

theorem hd_X11_digit : yX11_digit.cls ≠ "java/lang/invoke/MethodHandle" ∧ yX11_digit.cls ≠ "java/lang/invoke/VarHandle" ∧ (parseMethodDescriptor yX11_digit.desc).map (fun d => d.parameters.length) = some 2 := by decide +kernel
def f_X11_digit (N : Nat) (p0 : Int32) (p1 : Int32) : Option (Int32) :=
  if 10 ≤ p0 then
    if p1 = 0 then
      some (48 + (p0 / 10))
    else
      some (48 + (p0 - p0 / 10 * 10))
  else
    some (48 + p0)
abbrev rmX11_digit : Room := { frames := 0, cells := 0, slots := 0, locals := 0 }
set_option maxRecDepth 100000 in
set_option maxHeartbeats 4000000 in
theorem c_X11_digit (l : Launch) (D : va_G) (cs : Nat → ClassId) (w : va_W) (N : Nat) (p0 : Int32) (p1 : Int32) (rz : Int32) (hf : f_X11_digit N p0 p1 = some rz) : gMi l yX11_digit wsX11_digit rmX11_digit D cs [.int p0, .int p1] w rz w := by
  unfold f_X11_digit at hf
  refine gE_i (cc := cX11_digit) (maxL := 2) (by decide) rfl (Nat.le_of_ble_eq_true rfl) ?_
  intro p e s m args below meth c A Q hC hA hQ hM ls hl
  obtain ⟨hx, hb, hml, hown, hts⟩ := hC.1
  have hl : lv_has ls 2 [(0, .int p0), (1, .int p1)] := hl
  refine lv_iload_n hx hb dX11_digit_0 rfl (lv_at hl 0 rfl) ?_
  refine lv_bipush (v := 10) hx hb dX11_digit_1 (by decide) ?_
  refine lv_icmp_ge (tgt := 13) hx hb dX11_digit_3 (by decide) (fun c1 => ?_) (fun c1 => ?_)
  · replace hf := it_t c1 hf
    refine lv_iload_n hx hb dX11_digit_13 rfl (lv_at hl 1 rfl) ?_
    refine lv_if_ne (tgt := 27) hx hb dX11_digit_14 (by decide) (fun c2 => ?_) (fun c2 => ?_)
    · replace hf := it_f c2 hf
      refine lv_bipush (v := 48) hx hb dX11_digit_27 (by decide) ?_
      refine lv_iload_n hx hb dX11_digit_29 rfl (lv_at hl 0 rfl) ?_
      refine lv_bipush (v := 10) hx hb dX11_digit_30 (by decide) ?_
      refine lv_irem hx hb dX11_digit_32 (by decide) ?_
      refine lv_iadd hx hb dX11_digit_33 ?_
      cases so_1 hf
      exact hQ _ _ _ _ _ _ dX11_digit_34 hM (by decide) (by decide)
    · replace hf := it_t c2 hf
      refine lv_bipush (v := 48) hx hb dX11_digit_17 (by decide) ?_
      refine lv_iload_n hx hb dX11_digit_19 rfl (lv_at hl 0 rfl) ?_
      refine lv_bipush (v := 10) hx hb dX11_digit_20 (by decide) ?_
      refine lv_idiv hx hb dX11_digit_22 (by decide) ?_
      refine lv_iadd hx hb dX11_digit_23 ?_
      refine lv_goto (tgt := 34) hx hb dX11_digit_24 (by decide) ?_
      cases so_1 hf
      exact hQ _ _ _ _ _ _ dX11_digit_34 hM (by decide) (by decide)
  · replace hf := it_f c1 hf
    refine lv_bipush (v := 48) hx hb dX11_digit_6 (by decide) ?_
    refine lv_iload_n hx hb dX11_digit_8 rfl (lv_at hl 0 rfl) ?_
    refine lv_iadd hx hb dX11_digit_9 ?_
    refine lv_goto (tgt := 34) hx hb dX11_digit_10 (by decide) ?_
    cases so_1 hf
    exact hQ _ _ _ _ _ _ dX11_digit_34 hM (by decide) (by decide)
