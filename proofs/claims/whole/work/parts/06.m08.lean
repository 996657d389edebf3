theorem hd_X11_isTrue : yX11_isTrue.cls = RX11 ∧ yX11_isTrue.cls ≠ "java/lang/invoke/MethodHandle" ∧ yX11_isTrue.cls ≠ "java/lang/invoke/VarHandle" ∧ (parseMethodDescriptor yX11_isTrue.desc).map (fun d => d.parameters.length) = some 0 := by decide +kernel
theorem tX11_isTrue_4 : Cond.fieldLink RX11 262 "WeatherTellerModel" "at" "I" ∈ wsX11_isTrue := List.mem_of_getElem? (i := 4) rfl
theorem inX11_isTrue_X11 : ∀ w ∈ u_ws RX11 TX11 50, w ∈ wsX11_isTrue := fun _ h => List.mem_cons_of_mem _ (List.mem_append_right _ h)
theorem tX11_isTrue_10 : Cond.fieldLink RX11 275 "WeatherTellerModel" "count" "I" ∈ wsX11_isTrue := List.mem_of_getElem? (i := 10) rfl
theorem tX11_isTrue_1 : Cond.fieldLink RX11 180 "WeatherTellerModel" "places" "I" ∈ wsX11_isTrue := List.mem_of_getElem? (i := 1) rfl
theorem tX11_isTrue_5 : Cond.fieldLink RX11 186 "WeatherTellerModel" "bands" "I" ∈ wsX11_isTrue := List.mem_of_getElem? (i := 5) rfl
theorem tX11_isTrue_6 : Cond.fieldLink RX11 41 "WeatherTellerModel" "bSize" "[I" ∈ wsX11_isTrue := List.mem_of_getElem? (i := 6) rfl
theorem tX11_isTrue_7 : Cond.fieldLink RX11 272 "WeatherTellerModel" "from0" "I" ∈ wsX11_isTrue := List.mem_of_getElem? (i := 7) rfl
theorem tX11_isTrue_8 : Cond.fieldLink RX11 38 "WeatherTellerModel" "bLetters" "[I" ∈ wsX11_isTrue := List.mem_of_getElem? (i := 8) rfl
theorem tX11_isTrue_9 : Cond.fieldLink RX11 7 "WeatherTellerModel" "tape" "[I" ∈ wsX11_isTrue := List.mem_of_getElem? (i := 9) rfl
theorem tX11_isTrue_2 : Cond.fieldLink RX11 183 "WeatherTellerModel" "regions" "I" ∈ wsX11_isTrue := List.mem_of_getElem? (i := 2) rfl
theorem tX11_isTrue_3 : Cond.fieldLink RX11 19 "WeatherTellerModel" "members" "[I" ∈ wsX11_isTrue := List.mem_of_getElem? (i := 3) rfl
def j_X11_isTrue_396 (v34 : Int32) (k345 : Int32 → Option (Int32 × St))  : Option (Int32 × St) :=
  nm (v34 + 1) fun v36 =>
  k345 v36
def b_X11_isTrue_358 (N : Nat) (v6 : Int32) (v14 : Int32) (v27 : Int32) (S29 : St) (v34 : Int32) (k396 : Option (Int32 × St)) (k358 : Int32 → Option (Int32 × St)) (v37 : Int32) : Option (Int32 × St) :=
  if v27 < v37 then
    k396
  else
    if ((v6 >>> (v34 &&& 31)) &&& 1) = 1 then
      bd (f_X11_isIn N v14 v34 v37 S29) fun v40 =>
      if v40 = 0 then
        some (0, S29)
      else
        nm (v37 + 1) fun v42 =>
        k358 v42
    else
      k396
def b_X11_isTrue_345 (N : Nat) (v6 : Int32) (v14 : Int32) (v20 : Int32) (v27 : Int32) (S29 : St) (k345 : Int32 → Option (Int32 × St)) (v34 : Int32) : Option (Int32 × St) :=
  if (S29.1 0 3) ≤ v34 then
    some (1, S29)
  else
    jp (j_X11_isTrue_396 v34 k345) fun k396 =>
    jp (lp (fun _ => none) (b_X11_isTrue_358 N v6 v14 v27 S29 v34 k396) N) fun k358 =>
    k358 v20
def j_X11_isTrue_269 (N : Nat) (v6 : Int32) (S12 : St) (v14 : Int32) (v15 : Int32) : Option (Int32 × St) :=
  if v15 = 0 then
    some (0, S12)
  else
    bd2 (f_X11_digitsRead N S12) fun v17 S18 =>
    if v17 = 0 then
      some (0, S18)
    else
      nm (S18.1 0 49) fun v20 =>
      bd2 (f_X11_isSign N 45 S18) fun v21 S22 =>
      if v21 = 0 then
        some (0, S22)
      else
        bd2 (f_X11_digitsRead N S22) fun v24 S25 =>
        if v24 = 0 then
          some (0, S25)
        else
          nm (S25.1 0 49) fun v27 =>
          bd2 (f_X11_isSign N 46 S25) fun v28 S29 =>
          if v28 = 0 then
            some (0, S29)
          else
            if v27 < v20 then
              some (0, S29)
            else
              if 23 < v27 then
                some (0, S29)
              else
                if v6 = 0 then
                  some (0, S29)
                else
                  jp (lp (fun _ => none) (b_X11_isTrue_345 N v6 v14 v20 v27 S29) N) fun k345 =>
                  k345 0
def j_X11_isTrue_258 (v43 : Int32) (k157 : Int32 → Int32 → Option (Int32 × St)) (v49 : Int32) : Option (Int32 × St) :=
  if v49 = 0 then
    nm (v43 + 1) fun v51 =>
    k157 v51 v49
  else
    k157 v43 v49
def j_X11_isTrue_250 (v53 : Int32) (k200 : Int32 → Int32 → Option (Int32 × St)) (v59 : Int32) : Option (Int32 × St) :=
  nm (v53 + 1) fun v60 =>
  k200 v59 v60
def b_X11_isTrue_200 (S12 : St) (v43 : Int32) (k258 : Int32 → Option (Int32 × St)) (k200 : Int32 → Int32 → Option (Int32 × St)) (v52 : Int32) (v53 : Int32) : Option (Int32 × St) :=
  ck v43 48 <|
  if (S12.1 11 v43.toNatClampNeg) ≤ v53 then
    k258 v52
  else
    if v52 = 0 then
      k258 v52
    else
      ck ((12 * v43) + v53) 576 <|
      ck ((S12.1 0 48) + v53) 1000 <|
      jp (j_X11_isTrue_250 v53 k200) fun k250 =>
      if (S12.1 10 ((12 * v43) + v53).toNatClampNeg) = (S12.1 1 ((S12.1 0 48) + v53).toNatClampNeg) then
        k250 1
      else
        k250 0
def j_X11_isTrue_195 (N : Nat) (S12 : St) (v43 : Int32) (k157 : Int32 → Int32 → Option (Int32 × St)) (v48 : Int32) : Option (Int32 × St) :=
  jp (j_X11_isTrue_258 v43 k157) fun k258 =>
  jp (lp (fun _ _ => none) (b_X11_isTrue_200 S12 v43 k258) N) fun k200 =>
  k200 v48 0
def b_X11_isTrue_157 (N : Nat) (S12 : St) (k269 : Int32 → Int32 → Option (Int32 × St)) (k157 : Int32 → Int32 → Option (Int32 × St)) (v43 : Int32) (v44 : Int32) : Option (Int32 × St) :=
  if (S12.1 0 8) ≤ v43 then
    k269 v43 v44
  else
    if v44 = 0 then
      ck v43 48 <|
      jp (j_X11_isTrue_195 N S12 v43 k157) fun k195 =>
      if (S12.1 11 v43.toNatClampNeg) = ((S12.1 0 47) - (S12.1 0 48)) then
        k195 1
      else
        k195 0
    else
      k269 v43 v44
def j_X11_isTrue_133 (N : Nat) (v6 : Int32) (S7 : St) : Option (Int32 × St) :=
  bd2 (f_X11_isSign N 58 S7) fun v8 S9 =>
  if v8 = 0 then
    some (0, S9)
  else
    bd2 (f_X11_word N S9) fun v11 S12 =>
    if v11 = 0 then
      some (0, S12)
    else
      jp (j_X11_isTrue_269 N v6 S12) fun k269 =>
      jp (lp (fun _ _ => none) (b_X11_isTrue_157 N S12 k269) N) fun k157 =>
      k157 0 0
def b_X11_isTrue_79 (N : Nat) (k133 : Int32 → St → Option (Int32 × St)) (k79 : Int32 → Int32 → St → Option (Int32 × St)) (v67 : Int32) (v68 : Int32) (S69 : St) : Option (Int32 × St) :=
  if v68 = 0 then
    k133 v67 S69
  else
    bd2 (f_X11_word N S69) fun v71 S72 =>
    if v71 = 0 then
      some (0, S72)
    else
      bd (f_X11_nameTaken N (S72.1 0 3) S72) fun v74 =>
      if 0 ≤ v74 then
        nm (v67 &&& ((1 <<< (v74 &&& 31)) ^^^ (-1))) fun v76 =>
        bd2 (f_X11_isSign N 44 S72) fun v77 S78 =>
        k79 v76 v77 S78
      else
        some (0, S72)
def j_X11_isTrue_56 (N : Nat) (v1 : Int32) (S2 : St) : Option (Int32 × St) :=
  nm (S2.1 0 47) fun v3 =>
  bd2 (f_X11_word N S2) fun v4 S5 =>
  jp (j_X11_isTrue_133 N) fun k133 =>
  if v4 = 0 then
    nm (puI S5 0 47 v3) fun S64 =>
    k133 v1 S64
  else
    bd (f_X11_isBut N S5) fun v65 =>
    if v65 = 0 then
      some (0, S5)
    else
      jp (lp (fun _ _ _ => none) (b_X11_isTrue_79 N k133) N) fun k79 =>
      k79 v1 1 S5
def b_X11_isTrue_4 (N : Nat) (k56 : Int32 → St → Option (Int32 × St)) (k4 : Int32 → Int32 → St → Option (Int32 × St)) (v79 : Int32) (v80 : Int32) (S81 : St) : Option (Int32 × St) :=
  if v80 = 0 then
    k56 v79 S81
  else
    bd2 (f_X11_word N S81) fun v83 S84 =>
    if v83 = 0 then
      some (0, S84)
    else
      bd (f_X11_nameTaken N ((S84.1 0 3) + (S84.1 0 4)) S84) fun v86 =>
      if 0 ≤ v86 then
        ck v86 24 <|
        nm (v79 ||| (S84.1 4 v86.toNatClampNeg)) fun v89 =>
        bd2 (f_X11_isSign N 44 S84) fun v90 S91 =>
        k4 v89 v90 S91
      else
        some (0, S84)
def f_X11_isTrue (N : Nat)  (S : St) : Option (Int32 × St) :=
  zb <|
  jp (j_X11_isTrue_56 N) fun k56 =>
  jp (lp (fun _ _ _ => none) (b_X11_isTrue_4 N k56) N) fun k4 =>
  k4 0 1 S
abbrev rmX11_isTrue : Room := { frames := 3, cells := 0, slots := 0, locals := 61 }
set_option maxRecDepth 100000 in
set_option maxHeartbeats 4000000 in
theorem c_X11_isTrue (l : Launch) (D : va_G) (cs : Nat → ClassId) (a : Nat → Nat) (N : Nat) (S : St) (rz : Int32) (Sz : St) (hf : f_X11_isTrue N S = some (rz, Sz)) : gMi l yX11_isTrue wsX11_isTrue rmX11_isTrue D cs [.ref (a 0)] (mcells cs a S) rz (mcells cs a Sz) := by
  unfold f_X11_isTrue at hf
  obtain ⟨hrz, hf⟩ := zb_s hf
  refine gE_z (cc := cX11_isTrue) (maxL := 10) hrz (by decide) rfl (Nat.le_of_ble_eq_true rfl) ?_
  intro p e s m args below meth c A Q hC hA hQ hM ls hl
  obtain ⟨hx, hb, hml, hown, hts⟩ := hC.1
  have hl : lv_has ls 10 [(0, .ref (a 0))] := hl
  refine lv_iconst (v := 0) hx hb dX11_isTrue_0 (by decide) ?_
  refine lv_istore_n (lv' := [(1, .int 0), (0, .ref (a 0))]) hx hb dX11_isTrue_1 rfl hl (by decide) rfl (fun ls hl => ?_)
  refine lv_iconst (v := 1) hx hb dX11_isTrue_2 (by decide) ?_
  refine lv_istore_n (lv' := [(2, .int 1), (1, .int 0), (0, .ref (a 0))]) hx hb dX11_isTrue_3 rfl hl (by decide) rfl (fun ls hl => ?_)
  refine jp_W (fun k56 : Int32 → St → Option (Int32 × St) => ∀ (v1 : Int32) (S2 : St), k56 v1 S2 = some (rz, Sz) → ∀ (H : Heap) (locs : List Loc) (ls : Array Slot), gw D A s.heap H locs (mcells cs a S2) → lv_has ls 10 [(0, .ref (a 0)), (1, .int v1)] → W p l e rmX11_isTrue s m args below meth c H locs 0 0 Q (F0 m 56 ls [])) ?_ ?_ hf
  · intro v1 S2 hf H locs ls hM hl
    unfold j_X11_isTrue_56 at hf
    refine lv_aload_n hx hb dX11_isTrue_56 rfl (lv_at hl 0 rfl) ?_
    refine g_get hC hM inX11_isTrue_X11 0 mE0 clX11 47 (by decide) tX11_isTrue_4 TX11_47 mV0_47 dX11_isTrue_57 ?_
    refine lv_topi (fun v3 ev3 => ?_)
    replace hf := nm_q ev3 hf
    refine lv_istore_n (lv' := [(3, .int v3), (0, .ref (a 0)), (1, .int v1)]) hx hb dX11_isTrue_60 rfl hl (by decide) rfl (fun ls hl => ?_)
    refine lv_aload_n hx hb dX11_isTrue_61 rfl (lv_at hl 1 rfl) ?_
    obtain ⟨v4, S5, hc, hf⟩ := bd2_s hf
    refine gV_i hC hM hA hl.1 [] [] (c_X11_word l D cs a N S2 v4 S5 hc) gX11_isTrue_X11_word rfl hd_X11_word ⟨by decide, by decide⟩ 0 11 clX11 rfl mE0 (Nat.le_of_ble_eq_true rfl) dX11_isTrue_62 rfl ⟨by decide, by decide⟩ (fun H locs hM => ?_)
    refine jp_W (fun k133 : Int32 → St → Option (Int32 × St) => ∀ (v6 : Int32) (S7 : St), k133 v6 S7 = some (rz, Sz) → ∀ (H : Heap) (locs : List Loc) (ls : Array Slot), gw D A s.heap H locs (mcells cs a S7) → lv_has ls 10 [(0, .ref (a 0)), (1, .int v6)] → W p l e rmX11_isTrue s m args below meth c H locs 0 0 Q (F0 m 133 ls [])) ?_ ?_ hf
    · intro v6 S7 hf H locs ls hM hl
      unfold j_X11_isTrue_133 at hf
      refine lv_aload_n hx hb dX11_isTrue_133 rfl (lv_at hl 0 rfl) ?_
      refine lv_bipush (v := 58) hx hb dX11_isTrue_134 (by decide) ?_
      obtain ⟨v8, S9, hc, hf⟩ := bd2_s hf
      refine gV_i hC hM hA hl.1 [.int 58] [] (c_X11_isSign l D cs a N 58 S7 v8 S9 hc) gX11_isTrue_X11_isSign rfl hd_X11_isSign ⟨by decide, by decide⟩ 0 11 clX11 rfl mE0 (Nat.le_of_ble_eq_true rfl) dX11_isTrue_136 rfl ⟨by decide, by decide⟩ (fun H locs hM => ?_)
      refine lv_if_eq (tgt := 149) hx hb dX11_isTrue_139 (by decide) (fun c10 => ?_) (fun c10 => ?_)
      · replace hf := it_t c10 hf
        refine lv_iconst (v := 0) hx hb dX11_isTrue_149 (by decide) ?_
        obtain ⟨e1, e2⟩ := so_2 hf
        cases e1; cases e2
        exact hQ _ _ _ _ _ _ dX11_isTrue_150 hM (by decide) (by decide)
      · replace hf := it_f c10 hf
        refine lv_aload_n hx hb dX11_isTrue_142 rfl (lv_at hl 0 rfl) ?_
        obtain ⟨v11, S12, hc, hf⟩ := bd2_s hf
        refine gV_i hC hM hA hl.1 [] [] (c_X11_word l D cs a N S9 v11 S12 hc) gX11_isTrue_X11_word rfl hd_X11_word ⟨by decide, by decide⟩ 0 11 clX11 rfl mE0 (Nat.le_of_ble_eq_true rfl) dX11_isTrue_143 rfl ⟨by decide, by decide⟩ (fun H locs hM => ?_)
        refine lv_if_ne (tgt := 151) hx hb dX11_isTrue_146 (by decide) (fun c13 => ?_) (fun c13 => ?_)
        · replace hf := it_f c13 hf
          refine lv_iconst (v := 0) hx hb dX11_isTrue_151 (by decide) ?_
          refine lv_istore (lv' := [(4, .int 0), (0, .ref (a 0)), (1, .int v6)]) hx hb dX11_isTrue_152 hl (by decide) rfl (fun ls hl => ?_)
          refine lv_iconst (v := 0) hx hb dX11_isTrue_154 (by decide) ?_
          refine lv_istore (lv' := [(5, .int 0), (4, .int 0), (0, .ref (a 0)), (1, .int v6)]) hx hb dX11_isTrue_155 hl (by decide) rfl (fun ls hl => ?_)
          refine jp_W (fun k269 : Int32 → Int32 → Option (Int32 × St) => ∀ (v14 : Int32) (v15 : Int32), k269 v14 v15 = some (rz, Sz) → ∀ (H : Heap) (locs : List Loc) (ls : Array Slot), gw D A s.heap H locs (mcells cs a S12) → lv_has ls 10 [(0, .ref (a 0)), (1, .int v6), (4, .int v14), (5, .int v15)] → W p l e rmX11_isTrue s m args below meth c H locs 0 0 Q (F0 m 269 ls [])) ?_ ?_ hf
          · intro v14 v15 hf H locs ls hM hl
            unfold j_X11_isTrue_269 at hf
            refine lv_iload hx hb dX11_isTrue_269 (lv_at hl 3 rfl) ?_
            refine lv_if_eq (tgt := 281) hx hb dX11_isTrue_271 (by decide) (fun c16 => ?_) (fun c16 => ?_)
            · replace hf := it_t c16 hf
              refine lv_iconst (v := 0) hx hb dX11_isTrue_281 (by decide) ?_
              obtain ⟨e1, e2⟩ := so_2 hf
              cases e1; cases e2
              exact hQ _ _ _ _ _ _ dX11_isTrue_282 hM (by decide) (by decide)
            · replace hf := it_f c16 hf
              refine lv_aload_n hx hb dX11_isTrue_274 rfl (lv_at hl 0 rfl) ?_
              obtain ⟨v17, S18, hc, hf⟩ := bd2_s hf
              refine gV_i hC hM hA hl.1 [] [] (c_X11_digitsRead l D cs a N S12 v17 S18 hc) gX11_isTrue_X11_digitsRead rfl hd_X11_digitsRead ⟨by decide, by decide⟩ 0 11 clX11 rfl mE0 (Nat.le_of_ble_eq_true rfl) dX11_isTrue_275 rfl ⟨by decide, by decide⟩ (fun H locs hM => ?_)
              refine lv_if_ne (tgt := 283) hx hb dX11_isTrue_278 (by decide) (fun c19 => ?_) (fun c19 => ?_)
              · replace hf := it_f c19 hf
                refine lv_aload_n hx hb dX11_isTrue_283 rfl (lv_at hl 0 rfl) ?_
                refine g_get hC hM inX11_isTrue_X11 0 mE0 clX11 49 (by decide) tX11_isTrue_10 TX11_49 mV0_49 dX11_isTrue_284 ?_
                refine lv_topi (fun v20 ev20 => ?_)
                replace hf := nm_q ev20 hf
                refine lv_istore (lv' := [(6, .int v20), (0, .ref (a 0)), (1, .int v6), (4, .int v14), (5, .int v15)]) hx hb dX11_isTrue_287 hl (by decide) rfl (fun ls hl => ?_)
                refine lv_aload_n hx hb dX11_isTrue_289 rfl (lv_at hl 1 rfl) ?_
                refine lv_bipush (v := 45) hx hb dX11_isTrue_290 (by decide) ?_
                obtain ⟨v21, S22, hc, hf⟩ := bd2_s hf
                refine gV_i hC hM hA hl.1 [.int 45] [] (c_X11_isSign l D cs a N 45 S18 v21 S22 hc) gX11_isTrue_X11_isSign rfl hd_X11_isSign ⟨by decide, by decide⟩ 0 11 clX11 rfl mE0 (Nat.le_of_ble_eq_true rfl) dX11_isTrue_292 rfl ⟨by decide, by decide⟩ (fun H locs hM => ?_)
                refine lv_if_eq (tgt := 305) hx hb dX11_isTrue_295 (by decide) (fun c23 => ?_) (fun c23 => ?_)
                · replace hf := it_t c23 hf
                  refine lv_iconst (v := 0) hx hb dX11_isTrue_305 (by decide) ?_
                  obtain ⟨e1, e2⟩ := so_2 hf
                  cases e1; cases e2
                  exact hQ _ _ _ _ _ _ dX11_isTrue_306 hM (by decide) (by decide)
                · replace hf := it_f c23 hf
                  refine lv_aload_n hx hb dX11_isTrue_298 rfl (lv_at hl 1 rfl) ?_
                  obtain ⟨v24, S25, hc, hf⟩ := bd2_s hf
                  refine gV_i hC hM hA hl.1 [] [] (c_X11_digitsRead l D cs a N S22 v24 S25 hc) gX11_isTrue_X11_digitsRead rfl hd_X11_digitsRead ⟨by decide, by decide⟩ 0 11 clX11 rfl mE0 (Nat.le_of_ble_eq_true rfl) dX11_isTrue_299 rfl ⟨by decide, by decide⟩ (fun H locs hM => ?_)
                  refine lv_if_ne (tgt := 307) hx hb dX11_isTrue_302 (by decide) (fun c26 => ?_) (fun c26 => ?_)
                  · replace hf := it_f c26 hf
                    refine lv_aload_n hx hb dX11_isTrue_307 rfl (lv_at hl 1 rfl) ?_
                    refine g_get hC hM inX11_isTrue_X11 0 mE0 clX11 49 (by decide) tX11_isTrue_10 TX11_49 mV0_49 dX11_isTrue_308 ?_
                    refine lv_topi (fun v27 ev27 => ?_)
                    replace hf := nm_q ev27 hf
                    refine lv_istore (lv' := [(7, .int v27), (6, .int v20), (0, .ref (a 0)), (1, .int v6), (4, .int v14), (5, .int v15)]) hx hb dX11_isTrue_311 hl (by decide) rfl (fun ls hl => ?_)
                    refine lv_aload_n hx hb dX11_isTrue_313 rfl (lv_at hl 2 rfl) ?_
                    refine lv_bipush (v := 46) hx hb dX11_isTrue_314 (by decide) ?_
                    obtain ⟨v28, S29, hc, hf⟩ := bd2_s hf
                    refine gV_i hC hM hA hl.1 [.int 46] [] (c_X11_isSign l D cs a N 46 S25 v28 S29 hc) gX11_isTrue_X11_isSign rfl hd_X11_isSign ⟨by decide, by decide⟩ 0 11 clX11 rfl mE0 (Nat.le_of_ble_eq_true rfl) dX11_isTrue_316 rfl ⟨by decide, by decide⟩ (fun H locs hM => ?_)
                    refine lv_if_eq (tgt := 340) hx hb dX11_isTrue_319 (by decide) (fun c30 => ?_) (fun c30 => ?_)
                    · replace hf := it_t c30 hf
                      refine lv_iconst (v := 0) hx hb dX11_isTrue_340 (by decide) ?_
                      obtain ⟨e1, e2⟩ := so_2 hf
                      cases e1; cases e2
                      exact hQ _ _ _ _ _ _ dX11_isTrue_341 hM (by decide) (by decide)
                    · replace hf := it_f c30 hf
                      refine lv_iload hx hb dX11_isTrue_322 (lv_at hl 1 rfl) ?_
                      refine lv_iload hx hb dX11_isTrue_324 (lv_at hl 0 rfl) ?_
                      refine lv_icmp_gt (tgt := 340) hx hb dX11_isTrue_326 (by decide) (fun c31 => ?_) (fun c31 => ?_)
                      · replace hf := it_t c31 hf
                        refine lv_iconst (v := 0) hx hb dX11_isTrue_340 (by decide) ?_
                        obtain ⟨e1, e2⟩ := so_2 hf
                        cases e1; cases e2
                        exact hQ _ _ _ _ _ _ dX11_isTrue_341 hM (by decide) (by decide)
                      · replace hf := it_f c31 hf
                        refine lv_iload hx hb dX11_isTrue_329 (lv_at hl 0 rfl) ?_
                        refine lv_bipush (v := 23) hx hb dX11_isTrue_331 (by decide) ?_
                        refine lv_icmp_gt (tgt := 340) hx hb dX11_isTrue_333 (by decide) (fun c32 => ?_) (fun c32 => ?_)
                        · replace hf := it_t c32 hf
                          refine lv_iconst (v := 0) hx hb dX11_isTrue_340 (by decide) ?_
                          obtain ⟨e1, e2⟩ := so_2 hf
                          cases e1; cases e2
                          exact hQ _ _ _ _ _ _ dX11_isTrue_341 hM (by decide) (by decide)
                        · replace hf := it_f c32 hf
                          refine lv_iload_n hx hb dX11_isTrue_336 rfl (lv_at hl 3 rfl) ?_
                          refine lv_if_ne (tgt := 342) hx hb dX11_isTrue_337 (by decide) (fun c33 => ?_) (fun c33 => ?_)
                          · replace hf := it_f c33 hf
                            refine lv_iconst (v := 0) hx hb dX11_isTrue_342 (by decide) ?_
                            refine lv_istore (lv' := [(8, .int 0), (7, .int v27), (6, .int v20), (0, .ref (a 0)), (1, .int v6), (4, .int v14), (5, .int v15)]) hx hb dX11_isTrue_343 hl (by decide) rfl (fun ls hl => ?_)
                            refine jl_W (fun k345 : Int32 → Option (Int32 × St) => ∀ (v34 : Int32), k345 v34 = some (rz, Sz) → ∀ (H : Heap) (locs : List Loc) (ls : Array Slot), gw D A s.heap H locs (mcells cs a S29) → lv_has ls 10 [(0, .ref (a 0)), (1, .int v6), (4, .int v14), (6, .int v20), (7, .int v27), (8, .int v34)] → W p l e rmX11_isTrue s m args below meth c H locs 0 0 Q (F0 m 345 ls [])) ?_ ?_ ?_ hf
                            · intro v34 h; cases h
                            · intro k345 hk345 v34 hf H locs ls hM hl
                              unfold b_X11_isTrue_345 at hf
                              refine lv_iload hx hb dX11_isTrue_345 (lv_at hl 5 rfl) ?_
                              refine lv_aload_n hx hb dX11_isTrue_347 rfl (lv_at hl 0 rfl) ?_
                              refine g_get hC hM inX11_isTrue_X11 0 mE0 clX11 3 (by decide) tX11_isTrue_1 TX11_3 mV0_3 dX11_isTrue_348 ?_
                              refine lv_icmp_ge (tgt := 402) hx hb dX11_isTrue_351 (by decide) (fun c35 => ?_) (fun c35 => ?_)
                              · replace hf := it_t c35 hf
                                refine lv_iconst (v := 1) hx hb dX11_isTrue_402 (by decide) ?_
                                obtain ⟨e1, e2⟩ := so_2 hf
                                cases e1; cases e2
                                exact hQ _ _ _ _ _ _ dX11_isTrue_403 hM (by decide) (by decide)
                              · replace hf := it_f c35 hf
                                refine lv_iload hx hb dX11_isTrue_354 (lv_at hl 3 rfl) ?_
                                refine lv_istore (lv' := [(9, .int v20), (0, .ref (a 0)), (1, .int v6), (4, .int v14), (6, .int v20), (7, .int v27), (8, .int v34)]) hx hb dX11_isTrue_356 hl (by decide) rfl (fun ls hl => ?_)
                                refine jp_W (fun k396 : Option (Int32 × St) => k396 = some (rz, Sz) → ∀ (H : Heap) (locs : List Loc) (ls : Array Slot), gw D A s.heap H locs (mcells cs a S29) → lv_has ls 10 [(0, .ref (a 0)), (1, .int v6), (4, .int v14), (6, .int v20), (7, .int v27), (8, .int v34)] → W p l e rmX11_isTrue s m args below meth c H locs 0 0 Q (F0 m 396 ls [])) ?_ ?_ hf
                                · intro  hf H locs ls hM hl
                                  unfold j_X11_isTrue_396 at hf
                                  obtain ⟨v36, ev36⟩ : ∃ y : Int32, y = v34 + 1 := ⟨_, rfl⟩
                                  replace hf := nm_q ev36 hf
                                  refine lv_iinc (v := v36) (lv' := [(8, .int v36), (0, .ref (a 0)), (1, .int v6), (4, .int v14), (6, .int v20), (7, .int v27)]) hx hb dX11_isTrue_396 hl (k := 5) rfl (by rw [ev36]; rfl) (by decide) rfl (fun ls hl => ?_)
                                  refine lv_goto (tgt := 345) hx hb dX11_isTrue_399 (by decide) ?_
                                  exact hk345 _ hf _ _ _ hM (lv_sub hl [1, 2, 3, 4, 5, 0] rfl)
                                · intro k396 hk396 hf
                                  refine jl_W (fun k358 : Int32 → Option (Int32 × St) => ∀ (v37 : Int32), k358 v37 = some (rz, Sz) → ∀ (H : Heap) (locs : List Loc) (ls : Array Slot), gw D A s.heap H locs (mcells cs a S29) → lv_has ls 10 [(0, .ref (a 0)), (1, .int v6), (4, .int v14), (6, .int v20), (7, .int v27), (8, .int v34), (9, .int v37)] → W p l e rmX11_isTrue s m args below meth c H locs 0 0 Q (F0 m 358 ls [])) ?_ ?_ ?_ hf
                                  · intro v37 h; cases h
                                  · intro k358 hk358 v37 hf H locs ls hM hl
                                    unfold b_X11_isTrue_358 at hf
                                    refine lv_iload hx hb dX11_isTrue_358 (lv_at hl 6 rfl) ?_
                                    refine lv_iload hx hb dX11_isTrue_360 (lv_at hl 4 rfl) ?_
                                    refine lv_icmp_gt (tgt := 396) hx hb dX11_isTrue_362 (by decide) (fun c38 => ?_) (fun c38 => ?_)
                                    · replace hf := it_t c38 hf
                                      exact hk396 hf _ _ _ hM (lv_sub hl [0, 1, 2, 3, 4, 5] rfl)
                                    · replace hf := it_f c38 hf
                                      refine lv_iload_n hx hb dX11_isTrue_365 rfl (lv_at hl 1 rfl) ?_
                                      refine lv_iload hx hb dX11_isTrue_366 (lv_at hl 5 rfl) ?_
                                      refine lv_ishr hx hb dX11_isTrue_368 ?_
                                      refine lv_iconst (v := 1) hx hb dX11_isTrue_369 (by decide) ?_
                                      refine lv_iand hx hb dX11_isTrue_370 ?_
                                      refine lv_iconst (v := 1) hx hb dX11_isTrue_371 (by decide) ?_
                                      refine lv_icmp_ne (tgt := 396) hx hb dX11_isTrue_372 (by decide) (fun c39 => ?_) (fun c39 => ?_)
                                      · replace hf := it_f c39 hf
                                        exact hk396 hf _ _ _ hM (lv_sub hl [0, 1, 2, 3, 4, 5] rfl)
                                      · replace hf := it_t c39 hf
                                        refine lv_aload_n hx hb dX11_isTrue_375 rfl (lv_at hl 0 rfl) ?_
                                        refine lv_iload hx hb dX11_isTrue_376 (lv_at hl 2 rfl) ?_
                                        refine lv_iload hx hb dX11_isTrue_378 (lv_at hl 5 rfl) ?_
                                        refine lv_iload hx hb dX11_isTrue_380 (lv_at hl 6 rfl) ?_
                                        obtain ⟨v40, hc, hf⟩ := bd_s hf
                                        refine gV_i hC hM hA hl.1 [.int v14, .int v34, .int v37] [] (c_X11_isIn l D cs a N v14 v34 v37 S29 v40 hc) gX11_isTrue_X11_isIn rfl hd_X11_isIn ⟨by decide, by decide⟩ 0 11 clX11 rfl mE0 (Nat.le_of_ble_eq_true rfl) dX11_isTrue_382 rfl ⟨by decide, by decide⟩ (fun H locs hM => ?_)
                                        refine lv_if_ne (tgt := 390) hx hb dX11_isTrue_385 (by decide) (fun c41 => ?_) (fun c41 => ?_)
                                        · replace hf := it_f c41 hf
                                          obtain ⟨v42, ev42⟩ : ∃ y : Int32, y = v37 + 1 := ⟨_, rfl⟩
                                          replace hf := nm_q ev42 hf
                                          refine lv_iinc (v := v42) (lv' := [(9, .int v42), (0, .ref (a 0)), (1, .int v6), (4, .int v14), (6, .int v20), (7, .int v27), (8, .int v34)]) hx hb dX11_isTrue_390 hl (k := 6) rfl (by rw [ev42]; rfl) (by decide) rfl (fun ls hl => ?_)
                                          refine lv_goto (tgt := 358) hx hb dX11_isTrue_393 (by decide) ?_
                                          exact hk358 _ hf _ _ _ hM (lv_sub hl [1, 2, 3, 4, 5, 6, 0] rfl)
                                        · replace hf := it_t c41 hf
                                          refine lv_iconst (v := 0) hx hb dX11_isTrue_388 (by decide) ?_
                                          obtain ⟨e1, e2⟩ := so_2 hf
                                          cases e1; cases e2
                                          exact hQ _ _ _ _ _ _ dX11_isTrue_389 hM (by decide) (by decide)
                                  · intro k358 hk358 hf
                                    exact hk358 _ hf _ _ _ hM (lv_sub hl [1, 2, 3, 4, 5, 6, 0] rfl)
                            · intro k345 hk345 hf
                              exact hk345 _ hf _ _ _ hM (lv_sub hl [3, 4, 5, 2, 1, 0] rfl)
                          · replace hf := it_t c33 hf
                            refine lv_iconst (v := 0) hx hb dX11_isTrue_340 (by decide) ?_
                            obtain ⟨e1, e2⟩ := so_2 hf
                            cases e1; cases e2
                            exact hQ _ _ _ _ _ _ dX11_isTrue_341 hM (by decide) (by decide)
                  · replace hf := it_t c26 hf
                    refine lv_iconst (v := 0) hx hb dX11_isTrue_305 (by decide) ?_
                    obtain ⟨e1, e2⟩ := so_2 hf
                    cases e1; cases e2
                    exact hQ _ _ _ _ _ _ dX11_isTrue_306 hM (by decide) (by decide)
              · replace hf := it_t c19 hf
                refine lv_iconst (v := 0) hx hb dX11_isTrue_281 (by decide) ?_
                obtain ⟨e1, e2⟩ := so_2 hf
                cases e1; cases e2
                exact hQ _ _ _ _ _ _ dX11_isTrue_282 hM (by decide) (by decide)
          · intro k269 hk269 hf
            refine jl_W (fun k157 : Int32 → Int32 → Option (Int32 × St) => ∀ (v43 : Int32) (v44 : Int32), k157 v43 v44 = some (rz, Sz) → ∀ (H : Heap) (locs : List Loc) (ls : Array Slot), gw D A s.heap H locs (mcells cs a S12) → lv_has ls 10 [(0, .ref (a 0)), (1, .int v6), (4, .int v43), (5, .int v44)] → W p l e rmX11_isTrue s m args below meth c H locs 0 0 Q (F0 m 157 ls [])) ?_ ?_ ?_ hf
            · intro v43 v44 h; cases h
            · intro k157 hk157 v43 v44 hf H locs ls hM hl
              unfold b_X11_isTrue_157 at hf
              refine lv_iload hx hb dX11_isTrue_157 (lv_at hl 2 rfl) ?_
              refine lv_aload_n hx hb dX11_isTrue_159 rfl (lv_at hl 0 rfl) ?_
              refine g_get hC hM inX11_isTrue_X11 0 mE0 clX11 8 (by decide) tX11_isTrue_5 TX11_8 mV0_8 dX11_isTrue_160 ?_
              refine lv_icmp_ge (tgt := 269) hx hb dX11_isTrue_163 (by decide) (fun c45 => ?_) (fun c45 => ?_)
              · replace hf := it_t c45 hf
                exact hk269 _ _ hf _ _ _ hM hl
              · replace hf := it_f c45 hf
                refine lv_iload hx hb dX11_isTrue_166 (lv_at hl 3 rfl) ?_
                refine lv_if_ne (tgt := 269) hx hb dX11_isTrue_168 (by decide) (fun c46 => ?_) (fun c46 => ?_)
                · replace hf := it_f c46 hf
                  exact hk269 _ _ hf _ _ _ hM hl
                · replace hf := it_t c46 hf
                  refine lv_aload_n hx hb dX11_isTrue_171 rfl (lv_at hl 0 rfl) ?_
                  refine g_get hC hM inX11_isTrue_X11 0 mE0 clX11 15 (by decide) tX11_isTrue_6 TX11_15 mV0_15 dX11_isTrue_172 ?_
                  refine lv_iload hx hb dX11_isTrue_175 (lv_at hl 2 rfl) ?_
                  obtain ⟨h47, hf⟩ := ck_s hf
                  refine g_iald hC hM 11 mE11 h47 dX11_isTrue_177 ?_
                  refine lv_aload_n hx hb dX11_isTrue_178 rfl (lv_at hl 0 rfl) ?_
                  refine g_get hC hM inX11_isTrue_X11 0 mE0 clX11 47 (by decide) tX11_isTrue_4 TX11_47 mV0_47 dX11_isTrue_179 ?_
                  refine lv_aload_n hx hb dX11_isTrue_182 rfl (lv_at hl 0 rfl) ?_
                  refine g_get hC hM inX11_isTrue_X11 0 mE0 clX11 48 (by decide) tX11_isTrue_7 TX11_48 mV0_48 dX11_isTrue_183 ?_
                  refine lv_isub hx hb dX11_isTrue_186 ?_
                  refine jp_W (fun k195 : Int32 → Option (Int32 × St) => ∀ (v48 : Int32), k195 v48 = some (rz, Sz) → ∀ (H : Heap) (locs : List Loc) (ls : Array Slot), gw D A s.heap H locs (mcells cs a S12) → lv_has ls 10 [(0, .ref (a 0)), (1, .int v6), (4, .int v43)] → W p l e rmX11_isTrue s m args below meth c H locs 0 0 Q (F0 m 195 ls [.int v48])) ?_ ?_ hf
                  · intro v48 hf H locs ls hM hl
                    unfold j_X11_isTrue_195 at hf
                    refine lv_istore (lv' := [(5, .int v48), (0, .ref (a 0)), (1, .int v6), (4, .int v43)]) hx hb dX11_isTrue_195 hl (by decide) rfl (fun ls hl => ?_)
                    refine lv_iconst (v := 0) hx hb dX11_isTrue_197 (by decide) ?_
                    refine lv_istore (lv' := [(6, .int 0), (5, .int v48), (0, .ref (a 0)), (1, .int v6), (4, .int v43)]) hx hb dX11_isTrue_198 hl (by decide) rfl (fun ls hl => ?_)
                    refine jp_W (fun k258 : Int32 → Option (Int32 × St) => ∀ (v49 : Int32), k258 v49 = some (rz, Sz) → ∀ (H : Heap) (locs : List Loc) (ls : Array Slot), gw D A s.heap H locs (mcells cs a S12) → lv_has ls 10 [(0, .ref (a 0)), (1, .int v6), (4, .int v43), (5, .int v49)] → W p l e rmX11_isTrue s m args below meth c H locs 0 0 Q (F0 m 258 ls [])) ?_ ?_ hf
                    · intro v49 hf H locs ls hM hl
                      unfold j_X11_isTrue_258 at hf
                      refine lv_iload hx hb dX11_isTrue_258 (lv_at hl 3 rfl) ?_
                      refine lv_if_ne (tgt := 157) hx hb dX11_isTrue_260 (by decide) (fun c50 => ?_) (fun c50 => ?_)
                      · replace hf := it_f c50 hf
                        exact hk157 _ _ hf _ _ _ hM hl
                      · replace hf := it_t c50 hf
                        obtain ⟨v51, ev51⟩ : ∃ y : Int32, y = v43 + 1 := ⟨_, rfl⟩
                        replace hf := nm_q ev51 hf
                        refine lv_iinc (v := v51) (lv' := [(4, .int v51), (0, .ref (a 0)), (1, .int v6), (5, .int v49)]) hx hb dX11_isTrue_263 hl (k := 2) rfl (by rw [ev51]; rfl) (by decide) rfl (fun ls hl => ?_)
                        refine lv_goto (tgt := 157) hx hb dX11_isTrue_266 (by decide) ?_
                        exact hk157 _ _ hf _ _ _ hM (lv_sub hl [1, 2, 0, 3] rfl)
                    · intro k258 hk258 hf
                      refine jl_W (fun k200 : Int32 → Int32 → Option (Int32 × St) => ∀ (v52 : Int32) (v53 : Int32), k200 v52 v53 = some (rz, Sz) → ∀ (H : Heap) (locs : List Loc) (ls : Array Slot), gw D A s.heap H locs (mcells cs a S12) → lv_has ls 10 [(0, .ref (a 0)), (1, .int v6), (4, .int v43), (5, .int v52), (6, .int v53)] → W p l e rmX11_isTrue s m args below meth c H locs 0 0 Q (F0 m 200 ls [])) ?_ ?_ ?_ hf
                      · intro v52 v53 h; cases h
                      · intro k200 hk200 v52 v53 hf H locs ls hM hl
                        unfold b_X11_isTrue_200 at hf
                        refine lv_iload hx hb dX11_isTrue_200 (lv_at hl 4 rfl) ?_
                        refine lv_aload_n hx hb dX11_isTrue_202 rfl (lv_at hl 0 rfl) ?_
                        refine g_get hC hM inX11_isTrue_X11 0 mE0 clX11 15 (by decide) tX11_isTrue_6 TX11_15 mV0_15 dX11_isTrue_203 ?_
                        refine lv_iload hx hb dX11_isTrue_206 (lv_at hl 2 rfl) ?_
                        obtain ⟨h54, hf⟩ := ck_s hf
                        refine g_iald hC hM 11 mE11 h54 dX11_isTrue_208 ?_
                        refine lv_icmp_ge (tgt := 258) hx hb dX11_isTrue_209 (by decide) (fun c55 => ?_) (fun c55 => ?_)
                        · replace hf := it_t c55 hf
                          exact hk258 _ hf _ _ _ hM (lv_sub hl [0, 1, 2, 3] rfl)
                        · replace hf := it_f c55 hf
                          refine lv_iload hx hb dX11_isTrue_212 (lv_at hl 3 rfl) ?_
                          refine lv_if_eq (tgt := 258) hx hb dX11_isTrue_214 (by decide) (fun c56 => ?_) (fun c56 => ?_)
                          · replace hf := it_t c56 hf
                            exact hk258 _ hf _ _ _ hM (lv_sub hl [0, 1, 2, 3] rfl)
                          · replace hf := it_f c56 hf
                            refine lv_aload_n hx hb dX11_isTrue_217 rfl (lv_at hl 0 rfl) ?_
                            refine g_get hC hM inX11_isTrue_X11 0 mE0 clX11 14 (by decide) tX11_isTrue_8 TX11_14 mV0_14 dX11_isTrue_218 ?_
                            refine lv_bipush (v := 12) hx hb dX11_isTrue_221 (by decide) ?_
                            refine lv_iload hx hb dX11_isTrue_223 (lv_at hl 2 rfl) ?_
                            refine lv_imul hx hb dX11_isTrue_225 ?_
                            refine lv_iload hx hb dX11_isTrue_226 (lv_at hl 4 rfl) ?_
                            refine lv_iadd hx hb dX11_isTrue_228 ?_
                            obtain ⟨h57, hf⟩ := ck_s hf
                            refine g_iald hC hM 10 mE10 h57 dX11_isTrue_229 ?_
                            refine lv_aload_n hx hb dX11_isTrue_230 rfl (lv_at hl 0 rfl) ?_
                            refine g_get hC hM inX11_isTrue_X11 0 mE0 clX11 0 (by decide) tX11_isTrue_9 TX11_0 mV0_0 dX11_isTrue_231 ?_
                            refine lv_aload_n hx hb dX11_isTrue_234 rfl (lv_at hl 0 rfl) ?_
                            refine g_get hC hM inX11_isTrue_X11 0 mE0 clX11 48 (by decide) tX11_isTrue_7 TX11_48 mV0_48 dX11_isTrue_235 ?_
                            refine lv_iload hx hb dX11_isTrue_238 (lv_at hl 4 rfl) ?_
                            refine lv_iadd hx hb dX11_isTrue_240 ?_
                            obtain ⟨h58, hf⟩ := ck_s hf
                            refine g_iald hC hM 1 mE1 h58 dX11_isTrue_241 ?_
                            refine jp_W (fun k250 : Int32 → Option (Int32 × St) => ∀ (v59 : Int32), k250 v59 = some (rz, Sz) → ∀ (H : Heap) (locs : List Loc) (ls : Array Slot), gw D A s.heap H locs (mcells cs a S12) → lv_has ls 10 [(0, .ref (a 0)), (1, .int v6), (4, .int v43), (6, .int v53)] → W p l e rmX11_isTrue s m args below meth c H locs 0 0 Q (F0 m 250 ls [.int v59])) ?_ ?_ hf
                            · intro v59 hf H locs ls hM hl
                              unfold j_X11_isTrue_250 at hf
                              refine lv_istore (lv' := [(5, .int v59), (0, .ref (a 0)), (1, .int v6), (4, .int v43), (6, .int v53)]) hx hb dX11_isTrue_250 hl (by decide) rfl (fun ls hl => ?_)
                              obtain ⟨v60, ev60⟩ : ∃ y : Int32, y = v53 + 1 := ⟨_, rfl⟩
                              replace hf := nm_q ev60 hf
                              refine lv_iinc (v := v60) (lv' := [(6, .int v60), (5, .int v59), (0, .ref (a 0)), (1, .int v6), (4, .int v43)]) hx hb dX11_isTrue_252 hl (k := 4) rfl (by rw [ev60]; rfl) (by decide) rfl (fun ls hl => ?_)
                              refine lv_goto (tgt := 200) hx hb dX11_isTrue_255 (by decide) ?_
                              exact hk200 _ _ hf _ _ _ hM (lv_sub hl [2, 3, 4, 1, 0] rfl)
                            · intro k250 hk250 hf
                              refine lv_icmp_ne (tgt := 249) hx hb dX11_isTrue_242 (by decide) (fun c61 => ?_) (fun c61 => ?_)
                              · replace hf := it_f c61 hf
                                refine lv_iconst (v := 0) hx hb dX11_isTrue_249 (by decide) ?_
                                exact hk250 _ hf _ _ _ hM (lv_sub hl [0, 1, 2, 4] rfl)
                              · replace hf := it_t c61 hf
                                refine lv_iconst (v := 1) hx hb dX11_isTrue_245 (by decide) ?_
                                refine lv_goto (tgt := 250) hx hb dX11_isTrue_246 (by decide) ?_
                                exact hk250 _ hf _ _ _ hM (lv_sub hl [0, 1, 2, 4] rfl)
                      · intro k200 hk200 hf
                        exact hk200 _ _ hf _ _ _ hM (lv_sub hl [2, 3, 4, 1, 0] rfl)
                  · intro k195 hk195 hf
                    refine lv_icmp_ne (tgt := 194) hx hb dX11_isTrue_187 (by decide) (fun c62 => ?_) (fun c62 => ?_)
                    · replace hf := it_f c62 hf
                      refine lv_iconst (v := 0) hx hb dX11_isTrue_194 (by decide) ?_
                      exact hk195 _ hf _ _ _ hM (lv_sub hl [0, 1, 2] rfl)
                    · replace hf := it_t c62 hf
                      refine lv_iconst (v := 1) hx hb dX11_isTrue_190 (by decide) ?_
                      refine lv_goto (tgt := 195) hx hb dX11_isTrue_191 (by decide) ?_
                      exact hk195 _ hf _ _ _ hM (lv_sub hl [0, 1, 2] rfl)
            · intro k157 hk157 hf
              exact hk157 _ _ hf _ _ _ hM (lv_sub hl [2, 3, 1, 0] rfl)
        · replace hf := it_t c13 hf
          refine lv_iconst (v := 0) hx hb dX11_isTrue_149 (by decide) ?_
          obtain ⟨e1, e2⟩ := so_2 hf
          cases e1; cases e2
          exact hQ _ _ _ _ _ _ dX11_isTrue_150 hM (by decide) (by decide)
    · intro k133 hk133 hf
      refine lv_if_eq (tgt := 128) hx hb dX11_isTrue_65 (by decide) (fun c63 => ?_) (fun c63 => ?_)
      · replace hf := it_t c63 hf
        refine lv_aload_n hx hb dX11_isTrue_128 rfl (lv_at hl 1 rfl) ?_
        refine lv_iload_n hx hb dX11_isTrue_129 rfl (lv_at hl 0 rfl) ?_
        refine g_put hC hM inX11_isTrue_X11 tyX11_ok nmX11 0 mE0 clX11 47 (by decide) tX11_isTrue_4 TX11_47 tyX11_47 rfl rfl (by rw [mL0]; decide) mP0_47 dX11_isTrue_130 (fun H locs hM => ?_)
        obtain ⟨S64, hf, hM⟩ := mnm hf hM
        exact hk133 _ _ hf _ _ _ hM (lv_sub hl [1, 2] rfl)
      · replace hf := it_f c63 hf
        refine lv_aload_n hx hb dX11_isTrue_68 rfl (lv_at hl 1 rfl) ?_
        obtain ⟨v65, hc, hf⟩ := bd_s hf
        refine gV_i hC hM hA hl.1 [] [] (c_X11_isBut l D cs a N S5 v65 hc) gX11_isTrue_X11_isBut rfl hd_X11_isBut ⟨by decide, by decide⟩ 0 11 clX11 rfl mE0 (Nat.le_of_ble_eq_true rfl) dX11_isTrue_69 rfl ⟨by decide, by decide⟩ (fun H locs hM => ?_)
        refine lv_if_ne (tgt := 77) hx hb dX11_isTrue_72 (by decide) (fun c66 => ?_) (fun c66 => ?_)
        · replace hf := it_f c66 hf
          refine lv_iconst (v := 1) hx hb dX11_isTrue_77 (by decide) ?_
          refine lv_istore_n (lv' := [(2, .int 1), (3, .int v3), (0, .ref (a 0)), (1, .int v1)]) hx hb dX11_isTrue_78 rfl hl (by decide) rfl (fun ls hl => ?_)
          refine jl_W (fun k79 : Int32 → Int32 → St → Option (Int32 × St) => ∀ (v67 : Int32) (v68 : Int32) (S69 : St), k79 v67 v68 S69 = some (rz, Sz) → ∀ (H : Heap) (locs : List Loc) (ls : Array Slot), gw D A s.heap H locs (mcells cs a S69) → lv_has ls 10 [(0, .ref (a 0)), (1, .int v67), (2, .int v68)] → W p l e rmX11_isTrue s m args below meth c H locs 0 0 Q (F0 m 79 ls [])) ?_ ?_ ?_ hf
          · intro v67 v68 S69 h; cases h
          · intro k79 hk79 v67 v68 S69 hf H locs ls hM hl
            unfold b_X11_isTrue_79 at hf
            refine lv_iload_n hx hb dX11_isTrue_79 rfl (lv_at hl 2 rfl) ?_
            refine lv_if_eq (tgt := 133) hx hb dX11_isTrue_80 (by decide) (fun c70 => ?_) (fun c70 => ?_)
            · replace hf := it_t c70 hf
              exact hk133 _ _ hf _ _ _ hM (lv_sub hl [0, 1] rfl)
            · replace hf := it_f c70 hf
              refine lv_aload_n hx hb dX11_isTrue_83 rfl (lv_at hl 0 rfl) ?_
              obtain ⟨v71, S72, hc, hf⟩ := bd2_s hf
              refine gV_i hC hM hA hl.1 [] [] (c_X11_word l D cs a N S69 v71 S72 hc) gX11_isTrue_X11_word rfl hd_X11_word ⟨by decide, by decide⟩ 0 11 clX11 rfl mE0 (Nat.le_of_ble_eq_true rfl) dX11_isTrue_84 rfl ⟨by decide, by decide⟩ (fun H locs hM => ?_)
              refine lv_if_ne (tgt := 92) hx hb dX11_isTrue_87 (by decide) (fun c73 => ?_) (fun c73 => ?_)
              · replace hf := it_f c73 hf
                refine lv_aload_n hx hb dX11_isTrue_92 rfl (lv_at hl 0 rfl) ?_
                refine lv_aload_n hx hb dX11_isTrue_93 rfl (lv_at hl 0 rfl) ?_
                refine g_get hC hM inX11_isTrue_X11 0 mE0 clX11 3 (by decide) tX11_isTrue_1 TX11_3 mV0_3 dX11_isTrue_94 ?_
                obtain ⟨v74, hc, hf⟩ := bd_s hf
                refine gV_i hC hM hA hl.1 [.int (S72.1 0 3)] [] (c_X11_nameTaken l D cs a N (S72.1 0 3) S72 v74 hc) gX11_isTrue_X11_nameTaken rfl hd_X11_nameTaken ⟨by decide, by decide⟩ 0 11 clX11 rfl mE0 (Nat.le_of_ble_eq_true rfl) dX11_isTrue_97 rfl ⟨by decide, by decide⟩ (fun H locs hM => ?_)
                refine lv_istore (lv' := [(4, .int v74), (0, .ref (a 0)), (1, .int v67), (2, .int v68)]) hx hb dX11_isTrue_100 hl (by decide) rfl (fun ls hl => ?_)
                refine lv_iload hx hb dX11_isTrue_102 (lv_at hl 0 rfl) ?_
                refine lv_if_ge (tgt := 109) hx hb dX11_isTrue_104 (by decide) (fun c75 => ?_) (fun c75 => ?_)
                · replace hf := it_t c75 hf
                  refine lv_iload_n hx hb dX11_isTrue_109 rfl (lv_at hl 2 rfl) ?_
                  refine lv_iconst (v := 1) hx hb dX11_isTrue_110 (by decide) ?_
                  refine lv_iload hx hb dX11_isTrue_111 (lv_at hl 0 rfl) ?_
                  refine lv_ishl hx hb dX11_isTrue_113 ?_
                  refine lv_iconst (v := (-1)) hx hb dX11_isTrue_114 (by decide) ?_
                  refine lv_ixor hx hb dX11_isTrue_115 ?_
                  refine lv_iand hx hb dX11_isTrue_116 ?_
                  refine lv_topi (fun v76 ev76 => ?_)
                  replace hf := nm_q ev76 hf
                  refine lv_istore_n (lv' := [(1, .int v76), (4, .int v74), (0, .ref (a 0)), (2, .int v68)]) hx hb dX11_isTrue_117 rfl hl (by decide) rfl (fun ls hl => ?_)
                  refine lv_aload_n hx hb dX11_isTrue_118 rfl (lv_at hl 2 rfl) ?_
                  refine lv_bipush (v := 44) hx hb dX11_isTrue_119 (by decide) ?_
                  obtain ⟨v77, S78, hc, hf⟩ := bd2_s hf
                  refine gV_i hC hM hA hl.1 [.int 44] [] (c_X11_isSign l D cs a N 44 S72 v77 S78 hc) gX11_isTrue_X11_isSign rfl hd_X11_isSign ⟨by decide, by decide⟩ 0 11 clX11 rfl mE0 (Nat.le_of_ble_eq_true rfl) dX11_isTrue_121 rfl ⟨by decide, by decide⟩ (fun H locs hM => ?_)
                  refine lv_istore_n (lv' := [(2, .int v77), (1, .int v76), (4, .int v74), (0, .ref (a 0))]) hx hb dX11_isTrue_124 rfl hl (by decide) rfl (fun ls hl => ?_)
                  refine lv_goto (tgt := 79) hx hb dX11_isTrue_125 (by decide) ?_
                  exact hk79 _ _ _ hf _ _ _ hM (lv_sub hl [3, 1, 0] rfl)
                · replace hf := it_f c75 hf
                  refine lv_iconst (v := 0) hx hb dX11_isTrue_107 (by decide) ?_
                  obtain ⟨e1, e2⟩ := so_2 hf
                  cases e1; cases e2
                  exact hQ _ _ _ _ _ _ dX11_isTrue_108 hM (by decide) (by decide)
              · replace hf := it_t c73 hf
                refine lv_iconst (v := 0) hx hb dX11_isTrue_90 (by decide) ?_
                obtain ⟨e1, e2⟩ := so_2 hf
                cases e1; cases e2
                exact hQ _ _ _ _ _ _ dX11_isTrue_91 hM (by decide) (by decide)
          · intro k79 hk79 hf
            exact hk79 _ _ _ hf _ _ _ hM (lv_sub hl [2, 3, 0] rfl)
        · replace hf := it_t c66 hf
          refine lv_iconst (v := 0) hx hb dX11_isTrue_75 (by decide) ?_
          obtain ⟨e1, e2⟩ := so_2 hf
          cases e1; cases e2
          exact hQ _ _ _ _ _ _ dX11_isTrue_76 hM (by decide) (by decide)
  · intro k56 hk56 hf
    refine jl_W (fun k4 : Int32 → Int32 → St → Option (Int32 × St) => ∀ (v79 : Int32) (v80 : Int32) (S81 : St), k4 v79 v80 S81 = some (rz, Sz) → ∀ (H : Heap) (locs : List Loc) (ls : Array Slot), gw D A s.heap H locs (mcells cs a S81) → lv_has ls 10 [(0, .ref (a 0)), (1, .int v79), (2, .int v80)] → W p l e rmX11_isTrue s m args below meth c H locs 0 0 Q (F0 m 4 ls [])) ?_ ?_ ?_ hf
    · intro v79 v80 S81 h; cases h
    · intro k4 hk4 v79 v80 S81 hf H locs ls hM hl
      unfold b_X11_isTrue_4 at hf
      refine lv_iload_n hx hb dX11_isTrue_4 rfl (lv_at hl 2 rfl) ?_
      refine lv_if_eq (tgt := 56) hx hb dX11_isTrue_5 (by decide) (fun c82 => ?_) (fun c82 => ?_)
      · replace hf := it_t c82 hf
        exact hk56 _ _ hf _ _ _ hM (lv_sub hl [0, 1] rfl)
      · replace hf := it_f c82 hf
        refine lv_aload_n hx hb dX11_isTrue_8 rfl (lv_at hl 0 rfl) ?_
        obtain ⟨v83, S84, hc, hf⟩ := bd2_s hf
        refine gV_i hC hM hA hl.1 [] [] (c_X11_word l D cs a N S81 v83 S84 hc) gX11_isTrue_X11_word rfl hd_X11_word ⟨by decide, by decide⟩ 0 11 clX11 rfl mE0 (Nat.le_of_ble_eq_true rfl) dX11_isTrue_9 rfl ⟨by decide, by decide⟩ (fun H locs hM => ?_)
        refine lv_if_ne (tgt := 17) hx hb dX11_isTrue_12 (by decide) (fun c85 => ?_) (fun c85 => ?_)
        · replace hf := it_f c85 hf
          refine lv_aload_n hx hb dX11_isTrue_17 rfl (lv_at hl 0 rfl) ?_
          refine lv_aload_n hx hb dX11_isTrue_18 rfl (lv_at hl 0 rfl) ?_
          refine g_get hC hM inX11_isTrue_X11 0 mE0 clX11 3 (by decide) tX11_isTrue_1 TX11_3 mV0_3 dX11_isTrue_19 ?_
          refine lv_aload_n hx hb dX11_isTrue_22 rfl (lv_at hl 0 rfl) ?_
          refine g_get hC hM inX11_isTrue_X11 0 mE0 clX11 4 (by decide) tX11_isTrue_2 TX11_4 mV0_4 dX11_isTrue_23 ?_
          refine lv_iadd hx hb dX11_isTrue_26 ?_
          obtain ⟨v86, hc, hf⟩ := bd_s hf
          refine gV_i hC hM hA hl.1 [.int ((S84.1 0 3) + (S84.1 0 4))] [] (c_X11_nameTaken l D cs a N ((S84.1 0 3) + (S84.1 0 4)) S84 v86 hc) gX11_isTrue_X11_nameTaken rfl hd_X11_nameTaken ⟨by decide, by decide⟩ 0 11 clX11 rfl mE0 (Nat.le_of_ble_eq_true rfl) dX11_isTrue_27 rfl ⟨by decide, by decide⟩ (fun H locs hM => ?_)
          refine lv_istore_n (lv' := [(3, .int v86), (0, .ref (a 0)), (1, .int v79), (2, .int v80)]) hx hb dX11_isTrue_30 rfl hl (by decide) rfl (fun ls hl => ?_)
          refine lv_iload_n hx hb dX11_isTrue_31 rfl (lv_at hl 0 rfl) ?_
          refine lv_if_ge (tgt := 37) hx hb dX11_isTrue_32 (by decide) (fun c87 => ?_) (fun c87 => ?_)
          · replace hf := it_t c87 hf
            refine lv_iload_n hx hb dX11_isTrue_37 rfl (lv_at hl 2 rfl) ?_
            refine lv_aload_n hx hb dX11_isTrue_38 rfl (lv_at hl 1 rfl) ?_
            refine g_get hC hM inX11_isTrue_X11 0 mE0 clX11 7 (by decide) tX11_isTrue_3 TX11_7 mV0_7 dX11_isTrue_39 ?_
            refine lv_iload_n hx hb dX11_isTrue_42 rfl (lv_at hl 0 rfl) ?_
            obtain ⟨h88, hf⟩ := ck_s hf
            refine g_iald hC hM 4 mE4 h88 dX11_isTrue_43 ?_
            refine lv_ior hx hb dX11_isTrue_44 ?_
            refine lv_topi (fun v89 ev89 => ?_)
            replace hf := nm_q ev89 hf
            refine lv_istore_n (lv' := [(1, .int v89), (3, .int v86), (0, .ref (a 0)), (2, .int v80)]) hx hb dX11_isTrue_45 rfl hl (by decide) rfl (fun ls hl => ?_)
            refine lv_aload_n hx hb dX11_isTrue_46 rfl (lv_at hl 2 rfl) ?_
            refine lv_bipush (v := 44) hx hb dX11_isTrue_47 (by decide) ?_
            obtain ⟨v90, S91, hc, hf⟩ := bd2_s hf
            refine gV_i hC hM hA hl.1 [.int 44] [] (c_X11_isSign l D cs a N 44 S84 v90 S91 hc) gX11_isTrue_X11_isSign rfl hd_X11_isSign ⟨by decide, by decide⟩ 0 11 clX11 rfl mE0 (Nat.le_of_ble_eq_true rfl) dX11_isTrue_49 rfl ⟨by decide, by decide⟩ (fun H locs hM => ?_)
            refine lv_istore_n (lv' := [(2, .int v90), (1, .int v89), (3, .int v86), (0, .ref (a 0))]) hx hb dX11_isTrue_52 rfl hl (by decide) rfl (fun ls hl => ?_)
            refine lv_goto (tgt := 4) hx hb dX11_isTrue_53 (by decide) ?_
            exact hk4 _ _ _ hf _ _ _ hM (lv_sub hl [3, 1, 0] rfl)
          · replace hf := it_f c87 hf
            refine lv_iconst (v := 0) hx hb dX11_isTrue_35 (by decide) ?_
            obtain ⟨e1, e2⟩ := so_2 hf
            cases e1; cases e2
            exact hQ _ _ _ _ _ _ dX11_isTrue_36 hM (by decide) (by decide)
        · replace hf := it_t c85 hf
          refine lv_iconst (v := 0) hx hb dX11_isTrue_15 (by decide) ?_
          obtain ⟨e1, e2⟩ := so_2 hf
          cases e1; cases e2
          exact hQ _ _ _ _ _ _ dX11_isTrue_16 hM (by decide) (by decide)
    · intro k4 hk4 hf
      exact hk4 _ _ _ hf _ _ _ hM (lv_sub hl [2, 1, 0] rfl)

theorem hd_X11_held : yX11_held.cls = RX11 ∧ yX11_held.cls ≠ "java/lang/invoke/MethodHandle" ∧ yX11_held.cls ≠ "java/lang/invoke/VarHandle" ∧ (parseMethodDescriptor yX11_held.desc).map (fun d => d.parameters.length) = some 1 := by decide +kernel
theorem tX11_held_1 : Cond.fieldLink RX11 94 "WeatherTellerModel" "thrown" "I" ∈ wsX11_held := List.mem_of_getElem? (i := 1) rfl
theorem inX11_held_X11 : ∀ w ∈ u_ws RX11 TX11 50, w ∈ wsX11_held := fun _ h => List.mem_cons_of_mem _ (List.mem_append_right _ h)
theorem tX11_held_2 : Cond.fieldLink RX11 97 "WeatherTellerModel" "tapeSize" "I" ∈ wsX11_held := List.mem_of_getElem? (i := 2) rfl
theorem tX11_held_3 : Cond.fieldLink RX11 103 "WeatherTellerModel" "size" "I" ∈ wsX11_held := List.mem_of_getElem? (i := 3) rfl
theorem tX11_held_4 : Cond.fieldLink RX11 262 "WeatherTellerModel" "at" "I" ∈ wsX11_held := List.mem_of_getElem? (i := 4) rfl
def b_X11_held_42 (N : Nat) (k42 : Int32 → St → Option (Int32 × St)) (v8 : Int32) (S9 : St) : Option (Int32 × St) :=
  if (S9.1 0 22) ≤ (S9.1 0 47) then
    some (v8, S9)
  else
    nm (S9.1 0 47) fun v11 =>
    bd2 (f_X11_isTrue N S9) fun v12 S13 =>
    if v12 = 0 then
      some (((-1) - v11), S13)
    else
      nm (v8 + 1) fun v15 =>
      bd (f_X11_blanks N S13) fun S16 =>
      k42 v15 S16
def f_X11_held (N : Nat) (p0 : Int32) (S : St) : Option (Int32 × St) :=
  nm (puI S 0 2 0) fun S1 =>
  if p0 < 0 then
    some ((-10000), S1)
  else
    if p0 ≤ (S1.1 0 1) then
      nm (puI S1 0 22 p0) fun S4 =>
      nm (puI S4 0 1 0) fun S5 =>
      nm (puI S5 0 47 0) fun S6 =>
      bd (f_X11_blanks N S6) fun S7 =>
      jp (lp (fun _ _ => none) (b_X11_held_42 N) N) fun k42 =>
      k42 0 S7
    else
      some ((-10000), S1)
abbrev rmX11_held : Room := { frames := 4, cells := 0, slots := 0, locals := 90 }
set_option maxRecDepth 100000 in
set_option maxHeartbeats 4000000 in
theorem c_X11_held (l : Launch) (D : va_G) (cs : Nat → ClassId) (a : Nat → Nat) (N : Nat) (p0 : Int32) (S : St) (rz : Int32) (Sz : St) (hf : f_X11_held N p0 S = some (rz, Sz)) : gMi l yX11_held wsX11_held rmX11_held D cs [.ref (a 0), .int p0] (mcells cs a S) rz (mcells cs a Sz) := by
  unfold f_X11_held at hf
  refine gE_i (cc := cX11_held) (maxL := 4) (by decide) rfl (Nat.le_of_ble_eq_true rfl) ?_
  intro p e s m args below meth c A Q hC hA hQ hM ls hl
  obtain ⟨hx, hb, hml, hown, hts⟩ := hC.1
  have hl : lv_has ls 4 [(0, .ref (a 0)), (1, .int p0)] := hl
  refine lv_aload_n hx hb dX11_held_0 rfl (lv_at hl 0 rfl) ?_
  refine lv_iconst (v := 0) hx hb dX11_held_1 (by decide) ?_
  refine g_put hC hM inX11_held_X11 tyX11_ok nmX11 0 mE0 clX11 2 (by decide) tX11_held_1 TX11_2 tyX11_2 rfl rfl (by rw [mL0]; decide) mP0_2 dX11_held_2 (fun H locs hM => ?_)
  obtain ⟨S1, hf, hM⟩ := mnm hf hM
  refine lv_iload_n hx hb dX11_held_5 rfl (lv_at hl 1 rfl) ?_
  refine lv_if_lt (tgt := 17) hx hb dX11_held_6 (by decide) (fun c2 => ?_) (fun c2 => ?_)
  · replace hf := it_t c2 hf
    refine lv_sipush (v := (-10000)) hx hb dX11_held_17 (by decide) ?_
    obtain ⟨e1, e2⟩ := so_2 hf
    cases e1; cases e2
    exact hQ _ _ _ _ _ _ dX11_held_20 hM (by decide) (by decide)
  · replace hf := it_f c2 hf
    refine lv_iload_n hx hb dX11_held_9 rfl (lv_at hl 1 rfl) ?_
    refine lv_aload_n hx hb dX11_held_10 rfl (lv_at hl 0 rfl) ?_
    refine g_get hC hM inX11_held_X11 0 mE0 clX11 1 (by decide) tX11_held_2 TX11_1 mV0_1 dX11_held_11 ?_
    refine lv_icmp_le (tgt := 21) hx hb dX11_held_14 (by decide) (fun c3 => ?_) (fun c3 => ?_)
    · replace hf := it_t c3 hf
      refine lv_aload_n hx hb dX11_held_21 rfl (lv_at hl 0 rfl) ?_
      refine lv_iload_n hx hb dX11_held_22 rfl (lv_at hl 1 rfl) ?_
      refine g_put hC hM inX11_held_X11 tyX11_ok nmX11 0 mE0 clX11 22 (by decide) tX11_held_3 TX11_22 tyX11_22 rfl rfl (by rw [mL0]; decide) mP0_22 dX11_held_23 (fun H locs hM => ?_)
      obtain ⟨S4, hf, hM⟩ := mnm hf hM
      refine lv_aload_n hx hb dX11_held_26 rfl (lv_at hl 0 rfl) ?_
      refine lv_iconst (v := 0) hx hb dX11_held_27 (by decide) ?_
      refine g_put hC hM inX11_held_X11 tyX11_ok nmX11 0 mE0 clX11 1 (by decide) tX11_held_2 TX11_1 tyX11_1 rfl rfl (by rw [mL0]; decide) mP0_1 dX11_held_28 (fun H locs hM => ?_)
      obtain ⟨S5, hf, hM⟩ := mnm hf hM
      refine lv_aload_n hx hb dX11_held_31 rfl (lv_at hl 0 rfl) ?_
      refine lv_iconst (v := 0) hx hb dX11_held_32 (by decide) ?_
      refine g_put hC hM inX11_held_X11 tyX11_ok nmX11 0 mE0 clX11 47 (by decide) tX11_held_4 TX11_47 tyX11_47 rfl rfl (by rw [mL0]; decide) mP0_47 dX11_held_33 (fun H locs hM => ?_)
      obtain ⟨S6, hf, hM⟩ := mnm hf hM
      refine lv_iconst (v := 0) hx hb dX11_held_36 (by decide) ?_
      refine lv_istore_n (lv' := [(2, .int 0), (0, .ref (a 0)), (1, .int p0)]) hx hb dX11_held_37 rfl hl (by decide) rfl (fun ls hl => ?_)
      refine lv_aload_n hx hb dX11_held_38 rfl (lv_at hl 1 rfl) ?_
      obtain ⟨S7, hc, hf⟩ := bd_s hf
      refine gV_v hC hM hA hl.1 [] [] (c_X11_blanks l D cs a N S6 S7 hc) gX11_held_X11_blanks rfl hd_X11_blanks ⟨by decide, by decide⟩ 0 11 clX11 rfl mE0 (Nat.le_of_ble_eq_true rfl) dX11_held_39 rfl ⟨by decide, by decide⟩ (fun H locs hM => ?_)
      refine jl_W (fun k42 : Int32 → St → Option (Int32 × St) => ∀ (v8 : Int32) (S9 : St), k42 v8 S9 = some (rz, Sz) → ∀ (H : Heap) (locs : List Loc) (ls : Array Slot), gw D A s.heap H locs (mcells cs a S9) → lv_has ls 4 [(0, .ref (a 0)), (2, .int v8)] → W p l e rmX11_held s m args below meth c H locs 0 0 Q (F0 m 42 ls [])) ?_ ?_ ?_ hf
      · intro v8 S9 h; cases h
      · intro k42 hk42 v8 S9 hf H locs ls hM hl
        unfold b_X11_held_42 at hf
        refine lv_aload_n hx hb dX11_held_42 rfl (lv_at hl 0 rfl) ?_
        refine g_get hC hM inX11_held_X11 0 mE0 clX11 47 (by decide) tX11_held_4 TX11_47 mV0_47 dX11_held_43 ?_
        refine lv_aload_n hx hb dX11_held_46 rfl (lv_at hl 0 rfl) ?_
        refine g_get hC hM inX11_held_X11 0 mE0 clX11 22 (by decide) tX11_held_3 TX11_22 mV0_22 dX11_held_47 ?_
        refine lv_icmp_ge (tgt := 79) hx hb dX11_held_50 (by decide) (fun c10 => ?_) (fun c10 => ?_)
        · replace hf := it_t c10 hf
          refine lv_iload_n hx hb dX11_held_79 rfl (lv_at hl 1 rfl) ?_
          obtain ⟨e1, e2⟩ := so_2 hf
          cases e1; cases e2
          exact hQ _ _ _ _ _ _ dX11_held_80 hM (by decide) (by decide)
        · replace hf := it_f c10 hf
          refine lv_aload_n hx hb dX11_held_53 rfl (lv_at hl 0 rfl) ?_
          refine g_get hC hM inX11_held_X11 0 mE0 clX11 47 (by decide) tX11_held_4 TX11_47 mV0_47 dX11_held_54 ?_
          refine lv_topi (fun v11 ev11 => ?_)
          replace hf := nm_q ev11 hf
          refine lv_istore_n (lv' := [(3, .int v11), (0, .ref (a 0)), (2, .int v8)]) hx hb dX11_held_57 rfl hl (by decide) rfl (fun ls hl => ?_)
          refine lv_aload_n hx hb dX11_held_58 rfl (lv_at hl 1 rfl) ?_
          obtain ⟨v12, S13, hc, hf⟩ := bd2_s hf
          refine gV_i hC hM hA hl.1 [] [] (c_X11_isTrue l D cs a N S9 v12 S13 hc) gX11_held_X11_isTrue rfl hd_X11_isTrue ⟨by decide, by decide⟩ 0 11 clX11 rfl mE0 (Nat.le_of_ble_eq_true rfl) dX11_held_59 rfl ⟨by decide, by decide⟩ (fun H locs hM => ?_)
          refine lv_if_ne (tgt := 69) hx hb dX11_held_62 (by decide) (fun c14 => ?_) (fun c14 => ?_)
          · replace hf := it_f c14 hf
            obtain ⟨v15, ev15⟩ : ∃ y : Int32, y = v8 + 1 := ⟨_, rfl⟩
            replace hf := nm_q ev15 hf
            refine lv_iinc (v := v15) (lv' := [(2, .int v15), (3, .int v11), (0, .ref (a 0))]) hx hb dX11_held_69 hl (k := 2) rfl (by rw [ev15]; rfl) (by decide) rfl (fun ls hl => ?_)
            refine lv_aload_n hx hb dX11_held_72 rfl (lv_at hl 2 rfl) ?_
            obtain ⟨S16, hc, hf⟩ := bd_s hf
            refine gV_v hC hM hA hl.1 [] [] (c_X11_blanks l D cs a N S13 S16 hc) gX11_held_X11_blanks rfl hd_X11_blanks ⟨by decide, by decide⟩ 0 11 clX11 rfl mE0 (Nat.le_of_ble_eq_true rfl) dX11_held_73 rfl ⟨by decide, by decide⟩ (fun H locs hM => ?_)
            refine lv_goto (tgt := 42) hx hb dX11_held_76 (by decide) ?_
            exact hk42 _ _ hf _ _ _ hM (lv_sub hl [2, 0] rfl)
          · replace hf := it_t c14 hf
            refine lv_iconst (v := (-1)) hx hb dX11_held_65 (by decide) ?_
            refine lv_iload_n hx hb dX11_held_66 rfl (lv_at hl 0 rfl) ?_
            refine lv_isub hx hb dX11_held_67 ?_
            obtain ⟨e1, e2⟩ := so_2 hf
            cases e1; cases e2
            exact hQ _ _ _ _ _ _ dX11_held_68 hM (by decide) (by decide)
      · intro k42 hk42 hf
        exact hk42 _ _ hf _ _ _ hM (lv_sub hl [1, 0] rfl)
    · replace hf := it_f c3 hf
      refine lv_sipush (v := (-10000)) hx hb dX11_held_17 (by decide) ?_
      obtain ⟨e1, e2⟩ := so_2 hf
      cases e1; cases e2
      exact hQ _ _ _ _ _ _ dX11_held_20 hM (by decide) (by decide)

theorem hd_X11_next : yX11_next.cls = RX11 ∧ yX11_next.cls ≠ "java/lang/invoke/MethodHandle" ∧ yX11_next.cls ≠ "java/lang/invoke/VarHandle" ∧ (parseMethodDescriptor yX11_next.desc).map (fun d => d.parameters.length) = some 0 := by decide +kernel
theorem tX11_next_1 : Cond.fieldLink RX11 94 "WeatherTellerModel" "thrown" "I" ∈ wsX11_next := List.mem_of_getElem? (i := 1) rfl
theorem inX11_next_X11 : ∀ w ∈ u_ws RX11 TX11 50, w ∈ wsX11_next := fun _ h => List.mem_cons_of_mem _ (List.mem_append_right _ h)
theorem tX11_next_2 : Cond.fieldLink RX11 54 "WeatherTellerModel" "table" "[I" ∈ wsX11_next := List.mem_of_getElem? (i := 2) rfl
def b_X11_next_7 (k7 : Int32 → St → Option (St)) (v2 : Int32) (S3 : St) : Option (St) :=
  if 432 ≤ v2 then
    some S3
  else
    ck v2 864 <|
    ck (432 + v2) 864 <|
    nm (puI S3 14 (432 + v2).toNatClampNeg (S3.1 14 v2.toNatClampNeg)) fun S7 =>
    ck v2 864 <|
    nm (puI S7 14 v2.toNatClampNeg (-100)) fun S9 =>
    nm (v2 + 1) fun v10 =>
    k7 v10 S9
def f_X11_next (N : Nat)  (S : St) : Option (St) :=
  nm (puI S 0 2 0) fun S1 =>
  jp (lp (fun _ _ => none) (b_X11_next_7) N) fun k7 =>
  k7 0 S1
abbrev rmX11_next : Room := { frames := 0, cells := 0, slots := 0, locals := 0 }
set_option maxRecDepth 100000 in
set_option maxHeartbeats 4000000 in
theorem c_X11_next (l : Launch) (D : va_G) (cs : Nat → ClassId) (a : Nat → Nat) (N : Nat) (S : St) (Sz : St) (hf : f_X11_next N S = some Sz) : gMv l yX11_next wsX11_next rmX11_next D cs [.ref (a 0)] (mcells cs a S) (mcells cs a Sz) := by
  unfold f_X11_next at hf
  refine gE_v (cc := cX11_next) (maxL := 2) (by decide) rfl (Nat.le_of_ble_eq_true rfl) ?_
  intro p e s m args below meth c A Q hC hA hQ hM ls hl
  obtain ⟨hx, hb, hml, hown, hts⟩ := hC.1
  have hl : lv_has ls 2 [(0, .ref (a 0))] := hl
  refine lv_aload_n hx hb dX11_next_0 rfl (lv_at hl 0 rfl) ?_
  refine lv_iconst (v := 0) hx hb dX11_next_1 (by decide) ?_
  refine g_put hC hM inX11_next_X11 tyX11_ok nmX11 0 mE0 clX11 2 (by decide) tX11_next_1 TX11_2 tyX11_2 rfl rfl (by rw [mL0]; decide) mP0_2 dX11_next_2 (fun H locs hM => ?_)
  obtain ⟨S1, hf, hM⟩ := mnm hf hM
  refine lv_iconst (v := 0) hx hb dX11_next_5 (by decide) ?_
  refine lv_istore_n (lv' := [(1, .int 0), (0, .ref (a 0))]) hx hb dX11_next_6 rfl hl (by decide) rfl (fun ls hl => ?_)
  refine jl_W (fun k7 : Int32 → St → Option (St) => ∀ (v2 : Int32) (S3 : St), k7 v2 S3 = some Sz → ∀ (H : Heap) (locs : List Loc) (ls : Array Slot), gw D A s.heap H locs (mcells cs a S3) → lv_has ls 2 [(0, .ref (a 0)), (1, .int v2)] → W p l e rmX11_next s m args below meth c H locs 0 0 Q (F0 m 7 ls [])) ?_ ?_ ?_ hf
  · intro v2 S3 h; cases h
  · intro k7 hk7 v2 S3 hf H locs ls hM hl
    unfold b_X11_next_7 at hf
    refine lv_iload_n hx hb dX11_next_7 rfl (lv_at hl 1 rfl) ?_
    refine lv_sipush (v := 432) hx hb dX11_next_8 (by decide) ?_
    refine lv_icmp_ge (tgt := 44) hx hb dX11_next_11 (by decide) (fun c4 => ?_) (fun c4 => ?_)
    · replace hf := it_t c4 hf
      cases so_1 hf
      exact hQ _ _ _ _ _ _ dX11_next_44 hM (by decide) (by decide)
    · replace hf := it_f c4 hf
      refine lv_aload_n hx hb dX11_next_14 rfl (lv_at hl 0 rfl) ?_
      refine g_get hC hM inX11_next_X11 0 mE0 clX11 20 (by decide) tX11_next_2 TX11_20 mV0_20 dX11_next_15 ?_
      refine lv_sipush (v := 432) hx hb dX11_next_18 (by decide) ?_
      refine lv_iload_n hx hb dX11_next_21 rfl (lv_at hl 1 rfl) ?_
      refine lv_iadd hx hb dX11_next_22 ?_
      refine lv_aload_n hx hb dX11_next_23 rfl (lv_at hl 0 rfl) ?_
      refine g_get hC hM inX11_next_X11 0 mE0 clX11 20 (by decide) tX11_next_2 TX11_20 mV0_20 dX11_next_24 ?_
      refine lv_iload_n hx hb dX11_next_27 rfl (lv_at hl 1 rfl) ?_
      obtain ⟨h5, hf⟩ := ck_s hf
      refine g_iald hC hM 14 mE14 h5 dX11_next_28 ?_
      obtain ⟨h6, hf⟩ := ck_s hf
      refine g_iast hC hM 14 mE14 h6 mA14 dX11_next_29 (fun H locs hM => ?_)
      obtain ⟨S7, hf, hM⟩ := mnm hf hM
      refine lv_aload_n hx hb dX11_next_30 rfl (lv_at hl 0 rfl) ?_
      refine g_get hC hM inX11_next_X11 0 mE0 clX11 20 (by decide) tX11_next_2 TX11_20 mV0_20 dX11_next_31 ?_
      refine lv_iload_n hx hb dX11_next_34 rfl (lv_at hl 1 rfl) ?_
      refine lv_bipush (v := (-100)) hx hb dX11_next_35 (by decide) ?_
      obtain ⟨h8, hf⟩ := ck_s hf
      refine g_iast hC hM 14 mE14 h8 mA14 dX11_next_37 (fun H locs hM => ?_)
      obtain ⟨S9, hf, hM⟩ := mnm hf hM
      obtain ⟨v10, ev10⟩ : ∃ y : Int32, y = v2 + 1 := ⟨_, rfl⟩
      replace hf := nm_q ev10 hf
      refine lv_iinc (v := v10) (lv' := [(1, .int v10), (0, .ref (a 0))]) hx hb dX11_next_38 hl (k := 1) rfl (by rw [ev10]; rfl) (by decide) rfl (fun ls hl => ?_)
      refine lv_goto (tgt := 7) hx hb dX11_next_41 (by decide) ?_
      exact hk7 _ _ hf _ _ _ hM (lv_sub hl [1, 0] rfl)
  · intro k7 hk7 hf
    exact hk7 _ _ hf _ _ _ hM (lv_sub hl [1, 0] rfl)

theorem hd_X11_changed : yX11_changed.cls = RX11 ∧ yX11_changed.cls ≠ "java/lang/invoke/MethodHandle" ∧ yX11_changed.cls ≠ "java/lang/invoke/VarHandle" ∧ (parseMethodDescriptor yX11_changed.desc).map (fun d => d.parameters.length) = some 2 := by decide +kernel
theorem tX11_changed_1 : Cond.fieldLink RX11 94 "WeatherTellerModel" "thrown" "I" ∈ wsX11_changed := List.mem_of_getElem? (i := 1) rfl
theorem inX11_changed_X11 : ∀ w ∈ u_ws RX11 TX11 50, w ∈ wsX11_changed := fun _ h => List.mem_cons_of_mem _ (List.mem_append_right _ h)
theorem tX11_changed_2 : Cond.fieldLink RX11 180 "WeatherTellerModel" "places" "I" ∈ wsX11_changed := List.mem_of_getElem? (i := 2) rfl
theorem tX11_changed_3 : Cond.fieldLink RX11 54 "WeatherTellerModel" "table" "[I" ∈ wsX11_changed := List.mem_of_getElem? (i := 3) rfl
def j_X11_changed_145 (v6 : Int32) (k25 : Int32 → Int32 → Option (Int32 × St)) (v8 : Int32) : Option (Int32 × St) :=
  nm (v6 + 1) fun v9 =>
  k25 v8 v9
def j_X11_changed_139 (v11 : Int32) (k37 : Int32 → Int32 → Option (Int32 × St)) (v18 : Int32) : Option (Int32 × St) :=
  nm (v11 + 1) fun v19 =>
  k37 v18 v19
def j_X11_changed_110 (p1 : Int32) (v6 : Int32) (v10 : Int32) (v11 : Int32) (k37 : Int32 → Int32 → Option (Int32 × St)) (v14 : Int32) (v16 : Int32) (v17 : Int32) : Option (Int32 × St) :=
  jp (j_X11_changed_139 v11 k37) fun k139 =>
  if v14 = (-100) then
    k139 v10
  else
    if v16 = (-100) then
      k139 v10
    else
      if v17 ≤ p1 then
        k139 v10
      else
        nm (v10 ||| (1 <<< (v6 &&& 31))) fun v23 =>
        k139 v23
def b_X11_changed_37 (p0 : Int32) (p1 : Int32) (S1 : St) (v6 : Int32) (k145 : Int32 → Option (Int32 × St)) (k37 : Int32 → Int32 → Option (Int32 × St)) (v10 : Int32) (v11 : Int32) : Option (Int32 × St) :=
  if 24 ≤ v11 then
    k145 v10
  else
    ck (((144 * p0) + (24 * v6)) + v11) 864 <|
    nm (S1.1 14 (((144 * p0) + (24 * v6)) + v11).toNatClampNeg) fun v14 =>
    ck (((432 + (144 * p0)) + (24 * v6)) + v11) 864 <|
    nm (S1.1 14 (((432 + (144 * p0)) + (24 * v6)) + v11).toNatClampNeg) fun v16 =>
    jp (j_X11_changed_110 p1 v6 v10 v11 k37 v14 v16) fun k110 =>
    if v16 ≤ v14 then
      k110 (v14 - v16)
    else
      k110 (v16 - v14)
def b_X11_changed_25 (N : Nat) (p0 : Int32) (p1 : Int32) (S1 : St) (k25 : Int32 → Int32 → Option (Int32 × St)) (v5 : Int32) (v6 : Int32) : Option (Int32 × St) :=
  if (S1.1 0 3) ≤ v6 then
    some (v5, S1)
  else
    jp (j_X11_changed_145 v6 k25) fun k145 =>
    jp (lp (fun _ _ => none) (b_X11_changed_37 p0 p1 S1 v6 k145) N) fun k37 =>
    k37 v5 0
def f_X11_changed (N : Nat) (p0 : Int32) (p1 : Int32) (S : St) : Option (Int32 × St) :=
  nm (puI S 0 2 0) fun S1 =>
  if p0 < 0 then
    some ((-1), S1)
  else
    if 2 < p0 then
      some ((-1), S1)
    else
      if 0 ≤ p1 then
        jp (lp (fun _ _ => none) (b_X11_changed_25 N p0 p1 S1) N) fun k25 =>
        k25 0 0
      else
        some ((-1), S1)
abbrev rmX11_changed : Room := { frames := 0, cells := 0, slots := 0, locals := 0 }
set_option maxRecDepth 100000 in
set_option maxHeartbeats 4000000 in
theorem c_X11_changed (l : Launch) (D : va_G) (cs : Nat → ClassId) (a : Nat → Nat) (N : Nat) (p0 : Int32) (p1 : Int32) (S : St) (rz : Int32) (Sz : St) (hf : f_X11_changed N p0 p1 S = some (rz, Sz)) : gMi l yX11_changed wsX11_changed rmX11_changed D cs [.ref (a 0), .int p0, .int p1] (mcells cs a S) rz (mcells cs a Sz) := by
  unfold f_X11_changed at hf
  refine gE_i (cc := cX11_changed) (maxL := 9) (by decide) rfl (Nat.le_of_ble_eq_true rfl) ?_
  intro p e s m args below meth c A Q hC hA hQ hM ls hl
  obtain ⟨hx, hb, hml, hown, hts⟩ := hC.1
  have hl : lv_has ls 9 [(0, .ref (a 0)), (1, .int p0), (2, .int p1)] := hl
  refine lv_aload_n hx hb dX11_changed_0 rfl (lv_at hl 0 rfl) ?_
  refine lv_iconst (v := 0) hx hb dX11_changed_1 (by decide) ?_
  refine g_put hC hM inX11_changed_X11 tyX11_ok nmX11 0 mE0 clX11 2 (by decide) tX11_changed_1 TX11_2 tyX11_2 rfl rfl (by rw [mL0]; decide) mP0_2 dX11_changed_2 (fun H locs hM => ?_)
  obtain ⟨S1, hf, hM⟩ := mnm hf hM
  refine lv_iload_n hx hb dX11_changed_5 rfl (lv_at hl 1 rfl) ?_
  refine lv_if_lt (tgt := 18) hx hb dX11_changed_6 (by decide) (fun c2 => ?_) (fun c2 => ?_)
  · replace hf := it_t c2 hf
    refine lv_iconst (v := (-1)) hx hb dX11_changed_18 (by decide) ?_
    obtain ⟨e1, e2⟩ := so_2 hf
    cases e1; cases e2
    exact hQ _ _ _ _ _ _ dX11_changed_19 hM (by decide) (by decide)
  · replace hf := it_f c2 hf
    refine lv_iload_n hx hb dX11_changed_9 rfl (lv_at hl 1 rfl) ?_
    refine lv_iconst (v := 2) hx hb dX11_changed_10 (by decide) ?_
    refine lv_icmp_gt (tgt := 18) hx hb dX11_changed_11 (by decide) (fun c3 => ?_) (fun c3 => ?_)
    · replace hf := it_t c3 hf
      refine lv_iconst (v := (-1)) hx hb dX11_changed_18 (by decide) ?_
      obtain ⟨e1, e2⟩ := so_2 hf
      cases e1; cases e2
      exact hQ _ _ _ _ _ _ dX11_changed_19 hM (by decide) (by decide)
    · replace hf := it_f c3 hf
      refine lv_iload_n hx hb dX11_changed_14 rfl (lv_at hl 2 rfl) ?_
      refine lv_if_ge (tgt := 20) hx hb dX11_changed_15 (by decide) (fun c4 => ?_) (fun c4 => ?_)
      · replace hf := it_t c4 hf
        refine lv_iconst (v := 0) hx hb dX11_changed_20 (by decide) ?_
        refine lv_istore_n (lv' := [(3, .int 0), (0, .ref (a 0)), (1, .int p0), (2, .int p1)]) hx hb dX11_changed_21 rfl hl (by decide) rfl (fun ls hl => ?_)
        refine lv_iconst (v := 0) hx hb dX11_changed_22 (by decide) ?_
        refine lv_istore (lv' := [(4, .int 0), (3, .int 0), (0, .ref (a 0)), (1, .int p0), (2, .int p1)]) hx hb dX11_changed_23 hl (by decide) rfl (fun ls hl => ?_)
        refine jl_W (fun k25 : Int32 → Int32 → Option (Int32 × St) => ∀ (v5 : Int32) (v6 : Int32), k25 v5 v6 = some (rz, Sz) → ∀ (H : Heap) (locs : List Loc) (ls : Array Slot), gw D A s.heap H locs (mcells cs a S1) → lv_has ls 9 [(0, .ref (a 0)), (1, .int p0), (2, .int p1), (3, .int v5), (4, .int v6)] → W p l e rmX11_changed s m args below meth c H locs 0 0 Q (F0 m 25 ls [])) ?_ ?_ ?_ hf
        · intro v5 v6 h; cases h
        · intro k25 hk25 v5 v6 hf H locs ls hM hl
          unfold b_X11_changed_25 at hf
          refine lv_iload hx hb dX11_changed_25 (lv_at hl 4 rfl) ?_
          refine lv_aload_n hx hb dX11_changed_27 rfl (lv_at hl 0 rfl) ?_
          refine g_get hC hM inX11_changed_X11 0 mE0 clX11 3 (by decide) tX11_changed_2 TX11_3 mV0_3 dX11_changed_28 ?_
          refine lv_icmp_ge (tgt := 151) hx hb dX11_changed_31 (by decide) (fun c7 => ?_) (fun c7 => ?_)
          · replace hf := it_t c7 hf
            refine lv_iload_n hx hb dX11_changed_151 rfl (lv_at hl 3 rfl) ?_
            obtain ⟨e1, e2⟩ := so_2 hf
            cases e1; cases e2
            exact hQ _ _ _ _ _ _ dX11_changed_152 hM (by decide) (by decide)
          · replace hf := it_f c7 hf
            refine lv_iconst (v := 0) hx hb dX11_changed_34 (by decide) ?_
            refine lv_istore (lv' := [(5, .int 0), (0, .ref (a 0)), (1, .int p0), (2, .int p1), (3, .int v5), (4, .int v6)]) hx hb dX11_changed_35 hl (by decide) rfl (fun ls hl => ?_)
            refine jp_W (fun k145 : Int32 → Option (Int32 × St) => ∀ (v8 : Int32), k145 v8 = some (rz, Sz) → ∀ (H : Heap) (locs : List Loc) (ls : Array Slot), gw D A s.heap H locs (mcells cs a S1) → lv_has ls 9 [(0, .ref (a 0)), (1, .int p0), (2, .int p1), (3, .int v8), (4, .int v6)] → W p l e rmX11_changed s m args below meth c H locs 0 0 Q (F0 m 145 ls [])) ?_ ?_ hf
            · intro v8 hf H locs ls hM hl
              unfold j_X11_changed_145 at hf
              obtain ⟨v9, ev9⟩ : ∃ y : Int32, y = v6 + 1 := ⟨_, rfl⟩
              replace hf := nm_q ev9 hf
              refine lv_iinc (v := v9) (lv' := [(4, .int v9), (0, .ref (a 0)), (1, .int p0), (2, .int p1), (3, .int v8)]) hx hb dX11_changed_145 hl (k := 4) rfl (by rw [ev9]; rfl) (by decide) rfl (fun ls hl => ?_)
              refine lv_goto (tgt := 25) hx hb dX11_changed_148 (by decide) ?_
              exact hk25 _ _ hf _ _ _ hM (lv_sub hl [1, 2, 3, 4, 0] rfl)
            · intro k145 hk145 hf
              refine jl_W (fun k37 : Int32 → Int32 → Option (Int32 × St) => ∀ (v10 : Int32) (v11 : Int32), k37 v10 v11 = some (rz, Sz) → ∀ (H : Heap) (locs : List Loc) (ls : Array Slot), gw D A s.heap H locs (mcells cs a S1) → lv_has ls 9 [(0, .ref (a 0)), (1, .int p0), (2, .int p1), (3, .int v10), (4, .int v6), (5, .int v11)] → W p l e rmX11_changed s m args below meth c H locs 0 0 Q (F0 m 37 ls [])) ?_ ?_ ?_ hf
              · intro v10 v11 h; cases h
              · intro k37 hk37 v10 v11 hf H locs ls hM hl
                unfold b_X11_changed_37 at hf
                refine lv_iload hx hb dX11_changed_37 (lv_at hl 5 rfl) ?_
                refine lv_bipush (v := 24) hx hb dX11_changed_39 (by decide) ?_
                refine lv_icmp_ge (tgt := 145) hx hb dX11_changed_41 (by decide) (fun c12 => ?_) (fun c12 => ?_)
                · replace hf := it_t c12 hf
                  exact hk145 _ hf _ _ _ hM (lv_sub hl [0, 1, 2, 3, 4] rfl)
                · replace hf := it_f c12 hf
                  refine lv_aload_n hx hb dX11_changed_44 rfl (lv_at hl 0 rfl) ?_
                  refine g_get hC hM inX11_changed_X11 0 mE0 clX11 20 (by decide) tX11_changed_3 TX11_20 mV0_20 dX11_changed_45 ?_
                  refine lv_sipush (v := 144) hx hb dX11_changed_48 (by decide) ?_
                  refine lv_iload_n hx hb dX11_changed_51 rfl (lv_at hl 1 rfl) ?_
                  refine lv_imul hx hb dX11_changed_52 ?_
                  refine lv_bipush (v := 24) hx hb dX11_changed_53 (by decide) ?_
                  refine lv_iload hx hb dX11_changed_55 (lv_at hl 4 rfl) ?_
                  refine lv_imul hx hb dX11_changed_57 ?_
                  refine lv_iadd hx hb dX11_changed_58 ?_
                  refine lv_iload hx hb dX11_changed_59 (lv_at hl 5 rfl) ?_
                  refine lv_iadd hx hb dX11_changed_61 ?_
                  obtain ⟨h13, hf⟩ := ck_s hf
                  refine g_iald hC hM 14 mE14 h13 dX11_changed_62 ?_
                  refine lv_topi (fun v14 ev14 => ?_)
                  replace hf := nm_q ev14 hf
                  refine lv_istore (lv' := [(6, .int v14), (0, .ref (a 0)), (1, .int p0), (2, .int p1), (3, .int v10), (4, .int v6), (5, .int v11)]) hx hb dX11_changed_63 hl (by decide) rfl (fun ls hl => ?_)
                  refine lv_aload_n hx hb dX11_changed_65 rfl (lv_at hl 1 rfl) ?_
                  refine g_get hC hM inX11_changed_X11 0 mE0 clX11 20 (by decide) tX11_changed_3 TX11_20 mV0_20 dX11_changed_66 ?_
                  refine lv_sipush (v := 432) hx hb dX11_changed_69 (by decide) ?_
                  refine lv_sipush (v := 144) hx hb dX11_changed_72 (by decide) ?_
                  refine lv_iload_n hx hb dX11_changed_75 rfl (lv_at hl 2 rfl) ?_
                  refine lv_imul hx hb dX11_changed_76 ?_
                  refine lv_iadd hx hb dX11_changed_77 ?_
                  refine lv_bipush (v := 24) hx hb dX11_changed_78 (by decide) ?_
                  refine lv_iload hx hb dX11_changed_80 (lv_at hl 5 rfl) ?_
                  refine lv_imul hx hb dX11_changed_82 ?_
                  refine lv_iadd hx hb dX11_changed_83 ?_
                  refine lv_iload hx hb dX11_changed_84 (lv_at hl 6 rfl) ?_
                  refine lv_iadd hx hb dX11_changed_86 ?_
                  obtain ⟨h15, hf⟩ := ck_s hf
                  refine g_iald hC hM 14 mE14 h15 dX11_changed_87 ?_
                  refine lv_topi (fun v16 ev16 => ?_)
                  replace hf := nm_q ev16 hf
                  refine lv_istore (lv' := [(7, .int v16), (6, .int v14), (0, .ref (a 0)), (1, .int p0), (2, .int p1), (3, .int v10), (4, .int v6), (5, .int v11)]) hx hb dX11_changed_88 hl (by decide) rfl (fun ls hl => ?_)
                  refine lv_iload hx hb dX11_changed_90 (lv_at hl 1 rfl) ?_
                  refine lv_iload hx hb dX11_changed_92 (lv_at hl 0 rfl) ?_
                  refine jp_W (fun k110 : Int32 → Option (Int32 × St) => ∀ (v17 : Int32), k110 v17 = some (rz, Sz) → ∀ (H : Heap) (locs : List Loc) (ls : Array Slot), gw D A s.heap H locs (mcells cs a S1) → lv_has ls 9 [(0, .ref (a 0)), (1, .int p0), (2, .int p1), (3, .int v10), (4, .int v6), (5, .int v11), (6, .int v14), (7, .int v16)] → W p l e rmX11_changed s m args below meth c H locs 0 0 Q (F0 m 110 ls [.int v17])) ?_ ?_ hf
                  · intro v17 hf H locs ls hM hl
                    unfold j_X11_changed_110 at hf
                    refine lv_istore (lv' := [(8, .int v17), (0, .ref (a 0)), (1, .int p0), (2, .int p1), (3, .int v10), (4, .int v6), (5, .int v11), (6, .int v14), (7, .int v16)]) hx hb dX11_changed_110 hl (by decide) rfl (fun ls hl => ?_)
                    refine lv_iload hx hb dX11_changed_112 (lv_at hl 7 rfl) ?_
                    refine lv_bipush (v := (-100)) hx hb dX11_changed_114 (by decide) ?_
                    refine jp_W (fun k139 : Int32 → Option (Int32 × St) => ∀ (v18 : Int32), k139 v18 = some (rz, Sz) → ∀ (H : Heap) (locs : List Loc) (ls : Array Slot), gw D A s.heap H locs (mcells cs a S1) → lv_has ls 9 [(0, .ref (a 0)), (1, .int p0), (2, .int p1), (3, .int v18), (4, .int v6), (5, .int v11)] → W p l e rmX11_changed s m args below meth c H locs 0 0 Q (F0 m 139 ls [])) ?_ ?_ hf
                    · intro v18 hf H locs ls hM hl
                      unfold j_X11_changed_139 at hf
                      obtain ⟨v19, ev19⟩ : ∃ y : Int32, y = v11 + 1 := ⟨_, rfl⟩
                      replace hf := nm_q ev19 hf
                      refine lv_iinc (v := v19) (lv' := [(5, .int v19), (0, .ref (a 0)), (1, .int p0), (2, .int p1), (3, .int v18), (4, .int v6)]) hx hb dX11_changed_139 hl (k := 5) rfl (by rw [ev19]; rfl) (by decide) rfl (fun ls hl => ?_)
                      refine lv_goto (tgt := 37) hx hb dX11_changed_142 (by decide) ?_
                      exact hk37 _ _ hf _ _ _ hM (lv_sub hl [1, 2, 3, 4, 5, 0] rfl)
                    · intro k139 hk139 hf
                      refine lv_icmp_eq (tgt := 139) hx hb dX11_changed_116 (by decide) (fun c20 => ?_) (fun c20 => ?_)
                      · replace hf := it_t c20 hf
                        exact hk139 _ hf _ _ _ hM (lv_sub hl [1, 2, 3, 4, 5, 6] rfl)
                      · replace hf := it_f c20 hf
                        refine lv_iload hx hb dX11_changed_119 (lv_at hl 8 rfl) ?_
                        refine lv_bipush (v := (-100)) hx hb dX11_changed_121 (by decide) ?_
                        refine lv_icmp_eq (tgt := 139) hx hb dX11_changed_123 (by decide) (fun c21 => ?_) (fun c21 => ?_)
                        · replace hf := it_t c21 hf
                          exact hk139 _ hf _ _ _ hM (lv_sub hl [1, 2, 3, 4, 5, 6] rfl)
                        · replace hf := it_f c21 hf
                          refine lv_iload hx hb dX11_changed_126 (lv_at hl 0 rfl) ?_
                          refine lv_iload_n hx hb dX11_changed_128 rfl (lv_at hl 3 rfl) ?_
                          refine lv_icmp_le (tgt := 139) hx hb dX11_changed_129 (by decide) (fun c22 => ?_) (fun c22 => ?_)
                          · replace hf := it_t c22 hf
                            exact hk139 _ hf _ _ _ hM (lv_sub hl [1, 2, 3, 4, 5, 6] rfl)
                          · replace hf := it_f c22 hf
                            refine lv_iload_n hx hb dX11_changed_132 rfl (lv_at hl 4 rfl) ?_
                            refine lv_iconst (v := 1) hx hb dX11_changed_133 (by decide) ?_
                            refine lv_iload hx hb dX11_changed_134 (lv_at hl 5 rfl) ?_
                            refine lv_ishl hx hb dX11_changed_136 ?_
                            refine lv_ior hx hb dX11_changed_137 ?_
                            refine lv_topi (fun v23 ev23 => ?_)
                            replace hf := nm_q ev23 hf
                            refine lv_istore_n (lv' := [(3, .int v23), (8, .int v17), (0, .ref (a 0)), (1, .int p0), (2, .int p1), (4, .int v6), (5, .int v11), (6, .int v14), (7, .int v16)]) hx hb dX11_changed_138 rfl hl (by decide) rfl (fun ls hl => ?_)
                            exact hk139 _ hf _ _ _ hM (lv_sub hl [2, 3, 4, 0, 5, 6] rfl)
                  · intro k110 hk110 hf
                    refine lv_icmp_ge (tgt := 105) hx hb dX11_changed_94 (by decide) (fun c24 => ?_) (fun c24 => ?_)
                    · replace hf := it_t c24 hf
                      refine lv_iload hx hb dX11_changed_105 (lv_at hl 1 rfl) ?_
                      refine lv_iload hx hb dX11_changed_107 (lv_at hl 0 rfl) ?_
                      refine lv_isub hx hb dX11_changed_109 ?_
                      exact hk110 _ hf _ _ _ hM (lv_sub hl [2, 3, 4, 5, 6, 7, 1, 0] rfl)
                    · replace hf := it_f c24 hf
                      refine lv_iload hx hb dX11_changed_97 (lv_at hl 0 rfl) ?_
                      refine lv_iload hx hb dX11_changed_99 (lv_at hl 1 rfl) ?_
                      refine lv_isub hx hb dX11_changed_101 ?_
                      refine lv_goto (tgt := 110) hx hb dX11_changed_102 (by decide) ?_
                      exact hk110 _ hf _ _ _ hM (lv_sub hl [2, 3, 4, 5, 6, 7, 1, 0] rfl)
              · intro k37 hk37 hf
                exact hk37 _ _ hf _ _ _ hM (lv_sub hl [1, 2, 3, 4, 5, 0] rfl)
        · intro k25 hk25 hf
          exact hk25 _ _ hf _ _ _ hM (lv_sub hl [2, 3, 4, 1, 0] rfl)
      · replace hf := it_f c4 hf
        refine lv_iconst (v := (-1)) hx hb dX11_changed_18 (by decide) ?_
        obtain ⟨e1, e2⟩ := so_2 hf
        cases e1; cases e2
        exact hQ _ _ _ _ _ _ dX11_changed_19 hM (by decide) (by decide)
