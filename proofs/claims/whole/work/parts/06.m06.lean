theorem hd_X11_choose : yX11_choose.cls = RX11 ∧ yX11_choose.cls ≠ "java/lang/invoke/MethodHandle" ∧ yX11_choose.cls ≠ "java/lang/invoke/VarHandle" ∧ (parseMethodDescriptor yX11_choose.desc).map (fun d => d.parameters.length) = some 1 := by decide +kernel
theorem tX11_choose_2 : Cond.fieldLink RX11 211 "WeatherTellerModel" "findings" "I" ∈ wsX11_choose := List.mem_of_getElem? (i := 2) rfl
theorem inX11_choose_X11 : ∀ w ∈ u_ws RX11 TX11 50, w ∈ wsX11_choose := fun _ h => List.mem_cons_of_mem _ (List.mem_append_right _ h)
theorem tX11_choose_5 : Cond.fieldLink RX11 87 "WeatherTellerModel" "taken" "[Z" ∈ wsX11_choose := List.mem_of_getElem? (i := 5) rfl
theorem tX11_choose_3 : Cond.fieldLink RX11 34 "WeatherTellerModel" "bWarn" "[Z" ∈ wsX11_choose := List.mem_of_getElem? (i := 3) rfl
theorem tX11_choose_4 : Cond.fieldLink RX11 60 "WeatherTellerModel" "fBand" "[I" ∈ wsX11_choose := List.mem_of_getElem? (i := 4) rfl
theorem tX11_choose_1 : Cond.fieldLink RX11 91 "WeatherTellerModel" "best" "[I" ∈ wsX11_choose := List.mem_of_getElem? (i := 1) rfl
def j_X11_choose_285 (v5 : Int32) (k178 : Int32 → Int32 → St → Option (St)) (S14 : St) (v16 : Int32) : Option (St) :=
  nm (v5 + 1) fun v17 =>
  k178 v16 v17 S14
def j_X11_choose_270 (v4 : Int32) (v5 : Int32) (S6 : St) (k178 : Int32 → Int32 → St → Option (St)) (v8 : Int32) (v11 : Int32) (v12 : Int32) : Option (St) :=
  ck v11 432 <|
  nm (puI S6 25 v11.toNatClampNeg (vp_nar .boolean v12)) fun S14 =>
  ck v5 432 <|
  jp (j_X11_choose_285 v5 k178 S14) fun k285 =>
  if (S14.1 25 v5.toNatClampNeg) = 0 then
    k285 v4
  else
    nm (v4 - v8) fun v19 =>
    k285 v19
def j_X11_choose_269 (k270 : Int32 → Int32 → Option (St)) (v20 : Int32) : Option (St) :=
  k270 v20 0
def b_X11_choose_178 (N : Nat) (k178 : Int32 → Int32 → St → Option (St)) (v4 : Int32) (v5 : Int32) (S6 : St) : Option (St) :=
  if (S6.1 0 32) ≤ v5 then
    some S6
  else
    bd (f_X11_sizeOf N v5 S6) fun v8 =>
    ck v5 432 <|
    ck (S6.1 16 v5.toNatClampNeg) 48 <|
    jp (j_X11_choose_270 v4 v5 S6 k178 v8) fun k270 =>
    jp (j_X11_choose_269 k270) fun k269 =>
    if (S6.1 9 (S6.1 16 v5.toNatClampNeg).toNatClampNeg) = 0 then
      if v4 < v8 then
        k269 v5
      else
        bd (f_X11_weightOf N v5 S6) fun v23 =>
        ck ((((401 * v5) + 401) + v4) - v8) 173633 <|
        ck ((401 * v5) + v4) 173633 <|
        if (((512 * v23) - v8) + (S6.1 26 ((((401 * v5) + 401) + v4) - v8).toNatClampNeg)) = (S6.1 26 ((401 * v5) + v4).toNatClampNeg) then
          k270 v5 1
        else
          k269 v5
    else
      k269 v5
def j_X11_choose_174 (N : Nat) (p0 : Int32) (S3 : St) : Option (St) :=
  jp (lp (fun _ _ _ => none) (b_X11_choose_178 N) N) fun k178 =>
  k178 p0 0 S3
def j_X11_choose_168 (v27 : Int32) (k36 : Int32 → St → Option (St)) (S33 : St) : Option (St) :=
  nm (v27 + (-1)) fun v34 =>
  k36 v34 S33
def j_X11_choose_161 (v35 : Int32) (S36 : St) (k62 : Int32 → St → Option (St)) (v43 : Int32) (v44 : Int32) : Option (St) :=
  ck v43 173633 <|
  nm (puI S36 26 v43.toNatClampNeg v44) fun S46 =>
  nm (v35 + 1) fun v47 =>
  k62 v47 S46
def j_X11_choose_133 (v27 : Int32) (v35 : Int32) (S36 : St) (k62 : Int32 → St → Option (St)) (v39 : Int32) (v42 : Int32) : Option (St) :=
  jp (j_X11_choose_161 v35 S36 k62) fun k161 =>
  if v42 < v39 then
    k161 ((401 * v27) + v35) v39
  else
    k161 ((401 * v27) + v35) v42
def j_X11_choose_107 (k133 : Int32 → Option (St))  : Option (St) :=
  k133 (-1)
def b_X11_choose_62 (p0 : Int32) (v27 : Int32) (v30 : Int32) (v32 : Int32) (k168 : St → Option (St)) (k62 : Int32 → St → Option (St)) (v35 : Int32) (S36 : St) : Option (St) :=
  if p0 < v35 then
    k168 S36
  else
    ck (((401 * v27) + 401) + v35) 173633 <|
    nm (S36.1 26 (((401 * v27) + 401) + v35).toNatClampNeg) fun v39 =>
    ck v27 432 <|
    ck (S36.1 16 v27.toNatClampNeg) 48 <|
    jp (j_X11_choose_133 v27 v35 S36 k62 v39) fun k133 =>
    jp (j_X11_choose_107 k133) fun k107 =>
    if (S36.1 9 (S36.1 16 v27.toNatClampNeg).toNatClampNeg) = 0 then
      if v30 ≤ v35 then
        ck ((((401 * v27) + 401) + v35) - v30) 173633 <|
        k133 (v32 + (S36.1 26 ((((401 * v27) + 401) + v35) - v30).toNatClampNeg))
      else
        k107
    else
      k107
def b_X11_choose_36 (N : Nat) (p0 : Int32) (k174 : St → Option (St)) (k36 : Int32 → St → Option (St)) (v27 : Int32) (S28 : St) : Option (St) :=
  if v27 < 0 then
    k174 S28
  else
    bd (f_X11_sizeOf N v27 S28) fun v30 =>
    bd (f_X11_weightOf N v27 S28) fun v31 =>
    nm ((512 * v31) - v30) fun v32 =>
    jp (j_X11_choose_168 v27 k36) fun k168 =>
    jp (lp (fun _ _ => none) (b_X11_choose_62 p0 v27 v30 v32 k168) N) fun k62 =>
    k62 0 S28
def j_X11_choose_29 (N : Nat) (p0 : Int32) (S1 : St) : Option (St) :=
  nm ((S1.1 0 32) - 1) fun v2 =>
  jp (j_X11_choose_174 N p0) fun k174 =>
  jp (lp (fun _ _ => none) (b_X11_choose_36 N p0 k174) N) fun k36 =>
  k36 v2 S1
def b_X11_choose_2 (p0 : Int32) (k29 : St → Option (St)) (k2 : Int32 → St → Option (St)) (v52 : Int32) (S53 : St) : Option (St) :=
  if p0 < v52 then
    k29 S53
  else
    ck ((401 * (S53.1 0 32)) + v52) 173633 <|
    nm (puI S53 26 ((401 * (S53.1 0 32)) + v52).toNatClampNeg 0) fun S56 =>
    nm (v52 + 1) fun v57 =>
    k2 v57 S56
def f_X11_choose (N : Nat) (p0 : Int32) (S : St) : Option (St) :=
  jp (j_X11_choose_29 N p0) fun k29 =>
  jp (lp (fun _ _ => none) (b_X11_choose_2 p0 k29) N) fun k2 =>
  k2 0 S
abbrev rmX11_choose : Room := { frames := 3, cells := 0, slots := 0, locals := 69 }
set_option maxRecDepth 100000 in
set_option maxHeartbeats 4000000 in
theorem c_X11_choose (l : Launch) (D : va_G) (cs : Nat → ClassId) (a : Nat → Nat) (N : Nat) (p0 : Int32) (S : St) (Sz : St) (hf : f_X11_choose N p0 S = some Sz) : gMv l yX11_choose wsX11_choose rmX11_choose D cs [.ref (a 0), .int p0] (mcells cs a S) (mcells cs a Sz) := by
  unfold f_X11_choose at hf
  refine gE_v (cc := cX11_choose) (maxL := 8) (by decide) rfl (Nat.le_of_ble_eq_true rfl) ?_
  intro p e s m args below meth c A Q hC hA hQ hM ls hl
  obtain ⟨hx, hb, hml, hown, hts⟩ := hC.1
  have hl : lv_has ls 8 [(0, .ref (a 0)), (1, .int p0)] := hl
  refine lv_iconst (v := 0) hx hb dX11_choose_0 (by decide) ?_
  refine lv_istore_n (lv' := [(2, .int 0), (0, .ref (a 0)), (1, .int p0)]) hx hb dX11_choose_1 rfl hl (by decide) rfl (fun ls hl => ?_)
  refine jp_W (fun k29 : St → Option (St) => ∀ (S1 : St), k29 S1 = some Sz → ∀ (H : Heap) (locs : List Loc) (ls : Array Slot), gw D A s.heap H locs (mcells cs a S1) → lv_has ls 8 [(0, .ref (a 0)), (1, .int p0)] → W p l e rmX11_choose s m args below meth c H locs 0 0 Q (F0 m 29 ls [])) ?_ ?_ hf
  · intro S1 hf H locs ls hM hl
    unfold j_X11_choose_29 at hf
    refine lv_aload_n hx hb dX11_choose_29 rfl (lv_at hl 0 rfl) ?_
    refine g_get hC hM inX11_choose_X11 0 mE0 clX11 32 (by decide) tX11_choose_2 TX11_32 mV0_32 dX11_choose_30 ?_
    refine lv_iconst (v := 1) hx hb dX11_choose_33 (by decide) ?_
    refine lv_isub hx hb dX11_choose_34 ?_
    refine lv_topi (fun v2 ev2 => ?_)
    replace hf := nm_q ev2 hf
    refine lv_istore_n (lv' := [(2, .int v2), (0, .ref (a 0)), (1, .int p0)]) hx hb dX11_choose_35 rfl hl (by decide) rfl (fun ls hl => ?_)
    refine jp_W (fun k174 : St → Option (St) => ∀ (S3 : St), k174 S3 = some Sz → ∀ (H : Heap) (locs : List Loc) (ls : Array Slot), gw D A s.heap H locs (mcells cs a S3) → lv_has ls 8 [(0, .ref (a 0)), (1, .int p0)] → W p l e rmX11_choose s m args below meth c H locs 0 0 Q (F0 m 174 ls [])) ?_ ?_ hf
    · intro S3 hf H locs ls hM hl
      unfold j_X11_choose_174 at hf
      refine lv_iload_n hx hb dX11_choose_174 rfl (lv_at hl 1 rfl) ?_
      refine lv_istore_n (lv' := [(2, .int p0), (0, .ref (a 0)), (1, .int p0)]) hx hb dX11_choose_175 rfl hl (by decide) rfl (fun ls hl => ?_)
      refine lv_iconst (v := 0) hx hb dX11_choose_176 (by decide) ?_
      refine lv_istore_n (lv' := [(3, .int 0), (2, .int p0), (0, .ref (a 0)), (1, .int p0)]) hx hb dX11_choose_177 rfl hl (by decide) rfl (fun ls hl => ?_)
      refine jl_W (fun k178 : Int32 → Int32 → St → Option (St) => ∀ (v4 : Int32) (v5 : Int32) (S6 : St), k178 v4 v5 S6 = some Sz → ∀ (H : Heap) (locs : List Loc) (ls : Array Slot), gw D A s.heap H locs (mcells cs a S6) → lv_has ls 8 [(0, .ref (a 0)), (2, .int v4), (3, .int v5)] → W p l e rmX11_choose s m args below meth c H locs 0 0 Q (F0 m 178 ls [])) ?_ ?_ ?_ hf
      · intro v4 v5 S6 h; cases h
      · intro k178 hk178 v4 v5 S6 hf H locs ls hM hl
        unfold b_X11_choose_178 at hf
        refine lv_iload_n hx hb dX11_choose_178 rfl (lv_at hl 2 rfl) ?_
        refine lv_aload_n hx hb dX11_choose_179 rfl (lv_at hl 0 rfl) ?_
        refine g_get hC hM inX11_choose_X11 0 mE0 clX11 32 (by decide) tX11_choose_2 TX11_32 mV0_32 dX11_choose_180 ?_
        refine lv_icmp_ge (tgt := 291) hx hb dX11_choose_183 (by decide) (fun c7 => ?_) (fun c7 => ?_)
        · replace hf := it_t c7 hf
          cases so_1 hf
          exact hQ _ _ _ _ _ _ dX11_choose_291 hM (by decide) (by decide)
        · replace hf := it_f c7 hf
          refine lv_aload_n hx hb dX11_choose_186 rfl (lv_at hl 0 rfl) ?_
          refine lv_iload_n hx hb dX11_choose_187 rfl (lv_at hl 2 rfl) ?_
          obtain ⟨v8, hc, hf⟩ := bd_s hf
          refine gV_i hC hM hA hl.1 [.int v5] [] (c_X11_sizeOf l D cs a N v5 S6 v8 hc) gX11_choose_X11_sizeOf rfl hd_X11_sizeOf ⟨by decide, by decide⟩ 0 11 clX11 rfl mE0 (Nat.le_of_ble_eq_true rfl) dX11_choose_188 rfl ⟨by decide, by decide⟩ (fun H locs hM => ?_)
          refine lv_istore (lv' := [(4, .int v8), (0, .ref (a 0)), (2, .int v4), (3, .int v5)]) hx hb dX11_choose_191 hl (by decide) rfl (fun ls hl => ?_)
          refine lv_aload_n hx hb dX11_choose_193 rfl (lv_at hl 1 rfl) ?_
          refine g_get hC hM inX11_choose_X11 0 mE0 clX11 45 (by decide) tX11_choose_5 TX11_45 mV0_45 dX11_choose_194 ?_
          refine lv_iload_n hx hb dX11_choose_197 rfl (lv_at hl 3 rfl) ?_
          refine lv_aload_n hx hb dX11_choose_198 rfl (lv_at hl 1 rfl) ?_
          refine g_get hC hM inX11_choose_X11 0 mE0 clX11 13 (by decide) tX11_choose_3 TX11_13 mV0_13 dX11_choose_199 ?_
          refine lv_aload_n hx hb dX11_choose_202 rfl (lv_at hl 1 rfl) ?_
          refine g_get hC hM inX11_choose_X11 0 mE0 clX11 33 (by decide) tX11_choose_4 TX11_33 mV0_33 dX11_choose_203 ?_
          refine lv_iload_n hx hb dX11_choose_206 rfl (lv_at hl 3 rfl) ?_
          obtain ⟨h9, hf⟩ := ck_s hf
          refine g_iald hC hM 16 mE16 h9 dX11_choose_207 ?_
          obtain ⟨h10, hf⟩ := ck_s hf
          refine g_zald hC hM 9 mE9 h10 dX11_choose_208 ?_
          refine jp_W (fun k270 : Int32 → Int32 → Option (St) => ∀ (v11 : Int32) (v12 : Int32), k270 v11 v12 = some Sz → ∀ (H : Heap) (locs : List Loc) (ls : Array Slot), gw D A s.heap H locs (mcells cs a S6) → lv_has ls 8 [(0, .ref (a 0)), (2, .int v4), (3, .int v5), (4, .int v8)] → W p l e rmX11_choose s m args below meth c H locs 0 0 Q (F0 m 270 ls [.int v12, .int v11, .ref (a 25)])) ?_ ?_ hf
          · intro v11 v12 hf H locs ls hM hl
            unfold j_X11_choose_270 at hf
            obtain ⟨h13, hf⟩ := ck_s hf
            refine g_zast hC hM 25 mE25 h13 mA25 dX11_choose_270 (fun H locs hM => ?_)
            obtain ⟨S14, hf, hM⟩ := mnm hf hM
            refine lv_aload_n hx hb dX11_choose_271 rfl (lv_at hl 0 rfl) ?_
            refine g_get hC hM inX11_choose_X11 0 mE0 clX11 45 (by decide) tX11_choose_5 TX11_45 mV0_45 dX11_choose_272 ?_
            refine lv_iload_n hx hb dX11_choose_275 rfl (lv_at hl 2 rfl) ?_
            obtain ⟨h15, hf⟩ := ck_s hf
            refine g_zald hC hM 25 mE25 h15 dX11_choose_276 ?_
            refine jp_W (fun k285 : Int32 → Option (St) => ∀ (v16 : Int32), k285 v16 = some Sz → ∀ (H : Heap) (locs : List Loc) (ls : Array Slot), gw D A s.heap H locs (mcells cs a S14) → lv_has ls 8 [(0, .ref (a 0)), (2, .int v16), (3, .int v5)] → W p l e rmX11_choose s m args below meth c H locs 0 0 Q (F0 m 285 ls [])) ?_ ?_ hf
            · intro v16 hf H locs ls hM hl
              unfold j_X11_choose_285 at hf
              obtain ⟨v17, ev17⟩ : ∃ y : Int32, y = v5 + 1 := ⟨_, rfl⟩
              replace hf := nm_q ev17 hf
              refine lv_iinc (v := v17) (lv' := [(3, .int v17), (0, .ref (a 0)), (2, .int v16)]) hx hb dX11_choose_285 hl (k := 2) rfl (by rw [ev17]; rfl) (by decide) rfl (fun ls hl => ?_)
              refine lv_goto (tgt := 178) hx hb dX11_choose_288 (by decide) ?_
              exact hk178 _ _ _ hf _ _ _ hM (lv_sub hl [1, 2, 0] rfl)
            · intro k285 hk285 hf
              refine lv_if_eq (tgt := 285) hx hb dX11_choose_277 (by decide) (fun c18 => ?_) (fun c18 => ?_)
              · replace hf := it_t c18 hf
                exact hk285 _ hf _ _ _ hM (lv_sub hl [0, 1, 2] rfl)
              · replace hf := it_f c18 hf
                refine lv_iload_n hx hb dX11_choose_280 rfl (lv_at hl 1 rfl) ?_
                refine lv_iload hx hb dX11_choose_281 (lv_at hl 3 rfl) ?_
                refine lv_isub hx hb dX11_choose_283 ?_
                refine lv_topi (fun v19 ev19 => ?_)
                replace hf := nm_q ev19 hf
                refine lv_istore_n (lv' := [(2, .int v19), (0, .ref (a 0)), (3, .int v5), (4, .int v8)]) hx hb dX11_choose_284 rfl hl (by decide) rfl (fun ls hl => ?_)
                exact hk285 _ hf _ _ _ hM (lv_sub hl [1, 0, 2] rfl)
          · intro k270 hk270 hf
            refine jp_W (fun k269 : Int32 → Option (St) => ∀ (v20 : Int32), k269 v20 = some Sz → ∀ (H : Heap) (locs : List Loc) (ls : Array Slot), gw D A s.heap H locs (mcells cs a S6) → lv_has ls 8 [(0, .ref (a 0)), (2, .int v4), (3, .int v5), (4, .int v8)] → W p l e rmX11_choose s m args below meth c H locs 0 0 Q (F0 m 269 ls [.int v20, .ref (a 25)])) ?_ ?_ hf
            · intro v20 hf H locs ls hM hl
              unfold j_X11_choose_269 at hf
              refine lv_iconst (v := 0) hx hb dX11_choose_269 (by decide) ?_
              exact hk270 _ _ hf _ _ _ hM hl
            · intro k269 hk269 hf
              refine lv_if_ne (tgt := 269) hx hb dX11_choose_209 (by decide) (fun c21 => ?_) (fun c21 => ?_)
              · replace hf := it_f c21 hf
                exact hk269 _ hf _ _ _ hM (lv_sub hl [1, 2, 3, 0] rfl)
              · replace hf := it_t c21 hf
                refine lv_iload hx hb dX11_choose_212 (lv_at hl 0 rfl) ?_
                refine lv_iload_n hx hb dX11_choose_214 rfl (lv_at hl 2 rfl) ?_
                refine lv_icmp_gt (tgt := 269) hx hb dX11_choose_215 (by decide) (fun c22 => ?_) (fun c22 => ?_)
                · replace hf := it_t c22 hf
                  exact hk269 _ hf _ _ _ hM (lv_sub hl [1, 2, 3, 0] rfl)
                · replace hf := it_f c22 hf
                  refine lv_sipush (v := 512) hx hb dX11_choose_218 (by decide) ?_
                  refine lv_aload_n hx hb dX11_choose_221 rfl (lv_at hl 1 rfl) ?_
                  refine lv_iload_n hx hb dX11_choose_222 rfl (lv_at hl 3 rfl) ?_
                  obtain ⟨v23, hc, hf⟩ := bd_s hf
                  refine gV_i hC hM hA hl.1 [.int v5] [.int 512, .int v5, .ref (a 25)] (c_X11_weightOf l D cs a N v5 S6 v23 hc) gX11_choose_X11_weightOf rfl hd_X11_weightOf ⟨by decide, by decide⟩ 0 11 clX11 rfl mE0 (Nat.le_of_ble_eq_true rfl) dX11_choose_223 rfl ⟨by decide, by decide⟩ (fun H locs hM => ?_)
                  refine lv_imul hx hb dX11_choose_226 ?_
                  refine lv_iload hx hb dX11_choose_227 (lv_at hl 0 rfl) ?_
                  refine lv_isub hx hb dX11_choose_229 ?_
                  refine lv_aload_n hx hb dX11_choose_230 rfl (lv_at hl 1 rfl) ?_
                  refine g_get hC hM inX11_choose_X11 0 mE0 clX11 46 (by decide) tX11_choose_1 TX11_46 mV0_46 dX11_choose_231 ?_
                  refine lv_sipush (v := 401) hx hb dX11_choose_234 (by decide) ?_
                  refine lv_iload_n hx hb dX11_choose_237 rfl (lv_at hl 3 rfl) ?_
                  refine lv_imul hx hb dX11_choose_238 ?_
                  refine lv_sipush (v := 401) hx hb dX11_choose_239 (by decide) ?_
                  refine lv_iadd hx hb dX11_choose_242 ?_
                  refine lv_iload_n hx hb dX11_choose_243 rfl (lv_at hl 2 rfl) ?_
                  refine lv_iadd hx hb dX11_choose_244 ?_
                  refine lv_iload hx hb dX11_choose_245 (lv_at hl 0 rfl) ?_
                  refine lv_isub hx hb dX11_choose_247 ?_
                  obtain ⟨h24, hf⟩ := ck_s hf
                  refine g_iald hC hM 26 mE26 h24 dX11_choose_248 ?_
                  refine lv_iadd hx hb dX11_choose_249 ?_
                  refine lv_aload_n hx hb dX11_choose_250 rfl (lv_at hl 1 rfl) ?_
                  refine g_get hC hM inX11_choose_X11 0 mE0 clX11 46 (by decide) tX11_choose_1 TX11_46 mV0_46 dX11_choose_251 ?_
                  refine lv_sipush (v := 401) hx hb dX11_choose_254 (by decide) ?_
                  refine lv_iload_n hx hb dX11_choose_257 rfl (lv_at hl 3 rfl) ?_
                  refine lv_imul hx hb dX11_choose_258 ?_
                  refine lv_iload_n hx hb dX11_choose_259 rfl (lv_at hl 2 rfl) ?_
                  refine lv_iadd hx hb dX11_choose_260 ?_
                  obtain ⟨h25, hf⟩ := ck_s hf
                  refine g_iald hC hM 26 mE26 h25 dX11_choose_261 ?_
                  refine lv_icmp_ne (tgt := 269) hx hb dX11_choose_262 (by decide) (fun c26 => ?_) (fun c26 => ?_)
                  · replace hf := it_f c26 hf
                    exact hk269 _ hf _ _ _ hM (lv_sub hl [1, 2, 3, 0] rfl)
                  · replace hf := it_t c26 hf
                    refine lv_iconst (v := 1) hx hb dX11_choose_265 (by decide) ?_
                    refine lv_goto (tgt := 270) hx hb dX11_choose_266 (by decide) ?_
                    exact hk270 _ _ hf _ _ _ hM (lv_sub hl [1, 2, 3, 0] rfl)
      · intro k178 hk178 hf
        exact hk178 _ _ _ hf _ _ _ hM (lv_sub hl [2, 1, 0] rfl)
    · intro k174 hk174 hf
      refine jl_W (fun k36 : Int32 → St → Option (St) => ∀ (v27 : Int32) (S28 : St), k36 v27 S28 = some Sz → ∀ (H : Heap) (locs : List Loc) (ls : Array Slot), gw D A s.heap H locs (mcells cs a S28) → lv_has ls 8 [(0, .ref (a 0)), (1, .int p0), (2, .int v27)] → W p l e rmX11_choose s m args below meth c H locs 0 0 Q (F0 m 36 ls [])) ?_ ?_ ?_ hf
      · intro v27 S28 h; cases h
      · intro k36 hk36 v27 S28 hf H locs ls hM hl
        unfold b_X11_choose_36 at hf
        refine lv_iload_n hx hb dX11_choose_36 rfl (lv_at hl 2 rfl) ?_
        refine lv_if_lt (tgt := 174) hx hb dX11_choose_37 (by decide) (fun c29 => ?_) (fun c29 => ?_)
        · replace hf := it_t c29 hf
          exact hk174 _ hf _ _ _ hM (lv_sub hl [0, 1] rfl)
        · replace hf := it_f c29 hf
          refine lv_aload_n hx hb dX11_choose_40 rfl (lv_at hl 0 rfl) ?_
          refine lv_iload_n hx hb dX11_choose_41 rfl (lv_at hl 2 rfl) ?_
          obtain ⟨v30, hc, hf⟩ := bd_s hf
          refine gV_i hC hM hA hl.1 [.int v27] [] (c_X11_sizeOf l D cs a N v27 S28 v30 hc) gX11_choose_X11_sizeOf rfl hd_X11_sizeOf ⟨by decide, by decide⟩ 0 11 clX11 rfl mE0 (Nat.le_of_ble_eq_true rfl) dX11_choose_42 rfl ⟨by decide, by decide⟩ (fun H locs hM => ?_)
          refine lv_istore_n (lv' := [(3, .int v30), (0, .ref (a 0)), (1, .int p0), (2, .int v27)]) hx hb dX11_choose_45 rfl hl (by decide) rfl (fun ls hl => ?_)
          refine lv_sipush (v := 512) hx hb dX11_choose_46 (by decide) ?_
          refine lv_aload_n hx hb dX11_choose_49 rfl (lv_at hl 1 rfl) ?_
          refine lv_iload_n hx hb dX11_choose_50 rfl (lv_at hl 3 rfl) ?_
          obtain ⟨v31, hc, hf⟩ := bd_s hf
          refine gV_i hC hM hA hl.1 [.int v27] [.int 512] (c_X11_weightOf l D cs a N v27 S28 v31 hc) gX11_choose_X11_weightOf rfl hd_X11_weightOf ⟨by decide, by decide⟩ 0 11 clX11 rfl mE0 (Nat.le_of_ble_eq_true rfl) dX11_choose_51 rfl ⟨by decide, by decide⟩ (fun H locs hM => ?_)
          refine lv_imul hx hb dX11_choose_54 ?_
          refine lv_iload_n hx hb dX11_choose_55 rfl (lv_at hl 0 rfl) ?_
          refine lv_isub hx hb dX11_choose_56 ?_
          refine lv_topi (fun v32 ev32 => ?_)
          replace hf := nm_q ev32 hf
          refine lv_istore (lv' := [(4, .int v32), (3, .int v30), (0, .ref (a 0)), (1, .int p0), (2, .int v27)]) hx hb dX11_choose_57 hl (by decide) rfl (fun ls hl => ?_)
          refine lv_iconst (v := 0) hx hb dX11_choose_59 (by decide) ?_
          refine lv_istore (lv' := [(5, .int 0), (4, .int v32), (3, .int v30), (0, .ref (a 0)), (1, .int p0), (2, .int v27)]) hx hb dX11_choose_60 hl (by decide) rfl (fun ls hl => ?_)
          refine jp_W (fun k168 : St → Option (St) => ∀ (S33 : St), k168 S33 = some Sz → ∀ (H : Heap) (locs : List Loc) (ls : Array Slot), gw D A s.heap H locs (mcells cs a S33) → lv_has ls 8 [(0, .ref (a 0)), (1, .int p0), (2, .int v27)] → W p l e rmX11_choose s m args below meth c H locs 0 0 Q (F0 m 168 ls [])) ?_ ?_ hf
          · intro S33 hf H locs ls hM hl
            unfold j_X11_choose_168 at hf
            obtain ⟨v34, ev34⟩ : ∃ y : Int32, y = v27 + (-1) := ⟨_, rfl⟩
            replace hf := nm_q ev34 hf
            refine lv_iinc (v := v34) (lv' := [(2, .int v34), (0, .ref (a 0)), (1, .int p0)]) hx hb dX11_choose_168 hl (k := 2) rfl (by rw [ev34]; rfl) (by decide) rfl (fun ls hl => ?_)
            refine lv_goto (tgt := 36) hx hb dX11_choose_171 (by decide) ?_
            exact hk36 _ _ hf _ _ _ hM (lv_sub hl [1, 2, 0] rfl)
          · intro k168 hk168 hf
            refine jl_W (fun k62 : Int32 → St → Option (St) => ∀ (v35 : Int32) (S36 : St), k62 v35 S36 = some Sz → ∀ (H : Heap) (locs : List Loc) (ls : Array Slot), gw D A s.heap H locs (mcells cs a S36) → lv_has ls 8 [(0, .ref (a 0)), (1, .int p0), (2, .int v27), (3, .int v30), (4, .int v32), (5, .int v35)] → W p l e rmX11_choose s m args below meth c H locs 0 0 Q (F0 m 62 ls [])) ?_ ?_ ?_ hf
            · intro v35 S36 h; cases h
            · intro k62 hk62 v35 S36 hf H locs ls hM hl
              unfold b_X11_choose_62 at hf
              refine lv_iload hx hb dX11_choose_62 (lv_at hl 5 rfl) ?_
              refine lv_iload_n hx hb dX11_choose_64 rfl (lv_at hl 1 rfl) ?_
              refine lv_icmp_gt (tgt := 168) hx hb dX11_choose_65 (by decide) (fun c37 => ?_) (fun c37 => ?_)
              · replace hf := it_t c37 hf
                exact hk168 _ hf _ _ _ hM (lv_sub hl [0, 1, 2] rfl)
              · replace hf := it_f c37 hf
                refine lv_aload_n hx hb dX11_choose_68 rfl (lv_at hl 0 rfl) ?_
                refine g_get hC hM inX11_choose_X11 0 mE0 clX11 46 (by decide) tX11_choose_1 TX11_46 mV0_46 dX11_choose_69 ?_
                refine lv_sipush (v := 401) hx hb dX11_choose_72 (by decide) ?_
                refine lv_iload_n hx hb dX11_choose_75 rfl (lv_at hl 2 rfl) ?_
                refine lv_imul hx hb dX11_choose_76 ?_
                refine lv_sipush (v := 401) hx hb dX11_choose_77 (by decide) ?_
                refine lv_iadd hx hb dX11_choose_80 ?_
                refine lv_iload hx hb dX11_choose_81 (lv_at hl 5 rfl) ?_
                refine lv_iadd hx hb dX11_choose_83 ?_
                obtain ⟨h38, hf⟩ := ck_s hf
                refine g_iald hC hM 26 mE26 h38 dX11_choose_84 ?_
                refine lv_topi (fun v39 ev39 => ?_)
                replace hf := nm_q ev39 hf
                refine lv_istore (lv' := [(6, .int v39), (0, .ref (a 0)), (1, .int p0), (2, .int v27), (3, .int v30), (4, .int v32), (5, .int v35)]) hx hb dX11_choose_85 hl (by decide) rfl (fun ls hl => ?_)
                refine lv_aload_n hx hb dX11_choose_87 rfl (lv_at hl 1 rfl) ?_
                refine g_get hC hM inX11_choose_X11 0 mE0 clX11 13 (by decide) tX11_choose_3 TX11_13 mV0_13 dX11_choose_88 ?_
                refine lv_aload_n hx hb dX11_choose_91 rfl (lv_at hl 1 rfl) ?_
                refine g_get hC hM inX11_choose_X11 0 mE0 clX11 33 (by decide) tX11_choose_4 TX11_33 mV0_33 dX11_choose_92 ?_
                refine lv_iload_n hx hb dX11_choose_95 rfl (lv_at hl 3 rfl) ?_
                obtain ⟨h40, hf⟩ := ck_s hf
                refine g_iald hC hM 16 mE16 h40 dX11_choose_96 ?_
                obtain ⟨h41, hf⟩ := ck_s hf
                refine g_zald hC hM 9 mE9 h41 dX11_choose_97 ?_
                refine jp_W (fun k133 : Int32 → Option (St) => ∀ (v42 : Int32), k133 v42 = some Sz → ∀ (H : Heap) (locs : List Loc) (ls : Array Slot), gw D A s.heap H locs (mcells cs a S36) → lv_has ls 8 [(0, .ref (a 0)), (1, .int p0), (2, .int v27), (3, .int v30), (4, .int v32), (5, .int v35), (6, .int v39)] → W p l e rmX11_choose s m args below meth c H locs 0 0 Q (F0 m 133 ls [.int v42])) ?_ ?_ hf
                · intro v42 hf H locs ls hM hl
                  unfold j_X11_choose_133 at hf
                  refine lv_istore (lv' := [(7, .int v42), (0, .ref (a 0)), (1, .int p0), (2, .int v27), (3, .int v30), (4, .int v32), (5, .int v35), (6, .int v39)]) hx hb dX11_choose_133 hl (by decide) rfl (fun ls hl => ?_)
                  refine lv_aload_n hx hb dX11_choose_135 rfl (lv_at hl 1 rfl) ?_
                  refine g_get hC hM inX11_choose_X11 0 mE0 clX11 46 (by decide) tX11_choose_1 TX11_46 mV0_46 dX11_choose_136 ?_
                  refine lv_sipush (v := 401) hx hb dX11_choose_139 (by decide) ?_
                  refine lv_iload_n hx hb dX11_choose_142 rfl (lv_at hl 3 rfl) ?_
                  refine lv_imul hx hb dX11_choose_143 ?_
                  refine lv_iload hx hb dX11_choose_144 (lv_at hl 6 rfl) ?_
                  refine lv_iadd hx hb dX11_choose_146 ?_
                  refine lv_iload hx hb dX11_choose_147 (lv_at hl 0 rfl) ?_
                  refine lv_iload hx hb dX11_choose_149 (lv_at hl 7 rfl) ?_
                  refine jp_W (fun k161 : Int32 → Int32 → Option (St) => ∀ (v43 : Int32) (v44 : Int32), k161 v43 v44 = some Sz → ∀ (H : Heap) (locs : List Loc) (ls : Array Slot), gw D A s.heap H locs (mcells cs a S36) → lv_has ls 8 [(0, .ref (a 0)), (1, .int p0), (2, .int v27), (3, .int v30), (4, .int v32), (5, .int v35)] → W p l e rmX11_choose s m args below meth c H locs 0 0 Q (F0 m 161 ls [.int v44, .int v43, .ref (a 26)])) ?_ ?_ hf
                  · intro v43 v44 hf H locs ls hM hl
                    unfold j_X11_choose_161 at hf
                    obtain ⟨h45, hf⟩ := ck_s hf
                    refine g_iast hC hM 26 mE26 h45 mA26 dX11_choose_161 (fun H locs hM => ?_)
                    obtain ⟨S46, hf, hM⟩ := mnm hf hM
                    obtain ⟨v47, ev47⟩ : ∃ y : Int32, y = v35 + 1 := ⟨_, rfl⟩
                    replace hf := nm_q ev47 hf
                    refine lv_iinc (v := v47) (lv' := [(5, .int v47), (0, .ref (a 0)), (1, .int p0), (2, .int v27), (3, .int v30), (4, .int v32)]) hx hb dX11_choose_162 hl (k := 5) rfl (by rw [ev47]; rfl) (by decide) rfl (fun ls hl => ?_)
                    refine lv_goto (tgt := 62) hx hb dX11_choose_165 (by decide) ?_
                    exact hk62 _ _ hf _ _ _ hM (lv_sub hl [1, 2, 3, 4, 5, 0] rfl)
                  · intro k161 hk161 hf
                    refine lv_icmp_lt (tgt := 159) hx hb dX11_choose_151 (by decide) (fun c48 => ?_) (fun c48 => ?_)
                    · replace hf := it_t c48 hf
                      refine lv_iload hx hb dX11_choose_159 (lv_at hl 7 rfl) ?_
                      exact hk161 _ _ hf _ _ _ hM (lv_sub hl [1, 2, 3, 4, 5, 6] rfl)
                    · replace hf := it_f c48 hf
                      refine lv_iload hx hb dX11_choose_154 (lv_at hl 0 rfl) ?_
                      refine lv_goto (tgt := 161) hx hb dX11_choose_156 (by decide) ?_
                      exact hk161 _ _ hf _ _ _ hM (lv_sub hl [1, 2, 3, 4, 5, 6] rfl)
                · intro k133 hk133 hf
                  refine jp_W (fun k107 : Option (St) => k107 = some Sz → ∀ (H : Heap) (locs : List Loc) (ls : Array Slot), gw D A s.heap H locs (mcells cs a S36) → lv_has ls 8 [(0, .ref (a 0)), (1, .int p0), (2, .int v27), (3, .int v30), (4, .int v32), (5, .int v35), (6, .int v39)] → W p l e rmX11_choose s m args below meth c H locs 0 0 Q (F0 m 107 ls [])) ?_ ?_ hf
                  · intro  hf H locs ls hM hl
                    unfold j_X11_choose_107 at hf
                    refine lv_iconst (v := (-1)) hx hb dX11_choose_107 (by decide) ?_
                    refine lv_goto (tgt := 133) hx hb dX11_choose_108 (by decide) ?_
                    exact hk133 _ hf _ _ _ hM hl
                  · intro k107 hk107 hf
                    refine lv_if_ne (tgt := 107) hx hb dX11_choose_98 (by decide) (fun c49 => ?_) (fun c49 => ?_)
                    · replace hf := it_f c49 hf
                      exact hk107 hf _ _ _ hM (lv_sub hl [1, 2, 3, 4, 5, 6, 0] rfl)
                    · replace hf := it_t c49 hf
                      refine lv_iload_n hx hb dX11_choose_101 rfl (lv_at hl 4 rfl) ?_
                      refine lv_iload hx hb dX11_choose_102 (lv_at hl 6 rfl) ?_
                      refine lv_icmp_le (tgt := 111) hx hb dX11_choose_104 (by decide) (fun c50 => ?_) (fun c50 => ?_)
                      · replace hf := it_t c50 hf
                        refine lv_iload hx hb dX11_choose_111 (lv_at hl 5 rfl) ?_
                        refine lv_aload_n hx hb dX11_choose_113 rfl (lv_at hl 1 rfl) ?_
                        refine g_get hC hM inX11_choose_X11 0 mE0 clX11 46 (by decide) tX11_choose_1 TX11_46 mV0_46 dX11_choose_114 ?_
                        refine lv_sipush (v := 401) hx hb dX11_choose_117 (by decide) ?_
                        refine lv_iload_n hx hb dX11_choose_120 rfl (lv_at hl 3 rfl) ?_
                        refine lv_imul hx hb dX11_choose_121 ?_
                        refine lv_sipush (v := 401) hx hb dX11_choose_122 (by decide) ?_
                        refine lv_iadd hx hb dX11_choose_125 ?_
                        refine lv_iload hx hb dX11_choose_126 (lv_at hl 6 rfl) ?_
                        refine lv_iadd hx hb dX11_choose_128 ?_
                        refine lv_iload_n hx hb dX11_choose_129 rfl (lv_at hl 4 rfl) ?_
                        refine lv_isub hx hb dX11_choose_130 ?_
                        obtain ⟨h51, hf⟩ := ck_s hf
                        refine g_iald hC hM 26 mE26 h51 dX11_choose_131 ?_
                        refine lv_iadd hx hb dX11_choose_132 ?_
                        exact hk133 _ hf _ _ _ hM (lv_sub hl [1, 2, 3, 4, 5, 6, 0] rfl)
                      · replace hf := it_f c50 hf
                        exact hk107 hf _ _ _ hM (lv_sub hl [1, 2, 3, 4, 5, 6, 0] rfl)
            · intro k62 hk62 hf
              exact hk62 _ _ hf _ _ _ hM (lv_sub hl [3, 4, 5, 2, 1, 0] rfl)
      · intro k36 hk36 hf
        exact hk36 _ _ hf _ _ _ hM (lv_sub hl [1, 2, 0] rfl)
  · intro k29 hk29 hf
    refine jl_W (fun k2 : Int32 → St → Option (St) => ∀ (v52 : Int32) (S53 : St), k2 v52 S53 = some Sz → ∀ (H : Heap) (locs : List Loc) (ls : Array Slot), gw D A s.heap H locs (mcells cs a S53) → lv_has ls 8 [(0, .ref (a 0)), (1, .int p0), (2, .int v52)] → W p l e rmX11_choose s m args below meth c H locs 0 0 Q (F0 m 2 ls [])) ?_ ?_ ?_ hf
    · intro v52 S53 h; cases h
    · intro k2 hk2 v52 S53 hf H locs ls hM hl
      unfold b_X11_choose_2 at hf
      refine lv_iload_n hx hb dX11_choose_2 rfl (lv_at hl 2 rfl) ?_
      refine lv_iload_n hx hb dX11_choose_3 rfl (lv_at hl 1 rfl) ?_
      refine lv_icmp_gt (tgt := 29) hx hb dX11_choose_4 (by decide) (fun c54 => ?_) (fun c54 => ?_)
      · replace hf := it_t c54 hf
        exact hk29 _ hf _ _ _ hM (lv_sub hl [0, 1] rfl)
      · replace hf := it_f c54 hf
        refine lv_aload_n hx hb dX11_choose_7 rfl (lv_at hl 0 rfl) ?_
        refine g_get hC hM inX11_choose_X11 0 mE0 clX11 46 (by decide) tX11_choose_1 TX11_46 mV0_46 dX11_choose_8 ?_
        refine lv_sipush (v := 401) hx hb dX11_choose_11 (by decide) ?_
        refine lv_aload_n hx hb dX11_choose_14 rfl (lv_at hl 0 rfl) ?_
        refine g_get hC hM inX11_choose_X11 0 mE0 clX11 32 (by decide) tX11_choose_2 TX11_32 mV0_32 dX11_choose_15 ?_
        refine lv_imul hx hb dX11_choose_18 ?_
        refine lv_iload_n hx hb dX11_choose_19 rfl (lv_at hl 2 rfl) ?_
        refine lv_iadd hx hb dX11_choose_20 ?_
        refine lv_iconst (v := 0) hx hb dX11_choose_21 (by decide) ?_
        obtain ⟨h55, hf⟩ := ck_s hf
        refine g_iast hC hM 26 mE26 h55 mA26 dX11_choose_22 (fun H locs hM => ?_)
        obtain ⟨S56, hf, hM⟩ := mnm hf hM
        obtain ⟨v57, ev57⟩ : ∃ y : Int32, y = v52 + 1 := ⟨_, rfl⟩
        replace hf := nm_q ev57 hf
        refine lv_iinc (v := v57) (lv' := [(2, .int v57), (0, .ref (a 0)), (1, .int p0)]) hx hb dX11_choose_23 hl (k := 2) rfl (by rw [ev57]; rfl) (by decide) rfl (fun ls hl => ?_)
        refine lv_goto (tgt := 2) hx hb dX11_choose_26 (by decide) ?_
        exact hk2 _ _ hf _ _ _ hM (lv_sub hl [1, 2, 0] rfl)
    · intro k2 hk2 hf
      exact hk2 _ _ hf _ _ _ hM (lv_sub hl [1, 2, 0] rfl)

theorem hd_X11_isAhead : yX11_isAhead.cls = RX11 ∧ yX11_isAhead.cls ≠ "java/lang/invoke/MethodHandle" ∧ yX11_isAhead.cls ≠ "java/lang/invoke/VarHandle" ∧ (parseMethodDescriptor yX11_isAhead.desc).map (fun d => d.parameters.length) = some 2 := by decide +kernel
theorem tX11_isAhead_1 : Cond.fieldLink RX11 63 "WeatherTellerModel" "fFrom" "[I" ∈ wsX11_isAhead := List.mem_of_getElem? (i := 1) rfl
theorem inX11_isAhead_X11 : ∀ w ∈ u_ws RX11 TX11 50, w ∈ wsX11_isAhead := fun _ h => List.mem_cons_of_mem _ (List.mem_append_right _ h)
def f_X11_isAhead (N : Nat) (p0 : Int32) (p1 : Int32) (S : St) : Option (Int32) :=
  z1 <|
  bd (f_X11_weightOf N p0 S) fun v1 =>
  bd (f_X11_weightOf N p1 S) fun v2 =>
  if v1 = v2 then
    ck p0 432 <|
    ck p1 432 <|
    if (S.1 17 p0.toNatClampNeg) < (S.1 17 p1.toNatClampNeg) then
      some 1
    else
      ck p0 432 <|
      ck p1 432 <|
      if (S.1 17 p0.toNatClampNeg) = (S.1 17 p1.toNatClampNeg) then
        if p1 ≤ p0 then
          some 0
        else
          some 1
      else
        some 0
  else
    bd (f_X11_weightOf N p0 S) fun v11 =>
    bd (f_X11_weightOf N p1 S) fun v12 =>
    if v11 ≤ v12 then
      some 0
    else
      some 1
abbrev rmX11_isAhead : Room := { frames := 2, cells := 0, slots := 0, locals := 43 }
set_option maxRecDepth 100000 in
set_option maxHeartbeats 4000000 in
theorem c_X11_isAhead (l : Launch) (D : va_G) (cs : Nat → ClassId) (a : Nat → Nat) (N : Nat) (p0 : Int32) (p1 : Int32) (S : St) (rz : Int32) (hf : f_X11_isAhead N p0 p1 S = some rz) : gMi l yX11_isAhead wsX11_isAhead rmX11_isAhead D cs [.ref (a 0), .int p0, .int p1] (mcells cs a S) rz (mcells cs a S) := by
  unfold f_X11_isAhead at hf
  obtain ⟨hrz, hf⟩ := z1_s hf
  refine gE_z (cc := cX11_isAhead) (maxL := 3) hrz (by decide) rfl (Nat.le_of_ble_eq_true rfl) ?_
  intro p e s m args below meth c A Q hC hA hQ hM ls hl
  obtain ⟨hx, hb, hml, hown, hts⟩ := hC.1
  have hl : lv_has ls 3 [(0, .ref (a 0)), (1, .int p0), (2, .int p1)] := hl
  refine lv_aload_n hx hb dX11_isAhead_0 rfl (lv_at hl 0 rfl) ?_
  refine lv_iload_n hx hb dX11_isAhead_1 rfl (lv_at hl 1 rfl) ?_
  obtain ⟨v1, hc, hf⟩ := bd_s hf
  refine gV_i hC hM hA hl.1 [.int p0] [] (c_X11_weightOf l D cs a N p0 S v1 hc) gX11_isAhead_X11_weightOf rfl hd_X11_weightOf ⟨by decide, by decide⟩ 0 11 clX11 rfl mE0 (Nat.le_of_ble_eq_true rfl) dX11_isAhead_2 rfl ⟨by decide, by decide⟩ (fun H locs hM => ?_)
  refine lv_aload_n hx hb dX11_isAhead_5 rfl (lv_at hl 0 rfl) ?_
  refine lv_iload_n hx hb dX11_isAhead_6 rfl (lv_at hl 2 rfl) ?_
  obtain ⟨v2, hc, hf⟩ := bd_s hf
  refine gV_i hC hM hA hl.1 [.int p1] [.int v1] (c_X11_weightOf l D cs a N p1 S v2 hc) gX11_isAhead_X11_weightOf rfl hd_X11_weightOf ⟨by decide, by decide⟩ 0 11 clX11 rfl mE0 (Nat.le_of_ble_eq_true rfl) dX11_isAhead_7 rfl ⟨by decide, by decide⟩ (fun H locs hM => ?_)
  refine lv_icmp_eq (tgt := 32) hx hb dX11_isAhead_10 (by decide) (fun c3 => ?_) (fun c3 => ?_)
  · replace hf := it_t c3 hf
    refine lv_aload_n hx hb dX11_isAhead_32 rfl (lv_at hl 0 rfl) ?_
    refine g_get hC hM inX11_isAhead_X11 0 mE0 clX11 34 (by decide) tX11_isAhead_1 TX11_34 mV0_34 dX11_isAhead_33 ?_
    refine lv_iload_n hx hb dX11_isAhead_36 rfl (lv_at hl 1 rfl) ?_
    obtain ⟨h4, hf⟩ := ck_s hf
    refine g_iald hC hM 17 mE17 h4 dX11_isAhead_37 ?_
    refine lv_aload_n hx hb dX11_isAhead_38 rfl (lv_at hl 0 rfl) ?_
    refine g_get hC hM inX11_isAhead_X11 0 mE0 clX11 34 (by decide) tX11_isAhead_1 TX11_34 mV0_34 dX11_isAhead_39 ?_
    refine lv_iload_n hx hb dX11_isAhead_42 rfl (lv_at hl 2 rfl) ?_
    obtain ⟨h5, hf⟩ := ck_s hf
    refine g_iald hC hM 17 mE17 h5 dX11_isAhead_43 ?_
    refine lv_icmp_lt (tgt := 67) hx hb dX11_isAhead_44 (by decide) (fun c6 => ?_) (fun c6 => ?_)
    · replace hf := it_t c6 hf
      refine lv_iconst (v := 1) hx hb dX11_isAhead_67 (by decide) ?_
      refine lv_goto (tgt := 72) hx hb dX11_isAhead_68 (by decide) ?_
      cases so_1 hf
      exact hQ _ _ _ _ _ _ dX11_isAhead_72 hM (by decide) (by decide)
    · replace hf := it_f c6 hf
      refine lv_aload_n hx hb dX11_isAhead_47 rfl (lv_at hl 0 rfl) ?_
      refine g_get hC hM inX11_isAhead_X11 0 mE0 clX11 34 (by decide) tX11_isAhead_1 TX11_34 mV0_34 dX11_isAhead_48 ?_
      refine lv_iload_n hx hb dX11_isAhead_51 rfl (lv_at hl 1 rfl) ?_
      obtain ⟨h7, hf⟩ := ck_s hf
      refine g_iald hC hM 17 mE17 h7 dX11_isAhead_52 ?_
      refine lv_aload_n hx hb dX11_isAhead_53 rfl (lv_at hl 0 rfl) ?_
      refine g_get hC hM inX11_isAhead_X11 0 mE0 clX11 34 (by decide) tX11_isAhead_1 TX11_34 mV0_34 dX11_isAhead_54 ?_
      refine lv_iload_n hx hb dX11_isAhead_57 rfl (lv_at hl 2 rfl) ?_
      obtain ⟨h8, hf⟩ := ck_s hf
      refine g_iald hC hM 17 mE17 h8 dX11_isAhead_58 ?_
      refine lv_icmp_ne (tgt := 71) hx hb dX11_isAhead_59 (by decide) (fun c9 => ?_) (fun c9 => ?_)
      · replace hf := it_f c9 hf
        refine lv_iconst (v := 0) hx hb dX11_isAhead_71 (by decide) ?_
        cases so_1 hf
        exact hQ _ _ _ _ _ _ dX11_isAhead_72 hM (by decide) (by decide)
      · replace hf := it_t c9 hf
        refine lv_iload_n hx hb dX11_isAhead_62 rfl (lv_at hl 1 rfl) ?_
        refine lv_iload_n hx hb dX11_isAhead_63 rfl (lv_at hl 2 rfl) ?_
        refine lv_icmp_ge (tgt := 71) hx hb dX11_isAhead_64 (by decide) (fun c10 => ?_) (fun c10 => ?_)
        · replace hf := it_t c10 hf
          refine lv_iconst (v := 0) hx hb dX11_isAhead_71 (by decide) ?_
          cases so_1 hf
          exact hQ _ _ _ _ _ _ dX11_isAhead_72 hM (by decide) (by decide)
        · replace hf := it_f c10 hf
          refine lv_iconst (v := 1) hx hb dX11_isAhead_67 (by decide) ?_
          refine lv_goto (tgt := 72) hx hb dX11_isAhead_68 (by decide) ?_
          cases so_1 hf
          exact hQ _ _ _ _ _ _ dX11_isAhead_72 hM (by decide) (by decide)
  · replace hf := it_f c3 hf
    refine lv_aload_n hx hb dX11_isAhead_13 rfl (lv_at hl 0 rfl) ?_
    refine lv_iload_n hx hb dX11_isAhead_14 rfl (lv_at hl 1 rfl) ?_
    obtain ⟨v11, hc, hf⟩ := bd_s hf
    refine gV_i hC hM hA hl.1 [.int p0] [] (c_X11_weightOf l D cs a N p0 S v11 hc) gX11_isAhead_X11_weightOf rfl hd_X11_weightOf ⟨by decide, by decide⟩ 0 11 clX11 rfl mE0 (Nat.le_of_ble_eq_true rfl) dX11_isAhead_15 rfl ⟨by decide, by decide⟩ (fun H locs hM => ?_)
    refine lv_aload_n hx hb dX11_isAhead_18 rfl (lv_at hl 0 rfl) ?_
    refine lv_iload_n hx hb dX11_isAhead_19 rfl (lv_at hl 2 rfl) ?_
    obtain ⟨v12, hc, hf⟩ := bd_s hf
    refine gV_i hC hM hA hl.1 [.int p1] [.int v11] (c_X11_weightOf l D cs a N p1 S v12 hc) gX11_isAhead_X11_weightOf rfl hd_X11_weightOf ⟨by decide, by decide⟩ 0 11 clX11 rfl mE0 (Nat.le_of_ble_eq_true rfl) dX11_isAhead_20 rfl ⟨by decide, by decide⟩ (fun H locs hM => ?_)
    refine lv_icmp_le (tgt := 30) hx hb dX11_isAhead_23 (by decide) (fun c13 => ?_) (fun c13 => ?_)
    · replace hf := it_t c13 hf
      refine lv_iconst (v := 0) hx hb dX11_isAhead_30 (by decide) ?_
      cases so_1 hf
      exact hQ _ _ _ _ _ _ dX11_isAhead_31 hM (by decide) (by decide)
    · replace hf := it_f c13 hf
      refine lv_iconst (v := 1) hx hb dX11_isAhead_26 (by decide) ?_
      refine lv_goto (tgt := 31) hx hb dX11_isAhead_27 (by decide) ?_
      cases so_1 hf
      exact hQ _ _ _ _ _ _ dX11_isAhead_31 hM (by decide) (by decide)

theorem hd_X11_tell : yX11_tell.cls = RX11 ∧ yX11_tell.cls ≠ "java/lang/invoke/MethodHandle" ∧ yX11_tell.cls ≠ "java/lang/invoke/VarHandle" ∧ (parseMethodDescriptor yX11_tell.desc).map (fun d => d.parameters.length) = some 1 := by decide +kernel
theorem tX11_tell_1 : Cond.fieldLink RX11 94 "WeatherTellerModel" "thrown" "I" ∈ wsX11_tell := List.mem_of_getElem? (i := 1) rfl
theorem inX11_tell_X11 : ∀ w ∈ u_ws RX11 TX11 50, w ∈ wsX11_tell := fun _ h => List.mem_cons_of_mem _ (List.mem_append_right _ h)
theorem tX11_tell_2 : Cond.fieldLink RX11 193 "WeatherTellerModel" "toldMany" "I" ∈ wsX11_tell := List.mem_of_getElem? (i := 2) rfl
theorem tX11_tell_3 : Cond.fieldLink RX11 200 "WeatherTellerModel" "toldWeight" "I" ∈ wsX11_tell := List.mem_of_getElem? (i := 3) rfl
theorem tX11_tell_4 : Cond.fieldLink RX11 196 "WeatherTellerModel" "isText" "Z" ∈ wsX11_tell := List.mem_of_getElem? (i := 4) rfl
theorem tX11_tell_9 : Cond.fieldLink RX11 75 "WeatherTellerModel" "tBand" "[I" ∈ wsX11_tell := List.mem_of_getElem? (i := 9) rfl
theorem tX11_tell_10 : Cond.fieldLink RX11 78 "WeatherTellerModel" "tFrom" "[I" ∈ wsX11_tell := List.mem_of_getElem? (i := 10) rfl
theorem tX11_tell_11 : Cond.fieldLink RX11 81 "WeatherTellerModel" "tTo" "[I" ∈ wsX11_tell := List.mem_of_getElem? (i := 11) rfl
theorem tX11_tell_12 : Cond.fieldLink RX11 84 "WeatherTellerModel" "tPlaces" "[I" ∈ wsX11_tell := List.mem_of_getElem? (i := 12) rfl
theorem tX11_tell_6 : Cond.fieldLink RX11 87 "WeatherTellerModel" "taken" "[Z" ∈ wsX11_tell := List.mem_of_getElem? (i := 6) rfl
theorem tX11_tell_5 : Cond.fieldLink RX11 211 "WeatherTellerModel" "findings" "I" ∈ wsX11_tell := List.mem_of_getElem? (i := 5) rfl
theorem tX11_tell_7 : Cond.fieldLink RX11 34 "WeatherTellerModel" "bWarn" "[Z" ∈ wsX11_tell := List.mem_of_getElem? (i := 7) rfl
theorem tX11_tell_8 : Cond.fieldLink RX11 60 "WeatherTellerModel" "fBand" "[I" ∈ wsX11_tell := List.mem_of_getElem? (i := 8) rfl
def j_X11_tell_230 (N : Nat) (S12 : St) (v14 : Int32) (k209 : Int32 → Int32 → Option (Int32 × St)) (v16 : Int32) (v17 : Int32) : Option (Int32 × St) :=
  ck v14 432 <|
  ck v14 432 <|
  ck v14 432 <|
  ck v14 432 <|
  bd (f_X11_clauseSize N (S12.1 21 v14.toNatClampNeg) (S12.1 22 v14.toNatClampNeg) (S12.1 23 v14.toNatClampNeg) (S12.1 24 v14.toNatClampNeg) S12) fun v22 =>
  nm (v16 + (v17 + v22)) fun v23 =>
  nm (v14 + 1) fun v24 =>
  k209 v23 v24
def b_X11_tell_209 (N : Nat) (S12 : St) (k209 : Int32 → Int32 → Option (Int32 × St)) (v13 : Int32) (v14 : Int32) : Option (Int32 × St) :=
  if (S12.1 0 38) ≤ v14 then
    some (v13, S12)
  else
    jp (j_X11_tell_230 N S12 v14 k209) fun k230 =>
    if v14 ≤ 0 then
      k230 v13 0
    else
      k230 v13 1
def j_X11_tell_203 (N : Nat) (S12 : St) : Option (Int32 × St) :=
  jp (lp (fun _ _ => none) (b_X11_tell_209 N S12) N) fun k209 =>
  k209 0 0
def j_X11_tell_178 (N : Nat) (S27 : St) (k113 : Int32 → St → Option (Int32 × St)) (v29 : Int32) (v30 : Int32) : Option (Int32 × St) :=
  if v30 = 0 then
    k113 v30 S27
  else
    bd (f_X11_tells N v29 S27) fun S32 =>
    ck v29 432 <|
    nm (puI S32 25 v29.toNatClampNeg (vp_nar .boolean 0)) fun S34 =>
    k113 v30 S34
def j_X11_tell_168 (N : Nat) (S27 : St) (k113 : Int32 → St → Option (Int32 × St)) (v29 : Int32) : Option (Int32 × St) :=
  jp (j_X11_tell_178 N S27 k113 v29) fun k178 =>
  if v29 < 0 then
    k178 0
  else
    k178 1
def j_X11_tell_162 (v37 : Int32) (k123 : Int32 → Int32 → Option (Int32 × St)) (v40 : Int32) : Option (Int32 × St) :=
  nm (v37 + 1) fun v41 =>
  k123 v40 v41
def j_X11_tell_158 (v37 : Int32) (k162 : Int32 → Option (Int32 × St))  : Option (Int32 × St) :=
  k162 v37
def b_X11_tell_123 (N : Nat) (S27 : St) (k168 : Int32 → Option (Int32 × St)) (k123 : Int32 → Int32 → Option (Int32 × St)) (v36 : Int32) (v37 : Int32) : Option (Int32 × St) :=
  if (S27.1 0 32) ≤ v37 then
    k168 v36
  else
    ck v37 432 <|
    jp (j_X11_tell_162 v37 k123) fun k162 =>
    if (S27.1 25 v37.toNatClampNeg) = 0 then
      k162 v36
    else
      jp (j_X11_tell_158 v37 k162) fun k158 =>
      if v36 < 0 then
        k158
      else
        bd (f_X11_isAhead N v37 v36 S27) fun v44 =>
        if v44 = 0 then
          k162 v36
        else
          k158
def b_X11_tell_113 (N : Nat) (k203 : St → Option (Int32 × St)) (k113 : Int32 → St → Option (Int32 × St)) (v26 : Int32) (S27 : St) : Option (Int32 × St) :=
  if v26 = 0 then
    k203 S27
  else
    jp (j_X11_tell_168 N S27 k113) fun k168 =>
    jp (lp (fun _ _ => none) (b_X11_tell_123 N S27 k168) N) fun k123 =>
    k123 (-1) 0
def j_X11_tell_111 (N : Nat) (S11 : St) : Option (Int32 × St) :=
  jp (j_X11_tell_203 N) fun k203 =>
  jp (lp (fun _ _ => none) (b_X11_tell_113 N k203) N) fun k113 =>
  k113 1 S11
def j_X11_tell_99 (N : Nat) (p0 : Int32) (S9 : St) (v10 : Int32) : Option (Int32 × St) :=
  jp (j_X11_tell_111 N) fun k111 =>
  if p0 < v10 then
    k111 S9
  else
    bd (f_X11_choose N (p0 - v10) S9) fun S47 =>
    k111 S47
def j_X11_tell_92 (N : Nat) (p0 : Int32) (v8 : Int32) (S9 : St) : Option (Int32 × St) :=
  jp (j_X11_tell_99 N p0 S9) fun k99 =>
  if v8 ≤ 0 then
    k99 v8
  else
    nm (v8 + (-1)) fun v49 =>
    k99 v49
def j_X11_tell_86 (v51 : Int32) (k41 : Int32 → Int32 → St → Option (Int32 × St)) (v58 : Int32) (S59 : St) : Option (Int32 × St) :=
  nm (v51 + 1) fun v60 =>
  k41 v58 v60 S59
def b_X11_tell_41 (N : Nat) (k92 : Int32 → St → Option (Int32 × St)) (k41 : Int32 → Int32 → St → Option (Int32 × St)) (v50 : Int32) (v51 : Int32) (S52 : St) : Option (Int32 × St) :=
  if (S52.1 0 32) ≤ v51 then
    k92 v50 S52
  else
    ck v51 432 <|
    nm (puI S52 25 v51.toNatClampNeg (vp_nar .boolean 0)) fun S55 =>
    ck v51 432 <|
    ck (S55.1 16 v51.toNatClampNeg) 48 <|
    jp (j_X11_tell_86 v51 k41) fun k86 =>
    if (S55.1 9 (S55.1 16 v51.toNatClampNeg).toNatClampNeg) = 0 then
      k86 v50 S55
    else
      bd (f_X11_sizeOf N v51 S55) fun v62 =>
      nm (v50 + v62) fun v63 =>
      bd (f_X11_tells N v51 S55) fun S64 =>
      k86 v63 S64
def f_X11_tell (N : Nat) (p0 : Int32) (S : St) : Option (Int32 × St) :=
  nm (puI S 0 2 0) fun S1 =>
  if p0 < 0 then
    some ((-1), S1)
  else
    if p0 ≤ 400 then
      bd (f_X11_find N S1) fun S4 =>
      nm (puI S4 0 38 0) fun S5 =>
      nm (puI S5 0 39 0) fun S6 =>
      nm (puI S6 0 37 1) fun S7 =>
      jp (j_X11_tell_92 N p0) fun k92 =>
      jp (lp (fun _ _ _ => none) (b_X11_tell_41 N k92) N) fun k41 =>
      k41 0 0 S7
    else
      some ((-1), S1)
abbrev rmX11_tell : Room := { frames := 4, cells := 0, slots := 0, locals := 96 }
set_option maxRecDepth 100000 in
set_option maxHeartbeats 4000000 in
theorem c_X11_tell (l : Launch) (D : va_G) (cs : Nat → ClassId) (a : Nat → Nat) (N : Nat) (p0 : Int32) (S : St) (rz : Int32) (Sz : St) (hf : f_X11_tell N p0 S = some (rz, Sz)) : gMi l yX11_tell wsX11_tell rmX11_tell D cs [.ref (a 0), .int p0] (mcells cs a S) rz (mcells cs a Sz) := by
  unfold f_X11_tell at hf
  refine gE_i (cc := cX11_tell) (maxL := 6) (by decide) rfl (Nat.le_of_ble_eq_true rfl) ?_
  intro p e s m args below meth c A Q hC hA hQ hM ls hl
  obtain ⟨hx, hb, hml, hown, hts⟩ := hC.1
  have hl : lv_has ls 6 [(0, .ref (a 0)), (1, .int p0)] := hl
  refine lv_aload_n hx hb dX11_tell_0 rfl (lv_at hl 0 rfl) ?_
  refine lv_iconst (v := 0) hx hb dX11_tell_1 (by decide) ?_
  refine g_put hC hM inX11_tell_X11 tyX11_ok nmX11 0 mE0 clX11 2 (by decide) tX11_tell_1 TX11_2 tyX11_2 rfl rfl (by rw [mL0]; decide) mP0_2 dX11_tell_2 (fun H locs hM => ?_)
  obtain ⟨S1, hf, hM⟩ := mnm hf hM
  refine lv_iload_n hx hb dX11_tell_5 rfl (lv_at hl 1 rfl) ?_
  refine lv_if_lt (tgt := 16) hx hb dX11_tell_6 (by decide) (fun c2 => ?_) (fun c2 => ?_)
  · replace hf := it_t c2 hf
    refine lv_iconst (v := (-1)) hx hb dX11_tell_16 (by decide) ?_
    obtain ⟨e1, e2⟩ := so_2 hf
    cases e1; cases e2
    exact hQ _ _ _ _ _ _ dX11_tell_17 hM (by decide) (by decide)
  · replace hf := it_f c2 hf
    refine lv_iload_n hx hb dX11_tell_9 rfl (lv_at hl 1 rfl) ?_
    refine lv_sipush (v := 400) hx hb dX11_tell_10 (by decide) ?_
    refine lv_icmp_le (tgt := 18) hx hb dX11_tell_13 (by decide) (fun c3 => ?_) (fun c3 => ?_)
    · replace hf := it_t c3 hf
      refine lv_aload_n hx hb dX11_tell_18 rfl (lv_at hl 0 rfl) ?_
      obtain ⟨S4, hc, hf⟩ := bd_s hf
      refine gV_v hC hM hA hl.1 [] [] (c_X11_find l D cs a N S1 S4 hc) gX11_tell_X11_find rfl hd_X11_find ⟨by decide, by decide⟩ 0 11 clX11 rfl mE0 (Nat.le_of_ble_eq_true rfl) dX11_tell_19 rfl ⟨by decide, by decide⟩ (fun H locs hM => ?_)
      refine lv_aload_n hx hb dX11_tell_22 rfl (lv_at hl 0 rfl) ?_
      refine lv_iconst (v := 0) hx hb dX11_tell_23 (by decide) ?_
      refine g_put hC hM inX11_tell_X11 tyX11_ok nmX11 0 mE0 clX11 38 (by decide) tX11_tell_2 TX11_38 tyX11_38 rfl rfl (by rw [mL0]; decide) mP0_38 dX11_tell_24 (fun H locs hM => ?_)
      obtain ⟨S5, hf, hM⟩ := mnm hf hM
      refine lv_aload_n hx hb dX11_tell_27 rfl (lv_at hl 0 rfl) ?_
      refine lv_iconst (v := 0) hx hb dX11_tell_28 (by decide) ?_
      refine g_put hC hM inX11_tell_X11 tyX11_ok nmX11 0 mE0 clX11 39 (by decide) tX11_tell_3 TX11_39 tyX11_39 rfl rfl (by rw [mL0]; decide) mP0_39 dX11_tell_29 (fun H locs hM => ?_)
      obtain ⟨S6, hf, hM⟩ := mnm hf hM
      refine lv_aload_n hx hb dX11_tell_32 rfl (lv_at hl 0 rfl) ?_
      refine lv_iconst (v := 1) hx hb dX11_tell_33 (by decide) ?_
      refine g_put hC hM inX11_tell_X11 tyX11_ok nmX11 0 mE0 clX11 37 (by decide) tX11_tell_4 TX11_37 tyX11_37 rfl rfl (by rw [mL0]; decide) mP0_37 dX11_tell_34 (fun H locs hM => ?_)
      obtain ⟨S7, hf, hM⟩ := mnm hf hM
      refine lv_iconst (v := 0) hx hb dX11_tell_37 (by decide) ?_
      refine lv_istore_n (lv' := [(2, .int 0), (0, .ref (a 0)), (1, .int p0)]) hx hb dX11_tell_38 rfl hl (by decide) rfl (fun ls hl => ?_)
      refine lv_iconst (v := 0) hx hb dX11_tell_39 (by decide) ?_
      refine lv_istore_n (lv' := [(3, .int 0), (2, .int 0), (0, .ref (a 0)), (1, .int p0)]) hx hb dX11_tell_40 rfl hl (by decide) rfl (fun ls hl => ?_)
      refine jp_W (fun k92 : Int32 → St → Option (Int32 × St) => ∀ (v8 : Int32) (S9 : St), k92 v8 S9 = some (rz, Sz) → ∀ (H : Heap) (locs : List Loc) (ls : Array Slot), gw D A s.heap H locs (mcells cs a S9) → lv_has ls 6 [(0, .ref (a 0)), (1, .int p0), (2, .int v8)] → W p l e rmX11_tell s m args below meth c H locs 0 0 Q (F0 m 92 ls [])) ?_ ?_ hf
      · intro v8 S9 hf H locs ls hM hl
        unfold j_X11_tell_92 at hf
        refine lv_iload_n hx hb dX11_tell_92 rfl (lv_at hl 2 rfl) ?_
        refine jp_W (fun k99 : Int32 → Option (Int32 × St) => ∀ (v10 : Int32), k99 v10 = some (rz, Sz) → ∀ (H : Heap) (locs : List Loc) (ls : Array Slot), gw D A s.heap H locs (mcells cs a S9) → lv_has ls 6 [(0, .ref (a 0)), (1, .int p0), (2, .int v10)] → W p l e rmX11_tell s m args below meth c H locs 0 0 Q (F0 m 99 ls [])) ?_ ?_ hf
        · intro v10 hf H locs ls hM hl
          unfold j_X11_tell_99 at hf
          refine lv_iload_n hx hb dX11_tell_99 rfl (lv_at hl 1 rfl) ?_
          refine lv_iload_n hx hb dX11_tell_100 rfl (lv_at hl 2 rfl) ?_
          refine jp_W (fun k111 : St → Option (Int32 × St) => ∀ (S11 : St), k111 S11 = some (rz, Sz) → ∀ (H : Heap) (locs : List Loc) (ls : Array Slot), gw D A s.heap H locs (mcells cs a S11) → lv_has ls 6 [(0, .ref (a 0))] → W p l e rmX11_tell s m args below meth c H locs 0 0 Q (F0 m 111 ls [])) ?_ ?_ hf
          · intro S11 hf H locs ls hM hl
            unfold j_X11_tell_111 at hf
            refine lv_iconst (v := 1) hx hb dX11_tell_111 (by decide) ?_
            refine lv_istore_n (lv' := [(3, .int 1), (0, .ref (a 0))]) hx hb dX11_tell_112 rfl hl (by decide) rfl (fun ls hl => ?_)
            refine jp_W (fun k203 : St → Option (Int32 × St) => ∀ (S12 : St), k203 S12 = some (rz, Sz) → ∀ (H : Heap) (locs : List Loc) (ls : Array Slot), gw D A s.heap H locs (mcells cs a S12) → lv_has ls 6 [(0, .ref (a 0))] → W p l e rmX11_tell s m args below meth c H locs 0 0 Q (F0 m 203 ls [])) ?_ ?_ hf
            · intro S12 hf H locs ls hM hl
              unfold j_X11_tell_203 at hf
              refine lv_iconst (v := 0) hx hb dX11_tell_203 (by decide) ?_
              refine lv_istore (lv' := [(4, .int 0), (0, .ref (a 0))]) hx hb dX11_tell_204 hl (by decide) rfl (fun ls hl => ?_)
              refine lv_iconst (v := 0) hx hb dX11_tell_206 (by decide) ?_
              refine lv_istore (lv' := [(5, .int 0), (4, .int 0), (0, .ref (a 0))]) hx hb dX11_tell_207 hl (by decide) rfl (fun ls hl => ?_)
              refine jl_W (fun k209 : Int32 → Int32 → Option (Int32 × St) => ∀ (v13 : Int32) (v14 : Int32), k209 v13 v14 = some (rz, Sz) → ∀ (H : Heap) (locs : List Loc) (ls : Array Slot), gw D A s.heap H locs (mcells cs a S12) → lv_has ls 6 [(0, .ref (a 0)), (4, .int v13), (5, .int v14)] → W p l e rmX11_tell s m args below meth c H locs 0 0 Q (F0 m 209 ls [])) ?_ ?_ ?_ hf
              · intro v13 v14 h; cases h
              · intro k209 hk209 v13 v14 hf H locs ls hM hl
                unfold b_X11_tell_209 at hf
                refine lv_iload hx hb dX11_tell_209 (lv_at hl 2 rfl) ?_
                refine lv_aload_n hx hb dX11_tell_211 rfl (lv_at hl 0 rfl) ?_
                refine g_get hC hM inX11_tell_X11 0 mE0 clX11 38 (by decide) tX11_tell_2 TX11_38 mV0_38 dX11_tell_212 ?_
                refine lv_icmp_ge (tgt := 272) hx hb dX11_tell_215 (by decide) (fun c15 => ?_) (fun c15 => ?_)
                · replace hf := it_t c15 hf
                  refine lv_iload hx hb dX11_tell_272 (lv_at hl 1 rfl) ?_
                  obtain ⟨e1, e2⟩ := so_2 hf
                  cases e1; cases e2
                  exact hQ _ _ _ _ _ _ dX11_tell_274 hM (by decide) (by decide)
                · replace hf := it_f c15 hf
                  refine lv_iload hx hb dX11_tell_218 (lv_at hl 1 rfl) ?_
                  refine lv_iload hx hb dX11_tell_220 (lv_at hl 2 rfl) ?_
                  refine jp_W (fun k230 : Int32 → Int32 → Option (Int32 × St) => ∀ (v16 : Int32) (v17 : Int32), k230 v16 v17 = some (rz, Sz) → ∀ (H : Heap) (locs : List Loc) (ls : Array Slot), gw D A s.heap H locs (mcells cs a S12) → lv_has ls 6 [(0, .ref (a 0)), (5, .int v14)] → W p l e rmX11_tell s m args below meth c H locs 0 0 Q (F0 m 230 ls [.int v17, .int v16])) ?_ ?_ hf
                  · intro v16 v17 hf H locs ls hM hl
                    unfold j_X11_tell_230 at hf
                    refine lv_aload_n hx hb dX11_tell_230 rfl (lv_at hl 0 rfl) ?_
                    refine lv_aload_n hx hb dX11_tell_231 rfl (lv_at hl 0 rfl) ?_
                    refine g_get hC hM inX11_tell_X11 0 mE0 clX11 41 (by decide) tX11_tell_9 TX11_41 mV0_41 dX11_tell_232 ?_
                    refine lv_iload hx hb dX11_tell_235 (lv_at hl 1 rfl) ?_
                    obtain ⟨h18, hf⟩ := ck_s hf
                    refine g_iald hC hM 21 mE21 h18 dX11_tell_237 ?_
                    refine lv_aload_n hx hb dX11_tell_238 rfl (lv_at hl 0 rfl) ?_
                    refine g_get hC hM inX11_tell_X11 0 mE0 clX11 42 (by decide) tX11_tell_10 TX11_42 mV0_42 dX11_tell_239 ?_
                    refine lv_iload hx hb dX11_tell_242 (lv_at hl 1 rfl) ?_
                    obtain ⟨h19, hf⟩ := ck_s hf
                    refine g_iald hC hM 22 mE22 h19 dX11_tell_244 ?_
                    refine lv_aload_n hx hb dX11_tell_245 rfl (lv_at hl 0 rfl) ?_
                    refine g_get hC hM inX11_tell_X11 0 mE0 clX11 43 (by decide) tX11_tell_11 TX11_43 mV0_43 dX11_tell_246 ?_
                    refine lv_iload hx hb dX11_tell_249 (lv_at hl 1 rfl) ?_
                    obtain ⟨h20, hf⟩ := ck_s hf
                    refine g_iald hC hM 23 mE23 h20 dX11_tell_251 ?_
                    refine lv_aload_n hx hb dX11_tell_252 rfl (lv_at hl 0 rfl) ?_
                    refine g_get hC hM inX11_tell_X11 0 mE0 clX11 44 (by decide) tX11_tell_12 TX11_44 mV0_44 dX11_tell_253 ?_
                    refine lv_iload hx hb dX11_tell_256 (lv_at hl 1 rfl) ?_
                    obtain ⟨h21, hf⟩ := ck_s hf
                    refine g_iald hC hM 24 mE24 h21 dX11_tell_258 ?_
                    obtain ⟨v22, hc, hf⟩ := bd_s hf
                    refine gV_i hC hM hA hl.1 [.int (S12.1 21 v14.toNatClampNeg), .int (S12.1 22 v14.toNatClampNeg), .int (S12.1 23 v14.toNatClampNeg), .int (S12.1 24 v14.toNatClampNeg)] [.int v17, .int v16] (c_X11_clauseSize l D cs a N (S12.1 21 v14.toNatClampNeg) (S12.1 22 v14.toNatClampNeg) (S12.1 23 v14.toNatClampNeg) (S12.1 24 v14.toNatClampNeg) S12 v22 hc) gX11_tell_X11_clauseSize rfl hd_X11_clauseSize ⟨by decide, by decide⟩ 0 11 clX11 rfl mE0 (Nat.le_of_ble_eq_true rfl) dX11_tell_259 rfl ⟨by decide, by decide⟩ (fun H locs hM => ?_)
                    refine lv_iadd hx hb dX11_tell_262 ?_
                    refine lv_iadd hx hb dX11_tell_263 ?_
                    refine lv_topi (fun v23 ev23 => ?_)
                    replace hf := nm_q ev23 hf
                    refine lv_istore (lv' := [(4, .int v23), (0, .ref (a 0)), (5, .int v14)]) hx hb dX11_tell_264 hl (by decide) rfl (fun ls hl => ?_)
                    obtain ⟨v24, ev24⟩ : ∃ y : Int32, y = v14 + 1 := ⟨_, rfl⟩
                    replace hf := nm_q ev24 hf
                    refine lv_iinc (v := v24) (lv' := [(5, .int v24), (4, .int v23), (0, .ref (a 0))]) hx hb dX11_tell_266 hl (k := 2) rfl (by rw [ev24]; rfl) (by decide) rfl (fun ls hl => ?_)
                    refine lv_goto (tgt := 209) hx hb dX11_tell_269 (by decide) ?_
                    exact hk209 _ _ hf _ _ _ hM (lv_sub hl [2, 1, 0] rfl)
                  · intro k230 hk230 hf
                    refine lv_if_le (tgt := 229) hx hb dX11_tell_222 (by decide) (fun c25 => ?_) (fun c25 => ?_)
                    · replace hf := it_t c25 hf
                      refine lv_iconst (v := 0) hx hb dX11_tell_229 (by decide) ?_
                      exact hk230 _ _ hf _ _ _ hM (lv_sub hl [0, 2] rfl)
                    · replace hf := it_f c25 hf
                      refine lv_iconst (v := 1) hx hb dX11_tell_225 (by decide) ?_
                      refine lv_goto (tgt := 230) hx hb dX11_tell_226 (by decide) ?_
                      exact hk230 _ _ hf _ _ _ hM (lv_sub hl [0, 2] rfl)
              · intro k209 hk209 hf
                exact hk209 _ _ hf _ _ _ hM (lv_sub hl [2, 1, 0] rfl)
            · intro k203 hk203 hf
              refine jl_W (fun k113 : Int32 → St → Option (Int32 × St) => ∀ (v26 : Int32) (S27 : St), k113 v26 S27 = some (rz, Sz) → ∀ (H : Heap) (locs : List Loc) (ls : Array Slot), gw D A s.heap H locs (mcells cs a S27) → lv_has ls 6 [(0, .ref (a 0)), (3, .int v26)] → W p l e rmX11_tell s m args below meth c H locs 0 0 Q (F0 m 113 ls [])) ?_ ?_ ?_ hf
              · intro v26 S27 h; cases h
              · intro k113 hk113 v26 S27 hf H locs ls hM hl
                unfold b_X11_tell_113 at hf
                refine lv_iload_n hx hb dX11_tell_113 rfl (lv_at hl 1 rfl) ?_
                refine lv_if_eq (tgt := 203) hx hb dX11_tell_114 (by decide) (fun c28 => ?_) (fun c28 => ?_)
                · replace hf := it_t c28 hf
                  exact hk203 _ hf _ _ _ hM (lv_sub hl [0] rfl)
                · replace hf := it_f c28 hf
                  refine lv_iconst (v := (-1)) hx hb dX11_tell_117 (by decide) ?_
                  refine lv_istore (lv' := [(4, .int (-1)), (0, .ref (a 0)), (3, .int v26)]) hx hb dX11_tell_118 hl (by decide) rfl (fun ls hl => ?_)
                  refine lv_iconst (v := 0) hx hb dX11_tell_120 (by decide) ?_
                  refine lv_istore (lv' := [(5, .int 0), (4, .int (-1)), (0, .ref (a 0)), (3, .int v26)]) hx hb dX11_tell_121 hl (by decide) rfl (fun ls hl => ?_)
                  refine jp_W (fun k168 : Int32 → Option (Int32 × St) => ∀ (v29 : Int32), k168 v29 = some (rz, Sz) → ∀ (H : Heap) (locs : List Loc) (ls : Array Slot), gw D A s.heap H locs (mcells cs a S27) → lv_has ls 6 [(0, .ref (a 0)), (4, .int v29)] → W p l e rmX11_tell s m args below meth c H locs 0 0 Q (F0 m 168 ls [])) ?_ ?_ hf
                  · intro v29 hf H locs ls hM hl
                    unfold j_X11_tell_168 at hf
                    refine lv_iload hx hb dX11_tell_168 (lv_at hl 1 rfl) ?_
                    refine jp_W (fun k178 : Int32 → Option (Int32 × St) => ∀ (v30 : Int32), k178 v30 = some (rz, Sz) → ∀ (H : Heap) (locs : List Loc) (ls : Array Slot), gw D A s.heap H locs (mcells cs a S27) → lv_has ls 6 [(0, .ref (a 0)), (4, .int v29)] → W p l e rmX11_tell s m args below meth c H locs 0 0 Q (F0 m 178 ls [.int v30])) ?_ ?_ hf
                    · intro v30 hf H locs ls hM hl
                      unfold j_X11_tell_178 at hf
                      refine lv_istore_n (lv' := [(3, .int v30), (0, .ref (a 0)), (4, .int v29)]) hx hb dX11_tell_178 rfl hl (by decide) rfl (fun ls hl => ?_)
                      refine lv_iload_n hx hb dX11_tell_179 rfl (lv_at hl 0 rfl) ?_
                      refine lv_if_ne (tgt := 186) hx hb dX11_tell_180 (by decide) (fun c31 => ?_) (fun c31 => ?_)
                      · replace hf := it_f c31 hf
                        refine lv_aload_n hx hb dX11_tell_186 rfl (lv_at hl 1 rfl) ?_
                        refine lv_iload hx hb dX11_tell_187 (lv_at hl 2 rfl) ?_
                        obtain ⟨S32, hc, hf⟩ := bd_s hf
                        refine gV_v hC hM hA hl.1 [.int v29] [] (c_X11_tells l D cs a N v29 S27 S32 hc) gX11_tell_X11_tells rfl hd_X11_tells ⟨by decide, by decide⟩ 0 11 clX11 rfl mE0 (Nat.le_of_ble_eq_true rfl) dX11_tell_189 rfl ⟨by decide, by decide⟩ (fun H locs hM => ?_)
                        refine lv_aload_n hx hb dX11_tell_192 rfl (lv_at hl 1 rfl) ?_
                        refine g_get hC hM inX11_tell_X11 0 mE0 clX11 45 (by decide) tX11_tell_6 TX11_45 mV0_45 dX11_tell_193 ?_
                        refine lv_iload hx hb dX11_tell_196 (lv_at hl 2 rfl) ?_
                        refine lv_iconst (v := 0) hx hb dX11_tell_198 (by decide) ?_
                        obtain ⟨h33, hf⟩ := ck_s hf
                        refine g_zast hC hM 25 mE25 h33 mA25 dX11_tell_199 (fun H locs hM => ?_)
                        obtain ⟨S34, hf, hM⟩ := mnm hf hM
                        refine lv_goto (tgt := 113) hx hb dX11_tell_200 (by decide) ?_
                        exact hk113 _ _ hf _ _ _ hM (lv_sub hl [1, 0] rfl)
                      · replace hf := it_t c31 hf
                        refine lv_goto (tgt := 113) hx hb dX11_tell_183 (by decide) ?_
                        exact hk113 _ _ hf _ _ _ hM (lv_sub hl [1, 0] rfl)
                    · intro k178 hk178 hf
                      refine lv_if_lt (tgt := 177) hx hb dX11_tell_170 (by decide) (fun c35 => ?_) (fun c35 => ?_)
                      · replace hf := it_t c35 hf
                        refine lv_iconst (v := 0) hx hb dX11_tell_177 (by decide) ?_
                        exact hk178 _ hf _ _ _ hM hl
                      · replace hf := it_f c35 hf
                        refine lv_iconst (v := 1) hx hb dX11_tell_173 (by decide) ?_
                        refine lv_goto (tgt := 178) hx hb dX11_tell_174 (by decide) ?_
                        exact hk178 _ hf _ _ _ hM hl
                  · intro k168 hk168 hf
                    refine jl_W (fun k123 : Int32 → Int32 → Option (Int32 × St) => ∀ (v36 : Int32) (v37 : Int32), k123 v36 v37 = some (rz, Sz) → ∀ (H : Heap) (locs : List Loc) (ls : Array Slot), gw D A s.heap H locs (mcells cs a S27) → lv_has ls 6 [(0, .ref (a 0)), (4, .int v36), (5, .int v37)] → W p l e rmX11_tell s m args below meth c H locs 0 0 Q (F0 m 123 ls [])) ?_ ?_ ?_ hf
                    · intro v36 v37 h; cases h
                    · intro k123 hk123 v36 v37 hf H locs ls hM hl
                      unfold b_X11_tell_123 at hf
                      refine lv_iload hx hb dX11_tell_123 (lv_at hl 2 rfl) ?_
                      refine lv_aload_n hx hb dX11_tell_125 rfl (lv_at hl 0 rfl) ?_
                      refine g_get hC hM inX11_tell_X11 0 mE0 clX11 32 (by decide) tX11_tell_5 TX11_32 mV0_32 dX11_tell_126 ?_
                      refine lv_icmp_ge (tgt := 168) hx hb dX11_tell_129 (by decide) (fun c38 => ?_) (fun c38 => ?_)
                      · replace hf := it_t c38 hf
                        exact hk168 _ hf _ _ _ hM (lv_sub hl [0, 1] rfl)
                      · replace hf := it_f c38 hf
                        refine lv_aload_n hx hb dX11_tell_132 rfl (lv_at hl 0 rfl) ?_
                        refine g_get hC hM inX11_tell_X11 0 mE0 clX11 45 (by decide) tX11_tell_6 TX11_45 mV0_45 dX11_tell_133 ?_
                        refine lv_iload hx hb dX11_tell_136 (lv_at hl 2 rfl) ?_
                        obtain ⟨h39, hf⟩ := ck_s hf
                        refine g_zald hC hM 25 mE25 h39 dX11_tell_138 ?_
                        refine jp_W (fun k162 : Int32 → Option (Int32 × St) => ∀ (v40 : Int32), k162 v40 = some (rz, Sz) → ∀ (H : Heap) (locs : List Loc) (ls : Array Slot), gw D A s.heap H locs (mcells cs a S27) → lv_has ls 6 [(0, .ref (a 0)), (4, .int v40), (5, .int v37)] → W p l e rmX11_tell s m args below meth c H locs 0 0 Q (F0 m 162 ls [])) ?_ ?_ hf
                        · intro v40 hf H locs ls hM hl
                          unfold j_X11_tell_162 at hf
                          obtain ⟨v41, ev41⟩ : ∃ y : Int32, y = v37 + 1 := ⟨_, rfl⟩
                          replace hf := nm_q ev41 hf
                          refine lv_iinc (v := v41) (lv' := [(5, .int v41), (0, .ref (a 0)), (4, .int v40)]) hx hb dX11_tell_162 hl (k := 2) rfl (by rw [ev41]; rfl) (by decide) rfl (fun ls hl => ?_)
                          refine lv_goto (tgt := 123) hx hb dX11_tell_165 (by decide) ?_
                          exact hk123 _ _ hf _ _ _ hM (lv_sub hl [1, 2, 0] rfl)
                        · intro k162 hk162 hf
                          refine lv_if_eq (tgt := 162) hx hb dX11_tell_139 (by decide) (fun c42 => ?_) (fun c42 => ?_)
                          · replace hf := it_t c42 hf
                            exact hk162 _ hf _ _ _ hM hl
                          · replace hf := it_f c42 hf
                            refine lv_iload hx hb dX11_tell_142 (lv_at hl 1 rfl) ?_
                            refine jp_W (fun k158 : Option (Int32 × St) => k158 = some (rz, Sz) → ∀ (H : Heap) (locs : List Loc) (ls : Array Slot), gw D A s.heap H locs (mcells cs a S27) → lv_has ls 6 [(0, .ref (a 0)), (5, .int v37)] → W p l e rmX11_tell s m args below meth c H locs 0 0 Q (F0 m 158 ls [])) ?_ ?_ hf
                            · intro  hf H locs ls hM hl
                              unfold j_X11_tell_158 at hf
                              refine lv_iload hx hb dX11_tell_158 (lv_at hl 1 rfl) ?_
                              refine lv_istore (lv' := [(4, .int v37), (0, .ref (a 0)), (5, .int v37)]) hx hb dX11_tell_160 hl (by decide) rfl (fun ls hl => ?_)
                              exact hk162 _ hf _ _ _ hM (lv_sub hl [1, 0, 2] rfl)
                            · intro k158 hk158 hf
                              refine lv_if_lt (tgt := 158) hx hb dX11_tell_144 (by decide) (fun c43 => ?_) (fun c43 => ?_)
                              · replace hf := it_t c43 hf
                                exact hk158 hf _ _ _ hM (lv_sub hl [0, 2] rfl)
                              · replace hf := it_f c43 hf
                                refine lv_aload_n hx hb dX11_tell_147 rfl (lv_at hl 0 rfl) ?_
                                refine lv_iload hx hb dX11_tell_148 (lv_at hl 2 rfl) ?_
                                refine lv_iload hx hb dX11_tell_150 (lv_at hl 1 rfl) ?_
                                obtain ⟨v44, hc, hf⟩ := bd_s hf
                                refine gV_i hC hM hA hl.1 [.int v37, .int v36] [] (c_X11_isAhead l D cs a N v37 v36 S27 v44 hc) gX11_tell_X11_isAhead rfl hd_X11_isAhead ⟨by decide, by decide⟩ 0 11 clX11 rfl mE0 (Nat.le_of_ble_eq_true rfl) dX11_tell_152 rfl ⟨by decide, by decide⟩ (fun H locs hM => ?_)
                                refine lv_if_eq (tgt := 162) hx hb dX11_tell_155 (by decide) (fun c45 => ?_) (fun c45 => ?_)
                                · replace hf := it_t c45 hf
                                  exact hk162 _ hf _ _ _ hM hl
                                · replace hf := it_f c45 hf
                                  exact hk158 hf _ _ _ hM (lv_sub hl [0, 2] rfl)
                    · intro k123 hk123 hf
                      exact hk123 _ _ hf _ _ _ hM (lv_sub hl [2, 1, 0] rfl)
              · intro k113 hk113 hf
                exact hk113 _ _ hf _ _ _ hM (lv_sub hl [1, 0] rfl)
          · intro k111 hk111 hf
            refine lv_icmp_lt (tgt := 111) hx hb dX11_tell_101 (by decide) (fun c46 => ?_) (fun c46 => ?_)
            · replace hf := it_t c46 hf
              exact hk111 _ hf _ _ _ hM (lv_sub hl [0] rfl)
            · replace hf := it_f c46 hf
              refine lv_aload_n hx hb dX11_tell_104 rfl (lv_at hl 0 rfl) ?_
              refine lv_iload_n hx hb dX11_tell_105 rfl (lv_at hl 1 rfl) ?_
              refine lv_iload_n hx hb dX11_tell_106 rfl (lv_at hl 2 rfl) ?_
              refine lv_isub hx hb dX11_tell_107 ?_
              obtain ⟨S47, hc, hf⟩ := bd_s hf
              refine gV_v hC hM hA hl.1 [.int (p0 - v10)] [] (c_X11_choose l D cs a N (p0 - v10) S9 S47 hc) gX11_tell_X11_choose rfl hd_X11_choose ⟨by decide, by decide⟩ 0 11 clX11 rfl mE0 (Nat.le_of_ble_eq_true rfl) dX11_tell_108 rfl ⟨by decide, by decide⟩ (fun H locs hM => ?_)
              exact hk111 _ hf _ _ _ hM (lv_sub hl [0] rfl)
        · intro k99 hk99 hf
          refine lv_if_le (tgt := 99) hx hb dX11_tell_93 (by decide) (fun c48 => ?_) (fun c48 => ?_)
          · replace hf := it_t c48 hf
            exact hk99 _ hf _ _ _ hM hl
          · replace hf := it_f c48 hf
            obtain ⟨v49, ev49⟩ : ∃ y : Int32, y = v8 + (-1) := ⟨_, rfl⟩
            replace hf := nm_q ev49 hf
            refine lv_iinc (v := v49) (lv' := [(2, .int v49), (0, .ref (a 0)), (1, .int p0)]) hx hb dX11_tell_96 hl (k := 2) rfl (by rw [ev49]; rfl) (by decide) rfl (fun ls hl => ?_)
            exact hk99 _ hf _ _ _ hM (lv_sub hl [1, 2, 0] rfl)
      · intro k92 hk92 hf
        refine jl_W (fun k41 : Int32 → Int32 → St → Option (Int32 × St) => ∀ (v50 : Int32) (v51 : Int32) (S52 : St), k41 v50 v51 S52 = some (rz, Sz) → ∀ (H : Heap) (locs : List Loc) (ls : Array Slot), gw D A s.heap H locs (mcells cs a S52) → lv_has ls 6 [(0, .ref (a 0)), (1, .int p0), (2, .int v50), (3, .int v51)] → W p l e rmX11_tell s m args below meth c H locs 0 0 Q (F0 m 41 ls [])) ?_ ?_ ?_ hf
        · intro v50 v51 S52 h; cases h
        · intro k41 hk41 v50 v51 S52 hf H locs ls hM hl
          unfold b_X11_tell_41 at hf
          refine lv_iload_n hx hb dX11_tell_41 rfl (lv_at hl 3 rfl) ?_
          refine lv_aload_n hx hb dX11_tell_42 rfl (lv_at hl 0 rfl) ?_
          refine g_get hC hM inX11_tell_X11 0 mE0 clX11 32 (by decide) tX11_tell_5 TX11_32 mV0_32 dX11_tell_43 ?_
          refine lv_icmp_ge (tgt := 92) hx hb dX11_tell_46 (by decide) (fun c53 => ?_) (fun c53 => ?_)
          · replace hf := it_t c53 hf
            exact hk92 _ _ hf _ _ _ hM (lv_sub hl [0, 1, 2] rfl)
          · replace hf := it_f c53 hf
            refine lv_aload_n hx hb dX11_tell_49 rfl (lv_at hl 0 rfl) ?_
            refine g_get hC hM inX11_tell_X11 0 mE0 clX11 45 (by decide) tX11_tell_6 TX11_45 mV0_45 dX11_tell_50 ?_
            refine lv_iload_n hx hb dX11_tell_53 rfl (lv_at hl 3 rfl) ?_
            refine lv_iconst (v := 0) hx hb dX11_tell_54 (by decide) ?_
            obtain ⟨h54, hf⟩ := ck_s hf
            refine g_zast hC hM 25 mE25 h54 mA25 dX11_tell_55 (fun H locs hM => ?_)
            obtain ⟨S55, hf, hM⟩ := mnm hf hM
            refine lv_aload_n hx hb dX11_tell_56 rfl (lv_at hl 0 rfl) ?_
            refine g_get hC hM inX11_tell_X11 0 mE0 clX11 13 (by decide) tX11_tell_7 TX11_13 mV0_13 dX11_tell_57 ?_
            refine lv_aload_n hx hb dX11_tell_60 rfl (lv_at hl 0 rfl) ?_
            refine g_get hC hM inX11_tell_X11 0 mE0 clX11 33 (by decide) tX11_tell_8 TX11_33 mV0_33 dX11_tell_61 ?_
            refine lv_iload_n hx hb dX11_tell_64 rfl (lv_at hl 3 rfl) ?_
            obtain ⟨h56, hf⟩ := ck_s hf
            refine g_iald hC hM 16 mE16 h56 dX11_tell_65 ?_
            obtain ⟨h57, hf⟩ := ck_s hf
            refine g_zald hC hM 9 mE9 h57 dX11_tell_66 ?_
            refine jp_W (fun k86 : Int32 → St → Option (Int32 × St) => ∀ (v58 : Int32) (S59 : St), k86 v58 S59 = some (rz, Sz) → ∀ (H : Heap) (locs : List Loc) (ls : Array Slot), gw D A s.heap H locs (mcells cs a S59) → lv_has ls 6 [(0, .ref (a 0)), (1, .int p0), (2, .int v58), (3, .int v51)] → W p l e rmX11_tell s m args below meth c H locs 0 0 Q (F0 m 86 ls [])) ?_ ?_ hf
            · intro v58 S59 hf H locs ls hM hl
              unfold j_X11_tell_86 at hf
              obtain ⟨v60, ev60⟩ : ∃ y : Int32, y = v51 + 1 := ⟨_, rfl⟩
              replace hf := nm_q ev60 hf
              refine lv_iinc (v := v60) (lv' := [(3, .int v60), (0, .ref (a 0)), (1, .int p0), (2, .int v58)]) hx hb dX11_tell_86 hl (k := 3) rfl (by rw [ev60]; rfl) (by decide) rfl (fun ls hl => ?_)
              refine lv_goto (tgt := 41) hx hb dX11_tell_89 (by decide) ?_
              exact hk41 _ _ _ hf _ _ _ hM (lv_sub hl [1, 2, 3, 0] rfl)
            · intro k86 hk86 hf
              refine lv_if_ne (tgt := 73) hx hb dX11_tell_67 (by decide) (fun c61 => ?_) (fun c61 => ?_)
              · replace hf := it_f c61 hf
                refine lv_iload_n hx hb dX11_tell_73 rfl (lv_at hl 2 rfl) ?_
                refine lv_aload_n hx hb dX11_tell_74 rfl (lv_at hl 0 rfl) ?_
                refine lv_iload_n hx hb dX11_tell_75 rfl (lv_at hl 3 rfl) ?_
                obtain ⟨v62, hc, hf⟩ := bd_s hf
                refine gV_i hC hM hA hl.1 [.int v51] [.int v50] (c_X11_sizeOf l D cs a N v51 S55 v62 hc) gX11_tell_X11_sizeOf rfl hd_X11_sizeOf ⟨by decide, by decide⟩ 0 11 clX11 rfl mE0 (Nat.le_of_ble_eq_true rfl) dX11_tell_76 rfl ⟨by decide, by decide⟩ (fun H locs hM => ?_)
                refine lv_iadd hx hb dX11_tell_79 ?_
                refine lv_topi (fun v63 ev63 => ?_)
                replace hf := nm_q ev63 hf
                refine lv_istore_n (lv' := [(2, .int v63), (0, .ref (a 0)), (1, .int p0), (3, .int v51)]) hx hb dX11_tell_80 rfl hl (by decide) rfl (fun ls hl => ?_)
                refine lv_aload_n hx hb dX11_tell_81 rfl (lv_at hl 1 rfl) ?_
                refine lv_iload_n hx hb dX11_tell_82 rfl (lv_at hl 3 rfl) ?_
                obtain ⟨S64, hc, hf⟩ := bd_s hf
                refine gV_v hC hM hA hl.1 [.int v51] [] (c_X11_tells l D cs a N v51 S55 S64 hc) gX11_tell_X11_tells rfl hd_X11_tells ⟨by decide, by decide⟩ 0 11 clX11 rfl mE0 (Nat.le_of_ble_eq_true rfl) dX11_tell_83 rfl ⟨by decide, by decide⟩ (fun H locs hM => ?_)
                exact hk86 _ _ hf _ _ _ hM (lv_sub hl [1, 2, 0, 3] rfl)
              · replace hf := it_t c61 hf
                refine lv_goto (tgt := 86) hx hb dX11_tell_70 (by decide) ?_
                exact hk86 _ _ hf _ _ _ hM hl
        · intro k41 hk41 hf
          exact hk41 _ _ _ hf _ _ _ hM (lv_sub hl [2, 3, 1, 0] rfl)
    · replace hf := it_f c3 hf
      refine lv_iconst (v := (-1)) hx hb dX11_tell_16 (by decide) ?_
      obtain ⟨e1, e2⟩ := so_2 hf
      cases e1; cases e2
      exact hQ _ _ _ _ _ _ dX11_tell_17 hM (by decide) (by decide)
