theorem hd_X11_clauseSign : yX11_clauseSign.cls = RX11 ∧ yX11_clauseSign.cls ≠ "java/lang/invoke/MethodHandle" ∧ yX11_clauseSign.cls ≠ "java/lang/invoke/VarHandle" ∧ (parseMethodDescriptor yX11_clauseSign.desc).map (fun d => d.parameters.length) = some 5 := by decide +kernel
theorem tX11_clauseSign_1 : Cond.fieldLink RX11 48 "WeatherTellerModel" "groupNames" "[I" ∈ wsX11_clauseSign := List.mem_of_getElem? (i := 1) rfl
theorem inX11_clauseSign_X11 : ∀ w ∈ u_ws RX11 TX11 50, w ∈ wsX11_clauseSign := fun _ h => List.mem_cons_of_mem _ (List.mem_append_right _ h)
theorem tX11_clauseSign_2 : Cond.fieldLink RX11 51 "WeatherTellerModel" "groupOut" "[I" ∈ wsX11_clauseSign := List.mem_of_getElem? (i := 2) rfl
theorem tX11_clauseSign_3 : Cond.fieldLink RX11 41 "WeatherTellerModel" "bSize" "[I" ∈ wsX11_clauseSign := List.mem_of_getElem? (i := 3) rfl
theorem tX11_clauseSign_4 : Cond.fieldLink RX11 38 "WeatherTellerModel" "bLetters" "[I" ∈ wsX11_clauseSign := List.mem_of_getElem? (i := 4) rfl
def j_X11_clauseSign_119 (N : Nat) (p0 : Int32) (p1 : Int32) (p2 : Int32) (S : St) (v6 : Int32) : Option (Int32) :=
  if 2 ≤ v6 then
    nm (v6 + (-2)) fun v8 =>
    ck p0 48 <|
    if (S.1 11 p0.toNatClampNeg) ≤ v8 then
      ck p0 48 <|
      nm (v8 - (S.1 11 p0.toNatClampNeg)) fun v12 =>
      if v12 = 0 then
        some 32
      else
        nm (v12 + (-1)) fun v14 =>
        bd (f_X11_digits N p1) fun v15 =>
        if v15 ≤ v14 then
          bd (f_X11_digits N p1) fun v17 =>
          nm (v14 - v17) fun v18 =>
          if v18 = 0 then
            some 45
          else
            nm (v18 + (-1)) fun v20 =>
            bd (f_X11_digits N p2) fun v21 =>
            if v21 ≤ v20 then
              some 46
            else
              bd (f_X11_digit N p2 v20) fun v23 =>
              some v23
        else
          bd (f_X11_digit N p1 v14) fun v24 =>
          some v24
    else
      ck ((12 * p0) + v8) 576 <|
      some (S.1 10 ((12 * p0) + v8).toNatClampNeg)
  else
    if v6 = 0 then
      some 58
    else
      some 32
def f_X11_clauseSign (N : Nat) (p0 : Int32) (p1 : Int32) (p2 : Int32) (p3 : Int32) (p4 : Int32) (S : St) : Option (Int32) :=
  ck p3 64 <|
  bd (f_X11_nameSign N (S.1 12 p3.toNatClampNeg) p4 S) fun v2 =>
  if v2 < 0 then
    nm ((-2) - v2) fun v4 =>
    ck p3 64 <|
    jp (j_X11_clauseSign_119 N p0 p1 p2 S) fun k119 =>
    if (S.1 13 p3.toNatClampNeg) = 0 then
      k119 v4
    else
      if 5 ≤ v4 then
        ck p3 64 <|
        bd (f_X11_nameSign N (S.1 13 p3.toNatClampNeg) (v4 - 5) S) fun v30 =>
        if v30 < 0 then
          nm ((-2) - v30) fun v32 =>
          k119 v32
        else
          some v30
      else
        if v4 = 0 then
          some 32
        else
          if v4 = 4 then
            some 32
          else
            if v4 = 1 then
              some 98
            else
              if v4 = 2 then
                some 117
              else
                some 116
  else
    some v2
abbrev rmX11_clauseSign : Room := { frames := 1, cells := 0, slots := 0, locals := 25 }
set_option maxRecDepth 100000 in
set_option maxHeartbeats 4000000 in
theorem c_X11_clauseSign (l : Launch) (D : va_G) (cs : Nat → ClassId) (a : Nat → Nat) (N : Nat) (p0 : Int32) (p1 : Int32) (p2 : Int32) (p3 : Int32) (p4 : Int32) (S : St) (rz : Int32) (hf : f_X11_clauseSign N p0 p1 p2 p3 p4 S = some rz) : gMi l yX11_clauseSign wsX11_clauseSign rmX11_clauseSign D cs [.ref (a 0), .int p0, .int p1, .int p2, .int p3, .int p4] (mcells cs a S) rz (mcells cs a S) := by
  unfold f_X11_clauseSign at hf
  refine gE_i (cc := cX11_clauseSign) (maxL := 8) (by decide) rfl (Nat.le_of_ble_eq_true rfl) ?_
  intro p e s m args below meth c A Q hC hA hQ hM ls hl
  obtain ⟨hx, hb, hml, hown, hts⟩ := hC.1
  have hl : lv_has ls 8 [(0, .ref (a 0)), (1, .int p0), (2, .int p1), (3, .int p2), (4, .int p3), (5, .int p4)] := hl
  refine lv_aload_n hx hb dX11_clauseSign_0 rfl (lv_at hl 0 rfl) ?_
  refine lv_aload_n hx hb dX11_clauseSign_1 rfl (lv_at hl 0 rfl) ?_
  refine g_get hC hM inX11_clauseSign_X11 0 mE0 clX11 18 (by decide) tX11_clauseSign_1 TX11_18 mV0_18 dX11_clauseSign_2 ?_
  refine lv_iload hx hb dX11_clauseSign_5 (lv_at hl 4 rfl) ?_
  obtain ⟨h1, hf⟩ := ck_s hf
  refine g_iald hC hM 12 mE12 h1 dX11_clauseSign_7 ?_
  refine lv_iload hx hb dX11_clauseSign_8 (lv_at hl 5 rfl) ?_
  obtain ⟨v2, hc, hf⟩ := bd_s hf
  refine gV_i hC hM hA hl.1 [.int (S.1 12 p3.toNatClampNeg), .int p4] [] (c_X11_nameSign l D cs a N (S.1 12 p3.toNatClampNeg) p4 S v2 hc) gX11_clauseSign_X11_nameSign rfl hd_X11_nameSign ⟨by decide, by decide⟩ 0 11 clX11 rfl mE0 (Nat.le_of_ble_eq_true rfl) dX11_clauseSign_10 rfl ⟨by decide, by decide⟩ (fun H locs hM => ?_)
  refine lv_istore (lv' := [(6, .int v2), (0, .ref (a 0)), (1, .int p0), (2, .int p1), (3, .int p2), (4, .int p3), (5, .int p4)]) hx hb dX11_clauseSign_13 hl (by decide) rfl (fun ls hl => ?_)
  refine lv_iload hx hb dX11_clauseSign_15 (lv_at hl 0 rfl) ?_
  refine lv_if_lt (tgt := 23) hx hb dX11_clauseSign_17 (by decide) (fun c3 => ?_) (fun c3 => ?_)
  · replace hf := it_t c3 hf
    refine lv_bipush (v := (-2)) hx hb dX11_clauseSign_23 (by decide) ?_
    refine lv_iload hx hb dX11_clauseSign_25 (lv_at hl 0 rfl) ?_
    refine lv_isub hx hb dX11_clauseSign_27 ?_
    refine lv_topi (fun v4 ev4 => ?_)
    replace hf := nm_q ev4 hf
    refine lv_istore (lv' := [(7, .int v4), (6, .int v2), (0, .ref (a 0)), (1, .int p0), (2, .int p1), (3, .int p2), (4, .int p3), (5, .int p4)]) hx hb dX11_clauseSign_28 hl (by decide) rfl (fun ls hl => ?_)
    refine lv_aload_n hx hb dX11_clauseSign_30 rfl (lv_at hl 2 rfl) ?_
    refine g_get hC hM inX11_clauseSign_X11 0 mE0 clX11 19 (by decide) tX11_clauseSign_2 TX11_19 mV0_19 dX11_clauseSign_31 ?_
    refine lv_iload hx hb dX11_clauseSign_34 (lv_at hl 6 rfl) ?_
    obtain ⟨h5, hf⟩ := ck_s hf
    refine g_iald hC hM 13 mE13 h5 dX11_clauseSign_36 ?_
    refine jp_W (fun k119 : Int32 → Option (Int32) => ∀ (v6 : Int32), k119 v6 = some rz → ∀ (H : Heap) (locs : List Loc) (ls : Array Slot), gw D A s.heap H locs (mcells cs a S) → lv_has ls 8 [(0, .ref (a 0)), (1, .int p0), (2, .int p1), (3, .int p2), (7, .int v6)] → W p l e rmX11_clauseSign s m args below meth c H locs 0 0 Q (F0 m 119 ls [])) ?_ ?_ hf
    · intro v6 hf H locs ls hM hl
      unfold j_X11_clauseSign_119 at hf
      refine lv_iload hx hb dX11_clauseSign_119 (lv_at hl 4 rfl) ?_
      refine lv_iconst (v := 2) hx hb dX11_clauseSign_121 (by decide) ?_
      refine lv_icmp_ge (tgt := 138) hx hb dX11_clauseSign_122 (by decide) (fun c7 => ?_) (fun c7 => ?_)
      · replace hf := it_t c7 hf
        obtain ⟨v8, ev8⟩ : ∃ y : Int32, y = v6 + (-2) := ⟨_, rfl⟩
        replace hf := nm_q ev8 hf
        refine lv_iinc (v := v8) (lv' := [(7, .int v8), (0, .ref (a 0)), (1, .int p0), (2, .int p1), (3, .int p2)]) hx hb dX11_clauseSign_138 hl (k := 4) rfl (by rw [ev8]; rfl) (by decide) rfl (fun ls hl => ?_)
        refine lv_iload hx hb dX11_clauseSign_141 (lv_at hl 0 rfl) ?_
        refine lv_aload_n hx hb dX11_clauseSign_143 rfl (lv_at hl 1 rfl) ?_
        refine g_get hC hM inX11_clauseSign_X11 0 mE0 clX11 15 (by decide) tX11_clauseSign_3 TX11_15 mV0_15 dX11_clauseSign_144 ?_
        refine lv_iload_n hx hb dX11_clauseSign_147 rfl (lv_at hl 2 rfl) ?_
        obtain ⟨h9, hf⟩ := ck_s hf
        refine g_iald hC hM 11 mE11 h9 dX11_clauseSign_148 ?_
        refine lv_icmp_ge (tgt := 165) hx hb dX11_clauseSign_149 (by decide) (fun c10 => ?_) (fun c10 => ?_)
        · replace hf := it_t c10 hf
          refine lv_iload hx hb dX11_clauseSign_165 (lv_at hl 0 rfl) ?_
          refine lv_aload_n hx hb dX11_clauseSign_167 rfl (lv_at hl 1 rfl) ?_
          refine g_get hC hM inX11_clauseSign_X11 0 mE0 clX11 15 (by decide) tX11_clauseSign_3 TX11_15 mV0_15 dX11_clauseSign_168 ?_
          refine lv_iload_n hx hb dX11_clauseSign_171 rfl (lv_at hl 2 rfl) ?_
          obtain ⟨h11, hf⟩ := ck_s hf
          refine g_iald hC hM 11 mE11 h11 dX11_clauseSign_172 ?_
          refine lv_isub hx hb dX11_clauseSign_173 ?_
          refine lv_topi (fun v12 ev12 => ?_)
          replace hf := nm_q ev12 hf
          refine lv_istore (lv' := [(7, .int v12), (0, .ref (a 0)), (1, .int p0), (2, .int p1), (3, .int p2)]) hx hb dX11_clauseSign_174 hl (by decide) rfl (fun ls hl => ?_)
          refine lv_iload hx hb dX11_clauseSign_176 (lv_at hl 0 rfl) ?_
          refine lv_if_ne (tgt := 184) hx hb dX11_clauseSign_178 (by decide) (fun c13 => ?_) (fun c13 => ?_)
          · replace hf := it_f c13 hf
            obtain ⟨v14, ev14⟩ : ∃ y : Int32, y = v12 + (-1) := ⟨_, rfl⟩
            replace hf := nm_q ev14 hf
            refine lv_iinc (v := v14) (lv' := [(7, .int v14), (0, .ref (a 0)), (1, .int p0), (2, .int p1), (3, .int p2)]) hx hb dX11_clauseSign_184 hl (k := 0) rfl (by rw [ev14]; rfl) (by decide) rfl (fun ls hl => ?_)
            refine lv_iload hx hb dX11_clauseSign_187 (lv_at hl 0 rfl) ?_
            refine lv_iload_n hx hb dX11_clauseSign_189 rfl (lv_at hl 3 rfl) ?_
            obtain ⟨v15, hc, hf⟩ := bd_s hf
            refine gS_i hC hM hA hl.1 [.int p1] [.int v14] (c_X11_digits l D cs (mcells cs a S) N p1 v15 hc) gX11_clauseSign_X11_digits rfl hd_X11_digits ⟨by decide, by decide⟩ (Nat.le_of_ble_eq_true rfl) dX11_clauseSign_190 rfl ⟨by decide, by decide⟩ (fun H locs hM => ?_)
            refine lv_icmp_ge (tgt := 203) hx hb dX11_clauseSign_193 (by decide) (fun c16 => ?_) (fun c16 => ?_)
            · replace hf := it_t c16 hf
              refine lv_iload hx hb dX11_clauseSign_203 (lv_at hl 0 rfl) ?_
              refine lv_iload_n hx hb dX11_clauseSign_205 rfl (lv_at hl 3 rfl) ?_
              obtain ⟨v17, hc, hf⟩ := bd_s hf
              refine gS_i hC hM hA hl.1 [.int p1] [.int v14] (c_X11_digits l D cs (mcells cs a S) N p1 v17 hc) gX11_clauseSign_X11_digits rfl hd_X11_digits ⟨by decide, by decide⟩ (Nat.le_of_ble_eq_true rfl) dX11_clauseSign_206 rfl ⟨by decide, by decide⟩ (fun H locs hM => ?_)
              refine lv_isub hx hb dX11_clauseSign_209 ?_
              refine lv_topi (fun v18 ev18 => ?_)
              replace hf := nm_q ev18 hf
              refine lv_istore (lv' := [(7, .int v18), (0, .ref (a 0)), (1, .int p0), (2, .int p1), (3, .int p2)]) hx hb dX11_clauseSign_210 hl (by decide) rfl (fun ls hl => ?_)
              refine lv_iload hx hb dX11_clauseSign_212 (lv_at hl 0 rfl) ?_
              refine lv_if_ne (tgt := 220) hx hb dX11_clauseSign_214 (by decide) (fun c19 => ?_) (fun c19 => ?_)
              · replace hf := it_f c19 hf
                obtain ⟨v20, ev20⟩ : ∃ y : Int32, y = v18 + (-1) := ⟨_, rfl⟩
                replace hf := nm_q ev20 hf
                refine lv_iinc (v := v20) (lv' := [(7, .int v20), (0, .ref (a 0)), (1, .int p0), (2, .int p1), (3, .int p2)]) hx hb dX11_clauseSign_220 hl (k := 0) rfl (by rw [ev20]; rfl) (by decide) rfl (fun ls hl => ?_)
                refine lv_iload hx hb dX11_clauseSign_223 (lv_at hl 0 rfl) ?_
                refine lv_iload_n hx hb dX11_clauseSign_225 rfl (lv_at hl 4 rfl) ?_
                obtain ⟨v21, hc, hf⟩ := bd_s hf
                refine gS_i hC hM hA hl.1 [.int p2] [.int v20] (c_X11_digits l D cs (mcells cs a S) N p2 v21 hc) gX11_clauseSign_X11_digits rfl hd_X11_digits ⟨by decide, by decide⟩ (Nat.le_of_ble_eq_true rfl) dX11_clauseSign_226 rfl ⟨by decide, by decide⟩ (fun H locs hM => ?_)
                refine lv_icmp_ge (tgt := 241) hx hb dX11_clauseSign_229 (by decide) (fun c22 => ?_) (fun c22 => ?_)
                · replace hf := it_t c22 hf
                  refine lv_bipush (v := 46) hx hb dX11_clauseSign_241 (by decide) ?_
                  cases so_1 hf
                  exact hQ _ _ _ _ _ _ dX11_clauseSign_243 hM (by decide) (by decide)
                · replace hf := it_f c22 hf
                  refine lv_iload_n hx hb dX11_clauseSign_232 rfl (lv_at hl 4 rfl) ?_
                  refine lv_iload hx hb dX11_clauseSign_233 (lv_at hl 0 rfl) ?_
                  obtain ⟨v23, hc, hf⟩ := bd_s hf
                  refine gS_i hC hM hA hl.1 [.int p2, .int v20] [] (c_X11_digit l D cs (mcells cs a S) N p2 v20 v23 hc) gX11_clauseSign_X11_digit rfl hd_X11_digit ⟨by decide, by decide⟩ (Nat.le_of_ble_eq_true rfl) dX11_clauseSign_235 rfl ⟨by decide, by decide⟩ (fun H locs hM => ?_)
                  refine lv_goto (tgt := 243) hx hb dX11_clauseSign_238 (by decide) ?_
                  cases so_1 hf
                  exact hQ _ _ _ _ _ _ dX11_clauseSign_243 hM (by decide) (by decide)
              · replace hf := it_t c19 hf
                refine lv_bipush (v := 45) hx hb dX11_clauseSign_217 (by decide) ?_
                cases so_1 hf
                exact hQ _ _ _ _ _ _ dX11_clauseSign_219 hM (by decide) (by decide)
            · replace hf := it_f c16 hf
              refine lv_iload_n hx hb dX11_clauseSign_196 rfl (lv_at hl 3 rfl) ?_
              refine lv_iload hx hb dX11_clauseSign_197 (lv_at hl 0 rfl) ?_
              obtain ⟨v24, hc, hf⟩ := bd_s hf
              refine gS_i hC hM hA hl.1 [.int p1, .int v14] [] (c_X11_digit l D cs (mcells cs a S) N p1 v14 v24 hc) gX11_clauseSign_X11_digit rfl hd_X11_digit ⟨by decide, by decide⟩ (Nat.le_of_ble_eq_true rfl) dX11_clauseSign_199 rfl ⟨by decide, by decide⟩ (fun H locs hM => ?_)
              cases so_1 hf
              exact hQ _ _ _ _ _ _ dX11_clauseSign_202 hM (by decide) (by decide)
          · replace hf := it_t c13 hf
            refine lv_bipush (v := 32) hx hb dX11_clauseSign_181 (by decide) ?_
            cases so_1 hf
            exact hQ _ _ _ _ _ _ dX11_clauseSign_183 hM (by decide) (by decide)
        · replace hf := it_f c10 hf
          refine lv_aload_n hx hb dX11_clauseSign_152 rfl (lv_at hl 1 rfl) ?_
          refine g_get hC hM inX11_clauseSign_X11 0 mE0 clX11 14 (by decide) tX11_clauseSign_4 TX11_14 mV0_14 dX11_clauseSign_153 ?_
          refine lv_bipush (v := 12) hx hb dX11_clauseSign_156 (by decide) ?_
          refine lv_iload_n hx hb dX11_clauseSign_158 rfl (lv_at hl 2 rfl) ?_
          refine lv_imul hx hb dX11_clauseSign_159 ?_
          refine lv_iload hx hb dX11_clauseSign_160 (lv_at hl 0 rfl) ?_
          refine lv_iadd hx hb dX11_clauseSign_162 ?_
          obtain ⟨h25, hf⟩ := ck_s hf
          refine g_iald hC hM 10 mE10 h25 dX11_clauseSign_163 ?_
          cases so_1 hf
          exact hQ _ _ _ _ _ _ dX11_clauseSign_164 hM (by decide) (by decide)
      · replace hf := it_f c7 hf
        refine lv_iload hx hb dX11_clauseSign_125 (lv_at hl 4 rfl) ?_
        refine lv_if_ne (tgt := 135) hx hb dX11_clauseSign_127 (by decide) (fun c26 => ?_) (fun c26 => ?_)
        · replace hf := it_f c26 hf
          refine lv_bipush (v := 32) hx hb dX11_clauseSign_135 (by decide) ?_
          cases so_1 hf
          exact hQ _ _ _ _ _ _ dX11_clauseSign_137 hM (by decide) (by decide)
        · replace hf := it_t c26 hf
          refine lv_bipush (v := 58) hx hb dX11_clauseSign_130 (by decide) ?_
          refine lv_goto (tgt := 137) hx hb dX11_clauseSign_132 (by decide) ?_
          cases so_1 hf
          exact hQ _ _ _ _ _ _ dX11_clauseSign_137 hM (by decide) (by decide)
    · intro k119 hk119 hf
      refine lv_if_eq (tgt := 119) hx hb dX11_clauseSign_37 (by decide) (fun c27 => ?_) (fun c27 => ?_)
      · replace hf := it_t c27 hf
        exact hk119 _ hf _ _ _ hM (lv_sub hl [2, 3, 4, 5, 0] rfl)
      · replace hf := it_f c27 hf
        refine lv_iload hx hb dX11_clauseSign_40 (lv_at hl 0 rfl) ?_
        refine lv_iconst (v := 5) hx hb dX11_clauseSign_42 (by decide) ?_
        refine lv_icmp_ge (tgt := 87) hx hb dX11_clauseSign_43 (by decide) (fun c28 => ?_) (fun c28 => ?_)
        · replace hf := it_t c28 hf
          refine lv_aload_n hx hb dX11_clauseSign_87 rfl (lv_at hl 2 rfl) ?_
          refine lv_aload_n hx hb dX11_clauseSign_88 rfl (lv_at hl 2 rfl) ?_
          refine g_get hC hM inX11_clauseSign_X11 0 mE0 clX11 19 (by decide) tX11_clauseSign_2 TX11_19 mV0_19 dX11_clauseSign_89 ?_
          refine lv_iload hx hb dX11_clauseSign_92 (lv_at hl 6 rfl) ?_
          obtain ⟨h29, hf⟩ := ck_s hf
          refine g_iald hC hM 13 mE13 h29 dX11_clauseSign_94 ?_
          refine lv_iload hx hb dX11_clauseSign_95 (lv_at hl 0 rfl) ?_
          refine lv_iconst (v := 5) hx hb dX11_clauseSign_97 (by decide) ?_
          refine lv_isub hx hb dX11_clauseSign_98 ?_
          obtain ⟨v30, hc, hf⟩ := bd_s hf
          refine gV_i hC hM hA hl.1 [.int (S.1 13 p3.toNatClampNeg), .int (v4 - 5)] [] (c_X11_nameSign l D cs a N (S.1 13 p3.toNatClampNeg) (v4 - 5) S v30 hc) gX11_clauseSign_X11_nameSign rfl hd_X11_nameSign ⟨by decide, by decide⟩ 0 11 clX11 rfl mE0 (Nat.le_of_ble_eq_true rfl) dX11_clauseSign_99 rfl ⟨by decide, by decide⟩ (fun H locs hM => ?_)
          refine lv_istore (lv' := [(6, .int v30), (7, .int v4), (0, .ref (a 0)), (1, .int p0), (2, .int p1), (3, .int p2), (4, .int p3), (5, .int p4)]) hx hb dX11_clauseSign_102 hl (by decide) rfl (fun ls hl => ?_)
          refine lv_iload hx hb dX11_clauseSign_104 (lv_at hl 0 rfl) ?_
          refine lv_if_lt (tgt := 112) hx hb dX11_clauseSign_106 (by decide) (fun c31 => ?_) (fun c31 => ?_)
          · replace hf := it_t c31 hf
            refine lv_bipush (v := (-2)) hx hb dX11_clauseSign_112 (by decide) ?_
            refine lv_iload hx hb dX11_clauseSign_114 (lv_at hl 0 rfl) ?_
            refine lv_isub hx hb dX11_clauseSign_116 ?_
            refine lv_topi (fun v32 ev32 => ?_)
            replace hf := nm_q ev32 hf
            refine lv_istore (lv' := [(7, .int v32), (6, .int v30), (0, .ref (a 0)), (1, .int p0), (2, .int p1), (3, .int p2), (4, .int p3), (5, .int p4)]) hx hb dX11_clauseSign_117 hl (by decide) rfl (fun ls hl => ?_)
            exact hk119 _ hf _ _ _ hM (lv_sub hl [2, 3, 4, 5, 0] rfl)
          · replace hf := it_f c31 hf
            refine lv_iload hx hb dX11_clauseSign_109 (lv_at hl 0 rfl) ?_
            cases so_1 hf
            exact hQ _ _ _ _ _ _ dX11_clauseSign_111 hM (by decide) (by decide)
        · replace hf := it_f c28 hf
          refine lv_iload hx hb dX11_clauseSign_46 (lv_at hl 0 rfl) ?_
          refine lv_if_eq (tgt := 57) hx hb dX11_clauseSign_48 (by decide) (fun c33 => ?_) (fun c33 => ?_)
          · replace hf := it_t c33 hf
            refine lv_bipush (v := 32) hx hb dX11_clauseSign_57 (by decide) ?_
            refine lv_goto (tgt := 86) hx hb dX11_clauseSign_59 (by decide) ?_
            cases so_1 hf
            exact hQ _ _ _ _ _ _ dX11_clauseSign_86 hM (by decide) (by decide)
          · replace hf := it_f c33 hf
            refine lv_iload hx hb dX11_clauseSign_51 (lv_at hl 0 rfl) ?_
            refine lv_iconst (v := 4) hx hb dX11_clauseSign_53 (by decide) ?_
            refine lv_icmp_ne (tgt := 62) hx hb dX11_clauseSign_54 (by decide) (fun c34 => ?_) (fun c34 => ?_)
            · replace hf := it_f c34 hf
              refine lv_iload hx hb dX11_clauseSign_62 (lv_at hl 0 rfl) ?_
              refine lv_iconst (v := 1) hx hb dX11_clauseSign_64 (by decide) ?_
              refine lv_icmp_ne (tgt := 73) hx hb dX11_clauseSign_65 (by decide) (fun c35 => ?_) (fun c35 => ?_)
              · replace hf := it_f c35 hf
                refine lv_iload hx hb dX11_clauseSign_73 (lv_at hl 0 rfl) ?_
                refine lv_iconst (v := 2) hx hb dX11_clauseSign_75 (by decide) ?_
                refine lv_icmp_ne (tgt := 84) hx hb dX11_clauseSign_76 (by decide) (fun c36 => ?_) (fun c36 => ?_)
                · replace hf := it_f c36 hf
                  refine lv_bipush (v := 116) hx hb dX11_clauseSign_84 (by decide) ?_
                  cases so_1 hf
                  exact hQ _ _ _ _ _ _ dX11_clauseSign_86 hM (by decide) (by decide)
                · replace hf := it_t c36 hf
                  refine lv_bipush (v := 117) hx hb dX11_clauseSign_79 (by decide) ?_
                  refine lv_goto (tgt := 86) hx hb dX11_clauseSign_81 (by decide) ?_
                  cases so_1 hf
                  exact hQ _ _ _ _ _ _ dX11_clauseSign_86 hM (by decide) (by decide)
              · replace hf := it_t c35 hf
                refine lv_bipush (v := 98) hx hb dX11_clauseSign_68 (by decide) ?_
                refine lv_goto (tgt := 86) hx hb dX11_clauseSign_70 (by decide) ?_
                cases so_1 hf
                exact hQ _ _ _ _ _ _ dX11_clauseSign_86 hM (by decide) (by decide)
            · replace hf := it_t c34 hf
              refine lv_bipush (v := 32) hx hb dX11_clauseSign_57 (by decide) ?_
              refine lv_goto (tgt := 86) hx hb dX11_clauseSign_59 (by decide) ?_
              cases so_1 hf
              exact hQ _ _ _ _ _ _ dX11_clauseSign_86 hM (by decide) (by decide)
  · replace hf := it_f c3 hf
    refine lv_iload hx hb dX11_clauseSign_20 (lv_at hl 0 rfl) ?_
    cases so_1 hf
    exact hQ _ _ _ _ _ _ dX11_clauseSign_22 hM (by decide) (by decide)

theorem hd_X11_fails : yX11_fails.cls = RX11 ∧ yX11_fails.cls ≠ "java/lang/invoke/MethodHandle" ∧ yX11_fails.cls ≠ "java/lang/invoke/VarHandle" ∧ (parseMethodDescriptor yX11_fails.desc).map (fun d => d.parameters.length) = some 1 := by decide +kernel
theorem tX11_fails_1 : Cond.fieldLink RX11 94 "WeatherTellerModel" "thrown" "I" ∈ wsX11_fails := List.mem_of_getElem? (i := 1) rfl
theorem inX11_fails_X11 : ∀ w ∈ u_ws RX11 TX11 50, w ∈ wsX11_fails := fun _ h => List.mem_cons_of_mem _ (List.mem_append_right _ h)
def f_X11_fails (N : Nat) (p0 : Int32) (S : St) : Option (Int32 × St) :=
  nm (puI S 0 2 p0) fun S1 =>
  some (0, S1)
abbrev rmX11_fails : Room := { frames := 0, cells := 0, slots := 0, locals := 0 }
set_option maxRecDepth 100000 in
set_option maxHeartbeats 4000000 in
theorem c_X11_fails (l : Launch) (D : va_G) (cs : Nat → ClassId) (a : Nat → Nat) (N : Nat) (p0 : Int32) (S : St) (rz : Int32) (Sz : St) (hf : f_X11_fails N p0 S = some (rz, Sz)) : gMi l yX11_fails wsX11_fails rmX11_fails D cs [.ref (a 0), .int p0] (mcells cs a S) rz (mcells cs a Sz) := by
  unfold f_X11_fails at hf
  refine gE_i (cc := cX11_fails) (maxL := 2) (by decide) rfl (Nat.le_of_ble_eq_true rfl) ?_
  intro p e s m args below meth c A Q hC hA hQ hM ls hl
  obtain ⟨hx, hb, hml, hown, hts⟩ := hC.1
  have hl : lv_has ls 2 [(0, .ref (a 0)), (1, .int p0)] := hl
  refine lv_aload_n hx hb dX11_fails_0 rfl (lv_at hl 0 rfl) ?_
  refine lv_iload_n hx hb dX11_fails_1 rfl (lv_at hl 1 rfl) ?_
  refine g_put hC hM inX11_fails_X11 tyX11_ok nmX11 0 mE0 clX11 2 (by decide) tX11_fails_1 TX11_2 tyX11_2 rfl rfl (by rw [mL0]; decide) mP0_2 dX11_fails_2 (fun H locs hM => ?_)
  obtain ⟨S1, hf, hM⟩ := mnm hf hM
  refine lv_iconst (v := 0) hx hb dX11_fails_5 (by decide) ?_
  obtain ⟨e1, e2⟩ := so_2 hf
  cases e1; cases e2
  exact hQ _ _ _ _ _ _ dX11_fails_6 hM (by decide) (by decide)

theorem hd_X11_finding : yX11_finding.cls = RX11 ∧ yX11_finding.cls ≠ "java/lang/invoke/MethodHandle" ∧ yX11_finding.cls ≠ "java/lang/invoke/VarHandle" ∧ (parseMethodDescriptor yX11_finding.desc).map (fun d => d.parameters.length) = some 2 := by decide +kernel
theorem tX11_finding_1 : Cond.fieldLink RX11 94 "WeatherTellerModel" "thrown" "I" ∈ wsX11_finding := List.mem_of_getElem? (i := 1) rfl
theorem inX11_finding_X11 : ∀ w ∈ u_ws RX11 TX11 50, w ∈ wsX11_finding := fun _ h => List.mem_cons_of_mem _ (List.mem_append_right _ h)
theorem tX11_finding_2 : Cond.fieldLink RX11 211 "WeatherTellerModel" "findings" "I" ∈ wsX11_finding := List.mem_of_getElem? (i := 2) rfl
theorem tX11_finding_3 : Cond.fieldLink RX11 60 "WeatherTellerModel" "fBand" "[I" ∈ wsX11_finding := List.mem_of_getElem? (i := 3) rfl
theorem tX11_finding_4 : Cond.fieldLink RX11 63 "WeatherTellerModel" "fFrom" "[I" ∈ wsX11_finding := List.mem_of_getElem? (i := 4) rfl
theorem tX11_finding_5 : Cond.fieldLink RX11 66 "WeatherTellerModel" "fTo" "[I" ∈ wsX11_finding := List.mem_of_getElem? (i := 5) rfl
theorem tX11_finding_6 : Cond.fieldLink RX11 69 "WeatherTellerModel" "fPlaces" "[I" ∈ wsX11_finding := List.mem_of_getElem? (i := 6) rfl
theorem tX11_finding_7 : Cond.fieldLink RX11 34 "WeatherTellerModel" "bWarn" "[Z" ∈ wsX11_finding := List.mem_of_getElem? (i := 7) rfl
theorem tX11_finding_8 : Cond.fieldLink RX11 48 "WeatherTellerModel" "groupNames" "[I" ∈ wsX11_finding := List.mem_of_getElem? (i := 8) rfl
theorem tX11_finding_9 : Cond.fieldLink RX11 51 "WeatherTellerModel" "groupOut" "[I" ∈ wsX11_finding := List.mem_of_getElem? (i := 9) rfl
def j_X11_finding_21 (N : Nat) (S2 : St)  : Option (Int32 × St) :=
  bd2 (f_X11_fails N 1 S2) fun v3 S4 =>
  some (v3, S4)
def f_X11_finding (N : Nat) (p0 : Int32) (p1 : Int32) (S : St) : Option (Int32 × St) :=
  nm (puI S 0 2 0) fun S1 =>
  bd (f_X11_find N S1) fun S2 =>
  jp (j_X11_finding_21 N S2) fun k21 =>
  if p0 < 0 then
    k21
  else
    if p0 < (S2.1 0 32) then
      if p1 = 0 then
        ck p0 432 <|
        some ((S2.1 16 p0.toNatClampNeg), S2)
      else
      if p1 = 1 then
        ck p0 432 <|
        some ((S2.1 17 p0.toNatClampNeg), S2)
      else
      if p1 = 2 then
        ck p0 432 <|
        some ((S2.1 18 p0.toNatClampNeg), S2)
      else
      if p1 = 3 then
        ck p0 432 <|
        some ((S2.1 19 p0.toNatClampNeg), S2)
      else
      if p1 = 4 then
        bd (f_X11_weightOf N p0 S2) fun v16 =>
        some (v16, S2)
      else
      if p1 = 5 then
        ck p0 432 <|
        ck (S2.1 16 p0.toNatClampNeg) 48 <|
        if (S2.1 9 (S2.1 16 p0.toNatClampNeg).toNatClampNeg) = 0 then
          some (0, S2)
        else
          some (1, S2)
      else
      if p1 = 6 then
        ck p0 432 <|
        ck p0 432 <|
        ck p0 432 <|
        ck p0 432 <|
        bd (f_X11_clauseSize N (S2.1 16 p0.toNatClampNeg) (S2.1 17 p0.toNatClampNeg) (S2.1 18 p0.toNatClampNeg) (S2.1 19 p0.toNatClampNeg) S2) fun v26 =>
        some (v26, S2)
      else
      if p1 = 7 then
        ck p0 432 <|
        ck (S2.1 19 p0.toNatClampNeg) 64 <|
        some ((S2.1 12 (S2.1 19 p0.toNatClampNeg).toNatClampNeg), S2)
      else
      if p1 = 8 then
        ck p0 432 <|
        ck (S2.1 19 p0.toNatClampNeg) 64 <|
        some ((S2.1 13 (S2.1 19 p0.toNatClampNeg).toNatClampNeg), S2)
      else
        bd2 (f_X11_fails N 2 S2) fun v33 S34 =>
        some (v33, S34)
    else
      k21
abbrev rmX11_finding : Room := { frames := 3, cells := 0, slots := 0, locals := 74 }
set_option maxRecDepth 100000 in
set_option maxHeartbeats 4000000 in
theorem c_X11_finding (l : Launch) (D : va_G) (cs : Nat → ClassId) (a : Nat → Nat) (N : Nat) (p0 : Int32) (p1 : Int32) (S : St) (rz : Int32) (Sz : St) (hf : f_X11_finding N p0 p1 S = some (rz, Sz)) : gMi l yX11_finding wsX11_finding rmX11_finding D cs [.ref (a 0), .int p0, .int p1] (mcells cs a S) rz (mcells cs a Sz) := by
  unfold f_X11_finding at hf
  refine gE_i (cc := cX11_finding) (maxL := 3) (by decide) rfl (Nat.le_of_ble_eq_true rfl) ?_
  intro p e s m args below meth c A Q hC hA hQ hM ls hl
  obtain ⟨hx, hb, hml, hown, hts⟩ := hC.1
  have hl : lv_has ls 3 [(0, .ref (a 0)), (1, .int p0), (2, .int p1)] := hl
  refine lv_aload_n hx hb dX11_finding_0 rfl (lv_at hl 0 rfl) ?_
  refine lv_iconst (v := 0) hx hb dX11_finding_1 (by decide) ?_
  refine g_put hC hM inX11_finding_X11 tyX11_ok nmX11 0 mE0 clX11 2 (by decide) tX11_finding_1 TX11_2 tyX11_2 rfl rfl (by rw [mL0]; decide) mP0_2 dX11_finding_2 (fun H locs hM => ?_)
  obtain ⟨S1, hf, hM⟩ := mnm hf hM
  refine lv_aload_n hx hb dX11_finding_5 rfl (lv_at hl 0 rfl) ?_
  obtain ⟨S2, hc, hf⟩ := bd_s hf
  refine gV_v hC hM hA hl.1 [] [] (c_X11_find l D cs a N S1 S2 hc) gX11_finding_X11_find rfl hd_X11_find ⟨by decide, by decide⟩ 0 11 clX11 rfl mE0 (Nat.le_of_ble_eq_true rfl) dX11_finding_6 rfl ⟨by decide, by decide⟩ (fun H locs hM => ?_)
  refine lv_iload_n hx hb dX11_finding_9 rfl (lv_at hl 1 rfl) ?_
  refine jp_W (fun k21 : Option (Int32 × St) => k21 = some (rz, Sz) → ∀ (H : Heap) (locs : List Loc) (ls : Array Slot), gw D A s.heap H locs (mcells cs a S2) → lv_has ls 3 [(0, .ref (a 0))] → W p l e rmX11_finding s m args below meth c H locs 0 0 Q (F0 m 21 ls [])) ?_ ?_ hf
  · intro  hf H locs ls hM hl
    unfold j_X11_finding_21 at hf
    refine lv_aload_n hx hb dX11_finding_21 rfl (lv_at hl 0 rfl) ?_
    refine lv_iconst (v := 1) hx hb dX11_finding_22 (by decide) ?_
    obtain ⟨v3, S4, hc, hf⟩ := bd2_s hf
    refine gV_i hC hM hA hl.1 [.int 1] [] (c_X11_fails l D cs a N 1 S2 v3 S4 hc) gX11_finding_X11_fails rfl hd_X11_fails ⟨by decide, by decide⟩ 0 11 clX11 rfl mE0 (Nat.le_of_ble_eq_true rfl) dX11_finding_23 rfl ⟨by decide, by decide⟩ (fun H locs hM => ?_)
    obtain ⟨e1, e2⟩ := so_2 hf
    cases e1; cases e2
    exact hQ _ _ _ _ _ _ dX11_finding_26 hM (by decide) (by decide)
  · intro k21 hk21 hf
    refine lv_if_lt (tgt := 21) hx hb dX11_finding_10 (by decide) (fun c5 => ?_) (fun c5 => ?_)
    · replace hf := it_t c5 hf
      exact hk21 hf _ _ _ hM (lv_sub hl [0] rfl)
    · replace hf := it_f c5 hf
      refine lv_iload_n hx hb dX11_finding_13 rfl (lv_at hl 1 rfl) ?_
      refine lv_aload_n hx hb dX11_finding_14 rfl (lv_at hl 0 rfl) ?_
      refine g_get hC hM inX11_finding_X11 0 mE0 clX11 32 (by decide) tX11_finding_2 TX11_32 mV0_32 dX11_finding_15 ?_
      refine lv_icmp_lt (tgt := 27) hx hb dX11_finding_18 (by decide) (fun c6 => ?_) (fun c6 => ?_)
      · replace hf := it_t c6 hf
        refine lv_iload_n hx hb dX11_finding_27 rfl (lv_at hl 2 rfl) ?_
        by_cases c7 : p1 = 0
        · replace hf := it_t c7 hf
          refine g_tIn (tgt := 80) 0 c7 hx hb dX11_finding_28 (by decide) (by decide) rfl (by decide) ?_
          refine lv_aload_n hx hb dX11_finding_80 rfl (lv_at hl 0 rfl) ?_
          refine g_get hC hM inX11_finding_X11 0 mE0 clX11 33 (by decide) tX11_finding_3 TX11_33 mV0_33 dX11_finding_81 ?_
          refine lv_iload_n hx hb dX11_finding_84 rfl (lv_at hl 1 rfl) ?_
          obtain ⟨h8, hf⟩ := ck_s hf
          refine g_iald hC hM 16 mE16 h8 dX11_finding_85 ?_
          obtain ⟨e1, e2⟩ := so_2 hf
          cases e1; cases e2
          exact hQ _ _ _ _ _ _ dX11_finding_86 hM (by decide) (by decide)
        · replace hf := it_f c7 hf
          by_cases c9 : p1 = 1
          · replace hf := it_t c9 hf
            refine g_tIn (tgt := 87) 1 c9 hx hb dX11_finding_28 (by decide) (by decide) rfl (by decide) ?_
            refine lv_aload_n hx hb dX11_finding_87 rfl (lv_at hl 0 rfl) ?_
            refine g_get hC hM inX11_finding_X11 0 mE0 clX11 34 (by decide) tX11_finding_4 TX11_34 mV0_34 dX11_finding_88 ?_
            refine lv_iload_n hx hb dX11_finding_91 rfl (lv_at hl 1 rfl) ?_
            obtain ⟨h10, hf⟩ := ck_s hf
            refine g_iald hC hM 17 mE17 h10 dX11_finding_92 ?_
            obtain ⟨e1, e2⟩ := so_2 hf
            cases e1; cases e2
            exact hQ _ _ _ _ _ _ dX11_finding_93 hM (by decide) (by decide)
          · replace hf := it_f c9 hf
            by_cases c11 : p1 = 2
            · replace hf := it_t c11 hf
              refine g_tIn (tgt := 94) 2 c11 hx hb dX11_finding_28 (by decide) (by decide) rfl (by decide) ?_
              refine lv_aload_n hx hb dX11_finding_94 rfl (lv_at hl 0 rfl) ?_
              refine g_get hC hM inX11_finding_X11 0 mE0 clX11 35 (by decide) tX11_finding_5 TX11_35 mV0_35 dX11_finding_95 ?_
              refine lv_iload_n hx hb dX11_finding_98 rfl (lv_at hl 1 rfl) ?_
              obtain ⟨h12, hf⟩ := ck_s hf
              refine g_iald hC hM 18 mE18 h12 dX11_finding_99 ?_
              obtain ⟨e1, e2⟩ := so_2 hf
              cases e1; cases e2
              exact hQ _ _ _ _ _ _ dX11_finding_100 hM (by decide) (by decide)
            · replace hf := it_f c11 hf
              by_cases c13 : p1 = 3
              · replace hf := it_t c13 hf
                refine g_tIn (tgt := 101) 3 c13 hx hb dX11_finding_28 (by decide) (by decide) rfl (by decide) ?_
                refine lv_aload_n hx hb dX11_finding_101 rfl (lv_at hl 0 rfl) ?_
                refine g_get hC hM inX11_finding_X11 0 mE0 clX11 36 (by decide) tX11_finding_6 TX11_36 mV0_36 dX11_finding_102 ?_
                refine lv_iload_n hx hb dX11_finding_105 rfl (lv_at hl 1 rfl) ?_
                obtain ⟨h14, hf⟩ := ck_s hf
                refine g_iald hC hM 19 mE19 h14 dX11_finding_106 ?_
                obtain ⟨e1, e2⟩ := so_2 hf
                cases e1; cases e2
                exact hQ _ _ _ _ _ _ dX11_finding_107 hM (by decide) (by decide)
              · replace hf := it_f c13 hf
                by_cases c15 : p1 = 4
                · replace hf := it_t c15 hf
                  refine g_tIn (tgt := 108) 4 c15 hx hb dX11_finding_28 (by decide) (by decide) rfl (by decide) ?_
                  refine lv_aload_n hx hb dX11_finding_108 rfl (lv_at hl 0 rfl) ?_
                  refine lv_iload_n hx hb dX11_finding_109 rfl (lv_at hl 1 rfl) ?_
                  obtain ⟨v16, hc, hf⟩ := bd_s hf
                  refine gV_i hC hM hA hl.1 [.int p0] [] (c_X11_weightOf l D cs a N p0 S2 v16 hc) gX11_finding_X11_weightOf rfl hd_X11_weightOf ⟨by decide, by decide⟩ 0 11 clX11 rfl mE0 (Nat.le_of_ble_eq_true rfl) dX11_finding_110 rfl ⟨by decide, by decide⟩ (fun H locs hM => ?_)
                  obtain ⟨e1, e2⟩ := so_2 hf
                  cases e1; cases e2
                  exact hQ _ _ _ _ _ _ dX11_finding_113 hM (by decide) (by decide)
                · replace hf := it_f c15 hf
                  by_cases c17 : p1 = 5
                  · replace hf := it_t c17 hf
                    refine g_tIn (tgt := 114) 5 c17 hx hb dX11_finding_28 (by decide) (by decide) rfl (by decide) ?_
                    refine lv_aload_n hx hb dX11_finding_114 rfl (lv_at hl 0 rfl) ?_
                    refine g_get hC hM inX11_finding_X11 0 mE0 clX11 13 (by decide) tX11_finding_7 TX11_13 mV0_13 dX11_finding_115 ?_
                    refine lv_aload_n hx hb dX11_finding_118 rfl (lv_at hl 0 rfl) ?_
                    refine g_get hC hM inX11_finding_X11 0 mE0 clX11 33 (by decide) tX11_finding_3 TX11_33 mV0_33 dX11_finding_119 ?_
                    refine lv_iload_n hx hb dX11_finding_122 rfl (lv_at hl 1 rfl) ?_
                    obtain ⟨h18, hf⟩ := ck_s hf
                    refine g_iald hC hM 16 mE16 h18 dX11_finding_123 ?_
                    obtain ⟨h19, hf⟩ := ck_s hf
                    refine g_zald hC hM 9 mE9 h19 dX11_finding_124 ?_
                    refine lv_if_eq (tgt := 132) hx hb dX11_finding_125 (by decide) (fun c20 => ?_) (fun c20 => ?_)
                    · replace hf := it_t c20 hf
                      refine lv_iconst (v := 0) hx hb dX11_finding_132 (by decide) ?_
                      obtain ⟨e1, e2⟩ := so_2 hf
                      cases e1; cases e2
                      exact hQ _ _ _ _ _ _ dX11_finding_133 hM (by decide) (by decide)
                    · replace hf := it_f c20 hf
                      refine lv_iconst (v := 1) hx hb dX11_finding_128 (by decide) ?_
                      refine lv_goto (tgt := 133) hx hb dX11_finding_129 (by decide) ?_
                      obtain ⟨e1, e2⟩ := so_2 hf
                      cases e1; cases e2
                      exact hQ _ _ _ _ _ _ dX11_finding_133 hM (by decide) (by decide)
                  · replace hf := it_f c17 hf
                    by_cases c21 : p1 = 6
                    · replace hf := it_t c21 hf
                      refine g_tIn (tgt := 134) 6 c21 hx hb dX11_finding_28 (by decide) (by decide) rfl (by decide) ?_
                      refine lv_aload_n hx hb dX11_finding_134 rfl (lv_at hl 0 rfl) ?_
                      refine lv_aload_n hx hb dX11_finding_135 rfl (lv_at hl 0 rfl) ?_
                      refine g_get hC hM inX11_finding_X11 0 mE0 clX11 33 (by decide) tX11_finding_3 TX11_33 mV0_33 dX11_finding_136 ?_
                      refine lv_iload_n hx hb dX11_finding_139 rfl (lv_at hl 1 rfl) ?_
                      obtain ⟨h22, hf⟩ := ck_s hf
                      refine g_iald hC hM 16 mE16 h22 dX11_finding_140 ?_
                      refine lv_aload_n hx hb dX11_finding_141 rfl (lv_at hl 0 rfl) ?_
                      refine g_get hC hM inX11_finding_X11 0 mE0 clX11 34 (by decide) tX11_finding_4 TX11_34 mV0_34 dX11_finding_142 ?_
                      refine lv_iload_n hx hb dX11_finding_145 rfl (lv_at hl 1 rfl) ?_
                      obtain ⟨h23, hf⟩ := ck_s hf
                      refine g_iald hC hM 17 mE17 h23 dX11_finding_146 ?_
                      refine lv_aload_n hx hb dX11_finding_147 rfl (lv_at hl 0 rfl) ?_
                      refine g_get hC hM inX11_finding_X11 0 mE0 clX11 35 (by decide) tX11_finding_5 TX11_35 mV0_35 dX11_finding_148 ?_
                      refine lv_iload_n hx hb dX11_finding_151 rfl (lv_at hl 1 rfl) ?_
                      obtain ⟨h24, hf⟩ := ck_s hf
                      refine g_iald hC hM 18 mE18 h24 dX11_finding_152 ?_
                      refine lv_aload_n hx hb dX11_finding_153 rfl (lv_at hl 0 rfl) ?_
                      refine g_get hC hM inX11_finding_X11 0 mE0 clX11 36 (by decide) tX11_finding_6 TX11_36 mV0_36 dX11_finding_154 ?_
                      refine lv_iload_n hx hb dX11_finding_157 rfl (lv_at hl 1 rfl) ?_
                      obtain ⟨h25, hf⟩ := ck_s hf
                      refine g_iald hC hM 19 mE19 h25 dX11_finding_158 ?_
                      obtain ⟨v26, hc, hf⟩ := bd_s hf
                      refine gV_i hC hM hA hl.1 [.int (S2.1 16 p0.toNatClampNeg), .int (S2.1 17 p0.toNatClampNeg), .int (S2.1 18 p0.toNatClampNeg), .int (S2.1 19 p0.toNatClampNeg)] [] (c_X11_clauseSize l D cs a N (S2.1 16 p0.toNatClampNeg) (S2.1 17 p0.toNatClampNeg) (S2.1 18 p0.toNatClampNeg) (S2.1 19 p0.toNatClampNeg) S2 v26 hc) gX11_finding_X11_clauseSize rfl hd_X11_clauseSize ⟨by decide, by decide⟩ 0 11 clX11 rfl mE0 (Nat.le_of_ble_eq_true rfl) dX11_finding_159 rfl ⟨by decide, by decide⟩ (fun H locs hM => ?_)
                      obtain ⟨e1, e2⟩ := so_2 hf
                      cases e1; cases e2
                      exact hQ _ _ _ _ _ _ dX11_finding_162 hM (by decide) (by decide)
                    · replace hf := it_f c21 hf
                      by_cases c27 : p1 = 7
                      · replace hf := it_t c27 hf
                        refine g_tIn (tgt := 163) 7 c27 hx hb dX11_finding_28 (by decide) (by decide) rfl (by decide) ?_
                        refine lv_aload_n hx hb dX11_finding_163 rfl (lv_at hl 0 rfl) ?_
                        refine g_get hC hM inX11_finding_X11 0 mE0 clX11 18 (by decide) tX11_finding_8 TX11_18 mV0_18 dX11_finding_164 ?_
                        refine lv_aload_n hx hb dX11_finding_167 rfl (lv_at hl 0 rfl) ?_
                        refine g_get hC hM inX11_finding_X11 0 mE0 clX11 36 (by decide) tX11_finding_6 TX11_36 mV0_36 dX11_finding_168 ?_
                        refine lv_iload_n hx hb dX11_finding_171 rfl (lv_at hl 1 rfl) ?_
                        obtain ⟨h28, hf⟩ := ck_s hf
                        refine g_iald hC hM 19 mE19 h28 dX11_finding_172 ?_
                        obtain ⟨h29, hf⟩ := ck_s hf
                        refine g_iald hC hM 12 mE12 h29 dX11_finding_173 ?_
                        obtain ⟨e1, e2⟩ := so_2 hf
                        cases e1; cases e2
                        exact hQ _ _ _ _ _ _ dX11_finding_174 hM (by decide) (by decide)
                      · replace hf := it_f c27 hf
                        by_cases c30 : p1 = 8
                        · replace hf := it_t c30 hf
                          refine g_tIn (tgt := 175) 8 c30 hx hb dX11_finding_28 (by decide) (by decide) rfl (by decide) ?_
                          refine lv_aload_n hx hb dX11_finding_175 rfl (lv_at hl 0 rfl) ?_
                          refine g_get hC hM inX11_finding_X11 0 mE0 clX11 19 (by decide) tX11_finding_9 TX11_19 mV0_19 dX11_finding_176 ?_
                          refine lv_aload_n hx hb dX11_finding_179 rfl (lv_at hl 0 rfl) ?_
                          refine g_get hC hM inX11_finding_X11 0 mE0 clX11 36 (by decide) tX11_finding_6 TX11_36 mV0_36 dX11_finding_180 ?_
                          refine lv_iload_n hx hb dX11_finding_183 rfl (lv_at hl 1 rfl) ?_
                          obtain ⟨h31, hf⟩ := ck_s hf
                          refine g_iald hC hM 19 mE19 h31 dX11_finding_184 ?_
                          obtain ⟨h32, hf⟩ := ck_s hf
                          refine g_iald hC hM 13 mE13 h32 dX11_finding_185 ?_
                          obtain ⟨e1, e2⟩ := so_2 hf
                          cases e1; cases e2
                          exact hQ _ _ _ _ _ _ dX11_finding_186 hM (by decide) (by decide)
                        · replace hf := it_f c30 hf
                          have hne : ∀ j, j < 9 → ¬ p1 = nI j := by
                            intro j hj
                            rcases (show j = 0 ∨ j = 1 ∨ j = 2 ∨ j = 3 ∨ j = 4 ∨ j = 5 ∨ j = 6 ∨ j = 7 ∨ j = 8 by omega) with rfl | rfl | rfl | rfl | rfl | rfl | rfl | rfl | rfl
                            · exact c7
                            · exact c9
                            · exact c11
                            · exact c13
                            · exact c15
                            · exact c17
                            · exact c21
                            · exact c27
                            · exact c30
                          refine g_tOut (tgt := 187) (n := 9) hne (by decide) hx hb dX11_finding_28 rfl (by decide) (by decide) ?_
                          refine lv_aload_n hx hb dX11_finding_187 rfl (lv_at hl 0 rfl) ?_
                          refine lv_iconst (v := 2) hx hb dX11_finding_188 (by decide) ?_
                          obtain ⟨v33, S34, hc, hf⟩ := bd2_s hf
                          refine gV_i hC hM hA hl.1 [.int 2] [] (c_X11_fails l D cs a N 2 S2 v33 S34 hc) gX11_finding_X11_fails rfl hd_X11_fails ⟨by decide, by decide⟩ 0 11 clX11 rfl mE0 (Nat.le_of_ble_eq_true rfl) dX11_finding_189 rfl ⟨by decide, by decide⟩ (fun H locs hM => ?_)
                          obtain ⟨e1, e2⟩ := so_2 hf
                          cases e1; cases e2
                          exact hQ _ _ _ _ _ _ dX11_finding_192 hM (by decide) (by decide)
      · replace hf := it_f c6 hf
        exact hk21 hf _ _ _ hM (lv_sub hl [0] rfl)

theorem hd_X11_sizeOf : yX11_sizeOf.cls = RX11 ∧ yX11_sizeOf.cls ≠ "java/lang/invoke/MethodHandle" ∧ yX11_sizeOf.cls ≠ "java/lang/invoke/VarHandle" ∧ (parseMethodDescriptor yX11_sizeOf.desc).map (fun d => d.parameters.length) = some 1 := by decide +kernel
theorem tX11_sizeOf_1 : Cond.fieldLink RX11 60 "WeatherTellerModel" "fBand" "[I" ∈ wsX11_sizeOf := List.mem_of_getElem? (i := 1) rfl
theorem inX11_sizeOf_X11 : ∀ w ∈ u_ws RX11 TX11 50, w ∈ wsX11_sizeOf := fun _ h => List.mem_cons_of_mem _ (List.mem_append_right _ h)
theorem tX11_sizeOf_2 : Cond.fieldLink RX11 63 "WeatherTellerModel" "fFrom" "[I" ∈ wsX11_sizeOf := List.mem_of_getElem? (i := 2) rfl
theorem tX11_sizeOf_3 : Cond.fieldLink RX11 66 "WeatherTellerModel" "fTo" "[I" ∈ wsX11_sizeOf := List.mem_of_getElem? (i := 3) rfl
theorem tX11_sizeOf_4 : Cond.fieldLink RX11 69 "WeatherTellerModel" "fPlaces" "[I" ∈ wsX11_sizeOf := List.mem_of_getElem? (i := 4) rfl
def f_X11_sizeOf (N : Nat) (p0 : Int32) (S : St) : Option (Int32) :=
  ck p0 432 <|
  ck p0 432 <|
  ck p0 432 <|
  ck p0 432 <|
  bd (f_X11_clauseSize N (S.1 16 p0.toNatClampNeg) (S.1 17 p0.toNatClampNeg) (S.1 18 p0.toNatClampNeg) (S.1 19 p0.toNatClampNeg) S) fun v5 =>
  some (v5 + 1)
abbrev rmX11_sizeOf : Room := { frames := 2, cells := 0, slots := 0, locals := 48 }
set_option maxRecDepth 100000 in
set_option maxHeartbeats 4000000 in
theorem c_X11_sizeOf (l : Launch) (D : va_G) (cs : Nat → ClassId) (a : Nat → Nat) (N : Nat) (p0 : Int32) (S : St) (rz : Int32) (hf : f_X11_sizeOf N p0 S = some rz) : gMi l yX11_sizeOf wsX11_sizeOf rmX11_sizeOf D cs [.ref (a 0), .int p0] (mcells cs a S) rz (mcells cs a S) := by
  unfold f_X11_sizeOf at hf
  refine gE_i (cc := cX11_sizeOf) (maxL := 2) (by decide) rfl (Nat.le_of_ble_eq_true rfl) ?_
  intro p e s m args below meth c A Q hC hA hQ hM ls hl
  obtain ⟨hx, hb, hml, hown, hts⟩ := hC.1
  have hl : lv_has ls 2 [(0, .ref (a 0)), (1, .int p0)] := hl
  refine lv_aload_n hx hb dX11_sizeOf_0 rfl (lv_at hl 0 rfl) ?_
  refine lv_aload_n hx hb dX11_sizeOf_1 rfl (lv_at hl 0 rfl) ?_
  refine g_get hC hM inX11_sizeOf_X11 0 mE0 clX11 33 (by decide) tX11_sizeOf_1 TX11_33 mV0_33 dX11_sizeOf_2 ?_
  refine lv_iload_n hx hb dX11_sizeOf_5 rfl (lv_at hl 1 rfl) ?_
  obtain ⟨h1, hf⟩ := ck_s hf
  refine g_iald hC hM 16 mE16 h1 dX11_sizeOf_6 ?_
  refine lv_aload_n hx hb dX11_sizeOf_7 rfl (lv_at hl 0 rfl) ?_
  refine g_get hC hM inX11_sizeOf_X11 0 mE0 clX11 34 (by decide) tX11_sizeOf_2 TX11_34 mV0_34 dX11_sizeOf_8 ?_
  refine lv_iload_n hx hb dX11_sizeOf_11 rfl (lv_at hl 1 rfl) ?_
  obtain ⟨h2, hf⟩ := ck_s hf
  refine g_iald hC hM 17 mE17 h2 dX11_sizeOf_12 ?_
  refine lv_aload_n hx hb dX11_sizeOf_13 rfl (lv_at hl 0 rfl) ?_
  refine g_get hC hM inX11_sizeOf_X11 0 mE0 clX11 35 (by decide) tX11_sizeOf_3 TX11_35 mV0_35 dX11_sizeOf_14 ?_
  refine lv_iload_n hx hb dX11_sizeOf_17 rfl (lv_at hl 1 rfl) ?_
  obtain ⟨h3, hf⟩ := ck_s hf
  refine g_iald hC hM 18 mE18 h3 dX11_sizeOf_18 ?_
  refine lv_aload_n hx hb dX11_sizeOf_19 rfl (lv_at hl 0 rfl) ?_
  refine g_get hC hM inX11_sizeOf_X11 0 mE0 clX11 36 (by decide) tX11_sizeOf_4 TX11_36 mV0_36 dX11_sizeOf_20 ?_
  refine lv_iload_n hx hb dX11_sizeOf_23 rfl (lv_at hl 1 rfl) ?_
  obtain ⟨h4, hf⟩ := ck_s hf
  refine g_iald hC hM 19 mE19 h4 dX11_sizeOf_24 ?_
  obtain ⟨v5, hc, hf⟩ := bd_s hf
  refine gV_i hC hM hA hl.1 [.int (S.1 16 p0.toNatClampNeg), .int (S.1 17 p0.toNatClampNeg), .int (S.1 18 p0.toNatClampNeg), .int (S.1 19 p0.toNatClampNeg)] [] (c_X11_clauseSize l D cs a N (S.1 16 p0.toNatClampNeg) (S.1 17 p0.toNatClampNeg) (S.1 18 p0.toNatClampNeg) (S.1 19 p0.toNatClampNeg) S v5 hc) gX11_sizeOf_X11_clauseSize rfl hd_X11_clauseSize ⟨by decide, by decide⟩ 0 11 clX11 rfl mE0 (Nat.le_of_ble_eq_true rfl) dX11_sizeOf_25 rfl ⟨by decide, by decide⟩ (fun H locs hM => ?_)
  refine lv_iconst (v := 1) hx hb dX11_sizeOf_28 (by decide) ?_
  refine lv_iadd hx hb dX11_sizeOf_29 ?_
  cases so_1 hf
  exact hQ _ _ _ _ _ _ dX11_sizeOf_30 hM (by decide) (by decide)

theorem hd_X11_tells : yX11_tells.cls = RX11 ∧ yX11_tells.cls ≠ "java/lang/invoke/MethodHandle" ∧ yX11_tells.cls ≠ "java/lang/invoke/VarHandle" ∧ (parseMethodDescriptor yX11_tells.desc).map (fun d => d.parameters.length) = some 1 := by decide +kernel
theorem tX11_tells_1 : Cond.fieldLink RX11 72 "WeatherTellerModel" "tNumber" "[I" ∈ wsX11_tells := List.mem_of_getElem? (i := 1) rfl
theorem inX11_tells_X11 : ∀ w ∈ u_ws RX11 TX11 50, w ∈ wsX11_tells := fun _ h => List.mem_cons_of_mem _ (List.mem_append_right _ h)
theorem tX11_tells_2 : Cond.fieldLink RX11 193 "WeatherTellerModel" "toldMany" "I" ∈ wsX11_tells := List.mem_of_getElem? (i := 2) rfl
theorem tX11_tells_3 : Cond.fieldLink RX11 75 "WeatherTellerModel" "tBand" "[I" ∈ wsX11_tells := List.mem_of_getElem? (i := 3) rfl
theorem tX11_tells_4 : Cond.fieldLink RX11 60 "WeatherTellerModel" "fBand" "[I" ∈ wsX11_tells := List.mem_of_getElem? (i := 4) rfl
theorem tX11_tells_5 : Cond.fieldLink RX11 78 "WeatherTellerModel" "tFrom" "[I" ∈ wsX11_tells := List.mem_of_getElem? (i := 5) rfl
theorem tX11_tells_6 : Cond.fieldLink RX11 63 "WeatherTellerModel" "fFrom" "[I" ∈ wsX11_tells := List.mem_of_getElem? (i := 6) rfl
theorem tX11_tells_7 : Cond.fieldLink RX11 81 "WeatherTellerModel" "tTo" "[I" ∈ wsX11_tells := List.mem_of_getElem? (i := 7) rfl
theorem tX11_tells_8 : Cond.fieldLink RX11 66 "WeatherTellerModel" "fTo" "[I" ∈ wsX11_tells := List.mem_of_getElem? (i := 8) rfl
theorem tX11_tells_9 : Cond.fieldLink RX11 84 "WeatherTellerModel" "tPlaces" "[I" ∈ wsX11_tells := List.mem_of_getElem? (i := 9) rfl
theorem tX11_tells_10 : Cond.fieldLink RX11 69 "WeatherTellerModel" "fPlaces" "[I" ∈ wsX11_tells := List.mem_of_getElem? (i := 10) rfl
theorem tX11_tells_11 : Cond.fieldLink RX11 200 "WeatherTellerModel" "toldWeight" "I" ∈ wsX11_tells := List.mem_of_getElem? (i := 11) rfl
def f_X11_tells (N : Nat) (p0 : Int32) (S : St) : Option (St) :=
  ck (S.1 0 38) 432 <|
  nm (puI S 20 (S.1 0 38).toNatClampNeg p0) fun S2 =>
  ck p0 432 <|
  ck (S2.1 0 38) 432 <|
  nm (puI S2 21 (S2.1 0 38).toNatClampNeg (S2.1 16 p0.toNatClampNeg)) fun S5 =>
  ck p0 432 <|
  ck (S5.1 0 38) 432 <|
  nm (puI S5 22 (S5.1 0 38).toNatClampNeg (S5.1 17 p0.toNatClampNeg)) fun S8 =>
  ck p0 432 <|
  ck (S8.1 0 38) 432 <|
  nm (puI S8 23 (S8.1 0 38).toNatClampNeg (S8.1 18 p0.toNatClampNeg)) fun S11 =>
  ck p0 432 <|
  ck (S11.1 0 38) 432 <|
  nm (puI S11 24 (S11.1 0 38).toNatClampNeg (S11.1 19 p0.toNatClampNeg)) fun S14 =>
  nm (puI S14 0 38 ((S14.1 0 38) + 1)) fun S15 =>
  bd (f_X11_weightOf N p0 S15) fun v16 =>
  nm (puI S15 0 39 ((S15.1 0 39) + v16)) fun S17 =>
  some S17
abbrev rmX11_tells : Room := { frames := 2, cells := 0, slots := 0, locals := 43 }
set_option maxRecDepth 100000 in
set_option maxHeartbeats 4000000 in
theorem c_X11_tells (l : Launch) (D : va_G) (cs : Nat → ClassId) (a : Nat → Nat) (N : Nat) (p0 : Int32) (S : St) (Sz : St) (hf : f_X11_tells N p0 S = some Sz) : gMv l yX11_tells wsX11_tells rmX11_tells D cs [.ref (a 0), .int p0] (mcells cs a S) (mcells cs a Sz) := by
  unfold f_X11_tells at hf
  refine gE_v (cc := cX11_tells) (maxL := 2) (by decide) rfl (Nat.le_of_ble_eq_true rfl) ?_
  intro p e s m args below meth c A Q hC hA hQ hM ls hl
  obtain ⟨hx, hb, hml, hown, hts⟩ := hC.1
  have hl : lv_has ls 2 [(0, .ref (a 0)), (1, .int p0)] := hl
  refine lv_aload_n hx hb dX11_tells_0 rfl (lv_at hl 0 rfl) ?_
  refine g_get hC hM inX11_tells_X11 0 mE0 clX11 40 (by decide) tX11_tells_1 TX11_40 mV0_40 dX11_tells_1 ?_
  refine lv_aload_n hx hb dX11_tells_4 rfl (lv_at hl 0 rfl) ?_
  refine g_get hC hM inX11_tells_X11 0 mE0 clX11 38 (by decide) tX11_tells_2 TX11_38 mV0_38 dX11_tells_5 ?_
  refine lv_iload_n hx hb dX11_tells_8 rfl (lv_at hl 1 rfl) ?_
  obtain ⟨h1, hf⟩ := ck_s hf
  refine g_iast hC hM 20 mE20 h1 mA20 dX11_tells_9 (fun H locs hM => ?_)
  obtain ⟨S2, hf, hM⟩ := mnm hf hM
  refine lv_aload_n hx hb dX11_tells_10 rfl (lv_at hl 0 rfl) ?_
  refine g_get hC hM inX11_tells_X11 0 mE0 clX11 41 (by decide) tX11_tells_3 TX11_41 mV0_41 dX11_tells_11 ?_
  refine lv_aload_n hx hb dX11_tells_14 rfl (lv_at hl 0 rfl) ?_
  refine g_get hC hM inX11_tells_X11 0 mE0 clX11 38 (by decide) tX11_tells_2 TX11_38 mV0_38 dX11_tells_15 ?_
  refine lv_aload_n hx hb dX11_tells_18 rfl (lv_at hl 0 rfl) ?_
  refine g_get hC hM inX11_tells_X11 0 mE0 clX11 33 (by decide) tX11_tells_4 TX11_33 mV0_33 dX11_tells_19 ?_
  refine lv_iload_n hx hb dX11_tells_22 rfl (lv_at hl 1 rfl) ?_
  obtain ⟨h3, hf⟩ := ck_s hf
  refine g_iald hC hM 16 mE16 h3 dX11_tells_23 ?_
  obtain ⟨h4, hf⟩ := ck_s hf
  refine g_iast hC hM 21 mE21 h4 mA21 dX11_tells_24 (fun H locs hM => ?_)
  obtain ⟨S5, hf, hM⟩ := mnm hf hM
  refine lv_aload_n hx hb dX11_tells_25 rfl (lv_at hl 0 rfl) ?_
  refine g_get hC hM inX11_tells_X11 0 mE0 clX11 42 (by decide) tX11_tells_5 TX11_42 mV0_42 dX11_tells_26 ?_
  refine lv_aload_n hx hb dX11_tells_29 rfl (lv_at hl 0 rfl) ?_
  refine g_get hC hM inX11_tells_X11 0 mE0 clX11 38 (by decide) tX11_tells_2 TX11_38 mV0_38 dX11_tells_30 ?_
  refine lv_aload_n hx hb dX11_tells_33 rfl (lv_at hl 0 rfl) ?_
  refine g_get hC hM inX11_tells_X11 0 mE0 clX11 34 (by decide) tX11_tells_6 TX11_34 mV0_34 dX11_tells_34 ?_
  refine lv_iload_n hx hb dX11_tells_37 rfl (lv_at hl 1 rfl) ?_
  obtain ⟨h6, hf⟩ := ck_s hf
  refine g_iald hC hM 17 mE17 h6 dX11_tells_38 ?_
  obtain ⟨h7, hf⟩ := ck_s hf
  refine g_iast hC hM 22 mE22 h7 mA22 dX11_tells_39 (fun H locs hM => ?_)
  obtain ⟨S8, hf, hM⟩ := mnm hf hM
  refine lv_aload_n hx hb dX11_tells_40 rfl (lv_at hl 0 rfl) ?_
  refine g_get hC hM inX11_tells_X11 0 mE0 clX11 43 (by decide) tX11_tells_7 TX11_43 mV0_43 dX11_tells_41 ?_
  refine lv_aload_n hx hb dX11_tells_44 rfl (lv_at hl 0 rfl) ?_
  refine g_get hC hM inX11_tells_X11 0 mE0 clX11 38 (by decide) tX11_tells_2 TX11_38 mV0_38 dX11_tells_45 ?_
  refine lv_aload_n hx hb dX11_tells_48 rfl (lv_at hl 0 rfl) ?_
  refine g_get hC hM inX11_tells_X11 0 mE0 clX11 35 (by decide) tX11_tells_8 TX11_35 mV0_35 dX11_tells_49 ?_
  refine lv_iload_n hx hb dX11_tells_52 rfl (lv_at hl 1 rfl) ?_
  obtain ⟨h9, hf⟩ := ck_s hf
  refine g_iald hC hM 18 mE18 h9 dX11_tells_53 ?_
  obtain ⟨h10, hf⟩ := ck_s hf
  refine g_iast hC hM 23 mE23 h10 mA23 dX11_tells_54 (fun H locs hM => ?_)
  obtain ⟨S11, hf, hM⟩ := mnm hf hM
  refine lv_aload_n hx hb dX11_tells_55 rfl (lv_at hl 0 rfl) ?_
  refine g_get hC hM inX11_tells_X11 0 mE0 clX11 44 (by decide) tX11_tells_9 TX11_44 mV0_44 dX11_tells_56 ?_
  refine lv_aload_n hx hb dX11_tells_59 rfl (lv_at hl 0 rfl) ?_
  refine g_get hC hM inX11_tells_X11 0 mE0 clX11 38 (by decide) tX11_tells_2 TX11_38 mV0_38 dX11_tells_60 ?_
  refine lv_aload_n hx hb dX11_tells_63 rfl (lv_at hl 0 rfl) ?_
  refine g_get hC hM inX11_tells_X11 0 mE0 clX11 36 (by decide) tX11_tells_10 TX11_36 mV0_36 dX11_tells_64 ?_
  refine lv_iload_n hx hb dX11_tells_67 rfl (lv_at hl 1 rfl) ?_
  obtain ⟨h12, hf⟩ := ck_s hf
  refine g_iald hC hM 19 mE19 h12 dX11_tells_68 ?_
  obtain ⟨h13, hf⟩ := ck_s hf
  refine g_iast hC hM 24 mE24 h13 mA24 dX11_tells_69 (fun H locs hM => ?_)
  obtain ⟨S14, hf, hM⟩ := mnm hf hM
  refine lv_aload_n hx hb dX11_tells_70 rfl (lv_at hl 0 rfl) ?_
  refine lv_dup hx hb dX11_tells_71 rfl ?_
  refine g_get hC hM inX11_tells_X11 0 mE0 clX11 38 (by decide) tX11_tells_2 TX11_38 mV0_38 dX11_tells_72 ?_
  refine lv_iconst (v := 1) hx hb dX11_tells_75 (by decide) ?_
  refine lv_iadd hx hb dX11_tells_76 ?_
  refine g_put hC hM inX11_tells_X11 tyX11_ok nmX11 0 mE0 clX11 38 (by decide) tX11_tells_2 TX11_38 tyX11_38 rfl rfl (by rw [mL0]; decide) mP0_38 dX11_tells_77 (fun H locs hM => ?_)
  obtain ⟨S15, hf, hM⟩ := mnm hf hM
  refine lv_aload_n hx hb dX11_tells_80 rfl (lv_at hl 0 rfl) ?_
  refine lv_dup hx hb dX11_tells_81 rfl ?_
  refine g_get hC hM inX11_tells_X11 0 mE0 clX11 39 (by decide) tX11_tells_11 TX11_39 mV0_39 dX11_tells_82 ?_
  refine lv_aload_n hx hb dX11_tells_85 rfl (lv_at hl 0 rfl) ?_
  refine lv_iload_n hx hb dX11_tells_86 rfl (lv_at hl 1 rfl) ?_
  obtain ⟨v16, hc, hf⟩ := bd_s hf
  refine gV_i hC hM hA hl.1 [.int p0] [.int (S15.1 0 39), .ref (a 0)] (c_X11_weightOf l D cs a N p0 S15 v16 hc) gX11_tells_X11_weightOf rfl hd_X11_weightOf ⟨by decide, by decide⟩ 0 11 clX11 rfl mE0 (Nat.le_of_ble_eq_true rfl) dX11_tells_87 rfl ⟨by decide, by decide⟩ (fun H locs hM => ?_)
  refine lv_iadd hx hb dX11_tells_90 ?_
  refine g_put hC hM inX11_tells_X11 tyX11_ok nmX11 0 mE0 clX11 39 (by decide) tX11_tells_11 TX11_39 tyX11_39 rfl rfl (by rw [mL0]; decide) mP0_39 dX11_tells_91 (fun H locs hM => ?_)
  obtain ⟨S17, hf, hM⟩ := mnm hf hM
  cases so_1 hf
  exact hQ _ _ _ _ _ _ dX11_tells_94 hM (by decide) (by decide)
