theorem hd_X0_weigh : yX0_weigh.cls = RX0 ∧ yX0_weigh.cls ≠ "java/lang/invoke/MethodHandle" ∧ yX0_weigh.cls ≠ "java/lang/invoke/VarHandle" ∧ (parseMethodDescriptor yX0_weigh.desc).map (fun d => d.parameters.length) = some 2 := by decide +kernel
theorem tX0_weigh_1 : Cond.fieldLink RX0 26 "WeatherTeller$Chooser" "signs" "[I" ∈ wsX0_weigh := List.mem_of_getElem? (i := 1) rfl
theorem inX0_weigh_X0 : ∀ w ∈ u_ws RX0 TX0 7, w ∈ wsX0_weigh := fun _ h => List.mem_cons_of_mem _ (List.mem_append_right _ h)
theorem tX0_weigh_2 : Cond.fieldLink RX0 15 "WeatherTeller$Chooser" "weights" "[I" ∈ wsX0_weigh := List.mem_of_getElem? (i := 2) rfl
theorem tX0_weigh_3 : Cond.fieldLink RX0 29 "WeatherTeller$Chooser" "best" "[I" ∈ wsX0_weigh := List.mem_of_getElem? (i := 3) rfl
theorem tX0_weigh_4 : Cond.fieldLink RX0 32 "WeatherTeller$Chooser" "taken" "[I" ∈ wsX0_weigh := List.mem_of_getElem? (i := 4) rfl
def j_X0_weigh_90 (v5 : Int32) (k24 : Int32 → St → Option (St)) (S11 : St) : Option (St) :=
  nm (v5 + (-1)) fun v12 =>
  k24 v12 S11
def b_X0_weigh_24 (p0 : Int32) (v2 : Int32) (v4 : Int32) (k24 : Int32 → St → Option (St)) (v5 : Int32) (S6 : St) : Option (St) :=
  if v5 < v2 then
    some S6
  else
    ck (v5 - v2) 401 <|
    nm ((S6.1 20 (v5 - v2).toNatClampNeg) + v4) fun v9 =>
    ck v5 401 <|
    jp (j_X0_weigh_90 v5 k24) fun k90 =>
    if v9 < (S6.1 20 v5.toNatClampNeg) then
      k90 S6
    else
      ck v5 401 <|
      nm (puI S6 20 v5.toNatClampNeg v9) fun S15 =>
      ck ((p0 * 13) + (v5 / 32)) 5616 <|
      ck ((p0 * 13) + (v5 / 32)) 5616 <|
      nm (puI S15 21 ((p0 * 13) + (v5 / 32)).toNatClampNeg ((S15.1 21 ((p0 * 13) + (v5 / 32)).toNatClampNeg) ||| (1 <<< ((v5 - v5 / 32 * 32) &&& 31)))) fun S18 =>
      k90 S18
def f_X0_weigh (N : Nat) (p0 : Int32) (p1 : Int32) (S : St) : Option (St) :=
  ck p0 432 <|
  nm (S.1 19 p0.toNatClampNeg) fun v2 =>
  ck p0 432 <|
  nm (((S.1 17 p0.toNatClampNeg) * 512) - v2) fun v4 =>
  jp (lp (fun _ _ => none) (b_X0_weigh_24 p0 v2 v4) N) fun k24 =>
  k24 p1 S
abbrev rmX0_weigh : Room := { frames := 0, cells := 0, slots := 0, locals := 0 }
set_option maxRecDepth 100000 in
set_option maxHeartbeats 4000000 in
theorem c_X0_weigh (l : Launch) (D : va_G) (cs : Nat → ClassId) (a : Nat → Nat) (q1 q2 : Nat) (N : Nat) (p0 : Int32) (p1 : Int32) (S : St) (Sz : St) (hf : f_X0_weigh N p0 p1 S = some Sz) : gMv l yX0_weigh wsX0_weigh rmX0_weigh D cs [.ref (a 15), .int p0, .int p1] (ccells cs a q1 q2 S) (ccells cs a q1 q2 Sz) := by
  unfold f_X0_weigh at hf
  refine gE_v (cc := cX0_weigh) (maxL := 7) (by decide) rfl (Nat.le_of_ble_eq_true rfl) ?_
  intro p e s m args below meth c A Q hC hA hQ hM ls hl
  obtain ⟨hx, hb, hml, hown, hts⟩ := hC.1
  have hl : lv_has ls 7 [(0, .ref (a 15)), (1, .int p0), (2, .int p1)] := hl
  refine lv_aload_n hx hb dX0_weigh_0 rfl (lv_at hl 0 rfl) ?_
  refine g_get hC hM inX0_weigh_X0 15 cE15 clX0 4 (by decide) tX0_weigh_1 TX0_4 cV15_4 dX0_weigh_1 ?_
  refine lv_iload_n hx hb dX0_weigh_4 rfl (lv_at hl 1 rfl) ?_
  obtain ⟨h1, hf⟩ := ck_s hf
  refine g_iald hC hM 19 cE19 h1 dX0_weigh_5 ?_
  refine lv_topi (fun v2 ev2 => ?_)
  replace hf := nm_q ev2 hf
  refine lv_istore_n (lv' := [(3, .int v2), (0, .ref (a 15)), (1, .int p0), (2, .int p1)]) hx hb dX0_weigh_6 rfl hl (by decide) rfl (fun ls hl => ?_)
  refine lv_aload_n hx hb dX0_weigh_7 rfl (lv_at hl 1 rfl) ?_
  refine g_get hC hM inX0_weigh_X0 15 cE15 clX0 1 (by decide) tX0_weigh_2 TX0_1 cV15_1 dX0_weigh_8 ?_
  refine lv_iload_n hx hb dX0_weigh_11 rfl (lv_at hl 2 rfl) ?_
  obtain ⟨h3, hf⟩ := ck_s hf
  refine g_iald hC hM 17 cE17 h3 dX0_weigh_12 ?_
  refine lv_sipush (v := 512) hx hb dX0_weigh_13 (by decide) ?_
  refine lv_imul hx hb dX0_weigh_16 ?_
  refine lv_iload_n hx hb dX0_weigh_17 rfl (lv_at hl 0 rfl) ?_
  refine lv_isub hx hb dX0_weigh_18 ?_
  refine lv_topi (fun v4 ev4 => ?_)
  replace hf := nm_q ev4 hf
  refine lv_istore (lv' := [(4, .int v4), (3, .int v2), (0, .ref (a 15)), (1, .int p0), (2, .int p1)]) hx hb dX0_weigh_19 hl (by decide) rfl (fun ls hl => ?_)
  refine lv_iload_n hx hb dX0_weigh_21 rfl (lv_at hl 4 rfl) ?_
  refine lv_istore (lv' := [(5, .int p1), (4, .int v4), (3, .int v2), (0, .ref (a 15)), (1, .int p0), (2, .int p1)]) hx hb dX0_weigh_22 hl (by decide) rfl (fun ls hl => ?_)
  refine jl_W (fun k24 : Int32 → St → Option (St) => ∀ (v5 : Int32) (S6 : St), k24 v5 S6 = some Sz → ∀ (H : Heap) (locs : List Loc) (ls : Array Slot), gw D A s.heap H locs (ccells cs a q1 q2 S6) → lv_has ls 7 [(0, .ref (a 15)), (1, .int p0), (3, .int v2), (4, .int v4), (5, .int v5)] → W p l e rmX0_weigh s m args below meth c H locs 0 0 Q (F0 m 24 ls [])) ?_ ?_ ?_ hf
  · intro v5 S6 h; cases h
  · intro k24 hk24 v5 S6 hf H locs ls hM hl
    unfold b_X0_weigh_24 at hf
    refine lv_iload hx hb dX0_weigh_24 (lv_at hl 4 rfl) ?_
    refine lv_iload_n hx hb dX0_weigh_26 rfl (lv_at hl 2 rfl) ?_
    refine lv_icmp_lt (tgt := 96) hx hb dX0_weigh_27 (by decide) (fun c7 => ?_) (fun c7 => ?_)
    · replace hf := it_t c7 hf
      cases so_1 hf
      exact hQ _ _ _ _ _ _ dX0_weigh_96 hM (by decide) (by decide)
    · replace hf := it_f c7 hf
      refine lv_aload_n hx hb dX0_weigh_30 rfl (lv_at hl 0 rfl) ?_
      refine g_get hC hM inX0_weigh_X0 15 cE15 clX0 5 (by decide) tX0_weigh_3 TX0_5 cV15_5 dX0_weigh_31 ?_
      refine lv_iload hx hb dX0_weigh_34 (lv_at hl 4 rfl) ?_
      refine lv_iload_n hx hb dX0_weigh_36 rfl (lv_at hl 2 rfl) ?_
      refine lv_isub hx hb dX0_weigh_37 ?_
      obtain ⟨h8, hf⟩ := ck_s hf
      refine g_iald hC hM 20 cE20 h8 dX0_weigh_38 ?_
      refine lv_iload hx hb dX0_weigh_39 (lv_at hl 3 rfl) ?_
      refine lv_iadd hx hb dX0_weigh_41 ?_
      refine lv_topi (fun v9 ev9 => ?_)
      replace hf := nm_q ev9 hf
      refine lv_istore (lv' := [(6, .int v9), (0, .ref (a 15)), (1, .int p0), (3, .int v2), (4, .int v4), (5, .int v5)]) hx hb dX0_weigh_42 hl (by decide) rfl (fun ls hl => ?_)
      refine lv_iload hx hb dX0_weigh_44 (lv_at hl 0 rfl) ?_
      refine lv_aload_n hx hb dX0_weigh_46 rfl (lv_at hl 1 rfl) ?_
      refine g_get hC hM inX0_weigh_X0 15 cE15 clX0 5 (by decide) tX0_weigh_3 TX0_5 cV15_5 dX0_weigh_47 ?_
      refine lv_iload hx hb dX0_weigh_50 (lv_at hl 5 rfl) ?_
      obtain ⟨h10, hf⟩ := ck_s hf
      refine g_iald hC hM 20 cE20 h10 dX0_weigh_52 ?_
      refine jp_W (fun k90 : St → Option (St) => ∀ (S11 : St), k90 S11 = some Sz → ∀ (H : Heap) (locs : List Loc) (ls : Array Slot), gw D A s.heap H locs (ccells cs a q1 q2 S11) → lv_has ls 7 [(0, .ref (a 15)), (1, .int p0), (3, .int v2), (4, .int v4), (5, .int v5)] → W p l e rmX0_weigh s m args below meth c H locs 0 0 Q (F0 m 90 ls [])) ?_ ?_ hf
      · intro S11 hf H locs ls hM hl
        unfold j_X0_weigh_90 at hf
        obtain ⟨v12, ev12⟩ : ∃ y : Int32, y = v5 + (-1) := ⟨_, rfl⟩
        replace hf := nm_q ev12 hf
        refine lv_iinc (v := v12) (lv' := [(5, .int v12), (0, .ref (a 15)), (1, .int p0), (3, .int v2), (4, .int v4)]) hx hb dX0_weigh_90 hl (k := 4) rfl (by rw [ev12]; rfl) (by decide) rfl (fun ls hl => ?_)
        refine lv_goto (tgt := 24) hx hb dX0_weigh_93 (by decide) ?_
        exact hk24 _ _ hf _ _ _ hM (lv_sub hl [1, 2, 3, 4, 0] rfl)
      · intro k90 hk90 hf
        refine lv_icmp_lt (tgt := 90) hx hb dX0_weigh_53 (by decide) (fun c13 => ?_) (fun c13 => ?_)
        · replace hf := it_t c13 hf
          exact hk90 _ hf _ _ _ hM (lv_sub hl [1, 2, 3, 4, 5] rfl)
        · replace hf := it_f c13 hf
          refine lv_aload_n hx hb dX0_weigh_56 rfl (lv_at hl 1 rfl) ?_
          refine g_get hC hM inX0_weigh_X0 15 cE15 clX0 5 (by decide) tX0_weigh_3 TX0_5 cV15_5 dX0_weigh_57 ?_
          refine lv_iload hx hb dX0_weigh_60 (lv_at hl 5 rfl) ?_
          refine lv_iload hx hb dX0_weigh_62 (lv_at hl 0 rfl) ?_
          obtain ⟨h14, hf⟩ := ck_s hf
          refine g_iast hC hM 20 cE20 h14 cA20 dX0_weigh_64 (fun H locs hM => ?_)
          obtain ⟨S15, hf, hM⟩ := cnm hf hM
          refine lv_aload_n hx hb dX0_weigh_65 rfl (lv_at hl 1 rfl) ?_
          refine g_get hC hM inX0_weigh_X0 15 cE15 clX0 6 (by decide) tX0_weigh_4 TX0_6 cV15_6 dX0_weigh_66 ?_
          refine lv_iload_n hx hb dX0_weigh_69 rfl (lv_at hl 2 rfl) ?_
          refine lv_bipush (v := 13) hx hb dX0_weigh_70 (by decide) ?_
          refine lv_imul hx hb dX0_weigh_72 ?_
          refine lv_iload hx hb dX0_weigh_73 (lv_at hl 5 rfl) ?_
          refine lv_bipush (v := 32) hx hb dX0_weigh_75 (by decide) ?_
          refine lv_idiv hx hb dX0_weigh_77 (by decide) ?_
          refine lv_iadd hx hb dX0_weigh_78 ?_
          refine lv_dup2_11 hx hb dX0_weigh_79 rfl rfl ?_
          obtain ⟨h16, hf⟩ := ck_s hf
          refine g_iald hC hM 21 cE21 h16 dX0_weigh_80 ?_
          refine lv_iconst (v := 1) hx hb dX0_weigh_81 (by decide) ?_
          refine lv_iload hx hb dX0_weigh_82 (lv_at hl 5 rfl) ?_
          refine lv_bipush (v := 32) hx hb dX0_weigh_84 (by decide) ?_
          refine lv_irem hx hb dX0_weigh_86 (by decide) ?_
          refine lv_ishl hx hb dX0_weigh_87 ?_
          refine lv_ior hx hb dX0_weigh_88 ?_
          obtain ⟨h17, hf⟩ := ck_s hf
          refine g_iast hC hM 21 cE21 h17 cA21 dX0_weigh_89 (fun H locs hM => ?_)
          obtain ⟨S18, hf, hM⟩ := cnm hf hM
          exact hk90 _ hf _ _ _ hM (lv_sub hl [1, 2, 3, 4, 5] rfl)
  · intro k24 hk24 hf
    exact hk24 _ _ hf _ _ _ hM (lv_sub hl [3, 4, 2, 1, 0] rfl)

theorem hd_X0_isTaken : yX0_isTaken.cls = RX0 ∧ yX0_isTaken.cls ≠ "java/lang/invoke/MethodHandle" ∧ yX0_isTaken.cls ≠ "java/lang/invoke/VarHandle" ∧ (parseMethodDescriptor yX0_isTaken.desc).map (fun d => d.parameters.length) = some 2 := by decide +kernel
theorem tX0_isTaken_1 : Cond.fieldLink RX0 32 "WeatherTeller$Chooser" "taken" "[I" ∈ wsX0_isTaken := List.mem_of_getElem? (i := 1) rfl
theorem inX0_isTaken_X0 : ∀ w ∈ u_ws RX0 TX0 7, w ∈ wsX0_isTaken := fun _ h => List.mem_cons_of_mem _ (List.mem_append_right _ h)
theorem tX0_isTaken_2 : Cond.static yX10_hasBit ∈ wsX0_isTaken := List.mem_of_getElem? (i := 2) rfl
theorem tX0_isTaken_3 : Cond.initialized RX10 ∈ wsX0_isTaken := List.mem_of_getElem? (i := 3) rfl
def f_X0_isTaken (N : Nat) (p0 : Int32) (p1 : Int32) (S : St) : Option (Int32) :=
  z1 <|
  if p1 < 0 then
    some 0
  else
    if 400 < p1 then
      some 0
    else
      ck ((p0 * 13) + (p1 / 32)) 5616 <|
      bd (f_X10_hasBit N (S.1 21 ((p0 * 13) + (p1 / 32)).toNatClampNeg) (p1 - p1 / 32 * 32)) fun v4 =>
      if v4 = 0 then
        some 0
      else
        some 1
abbrev rmX0_isTaken : Room := { frames := 1, cells := 0, slots := 0, locals := 21 }
set_option maxRecDepth 100000 in
set_option maxHeartbeats 4000000 in
theorem c_X0_isTaken (l : Launch) (D : va_G) (cs : Nat → ClassId) (a : Nat → Nat) (q1 q2 : Nat) (N : Nat) (p0 : Int32) (p1 : Int32) (S : St) (rz : Int32) (hf : f_X0_isTaken N p0 p1 S = some rz) : gMi l yX0_isTaken wsX0_isTaken rmX0_isTaken D cs [.ref (a 15), .int p0, .int p1] (ccells cs a q1 q2 S) rz (ccells cs a q1 q2 S) := by
  unfold f_X0_isTaken at hf
  obtain ⟨hrz, hf⟩ := z1_s hf
  refine gE_z (cc := cX0_isTaken) (maxL := 3) hrz (by decide) rfl (Nat.le_of_ble_eq_true rfl) ?_
  intro p e s m args below meth c A Q hC hA hQ hM ls hl
  obtain ⟨hx, hb, hml, hown, hts⟩ := hC.1
  have hl : lv_has ls 3 [(0, .ref (a 15)), (1, .int p0), (2, .int p1)] := hl
  refine lv_iload_n hx hb dX0_isTaken_0 rfl (lv_at hl 2 rfl) ?_
  refine lv_if_lt (tgt := 39) hx hb dX0_isTaken_1 (by decide) (fun c1 => ?_) (fun c1 => ?_)
  · replace hf := it_t c1 hf
    refine lv_iconst (v := 0) hx hb dX0_isTaken_39 (by decide) ?_
    cases so_1 hf
    exact hQ _ _ _ _ _ _ dX0_isTaken_40 hM (by decide) (by decide)
  · replace hf := it_f c1 hf
    refine lv_iload_n hx hb dX0_isTaken_4 rfl (lv_at hl 2 rfl) ?_
    refine lv_sipush (v := 400) hx hb dX0_isTaken_5 (by decide) ?_
    refine lv_icmp_gt (tgt := 39) hx hb dX0_isTaken_8 (by decide) (fun c2 => ?_) (fun c2 => ?_)
    · replace hf := it_t c2 hf
      refine lv_iconst (v := 0) hx hb dX0_isTaken_39 (by decide) ?_
      cases so_1 hf
      exact hQ _ _ _ _ _ _ dX0_isTaken_40 hM (by decide) (by decide)
    · replace hf := it_f c2 hf
      refine lv_aload_n hx hb dX0_isTaken_11 rfl (lv_at hl 0 rfl) ?_
      refine g_get hC hM inX0_isTaken_X0 15 cE15 clX0 6 (by decide) tX0_isTaken_1 TX0_6 cV15_6 dX0_isTaken_12 ?_
      refine lv_iload_n hx hb dX0_isTaken_15 rfl (lv_at hl 1 rfl) ?_
      refine lv_bipush (v := 13) hx hb dX0_isTaken_16 (by decide) ?_
      refine lv_imul hx hb dX0_isTaken_18 ?_
      refine lv_iload_n hx hb dX0_isTaken_19 rfl (lv_at hl 2 rfl) ?_
      refine lv_bipush (v := 32) hx hb dX0_isTaken_20 (by decide) ?_
      refine lv_idiv hx hb dX0_isTaken_22 (by decide) ?_
      refine lv_iadd hx hb dX0_isTaken_23 ?_
      obtain ⟨h3, hf⟩ := ck_s hf
      refine g_iald hC hM 21 cE21 h3 dX0_isTaken_24 ?_
      refine lv_iload_n hx hb dX0_isTaken_25 rfl (lv_at hl 2 rfl) ?_
      refine lv_bipush (v := 32) hx hb dX0_isTaken_26 (by decide) ?_
      refine lv_irem hx hb dX0_isTaken_28 (by decide) ?_
      obtain ⟨v4, hc, hf⟩ := bd_s hf
      refine gN_i (host := "WeatherTeller") hC hM hA hl.1 [.int (S.1 21 ((p0 * 13) + (p1 / 32)).toNatClampNeg), .int (p1 - p1 / 32 * 32)] [] (c_X10_hasBit l D cs (ccells cs a q1 q2 S) N (S.1 21 ((p0 * 13) + (p1 / 32)).toNatClampNeg) (p1 - p1 / 32 * 32) v4 hc) ggX0_isTaken_X10_hasBit tX0_isTaken_2 tX0_isTaken_3 (by decide) rfl hd_X10_hasBit ⟨by decide, by decide⟩ (Nat.le_of_ble_eq_true rfl) dX0_isTaken_29 rfl ⟨by decide, by decide⟩ (fun H locs hM => ?_)
      refine lv_if_eq (tgt := 39) hx hb dX0_isTaken_32 (by decide) (fun c5 => ?_) (fun c5 => ?_)
      · replace hf := it_t c5 hf
        refine lv_iconst (v := 0) hx hb dX0_isTaken_39 (by decide) ?_
        cases so_1 hf
        exact hQ _ _ _ _ _ _ dX0_isTaken_40 hM (by decide) (by decide)
      · replace hf := it_f c5 hf
        refine lv_iconst (v := 1) hx hb dX0_isTaken_35 (by decide) ?_
        refine lv_goto (tgt := 40) hx hb dX0_isTaken_36 (by decide) ?_
        cases so_1 hf
        exact hQ _ _ _ _ _ _ dX0_isTaken_40 hM (by decide) (by decide)

theorem hd_X0_choose : yX0_choose.cls = RX0 ∧ yX0_choose.cls ≠ "java/lang/invoke/MethodHandle" ∧ yX0_choose.cls ≠ "java/lang/invoke/VarHandle" ∧ (parseMethodDescriptor yX0_choose.desc).map (fun d => d.parameters.length) = some 1 := by decide +kernel
theorem tX0_choose_1 : Cond.fieldLink RX0 29 "WeatherTeller$Chooser" "best" "[I" ∈ wsX0_choose := List.mem_of_getElem? (i := 1) rfl
theorem inX0_choose_X0 : ∀ w ∈ u_ws RX0 TX0 7, w ∈ wsX0_choose := fun _ h => List.mem_cons_of_mem _ (List.mem_append_right _ h)
theorem tX0_choose_2 : Cond.fieldLink RX0 32 "WeatherTeller$Chooser" "taken" "[I" ∈ wsX0_choose := List.mem_of_getElem? (i := 2) rfl
theorem tX0_choose_3 : Cond.fieldLink RX0 22 "WeatherTeller$Chooser" "size" "I" ∈ wsX0_choose := List.mem_of_getElem? (i := 3) rfl
theorem tX0_choose_4 : Cond.fieldLink RX0 18 "WeatherTeller$Chooser" "chosen" "[Z" ∈ wsX0_choose := List.mem_of_getElem? (i := 4) rfl
theorem tX0_choose_5 : Cond.fieldLink RX0 26 "WeatherTeller$Chooser" "signs" "[I" ∈ wsX0_choose := List.mem_of_getElem? (i := 5) rfl
def j_X0_choose_93 (v8 : Int32) (k55 : Int32 → Int32 → St → Option (St)) (S13 : St) (v15 : Int32) : Option (St) :=
  nm (v8 + 1) fun v16 =>
  k55 v15 v16 S13
def b_X0_choose_55 (N : Nat) (k55 : Int32 → Int32 → St → Option (St)) (v7 : Int32) (v8 : Int32) (S9 : St) : Option (St) :=
  if (S9.1 15 3) ≤ v8 then
    some S9
  else
    bd (f_X0_isTaken N v8 v7 S9) fun v11 =>
    ck v8 432 <|
    nm (puI S9 18 v8.toNatClampNeg (vp_nar .boolean v11)) fun S13 =>
    ck v8 432 <|
    jp (j_X0_choose_93 v8 k55 S13) fun k93 =>
    if (S13.1 18 v8.toNatClampNeg) = 0 then
      k93 v7
    else
      ck v8 432 <|
      nm (v7 - (S13.1 19 v8.toNatClampNeg)) fun v19 =>
      k93 v19
def j_X0_choose_51 (N : Nat) (p0 : Int32) (S6 : St) : Option (St) :=
  jp (lp (fun _ _ _ => none) (b_X0_choose_55 N) N) fun k55 =>
  k55 p0 0 S6
def b_X0_choose_35 (N : Nat) (p0 : Int32) (k51 : St → Option (St)) (k35 : Int32 → St → Option (St)) (v20 : Int32) (S21 : St) : Option (St) :=
  if v20 < 0 then
    k51 S21
  else
    bd (f_X0_weigh N v20 p0 S21) fun S23 =>
    nm (v20 + (-1)) fun v24 =>
    k35 v24 S23
def f_X0_choose (N : Nat) (p0 : Int32) (S : St) : Option (St) :=
  if p0 < 0 then
    some S
  else
    if p0 ≤ 400 then
      bd (f_J7_fill_53178 N 20 401 0 S) fun S3 =>
      bd (f_J7_fill_53178 N 21 5616 0 S3) fun S4 =>
      nm ((S4.1 15 3) - 1) fun v5 =>
      jp (j_X0_choose_51 N p0) fun k51 =>
      jp (lp (fun _ _ => none) (b_X0_choose_35 N p0 k51) N) fun k35 =>
      k35 v5 S4
    else
      some S
abbrev rmX0_choose : Room := { frames := 2, cells := 0, slots := 0, locals := 43 }
set_option maxRecDepth 100000 in
set_option maxHeartbeats 4000000 in
theorem c_X0_choose (l : Launch) (D : va_G) (cs : Nat → ClassId) (a : Nat → Nat) (q1 q2 : Nat) (N : Nat) (p0 : Int32) (S : St) (Sz : St) (hf : f_X0_choose N p0 S = some Sz) : gMv l yX0_choose wsX0_choose rmX0_choose D cs [.ref (a 15), .int p0] (ccells cs a q1 q2 S) (ccells cs a q1 q2 Sz) := by
  unfold f_X0_choose at hf
  refine gE_v (cc := cX0_choose) (maxL := 4) (by decide) rfl (Nat.le_of_ble_eq_true rfl) ?_
  intro p e s m args below meth c A Q hC hA hQ hM ls hl
  obtain ⟨hx, hb, hml, hown, hts⟩ := hC.1
  have hl : lv_has ls 4 [(0, .ref (a 15)), (1, .int p0)] := hl
  refine lv_iload_n hx hb dX0_choose_0 rfl (lv_at hl 1 rfl) ?_
  refine lv_if_lt (tgt := 11) hx hb dX0_choose_1 (by decide) (fun c1 => ?_) (fun c1 => ?_)
  · replace hf := it_t c1 hf
    cases so_1 hf
    exact hQ _ _ _ _ _ _ dX0_choose_11 hM (by decide) (by decide)
  · replace hf := it_f c1 hf
    refine lv_iload_n hx hb dX0_choose_4 rfl (lv_at hl 1 rfl) ?_
    refine lv_sipush (v := 400) hx hb dX0_choose_5 (by decide) ?_
    refine lv_icmp_le (tgt := 12) hx hb dX0_choose_8 (by decide) (fun c2 => ?_) (fun c2 => ?_)
    · replace hf := it_t c2 hf
      refine lv_aload_n hx hb dX0_choose_12 rfl (lv_at hl 0 rfl) ?_
      refine g_get hC hM inX0_choose_X0 15 cE15 clX0 5 (by decide) tX0_choose_1 TX0_5 cV15_5 dX0_choose_13 ?_
      refine lv_iconst (v := 0) hx hb dX0_choose_16 (by decide) ?_
      obtain ⟨S3, hc, hf⟩ := bd_s hf
      refine gS_v hC hM hA hl.1 [.ref (a 20), .int 0] [] (c_J7_fill_53178_20 l D cs a q1 q2 N 0 S S3 hc) gX0_choose_J7_fill_53178 rfl hd_J7_fill_53178 ⟨by decide, by decide⟩ (Nat.le_of_ble_eq_true rfl) dX0_choose_17 rfl ⟨by decide, by decide⟩ (fun H locs hM => ?_)
      refine lv_aload_n hx hb dX0_choose_20 rfl (lv_at hl 0 rfl) ?_
      refine g_get hC hM inX0_choose_X0 15 cE15 clX0 6 (by decide) tX0_choose_2 TX0_6 cV15_6 dX0_choose_21 ?_
      refine lv_iconst (v := 0) hx hb dX0_choose_24 (by decide) ?_
      obtain ⟨S4, hc, hf⟩ := bd_s hf
      refine gS_v hC hM hA hl.1 [.ref (a 21), .int 0] [] (c_J7_fill_53178_21 l D cs a q1 q2 N 0 S3 S4 hc) gX0_choose_J7_fill_53178 rfl hd_J7_fill_53178 ⟨by decide, by decide⟩ (Nat.le_of_ble_eq_true rfl) dX0_choose_25 rfl ⟨by decide, by decide⟩ (fun H locs hM => ?_)
      refine lv_aload_n hx hb dX0_choose_28 rfl (lv_at hl 0 rfl) ?_
      refine g_get hC hM inX0_choose_X0 15 cE15 clX0 3 (by decide) tX0_choose_3 TX0_3 cV15_3 dX0_choose_29 ?_
      refine lv_iconst (v := 1) hx hb dX0_choose_32 (by decide) ?_
      refine lv_isub hx hb dX0_choose_33 ?_
      refine lv_topi (fun v5 ev5 => ?_)
      replace hf := nm_q ev5 hf
      refine lv_istore_n (lv' := [(2, .int v5), (0, .ref (a 15)), (1, .int p0)]) hx hb dX0_choose_34 rfl hl (by decide) rfl (fun ls hl => ?_)
      refine jp_W (fun k51 : St → Option (St) => ∀ (S6 : St), k51 S6 = some Sz → ∀ (H : Heap) (locs : List Loc) (ls : Array Slot), gw D A s.heap H locs (ccells cs a q1 q2 S6) → lv_has ls 4 [(0, .ref (a 15)), (1, .int p0)] → W p l e rmX0_choose s m args below meth c H locs 0 0 Q (F0 m 51 ls [])) ?_ ?_ hf
      · intro S6 hf H locs ls hM hl
        unfold j_X0_choose_51 at hf
        refine lv_iload_n hx hb dX0_choose_51 rfl (lv_at hl 1 rfl) ?_
        refine lv_istore_n (lv' := [(2, .int p0), (0, .ref (a 15)), (1, .int p0)]) hx hb dX0_choose_52 rfl hl (by decide) rfl (fun ls hl => ?_)
        refine lv_iconst (v := 0) hx hb dX0_choose_53 (by decide) ?_
        refine lv_istore_n (lv' := [(3, .int 0), (2, .int p0), (0, .ref (a 15)), (1, .int p0)]) hx hb dX0_choose_54 rfl hl (by decide) rfl (fun ls hl => ?_)
        refine jl_W (fun k55 : Int32 → Int32 → St → Option (St) => ∀ (v7 : Int32) (v8 : Int32) (S9 : St), k55 v7 v8 S9 = some Sz → ∀ (H : Heap) (locs : List Loc) (ls : Array Slot), gw D A s.heap H locs (ccells cs a q1 q2 S9) → lv_has ls 4 [(0, .ref (a 15)), (2, .int v7), (3, .int v8)] → W p l e rmX0_choose s m args below meth c H locs 0 0 Q (F0 m 55 ls [])) ?_ ?_ ?_ hf
        · intro v7 v8 S9 h; cases h
        · intro k55 hk55 v7 v8 S9 hf H locs ls hM hl
          unfold b_X0_choose_55 at hf
          refine lv_iload_n hx hb dX0_choose_55 rfl (lv_at hl 2 rfl) ?_
          refine lv_aload_n hx hb dX0_choose_56 rfl (lv_at hl 0 rfl) ?_
          refine g_get hC hM inX0_choose_X0 15 cE15 clX0 3 (by decide) tX0_choose_3 TX0_3 cV15_3 dX0_choose_57 ?_
          refine lv_icmp_ge (tgt := 99) hx hb dX0_choose_60 (by decide) (fun c10 => ?_) (fun c10 => ?_)
          · replace hf := it_t c10 hf
            cases so_1 hf
            exact hQ _ _ _ _ _ _ dX0_choose_99 hM (by decide) (by decide)
          · replace hf := it_f c10 hf
            refine lv_aload_n hx hb dX0_choose_63 rfl (lv_at hl 0 rfl) ?_
            refine g_get hC hM inX0_choose_X0 15 cE15 clX0 2 (by decide) tX0_choose_4 TX0_2 cV15_2 dX0_choose_64 ?_
            refine lv_iload_n hx hb dX0_choose_67 rfl (lv_at hl 2 rfl) ?_
            refine lv_aload_n hx hb dX0_choose_68 rfl (lv_at hl 0 rfl) ?_
            refine lv_iload_n hx hb dX0_choose_69 rfl (lv_at hl 2 rfl) ?_
            refine lv_iload_n hx hb dX0_choose_70 rfl (lv_at hl 1 rfl) ?_
            obtain ⟨v11, hc, hf⟩ := bd_s hf
            refine gV_i hC hM hA hl.1 [.int v8, .int v7] [.int v8, .ref (a 18)] (c_X0_isTaken l D cs a q1 q2 N v8 v7 S9 v11 hc) gX0_choose_X0_isTaken rfl hd_X0_isTaken ⟨by decide, by decide⟩ 15 0 clX0 rfl cE15 (Nat.le_of_ble_eq_true rfl) dX0_choose_71 rfl ⟨by decide, by decide⟩ (fun H locs hM => ?_)
            obtain ⟨h12, hf⟩ := ck_s hf
            refine g_zast hC hM 18 cE18 h12 cA18 dX0_choose_74 (fun H locs hM => ?_)
            obtain ⟨S13, hf, hM⟩ := cnm hf hM
            refine lv_aload_n hx hb dX0_choose_75 rfl (lv_at hl 0 rfl) ?_
            refine g_get hC hM inX0_choose_X0 15 cE15 clX0 2 (by decide) tX0_choose_4 TX0_2 cV15_2 dX0_choose_76 ?_
            refine lv_iload_n hx hb dX0_choose_79 rfl (lv_at hl 2 rfl) ?_
            obtain ⟨h14, hf⟩ := ck_s hf
            refine g_zald hC hM 18 cE18 h14 dX0_choose_80 ?_
            refine jp_W (fun k93 : Int32 → Option (St) => ∀ (v15 : Int32), k93 v15 = some Sz → ∀ (H : Heap) (locs : List Loc) (ls : Array Slot), gw D A s.heap H locs (ccells cs a q1 q2 S13) → lv_has ls 4 [(0, .ref (a 15)), (2, .int v15), (3, .int v8)] → W p l e rmX0_choose s m args below meth c H locs 0 0 Q (F0 m 93 ls [])) ?_ ?_ hf
            · intro v15 hf H locs ls hM hl
              unfold j_X0_choose_93 at hf
              obtain ⟨v16, ev16⟩ : ∃ y : Int32, y = v8 + 1 := ⟨_, rfl⟩
              replace hf := nm_q ev16 hf
              refine lv_iinc (v := v16) (lv' := [(3, .int v16), (0, .ref (a 15)), (2, .int v15)]) hx hb dX0_choose_93 hl (k := 2) rfl (by rw [ev16]; rfl) (by decide) rfl (fun ls hl => ?_)
              refine lv_goto (tgt := 55) hx hb dX0_choose_96 (by decide) ?_
              exact hk55 _ _ _ hf _ _ _ hM (lv_sub hl [1, 2, 0] rfl)
            · intro k93 hk93 hf
              refine lv_if_eq (tgt := 93) hx hb dX0_choose_81 (by decide) (fun c17 => ?_) (fun c17 => ?_)
              · replace hf := it_t c17 hf
                exact hk93 _ hf _ _ _ hM hl
              · replace hf := it_f c17 hf
                refine lv_iload_n hx hb dX0_choose_84 rfl (lv_at hl 1 rfl) ?_
                refine lv_aload_n hx hb dX0_choose_85 rfl (lv_at hl 0 rfl) ?_
                refine g_get hC hM inX0_choose_X0 15 cE15 clX0 4 (by decide) tX0_choose_5 TX0_4 cV15_4 dX0_choose_86 ?_
                refine lv_iload_n hx hb dX0_choose_89 rfl (lv_at hl 2 rfl) ?_
                obtain ⟨h18, hf⟩ := ck_s hf
                refine g_iald hC hM 19 cE19 h18 dX0_choose_90 ?_
                refine lv_isub hx hb dX0_choose_91 ?_
                refine lv_topi (fun v19 ev19 => ?_)
                replace hf := nm_q ev19 hf
                refine lv_istore_n (lv' := [(2, .int v19), (0, .ref (a 15)), (3, .int v8)]) hx hb dX0_choose_92 rfl hl (by decide) rfl (fun ls hl => ?_)
                exact hk93 _ hf _ _ _ hM (lv_sub hl [1, 0, 2] rfl)
        · intro k55 hk55 hf
          exact hk55 _ _ _ hf _ _ _ hM (lv_sub hl [2, 1, 0] rfl)
      · intro k51 hk51 hf
        refine jl_W (fun k35 : Int32 → St → Option (St) => ∀ (v20 : Int32) (S21 : St), k35 v20 S21 = some Sz → ∀ (H : Heap) (locs : List Loc) (ls : Array Slot), gw D A s.heap H locs (ccells cs a q1 q2 S21) → lv_has ls 4 [(0, .ref (a 15)), (1, .int p0), (2, .int v20)] → W p l e rmX0_choose s m args below meth c H locs 0 0 Q (F0 m 35 ls [])) ?_ ?_ ?_ hf
        · intro v20 S21 h; cases h
        · intro k35 hk35 v20 S21 hf H locs ls hM hl
          unfold b_X0_choose_35 at hf
          refine lv_iload_n hx hb dX0_choose_35 rfl (lv_at hl 2 rfl) ?_
          refine lv_if_lt (tgt := 51) hx hb dX0_choose_36 (by decide) (fun c22 => ?_) (fun c22 => ?_)
          · replace hf := it_t c22 hf
            exact hk51 _ hf _ _ _ hM (lv_sub hl [0, 1] rfl)
          · replace hf := it_f c22 hf
            refine lv_aload_n hx hb dX0_choose_39 rfl (lv_at hl 0 rfl) ?_
            refine lv_iload_n hx hb dX0_choose_40 rfl (lv_at hl 2 rfl) ?_
            refine lv_iload_n hx hb dX0_choose_41 rfl (lv_at hl 1 rfl) ?_
            obtain ⟨S23, hc, hf⟩ := bd_s hf
            refine gV_v hC hM hA hl.1 [.int v20, .int p0] [] (c_X0_weigh l D cs a q1 q2 N v20 p0 S21 S23 hc) gX0_choose_X0_weigh rfl hd_X0_weigh ⟨by decide, by decide⟩ 15 0 clX0 rfl cE15 (Nat.le_of_ble_eq_true rfl) dX0_choose_42 rfl ⟨by decide, by decide⟩ (fun H locs hM => ?_)
            obtain ⟨v24, ev24⟩ : ∃ y : Int32, y = v20 + (-1) := ⟨_, rfl⟩
            replace hf := nm_q ev24 hf
            refine lv_iinc (v := v24) (lv' := [(2, .int v24), (0, .ref (a 15)), (1, .int p0)]) hx hb dX0_choose_45 hl (k := 2) rfl (by rw [ev24]; rfl) (by decide) rfl (fun ls hl => ?_)
            refine lv_goto (tgt := 35) hx hb dX0_choose_48 (by decide) ?_
            exact hk35 _ _ hf _ _ _ hM (lv_sub hl [1, 2, 0] rfl)
        · intro k35 hk35 hf
          exact hk35 _ _ hf _ _ _ hM (lv_sub hl [1, 2, 0] rfl)
    · replace hf := it_f c2 hf
      cases so_1 hf
      exact hQ _ _ _ _ _ _ dX0_choose_11 hM (by decide) (by decide)

theorem hd_X9_clear : yX9_clear.cls = RX9 ∧ yX9_clear.cls ≠ "java/lang/invoke/MethodHandle" ∧ yX9_clear.cls ≠ "java/lang/invoke/VarHandle" ∧ (parseMethodDescriptor yX9_clear.desc).map (fun d => d.parameters.length) = some 0 := by decide +kernel
theorem tX9_clear_1 : Cond.fieldLink RX9 24 "WeatherTeller$Text" "size" "I" ∈ wsX9_clear := List.mem_of_getElem? (i := 1) rfl
theorem inX9_clear_X9 : ∀ w ∈ u_ws RX9 TX9 4, w ∈ wsX9_clear := fun _ h => List.mem_cons_of_mem _ (List.mem_append_left _ (List.mem_append_right _ h))
theorem tX9_clear_2 : Cond.fieldLink RX9 28 "WeatherTeller$Text" "weight" "I" ∈ wsX9_clear := List.mem_of_getElem? (i := 2) rfl
theorem tX9_clear_3 : Cond.fieldLink RX9 20 "WeatherTeller$Text" "signs" "LWeatherTeller$Signs;" ∈ wsX9_clear := List.mem_of_getElem? (i := 3) rfl
def f_X9_clear (N : Nat)  (S : St) : Option (St) :=
  nm (puI S 22 2 0) fun S1 =>
  nm (puI S1 22 3 0) fun S2 =>
  bd (f_X6_clear N 24 S2) fun S3 =>
  some S3
abbrev rmX9_clear : Room := { frames := 1, cells := 0, slots := 0, locals := 20 }
set_option maxRecDepth 100000 in
set_option maxHeartbeats 4000000 in
theorem c_X9_clear (l : Launch) (D : va_G) (cs : Nat → ClassId) (a : Nat → Nat) (q1 q2 : Nat) (N : Nat) (S : St) (Sz : St) (hf : f_X9_clear N S = some Sz) : gMv l yX9_clear wsX9_clear rmX9_clear D cs [.ref (a 22)] (ccells cs a q1 q2 S) (ccells cs a q1 q2 Sz) := by
  unfold f_X9_clear at hf
  refine gE_v (cc := cX9_clear) (maxL := 1) (by decide) rfl (Nat.le_of_ble_eq_true rfl) ?_
  intro p e s m args below meth c A Q hC hA hQ hM ls hl
  obtain ⟨hx, hb, hml, hown, hts⟩ := hC.1
  have hl : lv_has ls 1 [(0, .ref (a 22))] := hl
  refine lv_aload_n hx hb dX9_clear_0 rfl (lv_at hl 0 rfl) ?_
  refine lv_iconst (v := 0) hx hb dX9_clear_1 (by decide) ?_
  refine g_put hC hM inX9_clear_X9 tyX9_ok nmX9 22 cE22 clX9 2 (by decide) tX9_clear_1 TX9_2 tyX9_2 rfl rfl (by rw [cL22]; decide) cP22_2 dX9_clear_2 (fun H locs hM => ?_)
  obtain ⟨S1, hf, hM⟩ := cnm hf hM
  refine lv_aload_n hx hb dX9_clear_5 rfl (lv_at hl 0 rfl) ?_
  refine lv_iconst (v := 0) hx hb dX9_clear_6 (by decide) ?_
  refine g_put hC hM inX9_clear_X9 tyX9_ok nmX9 22 cE22 clX9 3 (by decide) tX9_clear_2 TX9_3 tyX9_3 rfl rfl (by rw [cL22]; decide) cP22_3 dX9_clear_7 (fun H locs hM => ?_)
  obtain ⟨S2, hf, hM⟩ := cnm hf hM
  refine lv_aload_n hx hb dX9_clear_10 rfl (lv_at hl 0 rfl) ?_
  refine g_get hC hM inX9_clear_X9 22 cE22 clX9 1 (by decide) tX9_clear_3 TX9_1 cV22_1 dX9_clear_11 ?_
  obtain ⟨S3, hc, hf⟩ := bd_s hf
  refine gV_v hC hM hA hl.1 [] [] (c_X6_clear_24 l D cs a q1 q2 N S2 S3 hc) gX9_clear_X6_clear rfl hd_X6_clear ⟨by decide, by decide⟩ 24 6 clX6 rfl cE24 (Nat.le_of_ble_eq_true rfl) dX9_clear_14 rfl ⟨by decide, by decide⟩ (fun H locs hM => ?_)
  cases so_1 hf
  exact hQ _ _ _ _ _ _ dX9_clear_17 hM (by decide) (by decide)

theorem hd_X9_append : yX9_append.cls = RX9 ∧ yX9_append.cls ≠ "java/lang/invoke/MethodHandle" ∧ yX9_append.cls ≠ "java/lang/invoke/VarHandle" ∧ (parseMethodDescriptor yX9_append.desc).map (fun d => d.parameters.length) = some 2 := by decide +kernel
theorem tX9_append_1 : Cond.fieldLink RX9 24 "WeatherTeller$Text" "size" "I" ∈ wsX9_append := List.mem_of_getElem? (i := 1) rfl
theorem inX9_append_X9 : ∀ w ∈ u_ws RX9 TX9 4, w ∈ wsX9_append := fun _ h => List.mem_cons_of_mem _ (List.mem_append_right _ h)
theorem tX9_append_2 : Cond.fieldLink RX9 9 "WeatherTeller$Text" "numbers" "[I" ∈ wsX9_append := List.mem_of_getElem? (i := 2) rfl
theorem tX9_append_3 : Cond.fieldLink RX9 28 "WeatherTeller$Text" "weight" "I" ∈ wsX9_append := List.mem_of_getElem? (i := 3) rfl
def f_X9_append (N : Nat) (p0 : Int32) (p1 : Int32) (S : St) : Option (St) :=
  if 432 ≤ (S.1 22 2) then
    some S
  else
    ck (S.1 22 2) 432 <|
    nm (puI S 23 (S.1 22 2).toNatClampNeg p0) fun S3 =>
    nm (puI S3 22 3 ((S3.1 22 3) + p1)) fun S4 =>
    nm (puI S4 22 2 ((S4.1 22 2) + 1)) fun S5 =>
    some S5
abbrev rmX9_append : Room := { frames := 0, cells := 0, slots := 0, locals := 0 }
set_option maxRecDepth 100000 in
set_option maxHeartbeats 4000000 in
theorem c_X9_append (l : Launch) (D : va_G) (cs : Nat → ClassId) (a : Nat → Nat) (q1 q2 : Nat) (N : Nat) (p0 : Int32) (p1 : Int32) (S : St) (Sz : St) (hf : f_X9_append N p0 p1 S = some Sz) : gMv l yX9_append wsX9_append rmX9_append D cs [.ref (a 22), .int p0, .int p1] (ccells cs a q1 q2 S) (ccells cs a q1 q2 Sz) := by
  unfold f_X9_append at hf
  refine gE_v (cc := cX9_append) (maxL := 3) (by decide) rfl (Nat.le_of_ble_eq_true rfl) ?_
  intro p e s m args below meth c A Q hC hA hQ hM ls hl
  obtain ⟨hx, hb, hml, hown, hts⟩ := hC.1
  have hl : lv_has ls 3 [(0, .ref (a 22)), (1, .int p0), (2, .int p1)] := hl
  refine lv_aload_n hx hb dX9_append_0 rfl (lv_at hl 0 rfl) ?_
  refine g_get hC hM inX9_append_X9 22 cE22 clX9 2 (by decide) tX9_append_1 TX9_2 cV22_2 dX9_append_1 ?_
  refine lv_sipush (v := 432) hx hb dX9_append_4 (by decide) ?_
  refine lv_icmp_ge (tgt := 40) hx hb dX9_append_7 (by decide) (fun c1 => ?_) (fun c1 => ?_)
  · replace hf := it_t c1 hf
    cases so_1 hf
    exact hQ _ _ _ _ _ _ dX9_append_40 hM (by decide) (by decide)
  · replace hf := it_f c1 hf
    refine lv_aload_n hx hb dX9_append_10 rfl (lv_at hl 0 rfl) ?_
    refine g_get hC hM inX9_append_X9 22 cE22 clX9 0 (by decide) tX9_append_2 TX9_0 cV22_0 dX9_append_11 ?_
    refine lv_aload_n hx hb dX9_append_14 rfl (lv_at hl 0 rfl) ?_
    refine g_get hC hM inX9_append_X9 22 cE22 clX9 2 (by decide) tX9_append_1 TX9_2 cV22_2 dX9_append_15 ?_
    refine lv_iload_n hx hb dX9_append_18 rfl (lv_at hl 1 rfl) ?_
    obtain ⟨h2, hf⟩ := ck_s hf
    refine g_iast hC hM 23 cE23 h2 cA23 dX9_append_19 (fun H locs hM => ?_)
    obtain ⟨S3, hf, hM⟩ := cnm hf hM
    refine lv_aload_n hx hb dX9_append_20 rfl (lv_at hl 0 rfl) ?_
    refine lv_dup hx hb dX9_append_21 rfl ?_
    refine g_get hC hM inX9_append_X9 22 cE22 clX9 3 (by decide) tX9_append_3 TX9_3 cV22_3 dX9_append_22 ?_
    refine lv_iload_n hx hb dX9_append_25 rfl (lv_at hl 2 rfl) ?_
    refine lv_iadd hx hb dX9_append_26 ?_
    refine g_put hC hM inX9_append_X9 tyX9_ok nmX9 22 cE22 clX9 3 (by decide) tX9_append_3 TX9_3 tyX9_3 rfl rfl (by rw [cL22]; decide) cP22_3 dX9_append_27 (fun H locs hM => ?_)
    obtain ⟨S4, hf, hM⟩ := cnm hf hM
    refine lv_aload_n hx hb dX9_append_30 rfl (lv_at hl 0 rfl) ?_
    refine lv_dup hx hb dX9_append_31 rfl ?_
    refine g_get hC hM inX9_append_X9 22 cE22 clX9 2 (by decide) tX9_append_1 TX9_2 cV22_2 dX9_append_32 ?_
    refine lv_iconst (v := 1) hx hb dX9_append_35 (by decide) ?_
    refine lv_iadd hx hb dX9_append_36 ?_
    refine g_put hC hM inX9_append_X9 tyX9_ok nmX9 22 cE22 clX9 2 (by decide) tX9_append_1 TX9_2 tyX9_2 rfl rfl (by rw [cL22]; decide) cP22_2 dX9_append_37 (fun H locs hM => ?_)
    obtain ⟨S5, hf, hM⟩ := cnm hf hM
    cases so_1 hf
    exact hQ _ _ _ _ _ _ dX9_append_40 hM (by decide) (by decide)

theorem hd_X5_fail : yX5_fail.cls = RX5 ∧ yX5_fail.cls ≠ "java/lang/invoke/MethodHandle" ∧ yX5_fail.cls ≠ "java/lang/invoke/VarHandle" ∧ (parseMethodDescriptor yX5_fail.desc).map (fun d => d.parameters.length) = some 2 := by decide +kernel
theorem tX5_fail_1 : Cond.fieldLink RX5 41 "WeatherTeller$RulesReader" "faultKind" "I" ∈ wsX5_fail := List.mem_of_getElem? (i := 1) rfl
theorem inX5_fail_X5 : ∀ w ∈ u_ws RX5 TX5 8, w ∈ wsX5_fail := fun _ h => List.mem_cons_of_mem _ (List.mem_append_right _ h)
theorem tX5_fail_2 : Cond.fieldLink RX5 45 "WeatherTeller$RulesReader" "faultPlace" "I" ∈ wsX5_fail := List.mem_of_getElem? (i := 2) rfl
def f_X5_fail (N : Nat) (p0 : Int32) (p1 : Int32) (S : St) : Option (St) :=
  if (S.1 3 5) = 0 then
    nm (puI S 3 5 p0) fun S2 =>
    nm (puI S2 3 6 p1) fun S3 =>
    some S3
  else
    some S
abbrev rmX5_fail : Room := { frames := 0, cells := 0, slots := 0, locals := 0 }
set_option maxRecDepth 100000 in
set_option maxHeartbeats 4000000 in
theorem c_X5_fail (l : Launch) (D : va_G) (cs : Nat → ClassId) (a : Nat → Nat) (q1 q2 : Nat) (N : Nat) (p0 : Int32) (p1 : Int32) (S : St) (Sz : St) (hf : f_X5_fail N p0 p1 S = some Sz) : gMv l yX5_fail wsX5_fail rmX5_fail D cs [.ref (a 3), .int p0, .int p1] (ccells cs a q1 q2 S) (ccells cs a q1 q2 Sz) := by
  unfold f_X5_fail at hf
  refine gE_v (cc := cX5_fail) (maxL := 3) (by decide) rfl (Nat.le_of_ble_eq_true rfl) ?_
  intro p e s m args below meth c A Q hC hA hQ hM ls hl
  obtain ⟨hx, hb, hml, hown, hts⟩ := hC.1
  have hl : lv_has ls 3 [(0, .ref (a 3)), (1, .int p0), (2, .int p1)] := hl
  refine lv_aload_n hx hb dX5_fail_0 rfl (lv_at hl 0 rfl) ?_
  refine g_get hC hM inX5_fail_X5 3 cE3 clX5 5 (by decide) tX5_fail_1 TX5_5 cV3_5 dX5_fail_1 ?_
  refine lv_if_ne (tgt := 17) hx hb dX5_fail_4 (by decide) (fun c1 => ?_) (fun c1 => ?_)
  · replace hf := it_f c1 hf
    cases so_1 hf
    exact hQ _ _ _ _ _ _ dX5_fail_17 hM (by decide) (by decide)
  · replace hf := it_t c1 hf
    refine lv_aload_n hx hb dX5_fail_7 rfl (lv_at hl 0 rfl) ?_
    refine lv_iload_n hx hb dX5_fail_8 rfl (lv_at hl 1 rfl) ?_
    refine g_put hC hM inX5_fail_X5 tyX5_ok nmX5 3 cE3 clX5 5 (by decide) tX5_fail_1 TX5_5 tyX5_5 rfl rfl (by rw [cL3]; decide) cP3_5 dX5_fail_9 (fun H locs hM => ?_)
    obtain ⟨S2, hf, hM⟩ := cnm hf hM
    refine lv_aload_n hx hb dX5_fail_12 rfl (lv_at hl 0 rfl) ?_
    refine lv_iload_n hx hb dX5_fail_13 rfl (lv_at hl 2 rfl) ?_
    refine g_put hC hM inX5_fail_X5 tyX5_ok nmX5 3 cE3 clX5 6 (by decide) tX5_fail_2 TX5_6 tyX5_6 rfl rfl (by rw [cL3]; decide) cP3_6 dX5_fail_14 (fun H locs hM => ?_)
    obtain ⟨S3, hf, hM⟩ := cnm hf hM
    cases so_1 hf
    exact hQ _ _ _ _ _ _ dX5_fail_17 hM (by decide) (by decide)

theorem hd_X5_readSign : yX5_readSign.cls = RX5 ∧ yX5_readSign.cls ≠ "java/lang/invoke/MethodHandle" ∧ yX5_readSign.cls ≠ "java/lang/invoke/VarHandle" ∧ (parseMethodDescriptor yX5_readSign.desc).map (fun d => d.parameters.length) = some 2 := by decide +kernel
theorem tX5_readSign_1 : Cond.fieldLink RX5 66 "WeatherTeller$Tape" "at" "I" ∈ wsX5_readSign := List.mem_of_getElem? (i := 1) rfl
theorem inX5_readSign_X8 : ∀ w ∈ u_ws RX8 TX8 4, w ∈ wsX5_readSign := fun _ h => List.mem_cons_of_mem _ (List.mem_append_left _ (List.mem_append_right _ h))
def f_X5_readSign (N : Nat) (p1 : Int32) (S : St) : Option (St) :=
  bd (f_X8_skip N 10 S) fun S1 =>
  bd2 (f_X8_take N p1 S1) fun v2 S3 =>
  if v2 = 0 then
    bd (f_X5_fail N 1 (S3.1 1 2) S3) fun S5 =>
    some S5
  else
    some S3
abbrev rmX5_readSign : Room := { frames := 2, cells := 0, slots := 0, locals := 41 }
set_option maxRecDepth 100000 in
set_option maxHeartbeats 4000000 in
theorem c_X5_readSign (l : Launch) (D : va_G) (cs : Nat → ClassId) (a : Nat → Nat) (q1 q2 : Nat) (N : Nat) (p1 : Int32) (S : St) (Sz : St) (hf : f_X5_readSign N p1 S = some Sz) : gMv l yX5_readSign wsX5_readSign rmX5_readSign D cs [.ref (a 3), .ref (a 1), .int p1] (ccells cs a q1 q2 S) (ccells cs a q1 q2 Sz) := by
  unfold f_X5_readSign at hf
  refine gE_v (cc := cX5_readSign) (maxL := 3) (by decide) rfl (Nat.le_of_ble_eq_true rfl) ?_
  intro p e s m args below meth c A Q hC hA hQ hM ls hl
  obtain ⟨hx, hb, hml, hown, hts⟩ := hC.1
  have hl : lv_has ls 3 [(0, .ref (a 3)), (1, .ref (a 1)), (2, .int p1)] := hl
  refine lv_aload_n hx hb dX5_readSign_0 rfl (lv_at hl 1 rfl) ?_
  refine lv_bipush (v := 10) hx hb dX5_readSign_1 (by decide) ?_
  obtain ⟨S1, hc, hf⟩ := bd_s hf
  refine gV_v hC hM hA hl.1 [.int 10] [] (c_X8_skip l D cs a q1 q2 N 10 S S1 hc) gX5_readSign_X8_skip rfl hd_X8_skip ⟨by decide, by decide⟩ 1 8 clX8 rfl cE1 (Nat.le_of_ble_eq_true rfl) dX5_readSign_3 rfl ⟨by decide, by decide⟩ (fun H locs hM => ?_)
  refine lv_aload_n hx hb dX5_readSign_6 rfl (lv_at hl 1 rfl) ?_
  refine lv_iload_n hx hb dX5_readSign_7 rfl (lv_at hl 2 rfl) ?_
  obtain ⟨v2, S3, hc, hf⟩ := bd2_s hf
  refine gV_i hC hM hA hl.1 [.int p1] [] (c_X8_take l D cs a q1 q2 N p1 S1 v2 S3 hc) gX5_readSign_X8_take rfl hd_X8_take ⟨by decide, by decide⟩ 1 8 clX8 rfl cE1 (Nat.le_of_ble_eq_true rfl) dX5_readSign_8 rfl ⟨by decide, by decide⟩ (fun H locs hM => ?_)
  refine lv_if_ne (tgt := 23) hx hb dX5_readSign_11 (by decide) (fun c4 => ?_) (fun c4 => ?_)
  · replace hf := it_f c4 hf
    cases so_1 hf
    exact hQ _ _ _ _ _ _ dX5_readSign_23 hM (by decide) (by decide)
  · replace hf := it_t c4 hf
    refine lv_aload_n hx hb dX5_readSign_14 rfl (lv_at hl 0 rfl) ?_
    refine lv_iconst (v := 1) hx hb dX5_readSign_15 (by decide) ?_
    refine lv_aload_n hx hb dX5_readSign_16 rfl (lv_at hl 1 rfl) ?_
    refine g_get hC hM inX5_readSign_X8 1 cE1 clX8 2 (by decide) tX5_readSign_1 TX8_2 cV1_2 dX5_readSign_17 ?_
    obtain ⟨S5, hc, hf⟩ := bd_s hf
    refine gV_v hC hM hA hl.1 [.int 1, .int (S3.1 1 2)] [] (c_X5_fail l D cs a q1 q2 N 1 (S3.1 1 2) S3 S5 hc) gX5_readSign_X5_fail rfl hd_X5_fail ⟨by decide, by decide⟩ 3 5 clX5 rfl cE3 (Nat.le_of_ble_eq_true rfl) dX5_readSign_20 rfl ⟨by decide, by decide⟩ (fun H locs hM => ?_)
    cases so_1 hf
    exact hQ _ _ _ _ _ _ dX5_readSign_23 hM (by decide) (by decide)

theorem hd_X5_readNumber : yX5_readNumber.cls = RX5 ∧ yX5_readNumber.cls ≠ "java/lang/invoke/MethodHandle" ∧ yX5_readNumber.cls ≠ "java/lang/invoke/VarHandle" ∧ (parseMethodDescriptor yX5_readNumber.desc).map (fun d => d.parameters.length) = some 3 := by decide +kernel
theorem tX5_readNumber_1 : Cond.fieldLink RX5 66 "WeatherTeller$Tape" "at" "I" ∈ wsX5_readNumber := List.mem_of_getElem? (i := 1) rfl
theorem inX5_readNumber_X8 : ∀ w ∈ u_ws RX8 TX8 4, w ∈ wsX5_readNumber := fun _ h => List.mem_cons_of_mem _ (List.mem_append_left _ (List.mem_append_right _ h))
theorem tX5_readNumber_30 : Cond.static yX10_isWithin ∈ wsX5_readNumber := List.mem_of_getElem? (i := 30) rfl
theorem tX5_readNumber_31 : Cond.initialized RX10 ∈ wsX5_readNumber := List.mem_of_getElem? (i := 31) rfl
def j_X5_readNumber_39 (N : Nat) (p1 : Int32) (p2 : Int32) (v2 : Int32) (v5 : Int32) (S6 : St) (v7 : Int32) : Option (Int32 × St) :=
  if v5 = (-1) then
    bd (f_X5_fail N 1 v2 S6) fun S12 =>
    some (v7, S12)
  else
    bd (f_X10_isWithin N v7 p1 p2) fun v9 =>
    if v9 = 0 then
      bd (f_X5_fail N 2 v2 S6) fun S11 =>
      some (v7, S11)
    else
      some (v7, S6)
def f_X5_readNumber (N : Nat) (p1 : Int32) (p2 : Int32) (S : St) : Option (Int32 × St) :=
  bd (f_X8_skip N 10 S) fun S1 =>
  nm (S1.1 1 2) fun v2 =>
  bd2 (f_X8_take N 45 S1) fun v3 S4 =>
  bd2 (f_X8_takeDigits N S4) fun v5 S6 =>
  jp (j_X5_readNumber_39 N p1 p2 v2 v5 S6) fun k39 =>
  if v3 = 0 then
    k39 v5
  else
    k39 (-v5)
abbrev rmX5_readNumber : Room := { frames := 2, cells := 0, slots := 0, locals := 43 }
set_option maxRecDepth 100000 in
set_option maxHeartbeats 4000000 in
theorem c_X5_readNumber (l : Launch) (D : va_G) (cs : Nat → ClassId) (a : Nat → Nat) (q1 q2 : Nat) (N : Nat) (p1 : Int32) (p2 : Int32) (S : St) (rz : Int32) (Sz : St) (hf : f_X5_readNumber N p1 p2 S = some (rz, Sz)) : gMi l yX5_readNumber wsX5_readNumber rmX5_readNumber D cs [.ref (a 3), .ref (a 1), .int p1, .int p2] (ccells cs a q1 q2 S) rz (ccells cs a q1 q2 Sz) := by
  unfold f_X5_readNumber at hf
  refine gE_i (cc := cX5_readNumber) (maxL := 8) (by decide) rfl (Nat.le_of_ble_eq_true rfl) ?_
  intro p e s m args below meth c A Q hC hA hQ hM ls hl
  obtain ⟨hx, hb, hml, hown, hts⟩ := hC.1
  have hl : lv_has ls 8 [(0, .ref (a 3)), (1, .ref (a 1)), (2, .int p1), (3, .int p2)] := hl
  refine lv_aload_n hx hb dX5_readNumber_0 rfl (lv_at hl 1 rfl) ?_
  refine lv_bipush (v := 10) hx hb dX5_readNumber_1 (by decide) ?_
  obtain ⟨S1, hc, hf⟩ := bd_s hf
  refine gV_v hC hM hA hl.1 [.int 10] [] (c_X8_skip l D cs a q1 q2 N 10 S S1 hc) gX5_readNumber_X8_skip rfl hd_X8_skip ⟨by decide, by decide⟩ 1 8 clX8 rfl cE1 (Nat.le_of_ble_eq_true rfl) dX5_readNumber_3 rfl ⟨by decide, by decide⟩ (fun H locs hM => ?_)
  refine lv_aload_n hx hb dX5_readNumber_6 rfl (lv_at hl 1 rfl) ?_
  refine g_get hC hM inX5_readNumber_X8 1 cE1 clX8 2 (by decide) tX5_readNumber_1 TX8_2 cV1_2 dX5_readNumber_7 ?_
  refine lv_topi (fun v2 ev2 => ?_)
  replace hf := nm_q ev2 hf
  refine lv_istore (lv' := [(4, .int v2), (0, .ref (a 3)), (1, .ref (a 1)), (2, .int p1), (3, .int p2)]) hx hb dX5_readNumber_10 hl (by decide) rfl (fun ls hl => ?_)
  refine lv_aload_n hx hb dX5_readNumber_12 rfl (lv_at hl 2 rfl) ?_
  refine lv_bipush (v := 45) hx hb dX5_readNumber_13 (by decide) ?_
  obtain ⟨v3, S4, hc, hf⟩ := bd2_s hf
  refine gV_i hC hM hA hl.1 [.int 45] [] (c_X8_take l D cs a q1 q2 N 45 S1 v3 S4 hc) gX5_readNumber_X8_take rfl hd_X8_take ⟨by decide, by decide⟩ 1 8 clX8 rfl cE1 (Nat.le_of_ble_eq_true rfl) dX5_readNumber_15 rfl ⟨by decide, by decide⟩ (fun H locs hM => ?_)
  refine lv_istore (lv' := [(5, .int v3), (4, .int v2), (0, .ref (a 3)), (1, .ref (a 1)), (2, .int p1), (3, .int p2)]) hx hb dX5_readNumber_18 hl (by decide) rfl (fun ls hl => ?_)
  refine lv_aload_n hx hb dX5_readNumber_20 rfl (lv_at hl 3 rfl) ?_
  obtain ⟨v5, S6, hc, hf⟩ := bd2_s hf
  refine gV_i hC hM hA hl.1 [] [] (c_X8_takeDigits l D cs a q1 q2 N S4 v5 S6 hc) gX5_readNumber_X8_takeDigits rfl hd_X8_takeDigits ⟨by decide, by decide⟩ 1 8 clX8 rfl cE1 (Nat.le_of_ble_eq_true rfl) dX5_readNumber_21 rfl ⟨by decide, by decide⟩ (fun H locs hM => ?_)
  refine lv_istore (lv' := [(6, .int v5), (5, .int v3), (4, .int v2), (0, .ref (a 3)), (1, .ref (a 1)), (2, .int p1), (3, .int p2)]) hx hb dX5_readNumber_24 hl (by decide) rfl (fun ls hl => ?_)
  refine lv_iload hx hb dX5_readNumber_26 (lv_at hl 1 rfl) ?_
  refine jp_W (fun k39 : Int32 → Option (Int32 × St) => ∀ (v7 : Int32), k39 v7 = some (rz, Sz) → ∀ (H : Heap) (locs : List Loc) (ls : Array Slot), gw D A s.heap H locs (ccells cs a q1 q2 S6) → lv_has ls 8 [(0, .ref (a 3)), (2, .int p1), (3, .int p2), (4, .int v2), (6, .int v5)] → W p l e rmX5_readNumber s m args below meth c H locs 0 0 Q (F0 m 39 ls [.int v7])) ?_ ?_ hf
  · intro v7 hf H locs ls hM hl
    unfold j_X5_readNumber_39 at hf
    refine lv_istore (lv' := [(7, .int v7), (0, .ref (a 3)), (2, .int p1), (3, .int p2), (4, .int v2), (6, .int v5)]) hx hb dX5_readNumber_39 hl (by decide) rfl (fun ls hl => ?_)
    refine lv_iload hx hb dX5_readNumber_41 (lv_at hl 5 rfl) ?_
    refine lv_iconst (v := (-1)) hx hb dX5_readNumber_43 (by decide) ?_
    refine lv_icmp_ne (tgt := 57) hx hb dX5_readNumber_44 (by decide) (fun c8 => ?_) (fun c8 => ?_)
    · replace hf := it_f c8 hf
      refine lv_iload hx hb dX5_readNumber_57 (lv_at hl 0 rfl) ?_
      refine lv_iload_n hx hb dX5_readNumber_59 rfl (lv_at hl 2 rfl) ?_
      refine lv_iload_n hx hb dX5_readNumber_60 rfl (lv_at hl 3 rfl) ?_
      obtain ⟨v9, hc, hf⟩ := bd_s hf
      refine gN_i (host := "WeatherTeller") hC hM hA hl.1 [.int v7, .int p1, .int p2] [] (c_X10_isWithin l D cs (ccells cs a q1 q2 S6) N v7 p1 p2 v9 hc) ggX5_readNumber_X10_isWithin tX5_readNumber_30 tX5_readNumber_31 (by decide) rfl hd_X10_isWithin ⟨by decide, by decide⟩ (Nat.le_of_ble_eq_true rfl) dX5_readNumber_61 rfl ⟨by decide, by decide⟩ (fun H locs hM => ?_)
      refine lv_if_ne (tgt := 74) hx hb dX5_readNumber_64 (by decide) (fun c10 => ?_) (fun c10 => ?_)
      · replace hf := it_f c10 hf
        refine lv_iload hx hb dX5_readNumber_74 (lv_at hl 0 rfl) ?_
        obtain ⟨e1, e2⟩ := so_2 hf
        cases e1; cases e2
        exact hQ _ _ _ _ _ _ dX5_readNumber_76 hM (by decide) (by decide)
      · replace hf := it_t c10 hf
        refine lv_aload_n hx hb dX5_readNumber_67 rfl (lv_at hl 1 rfl) ?_
        refine lv_iconst (v := 2) hx hb dX5_readNumber_68 (by decide) ?_
        refine lv_iload hx hb dX5_readNumber_69 (lv_at hl 4 rfl) ?_
        obtain ⟨S11, hc, hf⟩ := bd_s hf
        refine gV_v hC hM hA hl.1 [.int 2, .int v2] [] (c_X5_fail l D cs a q1 q2 N 2 v2 S6 S11 hc) gX5_readNumber_X5_fail rfl hd_X5_fail ⟨by decide, by decide⟩ 3 5 clX5 rfl cE3 (Nat.le_of_ble_eq_true rfl) dX5_readNumber_71 rfl ⟨by decide, by decide⟩ (fun H locs hM => ?_)
        refine lv_iload hx hb dX5_readNumber_74 (lv_at hl 0 rfl) ?_
        obtain ⟨e1, e2⟩ := so_2 hf
        cases e1; cases e2
        exact hQ _ _ _ _ _ _ dX5_readNumber_76 hM (by decide) (by decide)
    · replace hf := it_t c8 hf
      refine lv_aload_n hx hb dX5_readNumber_47 rfl (lv_at hl 1 rfl) ?_
      refine lv_iconst (v := 1) hx hb dX5_readNumber_48 (by decide) ?_
      refine lv_iload hx hb dX5_readNumber_49 (lv_at hl 4 rfl) ?_
      obtain ⟨S12, hc, hf⟩ := bd_s hf
      refine gV_v hC hM hA hl.1 [.int 1, .int v2] [] (c_X5_fail l D cs a q1 q2 N 1 v2 S6 S12 hc) gX5_readNumber_X5_fail rfl hd_X5_fail ⟨by decide, by decide⟩ 3 5 clX5 rfl cE3 (Nat.le_of_ble_eq_true rfl) dX5_readNumber_51 rfl ⟨by decide, by decide⟩ (fun H locs hM => ?_)
      refine lv_goto (tgt := 74) hx hb dX5_readNumber_54 (by decide) ?_
      refine lv_iload hx hb dX5_readNumber_74 (lv_at hl 0 rfl) ?_
      obtain ⟨e1, e2⟩ := so_2 hf
      cases e1; cases e2
      exact hQ _ _ _ _ _ _ dX5_readNumber_76 hM (by decide) (by decide)
  · intro k39 hk39 hf
    refine lv_if_eq (tgt := 37) hx hb dX5_readNumber_28 (by decide) (fun c13 => ?_) (fun c13 => ?_)
    · replace hf := it_t c13 hf
      refine lv_iload hx hb dX5_readNumber_37 (lv_at hl 0 rfl) ?_
      exact hk39 _ hf _ _ _ hM (lv_sub hl [3, 5, 6, 2, 0] rfl)
    · replace hf := it_f c13 hf
      refine lv_iload hx hb dX5_readNumber_31 (lv_at hl 0 rfl) ?_
      refine lv_ineg hx hb dX5_readNumber_33 ?_
      refine lv_goto (tgt := 39) hx hb dX5_readNumber_34 (by decide) ?_
      exact hk39 _ hf _ _ _ hM (lv_sub hl [3, 5, 6, 2, 0] rfl)

theorem hd_X5_readWarn : yX5_readWarn.cls = RX5 ∧ yX5_readWarn.cls ≠ "java/lang/invoke/MethodHandle" ∧ yX5_readWarn.cls ≠ "java/lang/invoke/VarHandle" ∧ (parseMethodDescriptor yX5_readWarn.desc).map (fun d => d.parameters.length) = some 1 := by decide +kernel
theorem tX5_readWarn_16 : Cond.static yX10_isWithin ∈ wsX5_readWarn := List.mem_of_getElem? (i := 16) rfl
theorem tX5_readWarn_17 : Cond.initialized RX10 ∈ wsX5_readWarn := List.mem_of_getElem? (i := 17) rfl
theorem tX5_readWarn_1 : Cond.fieldLink RX5 66 "WeatherTeller$Tape" "at" "I" ∈ wsX5_readWarn := List.mem_of_getElem? (i := 1) rfl
theorem inX5_readWarn_X8 : ∀ w ∈ u_ws RX8 TX8 4, w ∈ wsX5_readWarn := fun _ h => List.mem_cons_of_mem _ (List.mem_append_left _ (List.mem_append_right _ h))
theorem tX5_readWarn_2 : Cond.fieldLink RX5 33 "WeatherTeller$RulesReader" "warnWord" "J" ∈ wsX5_readWarn := List.mem_of_getElem? (i := 2) rfl
theorem inX5_readWarn_X5 : ∀ w ∈ u_ws RX5 TX5 8, w ∈ wsX5_readWarn := fun _ h => List.mem_cons_of_mem _ (List.mem_append_right _ h)
def f_X5_readWarn (N : Nat)  (S : St) : Option (Int32 × St) :=
  zb <|
  bd (f_X8_skip N 10 S) fun S1 =>
  bd (f_X8_look N S1) fun v2 =>
  bd (f_X10_isWithin N v2 97 122) fun v3 =>
  if v3 = 0 then
    some (0, S1)
  else
    nm (S1.1 1 2) fun v5 =>
    bd2 (f_X8_takeWord N S1) fun w6 S7 =>
    if (lg_cmp w6 (S7.2 3 3)) = 0 then
      some (1, S7)
    else
      bd (f_X5_fail N 1 v5 S7) fun S9 =>
      some (1, S9)
abbrev rmX5_readWarn : Room := { frames := 2, cells := 0, slots := 0, locals := 45 }
set_option maxRecDepth 100000 in
set_option maxHeartbeats 4000000 in
theorem c_X5_readWarn (l : Launch) (D : va_G) (cs : Nat → ClassId) (a : Nat → Nat) (q1 q2 : Nat) (N : Nat) (S : St) (rz : Int32) (Sz : St) (hf : f_X5_readWarn N S = some (rz, Sz)) : gMi l yX5_readWarn wsX5_readWarn rmX5_readWarn D cs [.ref (a 3), .ref (a 1)] (ccells cs a q1 q2 S) rz (ccells cs a q1 q2 Sz) := by
  unfold f_X5_readWarn at hf
  obtain ⟨hrz, hf⟩ := zb_s hf
  refine gE_z (cc := cX5_readWarn) (maxL := 3) hrz (by decide) rfl (Nat.le_of_ble_eq_true rfl) ?_
  intro p e s m args below meth c A Q hC hA hQ hM ls hl
  obtain ⟨hx, hb, hml, hown, hts⟩ := hC.1
  have hl : lv_has ls 3 [(0, .ref (a 3)), (1, .ref (a 1))] := hl
  refine lv_aload_n hx hb dX5_readWarn_0 rfl (lv_at hl 1 rfl) ?_
  refine lv_bipush (v := 10) hx hb dX5_readWarn_1 (by decide) ?_
  obtain ⟨S1, hc, hf⟩ := bd_s hf
  refine gV_v hC hM hA hl.1 [.int 10] [] (c_X8_skip l D cs a q1 q2 N 10 S S1 hc) gX5_readWarn_X8_skip rfl hd_X8_skip ⟨by decide, by decide⟩ 1 8 clX8 rfl cE1 (Nat.le_of_ble_eq_true rfl) dX5_readWarn_3 rfl ⟨by decide, by decide⟩ (fun H locs hM => ?_)
  refine lv_aload_n hx hb dX5_readWarn_6 rfl (lv_at hl 1 rfl) ?_
  obtain ⟨v2, hc, hf⟩ := bd_s hf
  refine gV_i hC hM hA hl.1 [] [] (c_X8_look l D cs a q1 q2 N S1 v2 hc) gX5_readWarn_X8_look rfl hd_X8_look ⟨by decide, by decide⟩ 1 8 clX8 rfl cE1 (Nat.le_of_ble_eq_true rfl) dX5_readWarn_7 rfl ⟨by decide, by decide⟩ (fun H locs hM => ?_)
  refine lv_bipush (v := 97) hx hb dX5_readWarn_10 (by decide) ?_
  refine lv_bipush (v := 122) hx hb dX5_readWarn_12 (by decide) ?_
  obtain ⟨v3, hc, hf⟩ := bd_s hf
  refine gN_i (host := "WeatherTeller") hC hM hA hl.1 [.int v2, .int 97, .int 122] [] (c_X10_isWithin l D cs (ccells cs a q1 q2 S1) N v2 97 122 v3 hc) ggX5_readWarn_X10_isWithin tX5_readWarn_16 tX5_readWarn_17 (by decide) rfl hd_X10_isWithin ⟨by decide, by decide⟩ (Nat.le_of_ble_eq_true rfl) dX5_readWarn_14 rfl ⟨by decide, by decide⟩ (fun H locs hM => ?_)
  refine lv_if_ne (tgt := 22) hx hb dX5_readWarn_17 (by decide) (fun c4 => ?_) (fun c4 => ?_)
  · replace hf := it_f c4 hf
    refine lv_aload_n hx hb dX5_readWarn_22 rfl (lv_at hl 1 rfl) ?_
    refine g_get hC hM inX5_readWarn_X8 1 cE1 clX8 2 (by decide) tX5_readWarn_1 TX8_2 cV1_2 dX5_readWarn_23 ?_
    refine lv_topi (fun v5 ev5 => ?_)
    replace hf := nm_q ev5 hf
    refine lv_istore_n (lv' := [(2, .int v5), (0, .ref (a 3)), (1, .ref (a 1))]) hx hb dX5_readWarn_26 rfl hl (by decide) rfl (fun ls hl => ?_)
    refine lv_aload_n hx hb dX5_readWarn_27 rfl (lv_at hl 2 rfl) ?_
    obtain ⟨w6, S7, hc, hf⟩ := bd2_s hf
    refine gV_l hC hM hA hl.1 [] [] (c_X8_takeWord l D cs a q1 q2 N S1 w6 S7 hc) gX5_readWarn_X8_takeWord rfl hd_X8_takeWord ⟨by decide, by decide⟩ 1 8 clX8 rfl cE1 (Nat.le_of_ble_eq_true rfl) dX5_readWarn_28 rfl ⟨by decide, by decide⟩ (fun H locs hM => ?_)
    refine lv_aload_n hx hb dX5_readWarn_31 rfl (lv_at hl 1 rfl) ?_
    refine g_get hC hM inX5_readWarn_X5 3 cE3 clX5 3 (by decide) tX5_readWarn_2 TX5_3 cV3_3 dX5_readWarn_32 ?_
    refine W.lcmp hx hb dX5_readWarn_35 ?_
    refine lv_if_eq (tgt := 45) hx hb dX5_readWarn_36 (by decide) (fun c8 => ?_) (fun c8 => ?_)
    · replace hf := it_t c8 hf
      refine lv_iconst (v := 1) hx hb dX5_readWarn_45 (by decide) ?_
      obtain ⟨e1, e2⟩ := so_2 hf
      cases e1; cases e2
      exact hQ _ _ _ _ _ _ dX5_readWarn_46 hM (by decide) (by decide)
    · replace hf := it_f c8 hf
      refine lv_aload_n hx hb dX5_readWarn_39 rfl (lv_at hl 1 rfl) ?_
      refine lv_iconst (v := 1) hx hb dX5_readWarn_40 (by decide) ?_
      refine lv_iload_n hx hb dX5_readWarn_41 rfl (lv_at hl 0 rfl) ?_
      obtain ⟨S9, hc, hf⟩ := bd_s hf
      refine gV_v hC hM hA hl.1 [.int 1, .int v5] [] (c_X5_fail l D cs a q1 q2 N 1 v5 S7 S9 hc) gX5_readWarn_X5_fail rfl hd_X5_fail ⟨by decide, by decide⟩ 3 5 clX5 rfl cE3 (Nat.le_of_ble_eq_true rfl) dX5_readWarn_42 rfl ⟨by decide, by decide⟩ (fun H locs hM => ?_)
      refine lv_iconst (v := 1) hx hb dX5_readWarn_45 (by decide) ?_
      obtain ⟨e1, e2⟩ := so_2 hf
      cases e1; cases e2
      exact hQ _ _ _ _ _ _ dX5_readWarn_46 hM (by decide) (by decide)
  · replace hf := it_t c4 hf
    refine lv_iconst (v := 0) hx hb dX5_readWarn_20 (by decide) ?_
    obtain ⟨e1, e2⟩ := so_2 hf
    cases e1; cases e2
    exact hQ _ _ _ _ _ _ dX5_readWarn_21 hM (by decide) (by decide)

theorem hd_X5_readFreeWord : yX5_readFreeWord.cls = RX5 ∧ yX5_readFreeWord.cls ≠ "java/lang/invoke/MethodHandle" ∧ yX5_readFreeWord.cls ≠ "java/lang/invoke/VarHandle" ∧ (parseMethodDescriptor yX5_readFreeWord.desc).map (fun d => d.parameters.length) = some 1 := by decide +kernel
theorem tX5_readFreeWord_1 : Cond.fieldLink RX5 66 "WeatherTeller$Tape" "at" "I" ∈ wsX5_readFreeWord := List.mem_of_getElem? (i := 1) rfl
theorem inX5_readFreeWord_X8 : ∀ w ∈ u_ws RX8 TX8 4, w ∈ wsX5_readFreeWord := fun _ h => List.mem_cons_of_mem _ (List.mem_append_left _ (List.mem_append_right _ h))
theorem tX5_readFreeWord_2 : Cond.fieldLink RX5 48 "WeatherTeller$RulesReader" "wordPlace" "I" ∈ wsX5_readFreeWord := List.mem_of_getElem? (i := 2) rfl
theorem inX5_readFreeWord_X5 : ∀ w ∈ u_ws RX5 TX5 8, w ∈ wsX5_readFreeWord := fun _ h => List.mem_cons_of_mem _ (List.mem_append_right _ h)
theorem tX5_readFreeWord_3 : Cond.fieldLink RX5 15 "WeatherTeller$RulesReader" "placeWord" "J" ∈ wsX5_readFreeWord := List.mem_of_getElem? (i := 3) rfl
theorem tX5_readFreeWord_4 : Cond.fieldLink RX5 23 "WeatherTeller$RulesReader" "regionWord" "J" ∈ wsX5_readFreeWord := List.mem_of_getElem? (i := 4) rfl
theorem tX5_readFreeWord_5 : Cond.fieldLink RX5 28 "WeatherTeller$RulesReader" "bandWord" "J" ∈ wsX5_readFreeWord := List.mem_of_getElem? (i := 5) rfl
theorem tX5_readFreeWord_6 : Cond.fieldLink RX5 33 "WeatherTeller$RulesReader" "warnWord" "J" ∈ wsX5_readFreeWord := List.mem_of_getElem? (i := 6) rfl
theorem tX5_readFreeWord_7 : Cond.fieldLink RX5 38 "WeatherTeller$RulesReader" "butWord" "J" ∈ wsX5_readFreeWord := List.mem_of_getElem? (i := 7) rfl
def j_X5_readFreeWord_70 (N : Nat) (w3 : Int64) (S4 : St)  : Option (Int64 × St) :=
  bd (f_X5_fail N 1 (S4.1 3 7) S4) fun S5 =>
  some (w3, S5)
def f_X5_readFreeWord (N : Nat)  (S : St) : Option (Int64 × St) :=
  bd (f_X8_skip N 10 S) fun S1 =>
  nm (puI S1 3 7 (S1.1 1 2)) fun S2 =>
  bd2 (f_X8_takeWord N S2) fun w3 S4 =>
  jp (j_X5_readFreeWord_70 N w3 S4) fun k70 =>
  if (lg_cmp w3 0) = 0 then
    k70
  else
    if (lg_cmp w3 (S4.2 3 0)) = 0 then
      k70
    else
      if (lg_cmp w3 (S4.2 3 1)) = 0 then
        k70
      else
        if (lg_cmp w3 (S4.2 3 2)) = 0 then
          k70
        else
          if (lg_cmp w3 (S4.2 3 3)) = 0 then
            k70
          else
            if (lg_cmp w3 (S4.2 3 4)) = 0 then
              k70
            else
              some (w3, S4)
abbrev rmX5_readFreeWord : Room := { frames := 2, cells := 0, slots := 0, locals := 45 }
set_option maxRecDepth 100000 in
set_option maxHeartbeats 4000000 in
theorem c_X5_readFreeWord (l : Launch) (D : va_G) (cs : Nat → ClassId) (a : Nat → Nat) (q1 q2 : Nat) (N : Nat) (S : St) (rz : Int64) (Sz : St) (hf : f_X5_readFreeWord N S = some (rz, Sz)) : gMl l yX5_readFreeWord wsX5_readFreeWord rmX5_readFreeWord D cs [.ref (a 3), .ref (a 1)] (ccells cs a q1 q2 S) rz (ccells cs a q1 q2 Sz) := by
  unfold f_X5_readFreeWord at hf
  refine gE_l (cc := cX5_readFreeWord) (maxL := 4) (by decide) rfl (Nat.le_of_ble_eq_true rfl) ?_
  intro p e s m args below meth c A Q hC hA hQ hM ls hl
  obtain ⟨hx, hb, hml, hown, hts⟩ := hC.1
  have hl : lv_has ls 4 [(0, .ref (a 3)), (1, .ref (a 1))] := hl
  refine lv_aload_n hx hb dX5_readFreeWord_0 rfl (lv_at hl 1 rfl) ?_
  refine lv_bipush (v := 10) hx hb dX5_readFreeWord_1 (by decide) ?_
  obtain ⟨S1, hc, hf⟩ := bd_s hf
  refine gV_v hC hM hA hl.1 [.int 10] [] (c_X8_skip l D cs a q1 q2 N 10 S S1 hc) gX5_readFreeWord_X8_skip rfl hd_X8_skip ⟨by decide, by decide⟩ 1 8 clX8 rfl cE1 (Nat.le_of_ble_eq_true rfl) dX5_readFreeWord_3 rfl ⟨by decide, by decide⟩ (fun H locs hM => ?_)
  refine lv_aload_n hx hb dX5_readFreeWord_6 rfl (lv_at hl 0 rfl) ?_
  refine lv_aload_n hx hb dX5_readFreeWord_7 rfl (lv_at hl 1 rfl) ?_
  refine g_get hC hM inX5_readFreeWord_X8 1 cE1 clX8 2 (by decide) tX5_readFreeWord_1 TX8_2 cV1_2 dX5_readFreeWord_8 ?_
  refine g_put hC hM inX5_readFreeWord_X5 tyX5_ok nmX5 3 cE3 clX5 7 (by decide) tX5_readFreeWord_2 TX5_7 tyX5_7 rfl rfl (by rw [cL3]; decide) cP3_7 dX5_readFreeWord_11 (fun H locs hM => ?_)
  obtain ⟨S2, hf, hM⟩ := cnm hf hM
  refine lv_aload_n hx hb dX5_readFreeWord_14 rfl (lv_at hl 1 rfl) ?_
  obtain ⟨w3, S4, hc, hf⟩ := bd2_s hf
  refine gV_l hC hM hA hl.1 [] [] (c_X8_takeWord l D cs a q1 q2 N S2 w3 S4 hc) gX5_readFreeWord_X8_takeWord rfl hd_X8_takeWord ⟨by decide, by decide⟩ 1 8 clX8 rfl cE1 (Nat.le_of_ble_eq_true rfl) dX5_readFreeWord_15 rfl ⟨by decide, by decide⟩ (fun H locs hM => ?_)
  refine lv_lstore_n (lv' := [(2, .long w3), (0, .ref (a 3)), (1, .ref (a 1))]) hx hb dX5_readFreeWord_18 rfl hl (by decide) rfl (fun ls hl => ?_)
  refine lv_lload_n hx hb dX5_readFreeWord_19 rfl (lv_at hl 0 rfl) ?_
  refine lv_lconst (v := 0) hx hb dX5_readFreeWord_20 (by decide) ?_
  refine W.lcmp hx hb dX5_readFreeWord_21 ?_
  refine jp_W (fun k70 : Option (Int64 × St) => k70 = some (rz, Sz) → ∀ (H : Heap) (locs : List Loc) (ls : Array Slot), gw D A s.heap H locs (ccells cs a q1 q2 S4) → lv_has ls 4 [(0, .ref (a 3)), (2, .long w3)] → W p l e rmX5_readFreeWord s m args below meth c H locs 0 0 Q (F0 m 70 ls [])) ?_ ?_ hf
  · intro  hf H locs ls hM hl
    unfold j_X5_readFreeWord_70 at hf
    refine lv_aload_n hx hb dX5_readFreeWord_70 rfl (lv_at hl 0 rfl) ?_
    refine lv_iconst (v := 1) hx hb dX5_readFreeWord_71 (by decide) ?_
    refine lv_aload_n hx hb dX5_readFreeWord_72 rfl (lv_at hl 0 rfl) ?_
    refine g_get hC hM inX5_readFreeWord_X5 3 cE3 clX5 7 (by decide) tX5_readFreeWord_2 TX5_7 cV3_7 dX5_readFreeWord_73 ?_
    obtain ⟨S5, hc, hf⟩ := bd_s hf
    refine gV_v hC hM hA hl.1 [.int 1, .int (S4.1 3 7)] [] (c_X5_fail l D cs a q1 q2 N 1 (S4.1 3 7) S4 S5 hc) gX5_readFreeWord_X5_fail rfl hd_X5_fail ⟨by decide, by decide⟩ 3 5 clX5 rfl cE3 (Nat.le_of_ble_eq_true rfl) dX5_readFreeWord_76 rfl ⟨by decide, by decide⟩ (fun H locs hM => ?_)
    refine lv_lload_n hx hb dX5_readFreeWord_79 rfl (lv_at hl 1 rfl) ?_
    obtain ⟨e1, e2⟩ := so_2 hf
    cases e1; cases e2
    exact hQ _ _ _ _ _ _ dX5_readFreeWord_80 hM (by decide) (by decide)
  · intro k70 hk70 hf
    refine lv_if_eq (tgt := 70) hx hb dX5_readFreeWord_22 (by decide) (fun c6 => ?_) (fun c6 => ?_)
    · replace hf := it_t c6 hf
      exact hk70 hf _ _ _ hM (lv_sub hl [1, 0] rfl)
    · replace hf := it_f c6 hf
      refine lv_lload_n hx hb dX5_readFreeWord_25 rfl (lv_at hl 0 rfl) ?_
      refine lv_aload_n hx hb dX5_readFreeWord_26 rfl (lv_at hl 1 rfl) ?_
      refine g_get hC hM inX5_readFreeWord_X5 3 cE3 clX5 0 (by decide) tX5_readFreeWord_3 TX5_0 cV3_0 dX5_readFreeWord_27 ?_
      refine W.lcmp hx hb dX5_readFreeWord_30 ?_
      refine lv_if_eq (tgt := 70) hx hb dX5_readFreeWord_31 (by decide) (fun c7 => ?_) (fun c7 => ?_)
      · replace hf := it_t c7 hf
        exact hk70 hf _ _ _ hM (lv_sub hl [1, 0] rfl)
      · replace hf := it_f c7 hf
        refine lv_lload_n hx hb dX5_readFreeWord_34 rfl (lv_at hl 0 rfl) ?_
        refine lv_aload_n hx hb dX5_readFreeWord_35 rfl (lv_at hl 1 rfl) ?_
        refine g_get hC hM inX5_readFreeWord_X5 3 cE3 clX5 1 (by decide) tX5_readFreeWord_4 TX5_1 cV3_1 dX5_readFreeWord_36 ?_
        refine W.lcmp hx hb dX5_readFreeWord_39 ?_
        refine lv_if_eq (tgt := 70) hx hb dX5_readFreeWord_40 (by decide) (fun c8 => ?_) (fun c8 => ?_)
        · replace hf := it_t c8 hf
          exact hk70 hf _ _ _ hM (lv_sub hl [1, 0] rfl)
        · replace hf := it_f c8 hf
          refine lv_lload_n hx hb dX5_readFreeWord_43 rfl (lv_at hl 0 rfl) ?_
          refine lv_aload_n hx hb dX5_readFreeWord_44 rfl (lv_at hl 1 rfl) ?_
          refine g_get hC hM inX5_readFreeWord_X5 3 cE3 clX5 2 (by decide) tX5_readFreeWord_5 TX5_2 cV3_2 dX5_readFreeWord_45 ?_
          refine W.lcmp hx hb dX5_readFreeWord_48 ?_
          refine lv_if_eq (tgt := 70) hx hb dX5_readFreeWord_49 (by decide) (fun c9 => ?_) (fun c9 => ?_)
          · replace hf := it_t c9 hf
            exact hk70 hf _ _ _ hM (lv_sub hl [1, 0] rfl)
          · replace hf := it_f c9 hf
            refine lv_lload_n hx hb dX5_readFreeWord_52 rfl (lv_at hl 0 rfl) ?_
            refine lv_aload_n hx hb dX5_readFreeWord_53 rfl (lv_at hl 1 rfl) ?_
            refine g_get hC hM inX5_readFreeWord_X5 3 cE3 clX5 3 (by decide) tX5_readFreeWord_6 TX5_3 cV3_3 dX5_readFreeWord_54 ?_
            refine W.lcmp hx hb dX5_readFreeWord_57 ?_
            refine lv_if_eq (tgt := 70) hx hb dX5_readFreeWord_58 (by decide) (fun c10 => ?_) (fun c10 => ?_)
            · replace hf := it_t c10 hf
              exact hk70 hf _ _ _ hM (lv_sub hl [1, 0] rfl)
            · replace hf := it_f c10 hf
              refine lv_lload_n hx hb dX5_readFreeWord_61 rfl (lv_at hl 0 rfl) ?_
              refine lv_aload_n hx hb dX5_readFreeWord_62 rfl (lv_at hl 1 rfl) ?_
              refine g_get hC hM inX5_readFreeWord_X5 3 cE3 clX5 4 (by decide) tX5_readFreeWord_7 TX5_4 cV3_4 dX5_readFreeWord_63 ?_
              refine W.lcmp hx hb dX5_readFreeWord_66 ?_
              refine lv_if_ne (tgt := 79) hx hb dX5_readFreeWord_67 (by decide) (fun c11 => ?_) (fun c11 => ?_)
              · replace hf := it_f c11 hf
                refine lv_lload_n hx hb dX5_readFreeWord_79 rfl (lv_at hl 0 rfl) ?_
                obtain ⟨e1, e2⟩ := so_2 hf
                cases e1; cases e2
                exact hQ _ _ _ _ _ _ dX5_readFreeWord_80 hM (by decide) (by decide)
              · replace hf := it_t c11 hf
                exact hk70 hf _ _ _ hM (lv_sub hl [1, 0] rfl)

theorem hd_X5_readNewName : yX5_readNewName.cls = RX5 ∧ yX5_readNewName.cls ≠ "java/lang/invoke/MethodHandle" ∧ yX5_readNewName.cls ≠ "java/lang/invoke/VarHandle" ∧ (parseMethodDescriptor yX5_readNewName.desc).map (fun d => d.parameters.length) = some 2 := by decide +kernel
theorem tX5_readNewName_1 : Cond.fieldLink RX5 48 "WeatherTeller$RulesReader" "wordPlace" "I" ∈ wsX5_readNewName := List.mem_of_getElem? (i := 1) rfl
theorem inX5_readNewName_X5 : ∀ w ∈ u_ws RX5 TX5 8, w ∈ wsX5_readNewName := fun _ h => List.mem_cons_of_mem _ (List.mem_append_left _ (List.mem_append_left _ (List.mem_append_right _ h)))
def f_X5_readNewName (N : Nat)  (S : St) : Option (Int64 × St) :=
  bd2 (f_X5_readFreeWord N S) fun w1 S2 =>
  bd (f_X4_placesNamed N 38 w1 S2) fun v3 =>
  if v3 = 0 then
    some (w1, S2)
  else
    bd (f_X5_fail N 3 (S2.1 3 7) S2) fun S5 =>
    some (w1, S5)
abbrev rmX5_readNewName : Room := { frames := 3, cells := 0, slots := 0, locals := 68 }
set_option maxRecDepth 100000 in
set_option maxHeartbeats 4000000 in
theorem c_X5_readNewName (l : Launch) (D : va_G) (cs : Nat → ClassId) (a : Nat → Nat) (q1 q2 : Nat) (N : Nat) (S : St) (rz : Int64) (Sz : St) (hf : f_X5_readNewName N S = some (rz, Sz)) : gMl l yX5_readNewName wsX5_readNewName rmX5_readNewName D cs [.ref (a 3), .ref (a 1), .ref (a 38)] (ccells cs a q1 q2 S) rz (ccells cs a q1 q2 Sz) := by
  unfold f_X5_readNewName at hf
  refine gE_l (cc := cX5_readNewName) (maxL := 5) (by decide) rfl (Nat.le_of_ble_eq_true rfl) ?_
  intro p e s m args below meth c A Q hC hA hQ hM ls hl
  obtain ⟨hx, hb, hml, hown, hts⟩ := hC.1
  have hl : lv_has ls 5 [(0, .ref (a 3)), (1, .ref (a 1)), (2, .ref (a 38))] := hl
  refine lv_aload_n hx hb dX5_readNewName_0 rfl (lv_at hl 0 rfl) ?_
  refine lv_aload_n hx hb dX5_readNewName_1 rfl (lv_at hl 1 rfl) ?_
  obtain ⟨w1, S2, hc, hf⟩ := bd2_s hf
  refine gV_l hC hM hA hl.1 [.ref (a 1)] [] (c_X5_readFreeWord l D cs a q1 q2 N S w1 S2 hc) gX5_readNewName_X5_readFreeWord rfl hd_X5_readFreeWord ⟨by decide, by decide⟩ 3 5 clX5 rfl cE3 (Nat.le_of_ble_eq_true rfl) dX5_readNewName_2 rfl ⟨by decide, by decide⟩ (fun H locs hM => ?_)
  refine lv_lstore_n (lv' := [(3, .long w1), (0, .ref (a 3)), (1, .ref (a 1)), (2, .ref (a 38))]) hx hb dX5_readNewName_5 rfl hl (by decide) rfl (fun ls hl => ?_)
  refine lv_aload_n hx hb dX5_readNewName_6 rfl (lv_at hl 3 rfl) ?_
  refine lv_lload_n hx hb dX5_readNewName_7 rfl (lv_at hl 0 rfl) ?_
  obtain ⟨v3, hc, hf⟩ := bd_s hf
  refine gV_i hC hM hA hl.1 [.long w1] [] (c_X4_placesNamed_38 l D cs a q1 q2 N w1 S2 v3 hc) gX5_readNewName_X4_placesNamed rfl hd_X4_placesNamed ⟨by decide, by decide⟩ 38 4 clX4 rfl cE38 (Nat.le_of_ble_eq_true rfl) dX5_readNewName_8 rfl ⟨by decide, by decide⟩ (fun H locs hM => ?_)
  refine lv_if_eq (tgt := 23) hx hb dX5_readNewName_11 (by decide) (fun c4 => ?_) (fun c4 => ?_)
  · replace hf := it_t c4 hf
    refine lv_lload_n hx hb dX5_readNewName_23 rfl (lv_at hl 0 rfl) ?_
    obtain ⟨e1, e2⟩ := so_2 hf
    cases e1; cases e2
    exact hQ _ _ _ _ _ _ dX5_readNewName_24 hM (by decide) (by decide)
  · replace hf := it_f c4 hf
    refine lv_aload_n hx hb dX5_readNewName_14 rfl (lv_at hl 1 rfl) ?_
    refine lv_iconst (v := 3) hx hb dX5_readNewName_15 (by decide) ?_
    refine lv_aload_n hx hb dX5_readNewName_16 rfl (lv_at hl 1 rfl) ?_
    refine g_get hC hM inX5_readNewName_X5 3 cE3 clX5 7 (by decide) tX5_readNewName_1 TX5_7 cV3_7 dX5_readNewName_17 ?_
    obtain ⟨S5, hc, hf⟩ := bd_s hf
    refine gV_v hC hM hA hl.1 [.int 3, .int (S2.1 3 7)] [] (c_X5_fail l D cs a q1 q2 N 3 (S2.1 3 7) S2 S5 hc) gX5_readNewName_X5_fail rfl hd_X5_fail ⟨by decide, by decide⟩ 3 5 clX5 rfl cE3 (Nat.le_of_ble_eq_true rfl) dX5_readNewName_20 rfl ⟨by decide, by decide⟩ (fun H locs hM => ?_)
    refine lv_lload_n hx hb dX5_readNewName_23 rfl (lv_at hl 0 rfl) ?_
    obtain ⟨e1, e2⟩ := so_2 hf
    cases e1; cases e2
    exact hQ _ _ _ _ _ _ dX5_readNewName_24 hM (by decide) (by decide)

theorem hd_X5_readToldName : yX5_readToldName.cls = RX5 ∧ yX5_readToldName.cls ≠ "java/lang/invoke/MethodHandle" ∧ yX5_readToldName.cls ≠ "java/lang/invoke/VarHandle" ∧ (parseMethodDescriptor yX5_readToldName.desc).map (fun d => d.parameters.length) = some 2 := by decide +kernel
theorem tX5_readToldName_1 : Cond.fieldLink RX5 48 "WeatherTeller$RulesReader" "wordPlace" "I" ∈ wsX5_readToldName := List.mem_of_getElem? (i := 1) rfl
theorem inX5_readToldName_X5 : ∀ w ∈ u_ws RX5 TX5 8, w ∈ wsX5_readToldName := fun _ h => List.mem_cons_of_mem _ (List.mem_append_left _ (List.mem_append_left _ (List.mem_append_right _ h)))
def f_X5_readToldName (N : Nat)  (S : St) : Option (Int32 × St) :=
  bd2 (f_X5_readFreeWord N S) fun w1 S2 =>
  bd (f_X4_placesNamed N 38 w1 S2) fun v3 =>
  if v3 = 0 then
    bd (f_X5_fail N 4 (S2.1 3 7) S2) fun S5 =>
    some (v3, S5)
  else
    some (v3, S2)
abbrev rmX5_readToldName : Room := { frames := 3, cells := 0, slots := 0, locals := 68 }
set_option maxRecDepth 100000 in
set_option maxHeartbeats 4000000 in
theorem c_X5_readToldName (l : Launch) (D : va_G) (cs : Nat → ClassId) (a : Nat → Nat) (q1 q2 : Nat) (N : Nat) (S : St) (rz : Int32) (Sz : St) (hf : f_X5_readToldName N S = some (rz, Sz)) : gMi l yX5_readToldName wsX5_readToldName rmX5_readToldName D cs [.ref (a 3), .ref (a 1), .ref (a 38)] (ccells cs a q1 q2 S) rz (ccells cs a q1 q2 Sz) := by
  unfold f_X5_readToldName at hf
  refine gE_i (cc := cX5_readToldName) (maxL := 4) (by decide) rfl (Nat.le_of_ble_eq_true rfl) ?_
  intro p e s m args below meth c A Q hC hA hQ hM ls hl
  obtain ⟨hx, hb, hml, hown, hts⟩ := hC.1
  have hl : lv_has ls 4 [(0, .ref (a 3)), (1, .ref (a 1)), (2, .ref (a 38))] := hl
  refine lv_aload_n hx hb dX5_readToldName_0 rfl (lv_at hl 2 rfl) ?_
  refine lv_aload_n hx hb dX5_readToldName_1 rfl (lv_at hl 0 rfl) ?_
  refine lv_aload_n hx hb dX5_readToldName_2 rfl (lv_at hl 1 rfl) ?_
  obtain ⟨w1, S2, hc, hf⟩ := bd2_s hf
  refine gV_l hC hM hA hl.1 [.ref (a 1)] [.ref (a 38)] (c_X5_readFreeWord l D cs a q1 q2 N S w1 S2 hc) gX5_readToldName_X5_readFreeWord rfl hd_X5_readFreeWord ⟨by decide, by decide⟩ 3 5 clX5 rfl cE3 (Nat.le_of_ble_eq_true rfl) dX5_readToldName_3 rfl ⟨by decide, by decide⟩ (fun H locs hM => ?_)
  obtain ⟨v3, hc, hf⟩ := bd_s hf
  refine gV_i hC hM hA hl.1 [.long w1] [] (c_X4_placesNamed_38 l D cs a q1 q2 N w1 S2 v3 hc) gX5_readToldName_X4_placesNamed rfl hd_X4_placesNamed ⟨by decide, by decide⟩ 38 4 clX4 rfl cE38 (Nat.le_of_ble_eq_true rfl) dX5_readToldName_6 rfl ⟨by decide, by decide⟩ (fun H locs hM => ?_)
  refine lv_istore_n (lv' := [(3, .int v3), (0, .ref (a 3)), (1, .ref (a 1)), (2, .ref (a 38))]) hx hb dX5_readToldName_9 rfl hl (by decide) rfl (fun ls hl => ?_)
  refine lv_iload_n hx hb dX5_readToldName_10 rfl (lv_at hl 0 rfl) ?_
  refine lv_if_ne (tgt := 23) hx hb dX5_readToldName_11 (by decide) (fun c4 => ?_) (fun c4 => ?_)
  · replace hf := it_f c4 hf
    refine lv_iload_n hx hb dX5_readToldName_23 rfl (lv_at hl 0 rfl) ?_
    obtain ⟨e1, e2⟩ := so_2 hf
    cases e1; cases e2
    exact hQ _ _ _ _ _ _ dX5_readToldName_24 hM (by decide) (by decide)
  · replace hf := it_t c4 hf
    refine lv_aload_n hx hb dX5_readToldName_14 rfl (lv_at hl 1 rfl) ?_
    refine lv_iconst (v := 4) hx hb dX5_readToldName_15 (by decide) ?_
    refine lv_aload_n hx hb dX5_readToldName_16 rfl (lv_at hl 1 rfl) ?_
    refine g_get hC hM inX5_readToldName_X5 3 cE3 clX5 7 (by decide) tX5_readToldName_1 TX5_7 cV3_7 dX5_readToldName_17 ?_
    obtain ⟨S5, hc, hf⟩ := bd_s hf
    refine gV_v hC hM hA hl.1 [.int 4, .int (S2.1 3 7)] [] (c_X5_fail l D cs a q1 q2 N 4 (S2.1 3 7) S2 S5 hc) gX5_readToldName_X5_fail rfl hd_X5_fail ⟨by decide, by decide⟩ 3 5 clX5 rfl cE3 (Nat.le_of_ble_eq_true rfl) dX5_readToldName_20 rfl ⟨by decide, by decide⟩ (fun H locs hM => ?_)
    refine lv_iload_n hx hb dX5_readToldName_23 rfl (lv_at hl 0 rfl) ?_
    obtain ⟨e1, e2⟩ := so_2 hf
    cases e1; cases e2
    exact hQ _ _ _ _ _ _ dX5_readToldName_24 hM (by decide) (by decide)

theorem hd_X5_readNewWord : yX5_readNewWord.cls = RX5 ∧ yX5_readNewWord.cls ≠ "java/lang/invoke/MethodHandle" ∧ yX5_readNewWord.cls ≠ "java/lang/invoke/VarHandle" ∧ (parseMethodDescriptor yX5_readNewWord.desc).map (fun d => d.parameters.length) = some 2 := by decide +kernel
theorem tX5_readNewWord_1 : Cond.fieldLink RX5 48 "WeatherTeller$RulesReader" "wordPlace" "I" ∈ wsX5_readNewWord := List.mem_of_getElem? (i := 1) rfl
theorem inX5_readNewWord_X5 : ∀ w ∈ u_ws RX5 TX5 8, w ∈ wsX5_readNewWord := fun _ h => List.mem_cons_of_mem _ (List.mem_append_left _ (List.mem_append_left _ (List.mem_append_right _ h)))
def f_X5_readNewWord (N : Nat)  (S : St) : Option (Int64 × St) :=
  bd2 (f_X5_readFreeWord N S) fun w1 S2 =>
  bd (f_X4_bandNamed N 38 w1 S2) fun v3 =>
  if v3 = (-1) then
    some (w1, S2)
  else
    bd (f_X5_fail N 3 (S2.1 3 7) S2) fun S5 =>
    some (w1, S5)
abbrev rmX5_readNewWord : Room := { frames := 3, cells := 0, slots := 0, locals := 68 }
set_option maxRecDepth 100000 in
set_option maxHeartbeats 4000000 in
theorem c_X5_readNewWord (l : Launch) (D : va_G) (cs : Nat → ClassId) (a : Nat → Nat) (q1 q2 : Nat) (N : Nat) (S : St) (rz : Int64) (Sz : St) (hf : f_X5_readNewWord N S = some (rz, Sz)) : gMl l yX5_readNewWord wsX5_readNewWord rmX5_readNewWord D cs [.ref (a 3), .ref (a 1), .ref (a 38)] (ccells cs a q1 q2 S) rz (ccells cs a q1 q2 Sz) := by
  unfold f_X5_readNewWord at hf
  refine gE_l (cc := cX5_readNewWord) (maxL := 5) (by decide) rfl (Nat.le_of_ble_eq_true rfl) ?_
  intro p e s m args below meth c A Q hC hA hQ hM ls hl
  obtain ⟨hx, hb, hml, hown, hts⟩ := hC.1
  have hl : lv_has ls 5 [(0, .ref (a 3)), (1, .ref (a 1)), (2, .ref (a 38))] := hl
  refine lv_aload_n hx hb dX5_readNewWord_0 rfl (lv_at hl 0 rfl) ?_
  refine lv_aload_n hx hb dX5_readNewWord_1 rfl (lv_at hl 1 rfl) ?_
  obtain ⟨w1, S2, hc, hf⟩ := bd2_s hf
  refine gV_l hC hM hA hl.1 [.ref (a 1)] [] (c_X5_readFreeWord l D cs a q1 q2 N S w1 S2 hc) gX5_readNewWord_X5_readFreeWord rfl hd_X5_readFreeWord ⟨by decide, by decide⟩ 3 5 clX5 rfl cE3 (Nat.le_of_ble_eq_true rfl) dX5_readNewWord_2 rfl ⟨by decide, by decide⟩ (fun H locs hM => ?_)
  refine lv_lstore_n (lv' := [(3, .long w1), (0, .ref (a 3)), (1, .ref (a 1)), (2, .ref (a 38))]) hx hb dX5_readNewWord_5 rfl hl (by decide) rfl (fun ls hl => ?_)
  refine lv_aload_n hx hb dX5_readNewWord_6 rfl (lv_at hl 3 rfl) ?_
  refine lv_lload_n hx hb dX5_readNewWord_7 rfl (lv_at hl 0 rfl) ?_
  obtain ⟨v3, hc, hf⟩ := bd_s hf
  refine gV_i hC hM hA hl.1 [.long w1] [] (c_X4_bandNamed_38 l D cs a q1 q2 N w1 S2 v3 hc) gX5_readNewWord_X4_bandNamed rfl hd_X4_bandNamed ⟨by decide, by decide⟩ 38 4 clX4 rfl cE38 (Nat.le_of_ble_eq_true rfl) dX5_readNewWord_8 rfl ⟨by decide, by decide⟩ (fun H locs hM => ?_)
  refine lv_iconst (v := (-1)) hx hb dX5_readNewWord_11 (by decide) ?_
  refine lv_icmp_eq (tgt := 24) hx hb dX5_readNewWord_12 (by decide) (fun c4 => ?_) (fun c4 => ?_)
  · replace hf := it_t c4 hf
    refine lv_lload_n hx hb dX5_readNewWord_24 rfl (lv_at hl 0 rfl) ?_
    obtain ⟨e1, e2⟩ := so_2 hf
    cases e1; cases e2
    exact hQ _ _ _ _ _ _ dX5_readNewWord_25 hM (by decide) (by decide)
  · replace hf := it_f c4 hf
    refine lv_aload_n hx hb dX5_readNewWord_15 rfl (lv_at hl 1 rfl) ?_
    refine lv_iconst (v := 3) hx hb dX5_readNewWord_16 (by decide) ?_
    refine lv_aload_n hx hb dX5_readNewWord_17 rfl (lv_at hl 1 rfl) ?_
    refine g_get hC hM inX5_readNewWord_X5 3 cE3 clX5 7 (by decide) tX5_readNewWord_1 TX5_7 cV3_7 dX5_readNewWord_18 ?_
    obtain ⟨S5, hc, hf⟩ := bd_s hf
    refine gV_v hC hM hA hl.1 [.int 3, .int (S2.1 3 7)] [] (c_X5_fail l D cs a q1 q2 N 3 (S2.1 3 7) S2 S5 hc) gX5_readNewWord_X5_fail rfl hd_X5_fail ⟨by decide, by decide⟩ 3 5 clX5 rfl cE3 (Nat.le_of_ble_eq_true rfl) dX5_readNewWord_21 rfl ⟨by decide, by decide⟩ (fun H locs hM => ?_)
    refine lv_lload_n hx hb dX5_readNewWord_24 rfl (lv_at hl 0 rfl) ?_
    obtain ⟨e1, e2⟩ := so_2 hf
    cases e1; cases e2
    exact hQ _ _ _ _ _ _ dX5_readNewWord_25 hM (by decide) (by decide)

theorem hd_X5_readPlace : yX5_readPlace.cls = RX5 ∧ yX5_readPlace.cls ≠ "java/lang/invoke/MethodHandle" ∧ yX5_readPlace.cls ≠ "java/lang/invoke/VarHandle" ∧ (parseMethodDescriptor yX5_readPlace.desc).map (fun d => d.parameters.length) = some 3 := by decide +kernel
theorem tX5_readPlace_1 : Cond.fieldLink RX5 87 "WeatherTeller$Rules" "places" "I" ∈ wsX5_readPlace := List.mem_of_getElem? (i := 1) rfl
theorem inX5_readPlace_X4 : ∀ w ∈ u_ws RX4 TX4 12, w ∈ wsX5_readPlace := fun _ h => List.mem_cons_of_mem _ (List.mem_append_left _ (List.mem_append_left _ (List.mem_append_right _ h)))
theorem tX5_readPlace_2 : Cond.fieldLink RX5 41 "WeatherTeller$RulesReader" "faultKind" "I" ∈ wsX5_readPlace := List.mem_of_getElem? (i := 2) rfl
theorem inX5_readPlace_X5 : ∀ w ∈ u_ws RX5 TX5 8, w ∈ wsX5_readPlace := fun _ h => List.mem_cons_of_mem _ (List.mem_append_left _ (List.mem_append_right _ h))
def j_X5_readPlace_15 (N : Nat) (S1 : St) : Option (St) :=
  bd2 (f_X5_readNewName N S1) fun w2 S3 =>
  bd (f_X5_readSign N 59 S3) fun S4 =>
  if (S4.1 3 5) = 0 then
    bd (f_X4_addPlace N 38 w2 S4) fun S6 =>
    some S6
  else
    some S4
def f_X5_readPlace (N : Nat) (p2 : Int32) (S : St) : Option (St) :=
  jp (j_X5_readPlace_15 N) fun k15 =>
  if (S.1 38 9) < 6 then
    k15 S
  else
    bd (f_X5_fail N 2 p2 S) fun S8 =>
    k15 S8
abbrev rmX5_readPlace : Room := { frames := 4, cells := 0, slots := 0, locals := 92 }
set_option maxRecDepth 100000 in
set_option maxHeartbeats 4000000 in
theorem c_X5_readPlace (l : Launch) (D : va_G) (cs : Nat → ClassId) (a : Nat → Nat) (q1 q2 : Nat) (N : Nat) (p2 : Int32) (S : St) (Sz : St) (hf : f_X5_readPlace N p2 S = some Sz) : gMv l yX5_readPlace wsX5_readPlace rmX5_readPlace D cs [.ref (a 3), .ref (a 1), .ref (a 38), .int p2] (ccells cs a q1 q2 S) (ccells cs a q1 q2 Sz) := by
  unfold f_X5_readPlace at hf
  refine gE_v (cc := cX5_readPlace) (maxL := 6) (by decide) rfl (Nat.le_of_ble_eq_true rfl) ?_
  intro p e s m args below meth c A Q hC hA hQ hM ls hl
  obtain ⟨hx, hb, hml, hown, hts⟩ := hC.1
  have hl : lv_has ls 6 [(0, .ref (a 3)), (1, .ref (a 1)), (2, .ref (a 38)), (3, .int p2)] := hl
  refine lv_aload_n hx hb dX5_readPlace_0 rfl (lv_at hl 2 rfl) ?_
  refine g_get hC hM inX5_readPlace_X4 38 cE38 clX4 9 (by decide) tX5_readPlace_1 TX4_9 cV38_9 dX5_readPlace_1 ?_
  refine lv_bipush (v := 6) hx hb dX5_readPlace_4 (by decide) ?_
  refine jp_W (fun k15 : St → Option (St) => ∀ (S1 : St), k15 S1 = some Sz → ∀ (H : Heap) (locs : List Loc) (ls : Array Slot), gw D A s.heap H locs (ccells cs a q1 q2 S1) → lv_has ls 6 [(0, .ref (a 3)), (1, .ref (a 1)), (2, .ref (a 38))] → W p l e rmX5_readPlace s m args below meth c H locs 0 0 Q (F0 m 15 ls [])) ?_ ?_ hf
  · intro S1 hf H locs ls hM hl
    unfold j_X5_readPlace_15 at hf
    refine lv_aload_n hx hb dX5_readPlace_15 rfl (lv_at hl 0 rfl) ?_
    refine lv_aload_n hx hb dX5_readPlace_16 rfl (lv_at hl 1 rfl) ?_
    refine lv_aload_n hx hb dX5_readPlace_17 rfl (lv_at hl 2 rfl) ?_
    obtain ⟨w2, S3, hc, hf⟩ := bd2_s hf
    refine gV_l hC hM hA hl.1 [.ref (a 1), .ref (a 38)] [] (c_X5_readNewName l D cs a q1 q2 N S1 w2 S3 hc) gX5_readPlace_X5_readNewName rfl hd_X5_readNewName ⟨by decide, by decide⟩ 3 5 clX5 rfl cE3 (Nat.le_of_ble_eq_true rfl) dX5_readPlace_18 rfl ⟨by decide, by decide⟩ (fun H locs hM => ?_)
    refine lv_lstore (lv' := [(4, .long w2), (0, .ref (a 3)), (1, .ref (a 1)), (2, .ref (a 38))]) hx hb dX5_readPlace_21 hl (by decide) rfl (fun ls hl => ?_)
    refine lv_aload_n hx hb dX5_readPlace_23 rfl (lv_at hl 1 rfl) ?_
    refine lv_aload_n hx hb dX5_readPlace_24 rfl (lv_at hl 2 rfl) ?_
    refine lv_bipush (v := 59) hx hb dX5_readPlace_25 (by decide) ?_
    obtain ⟨S4, hc, hf⟩ := bd_s hf
    refine gV_v hC hM hA hl.1 [.ref (a 1), .int 59] [] (c_X5_readSign l D cs a q1 q2 N 59 S3 S4 hc) gX5_readPlace_X5_readSign rfl hd_X5_readSign ⟨by decide, by decide⟩ 3 5 clX5 rfl cE3 (Nat.le_of_ble_eq_true rfl) dX5_readPlace_27 rfl ⟨by decide, by decide⟩ (fun H locs hM => ?_)
    refine lv_aload_n hx hb dX5_readPlace_30 rfl (lv_at hl 1 rfl) ?_
    refine g_get hC hM inX5_readPlace_X5 3 cE3 clX5 5 (by decide) tX5_readPlace_2 TX5_5 cV3_5 dX5_readPlace_31 ?_
    refine lv_if_ne (tgt := 43) hx hb dX5_readPlace_34 (by decide) (fun c5 => ?_) (fun c5 => ?_)
    · replace hf := it_f c5 hf
      cases so_1 hf
      exact hQ _ _ _ _ _ _ dX5_readPlace_43 hM (by decide) (by decide)
    · replace hf := it_t c5 hf
      refine lv_aload_n hx hb dX5_readPlace_37 rfl (lv_at hl 3 rfl) ?_
      refine lv_lload hx hb dX5_readPlace_38 (lv_at hl 0 rfl) ?_
      obtain ⟨S6, hc, hf⟩ := bd_s hf
      refine gV_v hC hM hA hl.1 [.long w2] [] (c_X4_addPlace_38 l D cs a q1 q2 N w2 S4 S6 hc) gX5_readPlace_X4_addPlace rfl hd_X4_addPlace ⟨by decide, by decide⟩ 38 4 clX4 rfl cE38 (Nat.le_of_ble_eq_true rfl) dX5_readPlace_40 rfl ⟨by decide, by decide⟩ (fun H locs hM => ?_)
      cases so_1 hf
      exact hQ _ _ _ _ _ _ dX5_readPlace_43 hM (by decide) (by decide)
  · intro k15 hk15 hf
    refine lv_icmp_lt (tgt := 15) hx hb dX5_readPlace_6 (by decide) (fun c7 => ?_) (fun c7 => ?_)
    · replace hf := it_t c7 hf
      exact hk15 _ hf _ _ _ hM (lv_sub hl [0, 1, 2] rfl)
    · replace hf := it_f c7 hf
      refine lv_aload_n hx hb dX5_readPlace_9 rfl (lv_at hl 0 rfl) ?_
      refine lv_iconst (v := 2) hx hb dX5_readPlace_10 (by decide) ?_
      refine lv_iload_n hx hb dX5_readPlace_11 rfl (lv_at hl 3 rfl) ?_
      obtain ⟨S8, hc, hf⟩ := bd_s hf
      refine gV_v hC hM hA hl.1 [.int 2, .int p2] [] (c_X5_fail l D cs a q1 q2 N 2 p2 S S8 hc) gX5_readPlace_X5_fail rfl hd_X5_fail ⟨by decide, by decide⟩ 3 5 clX5 rfl cE3 (Nat.le_of_ble_eq_true rfl) dX5_readPlace_12 rfl ⟨by decide, by decide⟩ (fun H locs hM => ?_)
      exact hk15 _ hf _ _ _ hM (lv_sub hl [0, 1, 2] rfl)
