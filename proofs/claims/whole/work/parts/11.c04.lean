theorem hd_X5_readRegion : yX5_readRegion.cls = RX5 ∧ yX5_readRegion.cls ≠ "java/lang/invoke/MethodHandle" ∧ yX5_readRegion.cls ≠ "java/lang/invoke/VarHandle" ∧ (parseMethodDescriptor yX5_readRegion.desc).map (fun d => d.parameters.length) = some 3 := by decide +kernel
theorem tX5_readRegion_1 : Cond.fieldLink RX5 102 "WeatherTeller$Rules" "regions" "I" ∈ wsX5_readRegion := List.mem_of_getElem? (i := 1) rfl
theorem inX5_readRegion_X4 : ∀ w ∈ u_ws RX4 TX4 12, w ∈ wsX5_readRegion := fun _ h => List.mem_cons_of_mem _ (List.mem_append_left _ (List.mem_append_left _ (List.mem_append_right _ h)))
theorem tX5_readRegion_2 : Cond.fieldLink RX5 41 "WeatherTeller$RulesReader" "faultKind" "I" ∈ wsX5_readRegion := List.mem_of_getElem? (i := 2) rfl
theorem inX5_readRegion_X5 : ∀ w ∈ u_ws RX5 TX5 8, w ∈ wsX5_readRegion := fun _ h => List.mem_cons_of_mem _ (List.mem_append_left _ (List.mem_append_right _ h))
def j_X5_readRegion_89 (N : Nat) (w2 : Int64) (v5 : Int32) (S6 : St) : Option (St) :=
  bd (f_X5_readSign N 59 S6) fun S7 =>
  if (S7.1 3 5) = 0 then
    bd (f_X4_addRegion N 38 w2 v5 S7) fun S9 =>
    some S9
  else
    some S7
def b_X5_readRegion_38 (N : Nat) (k89 : Int32 → St → Option (St)) (k38 : Int32 → Int32 → Int32 → St → Option (St)) (v10 : Int32) (v11 : Int32) (v12 : Int32) (S13 : St) : Option (St) :=
  if 1000 ≤ v12 then
    k89 v10 S13
  else
    if v11 = 0 then
      k89 v10 S13
    else
      if (S13.1 3 5) = 0 then
        bd2 (f_X5_readToldName N S13) fun v17 S18 =>
        nm (v10 ||| v17) fun v19 =>
        bd (f_X8_skip N 10 S18) fun S20 =>
        bd2 (f_X8_take N 44 S20) fun v21 S22 =>
        nm (v12 + 1) fun v23 =>
        k38 v19 v21 v23 S22
      else
        k89 v10 S13
def j_X5_readRegion_14 (N : Nat) (S1 : St) : Option (St) :=
  bd2 (f_X5_readNewName N S1) fun w2 S3 =>
  bd (f_X5_readSign N 61 S3) fun S4 =>
  jp (j_X5_readRegion_89 N w2) fun k89 =>
  jp (lp (fun _ _ _ _ => none) (b_X5_readRegion_38 N k89) N) fun k38 =>
  k38 0 1 0 S4
def f_X5_readRegion (N : Nat) (p2 : Int32) (S : St) : Option (St) :=
  jp (j_X5_readRegion_14 N) fun k14 =>
  if (S.1 38 10) < 5 then
    k14 S
  else
    bd (f_X5_fail N 2 p2 S) fun S25 =>
    k14 S25
abbrev rmX5_readRegion : Room := { frames := 4, cells := 0, slots := 0, locals := 92 }
set_option maxRecDepth 100000 in
set_option maxHeartbeats 4000000 in
theorem c_X5_readRegion (l : Launch) (D : va_G) (cs : Nat → ClassId) (a : Nat → Nat) (q1 q2 : Nat) (N : Nat) (p2 : Int32) (S : St) (Sz : St) (hf : f_X5_readRegion N p2 S = some Sz) : gMv l yX5_readRegion wsX5_readRegion rmX5_readRegion D cs [.ref (a 3), .ref (a 1), .ref (a 38), .int p2] (ccells cs a q1 q2 S) (ccells cs a q1 q2 Sz) := by
  unfold f_X5_readRegion at hf
  refine gE_v (cc := cX5_readRegion) (maxL := 9) (by decide) rfl (Nat.le_of_ble_eq_true rfl) ?_
  intro p e s m args below meth c A Q hC hA hQ hM ls hl
  obtain ⟨hx, hb, hml, hown, hts⟩ := hC.1
  have hl : lv_has ls 9 [(0, .ref (a 3)), (1, .ref (a 1)), (2, .ref (a 38)), (3, .int p2)] := hl
  refine lv_aload_n hx hb dX5_readRegion_0 rfl (lv_at hl 2 rfl) ?_
  refine g_get hC hM inX5_readRegion_X4 38 cE38 clX4 10 (by decide) tX5_readRegion_1 TX4_10 cV38_10 dX5_readRegion_1 ?_
  refine lv_iconst (v := 5) hx hb dX5_readRegion_4 (by decide) ?_
  refine jp_W (fun k14 : St → Option (St) => ∀ (S1 : St), k14 S1 = some Sz → ∀ (H : Heap) (locs : List Loc) (ls : Array Slot), gw D A s.heap H locs (ccells cs a q1 q2 S1) → lv_has ls 9 [(0, .ref (a 3)), (1, .ref (a 1)), (2, .ref (a 38))] → W p l e rmX5_readRegion s m args below meth c H locs 0 0 Q (F0 m 14 ls [])) ?_ ?_ hf
  · intro S1 hf H locs ls hM hl
    unfold j_X5_readRegion_14 at hf
    refine lv_aload_n hx hb dX5_readRegion_14 rfl (lv_at hl 0 rfl) ?_
    refine lv_aload_n hx hb dX5_readRegion_15 rfl (lv_at hl 1 rfl) ?_
    refine lv_aload_n hx hb dX5_readRegion_16 rfl (lv_at hl 2 rfl) ?_
    obtain ⟨w2, S3, hc, hf⟩ := bd2_s hf
    refine gV_l hC hM hA hl.1 [.ref (a 1), .ref (a 38)] [] (c_X5_readNewName l D cs a q1 q2 N S1 w2 S3 hc) gX5_readRegion_X5_readNewName rfl hd_X5_readNewName ⟨by decide, by decide⟩ 3 5 clX5 rfl cE3 (Nat.le_of_ble_eq_true rfl) dX5_readRegion_17 rfl ⟨by decide, by decide⟩ (fun H locs hM => ?_)
    refine lv_lstore (lv' := [(4, .long w2), (0, .ref (a 3)), (1, .ref (a 1)), (2, .ref (a 38))]) hx hb dX5_readRegion_20 hl (by decide) rfl (fun ls hl => ?_)
    refine lv_aload_n hx hb dX5_readRegion_22 rfl (lv_at hl 1 rfl) ?_
    refine lv_aload_n hx hb dX5_readRegion_23 rfl (lv_at hl 2 rfl) ?_
    refine lv_bipush (v := 61) hx hb dX5_readRegion_24 (by decide) ?_
    obtain ⟨S4, hc, hf⟩ := bd_s hf
    refine gV_v hC hM hA hl.1 [.ref (a 1), .int 61] [] (c_X5_readSign l D cs a q1 q2 N 61 S3 S4 hc) gX5_readRegion_X5_readSign rfl hd_X5_readSign ⟨by decide, by decide⟩ 3 5 clX5 rfl cE3 (Nat.le_of_ble_eq_true rfl) dX5_readRegion_26 rfl ⟨by decide, by decide⟩ (fun H locs hM => ?_)
    refine lv_iconst (v := 0) hx hb dX5_readRegion_29 (by decide) ?_
    refine lv_istore (lv' := [(6, .int 0), (4, .long w2), (0, .ref (a 3)), (1, .ref (a 1)), (2, .ref (a 38))]) hx hb dX5_readRegion_30 hl (by decide) rfl (fun ls hl => ?_)
    refine lv_iconst (v := 1) hx hb dX5_readRegion_32 (by decide) ?_
    refine lv_istore (lv' := [(7, .int 1), (6, .int 0), (4, .long w2), (0, .ref (a 3)), (1, .ref (a 1)), (2, .ref (a 38))]) hx hb dX5_readRegion_33 hl (by decide) rfl (fun ls hl => ?_)
    refine lv_iconst (v := 0) hx hb dX5_readRegion_35 (by decide) ?_
    refine lv_istore (lv' := [(8, .int 0), (7, .int 1), (6, .int 0), (4, .long w2), (0, .ref (a 3)), (1, .ref (a 1)), (2, .ref (a 38))]) hx hb dX5_readRegion_36 hl (by decide) rfl (fun ls hl => ?_)
    refine jp_W (fun k89 : Int32 → St → Option (St) => ∀ (v5 : Int32) (S6 : St), k89 v5 S6 = some Sz → ∀ (H : Heap) (locs : List Loc) (ls : Array Slot), gw D A s.heap H locs (ccells cs a q1 q2 S6) → lv_has ls 9 [(0, .ref (a 3)), (1, .ref (a 1)), (2, .ref (a 38)), (4, .long w2), (6, .int v5)] → W p l e rmX5_readRegion s m args below meth c H locs 0 0 Q (F0 m 89 ls [])) ?_ ?_ hf
    · intro v5 S6 hf H locs ls hM hl
      unfold j_X5_readRegion_89 at hf
      refine lv_aload_n hx hb dX5_readRegion_89 rfl (lv_at hl 0 rfl) ?_
      refine lv_aload_n hx hb dX5_readRegion_90 rfl (lv_at hl 1 rfl) ?_
      refine lv_bipush (v := 59) hx hb dX5_readRegion_91 (by decide) ?_
      obtain ⟨S7, hc, hf⟩ := bd_s hf
      refine gV_v hC hM hA hl.1 [.ref (a 1), .int 59] [] (c_X5_readSign l D cs a q1 q2 N 59 S6 S7 hc) gX5_readRegion_X5_readSign rfl hd_X5_readSign ⟨by decide, by decide⟩ 3 5 clX5 rfl cE3 (Nat.le_of_ble_eq_true rfl) dX5_readRegion_93 rfl ⟨by decide, by decide⟩ (fun H locs hM => ?_)
      refine lv_aload_n hx hb dX5_readRegion_96 rfl (lv_at hl 0 rfl) ?_
      refine g_get hC hM inX5_readRegion_X5 3 cE3 clX5 5 (by decide) tX5_readRegion_2 TX5_5 cV3_5 dX5_readRegion_97 ?_
      refine lv_if_ne (tgt := 111) hx hb dX5_readRegion_100 (by decide) (fun c8 => ?_) (fun c8 => ?_)
      · replace hf := it_f c8 hf
        cases so_1 hf
        exact hQ _ _ _ _ _ _ dX5_readRegion_111 hM (by decide) (by decide)
      · replace hf := it_t c8 hf
        refine lv_aload_n hx hb dX5_readRegion_103 rfl (lv_at hl 2 rfl) ?_
        refine lv_lload hx hb dX5_readRegion_104 (lv_at hl 3 rfl) ?_
        refine lv_iload hx hb dX5_readRegion_106 (lv_at hl 4 rfl) ?_
        obtain ⟨S9, hc, hf⟩ := bd_s hf
        refine gV_v hC hM hA hl.1 [.long w2, .int v5] [] (c_X4_addRegion_38 l D cs a q1 q2 N w2 v5 S7 S9 hc) gX5_readRegion_X4_addRegion rfl hd_X4_addRegion ⟨by decide, by decide⟩ 38 4 clX4 rfl cE38 (Nat.le_of_ble_eq_true rfl) dX5_readRegion_108 rfl ⟨by decide, by decide⟩ (fun H locs hM => ?_)
        cases so_1 hf
        exact hQ _ _ _ _ _ _ dX5_readRegion_111 hM (by decide) (by decide)
    · intro k89 hk89 hf
      refine jl_W (fun k38 : Int32 → Int32 → Int32 → St → Option (St) => ∀ (v10 : Int32) (v11 : Int32) (v12 : Int32) (S13 : St), k38 v10 v11 v12 S13 = some Sz → ∀ (H : Heap) (locs : List Loc) (ls : Array Slot), gw D A s.heap H locs (ccells cs a q1 q2 S13) → lv_has ls 9 [(0, .ref (a 3)), (1, .ref (a 1)), (2, .ref (a 38)), (4, .long w2), (6, .int v10), (7, .int v11), (8, .int v12)] → W p l e rmX5_readRegion s m args below meth c H locs 0 0 Q (F0 m 38 ls [])) ?_ ?_ ?_ hf
      · intro v10 v11 v12 S13 h; cases h
      · intro k38 hk38 v10 v11 v12 S13 hf H locs ls hM hl
        unfold b_X5_readRegion_38 at hf
        refine lv_iload hx hb dX5_readRegion_38 (lv_at hl 6 rfl) ?_
        refine lv_sipush (v := 1000) hx hb dX5_readRegion_40 (by decide) ?_
        refine lv_icmp_ge (tgt := 89) hx hb dX5_readRegion_43 (by decide) (fun c14 => ?_) (fun c14 => ?_)
        · replace hf := it_t c14 hf
          exact hk89 _ _ hf _ _ _ hM (lv_sub hl [0, 1, 2, 3, 4] rfl)
        · replace hf := it_f c14 hf
          refine lv_iload hx hb dX5_readRegion_46 (lv_at hl 5 rfl) ?_
          refine lv_if_eq (tgt := 89) hx hb dX5_readRegion_48 (by decide) (fun c15 => ?_) (fun c15 => ?_)
          · replace hf := it_t c15 hf
            exact hk89 _ _ hf _ _ _ hM (lv_sub hl [0, 1, 2, 3, 4] rfl)
          · replace hf := it_f c15 hf
            refine lv_aload_n hx hb dX5_readRegion_51 rfl (lv_at hl 0 rfl) ?_
            refine g_get hC hM inX5_readRegion_X5 3 cE3 clX5 5 (by decide) tX5_readRegion_2 TX5_5 cV3_5 dX5_readRegion_52 ?_
            refine lv_if_ne (tgt := 89) hx hb dX5_readRegion_55 (by decide) (fun c16 => ?_) (fun c16 => ?_)
            · replace hf := it_f c16 hf
              exact hk89 _ _ hf _ _ _ hM (lv_sub hl [0, 1, 2, 3, 4] rfl)
            · replace hf := it_t c16 hf
              refine lv_iload hx hb dX5_readRegion_58 (lv_at hl 4 rfl) ?_
              refine lv_aload_n hx hb dX5_readRegion_60 rfl (lv_at hl 0 rfl) ?_
              refine lv_aload_n hx hb dX5_readRegion_61 rfl (lv_at hl 1 rfl) ?_
              refine lv_aload_n hx hb dX5_readRegion_62 rfl (lv_at hl 2 rfl) ?_
              obtain ⟨v17, S18, hc, hf⟩ := bd2_s hf
              refine gV_i hC hM hA hl.1 [.ref (a 1), .ref (a 38)] [.int v10] (c_X5_readToldName l D cs a q1 q2 N S13 v17 S18 hc) gX5_readRegion_X5_readToldName rfl hd_X5_readToldName ⟨by decide, by decide⟩ 3 5 clX5 rfl cE3 (Nat.le_of_ble_eq_true rfl) dX5_readRegion_63 rfl ⟨by decide, by decide⟩ (fun H locs hM => ?_)
              refine lv_ior hx hb dX5_readRegion_66 ?_
              refine lv_topi (fun v19 ev19 => ?_)
              replace hf := nm_q ev19 hf
              refine lv_istore (lv' := [(6, .int v19), (0, .ref (a 3)), (1, .ref (a 1)), (2, .ref (a 38)), (4, .long w2), (7, .int v11), (8, .int v12)]) hx hb dX5_readRegion_67 hl (by decide) rfl (fun ls hl => ?_)
              refine lv_aload_n hx hb dX5_readRegion_69 rfl (lv_at hl 2 rfl) ?_
              refine lv_bipush (v := 10) hx hb dX5_readRegion_70 (by decide) ?_
              obtain ⟨S20, hc, hf⟩ := bd_s hf
              refine gV_v hC hM hA hl.1 [.int 10] [] (c_X8_skip l D cs a q1 q2 N 10 S18 S20 hc) gX5_readRegion_X8_skip rfl hd_X8_skip ⟨by decide, by decide⟩ 1 8 clX8 rfl cE1 (Nat.le_of_ble_eq_true rfl) dX5_readRegion_72 rfl ⟨by decide, by decide⟩ (fun H locs hM => ?_)
              refine lv_aload_n hx hb dX5_readRegion_75 rfl (lv_at hl 2 rfl) ?_
              refine lv_bipush (v := 44) hx hb dX5_readRegion_76 (by decide) ?_
              obtain ⟨v21, S22, hc, hf⟩ := bd2_s hf
              refine gV_i hC hM hA hl.1 [.int 44] [] (c_X8_take l D cs a q1 q2 N 44 S20 v21 S22 hc) gX5_readRegion_X8_take rfl hd_X8_take ⟨by decide, by decide⟩ 1 8 clX8 rfl cE1 (Nat.le_of_ble_eq_true rfl) dX5_readRegion_78 rfl ⟨by decide, by decide⟩ (fun H locs hM => ?_)
              refine lv_istore (lv' := [(7, .int v21), (6, .int v19), (0, .ref (a 3)), (1, .ref (a 1)), (2, .ref (a 38)), (4, .long w2), (8, .int v12)]) hx hb dX5_readRegion_81 hl (by decide) rfl (fun ls hl => ?_)
              obtain ⟨v23, ev23⟩ : ∃ y : Int32, y = v12 + 1 := ⟨_, rfl⟩
              replace hf := nm_q ev23 hf
              refine lv_iinc (v := v23) (lv' := [(8, .int v23), (7, .int v21), (6, .int v19), (0, .ref (a 3)), (1, .ref (a 1)), (2, .ref (a 38)), (4, .long w2)]) hx hb dX5_readRegion_83 hl (k := 6) rfl (by rw [ev23]; rfl) (by decide) rfl (fun ls hl => ?_)
              refine lv_goto (tgt := 38) hx hb dX5_readRegion_86 (by decide) ?_
              exact hk38 _ _ _ _ hf _ _ _ hM (lv_sub hl [3, 4, 5, 6, 2, 1, 0] rfl)
      · intro k38 hk38 hf
        exact hk38 _ _ _ _ hf _ _ _ hM (lv_sub hl [4, 5, 6, 3, 2, 1, 0] rfl)
  · intro k14 hk14 hf
    refine lv_icmp_lt (tgt := 14) hx hb dX5_readRegion_5 (by decide) (fun c24 => ?_) (fun c24 => ?_)
    · replace hf := it_t c24 hf
      exact hk14 _ hf _ _ _ hM (lv_sub hl [0, 1, 2] rfl)
    · replace hf := it_f c24 hf
      refine lv_aload_n hx hb dX5_readRegion_8 rfl (lv_at hl 0 rfl) ?_
      refine lv_iconst (v := 2) hx hb dX5_readRegion_9 (by decide) ?_
      refine lv_iload_n hx hb dX5_readRegion_10 rfl (lv_at hl 3 rfl) ?_
      obtain ⟨S25, hc, hf⟩ := bd_s hf
      refine gV_v hC hM hA hl.1 [.int 2, .int p2] [] (c_X5_fail l D cs a q1 q2 N 2 p2 S S25 hc) gX5_readRegion_X5_fail rfl hd_X5_fail ⟨by decide, by decide⟩ 3 5 clX5 rfl cE3 (Nat.le_of_ble_eq_true rfl) dX5_readRegion_11 rfl ⟨by decide, by decide⟩ (fun H locs hM => ?_)
      exact hk14 _ hf _ _ _ hM (lv_sub hl [0, 1, 2] rfl)

theorem hd_X5_readBand : yX5_readBand.cls = RX5 ∧ yX5_readBand.cls ≠ "java/lang/invoke/MethodHandle" ∧ yX5_readBand.cls ≠ "java/lang/invoke/VarHandle" ∧ (parseMethodDescriptor yX5_readBand.desc).map (fun d => d.parameters.length) = some 3 := by decide +kernel
theorem tX5_readBand_1 : Cond.fieldLink RX5 117 "WeatherTeller$Rules" "bands" "I" ∈ wsX5_readBand := List.mem_of_getElem? (i := 1) rfl
theorem inX5_readBand_X4 : ∀ w ∈ u_ws RX4 TX4 12, w ∈ wsX5_readBand := fun _ h => List.mem_cons_of_mem _ (List.mem_append_left _ (List.mem_append_left _ (List.mem_append_right _ h)))
theorem tX5_readBand_2 : Cond.fieldLink RX5 66 "WeatherTeller$Tape" "at" "I" ∈ wsX5_readBand := List.mem_of_getElem? (i := 2) rfl
theorem inX5_readBand_X8 : ∀ w ∈ u_ws RX8 TX8 4, w ∈ wsX5_readBand := fun _ h => List.mem_cons_of_mem _ (List.mem_append_left _ (List.mem_append_right _ h))
theorem tX5_readBand_3 : Cond.fieldLink RX5 41 "WeatherTeller$RulesReader" "faultKind" "I" ∈ wsX5_readBand := List.mem_of_getElem? (i := 3) rfl
theorem inX5_readBand_X5 : ∀ w ∈ u_ws RX5 TX5 8, w ∈ wsX5_readBand := fun _ h => List.mem_cons_of_mem _ (List.mem_append_right _ h)
def j_X5_readBand_95 (N : Nat) (v2 : Int32) (w4 : Int64) (v8 : Int32) (v10 : Int32) (S12 : St) : Option (St) :=
  bd2 (f_X5_readNumber N 1 9 S12) fun v13 S14 =>
  bd2 (f_X5_readWarn N S14) fun v15 S16 =>
  bd (f_X5_readSign N 59 S16) fun S17 =>
  if (S17.1 3 5) = 0 then
    bd (f_X4_addBand N 38 v2 w4 v8 v10 v13 v15 S17) fun S19 =>
    some S19
  else
    some S17
def j_X5_readBand_88 (N : Nat) (v7 : Int32) (S11 : St) (k95 : St → Option (St))  : Option (St) :=
  bd (f_X5_fail N 5 v7 S11) fun S20 =>
  k95 S20
def j_X5_readBand_15 (N : Nat) (S1 : St) : Option (St) :=
  bd2 (f_X5_readNumber N 0 2 S1) fun v2 S3 =>
  bd2 (f_X5_readNewWord N S3) fun w4 S5 =>
  bd (f_X8_skip N 10 S5) fun S6 =>
  nm (S6.1 1 2) fun v7 =>
  bd2 (f_X5_readNumber N (-99) 999 S6) fun v8 S9 =>
  bd2 (f_X5_readNumber N (-99) 999 S9) fun v10 S11 =>
  jp (j_X5_readBand_95 N v2 w4 v8 v10) fun k95 =>
  jp (j_X5_readBand_88 N v7 S11 k95) fun k88 =>
  if v10 ≤ v8 then
    k88
  else
    bd (f_X4_overlaps N 38 v2 v8 v10 S11) fun v22 =>
    if v22 = 0 then
      k95 S11
    else
      k88
def f_X5_readBand (N : Nat) (p2 : Int32) (S : St) : Option (St) :=
  jp (j_X5_readBand_15 N) fun k15 =>
  if (S.1 38 11) < 24 then
    k15 S
  else
    bd (f_X5_fail N 2 p2 S) fun S25 =>
    k15 S25
abbrev rmX5_readBand : Room := { frames := 4, cells := 0, slots := 0, locals := 92 }
set_option maxRecDepth 100000 in
set_option maxHeartbeats 4000000 in
theorem c_X5_readBand (l : Launch) (D : va_G) (cs : Nat → ClassId) (a : Nat → Nat) (q1 q2 : Nat) (N : Nat) (p2 : Int32) (S : St) (Sz : St) (hf : f_X5_readBand N p2 S = some Sz) : gMv l yX5_readBand wsX5_readBand rmX5_readBand D cs [.ref (a 3), .ref (a 1), .ref (a 38), .int p2] (ccells cs a q1 q2 S) (ccells cs a q1 q2 Sz) := by
  unfold f_X5_readBand at hf
  refine gE_v (cc := cX5_readBand) (maxL := 12) (by decide) rfl (Nat.le_of_ble_eq_true rfl) ?_
  intro p e s m args below meth c A Q hC hA hQ hM ls hl
  obtain ⟨hx, hb, hml, hown, hts⟩ := hC.1
  have hl : lv_has ls 12 [(0, .ref (a 3)), (1, .ref (a 1)), (2, .ref (a 38)), (3, .int p2)] := hl
  refine lv_aload_n hx hb dX5_readBand_0 rfl (lv_at hl 2 rfl) ?_
  refine g_get hC hM inX5_readBand_X4 38 cE38 clX4 11 (by decide) tX5_readBand_1 TX4_11 cV38_11 dX5_readBand_1 ?_
  refine lv_bipush (v := 24) hx hb dX5_readBand_4 (by decide) ?_
  refine jp_W (fun k15 : St → Option (St) => ∀ (S1 : St), k15 S1 = some Sz → ∀ (H : Heap) (locs : List Loc) (ls : Array Slot), gw D A s.heap H locs (ccells cs a q1 q2 S1) → lv_has ls 12 [(0, .ref (a 3)), (1, .ref (a 1)), (2, .ref (a 38))] → W p l e rmX5_readBand s m args below meth c H locs 0 0 Q (F0 m 15 ls [])) ?_ ?_ hf
  · intro S1 hf H locs ls hM hl
    unfold j_X5_readBand_15 at hf
    refine lv_aload_n hx hb dX5_readBand_15 rfl (lv_at hl 0 rfl) ?_
    refine lv_aload_n hx hb dX5_readBand_16 rfl (lv_at hl 1 rfl) ?_
    refine lv_iconst (v := 0) hx hb dX5_readBand_17 (by decide) ?_
    refine lv_iconst (v := 2) hx hb dX5_readBand_18 (by decide) ?_
    obtain ⟨v2, S3, hc, hf⟩ := bd2_s hf
    refine gV_i hC hM hA hl.1 [.ref (a 1), .int 0, .int 2] [] (c_X5_readNumber l D cs a q1 q2 N 0 2 S1 v2 S3 hc) gX5_readBand_X5_readNumber rfl hd_X5_readNumber ⟨by decide, by decide⟩ 3 5 clX5 rfl cE3 (Nat.le_of_ble_eq_true rfl) dX5_readBand_19 rfl ⟨by decide, by decide⟩ (fun H locs hM => ?_)
    refine lv_istore (lv' := [(4, .int v2), (0, .ref (a 3)), (1, .ref (a 1)), (2, .ref (a 38))]) hx hb dX5_readBand_22 hl (by decide) rfl (fun ls hl => ?_)
    refine lv_aload_n hx hb dX5_readBand_24 rfl (lv_at hl 1 rfl) ?_
    refine lv_aload_n hx hb dX5_readBand_25 rfl (lv_at hl 2 rfl) ?_
    refine lv_aload_n hx hb dX5_readBand_26 rfl (lv_at hl 3 rfl) ?_
    obtain ⟨w4, S5, hc, hf⟩ := bd2_s hf
    refine gV_l hC hM hA hl.1 [.ref (a 1), .ref (a 38)] [] (c_X5_readNewWord l D cs a q1 q2 N S3 w4 S5 hc) gX5_readBand_X5_readNewWord rfl hd_X5_readNewWord ⟨by decide, by decide⟩ 3 5 clX5 rfl cE3 (Nat.le_of_ble_eq_true rfl) dX5_readBand_27 rfl ⟨by decide, by decide⟩ (fun H locs hM => ?_)
    refine lv_lstore (lv' := [(5, .long w4), (4, .int v2), (0, .ref (a 3)), (1, .ref (a 1)), (2, .ref (a 38))]) hx hb dX5_readBand_30 hl (by decide) rfl (fun ls hl => ?_)
    refine lv_aload_n hx hb dX5_readBand_32 rfl (lv_at hl 3 rfl) ?_
    refine lv_bipush (v := 10) hx hb dX5_readBand_33 (by decide) ?_
    obtain ⟨S6, hc, hf⟩ := bd_s hf
    refine gV_v hC hM hA hl.1 [.int 10] [] (c_X8_skip l D cs a q1 q2 N 10 S5 S6 hc) gX5_readBand_X8_skip rfl hd_X8_skip ⟨by decide, by decide⟩ 1 8 clX8 rfl cE1 (Nat.le_of_ble_eq_true rfl) dX5_readBand_35 rfl ⟨by decide, by decide⟩ (fun H locs hM => ?_)
    refine lv_aload_n hx hb dX5_readBand_38 rfl (lv_at hl 3 rfl) ?_
    refine g_get hC hM inX5_readBand_X8 1 cE1 clX8 2 (by decide) tX5_readBand_2 TX8_2 cV1_2 dX5_readBand_39 ?_
    refine lv_topi (fun v7 ev7 => ?_)
    replace hf := nm_q ev7 hf
    refine lv_istore (lv' := [(7, .int v7), (5, .long w4), (4, .int v2), (0, .ref (a 3)), (1, .ref (a 1)), (2, .ref (a 38))]) hx hb dX5_readBand_42 hl (by decide) rfl (fun ls hl => ?_)
    refine lv_aload_n hx hb dX5_readBand_44 rfl (lv_at hl 3 rfl) ?_
    refine lv_aload_n hx hb dX5_readBand_45 rfl (lv_at hl 4 rfl) ?_
    refine lv_bipush (v := (-99)) hx hb dX5_readBand_46 (by decide) ?_
    refine lv_sipush (v := 999) hx hb dX5_readBand_48 (by decide) ?_
    obtain ⟨v8, S9, hc, hf⟩ := bd2_s hf
    refine gV_i hC hM hA hl.1 [.ref (a 1), .int (-99), .int 999] [] (c_X5_readNumber l D cs a q1 q2 N (-99) 999 S6 v8 S9 hc) gX5_readBand_X5_readNumber rfl hd_X5_readNumber ⟨by decide, by decide⟩ 3 5 clX5 rfl cE3 (Nat.le_of_ble_eq_true rfl) dX5_readBand_51 rfl ⟨by decide, by decide⟩ (fun H locs hM => ?_)
    refine lv_istore (lv' := [(8, .int v8), (7, .int v7), (5, .long w4), (4, .int v2), (0, .ref (a 3)), (1, .ref (a 1)), (2, .ref (a 38))]) hx hb dX5_readBand_54 hl (by decide) rfl (fun ls hl => ?_)
    refine lv_aload_n hx hb dX5_readBand_56 rfl (lv_at hl 4 rfl) ?_
    refine lv_aload_n hx hb dX5_readBand_57 rfl (lv_at hl 5 rfl) ?_
    refine lv_bipush (v := (-99)) hx hb dX5_readBand_58 (by decide) ?_
    refine lv_sipush (v := 999) hx hb dX5_readBand_60 (by decide) ?_
    obtain ⟨v10, S11, hc, hf⟩ := bd2_s hf
    refine gV_i hC hM hA hl.1 [.ref (a 1), .int (-99), .int 999] [] (c_X5_readNumber l D cs a q1 q2 N (-99) 999 S9 v10 S11 hc) gX5_readBand_X5_readNumber rfl hd_X5_readNumber ⟨by decide, by decide⟩ 3 5 clX5 rfl cE3 (Nat.le_of_ble_eq_true rfl) dX5_readBand_63 rfl ⟨by decide, by decide⟩ (fun H locs hM => ?_)
    refine lv_istore (lv' := [(9, .int v10), (8, .int v8), (7, .int v7), (5, .long w4), (4, .int v2), (0, .ref (a 3)), (1, .ref (a 1)), (2, .ref (a 38))]) hx hb dX5_readBand_66 hl (by decide) rfl (fun ls hl => ?_)
    refine lv_iload hx hb dX5_readBand_68 (lv_at hl 0 rfl) ?_
    refine lv_iload hx hb dX5_readBand_70 (lv_at hl 1 rfl) ?_
    refine jp_W (fun k95 : St → Option (St) => ∀ (S12 : St), k95 S12 = some Sz → ∀ (H : Heap) (locs : List Loc) (ls : Array Slot), gw D A s.heap H locs (ccells cs a q1 q2 S12) → lv_has ls 12 [(0, .ref (a 3)), (1, .ref (a 1)), (2, .ref (a 38)), (4, .int v2), (5, .long w4), (8, .int v8), (9, .int v10)] → W p l e rmX5_readBand s m args below meth c H locs 0 0 Q (F0 m 95 ls [])) ?_ ?_ hf
    · intro S12 hf H locs ls hM hl
      unfold j_X5_readBand_95 at hf
      refine lv_aload_n hx hb dX5_readBand_95 rfl (lv_at hl 0 rfl) ?_
      refine lv_aload_n hx hb dX5_readBand_96 rfl (lv_at hl 1 rfl) ?_
      refine lv_iconst (v := 1) hx hb dX5_readBand_97 (by decide) ?_
      refine lv_bipush (v := 9) hx hb dX5_readBand_98 (by decide) ?_
      obtain ⟨v13, S14, hc, hf⟩ := bd2_s hf
      refine gV_i hC hM hA hl.1 [.ref (a 1), .int 1, .int 9] [] (c_X5_readNumber l D cs a q1 q2 N 1 9 S12 v13 S14 hc) gX5_readBand_X5_readNumber rfl hd_X5_readNumber ⟨by decide, by decide⟩ 3 5 clX5 rfl cE3 (Nat.le_of_ble_eq_true rfl) dX5_readBand_100 rfl ⟨by decide, by decide⟩ (fun H locs hM => ?_)
      refine lv_istore (lv' := [(10, .int v13), (0, .ref (a 3)), (1, .ref (a 1)), (2, .ref (a 38)), (4, .int v2), (5, .long w4), (8, .int v8), (9, .int v10)]) hx hb dX5_readBand_103 hl (by decide) rfl (fun ls hl => ?_)
      refine lv_aload_n hx hb dX5_readBand_105 rfl (lv_at hl 1 rfl) ?_
      refine lv_aload_n hx hb dX5_readBand_106 rfl (lv_at hl 2 rfl) ?_
      obtain ⟨v15, S16, hc, hf⟩ := bd2_s hf
      refine gV_i hC hM hA hl.1 [.ref (a 1)] [] (c_X5_readWarn l D cs a q1 q2 N S14 v15 S16 hc) gX5_readBand_X5_readWarn rfl hd_X5_readWarn ⟨by decide, by decide⟩ 3 5 clX5 rfl cE3 (Nat.le_of_ble_eq_true rfl) dX5_readBand_107 rfl ⟨by decide, by decide⟩ (fun H locs hM => ?_)
      refine lv_istore (lv' := [(11, .int v15), (10, .int v13), (0, .ref (a 3)), (1, .ref (a 1)), (2, .ref (a 38)), (4, .int v2), (5, .long w4), (8, .int v8), (9, .int v10)]) hx hb dX5_readBand_110 hl (by decide) rfl (fun ls hl => ?_)
      refine lv_aload_n hx hb dX5_readBand_112 rfl (lv_at hl 2 rfl) ?_
      refine lv_aload_n hx hb dX5_readBand_113 rfl (lv_at hl 3 rfl) ?_
      refine lv_bipush (v := 59) hx hb dX5_readBand_114 (by decide) ?_
      obtain ⟨S17, hc, hf⟩ := bd_s hf
      refine gV_v hC hM hA hl.1 [.ref (a 1), .int 59] [] (c_X5_readSign l D cs a q1 q2 N 59 S16 S17 hc) gX5_readBand_X5_readSign rfl hd_X5_readSign ⟨by decide, by decide⟩ 3 5 clX5 rfl cE3 (Nat.le_of_ble_eq_true rfl) dX5_readBand_116 rfl ⟨by decide, by decide⟩ (fun H locs hM => ?_)
      refine lv_aload_n hx hb dX5_readBand_119 rfl (lv_at hl 2 rfl) ?_
      refine g_get hC hM inX5_readBand_X5 3 cE3 clX5 5 (by decide) tX5_readBand_3 TX5_5 cV3_5 dX5_readBand_120 ?_
      refine lv_if_ne (tgt := 142) hx hb dX5_readBand_123 (by decide) (fun c18 => ?_) (fun c18 => ?_)
      · replace hf := it_f c18 hf
        cases so_1 hf
        exact hQ _ _ _ _ _ _ dX5_readBand_142 hM (by decide) (by decide)
      · replace hf := it_t c18 hf
        refine lv_aload_n hx hb dX5_readBand_126 rfl (lv_at hl 4 rfl) ?_
        refine lv_iload hx hb dX5_readBand_127 (lv_at hl 5 rfl) ?_
        refine lv_lload hx hb dX5_readBand_129 (lv_at hl 6 rfl) ?_
        refine lv_iload hx hb dX5_readBand_131 (lv_at hl 7 rfl) ?_
        refine lv_iload hx hb dX5_readBand_133 (lv_at hl 8 rfl) ?_
        refine lv_iload hx hb dX5_readBand_135 (lv_at hl 1 rfl) ?_
        refine lv_iload hx hb dX5_readBand_137 (lv_at hl 0 rfl) ?_
        obtain ⟨S19, hc, hf⟩ := bd_s hf
        refine gV_v hC hM hA hl.1 [.int v2, .long w4, .int v8, .int v10, .int v13, .int v15] [] (c_X4_addBand_38 l D cs a q1 q2 N v2 w4 v8 v10 v13 v15 S17 S19 hc) gX5_readBand_X4_addBand rfl hd_X4_addBand ⟨by decide, by decide⟩ 38 4 clX4 rfl cE38 (Nat.le_of_ble_eq_true rfl) dX5_readBand_139 rfl ⟨by decide, by decide⟩ (fun H locs hM => ?_)
        cases so_1 hf
        exact hQ _ _ _ _ _ _ dX5_readBand_142 hM (by decide) (by decide)
    · intro k95 hk95 hf
      refine jp_W (fun k88 : Option (St) => k88 = some Sz → ∀ (H : Heap) (locs : List Loc) (ls : Array Slot), gw D A s.heap H locs (ccells cs a q1 q2 S11) → lv_has ls 12 [(0, .ref (a 3)), (1, .ref (a 1)), (2, .ref (a 38)), (4, .int v2), (5, .long w4), (7, .int v7), (8, .int v8), (9, .int v10)] → W p l e rmX5_readBand s m args below meth c H locs 0 0 Q (F0 m 88 ls [])) ?_ ?_ hf
      · intro  hf H locs ls hM hl
        unfold j_X5_readBand_88 at hf
        refine lv_aload_n hx hb dX5_readBand_88 rfl (lv_at hl 0 rfl) ?_
        refine lv_iconst (v := 5) hx hb dX5_readBand_89 (by decide) ?_
        refine lv_iload hx hb dX5_readBand_90 (lv_at hl 5 rfl) ?_
        obtain ⟨S20, hc, hf⟩ := bd_s hf
        refine gV_v hC hM hA hl.1 [.int 5, .int v7] [] (c_X5_fail l D cs a q1 q2 N 5 v7 S11 S20 hc) gX5_readBand_X5_fail rfl hd_X5_fail ⟨by decide, by decide⟩ 3 5 clX5 rfl cE3 (Nat.le_of_ble_eq_true rfl) dX5_readBand_92 rfl ⟨by decide, by decide⟩ (fun H locs hM => ?_)
        exact hk95 _ hf _ _ _ hM (lv_sub hl [0, 1, 2, 3, 4, 6, 7] rfl)
      · intro k88 hk88 hf
        refine lv_icmp_le (tgt := 88) hx hb dX5_readBand_72 (by decide) (fun c21 => ?_) (fun c21 => ?_)
        · replace hf := it_t c21 hf
          exact hk88 hf _ _ _ hM (lv_sub hl [5, 6, 7, 4, 3, 2, 1, 0] rfl)
        · replace hf := it_f c21 hf
          refine lv_aload_n hx hb dX5_readBand_75 rfl (lv_at hl 7 rfl) ?_
          refine lv_iload hx hb dX5_readBand_76 (lv_at hl 4 rfl) ?_
          refine lv_iload hx hb dX5_readBand_78 (lv_at hl 1 rfl) ?_
          refine lv_iload hx hb dX5_readBand_80 (lv_at hl 0 rfl) ?_
          obtain ⟨v22, hc, hf⟩ := bd_s hf
          refine gV_i hC hM hA hl.1 [.int v2, .int v8, .int v10] [] (c_X4_overlaps_38 l D cs a q1 q2 N v2 v8 v10 S11 v22 hc) gX5_readBand_X4_overlaps rfl hd_X4_overlaps ⟨by decide, by decide⟩ 38 4 clX4 rfl cE38 (Nat.le_of_ble_eq_true rfl) dX5_readBand_82 rfl ⟨by decide, by decide⟩ (fun H locs hM => ?_)
          refine lv_if_eq (tgt := 95) hx hb dX5_readBand_85 (by decide) (fun c23 => ?_) (fun c23 => ?_)
          · replace hf := it_t c23 hf
            exact hk95 _ hf _ _ _ hM (lv_sub hl [5, 6, 7, 4, 3, 1, 0] rfl)
          · replace hf := it_f c23 hf
            exact hk88 hf _ _ _ hM (lv_sub hl [5, 6, 7, 4, 3, 2, 1, 0] rfl)
  · intro k15 hk15 hf
    refine lv_icmp_lt (tgt := 15) hx hb dX5_readBand_6 (by decide) (fun c24 => ?_) (fun c24 => ?_)
    · replace hf := it_t c24 hf
      exact hk15 _ hf _ _ _ hM (lv_sub hl [0, 1, 2] rfl)
    · replace hf := it_f c24 hf
      refine lv_aload_n hx hb dX5_readBand_9 rfl (lv_at hl 0 rfl) ?_
      refine lv_iconst (v := 2) hx hb dX5_readBand_10 (by decide) ?_
      refine lv_iload_n hx hb dX5_readBand_11 rfl (lv_at hl 3 rfl) ?_
      obtain ⟨S25, hc, hf⟩ := bd_s hf
      refine gV_v hC hM hA hl.1 [.int 2, .int p2] [] (c_X5_fail l D cs a q1 q2 N 2 p2 S S25 hc) gX5_readBand_X5_fail rfl hd_X5_fail ⟨by decide, by decide⟩ 3 5 clX5 rfl cE3 (Nat.le_of_ble_eq_true rfl) dX5_readBand_12 rfl ⟨by decide, by decide⟩ (fun H locs hM => ?_)
      exact hk15 _ hf _ _ _ hM (lv_sub hl [0, 1, 2] rfl)

theorem hd_X5_read : yX5_read.cls = RX5 ∧ yX5_read.cls ≠ "java/lang/invoke/MethodHandle" ∧ yX5_read.cls ≠ "java/lang/invoke/VarHandle" ∧ (parseMethodDescriptor yX5_read.desc).map (fun d => d.parameters.length) = some 2 := by decide +kernel
theorem tX5_read_1 : Cond.fieldLink RX5 41 "WeatherTeller$RulesReader" "faultKind" "I" ∈ wsX5_read := List.mem_of_getElem? (i := 1) rfl
theorem inX5_read_X5 : ∀ w ∈ u_ws RX5 TX5 8, w ∈ wsX5_read := fun _ h => List.mem_cons_of_mem _ (List.mem_append_left _ (List.mem_append_left _ (List.mem_append_right _ h)))
theorem tX5_read_2 : Cond.fieldLink RX5 45 "WeatherTeller$RulesReader" "faultPlace" "I" ∈ wsX5_read := List.mem_of_getElem? (i := 2) rfl
theorem tX5_read_3 : Cond.fieldLink RX5 66 "WeatherTeller$Tape" "at" "I" ∈ wsX5_read := List.mem_of_getElem? (i := 3) rfl
theorem inX5_read_X8 : ∀ w ∈ u_ws RX8 TX8 4, w ∈ wsX5_read := fun _ h => List.mem_cons_of_mem _ (List.mem_append_left _ (List.mem_append_right _ h))
theorem tX5_read_4 : Cond.fieldLink RX5 15 "WeatherTeller$RulesReader" "placeWord" "J" ∈ wsX5_read := List.mem_of_getElem? (i := 4) rfl
theorem tX5_read_5 : Cond.fieldLink RX5 23 "WeatherTeller$RulesReader" "regionWord" "J" ∈ wsX5_read := List.mem_of_getElem? (i := 5) rfl
theorem tX5_read_6 : Cond.fieldLink RX5 28 "WeatherTeller$RulesReader" "bandWord" "J" ∈ wsX5_read := List.mem_of_getElem? (i := 6) rfl
def j_X5_read_125 (N : Nat) (v5 : Int32) (k22 : Int32 → St → Option (St)) (S14 : St) : Option (St) :=
  bd (f_X8_skip N 10 S14) fun S15 =>
  nm (v5 + 1) fun v16 =>
  k22 v16 S15
def b_X5_read_22 (N : Nat) (k22 : Int32 → St → Option (St)) (v5 : Int32) (S6 : St) : Option (St) :=
  if 1000 ≤ v5 then
    some S6
  else
    if (S6.1 3 5) = 0 then
      bd (f_X8_isAtEnd N S6) fun v9 =>
      if v9 = 0 then
        nm (S6.1 1 2) fun v11 =>
        bd2 (f_X8_takeWord N S6) fun w12 S13 =>
        jp (j_X5_read_125 N v5 k22) fun k125 =>
        if (lg_cmp w12 (S13.2 3 0)) = 0 then
          bd (f_X5_readPlace N v11 S13) fun S23 =>
          k125 S23
        else
          if (lg_cmp w12 (S13.2 3 1)) = 0 then
            bd (f_X5_readRegion N v11 S13) fun S22 =>
            k125 S22
          else
            if (lg_cmp w12 (S13.2 3 2)) = 0 then
              bd (f_X5_readBand N v11 S13) fun S21 =>
              k125 S21
            else
              bd (f_X5_fail N 1 v11 S13) fun S20 =>
              k125 S20
      else
        some S6
    else
      some S6
def f_X5_read (N : Nat)  (S : St) : Option (St) :=
  nm (puI S 3 5 0) fun S1 =>
  nm (puI S1 3 6 (-1)) fun S2 =>
  bd (f_X4_clear N 38 S2) fun S3 =>
  bd (f_X8_skip N 10 S3) fun S4 =>
  jp (lp (fun _ _ => none) (b_X5_read_22 N) N) fun k22 =>
  k22 0 S4
abbrev rmX5_read : Room := { frames := 5, cells := 0, slots := 0, locals := 123 }
set_option maxRecDepth 100000 in
set_option maxHeartbeats 4000000 in
theorem c_X5_read (l : Launch) (D : va_G) (cs : Nat → ClassId) (a : Nat → Nat) (q1 q2 : Nat) (N : Nat) (S : St) (Sz : St) (hf : f_X5_read N S = some Sz) : gMv l yX5_read wsX5_read rmX5_read D cs [.ref (a 3), .ref (a 1), .ref (a 38)] (ccells cs a q1 q2 S) (ccells cs a q1 q2 Sz) := by
  unfold f_X5_read at hf
  refine gE_v (cc := cX5_read) (maxL := 7) (by decide) rfl (Nat.le_of_ble_eq_true rfl) ?_
  intro p e s m args below meth c A Q hC hA hQ hM ls hl
  obtain ⟨hx, hb, hml, hown, hts⟩ := hC.1
  have hl : lv_has ls 7 [(0, .ref (a 3)), (1, .ref (a 1)), (2, .ref (a 38))] := hl
  refine lv_aload_n hx hb dX5_read_0 rfl (lv_at hl 0 rfl) ?_
  refine lv_iconst (v := 0) hx hb dX5_read_1 (by decide) ?_
  refine g_put hC hM inX5_read_X5 tyX5_ok nmX5 3 cE3 clX5 5 (by decide) tX5_read_1 TX5_5 tyX5_5 rfl rfl (by rw [cL3]; decide) cP3_5 dX5_read_2 (fun H locs hM => ?_)
  obtain ⟨S1, hf, hM⟩ := cnm hf hM
  refine lv_aload_n hx hb dX5_read_5 rfl (lv_at hl 0 rfl) ?_
  refine lv_iconst (v := (-1)) hx hb dX5_read_6 (by decide) ?_
  refine g_put hC hM inX5_read_X5 tyX5_ok nmX5 3 cE3 clX5 6 (by decide) tX5_read_2 TX5_6 tyX5_6 rfl rfl (by rw [cL3]; decide) cP3_6 dX5_read_7 (fun H locs hM => ?_)
  obtain ⟨S2, hf, hM⟩ := cnm hf hM
  refine lv_aload_n hx hb dX5_read_10 rfl (lv_at hl 2 rfl) ?_
  obtain ⟨S3, hc, hf⟩ := bd_s hf
  refine gV_v hC hM hA hl.1 [] [] (c_X4_clear_38 l D cs a q1 q2 N S2 S3 hc) gX5_read_X4_clear rfl hd_X4_clear ⟨by decide, by decide⟩ 38 4 clX4 rfl cE38 (Nat.le_of_ble_eq_true rfl) dX5_read_11 rfl ⟨by decide, by decide⟩ (fun H locs hM => ?_)
  refine lv_aload_n hx hb dX5_read_14 rfl (lv_at hl 1 rfl) ?_
  refine lv_bipush (v := 10) hx hb dX5_read_15 (by decide) ?_
  obtain ⟨S4, hc, hf⟩ := bd_s hf
  refine gV_v hC hM hA hl.1 [.int 10] [] (c_X8_skip l D cs a q1 q2 N 10 S3 S4 hc) gX5_read_X8_skip rfl hd_X8_skip ⟨by decide, by decide⟩ 1 8 clX8 rfl cE1 (Nat.le_of_ble_eq_true rfl) dX5_read_17 rfl ⟨by decide, by decide⟩ (fun H locs hM => ?_)
  refine lv_iconst (v := 0) hx hb dX5_read_20 (by decide) ?_
  refine lv_istore_n (lv' := [(3, .int 0), (0, .ref (a 3)), (1, .ref (a 1)), (2, .ref (a 38))]) hx hb dX5_read_21 rfl hl (by decide) rfl (fun ls hl => ?_)
  refine jl_W (fun k22 : Int32 → St → Option (St) => ∀ (v5 : Int32) (S6 : St), k22 v5 S6 = some Sz → ∀ (H : Heap) (locs : List Loc) (ls : Array Slot), gw D A s.heap H locs (ccells cs a q1 q2 S6) → lv_has ls 7 [(0, .ref (a 3)), (1, .ref (a 1)), (2, .ref (a 38)), (3, .int v5)] → W p l e rmX5_read s m args below meth c H locs 0 0 Q (F0 m 22 ls [])) ?_ ?_ ?_ hf
  · intro v5 S6 h; cases h
  · intro k22 hk22 v5 S6 hf H locs ls hM hl
    unfold b_X5_read_22 at hf
    refine lv_iload_n hx hb dX5_read_22 rfl (lv_at hl 3 rfl) ?_
    refine lv_sipush (v := 1000) hx hb dX5_read_23 (by decide) ?_
    refine lv_icmp_ge (tgt := 137) hx hb dX5_read_26 (by decide) (fun c7 => ?_) (fun c7 => ?_)
    · replace hf := it_t c7 hf
      cases so_1 hf
      exact hQ _ _ _ _ _ _ dX5_read_137 hM (by decide) (by decide)
    · replace hf := it_f c7 hf
      refine lv_aload_n hx hb dX5_read_29 rfl (lv_at hl 0 rfl) ?_
      refine g_get hC hM inX5_read_X5 3 cE3 clX5 5 (by decide) tX5_read_1 TX5_5 cV3_5 dX5_read_30 ?_
      refine lv_if_ne (tgt := 137) hx hb dX5_read_33 (by decide) (fun c8 => ?_) (fun c8 => ?_)
      · replace hf := it_f c8 hf
        cases so_1 hf
        exact hQ _ _ _ _ _ _ dX5_read_137 hM (by decide) (by decide)
      · replace hf := it_t c8 hf
        refine lv_aload_n hx hb dX5_read_36 rfl (lv_at hl 1 rfl) ?_
        obtain ⟨v9, hc, hf⟩ := bd_s hf
        refine gV_i hC hM hA hl.1 [] [] (c_X8_isAtEnd l D cs a q1 q2 N S6 v9 hc) gX5_read_X8_isAtEnd rfl hd_X8_isAtEnd ⟨by decide, by decide⟩ 1 8 clX8 rfl cE1 (Nat.le_of_ble_eq_true rfl) dX5_read_37 rfl ⟨by decide, by decide⟩ (fun H locs hM => ?_)
        refine lv_if_ne (tgt := 137) hx hb dX5_read_40 (by decide) (fun c10 => ?_) (fun c10 => ?_)
        · replace hf := it_f c10 hf
          cases so_1 hf
          exact hQ _ _ _ _ _ _ dX5_read_137 hM (by decide) (by decide)
        · replace hf := it_t c10 hf
          refine lv_aload_n hx hb dX5_read_43 rfl (lv_at hl 1 rfl) ?_
          refine g_get hC hM inX5_read_X8 1 cE1 clX8 2 (by decide) tX5_read_3 TX8_2 cV1_2 dX5_read_44 ?_
          refine lv_topi (fun v11 ev11 => ?_)
          replace hf := nm_q ev11 hf
          refine lv_istore (lv' := [(4, .int v11), (0, .ref (a 3)), (1, .ref (a 1)), (2, .ref (a 38)), (3, .int v5)]) hx hb dX5_read_47 hl (by decide) rfl (fun ls hl => ?_)
          refine lv_aload_n hx hb dX5_read_49 rfl (lv_at hl 2 rfl) ?_
          obtain ⟨w12, S13, hc, hf⟩ := bd2_s hf
          refine gV_l hC hM hA hl.1 [] [] (c_X8_takeWord l D cs a q1 q2 N S6 w12 S13 hc) gX5_read_X8_takeWord rfl hd_X8_takeWord ⟨by decide, by decide⟩ 1 8 clX8 rfl cE1 (Nat.le_of_ble_eq_true rfl) dX5_read_50 rfl ⟨by decide, by decide⟩ (fun H locs hM => ?_)
          refine lv_lstore (lv' := [(5, .long w12), (4, .int v11), (0, .ref (a 3)), (1, .ref (a 1)), (2, .ref (a 38)), (3, .int v5)]) hx hb dX5_read_53 hl (by decide) rfl (fun ls hl => ?_)
          refine lv_lload hx hb dX5_read_55 (lv_at hl 0 rfl) ?_
          refine lv_aload_n hx hb dX5_read_57 rfl (lv_at hl 2 rfl) ?_
          refine g_get hC hM inX5_read_X5 3 cE3 clX5 0 (by decide) tX5_read_4 TX5_0 cV3_0 dX5_read_58 ?_
          refine W.lcmp hx hb dX5_read_61 ?_
          refine jp_W (fun k125 : St → Option (St) => ∀ (S14 : St), k125 S14 = some Sz → ∀ (H : Heap) (locs : List Loc) (ls : Array Slot), gw D A s.heap H locs (ccells cs a q1 q2 S14) → lv_has ls 7 [(0, .ref (a 3)), (1, .ref (a 1)), (2, .ref (a 38)), (3, .int v5)] → W p l e rmX5_read s m args below meth c H locs 0 0 Q (F0 m 125 ls [])) ?_ ?_ hf
          · intro S14 hf H locs ls hM hl
            unfold j_X5_read_125 at hf
            refine lv_aload_n hx hb dX5_read_125 rfl (lv_at hl 1 rfl) ?_
            refine lv_bipush (v := 10) hx hb dX5_read_126 (by decide) ?_
            obtain ⟨S15, hc, hf⟩ := bd_s hf
            refine gV_v hC hM hA hl.1 [.int 10] [] (c_X8_skip l D cs a q1 q2 N 10 S14 S15 hc) gX5_read_X8_skip rfl hd_X8_skip ⟨by decide, by decide⟩ 1 8 clX8 rfl cE1 (Nat.le_of_ble_eq_true rfl) dX5_read_128 rfl ⟨by decide, by decide⟩ (fun H locs hM => ?_)
            obtain ⟨v16, ev16⟩ : ∃ y : Int32, y = v5 + 1 := ⟨_, rfl⟩
            replace hf := nm_q ev16 hf
            refine lv_iinc (v := v16) (lv' := [(3, .int v16), (0, .ref (a 3)), (1, .ref (a 1)), (2, .ref (a 38))]) hx hb dX5_read_131 hl (k := 3) rfl (by rw [ev16]; rfl) (by decide) rfl (fun ls hl => ?_)
            refine lv_goto (tgt := 22) hx hb dX5_read_134 (by decide) ?_
            exact hk22 _ _ hf _ _ _ hM (lv_sub hl [1, 2, 3, 0] rfl)
          · intro k125 hk125 hf
            refine lv_if_ne (tgt := 76) hx hb dX5_read_62 (by decide) (fun c17 => ?_) (fun c17 => ?_)
            · replace hf := it_f c17 hf
              refine lv_lload hx hb dX5_read_76 (lv_at hl 0 rfl) ?_
              refine lv_aload_n hx hb dX5_read_78 rfl (lv_at hl 2 rfl) ?_
              refine g_get hC hM inX5_read_X5 3 cE3 clX5 1 (by decide) tX5_read_5 TX5_1 cV3_1 dX5_read_79 ?_
              refine W.lcmp hx hb dX5_read_82 ?_
              refine lv_if_ne (tgt := 97) hx hb dX5_read_83 (by decide) (fun c18 => ?_) (fun c18 => ?_)
              · replace hf := it_f c18 hf
                refine lv_lload hx hb dX5_read_97 (lv_at hl 0 rfl) ?_
                refine lv_aload_n hx hb dX5_read_99 rfl (lv_at hl 2 rfl) ?_
                refine g_get hC hM inX5_read_X5 3 cE3 clX5 2 (by decide) tX5_read_6 TX5_2 cV3_2 dX5_read_100 ?_
                refine W.lcmp hx hb dX5_read_103 ?_
                refine lv_if_ne (tgt := 118) hx hb dX5_read_104 (by decide) (fun c19 => ?_) (fun c19 => ?_)
                · replace hf := it_f c19 hf
                  refine lv_aload_n hx hb dX5_read_118 rfl (lv_at hl 2 rfl) ?_
                  refine lv_iconst (v := 1) hx hb dX5_read_119 (by decide) ?_
                  refine lv_iload hx hb dX5_read_120 (lv_at hl 1 rfl) ?_
                  obtain ⟨S20, hc, hf⟩ := bd_s hf
                  refine gV_v hC hM hA hl.1 [.int 1, .int v11] [] (c_X5_fail l D cs a q1 q2 N 1 v11 S13 S20 hc) gX5_read_X5_fail rfl hd_X5_fail ⟨by decide, by decide⟩ 3 5 clX5 rfl cE3 (Nat.le_of_ble_eq_true rfl) dX5_read_122 rfl ⟨by decide, by decide⟩ (fun H locs hM => ?_)
                  exact hk125 _ hf _ _ _ hM (lv_sub hl [2, 3, 4, 5] rfl)
                · replace hf := it_t c19 hf
                  refine lv_aload_n hx hb dX5_read_107 rfl (lv_at hl 2 rfl) ?_
                  refine lv_aload_n hx hb dX5_read_108 rfl (lv_at hl 3 rfl) ?_
                  refine lv_aload_n hx hb dX5_read_109 rfl (lv_at hl 4 rfl) ?_
                  refine lv_iload hx hb dX5_read_110 (lv_at hl 1 rfl) ?_
                  obtain ⟨S21, hc, hf⟩ := bd_s hf
                  refine gV_v hC hM hA hl.1 [.ref (a 1), .ref (a 38), .int v11] [] (c_X5_readBand l D cs a q1 q2 N v11 S13 S21 hc) gX5_read_X5_readBand rfl hd_X5_readBand ⟨by decide, by decide⟩ 3 5 clX5 rfl cE3 (Nat.le_of_ble_eq_true rfl) dX5_read_112 rfl ⟨by decide, by decide⟩ (fun H locs hM => ?_)
                  refine lv_goto (tgt := 125) hx hb dX5_read_115 (by decide) ?_
                  exact hk125 _ hf _ _ _ hM (lv_sub hl [2, 3, 4, 5] rfl)
              · replace hf := it_t c18 hf
                refine lv_aload_n hx hb dX5_read_86 rfl (lv_at hl 2 rfl) ?_
                refine lv_aload_n hx hb dX5_read_87 rfl (lv_at hl 3 rfl) ?_
                refine lv_aload_n hx hb dX5_read_88 rfl (lv_at hl 4 rfl) ?_
                refine lv_iload hx hb dX5_read_89 (lv_at hl 1 rfl) ?_
                obtain ⟨S22, hc, hf⟩ := bd_s hf
                refine gV_v hC hM hA hl.1 [.ref (a 1), .ref (a 38), .int v11] [] (c_X5_readRegion l D cs a q1 q2 N v11 S13 S22 hc) gX5_read_X5_readRegion rfl hd_X5_readRegion ⟨by decide, by decide⟩ 3 5 clX5 rfl cE3 (Nat.le_of_ble_eq_true rfl) dX5_read_91 rfl ⟨by decide, by decide⟩ (fun H locs hM => ?_)
                refine lv_goto (tgt := 125) hx hb dX5_read_94 (by decide) ?_
                exact hk125 _ hf _ _ _ hM (lv_sub hl [2, 3, 4, 5] rfl)
            · replace hf := it_t c17 hf
              refine lv_aload_n hx hb dX5_read_65 rfl (lv_at hl 2 rfl) ?_
              refine lv_aload_n hx hb dX5_read_66 rfl (lv_at hl 3 rfl) ?_
              refine lv_aload_n hx hb dX5_read_67 rfl (lv_at hl 4 rfl) ?_
              refine lv_iload hx hb dX5_read_68 (lv_at hl 1 rfl) ?_
              obtain ⟨S23, hc, hf⟩ := bd_s hf
              refine gV_v hC hM hA hl.1 [.ref (a 1), .ref (a 38), .int v11] [] (c_X5_readPlace l D cs a q1 q2 N v11 S13 S23 hc) gX5_read_X5_readPlace rfl hd_X5_readPlace ⟨by decide, by decide⟩ 3 5 clX5 rfl cE3 (Nat.le_of_ble_eq_true rfl) dX5_read_70 rfl ⟨by decide, by decide⟩ (fun H locs hM => ?_)
              refine lv_goto (tgt := 125) hx hb dX5_read_73 (by decide) ?_
              exact hk125 _ hf _ _ _ hM (lv_sub hl [2, 3, 4, 5] rfl)
  · intro k22 hk22 hf
    exact hk22 _ _ hf _ _ _ hM (lv_sub hl [1, 2, 3, 0] rfl)

theorem hd_X1_readSign : yX1_readSign.cls = RX1 ∧ yX1_readSign.cls ≠ "java/lang/invoke/MethodHandle" ∧ yX1_readSign.cls ≠ "java/lang/invoke/VarHandle" ∧ (parseMethodDescriptor yX1_readSign.desc).map (fun d => d.parameters.length) = some 2 := by decide +kernel
def f_X1_readSign (N : Nat) (p1 : Int32) (S : St) : Option (Int32 × St) :=
  zb <|
  bd (f_X8_skip N 32 S) fun S1 =>
  bd2 (f_X8_take N p1 S1) fun v2 S3 =>
  some (v2, S3)
abbrev rmX1_readSign : Room := { frames := 2, cells := 0, slots := 0, locals := 41 }
set_option maxRecDepth 100000 in
set_option maxHeartbeats 4000000 in
theorem c_X1_readSign (l : Launch) (D : va_G) (cs : Nat → ClassId) (a : Nat → Nat) (q1 q2 : Nat) (N : Nat) (p1 : Int32) (S : St) (rz : Int32) (Sz : St) (hf : f_X1_readSign N p1 S = some (rz, Sz)) : gMi l yX1_readSign wsX1_readSign rmX1_readSign D cs [.ref (a 4), .ref (a 1), .int p1] (ccells cs a q1 q2 S) rz (ccells cs a q1 q2 Sz) := by
  unfold f_X1_readSign at hf
  obtain ⟨hrz, hf⟩ := zb_s hf
  refine gE_z (cc := cX1_readSign) (maxL := 3) hrz (by decide) rfl (Nat.le_of_ble_eq_true rfl) ?_
  intro p e s m args below meth c A Q hC hA hQ hM ls hl
  obtain ⟨hx, hb, hml, hown, hts⟩ := hC.1
  have hl : lv_has ls 3 [(0, .ref (a 4)), (1, .ref (a 1)), (2, .int p1)] := hl
  refine lv_aload_n hx hb dX1_readSign_0 rfl (lv_at hl 1 rfl) ?_
  refine lv_bipush (v := 32) hx hb dX1_readSign_1 (by decide) ?_
  obtain ⟨S1, hc, hf⟩ := bd_s hf
  refine gV_v hC hM hA hl.1 [.int 32] [] (c_X8_skip l D cs a q1 q2 N 32 S S1 hc) gX1_readSign_X8_skip rfl hd_X8_skip ⟨by decide, by decide⟩ 1 8 clX8 rfl cE1 (Nat.le_of_ble_eq_true rfl) dX1_readSign_3 rfl ⟨by decide, by decide⟩ (fun H locs hM => ?_)
  refine lv_aload_n hx hb dX1_readSign_6 rfl (lv_at hl 1 rfl) ?_
  refine lv_iload_n hx hb dX1_readSign_7 rfl (lv_at hl 2 rfl) ?_
  obtain ⟨v2, S3, hc, hf⟩ := bd2_s hf
  refine gV_i hC hM hA hl.1 [.int p1] [] (c_X8_take l D cs a q1 q2 N p1 S1 v2 S3 hc) gX1_readSign_X8_take rfl hd_X8_take ⟨by decide, by decide⟩ 1 8 clX8 rfl cE1 (Nat.le_of_ble_eq_true rfl) dX1_readSign_8 rfl ⟨by decide, by decide⟩ (fun H locs hM => ?_)
  obtain ⟨e1, e2⟩ := so_2 hf
  cases e1; cases e2
  exact hQ _ _ _ _ _ _ dX1_readSign_11 hM (by decide) (by decide)

theorem hd_X1_readHours : yX1_readHours.cls = RX1 ∧ yX1_readHours.cls ≠ "java/lang/invoke/MethodHandle" ∧ yX1_readHours.cls ≠ "java/lang/invoke/VarHandle" ∧ (parseMethodDescriptor yX1_readHours.desc).map (fun d => d.parameters.length) = some 1 := by decide +kernel
theorem tX1_readHours_1 : Cond.fieldLink RX1 28 "WeatherTeller$ClauseReader" "from" "I" ∈ wsX1_readHours := List.mem_of_getElem? (i := 1) rfl
theorem inX1_readHours_X1 : ∀ w ∈ u_ws RX1 TX1 5, w ∈ wsX1_readHours := fun _ h => List.mem_cons_of_mem _ (List.mem_append_left _ (List.mem_append_right _ h))
theorem tX1_readHours_2 : Cond.fieldLink RX1 31 "WeatherTeller$ClauseReader" "to" "I" ∈ wsX1_readHours := List.mem_of_getElem? (i := 2) rfl
def f_X1_readHours (N : Nat)  (S : St) : Option (Int32 × St) :=
  zb <|
  bd (f_X8_skip N 32 S) fun S1 =>
  bd2 (f_X8_takeDigits N S1) fun v2 S3 =>
  nm (puI S3 4 3 v2) fun S4 =>
  if (S4.1 4 3) = (-1) then
    some (0, S4)
  else
    bd2 (f_X1_readSign N 45 S4) fun v6 S7 =>
    if v6 = 0 then
      some (0, S7)
    else
      bd (f_X8_skip N 32 S7) fun S9 =>
      bd2 (f_X8_takeDigits N S9) fun v10 S11 =>
      nm (puI S11 4 4 v10) fun S12 =>
      if (S12.1 4 4) = (-1) then
        some (0, S12)
      else
        bd2 (f_X1_readSign N 46 S12) fun v14 S15 =>
        if v14 = 0 then
          some (0, S15)
        else
          some (1, S15)
abbrev rmX1_readHours : Room := { frames := 3, cells := 0, slots := 0, locals := 63 }
set_option maxRecDepth 100000 in
set_option maxHeartbeats 4000000 in
theorem c_X1_readHours (l : Launch) (D : va_G) (cs : Nat → ClassId) (a : Nat → Nat) (q1 q2 : Nat) (N : Nat) (S : St) (rz : Int32) (Sz : St) (hf : f_X1_readHours N S = some (rz, Sz)) : gMi l yX1_readHours wsX1_readHours rmX1_readHours D cs [.ref (a 4), .ref (a 1)] (ccells cs a q1 q2 S) rz (ccells cs a q1 q2 Sz) := by
  unfold f_X1_readHours at hf
  obtain ⟨hrz, hf⟩ := zb_s hf
  refine gE_z (cc := cX1_readHours) (maxL := 2) hrz (by decide) rfl (Nat.le_of_ble_eq_true rfl) ?_
  intro p e s m args below meth c A Q hC hA hQ hM ls hl
  obtain ⟨hx, hb, hml, hown, hts⟩ := hC.1
  have hl : lv_has ls 2 [(0, .ref (a 4)), (1, .ref (a 1))] := hl
  refine lv_aload_n hx hb dX1_readHours_0 rfl (lv_at hl 1 rfl) ?_
  refine lv_bipush (v := 32) hx hb dX1_readHours_1 (by decide) ?_
  obtain ⟨S1, hc, hf⟩ := bd_s hf
  refine gV_v hC hM hA hl.1 [.int 32] [] (c_X8_skip l D cs a q1 q2 N 32 S S1 hc) gX1_readHours_X8_skip rfl hd_X8_skip ⟨by decide, by decide⟩ 1 8 clX8 rfl cE1 (Nat.le_of_ble_eq_true rfl) dX1_readHours_3 rfl ⟨by decide, by decide⟩ (fun H locs hM => ?_)
  refine lv_aload_n hx hb dX1_readHours_6 rfl (lv_at hl 0 rfl) ?_
  refine lv_aload_n hx hb dX1_readHours_7 rfl (lv_at hl 1 rfl) ?_
  obtain ⟨v2, S3, hc, hf⟩ := bd2_s hf
  refine gV_i hC hM hA hl.1 [] [.ref (a 4)] (c_X8_takeDigits l D cs a q1 q2 N S1 v2 S3 hc) gX1_readHours_X8_takeDigits rfl hd_X8_takeDigits ⟨by decide, by decide⟩ 1 8 clX8 rfl cE1 (Nat.le_of_ble_eq_true rfl) dX1_readHours_8 rfl ⟨by decide, by decide⟩ (fun H locs hM => ?_)
  refine g_put hC hM inX1_readHours_X1 tyX1_ok nmX1 4 cE4 clX1 3 (by decide) tX1_readHours_1 TX1_3 tyX1_3 rfl rfl (by rw [cL4]; decide) cP4_3 dX1_readHours_11 (fun H locs hM => ?_)
  obtain ⟨S4, hf, hM⟩ := cnm hf hM
  refine lv_aload_n hx hb dX1_readHours_14 rfl (lv_at hl 0 rfl) ?_
  refine g_get hC hM inX1_readHours_X1 4 cE4 clX1 3 (by decide) tX1_readHours_1 TX1_3 cV4_3 dX1_readHours_15 ?_
  refine lv_iconst (v := (-1)) hx hb dX1_readHours_18 (by decide) ?_
  refine lv_icmp_eq (tgt := 32) hx hb dX1_readHours_19 (by decide) (fun c5 => ?_) (fun c5 => ?_)
  · replace hf := it_t c5 hf
    refine lv_iconst (v := 0) hx hb dX1_readHours_32 (by decide) ?_
    obtain ⟨e1, e2⟩ := so_2 hf
    cases e1; cases e2
    exact hQ _ _ _ _ _ _ dX1_readHours_33 hM (by decide) (by decide)
  · replace hf := it_f c5 hf
    refine lv_aload_n hx hb dX1_readHours_22 rfl (lv_at hl 0 rfl) ?_
    refine lv_aload_n hx hb dX1_readHours_23 rfl (lv_at hl 1 rfl) ?_
    refine lv_bipush (v := 45) hx hb dX1_readHours_24 (by decide) ?_
    obtain ⟨v6, S7, hc, hf⟩ := bd2_s hf
    refine gV_i hC hM hA hl.1 [.ref (a 1), .int 45] [] (c_X1_readSign l D cs a q1 q2 N 45 S4 v6 S7 hc) gX1_readHours_X1_readSign rfl hd_X1_readSign ⟨by decide, by decide⟩ 4 1 clX1 rfl cE4 (Nat.le_of_ble_eq_true rfl) dX1_readHours_26 rfl ⟨by decide, by decide⟩ (fun H locs hM => ?_)
    refine lv_if_ne (tgt := 34) hx hb dX1_readHours_29 (by decide) (fun c8 => ?_) (fun c8 => ?_)
    · replace hf := it_f c8 hf
      refine lv_aload_n hx hb dX1_readHours_34 rfl (lv_at hl 1 rfl) ?_
      refine lv_bipush (v := 32) hx hb dX1_readHours_35 (by decide) ?_
      obtain ⟨S9, hc, hf⟩ := bd_s hf
      refine gV_v hC hM hA hl.1 [.int 32] [] (c_X8_skip l D cs a q1 q2 N 32 S7 S9 hc) gX1_readHours_X8_skip rfl hd_X8_skip ⟨by decide, by decide⟩ 1 8 clX8 rfl cE1 (Nat.le_of_ble_eq_true rfl) dX1_readHours_37 rfl ⟨by decide, by decide⟩ (fun H locs hM => ?_)
      refine lv_aload_n hx hb dX1_readHours_40 rfl (lv_at hl 0 rfl) ?_
      refine lv_aload_n hx hb dX1_readHours_41 rfl (lv_at hl 1 rfl) ?_
      obtain ⟨v10, S11, hc, hf⟩ := bd2_s hf
      refine gV_i hC hM hA hl.1 [] [.ref (a 4)] (c_X8_takeDigits l D cs a q1 q2 N S9 v10 S11 hc) gX1_readHours_X8_takeDigits rfl hd_X8_takeDigits ⟨by decide, by decide⟩ 1 8 clX8 rfl cE1 (Nat.le_of_ble_eq_true rfl) dX1_readHours_42 rfl ⟨by decide, by decide⟩ (fun H locs hM => ?_)
      refine g_put hC hM inX1_readHours_X1 tyX1_ok nmX1 4 cE4 clX1 4 (by decide) tX1_readHours_2 TX1_4 tyX1_4 rfl rfl (by rw [cL4]; decide) cP4_4 dX1_readHours_45 (fun H locs hM => ?_)
      obtain ⟨S12, hf, hM⟩ := cnm hf hM
      refine lv_aload_n hx hb dX1_readHours_48 rfl (lv_at hl 0 rfl) ?_
      refine g_get hC hM inX1_readHours_X1 4 cE4 clX1 4 (by decide) tX1_readHours_2 TX1_4 cV4_4 dX1_readHours_49 ?_
      refine lv_iconst (v := (-1)) hx hb dX1_readHours_52 (by decide) ?_
      refine lv_icmp_eq (tgt := 70) hx hb dX1_readHours_53 (by decide) (fun c13 => ?_) (fun c13 => ?_)
      · replace hf := it_t c13 hf
        refine lv_iconst (v := 0) hx hb dX1_readHours_70 (by decide) ?_
        obtain ⟨e1, e2⟩ := so_2 hf
        cases e1; cases e2
        exact hQ _ _ _ _ _ _ dX1_readHours_71 hM (by decide) (by decide)
      · replace hf := it_f c13 hf
        refine lv_aload_n hx hb dX1_readHours_56 rfl (lv_at hl 0 rfl) ?_
        refine lv_aload_n hx hb dX1_readHours_57 rfl (lv_at hl 1 rfl) ?_
        refine lv_bipush (v := 46) hx hb dX1_readHours_58 (by decide) ?_
        obtain ⟨v14, S15, hc, hf⟩ := bd2_s hf
        refine gV_i hC hM hA hl.1 [.ref (a 1), .int 46] [] (c_X1_readSign l D cs a q1 q2 N 46 S12 v14 S15 hc) gX1_readHours_X1_readSign rfl hd_X1_readSign ⟨by decide, by decide⟩ 4 1 clX1 rfl cE4 (Nat.le_of_ble_eq_true rfl) dX1_readHours_60 rfl ⟨by decide, by decide⟩ (fun H locs hM => ?_)
        refine lv_if_eq (tgt := 70) hx hb dX1_readHours_63 (by decide) (fun c16 => ?_) (fun c16 => ?_)
        · replace hf := it_t c16 hf
          refine lv_iconst (v := 0) hx hb dX1_readHours_70 (by decide) ?_
          obtain ⟨e1, e2⟩ := so_2 hf
          cases e1; cases e2
          exact hQ _ _ _ _ _ _ dX1_readHours_71 hM (by decide) (by decide)
        · replace hf := it_f c16 hf
          refine lv_iconst (v := 1) hx hb dX1_readHours_66 (by decide) ?_
          refine lv_goto (tgt := 71) hx hb dX1_readHours_67 (by decide) ?_
          obtain ⟨e1, e2⟩ := so_2 hf
          cases e1; cases e2
          exact hQ _ _ _ _ _ _ dX1_readHours_71 hM (by decide) (by decide)
    · replace hf := it_t c8 hf
      refine lv_iconst (v := 0) hx hb dX1_readHours_32 (by decide) ?_
      obtain ⟨e1, e2⟩ := so_2 hf
      cases e1; cases e2
      exact hQ _ _ _ _ _ _ dX1_readHours_33 hM (by decide) (by decide)

theorem hd_X1_readBand : yX1_readBand.cls = RX1 ∧ yX1_readBand.cls ≠ "java/lang/invoke/MethodHandle" ∧ yX1_readBand.cls ≠ "java/lang/invoke/VarHandle" ∧ (parseMethodDescriptor yX1_readBand.desc).map (fun d => d.parameters.length) = some 2 := by decide +kernel
theorem tX1_readBand_1 : Cond.fieldLink RX1 25 "WeatherTeller$ClauseReader" "band" "I" ∈ wsX1_readBand := List.mem_of_getElem? (i := 1) rfl
theorem inX1_readBand_X1 : ∀ w ∈ u_ws RX1 TX1 5, w ∈ wsX1_readBand := fun _ h => List.mem_cons_of_mem _ (List.mem_append_left _ (List.mem_append_left _ (List.mem_append_right _ h)))
def f_X1_readBand (N : Nat)  (S : St) : Option (Int32 × St) :=
  zb <|
  bd (f_X8_skip N 32 S) fun S1 =>
  bd2 (f_X8_takeWord N S1) fun w2 S3 =>
  bd (f_X4_bandNamed N 28 w2 S3) fun v4 =>
  nm (puI S3 4 2 v4) fun S5 =>
  if (S5.1 4 2) = (-1) then
    some (0, S5)
  else
    some (1, S5)
abbrev rmX1_readBand : Room := { frames := 2, cells := 0, slots := 0, locals := 45 }
set_option maxRecDepth 100000 in
set_option maxHeartbeats 4000000 in
theorem c_X1_readBand (l : Launch) (D : va_G) (cs : Nat → ClassId) (a : Nat → Nat) (q1 q2 : Nat) (N : Nat) (S : St) (rz : Int32) (Sz : St) (hf : f_X1_readBand N S = some (rz, Sz)) : gMi l yX1_readBand wsX1_readBand rmX1_readBand D cs [.ref (a 4), .ref (a 1), .ref (a 28)] (ccells cs a q1 q2 S) rz (ccells cs a q1 q2 Sz) := by
  unfold f_X1_readBand at hf
  obtain ⟨hrz, hf⟩ := zb_s hf
  refine gE_z (cc := cX1_readBand) (maxL := 3) hrz (by decide) rfl (Nat.le_of_ble_eq_true rfl) ?_
  intro p e s m args below meth c A Q hC hA hQ hM ls hl
  obtain ⟨hx, hb, hml, hown, hts⟩ := hC.1
  have hl : lv_has ls 3 [(0, .ref (a 4)), (1, .ref (a 1)), (2, .ref (a 28))] := hl
  refine lv_aload_n hx hb dX1_readBand_0 rfl (lv_at hl 1 rfl) ?_
  refine lv_bipush (v := 32) hx hb dX1_readBand_1 (by decide) ?_
  obtain ⟨S1, hc, hf⟩ := bd_s hf
  refine gV_v hC hM hA hl.1 [.int 32] [] (c_X8_skip l D cs a q1 q2 N 32 S S1 hc) gX1_readBand_X8_skip rfl hd_X8_skip ⟨by decide, by decide⟩ 1 8 clX8 rfl cE1 (Nat.le_of_ble_eq_true rfl) dX1_readBand_3 rfl ⟨by decide, by decide⟩ (fun H locs hM => ?_)
  refine lv_aload_n hx hb dX1_readBand_6 rfl (lv_at hl 0 rfl) ?_
  refine lv_aload_n hx hb dX1_readBand_7 rfl (lv_at hl 2 rfl) ?_
  refine lv_aload_n hx hb dX1_readBand_8 rfl (lv_at hl 1 rfl) ?_
  obtain ⟨w2, S3, hc, hf⟩ := bd2_s hf
  refine gV_l hC hM hA hl.1 [] [.ref (a 28), .ref (a 4)] (c_X8_takeWord l D cs a q1 q2 N S1 w2 S3 hc) gX1_readBand_X8_takeWord rfl hd_X8_takeWord ⟨by decide, by decide⟩ 1 8 clX8 rfl cE1 (Nat.le_of_ble_eq_true rfl) dX1_readBand_9 rfl ⟨by decide, by decide⟩ (fun H locs hM => ?_)
  obtain ⟨v4, hc, hf⟩ := bd_s hf
  refine gV_i hC hM hA hl.1 [.long w2] [.ref (a 4)] (c_X4_bandNamed_28 l D cs a q1 q2 N w2 S3 v4 hc) gX1_readBand_X4_bandNamed rfl hd_X4_bandNamed ⟨by decide, by decide⟩ 28 4 clX4 rfl cE28 (Nat.le_of_ble_eq_true rfl) dX1_readBand_12 rfl ⟨by decide, by decide⟩ (fun H locs hM => ?_)
  refine g_put hC hM inX1_readBand_X1 tyX1_ok nmX1 4 cE4 clX1 2 (by decide) tX1_readBand_1 TX1_2 tyX1_2 rfl rfl (by rw [cL4]; decide) cP4_2 dX1_readBand_15 (fun H locs hM => ?_)
  obtain ⟨S5, hf, hM⟩ := cnm hf hM
  refine lv_aload_n hx hb dX1_readBand_18 rfl (lv_at hl 0 rfl) ?_
  refine g_get hC hM inX1_readBand_X1 4 cE4 clX1 2 (by decide) tX1_readBand_1 TX1_2 cV4_2 dX1_readBand_19 ?_
  refine lv_iconst (v := (-1)) hx hb dX1_readBand_22 (by decide) ?_
  refine lv_icmp_eq (tgt := 30) hx hb dX1_readBand_23 (by decide) (fun c6 => ?_) (fun c6 => ?_)
  · replace hf := it_t c6 hf
    refine lv_iconst (v := 0) hx hb dX1_readBand_30 (by decide) ?_
    obtain ⟨e1, e2⟩ := so_2 hf
    cases e1; cases e2
    exact hQ _ _ _ _ _ _ dX1_readBand_31 hM (by decide) (by decide)
  · replace hf := it_f c6 hf
    refine lv_iconst (v := 1) hx hb dX1_readBand_26 (by decide) ?_
    refine lv_goto (tgt := 31) hx hb dX1_readBand_27 (by decide) ?_
    obtain ⟨e1, e2⟩ := so_2 hf
    cases e1; cases e2
    exact hQ _ _ _ _ _ _ dX1_readBand_31 hM (by decide) (by decide)

theorem hd_X1_readNames : yX1_readNames.cls = RX1 ∧ yX1_readNames.cls ≠ "java/lang/invoke/MethodHandle" ∧ yX1_readNames.cls ≠ "java/lang/invoke/VarHandle" ∧ (parseMethodDescriptor yX1_readNames.desc).map (fun d => d.parameters.length) = some 3 := by decide +kernel
def j_X1_readNames_53 (N : Nat) (v1 : Int32) (v3 : Int32) (k9 : Int32 → Int32 → Int32 → St → Option (Int32 × St)) (S9 : St) (v10 : Int32) : Option (Int32 × St) :=
  if v10 = 0 then
    some (0, S9)
  else
    nm (v1 ||| v10) fun v12 =>
    bd2 (f_X1_readSign N 44 S9) fun v13 S14 =>
    nm (v3 + 1) fun v15 =>
    k9 v12 v13 v15 S14
def b_X1_readNames_9 (N : Nat) (p2 : Int32) (k9 : Int32 → Int32 → Int32 → St → Option (Int32 × St)) (v1 : Int32) (v2 : Int32) (v3 : Int32) (S4 : St) : Option (Int32 × St) :=
  if 1000 ≤ v3 then
    some (v1, S4)
  else
    if v2 = 0 then
      some (v1, S4)
    else
      bd (f_X8_skip N 32 S4) fun S7 =>
      bd2 (f_X8_takeWord N S7) fun w8 S9 =>
      jp (j_X1_readNames_53 N v1 v3 k9 S9) fun k53 =>
      if p2 = 0 then
        bd (f_X4_placeNamed N 28 w8 S9) fun v17 =>
        k53 v17
      else
        bd (f_X4_placesNamed N 28 w8 S9) fun v18 =>
        k53 v18
def f_X1_readNames (N : Nat) (p2 : Int32) (S : St) : Option (Int32 × St) :=
  jp (lp (fun _ _ _ _ => none) (b_X1_readNames_9 N p2) N) fun k9 =>
  k9 0 1 0 S
abbrev rmX1_readNames : Room := { frames := 3, cells := 0, slots := 0, locals := 63 }
set_option maxRecDepth 100000 in
set_option maxHeartbeats 4000000 in
theorem c_X1_readNames (l : Launch) (D : va_G) (cs : Nat → ClassId) (a : Nat → Nat) (q1 q2 : Nat) (N : Nat) (p2 : Int32) (S : St) (rz : Int32) (Sz : St) (hf : f_X1_readNames N p2 S = some (rz, Sz)) : gMi l yX1_readNames wsX1_readNames rmX1_readNames D cs [.ref (a 4), .ref (a 1), .ref (a 28), .int p2] (ccells cs a q1 q2 S) rz (ccells cs a q1 q2 Sz) := by
  unfold f_X1_readNames at hf
  refine gE_i (cc := cX1_readNames) (maxL := 10) (by decide) rfl (Nat.le_of_ble_eq_true rfl) ?_
  intro p e s m args below meth c A Q hC hA hQ hM ls hl
  obtain ⟨hx, hb, hml, hown, hts⟩ := hC.1
  have hl : lv_has ls 10 [(0, .ref (a 4)), (1, .ref (a 1)), (2, .ref (a 28)), (3, .int p2)] := hl
  refine lv_iconst (v := 0) hx hb dX1_readNames_0 (by decide) ?_
  refine lv_istore (lv' := [(4, .int 0), (0, .ref (a 4)), (1, .ref (a 1)), (2, .ref (a 28)), (3, .int p2)]) hx hb dX1_readNames_1 hl (by decide) rfl (fun ls hl => ?_)
  refine lv_iconst (v := 1) hx hb dX1_readNames_3 (by decide) ?_
  refine lv_istore (lv' := [(5, .int 1), (4, .int 0), (0, .ref (a 4)), (1, .ref (a 1)), (2, .ref (a 28)), (3, .int p2)]) hx hb dX1_readNames_4 hl (by decide) rfl (fun ls hl => ?_)
  refine lv_iconst (v := 0) hx hb dX1_readNames_6 (by decide) ?_
  refine lv_istore (lv' := [(6, .int 0), (5, .int 1), (4, .int 0), (0, .ref (a 4)), (1, .ref (a 1)), (2, .ref (a 28)), (3, .int p2)]) hx hb dX1_readNames_7 hl (by decide) rfl (fun ls hl => ?_)
  refine jl_W (fun k9 : Int32 → Int32 → Int32 → St → Option (Int32 × St) => ∀ (v1 : Int32) (v2 : Int32) (v3 : Int32) (S4 : St), k9 v1 v2 v3 S4 = some (rz, Sz) → ∀ (H : Heap) (locs : List Loc) (ls : Array Slot), gw D A s.heap H locs (ccells cs a q1 q2 S4) → lv_has ls 10 [(0, .ref (a 4)), (1, .ref (a 1)), (2, .ref (a 28)), (3, .int p2), (4, .int v1), (5, .int v2), (6, .int v3)] → W p l e rmX1_readNames s m args below meth c H locs 0 0 Q (F0 m 9 ls [])) ?_ ?_ ?_ hf
  · intro v1 v2 v3 S4 h; cases h
  · intro k9 hk9 v1 v2 v3 S4 hf H locs ls hM hl
    unfold b_X1_readNames_9 at hf
    refine lv_iload hx hb dX1_readNames_9 (lv_at hl 6 rfl) ?_
    refine lv_sipush (v := 1000) hx hb dX1_readNames_11 (by decide) ?_
    refine lv_icmp_ge (tgt := 84) hx hb dX1_readNames_14 (by decide) (fun c5 => ?_) (fun c5 => ?_)
    · replace hf := it_t c5 hf
      refine lv_iload hx hb dX1_readNames_84 (lv_at hl 4 rfl) ?_
      obtain ⟨e1, e2⟩ := so_2 hf
      cases e1; cases e2
      exact hQ _ _ _ _ _ _ dX1_readNames_86 hM (by decide) (by decide)
    · replace hf := it_f c5 hf
      refine lv_iload hx hb dX1_readNames_17 (lv_at hl 5 rfl) ?_
      refine lv_if_eq (tgt := 84) hx hb dX1_readNames_19 (by decide) (fun c6 => ?_) (fun c6 => ?_)
      · replace hf := it_t c6 hf
        refine lv_iload hx hb dX1_readNames_84 (lv_at hl 4 rfl) ?_
        obtain ⟨e1, e2⟩ := so_2 hf
        cases e1; cases e2
        exact hQ _ _ _ _ _ _ dX1_readNames_86 hM (by decide) (by decide)
      · replace hf := it_f c6 hf
        refine lv_aload_n hx hb dX1_readNames_22 rfl (lv_at hl 1 rfl) ?_
        refine lv_bipush (v := 32) hx hb dX1_readNames_23 (by decide) ?_
        obtain ⟨S7, hc, hf⟩ := bd_s hf
        refine gV_v hC hM hA hl.1 [.int 32] [] (c_X8_skip l D cs a q1 q2 N 32 S4 S7 hc) gX1_readNames_X8_skip rfl hd_X8_skip ⟨by decide, by decide⟩ 1 8 clX8 rfl cE1 (Nat.le_of_ble_eq_true rfl) dX1_readNames_25 rfl ⟨by decide, by decide⟩ (fun H locs hM => ?_)
        refine lv_aload_n hx hb dX1_readNames_28 rfl (lv_at hl 1 rfl) ?_
        obtain ⟨w8, S9, hc, hf⟩ := bd2_s hf
        refine gV_l hC hM hA hl.1 [] [] (c_X8_takeWord l D cs a q1 q2 N S7 w8 S9 hc) gX1_readNames_X8_takeWord rfl hd_X8_takeWord ⟨by decide, by decide⟩ 1 8 clX8 rfl cE1 (Nat.le_of_ble_eq_true rfl) dX1_readNames_29 rfl ⟨by decide, by decide⟩ (fun H locs hM => ?_)
        refine lv_lstore (lv' := [(7, .long w8), (0, .ref (a 4)), (1, .ref (a 1)), (2, .ref (a 28)), (3, .int p2), (4, .int v1), (5, .int v2), (6, .int v3)]) hx hb dX1_readNames_32 hl (by decide) rfl (fun ls hl => ?_)
        refine lv_iload_n hx hb dX1_readNames_34 rfl (lv_at hl 4 rfl) ?_
        refine jp_W (fun k53 : Int32 → Option (Int32 × St) => ∀ (v10 : Int32), k53 v10 = some (rz, Sz) → ∀ (H : Heap) (locs : List Loc) (ls : Array Slot), gw D A s.heap H locs (ccells cs a q1 q2 S9) → lv_has ls 10 [(0, .ref (a 4)), (1, .ref (a 1)), (2, .ref (a 28)), (3, .int p2), (4, .int v1), (6, .int v3)] → W p l e rmX1_readNames s m args below meth c H locs 0 0 Q (F0 m 53 ls [.int v10])) ?_ ?_ hf
        · intro v10 hf H locs ls hM hl
          unfold j_X1_readNames_53 at hf
          refine lv_istore (lv' := [(9, .int v10), (0, .ref (a 4)), (1, .ref (a 1)), (2, .ref (a 28)), (3, .int p2), (4, .int v1), (6, .int v3)]) hx hb dX1_readNames_53 hl (by decide) rfl (fun ls hl => ?_)
          refine lv_iload hx hb dX1_readNames_55 (lv_at hl 0 rfl) ?_
          refine lv_if_ne (tgt := 62) hx hb dX1_readNames_57 (by decide) (fun c11 => ?_) (fun c11 => ?_)
          · replace hf := it_f c11 hf
            refine lv_iload hx hb dX1_readNames_62 (lv_at hl 5 rfl) ?_
            refine lv_iload hx hb dX1_readNames_64 (lv_at hl 0 rfl) ?_
            refine lv_ior hx hb dX1_readNames_66 ?_
            refine lv_topi (fun v12 ev12 => ?_)
            replace hf := nm_q ev12 hf
            refine lv_istore (lv' := [(4, .int v12), (9, .int v10), (0, .ref (a 4)), (1, .ref (a 1)), (2, .ref (a 28)), (3, .int p2), (6, .int v3)]) hx hb dX1_readNames_67 hl (by decide) rfl (fun ls hl => ?_)
            refine lv_aload_n hx hb dX1_readNames_69 rfl (lv_at hl 2 rfl) ?_
            refine lv_aload_n hx hb dX1_readNames_70 rfl (lv_at hl 3 rfl) ?_
            refine lv_bipush (v := 44) hx hb dX1_readNames_71 (by decide) ?_
            obtain ⟨v13, S14, hc, hf⟩ := bd2_s hf
            refine gV_i hC hM hA hl.1 [.ref (a 1), .int 44] [] (c_X1_readSign l D cs a q1 q2 N 44 S9 v13 S14 hc) gX1_readNames_X1_readSign rfl hd_X1_readSign ⟨by decide, by decide⟩ 4 1 clX1 rfl cE4 (Nat.le_of_ble_eq_true rfl) dX1_readNames_73 rfl ⟨by decide, by decide⟩ (fun H locs hM => ?_)
            refine lv_istore (lv' := [(5, .int v13), (4, .int v12), (9, .int v10), (0, .ref (a 4)), (1, .ref (a 1)), (2, .ref (a 28)), (3, .int p2), (6, .int v3)]) hx hb dX1_readNames_76 hl (by decide) rfl (fun ls hl => ?_)
            obtain ⟨v15, ev15⟩ : ∃ y : Int32, y = v3 + 1 := ⟨_, rfl⟩
            replace hf := nm_q ev15 hf
            refine lv_iinc (v := v15) (lv' := [(6, .int v15), (5, .int v13), (4, .int v12), (9, .int v10), (0, .ref (a 4)), (1, .ref (a 1)), (2, .ref (a 28)), (3, .int p2)]) hx hb dX1_readNames_78 hl (k := 7) rfl (by rw [ev15]; rfl) (by decide) rfl (fun ls hl => ?_)
            refine lv_goto (tgt := 9) hx hb dX1_readNames_81 (by decide) ?_
            exact hk9 _ _ _ _ hf _ _ _ hM (lv_sub hl [4, 5, 6, 7, 2, 1, 0] rfl)
          · replace hf := it_t c11 hf
            refine lv_iconst (v := 0) hx hb dX1_readNames_60 (by decide) ?_
            obtain ⟨e1, e2⟩ := so_2 hf
            cases e1; cases e2
            exact hQ _ _ _ _ _ _ dX1_readNames_61 hM (by decide) (by decide)
        · intro k53 hk53 hf
          refine lv_if_eq (tgt := 47) hx hb dX1_readNames_35 (by decide) (fun c16 => ?_) (fun c16 => ?_)
          · replace hf := it_t c16 hf
            refine lv_aload_n hx hb dX1_readNames_47 rfl (lv_at hl 3 rfl) ?_
            refine lv_lload hx hb dX1_readNames_48 (lv_at hl 0 rfl) ?_
            obtain ⟨v17, hc, hf⟩ := bd_s hf
            refine gV_i hC hM hA hl.1 [.long w8] [] (c_X4_placeNamed_28 l D cs a q1 q2 N w8 S9 v17 hc) gX1_readNames_X4_placeNamed rfl hd_X4_placeNamed ⟨by decide, by decide⟩ 28 4 clX4 rfl cE28 (Nat.le_of_ble_eq_true rfl) dX1_readNames_50 rfl ⟨by decide, by decide⟩ (fun H locs hM => ?_)
            exact hk53 _ hf _ _ _ hM (lv_sub hl [1, 2, 3, 4, 5, 7] rfl)
          · replace hf := it_f c16 hf
            refine lv_aload_n hx hb dX1_readNames_38 rfl (lv_at hl 3 rfl) ?_
            refine lv_lload hx hb dX1_readNames_39 (lv_at hl 0 rfl) ?_
            obtain ⟨v18, hc, hf⟩ := bd_s hf
            refine gV_i hC hM hA hl.1 [.long w8] [] (c_X4_placesNamed_28 l D cs a q1 q2 N w8 S9 v18 hc) gX1_readNames_X4_placesNamed rfl hd_X4_placesNamed ⟨by decide, by decide⟩ 28 4 clX4 rfl cE28 (Nat.le_of_ble_eq_true rfl) dX1_readNames_41 rfl ⟨by decide, by decide⟩ (fun H locs hM => ?_)
            refine lv_goto (tgt := 53) hx hb dX1_readNames_44 (by decide) ?_
            exact hk53 _ hf _ _ _ hM (lv_sub hl [1, 2, 3, 4, 5, 7] rfl)
  · intro k9 hk9 hf
    exact hk9 _ _ _ _ hf _ _ _ hM (lv_sub hl [3, 4, 5, 6, 2, 1, 0] rfl)

theorem hd_X1_readPlaces : yX1_readPlaces.cls = RX1 ∧ yX1_readPlaces.cls ≠ "java/lang/invoke/MethodHandle" ∧ yX1_readPlaces.cls ≠ "java/lang/invoke/VarHandle" ∧ (parseMethodDescriptor yX1_readPlaces.desc).map (fun d => d.parameters.length) = some 2 := by decide +kernel
theorem tX1_readPlaces_1 : Cond.fieldLink RX1 21 "WeatherTeller$ClauseReader" "places" "I" ∈ wsX1_readPlaces := List.mem_of_getElem? (i := 1) rfl
theorem inX1_readPlaces_X1 : ∀ w ∈ u_ws RX1 TX1 5, w ∈ wsX1_readPlaces := fun _ h => List.mem_cons_of_mem _ (List.mem_append_left _ (List.mem_append_left _ (List.mem_append_right _ h)))
theorem tX1_readPlaces_2 : Cond.fieldLink RX1 15 "WeatherTeller$ClauseReader" "butWord" "J" ∈ wsX1_readPlaces := List.mem_of_getElem? (i := 2) rfl
def f_X1_readPlaces (N : Nat)  (S : St) : Option (Int32 × St) :=
  zb <|
  bd2 (f_X1_readNames N 1 S) fun v1 S2 =>
  nm (puI S2 4 1 v1) fun S3 =>
  if (S3.1 4 1) = 0 then
    some (0, S3)
  else
    bd2 (f_X1_readSign N 58 S3) fun v5 S6 =>
    if v5 = 0 then
      bd2 (f_X8_takeWord N S6) fun w8 S9 =>
      if (lg_cmp w8 (S9.2 4 0)) = 0 then
        bd2 (f_X1_readNames N 0 S9) fun v11 S12 =>
        nm (puI S12 4 1 ((S12.1 4 1) &&& (v11 ^^^ (-1)))) fun S13 =>
        if v11 = 0 then
          some (0, S13)
        else
          bd2 (f_X1_readSign N 58 S13) fun v15 S16 =>
          if v15 = 0 then
            some (0, S16)
          else
            some (1, S16)
      else
        some (0, S9)
    else
      some (1, S6)
abbrev rmX1_readPlaces : Room := { frames := 4, cells := 0, slots := 0, locals := 92 }
set_option maxRecDepth 100000 in
set_option maxHeartbeats 4000000 in
theorem c_X1_readPlaces (l : Launch) (D : va_G) (cs : Nat → ClassId) (a : Nat → Nat) (q1 q2 : Nat) (N : Nat) (S : St) (rz : Int32) (Sz : St) (hf : f_X1_readPlaces N S = some (rz, Sz)) : gMi l yX1_readPlaces wsX1_readPlaces rmX1_readPlaces D cs [.ref (a 4), .ref (a 1), .ref (a 28)] (ccells cs a q1 q2 S) rz (ccells cs a q1 q2 Sz) := by
  unfold f_X1_readPlaces at hf
  obtain ⟨hrz, hf⟩ := zb_s hf
  refine gE_z (cc := cX1_readPlaces) (maxL := 4) hrz (by decide) rfl (Nat.le_of_ble_eq_true rfl) ?_
  intro p e s m args below meth c A Q hC hA hQ hM ls hl
  obtain ⟨hx, hb, hml, hown, hts⟩ := hC.1
  have hl : lv_has ls 4 [(0, .ref (a 4)), (1, .ref (a 1)), (2, .ref (a 28))] := hl
  refine lv_aload_n hx hb dX1_readPlaces_0 rfl (lv_at hl 0 rfl) ?_
  refine lv_aload_n hx hb dX1_readPlaces_1 rfl (lv_at hl 0 rfl) ?_
  refine lv_aload_n hx hb dX1_readPlaces_2 rfl (lv_at hl 1 rfl) ?_
  refine lv_aload_n hx hb dX1_readPlaces_3 rfl (lv_at hl 2 rfl) ?_
  refine lv_iconst (v := 1) hx hb dX1_readPlaces_4 (by decide) ?_
  obtain ⟨v1, S2, hc, hf⟩ := bd2_s hf
  refine gV_i hC hM hA hl.1 [.ref (a 1), .ref (a 28), .int 1] [.ref (a 4)] (c_X1_readNames l D cs a q1 q2 N 1 S v1 S2 hc) gX1_readPlaces_X1_readNames rfl hd_X1_readNames ⟨by decide, by decide⟩ 4 1 clX1 rfl cE4 (Nat.le_of_ble_eq_true rfl) dX1_readPlaces_5 rfl ⟨by decide, by decide⟩ (fun H locs hM => ?_)
  refine g_put hC hM inX1_readPlaces_X1 tyX1_ok nmX1 4 cE4 clX1 1 (by decide) tX1_readPlaces_1 TX1_1 tyX1_1 rfl rfl (by rw [cL4]; decide) cP4_1 dX1_readPlaces_8 (fun H locs hM => ?_)
  obtain ⟨S3, hf, hM⟩ := cnm hf hM
  refine lv_aload_n hx hb dX1_readPlaces_11 rfl (lv_at hl 0 rfl) ?_
  refine g_get hC hM inX1_readPlaces_X1 4 cE4 clX1 1 (by decide) tX1_readPlaces_1 TX1_1 cV4_1 dX1_readPlaces_12 ?_
  refine lv_if_ne (tgt := 20) hx hb dX1_readPlaces_15 (by decide) (fun c4 => ?_) (fun c4 => ?_)
  · replace hf := it_f c4 hf
    refine lv_aload_n hx hb dX1_readPlaces_20 rfl (lv_at hl 0 rfl) ?_
    refine lv_aload_n hx hb dX1_readPlaces_21 rfl (lv_at hl 1 rfl) ?_
    refine lv_bipush (v := 58) hx hb dX1_readPlaces_22 (by decide) ?_
    obtain ⟨v5, S6, hc, hf⟩ := bd2_s hf
    refine gV_i hC hM hA hl.1 [.ref (a 1), .int 58] [] (c_X1_readSign l D cs a q1 q2 N 58 S3 v5 S6 hc) gX1_readPlaces_X1_readSign rfl hd_X1_readSign ⟨by decide, by decide⟩ 4 1 clX1 rfl cE4 (Nat.le_of_ble_eq_true rfl) dX1_readPlaces_24 rfl ⟨by decide, by decide⟩ (fun H locs hM => ?_)
    refine lv_if_eq (tgt := 32) hx hb dX1_readPlaces_27 (by decide) (fun c7 => ?_) (fun c7 => ?_)
    · replace hf := it_t c7 hf
      refine lv_aload_n hx hb dX1_readPlaces_32 rfl (lv_at hl 1 rfl) ?_
      obtain ⟨w8, S9, hc, hf⟩ := bd2_s hf
      refine gV_l hC hM hA hl.1 [] [] (c_X8_takeWord l D cs a q1 q2 N S6 w8 S9 hc) gX1_readPlaces_X8_takeWord rfl hd_X8_takeWord ⟨by decide, by decide⟩ 1 8 clX8 rfl cE1 (Nat.le_of_ble_eq_true rfl) dX1_readPlaces_33 rfl ⟨by decide, by decide⟩ (fun H locs hM => ?_)
      refine lv_aload_n hx hb dX1_readPlaces_36 rfl (lv_at hl 0 rfl) ?_
      refine g_get hC hM inX1_readPlaces_X1 4 cE4 clX1 0 (by decide) tX1_readPlaces_2 TX1_0 cV4_0 dX1_readPlaces_37 ?_
      refine W.lcmp hx hb dX1_readPlaces_40 ?_
      refine lv_if_eq (tgt := 46) hx hb dX1_readPlaces_41 (by decide) (fun c10 => ?_) (fun c10 => ?_)
      · replace hf := it_t c10 hf
        refine lv_aload_n hx hb dX1_readPlaces_46 rfl (lv_at hl 0 rfl) ?_
        refine lv_aload_n hx hb dX1_readPlaces_47 rfl (lv_at hl 1 rfl) ?_
        refine lv_aload_n hx hb dX1_readPlaces_48 rfl (lv_at hl 2 rfl) ?_
        refine lv_iconst (v := 0) hx hb dX1_readPlaces_49 (by decide) ?_
        obtain ⟨v11, S12, hc, hf⟩ := bd2_s hf
        refine gV_i hC hM hA hl.1 [.ref (a 1), .ref (a 28), .int 0] [] (c_X1_readNames l D cs a q1 q2 N 0 S9 v11 S12 hc) gX1_readPlaces_X1_readNames rfl hd_X1_readNames ⟨by decide, by decide⟩ 4 1 clX1 rfl cE4 (Nat.le_of_ble_eq_true rfl) dX1_readPlaces_50 rfl ⟨by decide, by decide⟩ (fun H locs hM => ?_)
        refine lv_istore_n (lv' := [(3, .int v11), (0, .ref (a 4)), (1, .ref (a 1)), (2, .ref (a 28))]) hx hb dX1_readPlaces_53 rfl hl (by decide) rfl (fun ls hl => ?_)
        refine lv_aload_n hx hb dX1_readPlaces_54 rfl (lv_at hl 1 rfl) ?_
        refine lv_dup hx hb dX1_readPlaces_55 rfl ?_
        refine g_get hC hM inX1_readPlaces_X1 4 cE4 clX1 1 (by decide) tX1_readPlaces_1 TX1_1 cV4_1 dX1_readPlaces_56 ?_
        refine lv_iload_n hx hb dX1_readPlaces_59 rfl (lv_at hl 0 rfl) ?_
        refine lv_iconst (v := (-1)) hx hb dX1_readPlaces_60 (by decide) ?_
        refine lv_ixor hx hb dX1_readPlaces_61 ?_
        refine lv_iand hx hb dX1_readPlaces_62 ?_
        refine g_put hC hM inX1_readPlaces_X1 tyX1_ok nmX1 4 cE4 clX1 1 (by decide) tX1_readPlaces_1 TX1_1 tyX1_1 rfl rfl (by rw [cL4]; decide) cP4_1 dX1_readPlaces_63 (fun H locs hM => ?_)
        obtain ⟨S13, hf, hM⟩ := cnm hf hM
        refine lv_iload_n hx hb dX1_readPlaces_66 rfl (lv_at hl 0 rfl) ?_
        refine lv_if_eq (tgt := 84) hx hb dX1_readPlaces_67 (by decide) (fun c14 => ?_) (fun c14 => ?_)
        · replace hf := it_t c14 hf
          refine lv_iconst (v := 0) hx hb dX1_readPlaces_84 (by decide) ?_
          obtain ⟨e1, e2⟩ := so_2 hf
          cases e1; cases e2
          exact hQ _ _ _ _ _ _ dX1_readPlaces_85 hM (by decide) (by decide)
        · replace hf := it_f c14 hf
          refine lv_aload_n hx hb dX1_readPlaces_70 rfl (lv_at hl 1 rfl) ?_
          refine lv_aload_n hx hb dX1_readPlaces_71 rfl (lv_at hl 2 rfl) ?_
          refine lv_bipush (v := 58) hx hb dX1_readPlaces_72 (by decide) ?_
          obtain ⟨v15, S16, hc, hf⟩ := bd2_s hf
          refine gV_i hC hM hA hl.1 [.ref (a 1), .int 58] [] (c_X1_readSign l D cs a q1 q2 N 58 S13 v15 S16 hc) gX1_readPlaces_X1_readSign rfl hd_X1_readSign ⟨by decide, by decide⟩ 4 1 clX1 rfl cE4 (Nat.le_of_ble_eq_true rfl) dX1_readPlaces_74 rfl ⟨by decide, by decide⟩ (fun H locs hM => ?_)
          refine lv_if_eq (tgt := 84) hx hb dX1_readPlaces_77 (by decide) (fun c17 => ?_) (fun c17 => ?_)
          · replace hf := it_t c17 hf
            refine lv_iconst (v := 0) hx hb dX1_readPlaces_84 (by decide) ?_
            obtain ⟨e1, e2⟩ := so_2 hf
            cases e1; cases e2
            exact hQ _ _ _ _ _ _ dX1_readPlaces_85 hM (by decide) (by decide)
          · replace hf := it_f c17 hf
            refine lv_iconst (v := 1) hx hb dX1_readPlaces_80 (by decide) ?_
            refine lv_goto (tgt := 85) hx hb dX1_readPlaces_81 (by decide) ?_
            obtain ⟨e1, e2⟩ := so_2 hf
            cases e1; cases e2
            exact hQ _ _ _ _ _ _ dX1_readPlaces_85 hM (by decide) (by decide)
      · replace hf := it_f c10 hf
        refine lv_iconst (v := 0) hx hb dX1_readPlaces_44 (by decide) ?_
        obtain ⟨e1, e2⟩ := so_2 hf
        cases e1; cases e2
        exact hQ _ _ _ _ _ _ dX1_readPlaces_45 hM (by decide) (by decide)
    · replace hf := it_f c7 hf
      refine lv_iconst (v := 1) hx hb dX1_readPlaces_30 (by decide) ?_
      obtain ⟨e1, e2⟩ := so_2 hf
      cases e1; cases e2
      exact hQ _ _ _ _ _ _ dX1_readPlaces_31 hM (by decide) (by decide)
  · replace hf := it_t c4 hf
    refine lv_iconst (v := 0) hx hb dX1_readPlaces_18 (by decide) ?_
    obtain ⟨e1, e2⟩ := so_2 hf
    cases e1; cases e2
    exact hQ _ _ _ _ _ _ dX1_readPlaces_19 hM (by decide) (by decide)

theorem hd_X1_read : yX1_read.cls = RX1 ∧ yX1_read.cls ≠ "java/lang/invoke/MethodHandle" ∧ yX1_read.cls ≠ "java/lang/invoke/VarHandle" ∧ (parseMethodDescriptor yX1_read.desc).map (fun d => d.parameters.length) = some 2 := by decide +kernel
def f_X1_read (N : Nat)  (S : St) : Option (Int32 × St) :=
  zb <|
  bd2 (f_X1_readPlaces N S) fun v1 S2 =>
  if v1 = 0 then
    some (0, S2)
  else
    bd2 (f_X1_readBand N S2) fun v4 S5 =>
    if v4 = 0 then
      some (0, S5)
    else
      bd2 (f_X1_readHours N S5) fun v7 S8 =>
      if v7 = 0 then
        some (0, S8)
      else
        some (1, S8)
abbrev rmX1_read : Room := { frames := 5, cells := 0, slots := 0, locals := 115 }
set_option maxRecDepth 100000 in
set_option maxHeartbeats 4000000 in
theorem c_X1_read (l : Launch) (D : va_G) (cs : Nat → ClassId) (a : Nat → Nat) (q1 q2 : Nat) (N : Nat) (S : St) (rz : Int32) (Sz : St) (hf : f_X1_read N S = some (rz, Sz)) : gMi l yX1_read wsX1_read rmX1_read D cs [.ref (a 4), .ref (a 1), .ref (a 28)] (ccells cs a q1 q2 S) rz (ccells cs a q1 q2 Sz) := by
  unfold f_X1_read at hf
  obtain ⟨hrz, hf⟩ := zb_s hf
  refine gE_z (cc := cX1_read) (maxL := 3) hrz (by decide) rfl (Nat.le_of_ble_eq_true rfl) ?_
  intro p e s m args below meth c A Q hC hA hQ hM ls hl
  obtain ⟨hx, hb, hml, hown, hts⟩ := hC.1
  have hl : lv_has ls 3 [(0, .ref (a 4)), (1, .ref (a 1)), (2, .ref (a 28))] := hl
  refine lv_aload_n hx hb dX1_read_0 rfl (lv_at hl 0 rfl) ?_
  refine lv_aload_n hx hb dX1_read_1 rfl (lv_at hl 1 rfl) ?_
  refine lv_aload_n hx hb dX1_read_2 rfl (lv_at hl 2 rfl) ?_
  obtain ⟨v1, S2, hc, hf⟩ := bd2_s hf
  refine gV_i hC hM hA hl.1 [.ref (a 1), .ref (a 28)] [] (c_X1_readPlaces l D cs a q1 q2 N S v1 S2 hc) gX1_read_X1_readPlaces rfl hd_X1_readPlaces ⟨by decide, by decide⟩ 4 1 clX1 rfl cE4 (Nat.le_of_ble_eq_true rfl) dX1_read_3 rfl ⟨by decide, by decide⟩ (fun H locs hM => ?_)
  refine lv_if_eq (tgt := 30) hx hb dX1_read_6 (by decide) (fun c3 => ?_) (fun c3 => ?_)
  · replace hf := it_t c3 hf
    refine lv_iconst (v := 0) hx hb dX1_read_30 (by decide) ?_
    obtain ⟨e1, e2⟩ := so_2 hf
    cases e1; cases e2
    exact hQ _ _ _ _ _ _ dX1_read_31 hM (by decide) (by decide)
  · replace hf := it_f c3 hf
    refine lv_aload_n hx hb dX1_read_9 rfl (lv_at hl 0 rfl) ?_
    refine lv_aload_n hx hb dX1_read_10 rfl (lv_at hl 1 rfl) ?_
    refine lv_aload_n hx hb dX1_read_11 rfl (lv_at hl 2 rfl) ?_
    obtain ⟨v4, S5, hc, hf⟩ := bd2_s hf
    refine gV_i hC hM hA hl.1 [.ref (a 1), .ref (a 28)] [] (c_X1_readBand l D cs a q1 q2 N S2 v4 S5 hc) gX1_read_X1_readBand rfl hd_X1_readBand ⟨by decide, by decide⟩ 4 1 clX1 rfl cE4 (Nat.le_of_ble_eq_true rfl) dX1_read_12 rfl ⟨by decide, by decide⟩ (fun H locs hM => ?_)
    refine lv_if_eq (tgt := 30) hx hb dX1_read_15 (by decide) (fun c6 => ?_) (fun c6 => ?_)
    · replace hf := it_t c6 hf
      refine lv_iconst (v := 0) hx hb dX1_read_30 (by decide) ?_
      obtain ⟨e1, e2⟩ := so_2 hf
      cases e1; cases e2
      exact hQ _ _ _ _ _ _ dX1_read_31 hM (by decide) (by decide)
    · replace hf := it_f c6 hf
      refine lv_aload_n hx hb dX1_read_18 rfl (lv_at hl 0 rfl) ?_
      refine lv_aload_n hx hb dX1_read_19 rfl (lv_at hl 1 rfl) ?_
      obtain ⟨v7, S8, hc, hf⟩ := bd2_s hf
      refine gV_i hC hM hA hl.1 [.ref (a 1)] [] (c_X1_readHours l D cs a q1 q2 N S5 v7 S8 hc) gX1_read_X1_readHours rfl hd_X1_readHours ⟨by decide, by decide⟩ 4 1 clX1 rfl cE4 (Nat.le_of_ble_eq_true rfl) dX1_read_20 rfl ⟨by decide, by decide⟩ (fun H locs hM => ?_)
      refine lv_if_eq (tgt := 30) hx hb dX1_read_23 (by decide) (fun c9 => ?_) (fun c9 => ?_)
      · replace hf := it_t c9 hf
        refine lv_iconst (v := 0) hx hb dX1_read_30 (by decide) ?_
        obtain ⟨e1, e2⟩ := so_2 hf
        cases e1; cases e2
        exact hQ _ _ _ _ _ _ dX1_read_31 hM (by decide) (by decide)
      · replace hf := it_f c9 hf
        refine lv_iconst (v := 1) hx hb dX1_read_26 (by decide) ?_
        refine lv_goto (tgt := 31) hx hb dX1_read_27 (by decide) ?_
        obtain ⟨e1, e2⟩ := so_2 hf
        cases e1; cases e2
        exact hQ _ _ _ _ _ _ dX1_read_31 hM (by decide) (by decide)

theorem hd_X10_hasHours : yX10_hasHours.cls = RX10 ∧ yX10_hasHours.cls ≠ "java/lang/invoke/MethodHandle" ∧ yX10_hasHours.cls ≠ "java/lang/invoke/VarHandle" ∧ (parseMethodDescriptor yX10_hasHours.desc).map (fun d => d.parameters.length) = some 4 := by decide +kernel
theorem tX10_hasHours_1 : Cond.fieldLink RX10 70 "WeatherTeller" "rules" "LWeatherTeller$Rules;" ∈ wsX10_hasHours := List.mem_of_getElem? (i := 1) rfl
theorem inX10_hasHours_X10 : ∀ w ∈ u_ws RX10 TX10 13, w ∈ wsX10_hasHours := fun _ h => List.mem_cons_of_mem _ (List.mem_append_left _ (List.mem_append_right _ h))
theorem tX10_hasHours_2 : Cond.fieldLink RX10 228 "WeatherTeller$Rules" "places" "I" ∈ wsX10_hasHours := List.mem_of_getElem? (i := 2) rfl
theorem inX10_hasHours_X4 : ∀ w ∈ u_ws RX4 TX4 12, w ∈ wsX10_hasHours := fun _ h => List.mem_cons_of_mem _ (List.mem_append_right _ h)
def f_X10_hasHours (N : Nat) (p0 : Int32) (p1 : Int32) (p2 : Int32) (p3 : Int32) (S : St) : Option (Int32) :=
  z1 <|
  bd (f_X10_isWithin N p0 0 2) fun v1 =>
  if v1 = 0 then
    some 0
  else
    bd (f_X10_isWithin N p1 0 ((S.1 28 9) - 1)) fun v3 =>
    if v3 = 0 then
      some 0
    else
      if p2 < 0 then
        some 0
      else
        if p3 < p2 then
          some 0
        else
          if 24 ≤ p3 then
            some 0
          else
            some 1
abbrev rmX10_hasHours : Room := { frames := 1, cells := 0, slots := 0, locals := 22 }
set_option maxRecDepth 100000 in
set_option maxHeartbeats 4000000 in
theorem c_X10_hasHours (l : Launch) (D : va_G) (cs : Nat → ClassId) (a : Nat → Nat) (q1 q2 : Nat) (N : Nat) (p0 : Int32) (p1 : Int32) (p2 : Int32) (p3 : Int32) (S : St) (rz : Int32) (hf : f_X10_hasHours N p0 p1 p2 p3 S = some rz) : gMi l yX10_hasHours wsX10_hasHours rmX10_hasHours D cs [.ref (a 0), .int p0, .int p1, .int p2, .int p3] (ccells cs a q1 q2 S) rz (ccells cs a q1 q2 S) := by
  unfold f_X10_hasHours at hf
  obtain ⟨hrz, hf⟩ := z1_s hf
  refine gE_z (cc := cX10_hasHours) (maxL := 5) hrz (by decide) rfl (Nat.le_of_ble_eq_true rfl) ?_
  intro p e s m args below meth c A Q hC hA hQ hM ls hl
  obtain ⟨hx, hb, hml, hown, hts⟩ := hC.1
  have hl : lv_has ls 5 [(0, .ref (a 0)), (1, .int p0), (2, .int p1), (3, .int p2), (4, .int p3)] := hl
  refine lv_iload_n hx hb dX10_hasHours_0 rfl (lv_at hl 1 rfl) ?_
  refine lv_iconst (v := 0) hx hb dX10_hasHours_1 (by decide) ?_
  refine lv_iconst (v := 2) hx hb dX10_hasHours_2 (by decide) ?_
  obtain ⟨v1, hc, hf⟩ := bd_s hf
  refine gS_i hC hM hA hl.1 [.int p0, .int 0, .int 2] [] (c_X10_isWithin l D cs (ccells cs a q1 q2 S) N p0 0 2 v1 hc) gX10_hasHours_X10_isWithin rfl hd_X10_isWithin ⟨by decide, by decide⟩ (Nat.le_of_ble_eq_true rfl) dX10_hasHours_3 rfl ⟨by decide, by decide⟩ (fun H locs hM => ?_)
  refine lv_if_eq (tgt := 47) hx hb dX10_hasHours_6 (by decide) (fun c2 => ?_) (fun c2 => ?_)
  · replace hf := it_t c2 hf
    refine lv_iconst (v := 0) hx hb dX10_hasHours_47 (by decide) ?_
    cases so_1 hf
    exact hQ _ _ _ _ _ _ dX10_hasHours_48 hM (by decide) (by decide)
  · replace hf := it_f c2 hf
    refine lv_iload_n hx hb dX10_hasHours_9 rfl (lv_at hl 2 rfl) ?_
    refine lv_iconst (v := 0) hx hb dX10_hasHours_10 (by decide) ?_
    refine lv_aload_n hx hb dX10_hasHours_11 rfl (lv_at hl 0 rfl) ?_
    refine g_get hC hM inX10_hasHours_X10 0 cE0 clX10 8 (by decide) tX10_hasHours_1 TX10_8 cV0_8 dX10_hasHours_12 ?_
    refine g_get hC hM inX10_hasHours_X4 28 cE28 clX4 9 (by decide) tX10_hasHours_2 TX4_9 cV28_9 dX10_hasHours_15 ?_
    refine lv_iconst (v := 1) hx hb dX10_hasHours_18 (by decide) ?_
    refine lv_isub hx hb dX10_hasHours_19 ?_
    obtain ⟨v3, hc, hf⟩ := bd_s hf
    refine gS_i hC hM hA hl.1 [.int p1, .int 0, .int ((S.1 28 9) - 1)] [] (c_X10_isWithin l D cs (ccells cs a q1 q2 S) N p1 0 ((S.1 28 9) - 1) v3 hc) gX10_hasHours_X10_isWithin rfl hd_X10_isWithin ⟨by decide, by decide⟩ (Nat.le_of_ble_eq_true rfl) dX10_hasHours_20 rfl ⟨by decide, by decide⟩ (fun H locs hM => ?_)
    refine lv_if_eq (tgt := 47) hx hb dX10_hasHours_23 (by decide) (fun c4 => ?_) (fun c4 => ?_)
    · replace hf := it_t c4 hf
      refine lv_iconst (v := 0) hx hb dX10_hasHours_47 (by decide) ?_
      cases so_1 hf
      exact hQ _ _ _ _ _ _ dX10_hasHours_48 hM (by decide) (by decide)
    · replace hf := it_f c4 hf
      refine lv_iload_n hx hb dX10_hasHours_26 rfl (lv_at hl 3 rfl) ?_
      refine lv_if_lt (tgt := 47) hx hb dX10_hasHours_27 (by decide) (fun c5 => ?_) (fun c5 => ?_)
      · replace hf := it_t c5 hf
        refine lv_iconst (v := 0) hx hb dX10_hasHours_47 (by decide) ?_
        cases so_1 hf
        exact hQ _ _ _ _ _ _ dX10_hasHours_48 hM (by decide) (by decide)
      · replace hf := it_f c5 hf
        refine lv_iload_n hx hb dX10_hasHours_30 rfl (lv_at hl 3 rfl) ?_
        refine lv_iload hx hb dX10_hasHours_31 (lv_at hl 4 rfl) ?_
        refine lv_icmp_gt (tgt := 47) hx hb dX10_hasHours_33 (by decide) (fun c6 => ?_) (fun c6 => ?_)
        · replace hf := it_t c6 hf
          refine lv_iconst (v := 0) hx hb dX10_hasHours_47 (by decide) ?_
          cases so_1 hf
          exact hQ _ _ _ _ _ _ dX10_hasHours_48 hM (by decide) (by decide)
        · replace hf := it_f c6 hf
          refine lv_iload hx hb dX10_hasHours_36 (lv_at hl 4 rfl) ?_
          refine lv_bipush (v := 24) hx hb dX10_hasHours_38 (by decide) ?_
          refine lv_icmp_ge (tgt := 47) hx hb dX10_hasHours_40 (by decide) (fun c7 => ?_) (fun c7 => ?_)
          · replace hf := it_t c7 hf
            refine lv_iconst (v := 0) hx hb dX10_hasHours_47 (by decide) ?_
            cases so_1 hf
            exact hQ _ _ _ _ _ _ dX10_hasHours_48 hM (by decide) (by decide)
          · replace hf := it_f c7 hf
            refine lv_iconst (v := 1) hx hb dX10_hasHours_43 (by decide) ?_
            refine lv_goto (tgt := 48) hx hb dX10_hasHours_44 (by decide) ?_
            cases so_1 hf
            exact hQ _ _ _ _ _ _ dX10_hasHours_48 hM (by decide) (by decide)
