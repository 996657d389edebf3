theorem hd_X3_join : yX3_join.cls = RX3 ∧ yX3_join.cls ≠ "java/lang/invoke/MethodHandle" ∧ yX3_join.cls ≠ "java/lang/invoke/VarHandle" ∧ (parseMethodDescriptor yX3_join.desc).map (fun d => d.parameters.length) = some 1 := by decide +kernel
theorem tX3_join_1 : Cond.fieldLink RX3 18 "WeatherTeller$Groups" "sets" "I" ∈ wsX3_join := List.mem_of_getElem? (i := 1) rfl
theorem inX3_join_X3 : ∀ w ∈ u_ws RX3 TX3 3, w ∈ wsX3_join := fun _ h => List.mem_cons_of_mem _ (List.mem_append_left _ (List.mem_append_right _ h))
theorem tX3_join_9 : Cond.fieldLink RX3 15 "WeatherTeller$Groups" "best" "[I" ∈ wsX3_join := List.mem_of_getElem? (i := 9) rfl
theorem tX3_join_2 : Cond.fieldLink RX3 22 "WeatherTeller$Rules" "places" "I" ∈ wsX3_join := List.mem_of_getElem? (i := 2) rfl
theorem inX3_join_X4 : ∀ w ∈ u_ws RX4 TX4 12, w ∈ wsX3_join := fun _ h => List.mem_cons_of_mem _ (List.mem_append_right _ h)
theorem tX3_join_3 : Cond.fieldLink RX3 27 "WeatherTeller$Rules" "regions" "I" ∈ wsX3_join := List.mem_of_getElem? (i := 3) rfl
theorem tX3_join_4 : Cond.fieldLink RX3 9 "WeatherTeller$Groups" "joined" "[I" ∈ wsX3_join := List.mem_of_getElem? (i := 4) rfl
def j_X3_join_104 (N : Nat) (S2 : St) : Option (St) :=
  bd (f_J7_fill_53178 N 7 64 0 S2) fun S3 =>
  some S3
def j_X3_join_80 (v4 : Int32) (k7 : Int32 → St → Option (St)) (S8 : St) : Option (St) :=
  nm (puI S8 5 2 (if 2048 < ((S8.1 5 2) * 2) then 2048 else ((S8.1 5 2) * 2))) fun S9 =>
  nm (v4 + 1) fun v10 =>
  k7 v10 S9
def b_X3_join_29 (v7 : Int32) (k80 : St → Option (St)) (k29 : Int32 → St → Option (St)) (v11 : Int32) (S12 : St) : Option (St) :=
  if (S12.1 5 2) ≤ v11 then
    k80 S12
  else
    if 2048 ≤ ((S12.1 5 2) + v11) then
      k80 S12
    else
      ck v11 2048 <|
      ck ((S12.1 5 2) + v11) 2048 <|
      nm (puI S12 6 ((S12.1 5 2) + v11).toNatClampNeg ((S12.1 6 v11.toNatClampNeg) ||| v7)) fun S17 =>
      nm (v11 + 1) fun v18 =>
      k29 v18 S17
def b_X3_join_7 (N : Nat) (k104 : St → Option (St)) (k7 : Int32 → St → Option (St)) (v4 : Int32) (S5 : St) : Option (St) :=
  if ((S5.1 28 9) + (S5.1 28 10)) ≤ v4 then
    k104 S5
  else
    bd (f_X4_placesOfName N 28 v4 S5) fun v7 =>
    jp (j_X3_join_80 v4 k7) fun k80 =>
    jp (lp (fun _ _ => none) (b_X3_join_29 v7 k80) N) fun k29 =>
    k29 0 S5
def f_X3_join (N : Nat)  (S : St) : Option (St) :=
  nm (puI S 5 2 1) fun S1 =>
  jp (j_X3_join_104 N) fun k104 =>
  jp (lp (fun _ _ => none) (b_X3_join_7 N k104) N) fun k7 =>
  k7 0 S1
abbrev rmX3_join : Room := { frames := 1, cells := 0, slots := 0, locals := 23 }
set_option maxRecDepth 100000 in
set_option maxHeartbeats 4000000 in
theorem c_X3_join (l : Launch) (D : va_G) (cs : Nat → ClassId) (a : Nat → Nat) (q1 q2 : Nat) (N : Nat) (S : St) (Sz : St) (hf : f_X3_join N S = some Sz) : gMv l yX3_join wsX3_join rmX3_join D cs [.ref (a 5), .ref (a 28)] (ccells cs a q1 q2 S) (ccells cs a q1 q2 Sz) := by
  unfold f_X3_join at hf
  refine gE_v (cc := cX3_join) (maxL := 5) (by decide) rfl (Nat.le_of_ble_eq_true rfl) ?_
  intro p e s m args below meth c A Q hC hA hQ hM ls hl
  obtain ⟨hx, hb, hml, hown, hts⟩ := hC.1
  have hl : lv_has ls 5 [(0, .ref (a 5)), (1, .ref (a 28))] := hl
  refine lv_aload_n hx hb dX3_join_0 rfl (lv_at hl 0 rfl) ?_
  refine lv_iconst (v := 1) hx hb dX3_join_1 (by decide) ?_
  refine g_put hC hM inX3_join_X3 tyX3_ok nmX3 5 cE5 clX3 2 (by decide) tX3_join_1 TX3_2 tyX3_2 rfl rfl (by rw [cL5]; decide) cP5_2 dX3_join_2 (fun H locs hM => ?_)
  obtain ⟨S1, hf, hM⟩ := cnm hf hM
  refine lv_iconst (v := 0) hx hb dX3_join_5 (by decide) ?_
  refine lv_istore_n (lv' := [(2, .int 0), (0, .ref (a 5)), (1, .ref (a 28))]) hx hb dX3_join_6 rfl hl (by decide) rfl (fun ls hl => ?_)
  refine jp_W (fun k104 : St → Option (St) => ∀ (S2 : St), k104 S2 = some Sz → ∀ (H : Heap) (locs : List Loc) (ls : Array Slot), gw D A s.heap H locs (ccells cs a q1 q2 S2) → lv_has ls 5 [(0, .ref (a 5))] → W p l e rmX3_join s m args below meth c H locs 0 0 Q (F0 m 104 ls [])) ?_ ?_ hf
  · intro S2 hf H locs ls hM hl
    unfold j_X3_join_104 at hf
    refine lv_aload_n hx hb dX3_join_104 rfl (lv_at hl 0 rfl) ?_
    refine g_get hC hM inX3_join_X3 5 cE5 clX3 1 (by decide) tX3_join_9 TX3_1 cV5_1 dX3_join_105 ?_
    refine lv_iconst (v := 0) hx hb dX3_join_108 (by decide) ?_
    obtain ⟨S3, hc, hf⟩ := bd_s hf
    refine gS_v hC hM hA hl.1 [.ref (a 7), .int 0] [] (c_J7_fill_53178_7 l D cs a q1 q2 N 0 S2 S3 hc) gX3_join_J7_fill_53178 rfl hd_J7_fill_53178 ⟨by decide, by decide⟩ (Nat.le_of_ble_eq_true rfl) dX3_join_109 rfl ⟨by decide, by decide⟩ (fun H locs hM => ?_)
    cases so_1 hf
    exact hQ _ _ _ _ _ _ dX3_join_112 hM (by decide) (by decide)
  · intro k104 hk104 hf
    refine jl_W (fun k7 : Int32 → St → Option (St) => ∀ (v4 : Int32) (S5 : St), k7 v4 S5 = some Sz → ∀ (H : Heap) (locs : List Loc) (ls : Array Slot), gw D A s.heap H locs (ccells cs a q1 q2 S5) → lv_has ls 5 [(0, .ref (a 5)), (1, .ref (a 28)), (2, .int v4)] → W p l e rmX3_join s m args below meth c H locs 0 0 Q (F0 m 7 ls [])) ?_ ?_ ?_ hf
    · intro v4 S5 h; cases h
    · intro k7 hk7 v4 S5 hf H locs ls hM hl
      unfold b_X3_join_7 at hf
      refine lv_iload_n hx hb dX3_join_7 rfl (lv_at hl 2 rfl) ?_
      refine lv_aload_n hx hb dX3_join_8 rfl (lv_at hl 1 rfl) ?_
      refine g_get hC hM inX3_join_X4 28 cE28 clX4 9 (by decide) tX3_join_2 TX4_9 cV28_9 dX3_join_9 ?_
      refine lv_aload_n hx hb dX3_join_12 rfl (lv_at hl 1 rfl) ?_
      refine g_get hC hM inX3_join_X4 28 cE28 clX4 10 (by decide) tX3_join_3 TX4_10 cV28_10 dX3_join_13 ?_
      refine lv_iadd hx hb dX3_join_16 ?_
      refine lv_icmp_ge (tgt := 104) hx hb dX3_join_17 (by decide) (fun c6 => ?_) (fun c6 => ?_)
      · replace hf := it_t c6 hf
        exact hk104 _ hf _ _ _ hM (lv_sub hl [0] rfl)
      · replace hf := it_f c6 hf
        refine lv_aload_n hx hb dX3_join_20 rfl (lv_at hl 1 rfl) ?_
        refine lv_iload_n hx hb dX3_join_21 rfl (lv_at hl 2 rfl) ?_
        obtain ⟨v7, hc, hf⟩ := bd_s hf
        refine gV_i hC hM hA hl.1 [.int v4] [] (c_X4_placesOfName_28 l D cs a q1 q2 N v4 S5 v7 hc) gX3_join_X4_placesOfName rfl hd_X4_placesOfName ⟨by decide, by decide⟩ 28 4 clX4 rfl cE28 (Nat.le_of_ble_eq_true rfl) dX3_join_22 rfl ⟨by decide, by decide⟩ (fun H locs hM => ?_)
        refine lv_istore_n (lv' := [(3, .int v7), (0, .ref (a 5)), (1, .ref (a 28)), (2, .int v4)]) hx hb dX3_join_25 rfl hl (by decide) rfl (fun ls hl => ?_)
        refine lv_iconst (v := 0) hx hb dX3_join_26 (by decide) ?_
        refine lv_istore (lv' := [(4, .int 0), (3, .int v7), (0, .ref (a 5)), (1, .ref (a 28)), (2, .int v4)]) hx hb dX3_join_27 hl (by decide) rfl (fun ls hl => ?_)
        refine jp_W (fun k80 : St → Option (St) => ∀ (S8 : St), k80 S8 = some Sz → ∀ (H : Heap) (locs : List Loc) (ls : Array Slot), gw D A s.heap H locs (ccells cs a q1 q2 S8) → lv_has ls 5 [(0, .ref (a 5)), (1, .ref (a 28)), (2, .int v4)] → W p l e rmX3_join s m args below meth c H locs 0 0 Q (F0 m 80 ls [])) ?_ ?_ hf
        · intro S8 hf H locs ls hM hl
          unfold j_X3_join_80 at hf
          refine lv_aload_n hx hb dX3_join_80 rfl (lv_at hl 0 rfl) ?_
          refine lv_aload_n hx hb dX3_join_81 rfl (lv_at hl 0 rfl) ?_
          refine g_get hC hM inX3_join_X3 5 cE5 clX3 2 (by decide) tX3_join_1 TX3_2 cV5_2 dX3_join_82 ?_
          refine lv_iconst (v := 2) hx hb dX3_join_85 (by decide) ?_
          refine lv_imul hx hb dX3_join_86 ?_
          refine lv_aload_n hx hb dX3_join_87 rfl (lv_at hl 0 rfl) ?_
          refine g_get hC hM inX3_join_X3 5 cE5 clX3 0 (by decide) tX3_join_4 TX3_0 cV5_0 dX3_join_88 ?_
          refine va_alen (v := 2048) hx hb hC.2.1 hM.1 6 0 cE6 rfl rfl dX3_join_91 ?_
          refine va_mmin hx hb (by rw [hml]; exact hl.1.symm) hown (hts _ (List.mem_of_getElem? (i := 5) rfl)) (hts _ (List.mem_of_getElem? (i := 6) rfl)) (hts _ (List.mem_of_getElem? (i := 7) rfl)) (hts _ (List.mem_of_getElem? (i := 8) rfl)) (by decide) (Nat.le_of_ble_eq_true rfl) (by decide) (by decide) dX3_join_92 ?_
          refine g_put hC hM inX3_join_X3 tyX3_ok nmX3 5 cE5 clX3 2 (by decide) tX3_join_1 TX3_2 tyX3_2 rfl rfl (by rw [cL5]; decide) cP5_2 dX3_join_95 (fun H locs hM => ?_)
          obtain ⟨S9, hf, hM⟩ := cnm hf hM
          obtain ⟨v10, ev10⟩ : ∃ y : Int32, y = v4 + 1 := ⟨_, rfl⟩
          replace hf := nm_q ev10 hf
          refine lv_iinc (v := v10) (lv' := [(2, .int v10), (0, .ref (a 5)), (1, .ref (a 28))]) hx hb dX3_join_98 hl (k := 2) rfl (by rw [ev10]; rfl) (by decide) rfl (fun ls hl => ?_)
          refine lv_goto (tgt := 7) hx hb dX3_join_101 (by decide) ?_
          exact hk7 _ _ hf _ _ _ hM (lv_sub hl [1, 2, 0] rfl)
        · intro k80 hk80 hf
          refine jl_W (fun k29 : Int32 → St → Option (St) => ∀ (v11 : Int32) (S12 : St), k29 v11 S12 = some Sz → ∀ (H : Heap) (locs : List Loc) (ls : Array Slot), gw D A s.heap H locs (ccells cs a q1 q2 S12) → lv_has ls 5 [(0, .ref (a 5)), (1, .ref (a 28)), (2, .int v4), (3, .int v7), (4, .int v11)] → W p l e rmX3_join s m args below meth c H locs 0 0 Q (F0 m 29 ls [])) ?_ ?_ ?_ hf
          · intro v11 S12 h; cases h
          · intro k29 hk29 v11 S12 hf H locs ls hM hl
            unfold b_X3_join_29 at hf
            refine lv_iload hx hb dX3_join_29 (lv_at hl 4 rfl) ?_
            refine lv_aload_n hx hb dX3_join_31 rfl (lv_at hl 0 rfl) ?_
            refine g_get hC hM inX3_join_X3 5 cE5 clX3 2 (by decide) tX3_join_1 TX3_2 cV5_2 dX3_join_32 ?_
            refine lv_icmp_ge (tgt := 80) hx hb dX3_join_35 (by decide) (fun c13 => ?_) (fun c13 => ?_)
            · replace hf := it_t c13 hf
              exact hk80 _ hf _ _ _ hM (lv_sub hl [0, 1, 2] rfl)
            · replace hf := it_f c13 hf
              refine lv_aload_n hx hb dX3_join_38 rfl (lv_at hl 0 rfl) ?_
              refine g_get hC hM inX3_join_X3 5 cE5 clX3 2 (by decide) tX3_join_1 TX3_2 cV5_2 dX3_join_39 ?_
              refine lv_iload hx hb dX3_join_42 (lv_at hl 4 rfl) ?_
              refine lv_iadd hx hb dX3_join_44 ?_
              refine lv_aload_n hx hb dX3_join_45 rfl (lv_at hl 0 rfl) ?_
              refine g_get hC hM inX3_join_X3 5 cE5 clX3 0 (by decide) tX3_join_4 TX3_0 cV5_0 dX3_join_46 ?_
              refine va_alen (v := 2048) hx hb hC.2.1 hM.1 6 0 cE6 rfl rfl dX3_join_49 ?_
              refine lv_icmp_ge (tgt := 80) hx hb dX3_join_50 (by decide) (fun c14 => ?_) (fun c14 => ?_)
              · replace hf := it_t c14 hf
                exact hk80 _ hf _ _ _ hM (lv_sub hl [0, 1, 2] rfl)
              · replace hf := it_f c14 hf
                refine lv_aload_n hx hb dX3_join_53 rfl (lv_at hl 0 rfl) ?_
                refine g_get hC hM inX3_join_X3 5 cE5 clX3 0 (by decide) tX3_join_4 TX3_0 cV5_0 dX3_join_54 ?_
                refine lv_aload_n hx hb dX3_join_57 rfl (lv_at hl 0 rfl) ?_
                refine g_get hC hM inX3_join_X3 5 cE5 clX3 2 (by decide) tX3_join_1 TX3_2 cV5_2 dX3_join_58 ?_
                refine lv_iload hx hb dX3_join_61 (lv_at hl 4 rfl) ?_
                refine lv_iadd hx hb dX3_join_63 ?_
                refine lv_aload_n hx hb dX3_join_64 rfl (lv_at hl 0 rfl) ?_
                refine g_get hC hM inX3_join_X3 5 cE5 clX3 0 (by decide) tX3_join_4 TX3_0 cV5_0 dX3_join_65 ?_
                refine lv_iload hx hb dX3_join_68 (lv_at hl 4 rfl) ?_
                obtain ⟨h15, hf⟩ := ck_s hf
                refine g_iald hC hM 6 cE6 h15 dX3_join_70 ?_
                refine lv_iload_n hx hb dX3_join_71 rfl (lv_at hl 3 rfl) ?_
                refine lv_ior hx hb dX3_join_72 ?_
                obtain ⟨h16, hf⟩ := ck_s hf
                refine g_iast hC hM 6 cE6 h16 cA6 dX3_join_73 (fun H locs hM => ?_)
                obtain ⟨S17, hf, hM⟩ := cnm hf hM
                obtain ⟨v18, ev18⟩ : ∃ y : Int32, y = v11 + 1 := ⟨_, rfl⟩
                replace hf := nm_q ev18 hf
                refine lv_iinc (v := v18) (lv' := [(4, .int v18), (0, .ref (a 5)), (1, .ref (a 28)), (2, .int v4), (3, .int v7)]) hx hb dX3_join_74 hl (k := 4) rfl (by rw [ev18]; rfl) (by decide) rfl (fun ls hl => ?_)
                refine lv_goto (tgt := 29) hx hb dX3_join_77 (by decide) ?_
                exact hk29 _ _ hf _ _ _ hM (lv_sub hl [1, 2, 3, 4, 0] rfl)
          · intro k29 hk29 hf
            exact hk29 _ _ hf _ _ _ hM (lv_sub hl [2, 3, 4, 1, 0] rfl)
    · intro k7 hk7 hf
      exact hk7 _ _ hf _ _ _ hM (lv_sub hl [1, 2, 0] rfl)

theorem hd_X3_seek : yX3_seek.cls = RX3 ∧ yX3_seek.cls ≠ "java/lang/invoke/MethodHandle" ∧ yX3_seek.cls ≠ "java/lang/invoke/VarHandle" ∧ (parseMethodDescriptor yX3_seek.desc).map (fun d => d.parameters.length) = some 1 := by decide +kernel
theorem tX3_seek_1 : Cond.fieldLink RX3 18 "WeatherTeller$Groups" "sets" "I" ∈ wsX3_seek := List.mem_of_getElem? (i := 1) rfl
theorem inX3_seek_X3 : ∀ w ∈ u_ws RX3 TX3 3, w ∈ wsX3_seek := fun _ h => List.mem_cons_of_mem _ (List.mem_append_right _ h)
theorem tX3_seek_2 : Cond.fieldLink RX3 9 "WeatherTeller$Groups" "joined" "[I" ∈ wsX3_seek := List.mem_of_getElem? (i := 2) rfl
def j_X3_seek_64 (v3 : Int32) (k8 : Int32 → Int32 → Int32 → Option (Int32)) (v6 : Int32) (v7 : Int32) : Option (Int32) :=
  nm (v3 + 1) fun v8 =>
  k8 v6 v7 v8
def b_X3_seek_8 (N : Nat) (p0 : Int32) (S : St) (k8 : Int32 → Int32 → Int32 → Option (Int32)) (v1 : Int32) (v2 : Int32) (v3 : Int32) : Option (Int32) :=
  if (S.1 5 2) ≤ v3 then
    some v1
  else
    ck v3 2048 <|
    jp (j_X3_seek_64 v3 k8) fun k64 =>
    if ((S.1 6 v3.toNatClampNeg) &&& p0) = p0 then
      bd (f_J6_bitCount_0f7a4 N v3) fun v10 =>
      ck v3 2048 <|
      bd (f_J6_bitCount_0f7a4 N ((S.1 6 v3.toNatClampNeg) &&& (p0 ^^^ (-1)))) fun v12 =>
      nm (v10 + v12) fun v13 =>
      if v2 ≤ v13 then
        k64 v1 v2
      else
        k64 v3 v13
    else
      k64 v1 v2
def f_X3_seek (N : Nat) (p0 : Int32) (S : St) : Option (Int32) :=
  jp (lp (fun _ _ _ => none) (b_X3_seek_8 N p0 S) N) fun k8 =>
  k8 0 18 1
abbrev rmX3_seek : Room := { frames := 1, cells := 0, slots := 0, locals := 20 }
set_option maxRecDepth 100000 in
set_option maxHeartbeats 4000000 in
theorem c_X3_seek (l : Launch) (D : va_G) (cs : Nat → ClassId) (a : Nat → Nat) (q1 q2 : Nat) (N : Nat) (p0 : Int32) (S : St) (rz : Int32) (hf : f_X3_seek N p0 S = some rz) : gMi l yX3_seek wsX3_seek rmX3_seek D cs [.ref (a 5), .int p0] (ccells cs a q1 q2 S) rz (ccells cs a q1 q2 S) := by
  unfold f_X3_seek at hf
  refine gE_i (cc := cX3_seek) (maxL := 6) (by decide) rfl (Nat.le_of_ble_eq_true rfl) ?_
  intro p e s m args below meth c A Q hC hA hQ hM ls hl
  obtain ⟨hx, hb, hml, hown, hts⟩ := hC.1
  have hl : lv_has ls 6 [(0, .ref (a 5)), (1, .int p0)] := hl
  refine lv_iconst (v := 0) hx hb dX3_seek_0 (by decide) ?_
  refine lv_istore_n (lv' := [(2, .int 0), (0, .ref (a 5)), (1, .int p0)]) hx hb dX3_seek_1 rfl hl (by decide) rfl (fun ls hl => ?_)
  refine lv_bipush (v := 18) hx hb dX3_seek_2 (by decide) ?_
  refine lv_istore_n (lv' := [(3, .int 18), (2, .int 0), (0, .ref (a 5)), (1, .int p0)]) hx hb dX3_seek_4 rfl hl (by decide) rfl (fun ls hl => ?_)
  refine lv_iconst (v := 1) hx hb dX3_seek_5 (by decide) ?_
  refine lv_istore (lv' := [(4, .int 1), (3, .int 18), (2, .int 0), (0, .ref (a 5)), (1, .int p0)]) hx hb dX3_seek_6 hl (by decide) rfl (fun ls hl => ?_)
  refine jl_W (fun k8 : Int32 → Int32 → Int32 → Option (Int32) => ∀ (v1 : Int32) (v2 : Int32) (v3 : Int32), k8 v1 v2 v3 = some rz → ∀ (H : Heap) (locs : List Loc) (ls : Array Slot), gw D A s.heap H locs (ccells cs a q1 q2 S) → lv_has ls 6 [(0, .ref (a 5)), (1, .int p0), (2, .int v1), (3, .int v2), (4, .int v3)] → W p l e rmX3_seek s m args below meth c H locs 0 0 Q (F0 m 8 ls [])) ?_ ?_ ?_ hf
  · intro v1 v2 v3 h; cases h
  · intro k8 hk8 v1 v2 v3 hf H locs ls hM hl
    unfold b_X3_seek_8 at hf
    refine lv_iload hx hb dX3_seek_8 (lv_at hl 4 rfl) ?_
    refine lv_aload_n hx hb dX3_seek_10 rfl (lv_at hl 0 rfl) ?_
    refine g_get hC hM inX3_seek_X3 5 cE5 clX3 2 (by decide) tX3_seek_1 TX3_2 cV5_2 dX3_seek_11 ?_
    refine lv_icmp_ge (tgt := 70) hx hb dX3_seek_14 (by decide) (fun c4 => ?_) (fun c4 => ?_)
    · replace hf := it_t c4 hf
      refine lv_iload_n hx hb dX3_seek_70 rfl (lv_at hl 2 rfl) ?_
      cases so_1 hf
      exact hQ _ _ _ _ _ _ dX3_seek_71 hM (by decide) (by decide)
    · replace hf := it_f c4 hf
      refine lv_aload_n hx hb dX3_seek_17 rfl (lv_at hl 0 rfl) ?_
      refine g_get hC hM inX3_seek_X3 5 cE5 clX3 0 (by decide) tX3_seek_2 TX3_0 cV5_0 dX3_seek_18 ?_
      refine lv_iload hx hb dX3_seek_21 (lv_at hl 4 rfl) ?_
      obtain ⟨h5, hf⟩ := ck_s hf
      refine g_iald hC hM 6 cE6 h5 dX3_seek_23 ?_
      refine lv_iload_n hx hb dX3_seek_24 rfl (lv_at hl 1 rfl) ?_
      refine lv_iand hx hb dX3_seek_25 ?_
      refine lv_iload_n hx hb dX3_seek_26 rfl (lv_at hl 1 rfl) ?_
      refine jp_W (fun k64 : Int32 → Int32 → Option (Int32) => ∀ (v6 : Int32) (v7 : Int32), k64 v6 v7 = some rz → ∀ (H : Heap) (locs : List Loc) (ls : Array Slot), gw D A s.heap H locs (ccells cs a q1 q2 S) → lv_has ls 6 [(0, .ref (a 5)), (1, .int p0), (2, .int v6), (3, .int v7), (4, .int v3)] → W p l e rmX3_seek s m args below meth c H locs 0 0 Q (F0 m 64 ls [])) ?_ ?_ hf
      · intro v6 v7 hf H locs ls hM hl
        unfold j_X3_seek_64 at hf
        obtain ⟨v8, ev8⟩ : ∃ y : Int32, y = v3 + 1 := ⟨_, rfl⟩
        replace hf := nm_q ev8 hf
        refine lv_iinc (v := v8) (lv' := [(4, .int v8), (0, .ref (a 5)), (1, .int p0), (2, .int v6), (3, .int v7)]) hx hb dX3_seek_64 hl (k := 4) rfl (by rw [ev8]; rfl) (by decide) rfl (fun ls hl => ?_)
        refine lv_goto (tgt := 8) hx hb dX3_seek_67 (by decide) ?_
        exact hk8 _ _ _ hf _ _ _ hM (lv_sub hl [1, 2, 3, 4, 0] rfl)
      · intro k64 hk64 hf
        refine lv_icmp_ne (tgt := 64) hx hb dX3_seek_27 (by decide) (fun c9 => ?_) (fun c9 => ?_)
        · replace hf := it_f c9 hf
          exact hk64 _ _ hf _ _ _ hM hl
        · replace hf := it_t c9 hf
          refine lv_iload hx hb dX3_seek_30 (lv_at hl 4 rfl) ?_
          obtain ⟨v10, hc, hf⟩ := bd_s hf
          refine gS_i hC hM hA hl.1 [.int v3] [] (c_J6_bitCount_0f7a4 l D cs (ccells cs a q1 q2 S) N v3 v10 hc) gX3_seek_J6_bitCount_0f7a4 rfl hd_J6_bitCount_0f7a4 ⟨by decide, by decide⟩ (Nat.le_of_ble_eq_true rfl) dX3_seek_32 rfl ⟨by decide, by decide⟩ (fun H locs hM => ?_)
          refine lv_aload_n hx hb dX3_seek_35 rfl (lv_at hl 0 rfl) ?_
          refine g_get hC hM inX3_seek_X3 5 cE5 clX3 0 (by decide) tX3_seek_2 TX3_0 cV5_0 dX3_seek_36 ?_
          refine lv_iload hx hb dX3_seek_39 (lv_at hl 4 rfl) ?_
          obtain ⟨h11, hf⟩ := ck_s hf
          refine g_iald hC hM 6 cE6 h11 dX3_seek_41 ?_
          refine lv_iload_n hx hb dX3_seek_42 rfl (lv_at hl 1 rfl) ?_
          refine lv_iconst (v := (-1)) hx hb dX3_seek_43 (by decide) ?_
          refine lv_ixor hx hb dX3_seek_44 ?_
          refine lv_iand hx hb dX3_seek_45 ?_
          obtain ⟨v12, hc, hf⟩ := bd_s hf
          refine gS_i hC hM hA hl.1 [.int ((S.1 6 v3.toNatClampNeg) &&& (p0 ^^^ (-1)))] [.int v10] (c_J6_bitCount_0f7a4 l D cs (ccells cs a q1 q2 S) N ((S.1 6 v3.toNatClampNeg) &&& (p0 ^^^ (-1))) v12 hc) gX3_seek_J6_bitCount_0f7a4 rfl hd_J6_bitCount_0f7a4 ⟨by decide, by decide⟩ (Nat.le_of_ble_eq_true rfl) dX3_seek_46 rfl ⟨by decide, by decide⟩ (fun H locs hM => ?_)
          refine lv_iadd hx hb dX3_seek_49 ?_
          refine lv_topi (fun v13 ev13 => ?_)
          replace hf := nm_q ev13 hf
          refine lv_istore (lv' := [(5, .int v13), (0, .ref (a 5)), (1, .int p0), (2, .int v1), (3, .int v2), (4, .int v3)]) hx hb dX3_seek_50 hl (by decide) rfl (fun ls hl => ?_)
          refine lv_iload hx hb dX3_seek_52 (lv_at hl 0 rfl) ?_
          refine lv_iload_n hx hb dX3_seek_54 rfl (lv_at hl 4 rfl) ?_
          refine lv_icmp_ge (tgt := 64) hx hb dX3_seek_55 (by decide) (fun c14 => ?_) (fun c14 => ?_)
          · replace hf := it_t c14 hf
            exact hk64 _ _ hf _ _ _ hM (lv_sub hl [1, 2, 3, 4, 5] rfl)
          · replace hf := it_f c14 hf
            refine lv_iload hx hb dX3_seek_58 (lv_at hl 0 rfl) ?_
            refine lv_istore_n (lv' := [(3, .int v13), (5, .int v13), (0, .ref (a 5)), (1, .int p0), (2, .int v1), (4, .int v3)]) hx hb dX3_seek_60 rfl hl (by decide) rfl (fun ls hl => ?_)
            refine lv_iload hx hb dX3_seek_61 (lv_at hl 5 rfl) ?_
            refine lv_istore_n (lv' := [(2, .int v3), (3, .int v13), (5, .int v13), (0, .ref (a 5)), (1, .int p0), (4, .int v3)]) hx hb dX3_seek_63 rfl hl (by decide) rfl (fun ls hl => ?_)
            exact hk64 _ _ hf _ _ _ hM (lv_sub hl [3, 4, 0, 1, 5] rfl)
  · intro k8 hk8 hf
    exact hk8 _ _ _ hf _ _ _ hM (lv_sub hl [3, 4, 2, 1, 0] rfl)

theorem hd_X3_namesOf : yX3_namesOf.cls = RX3 ∧ yX3_namesOf.cls ≠ "java/lang/invoke/MethodHandle" ∧ yX3_namesOf.cls ≠ "java/lang/invoke/VarHandle" ∧ (parseMethodDescriptor yX3_namesOf.desc).map (fun d => d.parameters.length) = some 1 := by decide +kernel
theorem tX3_namesOf_1 : Cond.fieldLink RX3 15 "WeatherTeller$Groups" "best" "[I" ∈ wsX3_namesOf := List.mem_of_getElem? (i := 1) rfl
theorem inX3_namesOf_X3 : ∀ w ∈ u_ws RX3 TX3 3, w ∈ wsX3_namesOf := fun _ h => List.mem_cons_of_mem _ (List.mem_append_right _ h)
def j_X3_namesOf_35 (p0 : Int32) (S4 : St) : Option (Int32 × St) :=
  ck p0 64 <|
  some ((S4.1 7 p0.toNatClampNeg), S4)
def f_X3_namesOf (N : Nat) (p0 : Int32) (S : St) : Option (Int32 × St) :=
  if p0 ≤ 0 then
    some (0, S)
  else
    if p0 < 64 then
      ck p0 64 <|
      jp (j_X3_namesOf_35 p0) fun k35 =>
      if (S.1 7 p0.toNatClampNeg) = 0 then
        bd (f_X3_seek N p0 S) fun v7 =>
        ck p0 64 <|
        nm (puI S 7 p0.toNatClampNeg v7) fun S9 =>
        k35 S9
      else
        k35 S
    else
      some (0, S)
abbrev rmX3_namesOf : Room := { frames := 2, cells := 0, slots := 0, locals := 45 }
set_option maxRecDepth 100000 in
set_option maxHeartbeats 4000000 in
theorem c_X3_namesOf (l : Launch) (D : va_G) (cs : Nat → ClassId) (a : Nat → Nat) (q1 q2 : Nat) (N : Nat) (p0 : Int32) (S : St) (rz : Int32) (Sz : St) (hf : f_X3_namesOf N p0 S = some (rz, Sz)) : gMi l yX3_namesOf wsX3_namesOf rmX3_namesOf D cs [.ref (a 5), .int p0] (ccells cs a q1 q2 S) rz (ccells cs a q1 q2 Sz) := by
  unfold f_X3_namesOf at hf
  refine gE_i (cc := cX3_namesOf) (maxL := 2) (by decide) rfl (Nat.le_of_ble_eq_true rfl) ?_
  intro p e s m args below meth c A Q hC hA hQ hM ls hl
  obtain ⟨hx, hb, hml, hown, hts⟩ := hC.1
  have hl : lv_has ls 2 [(0, .ref (a 5)), (1, .int p0)] := hl
  refine lv_iload_n hx hb dX3_namesOf_0 rfl (lv_at hl 1 rfl) ?_
  refine lv_if_le (tgt := 13) hx hb dX3_namesOf_1 (by decide) (fun c1 => ?_) (fun c1 => ?_)
  · replace hf := it_t c1 hf
    refine lv_iconst (v := 0) hx hb dX3_namesOf_13 (by decide) ?_
    obtain ⟨e1, e2⟩ := so_2 hf
    cases e1; cases e2
    exact hQ _ _ _ _ _ _ dX3_namesOf_14 hM (by decide) (by decide)
  · replace hf := it_f c1 hf
    refine lv_iload_n hx hb dX3_namesOf_4 rfl (lv_at hl 1 rfl) ?_
    refine lv_aload_n hx hb dX3_namesOf_5 rfl (lv_at hl 0 rfl) ?_
    refine g_get hC hM inX3_namesOf_X3 5 cE5 clX3 1 (by decide) tX3_namesOf_1 TX3_1 cV5_1 dX3_namesOf_6 ?_
    refine va_alen (v := 64) hx hb hC.2.1 hM.1 7 0 cE7 rfl rfl dX3_namesOf_9 ?_
    refine lv_icmp_lt (tgt := 15) hx hb dX3_namesOf_10 (by decide) (fun c2 => ?_) (fun c2 => ?_)
    · replace hf := it_t c2 hf
      refine lv_aload_n hx hb dX3_namesOf_15 rfl (lv_at hl 0 rfl) ?_
      refine g_get hC hM inX3_namesOf_X3 5 cE5 clX3 1 (by decide) tX3_namesOf_1 TX3_1 cV5_1 dX3_namesOf_16 ?_
      refine lv_iload_n hx hb dX3_namesOf_19 rfl (lv_at hl 1 rfl) ?_
      obtain ⟨h3, hf⟩ := ck_s hf
      refine g_iald hC hM 7 cE7 h3 dX3_namesOf_20 ?_
      refine jp_W (fun k35 : St → Option (Int32 × St) => ∀ (S4 : St), k35 S4 = some (rz, Sz) → ∀ (H : Heap) (locs : List Loc) (ls : Array Slot), gw D A s.heap H locs (ccells cs a q1 q2 S4) → lv_has ls 2 [(0, .ref (a 5)), (1, .int p0)] → W p l e rmX3_namesOf s m args below meth c H locs 0 0 Q (F0 m 35 ls [])) ?_ ?_ hf
      · intro S4 hf H locs ls hM hl
        unfold j_X3_namesOf_35 at hf
        refine lv_aload_n hx hb dX3_namesOf_35 rfl (lv_at hl 0 rfl) ?_
        refine g_get hC hM inX3_namesOf_X3 5 cE5 clX3 1 (by decide) tX3_namesOf_1 TX3_1 cV5_1 dX3_namesOf_36 ?_
        refine lv_iload_n hx hb dX3_namesOf_39 rfl (lv_at hl 1 rfl) ?_
        obtain ⟨h5, hf⟩ := ck_s hf
        refine g_iald hC hM 7 cE7 h5 dX3_namesOf_40 ?_
        obtain ⟨e1, e2⟩ := so_2 hf
        cases e1; cases e2
        exact hQ _ _ _ _ _ _ dX3_namesOf_41 hM (by decide) (by decide)
      · intro k35 hk35 hf
        refine lv_if_ne (tgt := 35) hx hb dX3_namesOf_21 (by decide) (fun c6 => ?_) (fun c6 => ?_)
        · replace hf := it_f c6 hf
          exact hk35 _ hf _ _ _ hM hl
        · replace hf := it_t c6 hf
          refine lv_aload_n hx hb dX3_namesOf_24 rfl (lv_at hl 0 rfl) ?_
          refine g_get hC hM inX3_namesOf_X3 5 cE5 clX3 1 (by decide) tX3_namesOf_1 TX3_1 cV5_1 dX3_namesOf_25 ?_
          refine lv_iload_n hx hb dX3_namesOf_28 rfl (lv_at hl 1 rfl) ?_
          refine lv_aload_n hx hb dX3_namesOf_29 rfl (lv_at hl 0 rfl) ?_
          refine lv_iload_n hx hb dX3_namesOf_30 rfl (lv_at hl 1 rfl) ?_
          obtain ⟨v7, hc, hf⟩ := bd_s hf
          refine gV_i hC hM hA hl.1 [.int p0] [.int p0, .ref (a 7)] (c_X3_seek l D cs a q1 q2 N p0 S v7 hc) gX3_namesOf_X3_seek rfl hd_X3_seek ⟨by decide, by decide⟩ 5 3 clX3 rfl cE5 (Nat.le_of_ble_eq_true rfl) dX3_namesOf_31 rfl ⟨by decide, by decide⟩ (fun H locs hM => ?_)
          obtain ⟨h8, hf⟩ := ck_s hf
          refine g_iast hC hM 7 cE7 h8 cA7 dX3_namesOf_34 (fun H locs hM => ?_)
          obtain ⟨S9, hf, hM⟩ := cnm hf hM
          exact hk35 _ hf _ _ _ hM hl
    · replace hf := it_f c2 hf
      refine lv_iconst (v := 0) hx hb dX3_namesOf_13 (by decide) ?_
      obtain ⟨e1, e2⟩ := so_2 hf
      cases e1; cases e2
      exact hQ _ _ _ _ _ _ dX3_namesOf_14 hM (by decide) (by decide)

theorem hd_X3_takenOutOf : yX3_takenOutOf.cls = RX3 ∧ yX3_takenOutOf.cls ≠ "java/lang/invoke/MethodHandle" ∧ yX3_takenOutOf.cls ≠ "java/lang/invoke/VarHandle" ∧ (parseMethodDescriptor yX3_takenOutOf.desc).map (fun d => d.parameters.length) = some 1 := by decide +kernel
theorem tX3_takenOutOf_1 : Cond.fieldLink RX3 9 "WeatherTeller$Groups" "joined" "[I" ∈ wsX3_takenOutOf := List.mem_of_getElem? (i := 1) rfl
theorem inX3_takenOutOf_X3 : ∀ w ∈ u_ws RX3 TX3 3, w ∈ wsX3_takenOutOf := fun _ h => List.mem_cons_of_mem _ (List.mem_append_right _ h)
def f_X3_takenOutOf (N : Nat) (p0 : Int32) (S : St) : Option (Int32 × St) :=
  bd2 (f_X3_namesOf N p0 S) fun v1 S2 =>
  ck v1 2048 <|
  some (((S2.1 6 v1.toNatClampNeg) &&& (p0 ^^^ (-1))), S2)
abbrev rmX3_takenOutOf : Room := { frames := 3, cells := 0, slots := 0, locals := 66 }
set_option maxRecDepth 100000 in
set_option maxHeartbeats 4000000 in
theorem c_X3_takenOutOf (l : Launch) (D : va_G) (cs : Nat → ClassId) (a : Nat → Nat) (q1 q2 : Nat) (N : Nat) (p0 : Int32) (S : St) (rz : Int32) (Sz : St) (hf : f_X3_takenOutOf N p0 S = some (rz, Sz)) : gMi l yX3_takenOutOf wsX3_takenOutOf rmX3_takenOutOf D cs [.ref (a 5), .int p0] (ccells cs a q1 q2 S) rz (ccells cs a q1 q2 Sz) := by
  unfold f_X3_takenOutOf at hf
  refine gE_i (cc := cX3_takenOutOf) (maxL := 2) (by decide) rfl (Nat.le_of_ble_eq_true rfl) ?_
  intro p e s m args below meth c A Q hC hA hQ hM ls hl
  obtain ⟨hx, hb, hml, hown, hts⟩ := hC.1
  have hl : lv_has ls 2 [(0, .ref (a 5)), (1, .int p0)] := hl
  refine lv_aload_n hx hb dX3_takenOutOf_0 rfl (lv_at hl 0 rfl) ?_
  refine g_get hC hM inX3_takenOutOf_X3 5 cE5 clX3 0 (by decide) tX3_takenOutOf_1 TX3_0 cV5_0 dX3_takenOutOf_1 ?_
  refine lv_aload_n hx hb dX3_takenOutOf_4 rfl (lv_at hl 0 rfl) ?_
  refine lv_iload_n hx hb dX3_takenOutOf_5 rfl (lv_at hl 1 rfl) ?_
  obtain ⟨v1, S2, hc, hf⟩ := bd2_s hf
  refine gV_i hC hM hA hl.1 [.int p0] [.ref (a 6)] (c_X3_namesOf l D cs a q1 q2 N p0 S v1 S2 hc) gX3_takenOutOf_X3_namesOf rfl hd_X3_namesOf ⟨by decide, by decide⟩ 5 3 clX3 rfl cE5 (Nat.le_of_ble_eq_true rfl) dX3_takenOutOf_6 rfl ⟨by decide, by decide⟩ (fun H locs hM => ?_)
  obtain ⟨h3, hf⟩ := ck_s hf
  refine g_iald hC hM 6 cE6 h3 dX3_takenOutOf_9 ?_
  refine lv_iload_n hx hb dX3_takenOutOf_10 rfl (lv_at hl 1 rfl) ?_
  refine lv_iconst (v := (-1)) hx hb dX3_takenOutOf_11 (by decide) ?_
  refine lv_ixor hx hb dX3_takenOutOf_12 ?_
  refine lv_iand hx hb dX3_takenOutOf_13 ?_
  obtain ⟨e1, e2⟩ := so_2 hf
  cases e1; cases e2
  exact hQ _ _ _ _ _ _ dX3_takenOutOf_14 hM (by decide) (by decide)

theorem hd_X2_seekHours : yX2_seekHours.cls ≠ "java/lang/invoke/MethodHandle" ∧ yX2_seekHours.cls ≠ "java/lang/invoke/VarHandle" ∧ (parseMethodDescriptor yX2_seekHours.desc).map (fun d => d.parameters.length) = some 4 := by decide +kernel
theorem tX2_seekHours_1 : Cond.fieldLink RX2 48 "WeatherTeller$Rules" "quantities" "[I" ∈ wsX2_seekHours := List.mem_of_getElem? (i := 1) rfl
theorem inX2_seekHours_X4 : ∀ w ∈ u_ws RX4 TX4 12, w ∈ wsX2_seekHours := fun _ h => List.mem_cons_of_mem _ (List.mem_append_left _ (List.mem_append_right _ h))
def j_X2_seekHours_43 (v2 : Int32) (k6 : Int32 → Int32 → Option (Int32)) (v7 : Int32) : Option (Int32) :=
  nm (v2 + 1) fun v8 =>
  k6 v7 v8
def b_X2_seekHours_6 (N : Nat) (p2 : Int32) (p3 : Int32) (S : St) (k6 : Int32 → Int32 → Option (Int32)) (v1 : Int32) (v2 : Int32) : Option (Int32) :=
  if 24 ≤ v2 then
    some v1
  else
    ck p2 24 <|
    bd (f_X7_at N 48 (S.1 33 p2.toNatClampNeg) p3 v2 S) fun v5 =>
    bd (f_X4_isIn N 28 p2 v5 S) fun v6 =>
    jp (j_X2_seekHours_43 v2 k6) fun k43 =>
    if v6 = 0 then
      k43 v1
    else
      nm (v1 ||| (1 <<< (v2 &&& 31))) fun v10 =>
      k43 v10
def f_X2_seekHours (N : Nat) (p2 : Int32) (p3 : Int32) (S : St) : Option (Int32) :=
  jp (lp (fun _ _ => none) (b_X2_seekHours_6 N p2 p3 S) N) fun k6 =>
  k6 0 0
abbrev rmX2_seekHours : Room := { frames := 3, cells := 0, slots := 0, locals := 68 }
set_option maxRecDepth 100000 in
set_option maxHeartbeats 4000000 in
theorem c_X2_seekHours (l : Launch) (D : va_G) (cs : Nat → ClassId) (a : Nat → Nat) (q1 q2 : Nat) (N : Nat) (p2 : Int32) (p3 : Int32) (S : St) (rz : Int32) (hf : f_X2_seekHours N p2 p3 S = some rz) : gMi l yX2_seekHours wsX2_seekHours rmX2_seekHours D cs [.ref (a 28), .ref (a 48), .int p2, .int p3] (ccells cs a q1 q2 S) rz (ccells cs a q1 q2 S) := by
  unfold f_X2_seekHours at hf
  refine gE_i (cc := cX2_seekHours) (maxL := 6) (by decide) rfl (Nat.le_of_ble_eq_true rfl) ?_
  intro p e s m args below meth c A Q hC hA hQ hM ls hl
  obtain ⟨hx, hb, hml, hown, hts⟩ := hC.1
  have hl : lv_has ls 6 [(0, .ref (a 28)), (1, .ref (a 48)), (2, .int p2), (3, .int p3)] := hl
  refine lv_iconst (v := 0) hx hb dX2_seekHours_0 (by decide) ?_
  refine lv_istore (lv' := [(4, .int 0), (0, .ref (a 28)), (1, .ref (a 48)), (2, .int p2), (3, .int p3)]) hx hb dX2_seekHours_1 hl (by decide) rfl (fun ls hl => ?_)
  refine lv_iconst (v := 0) hx hb dX2_seekHours_3 (by decide) ?_
  refine lv_istore (lv' := [(5, .int 0), (4, .int 0), (0, .ref (a 28)), (1, .ref (a 48)), (2, .int p2), (3, .int p3)]) hx hb dX2_seekHours_4 hl (by decide) rfl (fun ls hl => ?_)
  refine jl_W (fun k6 : Int32 → Int32 → Option (Int32) => ∀ (v1 : Int32) (v2 : Int32), k6 v1 v2 = some rz → ∀ (H : Heap) (locs : List Loc) (ls : Array Slot), gw D A s.heap H locs (ccells cs a q1 q2 S) → lv_has ls 6 [(0, .ref (a 28)), (1, .ref (a 48)), (2, .int p2), (3, .int p3), (4, .int v1), (5, .int v2)] → W p l e rmX2_seekHours s m args below meth c H locs 0 0 Q (F0 m 6 ls [])) ?_ ?_ ?_ hf
  · intro v1 v2 h; cases h
  · intro k6 hk6 v1 v2 hf H locs ls hM hl
    unfold b_X2_seekHours_6 at hf
    refine lv_iload hx hb dX2_seekHours_6 (lv_at hl 5 rfl) ?_
    refine lv_bipush (v := 24) hx hb dX2_seekHours_8 (by decide) ?_
    refine lv_icmp_ge (tgt := 49) hx hb dX2_seekHours_10 (by decide) (fun c3 => ?_) (fun c3 => ?_)
    · replace hf := it_t c3 hf
      refine lv_iload hx hb dX2_seekHours_49 (lv_at hl 4 rfl) ?_
      cases so_1 hf
      exact hQ _ _ _ _ _ _ dX2_seekHours_51 hM (by decide) (by decide)
    · replace hf := it_f c3 hf
      refine lv_aload_n hx hb dX2_seekHours_13 rfl (lv_at hl 0 rfl) ?_
      refine lv_iload_n hx hb dX2_seekHours_14 rfl (lv_at hl 2 rfl) ?_
      refine lv_aload_n hx hb dX2_seekHours_15 rfl (lv_at hl 1 rfl) ?_
      refine lv_aload_n hx hb dX2_seekHours_16 rfl (lv_at hl 0 rfl) ?_
      refine g_get hC hM inX2_seekHours_X4 28 cE28 clX4 4 (by decide) tX2_seekHours_1 TX4_4 cV28_4 dX2_seekHours_17 ?_
      refine lv_iload_n hx hb dX2_seekHours_20 rfl (lv_at hl 2 rfl) ?_
      obtain ⟨h4, hf⟩ := ck_s hf
      refine g_iald hC hM 33 cE33 h4 dX2_seekHours_21 ?_
      refine lv_iload_n hx hb dX2_seekHours_22 rfl (lv_at hl 3 rfl) ?_
      refine lv_iload hx hb dX2_seekHours_23 (lv_at hl 5 rfl) ?_
      obtain ⟨v5, hc, hf⟩ := bd_s hf
      refine gV_i hC hM hA hl.1 [.int (S.1 33 p2.toNatClampNeg), .int p3, .int v2] [.int p2, .ref (a 28)] (c_X7_at_48 l D cs a q1 q2 N (S.1 33 p2.toNatClampNeg) p3 v2 S v5 hc) gX2_seekHours_X7_at rfl hd_X7_at ⟨by decide, by decide⟩ 48 7 clX7 rfl cE48 (Nat.le_of_ble_eq_true rfl) dX2_seekHours_25 rfl ⟨by decide, by decide⟩ (fun H locs hM => ?_)
      obtain ⟨v6, hc, hf⟩ := bd_s hf
      refine gV_i hC hM hA hl.1 [.int p2, .int v5] [] (c_X4_isIn_28 l D cs a q1 q2 N p2 v5 S v6 hc) gX2_seekHours_X4_isIn rfl hd_X4_isIn ⟨by decide, by decide⟩ 28 4 clX4 rfl cE28 (Nat.le_of_ble_eq_true rfl) dX2_seekHours_28 rfl ⟨by decide, by decide⟩ (fun H locs hM => ?_)
      refine jp_W (fun k43 : Int32 → Option (Int32) => ∀ (v7 : Int32), k43 v7 = some rz → ∀ (H : Heap) (locs : List Loc) (ls : Array Slot), gw D A s.heap H locs (ccells cs a q1 q2 S) → lv_has ls 6 [(0, .ref (a 28)), (1, .ref (a 48)), (2, .int p2), (3, .int p3), (4, .int v7), (5, .int v2)] → W p l e rmX2_seekHours s m args below meth c H locs 0 0 Q (F0 m 43 ls [])) ?_ ?_ hf
      · intro v7 hf H locs ls hM hl
        unfold j_X2_seekHours_43 at hf
        obtain ⟨v8, ev8⟩ : ∃ y : Int32, y = v2 + 1 := ⟨_, rfl⟩
        replace hf := nm_q ev8 hf
        refine lv_iinc (v := v8) (lv' := [(5, .int v8), (0, .ref (a 28)), (1, .ref (a 48)), (2, .int p2), (3, .int p3), (4, .int v7)]) hx hb dX2_seekHours_43 hl (k := 5) rfl (by rw [ev8]; rfl) (by decide) rfl (fun ls hl => ?_)
        refine lv_goto (tgt := 6) hx hb dX2_seekHours_46 (by decide) ?_
        exact hk6 _ _ hf _ _ _ hM (lv_sub hl [1, 2, 3, 4, 5, 0] rfl)
      · intro k43 hk43 hf
        refine lv_if_eq (tgt := 43) hx hb dX2_seekHours_31 (by decide) (fun c9 => ?_) (fun c9 => ?_)
        · replace hf := it_t c9 hf
          exact hk43 _ hf _ _ _ hM hl
        · replace hf := it_f c9 hf
          refine lv_iload hx hb dX2_seekHours_34 (lv_at hl 4 rfl) ?_
          refine lv_iconst (v := 1) hx hb dX2_seekHours_36 (by decide) ?_
          refine lv_iload hx hb dX2_seekHours_37 (lv_at hl 5 rfl) ?_
          refine lv_ishl hx hb dX2_seekHours_39 ?_
          refine lv_ior hx hb dX2_seekHours_40 ?_
          refine lv_topi (fun v10 ev10 => ?_)
          replace hf := nm_q ev10 hf
          refine lv_istore (lv' := [(4, .int v10), (0, .ref (a 28)), (1, .ref (a 48)), (2, .int p2), (3, .int p3), (5, .int v2)]) hx hb dX2_seekHours_41 hl (by decide) rfl (fun ls hl => ?_)
          exact hk43 _ hf _ _ _ hM (lv_sub hl [1, 2, 3, 4, 0, 5] rfl)
  · intro k6 hk6 hf
    exact hk6 _ _ hf _ _ _ hM (lv_sub hl [2, 3, 4, 5, 1, 0] rfl)

theorem hd_X2_endOf : yX2_endOf.cls ≠ "java/lang/invoke/MethodHandle" ∧ yX2_endOf.cls ≠ "java/lang/invoke/VarHandle" ∧ (parseMethodDescriptor yX2_endOf.desc).map (fun d => d.parameters.length) = some 2 := by decide +kernel
theorem tX2_endOf_1 : Cond.static yX10_hasBit ∈ wsX2_endOf := List.mem_of_getElem? (i := 1) rfl
theorem tX2_endOf_2 : Cond.initialized RX10 ∈ wsX2_endOf := List.mem_of_getElem? (i := 2) rfl
def b_X2_endOf_2 (N : Nat) (p0 : Int32) (k2 : Int32 → Option (Int32)) (v1 : Int32) : Option (Int32) :=
  if 24 ≤ (v1 + 1) then
    some v1
  else
    bd (f_X10_hasBit N p0 (v1 + 1)) fun v3 =>
    if v3 = 0 then
      some v1
    else
      nm (v1 + 1) fun v5 =>
      k2 v5
def f_X2_endOf (N : Nat) (p0 : Int32) (p1 : Int32) : Option (Int32) :=
  jp (lp (fun _ => none) (b_X2_endOf_2 N p0) N) fun k2 =>
  k2 p1
abbrev rmX2_endOf : Room := { frames := 1, cells := 0, slots := 0, locals := 21 }
set_option maxRecDepth 100000 in
set_option maxHeartbeats 4000000 in
theorem c_X2_endOf (l : Launch) (D : va_G) (cs : Nat → ClassId) (w : va_W) (N : Nat) (p0 : Int32) (p1 : Int32) (rz : Int32) (hf : f_X2_endOf N p0 p1 = some rz) : gMi l yX2_endOf wsX2_endOf rmX2_endOf D cs [.int p0, .int p1] w rz w := by
  unfold f_X2_endOf at hf
  refine gE_i (cc := cX2_endOf) (maxL := 3) (by decide) rfl (Nat.le_of_ble_eq_true rfl) ?_
  intro p e s m args below meth c A Q hC hA hQ hM ls hl
  obtain ⟨hx, hb, hml, hown, hts⟩ := hC.1
  have hl : lv_has ls 3 [(0, .int p0), (1, .int p1)] := hl
  refine lv_iload_n hx hb dX2_endOf_0 rfl (lv_at hl 1 rfl) ?_
  refine lv_istore_n (lv' := [(2, .int p1), (0, .int p0), (1, .int p1)]) hx hb dX2_endOf_1 rfl hl (by decide) rfl (fun ls hl => ?_)
  refine jl_W (fun k2 : Int32 → Option (Int32) => ∀ (v1 : Int32), k2 v1 = some rz → ∀ (H : Heap) (locs : List Loc) (ls : Array Slot), gw D A s.heap H locs w → lv_has ls 3 [(0, .int p0), (2, .int v1)] → W p l e rmX2_endOf s m args below meth c H locs 0 0 Q (F0 m 2 ls [])) ?_ ?_ ?_ hf
  · intro v1 h; cases h
  · intro k2 hk2 v1 hf H locs ls hM hl
    unfold b_X2_endOf_2 at hf
    refine lv_iload_n hx hb dX2_endOf_2 rfl (lv_at hl 1 rfl) ?_
    refine lv_iconst (v := 1) hx hb dX2_endOf_3 (by decide) ?_
    refine lv_iadd hx hb dX2_endOf_4 ?_
    refine lv_bipush (v := 24) hx hb dX2_endOf_5 (by decide) ?_
    refine lv_icmp_ge (tgt := 26) hx hb dX2_endOf_7 (by decide) (fun c2 => ?_) (fun c2 => ?_)
    · replace hf := it_t c2 hf
      refine lv_iload_n hx hb dX2_endOf_26 rfl (lv_at hl 1 rfl) ?_
      cases so_1 hf
      exact hQ _ _ _ _ _ _ dX2_endOf_27 hM (by decide) (by decide)
    · replace hf := it_f c2 hf
      refine lv_iload_n hx hb dX2_endOf_10 rfl (lv_at hl 0 rfl) ?_
      refine lv_iload_n hx hb dX2_endOf_11 rfl (lv_at hl 1 rfl) ?_
      refine lv_iconst (v := 1) hx hb dX2_endOf_12 (by decide) ?_
      refine lv_iadd hx hb dX2_endOf_13 ?_
      obtain ⟨v3, hc, hf⟩ := bd_s hf
      refine gN_i (host := "WeatherTeller") hC hM hA hl.1 [.int p0, .int (v1 + 1)] [] (c_X10_hasBit l D cs w N p0 (v1 + 1) v3 hc) ggX2_endOf_X10_hasBit tX2_endOf_1 tX2_endOf_2 (by decide) rfl hd_X10_hasBit ⟨by decide, by decide⟩ (Nat.le_of_ble_eq_true rfl) dX2_endOf_14 rfl ⟨by decide, by decide⟩ (fun H locs hM => ?_)
      refine lv_if_eq (tgt := 26) hx hb dX2_endOf_17 (by decide) (fun c4 => ?_) (fun c4 => ?_)
      · replace hf := it_t c4 hf
        refine lv_iload_n hx hb dX2_endOf_26 rfl (lv_at hl 1 rfl) ?_
        cases so_1 hf
        exact hQ _ _ _ _ _ _ dX2_endOf_27 hM (by decide) (by decide)
      · replace hf := it_f c4 hf
        obtain ⟨v5, ev5⟩ : ∃ y : Int32, y = v1 + 1 := ⟨_, rfl⟩
        replace hf := nm_q ev5 hf
        refine lv_iinc (v := v5) (lv' := [(2, .int v5), (0, .int p0)]) hx hb dX2_endOf_20 hl (k := 1) rfl (by rw [ev5]; rfl) (by decide) rfl (fun ls hl => ?_)
        refine lv_goto (tgt := 2) hx hb dX2_endOf_23 (by decide) ?_
        exact hk2 _ hf _ _ _ hM (lv_sub hl [1, 0] rfl)
  · intro k2 hk2 hf
    exact hk2 _ hf _ _ _ hM (lv_sub hl [1, 0] rfl)

theorem hd_X2_append : yX2_append.cls = RX2 ∧ yX2_append.cls ≠ "java/lang/invoke/MethodHandle" ∧ yX2_append.cls ≠ "java/lang/invoke/VarHandle" ∧ (parseMethodDescriptor yX2_append.desc).map (fun d => d.parameters.length) = some 4 := by decide +kernel
theorem tX2_append_1 : Cond.fieldLink RX2 24 "WeatherTeller$Findings" "size" "I" ∈ wsX2_append := List.mem_of_getElem? (i := 1) rfl
theorem inX2_append_X2 : ∀ w ∈ u_ws RX2 TX2 7, w ∈ wsX2_append := fun _ h => List.mem_cons_of_mem _ (List.mem_append_right _ h)
theorem tX2_append_2 : Cond.fieldLink RX2 9 "WeatherTeller$Findings" "bands" "[I" ∈ wsX2_append := List.mem_of_getElem? (i := 2) rfl
theorem tX2_append_3 : Cond.fieldLink RX2 15 "WeatherTeller$Findings" "froms" "[I" ∈ wsX2_append := List.mem_of_getElem? (i := 3) rfl
theorem tX2_append_4 : Cond.fieldLink RX2 18 "WeatherTeller$Findings" "tos" "[I" ∈ wsX2_append := List.mem_of_getElem? (i := 4) rfl
theorem tX2_append_5 : Cond.fieldLink RX2 21 "WeatherTeller$Findings" "places" "[I" ∈ wsX2_append := List.mem_of_getElem? (i := 5) rfl
def f_X2_append (N : Nat) (p0 : Int32) (p1 : Int32) (p2 : Int32) (p3 : Int32) (S : St) : Option (St) :=
  if 432 ≤ (S.1 8 4) then
    some S
  else
    ck (S.1 8 4) 432 <|
    nm (puI S 9 (S.1 8 4).toNatClampNeg p0) fun S3 =>
    ck (S3.1 8 4) 432 <|
    nm (puI S3 10 (S3.1 8 4).toNatClampNeg p1) fun S5 =>
    ck (S5.1 8 4) 432 <|
    nm (puI S5 11 (S5.1 8 4).toNatClampNeg p2) fun S7 =>
    ck (S7.1 8 4) 432 <|
    nm (puI S7 12 (S7.1 8 4).toNatClampNeg p3) fun S9 =>
    nm (puI S9 8 4 ((S9.1 8 4) + 1)) fun S10 =>
    some S10
abbrev rmX2_append : Room := { frames := 0, cells := 0, slots := 0, locals := 0 }
set_option maxRecDepth 100000 in
set_option maxHeartbeats 4000000 in
theorem c_X2_append (l : Launch) (D : va_G) (cs : Nat → ClassId) (a : Nat → Nat) (q1 q2 : Nat) (N : Nat) (p0 : Int32) (p1 : Int32) (p2 : Int32) (p3 : Int32) (S : St) (Sz : St) (hf : f_X2_append N p0 p1 p2 p3 S = some Sz) : gMv l yX2_append wsX2_append rmX2_append D cs [.ref (a 8), .int p0, .int p1, .int p2, .int p3] (ccells cs a q1 q2 S) (ccells cs a q1 q2 Sz) := by
  unfold f_X2_append at hf
  refine gE_v (cc := cX2_append) (maxL := 5) (by decide) rfl (Nat.le_of_ble_eq_true rfl) ?_
  intro p e s m args below meth c A Q hC hA hQ hM ls hl
  obtain ⟨hx, hb, hml, hown, hts⟩ := hC.1
  have hl : lv_has ls 5 [(0, .ref (a 8)), (1, .int p0), (2, .int p1), (3, .int p2), (4, .int p3)] := hl
  refine lv_aload_n hx hb dX2_append_0 rfl (lv_at hl 0 rfl) ?_
  refine g_get hC hM inX2_append_X2 8 cE8 clX2 4 (by decide) tX2_append_1 TX2_4 cV8_4 dX2_append_1 ?_
  refine lv_sipush (v := 432) hx hb dX2_append_4 (by decide) ?_
  refine lv_icmp_ge (tgt := 61) hx hb dX2_append_7 (by decide) (fun c1 => ?_) (fun c1 => ?_)
  · replace hf := it_t c1 hf
    cases so_1 hf
    exact hQ _ _ _ _ _ _ dX2_append_61 hM (by decide) (by decide)
  · replace hf := it_f c1 hf
    refine lv_aload_n hx hb dX2_append_10 rfl (lv_at hl 0 rfl) ?_
    refine g_get hC hM inX2_append_X2 8 cE8 clX2 0 (by decide) tX2_append_2 TX2_0 cV8_0 dX2_append_11 ?_
    refine lv_aload_n hx hb dX2_append_14 rfl (lv_at hl 0 rfl) ?_
    refine g_get hC hM inX2_append_X2 8 cE8 clX2 4 (by decide) tX2_append_1 TX2_4 cV8_4 dX2_append_15 ?_
    refine lv_iload_n hx hb dX2_append_18 rfl (lv_at hl 1 rfl) ?_
    obtain ⟨h2, hf⟩ := ck_s hf
    refine g_iast hC hM 9 cE9 h2 cA9 dX2_append_19 (fun H locs hM => ?_)
    obtain ⟨S3, hf, hM⟩ := cnm hf hM
    refine lv_aload_n hx hb dX2_append_20 rfl (lv_at hl 0 rfl) ?_
    refine g_get hC hM inX2_append_X2 8 cE8 clX2 1 (by decide) tX2_append_3 TX2_1 cV8_1 dX2_append_21 ?_
    refine lv_aload_n hx hb dX2_append_24 rfl (lv_at hl 0 rfl) ?_
    refine g_get hC hM inX2_append_X2 8 cE8 clX2 4 (by decide) tX2_append_1 TX2_4 cV8_4 dX2_append_25 ?_
    refine lv_iload_n hx hb dX2_append_28 rfl (lv_at hl 2 rfl) ?_
    obtain ⟨h4, hf⟩ := ck_s hf
    refine g_iast hC hM 10 cE10 h4 cA10 dX2_append_29 (fun H locs hM => ?_)
    obtain ⟨S5, hf, hM⟩ := cnm hf hM
    refine lv_aload_n hx hb dX2_append_30 rfl (lv_at hl 0 rfl) ?_
    refine g_get hC hM inX2_append_X2 8 cE8 clX2 2 (by decide) tX2_append_4 TX2_2 cV8_2 dX2_append_31 ?_
    refine lv_aload_n hx hb dX2_append_34 rfl (lv_at hl 0 rfl) ?_
    refine g_get hC hM inX2_append_X2 8 cE8 clX2 4 (by decide) tX2_append_1 TX2_4 cV8_4 dX2_append_35 ?_
    refine lv_iload_n hx hb dX2_append_38 rfl (lv_at hl 3 rfl) ?_
    obtain ⟨h6, hf⟩ := ck_s hf
    refine g_iast hC hM 11 cE11 h6 cA11 dX2_append_39 (fun H locs hM => ?_)
    obtain ⟨S7, hf, hM⟩ := cnm hf hM
    refine lv_aload_n hx hb dX2_append_40 rfl (lv_at hl 0 rfl) ?_
    refine g_get hC hM inX2_append_X2 8 cE8 clX2 3 (by decide) tX2_append_5 TX2_3 cV8_3 dX2_append_41 ?_
    refine lv_aload_n hx hb dX2_append_44 rfl (lv_at hl 0 rfl) ?_
    refine g_get hC hM inX2_append_X2 8 cE8 clX2 4 (by decide) tX2_append_1 TX2_4 cV8_4 dX2_append_45 ?_
    refine lv_iload hx hb dX2_append_48 (lv_at hl 4 rfl) ?_
    obtain ⟨h8, hf⟩ := ck_s hf
    refine g_iast hC hM 12 cE12 h8 cA12 dX2_append_50 (fun H locs hM => ?_)
    obtain ⟨S9, hf, hM⟩ := cnm hf hM
    refine lv_aload_n hx hb dX2_append_51 rfl (lv_at hl 0 rfl) ?_
    refine lv_dup hx hb dX2_append_52 rfl ?_
    refine g_get hC hM inX2_append_X2 8 cE8 clX2 4 (by decide) tX2_append_1 TX2_4 cV8_4 dX2_append_53 ?_
    refine lv_iconst (v := 1) hx hb dX2_append_56 (by decide) ?_
    refine lv_iadd hx hb dX2_append_57 ?_
    refine g_put hC hM inX2_append_X2 tyX2_ok nmX2 8 cE8 clX2 4 (by decide) tX2_append_1 TX2_4 tyX2_4 rfl rfl (by rw [cL8]; decide) cP8_4 dX2_append_58 (fun H locs hM => ?_)
    obtain ⟨S10, hf, hM⟩ := cnm hf hM
    cases so_1 hf
    exact hQ _ _ _ _ _ _ dX2_append_61 hM (by decide) (by decide)

theorem hd_X2_findFrom : yX2_findFrom.cls = RX2 ∧ yX2_findFrom.cls ≠ "java/lang/invoke/MethodHandle" ∧ yX2_findFrom.cls ≠ "java/lang/invoke/VarHandle" ∧ (parseMethodDescriptor yX2_findFrom.desc).map (fun d => d.parameters.length) = some 3 := by decide +kernel
theorem tX2_findFrom_2 : Cond.fieldLink RX2 31 "WeatherTeller$Findings" "placesByEnd" "[I" ∈ wsX2_findFrom := List.mem_of_getElem? (i := 2) rfl
theorem inX2_findFrom_X2 : ∀ w ∈ u_ws RX2 TX2 7, w ∈ wsX2_findFrom := fun _ h => List.mem_cons_of_mem _ (List.mem_append_right _ h)
theorem tX2_findFrom_1 : Cond.fieldLink RX2 28 "WeatherTeller$Findings" "hoursIn" "[I" ∈ wsX2_findFrom := List.mem_of_getElem? (i := 1) rfl
theorem tX2_findFrom_3 : Cond.static yX10_hasBit ∈ wsX2_findFrom := List.mem_of_getElem? (i := 3) rfl
theorem tX2_findFrom_4 : Cond.initialized RX10 ∈ wsX2_findFrom := List.mem_of_getElem? (i := 4) rfl
def j_X2_findFrom_122 (v3 : Int32) (k77 : Int32 → St → Option (St)) (S8 : St) : Option (St) :=
  nm (v3 + 1) fun v9 =>
  k77 v9 S8
def b_X2_findFrom_77 (N : Nat) (p1 : Int32) (p2 : Int32) (v1 : Int32) (k77 : Int32 → St → Option (St)) (v3 : Int32) (S4 : St) : Option (St) :=
  if 24 ≤ v3 then
    some S4
  else
    if v1 = 0 then
      some S4
    else
      ck v3 24 <|
      jp (j_X2_findFrom_122 v3 k77) fun k122 =>
      if (S4.1 14 v3.toNatClampNeg) = 0 then
        k122 S4
      else
        ck v3 24 <|
        bd (f_X2_append N p1 p2 v3 (S4.1 14 v3.toNatClampNeg) S4) fun S12 =>
        ck v3 24 <|
        nm (puI S12 14 v3.toNatClampNeg 0) fun S14 =>
        k122 S14
def j_X2_findFrom_74 (N : Nat) (p1 : Int32) (p2 : Int32) (v1 : Int32) (S2 : St) : Option (St) :=
  jp (lp (fun _ _ => none) (b_X2_findFrom_77 N p1 p2 v1) N) fun k77 =>
  k77 p2 S2
def j_X2_findFrom_68 (v16 : Int32) (k6 : Int32 → Int32 → St → Option (St)) (v23 : Int32) (S24 : St) : Option (St) :=
  nm (v16 + 1) fun v25 =>
  k6 v23 v25 S24
def b_X2_findFrom_6 (N : Nat) (p0 : Int32) (p2 : Int32) (k74 : Int32 → St → Option (St)) (k6 : Int32 → Int32 → St → Option (St)) (v15 : Int32) (v16 : Int32) (S17 : St) : Option (St) :=
  if p0 ≤ v16 then
    k74 v15 S17
  else
    ck v16 6 <|
    ck v16 6 <|
    nm ((S17.1 13 v16.toNatClampNeg) &&& (((S17.1 13 v16.toNatClampNeg) <<< (1 &&& 31)) ^^^ (-1))) fun v21 =>
    bd (f_X10_hasBit N v21 p2) fun v22 =>
    jp (j_X2_findFrom_68 v16 k6) fun k68 =>
    if v22 = 0 then
      k68 v15 S17
    else
      ck v16 6 <|
      bd (f_X2_endOf N (S17.1 13 v16.toNatClampNeg) p2) fun v28 =>
      ck v28 24 <|
      ck v28 24 <|
      nm (puI S17 14 v28.toNatClampNeg ((S17.1 14 v28.toNatClampNeg) ||| (1 <<< (v16 &&& 31)))) fun S31 =>
      k68 1 S31
def f_X2_findFrom (N : Nat) (p0 : Int32) (p1 : Int32) (p2 : Int32) (S : St) : Option (St) :=
  jp (j_X2_findFrom_74 N p1 p2) fun k74 =>
  jp (lp (fun _ _ _ => none) (b_X2_findFrom_6 N p0 p2 k74) N) fun k6 =>
  k6 0 0 S
abbrev rmX2_findFrom : Room := { frames := 2, cells := 0, slots := 0, locals := 43 }
set_option maxRecDepth 100000 in
set_option maxHeartbeats 4000000 in
theorem c_X2_findFrom (l : Launch) (D : va_G) (cs : Nat → ClassId) (a : Nat → Nat) (q1 q2 : Nat) (N : Nat) (p0 : Int32) (p1 : Int32) (p2 : Int32) (S : St) (Sz : St) (hf : f_X2_findFrom N p0 p1 p2 S = some Sz) : gMv l yX2_findFrom wsX2_findFrom rmX2_findFrom D cs [.ref (a 8), .int p0, .int p1, .int p2] (ccells cs a q1 q2 S) (ccells cs a q1 q2 Sz) := by
  unfold f_X2_findFrom at hf
  refine gE_v (cc := cX2_findFrom) (maxL := 7) (by decide) rfl (Nat.le_of_ble_eq_true rfl) ?_
  intro p e s m args below meth c A Q hC hA hQ hM ls hl
  obtain ⟨hx, hb, hml, hown, hts⟩ := hC.1
  have hl : lv_has ls 7 [(0, .ref (a 8)), (1, .int p0), (2, .int p1), (3, .int p2)] := hl
  refine lv_iconst (v := 0) hx hb dX2_findFrom_0 (by decide) ?_
  refine lv_istore (lv' := [(4, .int 0), (0, .ref (a 8)), (1, .int p0), (2, .int p1), (3, .int p2)]) hx hb dX2_findFrom_1 hl (by decide) rfl (fun ls hl => ?_)
  refine lv_iconst (v := 0) hx hb dX2_findFrom_3 (by decide) ?_
  refine lv_istore (lv' := [(5, .int 0), (4, .int 0), (0, .ref (a 8)), (1, .int p0), (2, .int p1), (3, .int p2)]) hx hb dX2_findFrom_4 hl (by decide) rfl (fun ls hl => ?_)
  refine jp_W (fun k74 : Int32 → St → Option (St) => ∀ (v1 : Int32) (S2 : St), k74 v1 S2 = some Sz → ∀ (H : Heap) (locs : List Loc) (ls : Array Slot), gw D A s.heap H locs (ccells cs a q1 q2 S2) → lv_has ls 7 [(0, .ref (a 8)), (2, .int p1), (3, .int p2), (4, .int v1)] → W p l e rmX2_findFrom s m args below meth c H locs 0 0 Q (F0 m 74 ls [])) ?_ ?_ hf
  · intro v1 S2 hf H locs ls hM hl
    unfold j_X2_findFrom_74 at hf
    refine lv_iload_n hx hb dX2_findFrom_74 rfl (lv_at hl 2 rfl) ?_
    refine lv_istore (lv' := [(5, .int p2), (0, .ref (a 8)), (2, .int p1), (3, .int p2), (4, .int v1)]) hx hb dX2_findFrom_75 hl (by decide) rfl (fun ls hl => ?_)
    refine jl_W (fun k77 : Int32 → St → Option (St) => ∀ (v3 : Int32) (S4 : St), k77 v3 S4 = some Sz → ∀ (H : Heap) (locs : List Loc) (ls : Array Slot), gw D A s.heap H locs (ccells cs a q1 q2 S4) → lv_has ls 7 [(0, .ref (a 8)), (2, .int p1), (3, .int p2), (4, .int v1), (5, .int v3)] → W p l e rmX2_findFrom s m args below meth c H locs 0 0 Q (F0 m 77 ls [])) ?_ ?_ ?_ hf
    · intro v3 S4 h; cases h
    · intro k77 hk77 v3 S4 hf H locs ls hM hl
      unfold b_X2_findFrom_77 at hf
      refine lv_iload hx hb dX2_findFrom_77 (lv_at hl 4 rfl) ?_
      refine lv_bipush (v := 24) hx hb dX2_findFrom_79 (by decide) ?_
      refine lv_icmp_ge (tgt := 128) hx hb dX2_findFrom_81 (by decide) (fun c5 => ?_) (fun c5 => ?_)
      · replace hf := it_t c5 hf
        cases so_1 hf
        exact hQ _ _ _ _ _ _ dX2_findFrom_128 hM (by decide) (by decide)
      · replace hf := it_f c5 hf
        refine lv_iload hx hb dX2_findFrom_84 (lv_at hl 3 rfl) ?_
        refine lv_if_eq (tgt := 128) hx hb dX2_findFrom_86 (by decide) (fun c6 => ?_) (fun c6 => ?_)
        · replace hf := it_t c6 hf
          cases so_1 hf
          exact hQ _ _ _ _ _ _ dX2_findFrom_128 hM (by decide) (by decide)
        · replace hf := it_f c6 hf
          refine lv_aload_n hx hb dX2_findFrom_89 rfl (lv_at hl 0 rfl) ?_
          refine g_get hC hM inX2_findFrom_X2 8 cE8 clX2 6 (by decide) tX2_findFrom_2 TX2_6 cV8_6 dX2_findFrom_90 ?_
          refine lv_iload hx hb dX2_findFrom_93 (lv_at hl 4 rfl) ?_
          obtain ⟨h7, hf⟩ := ck_s hf
          refine g_iald hC hM 14 cE14 h7 dX2_findFrom_95 ?_
          refine jp_W (fun k122 : St → Option (St) => ∀ (S8 : St), k122 S8 = some Sz → ∀ (H : Heap) (locs : List Loc) (ls : Array Slot), gw D A s.heap H locs (ccells cs a q1 q2 S8) → lv_has ls 7 [(0, .ref (a 8)), (2, .int p1), (3, .int p2), (4, .int v1), (5, .int v3)] → W p l e rmX2_findFrom s m args below meth c H locs 0 0 Q (F0 m 122 ls [])) ?_ ?_ hf
          · intro S8 hf H locs ls hM hl
            unfold j_X2_findFrom_122 at hf
            obtain ⟨v9, ev9⟩ : ∃ y : Int32, y = v3 + 1 := ⟨_, rfl⟩
            replace hf := nm_q ev9 hf
            refine lv_iinc (v := v9) (lv' := [(5, .int v9), (0, .ref (a 8)), (2, .int p1), (3, .int p2), (4, .int v1)]) hx hb dX2_findFrom_122 hl (k := 4) rfl (by rw [ev9]; rfl) (by decide) rfl (fun ls hl => ?_)
            refine lv_goto (tgt := 77) hx hb dX2_findFrom_125 (by decide) ?_
            exact hk77 _ _ hf _ _ _ hM (lv_sub hl [1, 2, 3, 4, 0] rfl)
          · intro k122 hk122 hf
            refine lv_if_eq (tgt := 122) hx hb dX2_findFrom_96 (by decide) (fun c10 => ?_) (fun c10 => ?_)
            · replace hf := it_t c10 hf
              exact hk122 _ hf _ _ _ hM hl
            · replace hf := it_f c10 hf
              refine lv_aload_n hx hb dX2_findFrom_99 rfl (lv_at hl 0 rfl) ?_
              refine lv_iload_n hx hb dX2_findFrom_100 rfl (lv_at hl 1 rfl) ?_
              refine lv_iload_n hx hb dX2_findFrom_101 rfl (lv_at hl 2 rfl) ?_
              refine lv_iload hx hb dX2_findFrom_102 (lv_at hl 4 rfl) ?_
              refine lv_aload_n hx hb dX2_findFrom_104 rfl (lv_at hl 0 rfl) ?_
              refine g_get hC hM inX2_findFrom_X2 8 cE8 clX2 6 (by decide) tX2_findFrom_2 TX2_6 cV8_6 dX2_findFrom_105 ?_
              refine lv_iload hx hb dX2_findFrom_108 (lv_at hl 4 rfl) ?_
              obtain ⟨h11, hf⟩ := ck_s hf
              refine g_iald hC hM 14 cE14 h11 dX2_findFrom_110 ?_
              obtain ⟨S12, hc, hf⟩ := bd_s hf
              refine gV_v hC hM hA hl.1 [.int p1, .int p2, .int v3, .int (S4.1 14 v3.toNatClampNeg)] [] (c_X2_append l D cs a q1 q2 N p1 p2 v3 (S4.1 14 v3.toNatClampNeg) S4 S12 hc) gX2_findFrom_X2_append rfl hd_X2_append ⟨by decide, by decide⟩ 8 2 clX2 rfl cE8 (Nat.le_of_ble_eq_true rfl) dX2_findFrom_111 rfl ⟨by decide, by decide⟩ (fun H locs hM => ?_)
              refine lv_aload_n hx hb dX2_findFrom_114 rfl (lv_at hl 0 rfl) ?_
              refine g_get hC hM inX2_findFrom_X2 8 cE8 clX2 6 (by decide) tX2_findFrom_2 TX2_6 cV8_6 dX2_findFrom_115 ?_
              refine lv_iload hx hb dX2_findFrom_118 (lv_at hl 4 rfl) ?_
              refine lv_iconst (v := 0) hx hb dX2_findFrom_120 (by decide) ?_
              obtain ⟨h13, hf⟩ := ck_s hf
              refine g_iast hC hM 14 cE14 h13 cA14 dX2_findFrom_121 (fun H locs hM => ?_)
              obtain ⟨S14, hf, hM⟩ := cnm hf hM
              exact hk122 _ hf _ _ _ hM hl
    · intro k77 hk77 hf
      exact hk77 _ _ hf _ _ _ hM (lv_sub hl [1, 2, 3, 4, 0] rfl)
  · intro k74 hk74 hf
    refine jl_W (fun k6 : Int32 → Int32 → St → Option (St) => ∀ (v15 : Int32) (v16 : Int32) (S17 : St), k6 v15 v16 S17 = some Sz → ∀ (H : Heap) (locs : List Loc) (ls : Array Slot), gw D A s.heap H locs (ccells cs a q1 q2 S17) → lv_has ls 7 [(0, .ref (a 8)), (1, .int p0), (2, .int p1), (3, .int p2), (4, .int v15), (5, .int v16)] → W p l e rmX2_findFrom s m args below meth c H locs 0 0 Q (F0 m 6 ls [])) ?_ ?_ ?_ hf
    · intro v15 v16 S17 h; cases h
    · intro k6 hk6 v15 v16 S17 hf H locs ls hM hl
      unfold b_X2_findFrom_6 at hf
      refine lv_iload hx hb dX2_findFrom_6 (lv_at hl 5 rfl) ?_
      refine lv_iload_n hx hb dX2_findFrom_8 rfl (lv_at hl 1 rfl) ?_
      refine lv_icmp_ge (tgt := 74) hx hb dX2_findFrom_9 (by decide) (fun c18 => ?_) (fun c18 => ?_)
      · replace hf := it_t c18 hf
        exact hk74 _ _ hf _ _ _ hM (lv_sub hl [0, 2, 3, 4] rfl)
      · replace hf := it_f c18 hf
        refine lv_aload_n hx hb dX2_findFrom_12 rfl (lv_at hl 0 rfl) ?_
        refine g_get hC hM inX2_findFrom_X2 8 cE8 clX2 5 (by decide) tX2_findFrom_1 TX2_5 cV8_5 dX2_findFrom_13 ?_
        refine lv_iload hx hb dX2_findFrom_16 (lv_at hl 5 rfl) ?_
        obtain ⟨h19, hf⟩ := ck_s hf
        refine g_iald hC hM 13 cE13 h19 dX2_findFrom_18 ?_
        refine lv_aload_n hx hb dX2_findFrom_19 rfl (lv_at hl 0 rfl) ?_
        refine g_get hC hM inX2_findFrom_X2 8 cE8 clX2 5 (by decide) tX2_findFrom_1 TX2_5 cV8_5 dX2_findFrom_20 ?_
        refine lv_iload hx hb dX2_findFrom_23 (lv_at hl 5 rfl) ?_
        obtain ⟨h20, hf⟩ := ck_s hf
        refine g_iald hC hM 13 cE13 h20 dX2_findFrom_25 ?_
        refine lv_iconst (v := 1) hx hb dX2_findFrom_26 (by decide) ?_
        refine lv_ishl hx hb dX2_findFrom_27 ?_
        refine lv_iconst (v := (-1)) hx hb dX2_findFrom_28 (by decide) ?_
        refine lv_ixor hx hb dX2_findFrom_29 ?_
        refine lv_iand hx hb dX2_findFrom_30 ?_
        refine lv_topi (fun v21 ev21 => ?_)
        replace hf := nm_q ev21 hf
        refine lv_istore (lv' := [(6, .int v21), (0, .ref (a 8)), (1, .int p0), (2, .int p1), (3, .int p2), (4, .int v15), (5, .int v16)]) hx hb dX2_findFrom_31 hl (by decide) rfl (fun ls hl => ?_)
        refine lv_iload hx hb dX2_findFrom_33 (lv_at hl 0 rfl) ?_
        refine lv_iload_n hx hb dX2_findFrom_35 rfl (lv_at hl 4 rfl) ?_
        obtain ⟨v22, hc, hf⟩ := bd_s hf
        refine gN_i (host := "WeatherTeller") hC hM hA hl.1 [.int v21, .int p2] [] (c_X10_hasBit l D cs (ccells cs a q1 q2 S17) N v21 p2 v22 hc) ggX2_findFrom_X10_hasBit tX2_findFrom_3 tX2_findFrom_4 (by decide) rfl hd_X10_hasBit ⟨by decide, by decide⟩ (Nat.le_of_ble_eq_true rfl) dX2_findFrom_36 rfl ⟨by decide, by decide⟩ (fun H locs hM => ?_)
        refine jp_W (fun k68 : Int32 → St → Option (St) => ∀ (v23 : Int32) (S24 : St), k68 v23 S24 = some Sz → ∀ (H : Heap) (locs : List Loc) (ls : Array Slot), gw D A s.heap H locs (ccells cs a q1 q2 S24) → lv_has ls 7 [(0, .ref (a 8)), (1, .int p0), (2, .int p1), (3, .int p2), (4, .int v23), (5, .int v16)] → W p l e rmX2_findFrom s m args below meth c H locs 0 0 Q (F0 m 68 ls [])) ?_ ?_ hf
        · intro v23 S24 hf H locs ls hM hl
          unfold j_X2_findFrom_68 at hf
          obtain ⟨v25, ev25⟩ : ∃ y : Int32, y = v16 + 1 := ⟨_, rfl⟩
          replace hf := nm_q ev25 hf
          refine lv_iinc (v := v25) (lv' := [(5, .int v25), (0, .ref (a 8)), (1, .int p0), (2, .int p1), (3, .int p2), (4, .int v23)]) hx hb dX2_findFrom_68 hl (k := 5) rfl (by rw [ev25]; rfl) (by decide) rfl (fun ls hl => ?_)
          refine lv_goto (tgt := 6) hx hb dX2_findFrom_71 (by decide) ?_
          exact hk6 _ _ _ hf _ _ _ hM (lv_sub hl [1, 2, 3, 4, 5, 0] rfl)
        · intro k68 hk68 hf
          refine lv_if_eq (tgt := 68) hx hb dX2_findFrom_39 (by decide) (fun c26 => ?_) (fun c26 => ?_)
          · replace hf := it_t c26 hf
            exact hk68 _ _ hf _ _ _ hM (lv_sub hl [1, 2, 3, 4, 5, 6] rfl)
          · replace hf := it_f c26 hf
            refine lv_aload_n hx hb dX2_findFrom_42 rfl (lv_at hl 1 rfl) ?_
            refine g_get hC hM inX2_findFrom_X2 8 cE8 clX2 6 (by decide) tX2_findFrom_2 TX2_6 cV8_6 dX2_findFrom_43 ?_
            refine lv_aload_n hx hb dX2_findFrom_46 rfl (lv_at hl 1 rfl) ?_
            refine g_get hC hM inX2_findFrom_X2 8 cE8 clX2 5 (by decide) tX2_findFrom_1 TX2_5 cV8_5 dX2_findFrom_47 ?_
            refine lv_iload hx hb dX2_findFrom_50 (lv_at hl 6 rfl) ?_
            obtain ⟨h27, hf⟩ := ck_s hf
            refine g_iald hC hM 13 cE13 h27 dX2_findFrom_52 ?_
            refine lv_iload_n hx hb dX2_findFrom_53 rfl (lv_at hl 4 rfl) ?_
            obtain ⟨v28, hc, hf⟩ := bd_s hf
            refine gS_i hC hM hA hl.1 [.int (S17.1 13 v16.toNatClampNeg), .int p2] [.ref (a 14)] (c_X2_endOf l D cs (ccells cs a q1 q2 S17) N (S17.1 13 v16.toNatClampNeg) p2 v28 hc) gX2_findFrom_X2_endOf rfl hd_X2_endOf ⟨by decide, by decide⟩ (Nat.le_of_ble_eq_true rfl) dX2_findFrom_54 rfl ⟨by decide, by decide⟩ (fun H locs hM => ?_)
            refine lv_dup2_11 hx hb dX2_findFrom_57 rfl rfl ?_
            obtain ⟨h29, hf⟩ := ck_s hf
            refine g_iald hC hM 14 cE14 h29 dX2_findFrom_58 ?_
            refine lv_iconst (v := 1) hx hb dX2_findFrom_59 (by decide) ?_
            refine lv_iload hx hb dX2_findFrom_60 (lv_at hl 6 rfl) ?_
            refine lv_ishl hx hb dX2_findFrom_62 ?_
            refine lv_ior hx hb dX2_findFrom_63 ?_
            obtain ⟨h30, hf⟩ := ck_s hf
            refine g_iast hC hM 14 cE14 h30 cA14 dX2_findFrom_64 (fun H locs hM => ?_)
            obtain ⟨S31, hf, hM⟩ := cnm hf hM
            refine lv_iconst (v := 1) hx hb dX2_findFrom_65 (by decide) ?_
            refine lv_istore (lv' := [(4, .int 1), (6, .int v21), (0, .ref (a 8)), (1, .int p0), (2, .int p1), (3, .int p2), (5, .int v16)]) hx hb dX2_findFrom_66 hl (by decide) rfl (fun ls hl => ?_)
            exact hk68 _ _ hf _ _ _ hM (lv_sub hl [2, 3, 4, 5, 0, 6] rfl)
    · intro k6 hk6 hf
      exact hk6 _ _ _ hf _ _ _ hM (lv_sub hl [2, 3, 4, 5, 1, 0] rfl)

theorem hd_X2_find : yX2_find.cls = RX2 ∧ yX2_find.cls ≠ "java/lang/invoke/MethodHandle" ∧ yX2_find.cls ≠ "java/lang/invoke/VarHandle" ∧ (parseMethodDescriptor yX2_find.desc).map (fun d => d.parameters.length) = some 2 := by decide +kernel
theorem tX2_find_1 : Cond.fieldLink RX2 24 "WeatherTeller$Findings" "size" "I" ∈ wsX2_find := List.mem_of_getElem? (i := 1) rfl
theorem inX2_find_X2 : ∀ w ∈ u_ws RX2 TX2 7, w ∈ wsX2_find := fun _ h => List.mem_cons_of_mem _ (List.mem_append_left _ (List.mem_append_left _ (List.mem_append_right _ h)))
theorem tX2_find_2 : Cond.fieldLink RX2 34 "WeatherTeller$Rules" "bands" "I" ∈ wsX2_find := List.mem_of_getElem? (i := 2) rfl
theorem inX2_find_X4 : ∀ w ∈ u_ws RX4 TX4 12, w ∈ wsX2_find := fun _ h => List.mem_cons_of_mem _ (List.mem_append_left _ (List.mem_append_right _ h))
theorem tX2_find_3 : Cond.fieldLink RX2 38 "WeatherTeller$Rules" "places" "I" ∈ wsX2_find := List.mem_of_getElem? (i := 3) rfl
theorem tX2_find_4 : Cond.fieldLink RX2 28 "WeatherTeller$Findings" "hoursIn" "[I" ∈ wsX2_find := List.mem_of_getElem? (i := 4) rfl
def j_X2_find_75 (v2 : Int32) (k7 : Int32 → St → Option (St)) (S6 : St) : Option (St) :=
  nm (v2 + 1) fun v7 =>
  k7 v7 S6
def b_X2_find_51 (N : Nat) (v2 : Int32) (k75 : St → Option (St)) (k51 : Int32 → St → Option (St)) (v8 : Int32) (S9 : St) : Option (St) :=
  if 24 ≤ v8 then
    k75 S9
  else
    bd (f_X2_findFrom N (S9.1 28 9) v2 v8 S9) fun S11 =>
    nm (v8 + 1) fun v12 =>
    k51 v12 S11
def j_X2_find_48 (N : Nat) (v2 : Int32) (k7 : Int32 → St → Option (St)) (S5 : St) : Option (St) :=
  jp (j_X2_find_75 v2 k7) fun k75 =>
  jp (lp (fun _ _ => none) (b_X2_find_51 N v2 k75) N) fun k51 =>
  k51 0 S5
def b_X2_find_18 (N : Nat) (v2 : Int32) (k48 : St → Option (St)) (k18 : Int32 → St → Option (St)) (v13 : Int32) (S14 : St) : Option (St) :=
  if (S14.1 28 9) ≤ v13 then
    k48 S14
  else
    bd (f_X2_seekHours N v2 v13 S14) fun v16 =>
    ck v13 6 <|
    nm (puI S14 13 v13.toNatClampNeg v16) fun S18 =>
    nm (v13 + 1) fun v19 =>
    k18 v19 S18
def b_X2_find_7 (N : Nat) (k7 : Int32 → St → Option (St)) (v2 : Int32) (S3 : St) : Option (St) :=
  if (S3.1 28 11) ≤ v2 then
    some S3
  else
    jp (j_X2_find_48 N v2 k7) fun k48 =>
    jp (lp (fun _ _ => none) (b_X2_find_18 N v2 k48) N) fun k18 =>
    k18 0 S3
def f_X2_find (N : Nat)  (S : St) : Option (St) :=
  nm (puI S 8 4 0) fun S1 =>
  jp (lp (fun _ _ => none) (b_X2_find_7 N) N) fun k7 =>
  k7 0 S1
abbrev rmX2_find : Room := { frames := 4, cells := 0, slots := 0, locals := 93 }
set_option maxRecDepth 100000 in
set_option maxHeartbeats 4000000 in
theorem c_X2_find (l : Launch) (D : va_G) (cs : Nat → ClassId) (a : Nat → Nat) (q1 q2 : Nat) (N : Nat) (S : St) (Sz : St) (hf : f_X2_find N S = some Sz) : gMv l yX2_find wsX2_find rmX2_find D cs [.ref (a 8), .ref (a 28), .ref (a 48)] (ccells cs a q1 q2 S) (ccells cs a q1 q2 Sz) := by
  unfold f_X2_find at hf
  refine gE_v (cc := cX2_find) (maxL := 5) (by decide) rfl (Nat.le_of_ble_eq_true rfl) ?_
  intro p e s m args below meth c A Q hC hA hQ hM ls hl
  obtain ⟨hx, hb, hml, hown, hts⟩ := hC.1
  have hl : lv_has ls 5 [(0, .ref (a 8)), (1, .ref (a 28)), (2, .ref (a 48))] := hl
  refine lv_aload_n hx hb dX2_find_0 rfl (lv_at hl 0 rfl) ?_
  refine lv_iconst (v := 0) hx hb dX2_find_1 (by decide) ?_
  refine g_put hC hM inX2_find_X2 tyX2_ok nmX2 8 cE8 clX2 4 (by decide) tX2_find_1 TX2_4 tyX2_4 rfl rfl (by rw [cL8]; decide) cP8_4 dX2_find_2 (fun H locs hM => ?_)
  obtain ⟨S1, hf, hM⟩ := cnm hf hM
  refine lv_iconst (v := 0) hx hb dX2_find_5 (by decide) ?_
  refine lv_istore_n (lv' := [(3, .int 0), (0, .ref (a 8)), (1, .ref (a 28)), (2, .ref (a 48))]) hx hb dX2_find_6 rfl hl (by decide) rfl (fun ls hl => ?_)
  refine jl_W (fun k7 : Int32 → St → Option (St) => ∀ (v2 : Int32) (S3 : St), k7 v2 S3 = some Sz → ∀ (H : Heap) (locs : List Loc) (ls : Array Slot), gw D A s.heap H locs (ccells cs a q1 q2 S3) → lv_has ls 5 [(0, .ref (a 8)), (1, .ref (a 28)), (2, .ref (a 48)), (3, .int v2)] → W p l e rmX2_find s m args below meth c H locs 0 0 Q (F0 m 7 ls [])) ?_ ?_ ?_ hf
  · intro v2 S3 h; cases h
  · intro k7 hk7 v2 S3 hf H locs ls hM hl
    unfold b_X2_find_7 at hf
    refine lv_iload_n hx hb dX2_find_7 rfl (lv_at hl 3 rfl) ?_
    refine lv_aload_n hx hb dX2_find_8 rfl (lv_at hl 1 rfl) ?_
    refine g_get hC hM inX2_find_X4 28 cE28 clX4 11 (by decide) tX2_find_2 TX4_11 cV28_11 dX2_find_9 ?_
    refine lv_icmp_ge (tgt := 81) hx hb dX2_find_12 (by decide) (fun c4 => ?_) (fun c4 => ?_)
    · replace hf := it_t c4 hf
      cases so_1 hf
      exact hQ _ _ _ _ _ _ dX2_find_81 hM (by decide) (by decide)
    · replace hf := it_f c4 hf
      refine lv_iconst (v := 0) hx hb dX2_find_15 (by decide) ?_
      refine lv_istore (lv' := [(4, .int 0), (0, .ref (a 8)), (1, .ref (a 28)), (2, .ref (a 48)), (3, .int v2)]) hx hb dX2_find_16 hl (by decide) rfl (fun ls hl => ?_)
      refine jp_W (fun k48 : St → Option (St) => ∀ (S5 : St), k48 S5 = some Sz → ∀ (H : Heap) (locs : List Loc) (ls : Array Slot), gw D A s.heap H locs (ccells cs a q1 q2 S5) → lv_has ls 5 [(0, .ref (a 8)), (1, .ref (a 28)), (2, .ref (a 48)), (3, .int v2)] → W p l e rmX2_find s m args below meth c H locs 0 0 Q (F0 m 48 ls [])) ?_ ?_ hf
      · intro S5 hf H locs ls hM hl
        unfold j_X2_find_48 at hf
        refine lv_iconst (v := 0) hx hb dX2_find_48 (by decide) ?_
        refine lv_istore (lv' := [(4, .int 0), (0, .ref (a 8)), (1, .ref (a 28)), (2, .ref (a 48)), (3, .int v2)]) hx hb dX2_find_49 hl (by decide) rfl (fun ls hl => ?_)
        refine jp_W (fun k75 : St → Option (St) => ∀ (S6 : St), k75 S6 = some Sz → ∀ (H : Heap) (locs : List Loc) (ls : Array Slot), gw D A s.heap H locs (ccells cs a q1 q2 S6) → lv_has ls 5 [(0, .ref (a 8)), (1, .ref (a 28)), (2, .ref (a 48)), (3, .int v2)] → W p l e rmX2_find s m args below meth c H locs 0 0 Q (F0 m 75 ls [])) ?_ ?_ hf
        · intro S6 hf H locs ls hM hl
          unfold j_X2_find_75 at hf
          obtain ⟨v7, ev7⟩ : ∃ y : Int32, y = v2 + 1 := ⟨_, rfl⟩
          replace hf := nm_q ev7 hf
          refine lv_iinc (v := v7) (lv' := [(3, .int v7), (0, .ref (a 8)), (1, .ref (a 28)), (2, .ref (a 48))]) hx hb dX2_find_75 hl (k := 3) rfl (by rw [ev7]; rfl) (by decide) rfl (fun ls hl => ?_)
          refine lv_goto (tgt := 7) hx hb dX2_find_78 (by decide) ?_
          exact hk7 _ _ hf _ _ _ hM (lv_sub hl [1, 2, 3, 0] rfl)
        · intro k75 hk75 hf
          refine jl_W (fun k51 : Int32 → St → Option (St) => ∀ (v8 : Int32) (S9 : St), k51 v8 S9 = some Sz → ∀ (H : Heap) (locs : List Loc) (ls : Array Slot), gw D A s.heap H locs (ccells cs a q1 q2 S9) → lv_has ls 5 [(0, .ref (a 8)), (1, .ref (a 28)), (2, .ref (a 48)), (3, .int v2), (4, .int v8)] → W p l e rmX2_find s m args below meth c H locs 0 0 Q (F0 m 51 ls [])) ?_ ?_ ?_ hf
          · intro v8 S9 h; cases h
          · intro k51 hk51 v8 S9 hf H locs ls hM hl
            unfold b_X2_find_51 at hf
            refine lv_iload hx hb dX2_find_51 (lv_at hl 4 rfl) ?_
            refine lv_bipush (v := 24) hx hb dX2_find_53 (by decide) ?_
            refine lv_icmp_ge (tgt := 75) hx hb dX2_find_55 (by decide) (fun c10 => ?_) (fun c10 => ?_)
            · replace hf := it_t c10 hf
              exact hk75 _ hf _ _ _ hM (lv_sub hl [0, 1, 2, 3] rfl)
            · replace hf := it_f c10 hf
              refine lv_aload_n hx hb dX2_find_58 rfl (lv_at hl 0 rfl) ?_
              refine lv_aload_n hx hb dX2_find_59 rfl (lv_at hl 1 rfl) ?_
              refine g_get hC hM inX2_find_X4 28 cE28 clX4 9 (by decide) tX2_find_3 TX4_9 cV28_9 dX2_find_60 ?_
              refine lv_iload_n hx hb dX2_find_63 rfl (lv_at hl 3 rfl) ?_
              refine lv_iload hx hb dX2_find_64 (lv_at hl 4 rfl) ?_
              obtain ⟨S11, hc, hf⟩ := bd_s hf
              refine gV_v hC hM hA hl.1 [.int (S9.1 28 9), .int v2, .int v8] [] (c_X2_findFrom l D cs a q1 q2 N (S9.1 28 9) v2 v8 S9 S11 hc) gX2_find_X2_findFrom rfl hd_X2_findFrom ⟨by decide, by decide⟩ 8 2 clX2 rfl cE8 (Nat.le_of_ble_eq_true rfl) dX2_find_66 rfl ⟨by decide, by decide⟩ (fun H locs hM => ?_)
              obtain ⟨v12, ev12⟩ : ∃ y : Int32, y = v8 + 1 := ⟨_, rfl⟩
              replace hf := nm_q ev12 hf
              refine lv_iinc (v := v12) (lv' := [(4, .int v12), (0, .ref (a 8)), (1, .ref (a 28)), (2, .ref (a 48)), (3, .int v2)]) hx hb dX2_find_69 hl (k := 4) rfl (by rw [ev12]; rfl) (by decide) rfl (fun ls hl => ?_)
              refine lv_goto (tgt := 51) hx hb dX2_find_72 (by decide) ?_
              exact hk51 _ _ hf _ _ _ hM (lv_sub hl [1, 2, 3, 4, 0] rfl)
          · intro k51 hk51 hf
            exact hk51 _ _ hf _ _ _ hM (lv_sub hl [1, 2, 3, 4, 0] rfl)
      · intro k48 hk48 hf
        refine jl_W (fun k18 : Int32 → St → Option (St) => ∀ (v13 : Int32) (S14 : St), k18 v13 S14 = some Sz → ∀ (H : Heap) (locs : List Loc) (ls : Array Slot), gw D A s.heap H locs (ccells cs a q1 q2 S14) → lv_has ls 5 [(0, .ref (a 8)), (1, .ref (a 28)), (2, .ref (a 48)), (3, .int v2), (4, .int v13)] → W p l e rmX2_find s m args below meth c H locs 0 0 Q (F0 m 18 ls [])) ?_ ?_ ?_ hf
        · intro v13 S14 h; cases h
        · intro k18 hk18 v13 S14 hf H locs ls hM hl
          unfold b_X2_find_18 at hf
          refine lv_iload hx hb dX2_find_18 (lv_at hl 4 rfl) ?_
          refine lv_aload_n hx hb dX2_find_20 rfl (lv_at hl 1 rfl) ?_
          refine g_get hC hM inX2_find_X4 28 cE28 clX4 9 (by decide) tX2_find_3 TX4_9 cV28_9 dX2_find_21 ?_
          refine lv_icmp_ge (tgt := 48) hx hb dX2_find_24 (by decide) (fun c15 => ?_) (fun c15 => ?_)
          · replace hf := it_t c15 hf
            exact hk48 _ hf _ _ _ hM (lv_sub hl [0, 1, 2, 3] rfl)
          · replace hf := it_f c15 hf
            refine lv_aload_n hx hb dX2_find_27 rfl (lv_at hl 0 rfl) ?_
            refine g_get hC hM inX2_find_X2 8 cE8 clX2 5 (by decide) tX2_find_4 TX2_5 cV8_5 dX2_find_28 ?_
            refine lv_iload hx hb dX2_find_31 (lv_at hl 4 rfl) ?_
            refine lv_aload_n hx hb dX2_find_33 rfl (lv_at hl 1 rfl) ?_
            refine lv_aload_n hx hb dX2_find_34 rfl (lv_at hl 2 rfl) ?_
            refine lv_iload_n hx hb dX2_find_35 rfl (lv_at hl 3 rfl) ?_
            refine lv_iload hx hb dX2_find_36 (lv_at hl 4 rfl) ?_
            obtain ⟨v16, hc, hf⟩ := bd_s hf
            refine gS_i hC hM hA hl.1 [.ref (a 28), .ref (a 48), .int v2, .int v13] [.int v13, .ref (a 13)] (c_X2_seekHours l D cs a q1 q2 N v2 v13 S14 v16 hc) gX2_find_X2_seekHours rfl hd_X2_seekHours ⟨by decide, by decide⟩ (Nat.le_of_ble_eq_true rfl) dX2_find_38 rfl ⟨by decide, by decide⟩ (fun H locs hM => ?_)
            obtain ⟨h17, hf⟩ := ck_s hf
            refine g_iast hC hM 13 cE13 h17 cA13 dX2_find_41 (fun H locs hM => ?_)
            obtain ⟨S18, hf, hM⟩ := cnm hf hM
            obtain ⟨v19, ev19⟩ : ∃ y : Int32, y = v13 + 1 := ⟨_, rfl⟩
            replace hf := nm_q ev19 hf
            refine lv_iinc (v := v19) (lv' := [(4, .int v19), (0, .ref (a 8)), (1, .ref (a 28)), (2, .ref (a 48)), (3, .int v2)]) hx hb dX2_find_42 hl (k := 4) rfl (by rw [ev19]; rfl) (by decide) rfl (fun ls hl => ?_)
            refine lv_goto (tgt := 18) hx hb dX2_find_45 (by decide) ?_
            exact hk18 _ _ hf _ _ _ hM (lv_sub hl [1, 2, 3, 4, 0] rfl)
        · intro k18 hk18 hf
          exact hk18 _ _ hf _ _ _ hM (lv_sub hl [1, 2, 3, 4, 0] rfl)
  · intro k7 hk7 hf
    exact hk7 _ _ hf _ _ _ hM (lv_sub hl [1, 2, 3, 0] rfl)

theorem hd_X0_clear : yX0_clear.cls = RX0 ∧ yX0_clear.cls ≠ "java/lang/invoke/MethodHandle" ∧ yX0_clear.cls ≠ "java/lang/invoke/VarHandle" ∧ (parseMethodDescriptor yX0_clear.desc).map (fun d => d.parameters.length) = some 0 := by decide +kernel
theorem tX0_clear_1 : Cond.fieldLink RX0 22 "WeatherTeller$Chooser" "size" "I" ∈ wsX0_clear := List.mem_of_getElem? (i := 1) rfl
theorem inX0_clear_X0 : ∀ w ∈ u_ws RX0 TX0 7, w ∈ wsX0_clear := fun _ h => List.mem_cons_of_mem _ (List.mem_append_right _ h)
def f_X0_clear (N : Nat)  (S : St) : Option (St) :=
  nm (puI S 15 3 0) fun S1 =>
  some S1
abbrev rmX0_clear : Room := { frames := 0, cells := 0, slots := 0, locals := 0 }
set_option maxRecDepth 100000 in
set_option maxHeartbeats 4000000 in
theorem c_X0_clear (l : Launch) (D : va_G) (cs : Nat → ClassId) (a : Nat → Nat) (q1 q2 : Nat) (N : Nat) (S : St) (Sz : St) (hf : f_X0_clear N S = some Sz) : gMv l yX0_clear wsX0_clear rmX0_clear D cs [.ref (a 15)] (ccells cs a q1 q2 S) (ccells cs a q1 q2 Sz) := by
  unfold f_X0_clear at hf
  refine gE_v (cc := cX0_clear) (maxL := 1) (by decide) rfl (Nat.le_of_ble_eq_true rfl) ?_
  intro p e s m args below meth c A Q hC hA hQ hM ls hl
  obtain ⟨hx, hb, hml, hown, hts⟩ := hC.1
  have hl : lv_has ls 1 [(0, .ref (a 15))] := hl
  refine lv_aload_n hx hb dX0_clear_0 rfl (lv_at hl 0 rfl) ?_
  refine lv_iconst (v := 0) hx hb dX0_clear_1 (by decide) ?_
  refine g_put hC hM inX0_clear_X0 tyX0_ok nmX0 15 cE15 clX0 3 (by decide) tX0_clear_1 TX0_3 tyX0_3 rfl rfl (by rw [cL15]; decide) cP15_3 dX0_clear_2 (fun H locs hM => ?_)
  obtain ⟨S1, hf, hM⟩ := cnm hf hM
  cases so_1 hf
  exact hQ _ _ _ _ _ _ dX0_clear_5 hM (by decide) (by decide)

theorem hd_X0_offer : yX0_offer.cls = RX0 ∧ yX0_offer.cls ≠ "java/lang/invoke/MethodHandle" ∧ yX0_offer.cls ≠ "java/lang/invoke/VarHandle" ∧ (parseMethodDescriptor yX0_offer.desc).map (fun d => d.parameters.length) = some 3 := by decide +kernel
theorem tX0_offer_1 : Cond.fieldLink RX0 22 "WeatherTeller$Chooser" "size" "I" ∈ wsX0_offer := List.mem_of_getElem? (i := 1) rfl
theorem inX0_offer_X0 : ∀ w ∈ u_ws RX0 TX0 7, w ∈ wsX0_offer := fun _ h => List.mem_cons_of_mem _ (List.mem_append_right _ h)
theorem tX0_offer_2 : Cond.fieldLink RX0 11 "WeatherTeller$Chooser" "numbers" "[I" ∈ wsX0_offer := List.mem_of_getElem? (i := 2) rfl
theorem tX0_offer_3 : Cond.fieldLink RX0 26 "WeatherTeller$Chooser" "signs" "[I" ∈ wsX0_offer := List.mem_of_getElem? (i := 3) rfl
theorem tX0_offer_4 : Cond.fieldLink RX0 15 "WeatherTeller$Chooser" "weights" "[I" ∈ wsX0_offer := List.mem_of_getElem? (i := 4) rfl
theorem tX0_offer_5 : Cond.fieldLink RX0 18 "WeatherTeller$Chooser" "chosen" "[Z" ∈ wsX0_offer := List.mem_of_getElem? (i := 5) rfl
def f_X0_offer (N : Nat) (p0 : Int32) (p1 : Int32) (p2 : Int32) (S : St) : Option (St) :=
  if 432 ≤ (S.1 15 3) then
    some S
  else
    ck (S.1 15 3) 432 <|
    nm (puI S 16 (S.1 15 3).toNatClampNeg p0) fun S3 =>
    ck (S3.1 15 3) 432 <|
    nm (puI S3 19 (S3.1 15 3).toNatClampNeg p1) fun S5 =>
    ck (S5.1 15 3) 432 <|
    nm (puI S5 17 (S5.1 15 3).toNatClampNeg p2) fun S7 =>
    ck (S7.1 15 3) 432 <|
    nm (puI S7 18 (S7.1 15 3).toNatClampNeg (vp_nar .boolean 0)) fun S9 =>
    nm (puI S9 15 3 ((S9.1 15 3) + 1)) fun S10 =>
    some S10
abbrev rmX0_offer : Room := { frames := 0, cells := 0, slots := 0, locals := 0 }
set_option maxRecDepth 100000 in
set_option maxHeartbeats 4000000 in
theorem c_X0_offer (l : Launch) (D : va_G) (cs : Nat → ClassId) (a : Nat → Nat) (q1 q2 : Nat) (N : Nat) (p0 : Int32) (p1 : Int32) (p2 : Int32) (S : St) (Sz : St) (hf : f_X0_offer N p0 p1 p2 S = some Sz) : gMv l yX0_offer wsX0_offer rmX0_offer D cs [.ref (a 15), .int p0, .int p1, .int p2] (ccells cs a q1 q2 S) (ccells cs a q1 q2 Sz) := by
  unfold f_X0_offer at hf
  refine gE_v (cc := cX0_offer) (maxL := 4) (by decide) rfl (Nat.le_of_ble_eq_true rfl) ?_
  intro p e s m args below meth c A Q hC hA hQ hM ls hl
  obtain ⟨hx, hb, hml, hown, hts⟩ := hC.1
  have hl : lv_has ls 4 [(0, .ref (a 15)), (1, .int p0), (2, .int p1), (3, .int p2)] := hl
  refine lv_aload_n hx hb dX0_offer_0 rfl (lv_at hl 0 rfl) ?_
  refine g_get hC hM inX0_offer_X0 15 cE15 clX0 3 (by decide) tX0_offer_1 TX0_3 cV15_3 dX0_offer_1 ?_
  refine lv_sipush (v := 432) hx hb dX0_offer_4 (by decide) ?_
  refine lv_icmp_ge (tgt := 60) hx hb dX0_offer_7 (by decide) (fun c1 => ?_) (fun c1 => ?_)
  · replace hf := it_t c1 hf
    cases so_1 hf
    exact hQ _ _ _ _ _ _ dX0_offer_60 hM (by decide) (by decide)
  · replace hf := it_f c1 hf
    refine lv_aload_n hx hb dX0_offer_10 rfl (lv_at hl 0 rfl) ?_
    refine g_get hC hM inX0_offer_X0 15 cE15 clX0 0 (by decide) tX0_offer_2 TX0_0 cV15_0 dX0_offer_11 ?_
    refine lv_aload_n hx hb dX0_offer_14 rfl (lv_at hl 0 rfl) ?_
    refine g_get hC hM inX0_offer_X0 15 cE15 clX0 3 (by decide) tX0_offer_1 TX0_3 cV15_3 dX0_offer_15 ?_
    refine lv_iload_n hx hb dX0_offer_18 rfl (lv_at hl 1 rfl) ?_
    obtain ⟨h2, hf⟩ := ck_s hf
    refine g_iast hC hM 16 cE16 h2 cA16 dX0_offer_19 (fun H locs hM => ?_)
    obtain ⟨S3, hf, hM⟩ := cnm hf hM
    refine lv_aload_n hx hb dX0_offer_20 rfl (lv_at hl 0 rfl) ?_
    refine g_get hC hM inX0_offer_X0 15 cE15 clX0 4 (by decide) tX0_offer_3 TX0_4 cV15_4 dX0_offer_21 ?_
    refine lv_aload_n hx hb dX0_offer_24 rfl (lv_at hl 0 rfl) ?_
    refine g_get hC hM inX0_offer_X0 15 cE15 clX0 3 (by decide) tX0_offer_1 TX0_3 cV15_3 dX0_offer_25 ?_
    refine lv_iload_n hx hb dX0_offer_28 rfl (lv_at hl 2 rfl) ?_
    obtain ⟨h4, hf⟩ := ck_s hf
    refine g_iast hC hM 19 cE19 h4 cA19 dX0_offer_29 (fun H locs hM => ?_)
    obtain ⟨S5, hf, hM⟩ := cnm hf hM
    refine lv_aload_n hx hb dX0_offer_30 rfl (lv_at hl 0 rfl) ?_
    refine g_get hC hM inX0_offer_X0 15 cE15 clX0 1 (by decide) tX0_offer_4 TX0_1 cV15_1 dX0_offer_31 ?_
    refine lv_aload_n hx hb dX0_offer_34 rfl (lv_at hl 0 rfl) ?_
    refine g_get hC hM inX0_offer_X0 15 cE15 clX0 3 (by decide) tX0_offer_1 TX0_3 cV15_3 dX0_offer_35 ?_
    refine lv_iload_n hx hb dX0_offer_38 rfl (lv_at hl 3 rfl) ?_
    obtain ⟨h6, hf⟩ := ck_s hf
    refine g_iast hC hM 17 cE17 h6 cA17 dX0_offer_39 (fun H locs hM => ?_)
    obtain ⟨S7, hf, hM⟩ := cnm hf hM
    refine lv_aload_n hx hb dX0_offer_40 rfl (lv_at hl 0 rfl) ?_
    refine g_get hC hM inX0_offer_X0 15 cE15 clX0 2 (by decide) tX0_offer_5 TX0_2 cV15_2 dX0_offer_41 ?_
    refine lv_aload_n hx hb dX0_offer_44 rfl (lv_at hl 0 rfl) ?_
    refine g_get hC hM inX0_offer_X0 15 cE15 clX0 3 (by decide) tX0_offer_1 TX0_3 cV15_3 dX0_offer_45 ?_
    refine lv_iconst (v := 0) hx hb dX0_offer_48 (by decide) ?_
    obtain ⟨h8, hf⟩ := ck_s hf
    refine g_zast hC hM 18 cE18 h8 cA18 dX0_offer_49 (fun H locs hM => ?_)
    obtain ⟨S9, hf, hM⟩ := cnm hf hM
    refine lv_aload_n hx hb dX0_offer_50 rfl (lv_at hl 0 rfl) ?_
    refine lv_dup hx hb dX0_offer_51 rfl ?_
    refine g_get hC hM inX0_offer_X0 15 cE15 clX0 3 (by decide) tX0_offer_1 TX0_3 cV15_3 dX0_offer_52 ?_
    refine lv_iconst (v := 1) hx hb dX0_offer_55 (by decide) ?_
    refine lv_iadd hx hb dX0_offer_56 ?_
    refine g_put hC hM inX0_offer_X0 tyX0_ok nmX0 15 cE15 clX0 3 (by decide) tX0_offer_1 TX0_3 tyX0_3 rfl rfl (by rw [cL15]; decide) cP15_3 dX0_offer_57 (fun H locs hM => ?_)
    obtain ⟨S10, hf, hM⟩ := cnm hf hM
    cases so_1 hf
    exact hQ _ _ _ _ _ _ dX0_offer_60 hM (by decide) (by decide)
