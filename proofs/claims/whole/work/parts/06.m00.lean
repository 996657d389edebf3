theorem hd_X11_thrown : yX11_thrown.cls = RX11 ∧ yX11_thrown.cls ≠ "java/lang/invoke/MethodHandle" ∧ yX11_thrown.cls ≠ "java/lang/invoke/VarHandle" ∧ (parseMethodDescriptor yX11_thrown.desc).map (fun d => d.parameters.length) = some 0 := by decide +kernel
theorem tX11_thrown_1 : Cond.fieldLink RX11 94 "WeatherTellerModel" "thrown" "I" ∈ wsX11_thrown := List.mem_of_getElem? (i := 1) rfl
theorem inX11_thrown_X11 : ∀ w ∈ u_ws RX11 TX11 50, w ∈ wsX11_thrown := fun _ h => List.mem_cons_of_mem _ (List.mem_append_right _ h)
def f_X11_thrown (N : Nat)  (S : St) : Option (Int32) :=
  some (S.1 0 2)
abbrev rmX11_thrown : Room := { frames := 0, cells := 0, slots := 0, locals := 0 }
set_option maxRecDepth 100000 in
set_option maxHeartbeats 4000000 in
theorem c_X11_thrown (l : Launch) (D : va_G) (cs : Nat → ClassId) (a : Nat → Nat) (N : Nat) (S : St) (rz : Int32) (hf : f_X11_thrown N S = some rz) : gMi l yX11_thrown wsX11_thrown rmX11_thrown D cs [.ref (a 0)] (mcells cs a S) rz (mcells cs a S) := by
  unfold f_X11_thrown at hf
  refine gE_i (cc := cX11_thrown) (maxL := 1) (by decide) rfl (Nat.le_of_ble_eq_true rfl) ?_
  intro p e s m args below meth c A Q hC hA hQ hM ls hl
  obtain ⟨hx, hb, hml, hown, hts⟩ := hC.1
  have hl : lv_has ls 1 [(0, .ref (a 0))] := hl
  refine lv_aload_n hx hb dX11_thrown_0 rfl (lv_at hl 0 rfl) ?_
  refine g_get hC hM inX11_thrown_X11 0 mE0 clX11 2 (by decide) tX11_thrown_1 TX11_2 mV0_2 dX11_thrown_1 ?_
  cases so_1 hf
  exact hQ _ _ _ _ _ _ dX11_thrown_4 hM (by decide) (by decide)

theorem hd_X11_feed : yX11_feed.cls = RX11 ∧ yX11_feed.cls ≠ "java/lang/invoke/MethodHandle" ∧ yX11_feed.cls ≠ "java/lang/invoke/VarHandle" ∧ (parseMethodDescriptor yX11_feed.desc).map (fun d => d.parameters.length) = some 5 := by decide +kernel
theorem tX11_feed_1 : Cond.fieldLink RX11 94 "WeatherTellerModel" "thrown" "I" ∈ wsX11_feed := List.mem_of_getElem? (i := 1) rfl
theorem inX11_feed_X11 : ∀ w ∈ u_ws RX11 TX11 50, w ∈ wsX11_feed := fun _ h => List.mem_cons_of_mem _ (List.mem_append_right _ h)
theorem tX11_feed_2 : Cond.fieldLink RX11 97 "WeatherTellerModel" "tapeSize" "I" ∈ wsX11_feed := List.mem_of_getElem? (i := 2) rfl
theorem tX11_feed_3 : Cond.fieldLink RX11 7 "WeatherTellerModel" "tape" "[I" ∈ wsX11_feed := List.mem_of_getElem? (i := 3) rfl
def j_X11_feed_113 (S3 : St) : Option (Int32 × St) :=
  nm (puI S3 0 1 ((S3.1 0 1) + 20)) fun S4 =>
  some ((S4.1 0 1), S4)
def j_X11_feed_76 (v5 : Int32) (S6 : St) (k23 : Int32 → St → Option (Int32 × St)) (v8 : Int32) : Option (Int32 × St) :=
  ck ((S6.1 0 1) + v5) 1000 <|
  nm (puI S6 1 ((S6.1 0 1) + v5).toNatClampNeg ((v8 >>> ((24 - (8 * (v5 - v5 / 4 * 4))) &&& 31)) &&& 255)) fun S10 =>
  nm (v5 + 1) fun v11 =>
  k23 v11 S10
def b_X11_feed_23 (p0 : Int32) (p1 : Int32) (p2 : Int32) (p3 : Int32) (p4 : Int32) (k113 : St → Option (Int32 × St)) (k23 : Int32 → St → Option (Int32 × St)) (v5 : Int32) (S6 : St) : Option (Int32 × St) :=
  if 20 ≤ v5 then
    k113 S6
  else
    jp (j_X11_feed_76 v5 S6 k23) fun k76 =>
    if 4 ≤ v5 then
      if 8 ≤ v5 then
        if 12 ≤ v5 then
          if 16 ≤ v5 then
            k76 p4
          else
            k76 p3
        else
          k76 p2
      else
        k76 p1
    else
      k76 p0
def f_X11_feed (N : Nat) (p0 : Int32) (p1 : Int32) (p2 : Int32) (p3 : Int32) (p4 : Int32) (S : St) : Option (Int32 × St) :=
  nm (puI S 0 2 0) fun S1 =>
  if ((S1.1 0 1) + 20) ≤ 1000 then
    jp (j_X11_feed_113) fun k113 =>
    jp (lp (fun _ _ => none) (b_X11_feed_23 p0 p1 p2 p3 p4 k113) N) fun k23 =>
    k23 0 S1
  else
    some ((-1), S1)
abbrev rmX11_feed : Room := { frames := 0, cells := 0, slots := 0, locals := 0 }
set_option maxRecDepth 100000 in
set_option maxHeartbeats 4000000 in
theorem c_X11_feed (l : Launch) (D : va_G) (cs : Nat → ClassId) (a : Nat → Nat) (N : Nat) (p0 : Int32) (p1 : Int32) (p2 : Int32) (p3 : Int32) (p4 : Int32) (S : St) (rz : Int32) (Sz : St) (hf : f_X11_feed N p0 p1 p2 p3 p4 S = some (rz, Sz)) : gMi l yX11_feed wsX11_feed rmX11_feed D cs [.ref (a 0), .int p0, .int p1, .int p2, .int p3, .int p4] (mcells cs a S) rz (mcells cs a Sz) := by
  unfold f_X11_feed at hf
  refine gE_i (cc := cX11_feed) (maxL := 8) (by decide) rfl (Nat.le_of_ble_eq_true rfl) ?_
  intro p e s m args below meth c A Q hC hA hQ hM ls hl
  obtain ⟨hx, hb, hml, hown, hts⟩ := hC.1
  have hl : lv_has ls 8 [(0, .ref (a 0)), (1, .int p0), (2, .int p1), (3, .int p2), (4, .int p3), (5, .int p4)] := hl
  refine lv_aload_n hx hb dX11_feed_0 rfl (lv_at hl 0 rfl) ?_
  refine lv_iconst (v := 0) hx hb dX11_feed_1 (by decide) ?_
  refine g_put hC hM inX11_feed_X11 tyX11_ok nmX11 0 mE0 clX11 2 (by decide) tX11_feed_1 TX11_2 tyX11_2 rfl rfl (by rw [mL0]; decide) mP0_2 dX11_feed_2 (fun H locs hM => ?_)
  obtain ⟨S1, hf, hM⟩ := mnm hf hM
  refine lv_aload_n hx hb dX11_feed_5 rfl (lv_at hl 0 rfl) ?_
  refine g_get hC hM inX11_feed_X11 0 mE0 clX11 1 (by decide) tX11_feed_2 TX11_1 mV0_1 dX11_feed_6 ?_
  refine lv_bipush (v := 20) hx hb dX11_feed_9 (by decide) ?_
  refine lv_iadd hx hb dX11_feed_11 ?_
  refine lv_sipush (v := 1000) hx hb dX11_feed_12 (by decide) ?_
  refine lv_icmp_le (tgt := 20) hx hb dX11_feed_15 (by decide) (fun c2 => ?_) (fun c2 => ?_)
  · replace hf := it_t c2 hf
    refine lv_iconst (v := 0) hx hb dX11_feed_20 (by decide) ?_
    refine lv_istore (lv' := [(6, .int 0), (0, .ref (a 0)), (1, .int p0), (2, .int p1), (3, .int p2), (4, .int p3), (5, .int p4)]) hx hb dX11_feed_21 hl (by decide) rfl (fun ls hl => ?_)
    refine jp_W (fun k113 : St → Option (Int32 × St) => ∀ (S3 : St), k113 S3 = some (rz, Sz) → ∀ (H : Heap) (locs : List Loc) (ls : Array Slot), gw D A s.heap H locs (mcells cs a S3) → lv_has ls 8 [(0, .ref (a 0))] → W p l e rmX11_feed s m args below meth c H locs 0 0 Q (F0 m 113 ls [])) ?_ ?_ hf
    · intro S3 hf H locs ls hM hl
      unfold j_X11_feed_113 at hf
      refine lv_aload_n hx hb dX11_feed_113 rfl (lv_at hl 0 rfl) ?_
      refine lv_dup hx hb dX11_feed_114 rfl ?_
      refine g_get hC hM inX11_feed_X11 0 mE0 clX11 1 (by decide) tX11_feed_2 TX11_1 mV0_1 dX11_feed_115 ?_
      refine lv_bipush (v := 20) hx hb dX11_feed_118 (by decide) ?_
      refine lv_iadd hx hb dX11_feed_120 ?_
      refine g_put hC hM inX11_feed_X11 tyX11_ok nmX11 0 mE0 clX11 1 (by decide) tX11_feed_2 TX11_1 tyX11_1 rfl rfl (by rw [mL0]; decide) mP0_1 dX11_feed_121 (fun H locs hM => ?_)
      obtain ⟨S4, hf, hM⟩ := mnm hf hM
      refine lv_aload_n hx hb dX11_feed_124 rfl (lv_at hl 0 rfl) ?_
      refine g_get hC hM inX11_feed_X11 0 mE0 clX11 1 (by decide) tX11_feed_2 TX11_1 mV0_1 dX11_feed_125 ?_
      obtain ⟨e1, e2⟩ := so_2 hf
      cases e1; cases e2
      exact hQ _ _ _ _ _ _ dX11_feed_128 hM (by decide) (by decide)
    · intro k113 hk113 hf
      refine jl_W (fun k23 : Int32 → St → Option (Int32 × St) => ∀ (v5 : Int32) (S6 : St), k23 v5 S6 = some (rz, Sz) → ∀ (H : Heap) (locs : List Loc) (ls : Array Slot), gw D A s.heap H locs (mcells cs a S6) → lv_has ls 8 [(0, .ref (a 0)), (1, .int p0), (2, .int p1), (3, .int p2), (4, .int p3), (5, .int p4), (6, .int v5)] → W p l e rmX11_feed s m args below meth c H locs 0 0 Q (F0 m 23 ls [])) ?_ ?_ ?_ hf
      · intro v5 S6 h; cases h
      · intro k23 hk23 v5 S6 hf H locs ls hM hl
        unfold b_X11_feed_23 at hf
        refine lv_iload hx hb dX11_feed_23 (lv_at hl 6 rfl) ?_
        refine lv_bipush (v := 20) hx hb dX11_feed_25 (by decide) ?_
        refine lv_icmp_ge (tgt := 113) hx hb dX11_feed_27 (by decide) (fun c7 => ?_) (fun c7 => ?_)
        · replace hf := it_t c7 hf
          exact hk113 _ hf _ _ _ hM (lv_sub hl [0] rfl)
        · replace hf := it_f c7 hf
          refine lv_iload hx hb dX11_feed_30 (lv_at hl 6 rfl) ?_
          refine lv_iconst (v := 4) hx hb dX11_feed_32 (by decide) ?_
          refine jp_W (fun k76 : Int32 → Option (Int32 × St) => ∀ (v8 : Int32), k76 v8 = some (rz, Sz) → ∀ (H : Heap) (locs : List Loc) (ls : Array Slot), gw D A s.heap H locs (mcells cs a S6) → lv_has ls 8 [(0, .ref (a 0)), (1, .int p0), (2, .int p1), (3, .int p2), (4, .int p3), (5, .int p4), (6, .int v5)] → W p l e rmX11_feed s m args below meth c H locs 0 0 Q (F0 m 76 ls [.int v8])) ?_ ?_ hf
          · intro v8 hf H locs ls hM hl
            unfold j_X11_feed_76 at hf
            refine lv_istore (lv' := [(7, .int v8), (0, .ref (a 0)), (1, .int p0), (2, .int p1), (3, .int p2), (4, .int p3), (5, .int p4), (6, .int v5)]) hx hb dX11_feed_76 hl (by decide) rfl (fun ls hl => ?_)
            refine lv_aload_n hx hb dX11_feed_78 rfl (lv_at hl 1 rfl) ?_
            refine g_get hC hM inX11_feed_X11 0 mE0 clX11 0 (by decide) tX11_feed_3 TX11_0 mV0_0 dX11_feed_79 ?_
            refine lv_aload_n hx hb dX11_feed_82 rfl (lv_at hl 1 rfl) ?_
            refine g_get hC hM inX11_feed_X11 0 mE0 clX11 1 (by decide) tX11_feed_2 TX11_1 mV0_1 dX11_feed_83 ?_
            refine lv_iload hx hb dX11_feed_86 (lv_at hl 7 rfl) ?_
            refine lv_iadd hx hb dX11_feed_88 ?_
            refine lv_iload hx hb dX11_feed_89 (lv_at hl 0 rfl) ?_
            refine lv_bipush (v := 24) hx hb dX11_feed_91 (by decide) ?_
            refine lv_bipush (v := 8) hx hb dX11_feed_93 (by decide) ?_
            refine lv_iload hx hb dX11_feed_95 (lv_at hl 7 rfl) ?_
            refine lv_iconst (v := 4) hx hb dX11_feed_97 (by decide) ?_
            refine lv_irem hx hb dX11_feed_98 (by decide) ?_
            refine lv_imul hx hb dX11_feed_99 ?_
            refine lv_isub hx hb dX11_feed_100 ?_
            refine lv_ishr hx hb dX11_feed_101 ?_
            refine lv_sipush (v := 255) hx hb dX11_feed_102 (by decide) ?_
            refine lv_iand hx hb dX11_feed_105 ?_
            obtain ⟨h9, hf⟩ := ck_s hf
            refine g_iast hC hM 1 mE1 h9 mA1 dX11_feed_106 (fun H locs hM => ?_)
            obtain ⟨S10, hf, hM⟩ := mnm hf hM
            obtain ⟨v11, ev11⟩ : ∃ y : Int32, y = v5 + 1 := ⟨_, rfl⟩
            replace hf := nm_q ev11 hf
            refine lv_iinc (v := v11) (lv' := [(6, .int v11), (7, .int v8), (0, .ref (a 0)), (1, .int p0), (2, .int p1), (3, .int p2), (4, .int p3), (5, .int p4)]) hx hb dX11_feed_107 hl (k := 7) rfl (by rw [ev11]; rfl) (by decide) rfl (fun ls hl => ?_)
            refine lv_goto (tgt := 23) hx hb dX11_feed_110 (by decide) ?_
            exact hk23 _ _ hf _ _ _ hM (lv_sub hl [2, 3, 4, 5, 6, 7, 0] rfl)
          · intro k76 hk76 hf
            refine lv_icmp_ge (tgt := 40) hx hb dX11_feed_33 (by decide) (fun c12 => ?_) (fun c12 => ?_)
            · replace hf := it_t c12 hf
              refine lv_iload hx hb dX11_feed_40 (lv_at hl 6 rfl) ?_
              refine lv_bipush (v := 8) hx hb dX11_feed_42 (by decide) ?_
              refine lv_icmp_ge (tgt := 51) hx hb dX11_feed_44 (by decide) (fun c13 => ?_) (fun c13 => ?_)
              · replace hf := it_t c13 hf
                refine lv_iload hx hb dX11_feed_51 (lv_at hl 6 rfl) ?_
                refine lv_bipush (v := 12) hx hb dX11_feed_53 (by decide) ?_
                refine lv_icmp_ge (tgt := 62) hx hb dX11_feed_55 (by decide) (fun c14 => ?_) (fun c14 => ?_)
                · replace hf := it_t c14 hf
                  refine lv_iload hx hb dX11_feed_62 (lv_at hl 6 rfl) ?_
                  refine lv_bipush (v := 16) hx hb dX11_feed_64 (by decide) ?_
                  refine lv_icmp_ge (tgt := 74) hx hb dX11_feed_66 (by decide) (fun c15 => ?_) (fun c15 => ?_)
                  · replace hf := it_t c15 hf
                    refine lv_iload hx hb dX11_feed_74 (lv_at hl 5 rfl) ?_
                    exact hk76 _ hf _ _ _ hM hl
                  · replace hf := it_f c15 hf
                    refine lv_iload hx hb dX11_feed_69 (lv_at hl 4 rfl) ?_
                    refine lv_goto (tgt := 76) hx hb dX11_feed_71 (by decide) ?_
                    exact hk76 _ hf _ _ _ hM hl
                · replace hf := it_f c14 hf
                  refine lv_iload_n hx hb dX11_feed_58 rfl (lv_at hl 3 rfl) ?_
                  refine lv_goto (tgt := 76) hx hb dX11_feed_59 (by decide) ?_
                  exact hk76 _ hf _ _ _ hM hl
              · replace hf := it_f c13 hf
                refine lv_iload_n hx hb dX11_feed_47 rfl (lv_at hl 2 rfl) ?_
                refine lv_goto (tgt := 76) hx hb dX11_feed_48 (by decide) ?_
                exact hk76 _ hf _ _ _ hM hl
            · replace hf := it_f c12 hf
              refine lv_iload_n hx hb dX11_feed_36 rfl (lv_at hl 1 rfl) ?_
              refine lv_goto (tgt := 76) hx hb dX11_feed_37 (by decide) ?_
              exact hk76 _ hf _ _ _ hM hl
      · intro k23 hk23 hf
        exact hk23 _ _ hf _ _ _ hM (lv_sub hl [1, 2, 3, 4, 5, 6, 0] rfl)
  · replace hf := it_f c2 hf
    refine lv_iconst (v := (-1)) hx hb dX11_feed_18 (by decide) ?_
    obtain ⟨e1, e2⟩ := so_2 hf
    cases e1; cases e2
    exact hQ _ _ _ _ _ _ dX11_feed_19 hM (by decide) (by decide)

theorem hd_X11_wrong : yX11_wrong.cls = RX11 ∧ yX11_wrong.cls ≠ "java/lang/invoke/MethodHandle" ∧ yX11_wrong.cls ≠ "java/lang/invoke/VarHandle" ∧ (parseMethodDescriptor yX11_wrong.desc).map (fun d => d.parameters.length) = some 2 := by decide +kernel
theorem tX11_wrong_1 : Cond.fieldLink RX11 100 "WeatherTellerModel" "fault" "I" ∈ wsX11_wrong := List.mem_of_getElem? (i := 1) rfl
theorem inX11_wrong_X11 : ∀ w ∈ u_ws RX11 TX11 50, w ∈ wsX11_wrong := fun _ h => List.mem_cons_of_mem _ (List.mem_append_right _ h)
theorem tX11_wrong_2 : Cond.fieldLink RX11 44 "WeatherTellerModel" "faultPlace" "I" ∈ wsX11_wrong := List.mem_of_getElem? (i := 2) rfl
def f_X11_wrong (N : Nat) (p0 : Int32) (p1 : Int32) (S : St) : Option (Int32 × St) :=
  zb <|
  nm (puI S 0 16 p0) fun S1 =>
  nm (puI S1 0 17 p1) fun S2 =>
  some (0, S2)
abbrev rmX11_wrong : Room := { frames := 0, cells := 0, slots := 0, locals := 0 }
set_option maxRecDepth 100000 in
set_option maxHeartbeats 4000000 in
theorem c_X11_wrong (l : Launch) (D : va_G) (cs : Nat → ClassId) (a : Nat → Nat) (N : Nat) (p0 : Int32) (p1 : Int32) (S : St) (rz : Int32) (Sz : St) (hf : f_X11_wrong N p0 p1 S = some (rz, Sz)) : gMi l yX11_wrong wsX11_wrong rmX11_wrong D cs [.ref (a 0), .int p0, .int p1] (mcells cs a S) rz (mcells cs a Sz) := by
  unfold f_X11_wrong at hf
  obtain ⟨hrz, hf⟩ := zb_s hf
  refine gE_z (cc := cX11_wrong) (maxL := 3) hrz (by decide) rfl (Nat.le_of_ble_eq_true rfl) ?_
  intro p e s m args below meth c A Q hC hA hQ hM ls hl
  obtain ⟨hx, hb, hml, hown, hts⟩ := hC.1
  have hl : lv_has ls 3 [(0, .ref (a 0)), (1, .int p0), (2, .int p1)] := hl
  refine lv_aload_n hx hb dX11_wrong_0 rfl (lv_at hl 0 rfl) ?_
  refine lv_iload_n hx hb dX11_wrong_1 rfl (lv_at hl 1 rfl) ?_
  refine g_put hC hM inX11_wrong_X11 tyX11_ok nmX11 0 mE0 clX11 16 (by decide) tX11_wrong_1 TX11_16 tyX11_16 rfl rfl (by rw [mL0]; decide) mP0_16 dX11_wrong_2 (fun H locs hM => ?_)
  obtain ⟨S1, hf, hM⟩ := mnm hf hM
  refine lv_aload_n hx hb dX11_wrong_5 rfl (lv_at hl 0 rfl) ?_
  refine lv_iload_n hx hb dX11_wrong_6 rfl (lv_at hl 2 rfl) ?_
  refine g_put hC hM inX11_wrong_X11 tyX11_ok nmX11 0 mE0 clX11 17 (by decide) tX11_wrong_2 TX11_17 tyX11_17 rfl rfl (by rw [mL0]; decide) mP0_17 dX11_wrong_7 (fun H locs hM => ?_)
  obtain ⟨S2, hf, hM⟩ := mnm hf hM
  refine lv_iconst (v := 0) hx hb dX11_wrong_10 (by decide) ?_
  obtain ⟨e1, e2⟩ := so_2 hf
  cases e1; cases e2
  exact hQ _ _ _ _ _ _ dX11_wrong_11 hM (by decide) (by decide)

theorem hd_X11_wordAt : yX11_wordAt.cls = RX11 ∧ yX11_wordAt.cls ≠ "java/lang/invoke/MethodHandle" ∧ yX11_wordAt.cls ≠ "java/lang/invoke/VarHandle" ∧ (parseMethodDescriptor yX11_wordAt.desc).map (fun d => d.parameters.length) = some 2 := by decide +kernel
theorem tX11_wordAt_1 : Cond.fieldLink RX11 57 "WeatherTellerModel" "words" "[I" ∈ wsX11_wordAt := List.mem_of_getElem? (i := 1) rfl
theorem inX11_wordAt_X11 : ∀ w ∈ u_ws RX11 TX11 50, w ∈ wsX11_wordAt := fun _ h => List.mem_cons_of_mem _ (List.mem_append_right _ h)
theorem tX11_wordAt_2 : Cond.fieldLink RX11 7 "WeatherTellerModel" "tape" "[I" ∈ wsX11_wordAt := List.mem_of_getElem? (i := 2) rfl
def j_X11_wordAt_104 (v1 : Int32) (v2 : Int32) (k5 : Int32 → Int32 → Option (Int32)) (v4 : Int32) (v6 : Int32) : Option (Int32) :=
  if v6 = 0 then
    nm (v2 + (v4 + 1)) fun v8 =>
    nm (v1 + 1) fun v9 =>
    k5 v9 v8
  else
    some v1
def j_X11_wordAt_96 (v11 : Int32) (k57 : Int32 → Int32 → Option (Int32)) (v16 : Int32) : Option (Int32) :=
  nm (v11 + 1) fun v17 =>
  k57 v16 v17
def b_X11_wordAt_57 (p0 : Int32) (S : St) (v2 : Int32) (v4 : Int32) (k104 : Int32 → Option (Int32)) (k57 : Int32 → Int32 → Option (Int32)) (v10 : Int32) (v11 : Int32) : Option (Int32) :=
  if v4 ≤ v11 then
    k104 v10
  else
    if v10 = 0 then
      k104 v10
    else
      ck (v2 + v11) 27 <|
      ck (p0 + v11) 1000 <|
      jp (j_X11_wordAt_96 v11 k57) fun k96 =>
      if (S.1 15 (v2 + v11).toNatClampNeg) = (S.1 1 (p0 + v11).toNatClampNeg) then
        k96 1
      else
        k96 0
def j_X11_wordAt_52 (N : Nat) (p0 : Int32) (S : St) (v1 : Int32) (v2 : Int32) (k5 : Int32 → Int32 → Option (Int32)) (v4 : Int32) (v5 : Int32) : Option (Int32) :=
  jp (j_X11_wordAt_104 v1 v2 k5 v4) fun k104 =>
  jp (lp (fun _ _ => none) (b_X11_wordAt_57 p0 S v2 v4 k104) N) fun k57 =>
  k57 v5 0
def j_X11_wordAt_39 (N : Nat) (p0 : Int32) (p1 : Int32) (S : St) (v1 : Int32) (v2 : Int32) (k5 : Int32 → Int32 → Option (Int32)) (v4 : Int32) : Option (Int32) :=
  jp (j_X11_wordAt_52 N p0 S v1 v2 k5 v4) fun k52 =>
  if v4 = (p1 - p0) then
    k52 1
  else
    k52 0
def b_X11_wordAt_18 (S : St) (v2 : Int32) (k39 : Int32 → Option (Int32)) (k18 : Int32 → Option (Int32)) (v20 : Int32) : Option (Int32) :=
  ck (v2 + v20) 27 <|
  if (S.1 15 (v2 + v20).toNatClampNeg) = 32 then
    k39 v20
  else
    nm (v20 + 1) fun v23 =>
    k18 v23
def b_X11_wordAt_5 (N : Nat) (p0 : Int32) (p1 : Int32) (S : St) (k5 : Int32 → Int32 → Option (Int32)) (v1 : Int32) (v2 : Int32) : Option (Int32) :=
  if 27 ≤ v2 then
    some 0
  else
    jp (j_X11_wordAt_39 N p0 p1 S v1 v2 k5) fun k39 =>
    jp (lp (fun _ => none) (b_X11_wordAt_18 S v2 k39) N) fun k18 =>
    k18 0
def f_X11_wordAt (N : Nat) (p0 : Int32) (p1 : Int32) (S : St) : Option (Int32) :=
  jp (lp (fun _ _ => none) (b_X11_wordAt_5 N p0 p1 S) N) fun k5 =>
  k5 1 0
abbrev rmX11_wordAt : Room := { frames := 0, cells := 0, slots := 0, locals := 0 }
set_option maxRecDepth 100000 in
set_option maxHeartbeats 4000000 in
theorem c_X11_wordAt (l : Launch) (D : va_G) (cs : Nat → ClassId) (a : Nat → Nat) (N : Nat) (p0 : Int32) (p1 : Int32) (S : St) (rz : Int32) (hf : f_X11_wordAt N p0 p1 S = some rz) : gMi l yX11_wordAt wsX11_wordAt rmX11_wordAt D cs [.ref (a 0), .int p0, .int p1] (mcells cs a S) rz (mcells cs a S) := by
  unfold f_X11_wordAt at hf
  refine gE_i (cc := cX11_wordAt) (maxL := 8) (by decide) rfl (Nat.le_of_ble_eq_true rfl) ?_
  intro p e s m args below meth c A Q hC hA hQ hM ls hl
  obtain ⟨hx, hb, hml, hown, hts⟩ := hC.1
  have hl : lv_has ls 8 [(0, .ref (a 0)), (1, .int p0), (2, .int p1)] := hl
  refine lv_iconst (v := 1) hx hb dX11_wordAt_0 (by decide) ?_
  refine lv_istore_n (lv' := [(3, .int 1), (0, .ref (a 0)), (1, .int p0), (2, .int p1)]) hx hb dX11_wordAt_1 rfl hl (by decide) rfl (fun ls hl => ?_)
  refine lv_iconst (v := 0) hx hb dX11_wordAt_2 (by decide) ?_
  refine lv_istore (lv' := [(4, .int 0), (3, .int 1), (0, .ref (a 0)), (1, .int p0), (2, .int p1)]) hx hb dX11_wordAt_3 hl (by decide) rfl (fun ls hl => ?_)
  refine jl_W (fun k5 : Int32 → Int32 → Option (Int32) => ∀ (v1 : Int32) (v2 : Int32), k5 v1 v2 = some rz → ∀ (H : Heap) (locs : List Loc) (ls : Array Slot), gw D A s.heap H locs (mcells cs a S) → lv_has ls 8 [(0, .ref (a 0)), (1, .int p0), (2, .int p1), (3, .int v1), (4, .int v2)] → W p l e rmX11_wordAt s m args below meth c H locs 0 0 Q (F0 m 5 ls [])) ?_ ?_ ?_ hf
  · intro v1 v2 h; cases h
  · intro k5 hk5 v1 v2 hf H locs ls hM hl
    unfold b_X11_wordAt_5 at hf
    refine lv_iload hx hb dX11_wordAt_5 (lv_at hl 4 rfl) ?_
    refine lv_aload_n hx hb dX11_wordAt_7 rfl (lv_at hl 0 rfl) ?_
    refine g_get hC hM inX11_wordAt_X11 0 mE0 clX11 21 (by decide) tX11_wordAt_1 TX11_21 mV0_21 dX11_wordAt_8 ?_
    refine va_alen (v := 27) hx hb hC.2.1 hM.1 15 0 mE15 rfl rfl dX11_wordAt_11 ?_
    refine lv_icmp_ge (tgt := 126) hx hb dX11_wordAt_12 (by decide) (fun c3 => ?_) (fun c3 => ?_)
    · replace hf := it_t c3 hf
      refine lv_iconst (v := 0) hx hb dX11_wordAt_126 (by decide) ?_
      cases so_1 hf
      exact hQ _ _ _ _ _ _ dX11_wordAt_127 hM (by decide) (by decide)
    · replace hf := it_f c3 hf
      refine lv_iconst (v := 0) hx hb dX11_wordAt_15 (by decide) ?_
      refine lv_istore (lv' := [(5, .int 0), (0, .ref (a 0)), (1, .int p0), (2, .int p1), (3, .int v1), (4, .int v2)]) hx hb dX11_wordAt_16 hl (by decide) rfl (fun ls hl => ?_)
      refine jp_W (fun k39 : Int32 → Option (Int32) => ∀ (v4 : Int32), k39 v4 = some rz → ∀ (H : Heap) (locs : List Loc) (ls : Array Slot), gw D A s.heap H locs (mcells cs a S) → lv_has ls 8 [(0, .ref (a 0)), (1, .int p0), (2, .int p1), (3, .int v1), (4, .int v2), (5, .int v4)] → W p l e rmX11_wordAt s m args below meth c H locs 0 0 Q (F0 m 39 ls [])) ?_ ?_ hf
      · intro v4 hf H locs ls hM hl
        unfold j_X11_wordAt_39 at hf
        refine lv_iload hx hb dX11_wordAt_39 (lv_at hl 5 rfl) ?_
        refine lv_iload_n hx hb dX11_wordAt_41 rfl (lv_at hl 2 rfl) ?_
        refine lv_iload_n hx hb dX11_wordAt_42 rfl (lv_at hl 1 rfl) ?_
        refine lv_isub hx hb dX11_wordAt_43 ?_
        refine jp_W (fun k52 : Int32 → Option (Int32) => ∀ (v5 : Int32), k52 v5 = some rz → ∀ (H : Heap) (locs : List Loc) (ls : Array Slot), gw D A s.heap H locs (mcells cs a S) → lv_has ls 8 [(0, .ref (a 0)), (1, .int p0), (2, .int p1), (3, .int v1), (4, .int v2), (5, .int v4)] → W p l e rmX11_wordAt s m args below meth c H locs 0 0 Q (F0 m 52 ls [.int v5])) ?_ ?_ hf
        · intro v5 hf H locs ls hM hl
          unfold j_X11_wordAt_52 at hf
          refine lv_istore (lv' := [(6, .int v5), (0, .ref (a 0)), (1, .int p0), (2, .int p1), (3, .int v1), (4, .int v2), (5, .int v4)]) hx hb dX11_wordAt_52 hl (by decide) rfl (fun ls hl => ?_)
          refine lv_iconst (v := 0) hx hb dX11_wordAt_54 (by decide) ?_
          refine lv_istore (lv' := [(7, .int 0), (6, .int v5), (0, .ref (a 0)), (1, .int p0), (2, .int p1), (3, .int v1), (4, .int v2), (5, .int v4)]) hx hb dX11_wordAt_55 hl (by decide) rfl (fun ls hl => ?_)
          refine jp_W (fun k104 : Int32 → Option (Int32) => ∀ (v6 : Int32), k104 v6 = some rz → ∀ (H : Heap) (locs : List Loc) (ls : Array Slot), gw D A s.heap H locs (mcells cs a S) → lv_has ls 8 [(0, .ref (a 0)), (1, .int p0), (2, .int p1), (3, .int v1), (4, .int v2), (5, .int v4), (6, .int v6)] → W p l e rmX11_wordAt s m args below meth c H locs 0 0 Q (F0 m 104 ls [])) ?_ ?_ hf
          · intro v6 hf H locs ls hM hl
            unfold j_X11_wordAt_104 at hf
            refine lv_iload hx hb dX11_wordAt_104 (lv_at hl 6 rfl) ?_
            refine lv_if_eq (tgt := 111) hx hb dX11_wordAt_106 (by decide) (fun c7 => ?_) (fun c7 => ?_)
            · replace hf := it_t c7 hf
              refine lv_iload hx hb dX11_wordAt_111 (lv_at hl 4 rfl) ?_
              refine lv_iload hx hb dX11_wordAt_113 (lv_at hl 5 rfl) ?_
              refine lv_iconst (v := 1) hx hb dX11_wordAt_115 (by decide) ?_
              refine lv_iadd hx hb dX11_wordAt_116 ?_
              refine lv_iadd hx hb dX11_wordAt_117 ?_
              refine lv_topi (fun v8 ev8 => ?_)
              replace hf := nm_q ev8 hf
              refine lv_istore (lv' := [(4, .int v8), (0, .ref (a 0)), (1, .int p0), (2, .int p1), (3, .int v1), (5, .int v4), (6, .int v6)]) hx hb dX11_wordAt_118 hl (by decide) rfl (fun ls hl => ?_)
              obtain ⟨v9, ev9⟩ : ∃ y : Int32, y = v1 + 1 := ⟨_, rfl⟩
              replace hf := nm_q ev9 hf
              refine lv_iinc (v := v9) (lv' := [(3, .int v9), (4, .int v8), (0, .ref (a 0)), (1, .int p0), (2, .int p1), (5, .int v4), (6, .int v6)]) hx hb dX11_wordAt_120 hl (k := 4) rfl (by rw [ev9]; rfl) (by decide) rfl (fun ls hl => ?_)
              refine lv_goto (tgt := 5) hx hb dX11_wordAt_123 (by decide) ?_
              exact hk5 _ _ hf _ _ _ hM (lv_sub hl [2, 3, 4, 0, 1] rfl)
            · replace hf := it_f c7 hf
              refine lv_iload_n hx hb dX11_wordAt_109 rfl (lv_at hl 3 rfl) ?_
              cases so_1 hf
              exact hQ _ _ _ _ _ _ dX11_wordAt_110 hM (by decide) (by decide)
          · intro k104 hk104 hf
            refine jl_W (fun k57 : Int32 → Int32 → Option (Int32) => ∀ (v10 : Int32) (v11 : Int32), k57 v10 v11 = some rz → ∀ (H : Heap) (locs : List Loc) (ls : Array Slot), gw D A s.heap H locs (mcells cs a S) → lv_has ls 8 [(0, .ref (a 0)), (1, .int p0), (2, .int p1), (3, .int v1), (4, .int v2), (5, .int v4), (6, .int v10), (7, .int v11)] → W p l e rmX11_wordAt s m args below meth c H locs 0 0 Q (F0 m 57 ls [])) ?_ ?_ ?_ hf
            · intro v10 v11 h; cases h
            · intro k57 hk57 v10 v11 hf H locs ls hM hl
              unfold b_X11_wordAt_57 at hf
              refine lv_iload hx hb dX11_wordAt_57 (lv_at hl 7 rfl) ?_
              refine lv_iload hx hb dX11_wordAt_59 (lv_at hl 5 rfl) ?_
              refine lv_icmp_ge (tgt := 104) hx hb dX11_wordAt_61 (by decide) (fun c12 => ?_) (fun c12 => ?_)
              · replace hf := it_t c12 hf
                exact hk104 _ hf _ _ _ hM (lv_sub hl [0, 1, 2, 3, 4, 5, 6] rfl)
              · replace hf := it_f c12 hf
                refine lv_iload hx hb dX11_wordAt_64 (lv_at hl 6 rfl) ?_
                refine lv_if_eq (tgt := 104) hx hb dX11_wordAt_66 (by decide) (fun c13 => ?_) (fun c13 => ?_)
                · replace hf := it_t c13 hf
                  exact hk104 _ hf _ _ _ hM (lv_sub hl [0, 1, 2, 3, 4, 5, 6] rfl)
                · replace hf := it_f c13 hf
                  refine lv_aload_n hx hb dX11_wordAt_69 rfl (lv_at hl 0 rfl) ?_
                  refine g_get hC hM inX11_wordAt_X11 0 mE0 clX11 21 (by decide) tX11_wordAt_1 TX11_21 mV0_21 dX11_wordAt_70 ?_
                  refine lv_iload hx hb dX11_wordAt_73 (lv_at hl 4 rfl) ?_
                  refine lv_iload hx hb dX11_wordAt_75 (lv_at hl 7 rfl) ?_
                  refine lv_iadd hx hb dX11_wordAt_77 ?_
                  obtain ⟨h14, hf⟩ := ck_s hf
                  refine g_iald hC hM 15 mE15 h14 dX11_wordAt_78 ?_
                  refine lv_aload_n hx hb dX11_wordAt_79 rfl (lv_at hl 0 rfl) ?_
                  refine g_get hC hM inX11_wordAt_X11 0 mE0 clX11 0 (by decide) tX11_wordAt_2 TX11_0 mV0_0 dX11_wordAt_80 ?_
                  refine lv_iload_n hx hb dX11_wordAt_83 rfl (lv_at hl 1 rfl) ?_
                  refine lv_iload hx hb dX11_wordAt_84 (lv_at hl 7 rfl) ?_
                  refine lv_iadd hx hb dX11_wordAt_86 ?_
                  obtain ⟨h15, hf⟩ := ck_s hf
                  refine g_iald hC hM 1 mE1 h15 dX11_wordAt_87 ?_
                  refine jp_W (fun k96 : Int32 → Option (Int32) => ∀ (v16 : Int32), k96 v16 = some rz → ∀ (H : Heap) (locs : List Loc) (ls : Array Slot), gw D A s.heap H locs (mcells cs a S) → lv_has ls 8 [(0, .ref (a 0)), (1, .int p0), (2, .int p1), (3, .int v1), (4, .int v2), (5, .int v4), (7, .int v11)] → W p l e rmX11_wordAt s m args below meth c H locs 0 0 Q (F0 m 96 ls [.int v16])) ?_ ?_ hf
                  · intro v16 hf H locs ls hM hl
                    unfold j_X11_wordAt_96 at hf
                    refine lv_istore (lv' := [(6, .int v16), (0, .ref (a 0)), (1, .int p0), (2, .int p1), (3, .int v1), (4, .int v2), (5, .int v4), (7, .int v11)]) hx hb dX11_wordAt_96 hl (by decide) rfl (fun ls hl => ?_)
                    obtain ⟨v17, ev17⟩ : ∃ y : Int32, y = v11 + 1 := ⟨_, rfl⟩
                    replace hf := nm_q ev17 hf
                    refine lv_iinc (v := v17) (lv' := [(7, .int v17), (6, .int v16), (0, .ref (a 0)), (1, .int p0), (2, .int p1), (3, .int v1), (4, .int v2), (5, .int v4)]) hx hb dX11_wordAt_98 hl (k := 7) rfl (by rw [ev17]; rfl) (by decide) rfl (fun ls hl => ?_)
                    refine lv_goto (tgt := 57) hx hb dX11_wordAt_101 (by decide) ?_
                    exact hk57 _ _ hf _ _ _ hM (lv_sub hl [2, 3, 4, 5, 6, 7, 1, 0] rfl)
                  · intro k96 hk96 hf
                    refine lv_icmp_ne (tgt := 95) hx hb dX11_wordAt_88 (by decide) (fun c18 => ?_) (fun c18 => ?_)
                    · replace hf := it_f c18 hf
                      refine lv_iconst (v := 0) hx hb dX11_wordAt_95 (by decide) ?_
                      exact hk96 _ hf _ _ _ hM (lv_sub hl [0, 1, 2, 3, 4, 5, 7] rfl)
                    · replace hf := it_t c18 hf
                      refine lv_iconst (v := 1) hx hb dX11_wordAt_91 (by decide) ?_
                      refine lv_goto (tgt := 96) hx hb dX11_wordAt_92 (by decide) ?_
                      exact hk96 _ hf _ _ _ hM (lv_sub hl [0, 1, 2, 3, 4, 5, 7] rfl)
            · intro k57 hk57 hf
              exact hk57 _ _ hf _ _ _ hM (lv_sub hl [2, 3, 4, 5, 6, 7, 1, 0] rfl)
        · intro k52 hk52 hf
          refine lv_icmp_ne (tgt := 51) hx hb dX11_wordAt_44 (by decide) (fun c19 => ?_) (fun c19 => ?_)
          · replace hf := it_f c19 hf
            refine lv_iconst (v := 0) hx hb dX11_wordAt_51 (by decide) ?_
            exact hk52 _ hf _ _ _ hM hl
          · replace hf := it_t c19 hf
            refine lv_iconst (v := 1) hx hb dX11_wordAt_47 (by decide) ?_
            refine lv_goto (tgt := 52) hx hb dX11_wordAt_48 (by decide) ?_
            exact hk52 _ hf _ _ _ hM hl
      · intro k39 hk39 hf
        refine jl_W (fun k18 : Int32 → Option (Int32) => ∀ (v20 : Int32), k18 v20 = some rz → ∀ (H : Heap) (locs : List Loc) (ls : Array Slot), gw D A s.heap H locs (mcells cs a S) → lv_has ls 8 [(0, .ref (a 0)), (1, .int p0), (2, .int p1), (3, .int v1), (4, .int v2), (5, .int v20)] → W p l e rmX11_wordAt s m args below meth c H locs 0 0 Q (F0 m 18 ls [])) ?_ ?_ ?_ hf
        · intro v20 h; cases h
        · intro k18 hk18 v20 hf H locs ls hM hl
          unfold b_X11_wordAt_18 at hf
          refine lv_aload_n hx hb dX11_wordAt_18 rfl (lv_at hl 0 rfl) ?_
          refine g_get hC hM inX11_wordAt_X11 0 mE0 clX11 21 (by decide) tX11_wordAt_1 TX11_21 mV0_21 dX11_wordAt_19 ?_
          refine lv_iload hx hb dX11_wordAt_22 (lv_at hl 4 rfl) ?_
          refine lv_iload hx hb dX11_wordAt_24 (lv_at hl 5 rfl) ?_
          refine lv_iadd hx hb dX11_wordAt_26 ?_
          obtain ⟨h21, hf⟩ := ck_s hf
          refine g_iald hC hM 15 mE15 h21 dX11_wordAt_27 ?_
          refine lv_bipush (v := 32) hx hb dX11_wordAt_28 (by decide) ?_
          refine lv_icmp_eq (tgt := 39) hx hb dX11_wordAt_30 (by decide) (fun c22 => ?_) (fun c22 => ?_)
          · replace hf := it_t c22 hf
            exact hk39 _ hf _ _ _ hM hl
          · replace hf := it_f c22 hf
            obtain ⟨v23, ev23⟩ : ∃ y : Int32, y = v20 + 1 := ⟨_, rfl⟩
            replace hf := nm_q ev23 hf
            refine lv_iinc (v := v23) (lv' := [(5, .int v23), (0, .ref (a 0)), (1, .int p0), (2, .int p1), (3, .int v1), (4, .int v2)]) hx hb dX11_wordAt_33 hl (k := 5) rfl (by rw [ev23]; rfl) (by decide) rfl (fun ls hl => ?_)
            refine lv_goto (tgt := 18) hx hb dX11_wordAt_36 (by decide) ?_
            exact hk18 _ hf _ _ _ hM (lv_sub hl [1, 2, 3, 4, 5, 0] rfl)
        · intro k18 hk18 hf
          exact hk18 _ hf _ _ _ hM (lv_sub hl [1, 2, 3, 4, 5, 0] rfl)
  · intro k5 hk5 hf
    exact hk5 _ _ hf _ _ _ hM (lv_sub hl [2, 3, 4, 1, 0] rfl)

theorem hd_X11_isSmall : yX11_isSmall.cls = RX11 ∧ yX11_isSmall.cls ≠ "java/lang/invoke/MethodHandle" ∧ yX11_isSmall.cls ≠ "java/lang/invoke/VarHandle" ∧ (parseMethodDescriptor yX11_isSmall.desc).map (fun d => d.parameters.length) = some 1 := by decide +kernel
theorem tX11_isSmall_1 : Cond.fieldLink RX11 103 "WeatherTellerModel" "size" "I" ∈ wsX11_isSmall := List.mem_of_getElem? (i := 1) rfl
theorem inX11_isSmall_X11 : ∀ w ∈ u_ws RX11 TX11 50, w ∈ wsX11_isSmall := fun _ h => List.mem_cons_of_mem _ (List.mem_append_right _ h)
theorem tX11_isSmall_2 : Cond.fieldLink RX11 7 "WeatherTellerModel" "tape" "[I" ∈ wsX11_isSmall := List.mem_of_getElem? (i := 2) rfl
def f_X11_isSmall (N : Nat) (p0 : Int32) (S : St) : Option (Int32) :=
  z1 <|
  if (S.1 0 22) ≤ p0 then
    some 0
  else
    ck p0 1000 <|
    if (S.1 1 p0.toNatClampNeg) < 97 then
      some 0
    else
      ck p0 1000 <|
      if 122 < (S.1 1 p0.toNatClampNeg) then
        some 0
      else
        some 1
abbrev rmX11_isSmall : Room := { frames := 0, cells := 0, slots := 0, locals := 0 }
set_option maxRecDepth 100000 in
set_option maxHeartbeats 4000000 in
theorem c_X11_isSmall (l : Launch) (D : va_G) (cs : Nat → ClassId) (a : Nat → Nat) (N : Nat) (p0 : Int32) (S : St) (rz : Int32) (hf : f_X11_isSmall N p0 S = some rz) : gMi l yX11_isSmall wsX11_isSmall rmX11_isSmall D cs [.ref (a 0), .int p0] (mcells cs a S) rz (mcells cs a S) := by
  unfold f_X11_isSmall at hf
  obtain ⟨hrz, hf⟩ := z1_s hf
  refine gE_z (cc := cX11_isSmall) (maxL := 2) hrz (by decide) rfl (Nat.le_of_ble_eq_true rfl) ?_
  intro p e s m args below meth c A Q hC hA hQ hM ls hl
  obtain ⟨hx, hb, hml, hown, hts⟩ := hC.1
  have hl : lv_has ls 2 [(0, .ref (a 0)), (1, .int p0)] := hl
  refine lv_iload_n hx hb dX11_isSmall_0 rfl (lv_at hl 1 rfl) ?_
  refine lv_aload_n hx hb dX11_isSmall_1 rfl (lv_at hl 0 rfl) ?_
  refine g_get hC hM inX11_isSmall_X11 0 mE0 clX11 22 (by decide) tX11_isSmall_1 TX11_22 mV0_22 dX11_isSmall_2 ?_
  refine lv_icmp_ge (tgt := 34) hx hb dX11_isSmall_5 (by decide) (fun c1 => ?_) (fun c1 => ?_)
  · replace hf := it_t c1 hf
    refine lv_iconst (v := 0) hx hb dX11_isSmall_34 (by decide) ?_
    cases so_1 hf
    exact hQ _ _ _ _ _ _ dX11_isSmall_35 hM (by decide) (by decide)
  · replace hf := it_f c1 hf
    refine lv_aload_n hx hb dX11_isSmall_8 rfl (lv_at hl 0 rfl) ?_
    refine g_get hC hM inX11_isSmall_X11 0 mE0 clX11 0 (by decide) tX11_isSmall_2 TX11_0 mV0_0 dX11_isSmall_9 ?_
    refine lv_iload_n hx hb dX11_isSmall_12 rfl (lv_at hl 1 rfl) ?_
    obtain ⟨h2, hf⟩ := ck_s hf
    refine g_iald hC hM 1 mE1 h2 dX11_isSmall_13 ?_
    refine lv_bipush (v := 97) hx hb dX11_isSmall_14 (by decide) ?_
    refine lv_icmp_lt (tgt := 34) hx hb dX11_isSmall_16 (by decide) (fun c3 => ?_) (fun c3 => ?_)
    · replace hf := it_t c3 hf
      refine lv_iconst (v := 0) hx hb dX11_isSmall_34 (by decide) ?_
      cases so_1 hf
      exact hQ _ _ _ _ _ _ dX11_isSmall_35 hM (by decide) (by decide)
    · replace hf := it_f c3 hf
      refine lv_aload_n hx hb dX11_isSmall_19 rfl (lv_at hl 0 rfl) ?_
      refine g_get hC hM inX11_isSmall_X11 0 mE0 clX11 0 (by decide) tX11_isSmall_2 TX11_0 mV0_0 dX11_isSmall_20 ?_
      refine lv_iload_n hx hb dX11_isSmall_23 rfl (lv_at hl 1 rfl) ?_
      obtain ⟨h4, hf⟩ := ck_s hf
      refine g_iald hC hM 1 mE1 h4 dX11_isSmall_24 ?_
      refine lv_bipush (v := 122) hx hb dX11_isSmall_25 (by decide) ?_
      refine lv_icmp_gt (tgt := 34) hx hb dX11_isSmall_27 (by decide) (fun c5 => ?_) (fun c5 => ?_)
      · replace hf := it_t c5 hf
        refine lv_iconst (v := 0) hx hb dX11_isSmall_34 (by decide) ?_
        cases so_1 hf
        exact hQ _ _ _ _ _ _ dX11_isSmall_35 hM (by decide) (by decide)
      · replace hf := it_f c5 hf
        refine lv_iconst (v := 1) hx hb dX11_isSmall_30 (by decide) ?_
        refine lv_goto (tgt := 35) hx hb dX11_isSmall_31 (by decide) ?_
        cases so_1 hf
        exact hQ _ _ _ _ _ _ dX11_isSmall_35 hM (by decide) (by decide)

theorem hd_X11_isDigit : yX11_isDigit.cls = RX11 ∧ yX11_isDigit.cls ≠ "java/lang/invoke/MethodHandle" ∧ yX11_isDigit.cls ≠ "java/lang/invoke/VarHandle" ∧ (parseMethodDescriptor yX11_isDigit.desc).map (fun d => d.parameters.length) = some 1 := by decide +kernel
theorem tX11_isDigit_1 : Cond.fieldLink RX11 103 "WeatherTellerModel" "size" "I" ∈ wsX11_isDigit := List.mem_of_getElem? (i := 1) rfl
theorem inX11_isDigit_X11 : ∀ w ∈ u_ws RX11 TX11 50, w ∈ wsX11_isDigit := fun _ h => List.mem_cons_of_mem _ (List.mem_append_right _ h)
theorem tX11_isDigit_2 : Cond.fieldLink RX11 7 "WeatherTellerModel" "tape" "[I" ∈ wsX11_isDigit := List.mem_of_getElem? (i := 2) rfl
def f_X11_isDigit (N : Nat) (p0 : Int32) (S : St) : Option (Int32) :=
  z1 <|
  if (S.1 0 22) ≤ p0 then
    some 0
  else
    ck p0 1000 <|
    if (S.1 1 p0.toNatClampNeg) < 48 then
      some 0
    else
      ck p0 1000 <|
      if 57 < (S.1 1 p0.toNatClampNeg) then
        some 0
      else
        some 1
abbrev rmX11_isDigit : Room := { frames := 0, cells := 0, slots := 0, locals := 0 }
set_option maxRecDepth 100000 in
set_option maxHeartbeats 4000000 in
theorem c_X11_isDigit (l : Launch) (D : va_G) (cs : Nat → ClassId) (a : Nat → Nat) (N : Nat) (p0 : Int32) (S : St) (rz : Int32) (hf : f_X11_isDigit N p0 S = some rz) : gMi l yX11_isDigit wsX11_isDigit rmX11_isDigit D cs [.ref (a 0), .int p0] (mcells cs a S) rz (mcells cs a S) := by
  unfold f_X11_isDigit at hf
  obtain ⟨hrz, hf⟩ := z1_s hf
  refine gE_z (cc := cX11_isDigit) (maxL := 2) hrz (by decide) rfl (Nat.le_of_ble_eq_true rfl) ?_
  intro p e s m args below meth c A Q hC hA hQ hM ls hl
  obtain ⟨hx, hb, hml, hown, hts⟩ := hC.1
  have hl : lv_has ls 2 [(0, .ref (a 0)), (1, .int p0)] := hl
  refine lv_iload_n hx hb dX11_isDigit_0 rfl (lv_at hl 1 rfl) ?_
  refine lv_aload_n hx hb dX11_isDigit_1 rfl (lv_at hl 0 rfl) ?_
  refine g_get hC hM inX11_isDigit_X11 0 mE0 clX11 22 (by decide) tX11_isDigit_1 TX11_22 mV0_22 dX11_isDigit_2 ?_
  refine lv_icmp_ge (tgt := 34) hx hb dX11_isDigit_5 (by decide) (fun c1 => ?_) (fun c1 => ?_)
  · replace hf := it_t c1 hf
    refine lv_iconst (v := 0) hx hb dX11_isDigit_34 (by decide) ?_
    cases so_1 hf
    exact hQ _ _ _ _ _ _ dX11_isDigit_35 hM (by decide) (by decide)
  · replace hf := it_f c1 hf
    refine lv_aload_n hx hb dX11_isDigit_8 rfl (lv_at hl 0 rfl) ?_
    refine g_get hC hM inX11_isDigit_X11 0 mE0 clX11 0 (by decide) tX11_isDigit_2 TX11_0 mV0_0 dX11_isDigit_9 ?_
    refine lv_iload_n hx hb dX11_isDigit_12 rfl (lv_at hl 1 rfl) ?_
    obtain ⟨h2, hf⟩ := ck_s hf
    refine g_iald hC hM 1 mE1 h2 dX11_isDigit_13 ?_
    refine lv_bipush (v := 48) hx hb dX11_isDigit_14 (by decide) ?_
    refine lv_icmp_lt (tgt := 34) hx hb dX11_isDigit_16 (by decide) (fun c3 => ?_) (fun c3 => ?_)
    · replace hf := it_t c3 hf
      refine lv_iconst (v := 0) hx hb dX11_isDigit_34 (by decide) ?_
      cases so_1 hf
      exact hQ _ _ _ _ _ _ dX11_isDigit_35 hM (by decide) (by decide)
    · replace hf := it_f c3 hf
      refine lv_aload_n hx hb dX11_isDigit_19 rfl (lv_at hl 0 rfl) ?_
      refine g_get hC hM inX11_isDigit_X11 0 mE0 clX11 0 (by decide) tX11_isDigit_2 TX11_0 mV0_0 dX11_isDigit_20 ?_
      refine lv_iload_n hx hb dX11_isDigit_23 rfl (lv_at hl 1 rfl) ?_
      obtain ⟨h4, hf⟩ := ck_s hf
      refine g_iald hC hM 1 mE1 h4 dX11_isDigit_24 ?_
      refine lv_bipush (v := 57) hx hb dX11_isDigit_25 (by decide) ?_
      refine lv_icmp_gt (tgt := 34) hx hb dX11_isDigit_27 (by decide) (fun c5 => ?_) (fun c5 => ?_)
      · replace hf := it_t c5 hf
        refine lv_iconst (v := 0) hx hb dX11_isDigit_34 (by decide) ?_
        cases so_1 hf
        exact hQ _ _ _ _ _ _ dX11_isDigit_35 hM (by decide) (by decide)
      · replace hf := it_f c5 hf
        refine lv_iconst (v := 1) hx hb dX11_isDigit_30 (by decide) ?_
        refine lv_goto (tgt := 35) hx hb dX11_isDigit_31 (by decide) ?_
        cases so_1 hf
        exact hQ _ _ _ _ _ _ dX11_isDigit_35 hM (by decide) (by decide)

theorem hd_X11_take : yX11_take.cls = RX11 ∧ yX11_take.cls ≠ "java/lang/invoke/MethodHandle" ∧ yX11_take.cls ≠ "java/lang/invoke/VarHandle" ∧ (parseMethodDescriptor yX11_take.desc).map (fun d => d.parameters.length) = some 0 := by decide +kernel
theorem tX11_take_1 : Cond.fieldLink RX11 106 "WeatherTellerModel" "next" "I" ∈ wsX11_take := List.mem_of_getElem? (i := 1) rfl
theorem inX11_take_X11 : ∀ w ∈ u_ws RX11 TX11 50, w ∈ wsX11_take := fun _ h => List.mem_cons_of_mem _ (List.mem_append_right _ h)
theorem tX11_take_4 : Cond.fieldLink RX11 109 "WeatherTellerModel" "place" "I" ∈ wsX11_take := List.mem_of_getElem? (i := 4) rfl
theorem tX11_take_2 : Cond.fieldLink RX11 103 "WeatherTellerModel" "size" "I" ∈ wsX11_take := List.mem_of_getElem? (i := 2) rfl
theorem tX11_take_8 : Cond.fieldLink RX11 130 "WeatherTellerModel" "end" "I" ∈ wsX11_take := List.mem_of_getElem? (i := 8) rfl
theorem tX11_take_6 : Cond.fieldLink RX11 123 "WeatherTellerModel" "which" "I" ∈ wsX11_take := List.mem_of_getElem? (i := 6) rfl
theorem tX11_take_5 : Cond.fieldLink RX11 112 "WeatherTellerModel" "kind" "I" ∈ wsX11_take := List.mem_of_getElem? (i := 5) rfl
theorem tX11_take_3 : Cond.fieldLink RX11 7 "WeatherTellerModel" "tape" "[I" ∈ wsX11_take := List.mem_of_getElem? (i := 3) rfl
theorem tX11_take_7 : Cond.constant RX11 129 (99999) ∈ wsX11_take := List.mem_of_getElem? (i := 7) rfl
def j_X11_take_384 (S3 : St) : Option (St) :=
  nm (puI S3 0 27 (S3.1 0 23)) fun S4 =>
  some S4
def j_X11_take_150 (k384 : St → Option (St)) (S9 : St) (v10 : Int32) : Option (St) :=
  nm (puI S9 0 24 v10) fun S11 =>
  k384 S11
def j_X11_take_114 (N : Nat) (k384 : St → Option (St)) (S7 : St) : Option (St) :=
  bd (f_X11_wordAt N (S7.1 0 26) (S7.1 0 23) S7) fun v8 =>
  nm (puI S7 0 25 v8) fun S9 =>
  jp (j_X11_take_150 k384 S9) fun k150 =>
  if ((S9.1 0 23) - (S9.1 0 26)) ≤ 12 then
    k150 1
  else
    k150 4
def b_X11_take_90 (N : Nat) (k114 : St → Option (St)) (k90 : St → Option (St)) (S13 : St) : Option (St) :=
  bd (f_X11_isSmall N (S13.1 0 23) S13) fun v14 =>
  if v14 = 0 then
    k114 S13
  else
    nm (puI S13 0 23 ((S13.1 0 23) + 1)) fun S16 =>
    k90 S16
def j_X11_take_319 (k384 : St → Option (St)) (S24 : St) (v25 : Int32) : Option (St) :=
  nm (puI S24 0 25 v25) fun S26 =>
  k384 S26
def j_X11_take_302 (k384 : St → Option (St)) (v20 : Int32) (S24 : St) : Option (St) :=
  jp (j_X11_take_319 k384 S24) fun k319 =>
  if v20 = 0 then
    k319 (S24.1 0 25)
  else
    k319 (-(S24.1 0 25))
def j_X11_take_286 (S28 : St) (k238 : St → Option (St)) (v31 : Int32) : Option (St) :=
  nm (puI S28 0 25 v31) fun S32 =>
  nm (puI S32 0 23 ((S32.1 0 23) + 1)) fun S33 =>
  k238 S33
def b_X11_take_238 (N : Nat) (k302 : St → Option (St)) (k238 : St → Option (St)) (S28 : St) : Option (St) :=
  bd (f_X11_isDigit N (S28.1 0 23) S28) fun v29 =>
  if v29 = 0 then
    k302 S28
  else
    jp (j_X11_take_286 S28 k238) fun k286 =>
    if (S28.1 0 25) ≤ 99999 then
      ck (S28.1 0 23) 1000 <|
      k286 (((10 * (S28.1 0 25)) + (S28.1 1 (S28.1 0 23).toNatClampNeg)) - 48)
    else
      k286 (S28.1 0 25)
def j_X11_take_228 (N : Nat) (k384 : St → Option (St)) (v20 : Int32) (S21 : St) : Option (St) :=
  nm (puI S21 0 24 2) fun S22 =>
  nm (puI S22 0 25 0) fun S23 =>
  jp (j_X11_take_302 k384 v20) fun k302 =>
  jp (lp (fun _ => none) (b_X11_take_238 N k302) N) fun k238 =>
  k238 S23
def j_X11_take_213 (N : Nat) (S2 : St) (k384 : St → Option (St)) (v20 : Int32) : Option (St) :=
  jp (j_X11_take_228 N k384 v20) fun k228 =>
  if v20 = 0 then
    k228 S2
  else
    nm (puI S2 0 23 ((S2.1 0 23) + 1)) fun S37 =>
    k228 S37
def j_X11_take_194 (N : Nat) (S2 : St) (k384 : St → Option (St))  : Option (St) :=
  ck (S2.1 0 23) 1000 <|
  jp (j_X11_take_213 N S2 k384) fun k213 =>
  if (S2.1 1 (S2.1 0 23).toNatClampNeg) = 45 then
    k213 1
  else
    k213 0
def j_X11_take_381 (k384 : St → Option (St)) (S43 : St) (v44 : Int32) : Option (St) :=
  nm (puI S43 0 24 v44) fun S45 =>
  k384 S45
def j_X11_take_376 (k381 : Int32 → Option (St))  : Option (St) :=
  k381 3
def j_X11_take_325 (S2 : St) (k384 : St → Option (St))  : Option (St) :=
  ck (S2.1 0 23) 1000 <|
  nm (puI S2 0 25 (S2.1 1 (S2.1 0 23).toNatClampNeg)) fun S42 =>
  nm (puI S42 0 23 ((S42.1 0 23) + 1)) fun S43 =>
  jp (j_X11_take_381 k384 S43) fun k381 =>
  jp (j_X11_take_376 k381) fun k376 =>
  if (S43.1 0 25) = 61 then
    k376
  else
    if (S43.1 0 25) = 44 then
      k376
    else
      if (S43.1 0 25) = 59 then
        k376
      else
        k381 4
def j_X11_take_52 (N : Nat) (S1 : St) : Option (St) :=
  nm (puI S1 0 26 (S1.1 0 23)) fun S2 =>
  jp (j_X11_take_384) fun k384 =>
  if (S2.1 0 23) = (S2.1 0 22) then
    nm (puI S2 0 24 0) fun S52 =>
    k384 S52
  else
    bd (f_X11_isSmall N (S2.1 0 23) S2) fun v6 =>
    jp (j_X11_take_114 N k384) fun k114 =>
    jp (lp (fun _ => none) (b_X11_take_90 N k114) N) fun k90 =>
    if v6 = 0 then
      bd (f_X11_isDigit N (S2.1 0 23) S2) fun v18 =>
      jp (j_X11_take_194 N S2 k384) fun k194 =>
      if v18 = 0 then
        ck (S2.1 0 23) 1000 <|
        jp (j_X11_take_325 S2 k384) fun k325 =>
        if (S2.1 1 (S2.1 0 23).toNatClampNeg) = 45 then
          bd (f_X11_isDigit N ((S2.1 0 23) + 1) S2) fun v50 =>
          if v50 = 0 then
            k325
          else
            k194
        else
          k325
      else
        k194
    else
      k90 S2
def j_X11_take_39 (S53 : St) (k0 : St → Option (St))  : Option (St) :=
  nm (puI S53 0 23 ((S53.1 0 23) + 1)) fun S56 =>
  k0 S56
def b_X11_take_0 (k52 : St → Option (St)) (k0 : St → Option (St)) (S53 : St) : Option (St) :=
  if (S53.1 0 22) ≤ (S53.1 0 23) then
    k52 S53
  else
    ck (S53.1 0 23) 1000 <|
    jp (j_X11_take_39 S53 k0) fun k39 =>
    if (S53.1 1 (S53.1 0 23).toNatClampNeg) = 10 then
      k39
    else
      ck (S53.1 0 23) 1000 <|
      if (S53.1 1 (S53.1 0 23).toNatClampNeg) = 32 then
        k39
      else
        k52 S53
def f_X11_take (N : Nat)  (S : St) : Option (St) :=
  jp (j_X11_take_52 N) fun k52 =>
  jp (lp (fun _ => none) (b_X11_take_0 k52) N) fun k0 =>
  k0 S
abbrev rmX11_take : Room := { frames := 1, cells := 0, slots := 0, locals := 27 }
set_option maxRecDepth 100000 in
set_option maxHeartbeats 4000000 in
theorem c_X11_take (l : Launch) (D : va_G) (cs : Nat → ClassId) (a : Nat → Nat) (N : Nat) (S : St) (Sz : St) (hf : f_X11_take N S = some Sz) : gMv l yX11_take wsX11_take rmX11_take D cs [.ref (a 0)] (mcells cs a S) (mcells cs a Sz) := by
  unfold f_X11_take at hf
  refine gE_v (cc := cX11_take) (maxL := 2) (by decide) rfl (Nat.le_of_ble_eq_true rfl) ?_
  intro p e s m args below meth c A Q hC hA hQ hM ls hl
  obtain ⟨hx, hb, hml, hown, hts⟩ := hC.1
  have hl : lv_has ls 2 [(0, .ref (a 0))] := hl
  refine jp_W (fun k52 : St → Option (St) => ∀ (S1 : St), k52 S1 = some Sz → ∀ (H : Heap) (locs : List Loc) (ls : Array Slot), gw D A s.heap H locs (mcells cs a S1) → lv_has ls 2 [(0, .ref (a 0))] → W p l e rmX11_take s m args below meth c H locs 0 0 Q (F0 m 52 ls [])) ?_ ?_ hf
  · intro S1 hf H locs ls hM hl
    unfold j_X11_take_52 at hf
    refine lv_aload_n hx hb dX11_take_52 rfl (lv_at hl 0 rfl) ?_
    refine lv_aload_n hx hb dX11_take_53 rfl (lv_at hl 0 rfl) ?_
    refine g_get hC hM inX11_take_X11 0 mE0 clX11 23 (by decide) tX11_take_1 TX11_23 mV0_23 dX11_take_54 ?_
    refine g_put hC hM inX11_take_X11 tyX11_ok nmX11 0 mE0 clX11 26 (by decide) tX11_take_4 TX11_26 tyX11_26 rfl rfl (by rw [mL0]; decide) mP0_26 dX11_take_57 (fun H locs hM => ?_)
    obtain ⟨S2, hf, hM⟩ := mnm hf hM
    refine lv_aload_n hx hb dX11_take_60 rfl (lv_at hl 0 rfl) ?_
    refine g_get hC hM inX11_take_X11 0 mE0 clX11 23 (by decide) tX11_take_1 TX11_23 mV0_23 dX11_take_61 ?_
    refine lv_aload_n hx hb dX11_take_64 rfl (lv_at hl 0 rfl) ?_
    refine g_get hC hM inX11_take_X11 0 mE0 clX11 22 (by decide) tX11_take_2 TX11_22 mV0_22 dX11_take_65 ?_
    refine jp_W (fun k384 : St → Option (St) => ∀ (S3 : St), k384 S3 = some Sz → ∀ (H : Heap) (locs : List Loc) (ls : Array Slot), gw D A s.heap H locs (mcells cs a S3) → lv_has ls 2 [(0, .ref (a 0))] → W p l e rmX11_take s m args below meth c H locs 0 0 Q (F0 m 384 ls [])) ?_ ?_ hf
    · intro S3 hf H locs ls hM hl
      unfold j_X11_take_384 at hf
      refine lv_aload_n hx hb dX11_take_384 rfl (lv_at hl 0 rfl) ?_
      refine lv_aload_n hx hb dX11_take_385 rfl (lv_at hl 0 rfl) ?_
      refine g_get hC hM inX11_take_X11 0 mE0 clX11 23 (by decide) tX11_take_1 TX11_23 mV0_23 dX11_take_386 ?_
      refine g_put hC hM inX11_take_X11 tyX11_ok nmX11 0 mE0 clX11 27 (by decide) tX11_take_8 TX11_27 tyX11_27 rfl rfl (by rw [mL0]; decide) mP0_27 dX11_take_389 (fun H locs hM => ?_)
      obtain ⟨S4, hf, hM⟩ := mnm hf hM
      cases so_1 hf
      exact hQ _ _ _ _ _ _ dX11_take_392 hM (by decide) (by decide)
    · intro k384 hk384 hf
      refine lv_icmp_ne (tgt := 79) hx hb dX11_take_68 (by decide) (fun c5 => ?_) (fun c5 => ?_)
      · replace hf := it_f c5 hf
        refine lv_aload_n hx hb dX11_take_79 rfl (lv_at hl 0 rfl) ?_
        refine lv_aload_n hx hb dX11_take_80 rfl (lv_at hl 0 rfl) ?_
        refine g_get hC hM inX11_take_X11 0 mE0 clX11 23 (by decide) tX11_take_1 TX11_23 mV0_23 dX11_take_81 ?_
        obtain ⟨v6, hc, hf⟩ := bd_s hf
        refine gV_i hC hM hA hl.1 [.int (S2.1 0 23)] [] (c_X11_isSmall l D cs a N (S2.1 0 23) S2 v6 hc) gX11_take_X11_isSmall rfl hd_X11_isSmall ⟨by decide, by decide⟩ 0 11 clX11 rfl mE0 (Nat.le_of_ble_eq_true rfl) dX11_take_84 rfl ⟨by decide, by decide⟩ (fun H locs hM => ?_)
        refine jp_W (fun k114 : St → Option (St) => ∀ (S7 : St), k114 S7 = some Sz → ∀ (H : Heap) (locs : List Loc) (ls : Array Slot), gw D A s.heap H locs (mcells cs a S7) → lv_has ls 2 [(0, .ref (a 0))] → W p l e rmX11_take s m args below meth c H locs 0 0 Q (F0 m 114 ls [])) ?_ ?_ hf
        · intro S7 hf H locs ls hM hl
          unfold j_X11_take_114 at hf
          refine lv_aload_n hx hb dX11_take_114 rfl (lv_at hl 0 rfl) ?_
          refine lv_aload_n hx hb dX11_take_115 rfl (lv_at hl 0 rfl) ?_
          refine lv_aload_n hx hb dX11_take_116 rfl (lv_at hl 0 rfl) ?_
          refine g_get hC hM inX11_take_X11 0 mE0 clX11 26 (by decide) tX11_take_4 TX11_26 mV0_26 dX11_take_117 ?_
          refine lv_aload_n hx hb dX11_take_120 rfl (lv_at hl 0 rfl) ?_
          refine g_get hC hM inX11_take_X11 0 mE0 clX11 23 (by decide) tX11_take_1 TX11_23 mV0_23 dX11_take_121 ?_
          obtain ⟨v8, hc, hf⟩ := bd_s hf
          refine gV_i hC hM hA hl.1 [.int (S7.1 0 26), .int (S7.1 0 23)] [.ref (a 0)] (c_X11_wordAt l D cs a N (S7.1 0 26) (S7.1 0 23) S7 v8 hc) gX11_take_X11_wordAt rfl hd_X11_wordAt ⟨by decide, by decide⟩ 0 11 clX11 rfl mE0 (Nat.le_of_ble_eq_true rfl) dX11_take_124 rfl ⟨by decide, by decide⟩ (fun H locs hM => ?_)
          refine g_put hC hM inX11_take_X11 tyX11_ok nmX11 0 mE0 clX11 25 (by decide) tX11_take_6 TX11_25 tyX11_25 rfl rfl (by rw [mL0]; decide) mP0_25 dX11_take_127 (fun H locs hM => ?_)
          obtain ⟨S9, hf, hM⟩ := mnm hf hM
          refine lv_aload_n hx hb dX11_take_130 rfl (lv_at hl 0 rfl) ?_
          refine lv_aload_n hx hb dX11_take_131 rfl (lv_at hl 0 rfl) ?_
          refine g_get hC hM inX11_take_X11 0 mE0 clX11 23 (by decide) tX11_take_1 TX11_23 mV0_23 dX11_take_132 ?_
          refine lv_aload_n hx hb dX11_take_135 rfl (lv_at hl 0 rfl) ?_
          refine g_get hC hM inX11_take_X11 0 mE0 clX11 26 (by decide) tX11_take_4 TX11_26 mV0_26 dX11_take_136 ?_
          refine lv_isub hx hb dX11_take_139 ?_
          refine lv_bipush (v := 12) hx hb dX11_take_140 (by decide) ?_
          refine jp_W (fun k150 : Int32 → Option (St) => ∀ (v10 : Int32), k150 v10 = some Sz → ∀ (H : Heap) (locs : List Loc) (ls : Array Slot), gw D A s.heap H locs (mcells cs a S9) → lv_has ls 2 [(0, .ref (a 0))] → W p l e rmX11_take s m args below meth c H locs 0 0 Q (F0 m 150 ls [.int v10, .ref (a 0)])) ?_ ?_ hf
          · intro v10 hf H locs ls hM hl
            unfold j_X11_take_150 at hf
            refine g_put hC hM inX11_take_X11 tyX11_ok nmX11 0 mE0 clX11 24 (by decide) tX11_take_5 TX11_24 tyX11_24 rfl rfl (by rw [mL0]; decide) mP0_24 dX11_take_150 (fun H locs hM => ?_)
            obtain ⟨S11, hf, hM⟩ := mnm hf hM
            refine lv_goto (tgt := 384) hx hb dX11_take_153 (by decide) ?_
            exact hk384 _ hf _ _ _ hM hl
          · intro k150 hk150 hf
            refine lv_icmp_le (tgt := 149) hx hb dX11_take_142 (by decide) (fun c12 => ?_) (fun c12 => ?_)
            · replace hf := it_t c12 hf
              refine lv_iconst (v := 1) hx hb dX11_take_149 (by decide) ?_
              exact hk150 _ hf _ _ _ hM hl
            · replace hf := it_f c12 hf
              refine lv_iconst (v := 4) hx hb dX11_take_145 (by decide) ?_
              refine lv_goto (tgt := 150) hx hb dX11_take_146 (by decide) ?_
              exact hk150 _ hf _ _ _ hM hl
        · intro k114 hk114 hf
          refine jl_W (fun k90 : St → Option (St) => ∀ (S13 : St), k90 S13 = some Sz → ∀ (H : Heap) (locs : List Loc) (ls : Array Slot), gw D A s.heap H locs (mcells cs a S13) → lv_has ls 2 [(0, .ref (a 0))] → W p l e rmX11_take s m args below meth c H locs 0 0 Q (F0 m 90 ls [])) ?_ ?_ ?_ hf
          · intro S13 h; cases h
          · intro k90 hk90 S13 hf H locs ls hM hl
            unfold b_X11_take_90 at hf
            refine lv_aload_n hx hb dX11_take_90 rfl (lv_at hl 0 rfl) ?_
            refine lv_aload_n hx hb dX11_take_91 rfl (lv_at hl 0 rfl) ?_
            refine g_get hC hM inX11_take_X11 0 mE0 clX11 23 (by decide) tX11_take_1 TX11_23 mV0_23 dX11_take_92 ?_
            obtain ⟨v14, hc, hf⟩ := bd_s hf
            refine gV_i hC hM hA hl.1 [.int (S13.1 0 23)] [] (c_X11_isSmall l D cs a N (S13.1 0 23) S13 v14 hc) gX11_take_X11_isSmall rfl hd_X11_isSmall ⟨by decide, by decide⟩ 0 11 clX11 rfl mE0 (Nat.le_of_ble_eq_true rfl) dX11_take_95 rfl ⟨by decide, by decide⟩ (fun H locs hM => ?_)
            refine lv_if_eq (tgt := 114) hx hb dX11_take_98 (by decide) (fun c15 => ?_) (fun c15 => ?_)
            · replace hf := it_t c15 hf
              exact hk114 _ hf _ _ _ hM hl
            · replace hf := it_f c15 hf
              refine lv_aload_n hx hb dX11_take_101 rfl (lv_at hl 0 rfl) ?_
              refine lv_dup hx hb dX11_take_102 rfl ?_
              refine g_get hC hM inX11_take_X11 0 mE0 clX11 23 (by decide) tX11_take_1 TX11_23 mV0_23 dX11_take_103 ?_
              refine lv_iconst (v := 1) hx hb dX11_take_106 (by decide) ?_
              refine lv_iadd hx hb dX11_take_107 ?_
              refine g_put hC hM inX11_take_X11 tyX11_ok nmX11 0 mE0 clX11 23 (by decide) tX11_take_1 TX11_23 tyX11_23 rfl rfl (by rw [mL0]; decide) mP0_23 dX11_take_108 (fun H locs hM => ?_)
              obtain ⟨S16, hf, hM⟩ := mnm hf hM
              refine lv_goto (tgt := 90) hx hb dX11_take_111 (by decide) ?_
              exact hk90 _ hf _ _ _ hM hl
          · intro k90 hk90 hf
            refine lv_if_eq (tgt := 156) hx hb dX11_take_87 (by decide) (fun c17 => ?_) (fun c17 => ?_)
            · replace hf := it_t c17 hf
              refine lv_aload_n hx hb dX11_take_156 rfl (lv_at hl 0 rfl) ?_
              refine lv_aload_n hx hb dX11_take_157 rfl (lv_at hl 0 rfl) ?_
              refine g_get hC hM inX11_take_X11 0 mE0 clX11 23 (by decide) tX11_take_1 TX11_23 mV0_23 dX11_take_158 ?_
              obtain ⟨v18, hc, hf⟩ := bd_s hf
              refine gV_i hC hM hA hl.1 [.int (S2.1 0 23)] [] (c_X11_isDigit l D cs a N (S2.1 0 23) S2 v18 hc) gX11_take_X11_isDigit rfl hd_X11_isDigit ⟨by decide, by decide⟩ 0 11 clX11 rfl mE0 (Nat.le_of_ble_eq_true rfl) dX11_take_161 rfl ⟨by decide, by decide⟩ (fun H locs hM => ?_)
              refine jp_W (fun k194 : Option (St) => k194 = some Sz → ∀ (H : Heap) (locs : List Loc) (ls : Array Slot), gw D A s.heap H locs (mcells cs a S2) → lv_has ls 2 [(0, .ref (a 0))] → W p l e rmX11_take s m args below meth c H locs 0 0 Q (F0 m 194 ls [])) ?_ ?_ hf
              · intro  hf H locs ls hM hl
                unfold j_X11_take_194 at hf
                refine lv_aload_n hx hb dX11_take_194 rfl (lv_at hl 0 rfl) ?_
                refine g_get hC hM inX11_take_X11 0 mE0 clX11 0 (by decide) tX11_take_3 TX11_0 mV0_0 dX11_take_195 ?_
                refine lv_aload_n hx hb dX11_take_198 rfl (lv_at hl 0 rfl) ?_
                refine g_get hC hM inX11_take_X11 0 mE0 clX11 23 (by decide) tX11_take_1 TX11_23 mV0_23 dX11_take_199 ?_
                obtain ⟨h19, hf⟩ := ck_s hf
                refine g_iald hC hM 1 mE1 h19 dX11_take_202 ?_
                refine lv_bipush (v := 45) hx hb dX11_take_203 (by decide) ?_
                refine jp_W (fun k213 : Int32 → Option (St) => ∀ (v20 : Int32), k213 v20 = some Sz → ∀ (H : Heap) (locs : List Loc) (ls : Array Slot), gw D A s.heap H locs (mcells cs a S2) → lv_has ls 2 [(0, .ref (a 0))] → W p l e rmX11_take s m args below meth c H locs 0 0 Q (F0 m 213 ls [.int v20])) ?_ ?_ hf
                · intro v20 hf H locs ls hM hl
                  unfold j_X11_take_213 at hf
                  refine lv_istore_n (lv' := [(1, .int v20), (0, .ref (a 0))]) hx hb dX11_take_213 rfl hl (by decide) rfl (fun ls hl => ?_)
                  refine lv_iload_n hx hb dX11_take_214 rfl (lv_at hl 0 rfl) ?_
                  refine jp_W (fun k228 : St → Option (St) => ∀ (S21 : St), k228 S21 = some Sz → ∀ (H : Heap) (locs : List Loc) (ls : Array Slot), gw D A s.heap H locs (mcells cs a S21) → lv_has ls 2 [(0, .ref (a 0)), (1, .int v20)] → W p l e rmX11_take s m args below meth c H locs 0 0 Q (F0 m 228 ls [])) ?_ ?_ hf
                  · intro S21 hf H locs ls hM hl
                    unfold j_X11_take_228 at hf
                    refine lv_aload_n hx hb dX11_take_228 rfl (lv_at hl 0 rfl) ?_
                    refine lv_iconst (v := 2) hx hb dX11_take_229 (by decide) ?_
                    refine g_put hC hM inX11_take_X11 tyX11_ok nmX11 0 mE0 clX11 24 (by decide) tX11_take_5 TX11_24 tyX11_24 rfl rfl (by rw [mL0]; decide) mP0_24 dX11_take_230 (fun H locs hM => ?_)
                    obtain ⟨S22, hf, hM⟩ := mnm hf hM
                    refine lv_aload_n hx hb dX11_take_233 rfl (lv_at hl 0 rfl) ?_
                    refine lv_iconst (v := 0) hx hb dX11_take_234 (by decide) ?_
                    refine g_put hC hM inX11_take_X11 tyX11_ok nmX11 0 mE0 clX11 25 (by decide) tX11_take_6 TX11_25 tyX11_25 rfl rfl (by rw [mL0]; decide) mP0_25 dX11_take_235 (fun H locs hM => ?_)
                    obtain ⟨S23, hf, hM⟩ := mnm hf hM
                    refine jp_W (fun k302 : St → Option (St) => ∀ (S24 : St), k302 S24 = some Sz → ∀ (H : Heap) (locs : List Loc) (ls : Array Slot), gw D A s.heap H locs (mcells cs a S24) → lv_has ls 2 [(0, .ref (a 0)), (1, .int v20)] → W p l e rmX11_take s m args below meth c H locs 0 0 Q (F0 m 302 ls [])) ?_ ?_ hf
                    · intro S24 hf H locs ls hM hl
                      unfold j_X11_take_302 at hf
                      refine lv_aload_n hx hb dX11_take_302 rfl (lv_at hl 0 rfl) ?_
                      refine lv_iload_n hx hb dX11_take_303 rfl (lv_at hl 1 rfl) ?_
                      refine jp_W (fun k319 : Int32 → Option (St) => ∀ (v25 : Int32), k319 v25 = some Sz → ∀ (H : Heap) (locs : List Loc) (ls : Array Slot), gw D A s.heap H locs (mcells cs a S24) → lv_has ls 2 [(0, .ref (a 0))] → W p l e rmX11_take s m args below meth c H locs 0 0 Q (F0 m 319 ls [.int v25, .ref (a 0)])) ?_ ?_ hf
                      · intro v25 hf H locs ls hM hl
                        unfold j_X11_take_319 at hf
                        refine g_put hC hM inX11_take_X11 tyX11_ok nmX11 0 mE0 clX11 25 (by decide) tX11_take_6 TX11_25 tyX11_25 rfl rfl (by rw [mL0]; decide) mP0_25 dX11_take_319 (fun H locs hM => ?_)
                        obtain ⟨S26, hf, hM⟩ := mnm hf hM
                        refine lv_goto (tgt := 384) hx hb dX11_take_322 (by decide) ?_
                        exact hk384 _ hf _ _ _ hM hl
                      · intro k319 hk319 hf
                        refine lv_if_eq (tgt := 315) hx hb dX11_take_304 (by decide) (fun c27 => ?_) (fun c27 => ?_)
                        · replace hf := it_t c27 hf
                          refine lv_aload_n hx hb dX11_take_315 rfl (lv_at hl 0 rfl) ?_
                          refine g_get hC hM inX11_take_X11 0 mE0 clX11 25 (by decide) tX11_take_6 TX11_25 mV0_25 dX11_take_316 ?_
                          exact hk319 _ hf _ _ _ hM (lv_sub hl [0] rfl)
                        · replace hf := it_f c27 hf
                          refine lv_aload_n hx hb dX11_take_307 rfl (lv_at hl 0 rfl) ?_
                          refine g_get hC hM inX11_take_X11 0 mE0 clX11 25 (by decide) tX11_take_6 TX11_25 mV0_25 dX11_take_308 ?_
                          refine lv_ineg hx hb dX11_take_311 ?_
                          refine lv_goto (tgt := 319) hx hb dX11_take_312 (by decide) ?_
                          exact hk319 _ hf _ _ _ hM (lv_sub hl [0] rfl)
                    · intro k302 hk302 hf
                      refine jl_W (fun k238 : St → Option (St) => ∀ (S28 : St), k238 S28 = some Sz → ∀ (H : Heap) (locs : List Loc) (ls : Array Slot), gw D A s.heap H locs (mcells cs a S28) → lv_has ls 2 [(0, .ref (a 0)), (1, .int v20)] → W p l e rmX11_take s m args below meth c H locs 0 0 Q (F0 m 238 ls [])) ?_ ?_ ?_ hf
                      · intro S28 h; cases h
                      · intro k238 hk238 S28 hf H locs ls hM hl
                        unfold b_X11_take_238 at hf
                        refine lv_aload_n hx hb dX11_take_238 rfl (lv_at hl 0 rfl) ?_
                        refine lv_aload_n hx hb dX11_take_239 rfl (lv_at hl 0 rfl) ?_
                        refine g_get hC hM inX11_take_X11 0 mE0 clX11 23 (by decide) tX11_take_1 TX11_23 mV0_23 dX11_take_240 ?_
                        obtain ⟨v29, hc, hf⟩ := bd_s hf
                        refine gV_i hC hM hA hl.1 [.int (S28.1 0 23)] [] (c_X11_isDigit l D cs a N (S28.1 0 23) S28 v29 hc) gX11_take_X11_isDigit rfl hd_X11_isDigit ⟨by decide, by decide⟩ 0 11 clX11 rfl mE0 (Nat.le_of_ble_eq_true rfl) dX11_take_243 rfl ⟨by decide, by decide⟩ (fun H locs hM => ?_)
                        refine lv_if_eq (tgt := 302) hx hb dX11_take_246 (by decide) (fun c30 => ?_) (fun c30 => ?_)
                        · replace hf := it_t c30 hf
                          exact hk302 _ hf _ _ _ hM hl
                        · replace hf := it_f c30 hf
                          refine lv_aload_n hx hb dX11_take_249 rfl (lv_at hl 0 rfl) ?_
                          refine lv_aload_n hx hb dX11_take_250 rfl (lv_at hl 0 rfl) ?_
                          refine g_get hC hM inX11_take_X11 0 mE0 clX11 25 (by decide) tX11_take_6 TX11_25 mV0_25 dX11_take_251 ?_
                          refine lv_ldc hx hb hown (hts _ tX11_take_7) dX11_take_254 ?_
                          refine jp_W (fun k286 : Int32 → Option (St) => ∀ (v31 : Int32), k286 v31 = some Sz → ∀ (H : Heap) (locs : List Loc) (ls : Array Slot), gw D A s.heap H locs (mcells cs a S28) → lv_has ls 2 [(0, .ref (a 0)), (1, .int v20)] → W p l e rmX11_take s m args below meth c H locs 0 0 Q (F0 m 286 ls [.int v31, .ref (a 0)])) ?_ ?_ hf
                          · intro v31 hf H locs ls hM hl
                            unfold j_X11_take_286 at hf
                            refine g_put hC hM inX11_take_X11 tyX11_ok nmX11 0 mE0 clX11 25 (by decide) tX11_take_6 TX11_25 tyX11_25 rfl rfl (by rw [mL0]; decide) mP0_25 dX11_take_286 (fun H locs hM => ?_)
                            obtain ⟨S32, hf, hM⟩ := mnm hf hM
                            refine lv_aload_n hx hb dX11_take_289 rfl (lv_at hl 0 rfl) ?_
                            refine lv_dup hx hb dX11_take_290 rfl ?_
                            refine g_get hC hM inX11_take_X11 0 mE0 clX11 23 (by decide) tX11_take_1 TX11_23 mV0_23 dX11_take_291 ?_
                            refine lv_iconst (v := 1) hx hb dX11_take_294 (by decide) ?_
                            refine lv_iadd hx hb dX11_take_295 ?_
                            refine g_put hC hM inX11_take_X11 tyX11_ok nmX11 0 mE0 clX11 23 (by decide) tX11_take_1 TX11_23 tyX11_23 rfl rfl (by rw [mL0]; decide) mP0_23 dX11_take_296 (fun H locs hM => ?_)
                            obtain ⟨S33, hf, hM⟩ := mnm hf hM
                            refine lv_goto (tgt := 238) hx hb dX11_take_299 (by decide) ?_
                            exact hk238 _ hf _ _ _ hM hl
                          · intro k286 hk286 hf
                            refine lv_icmp_le (tgt := 266) hx hb dX11_take_256 (by decide) (fun c34 => ?_) (fun c34 => ?_)
                            · replace hf := it_t c34 hf
                              refine lv_bipush (v := 10) hx hb dX11_take_266 (by decide) ?_
                              refine lv_aload_n hx hb dX11_take_268 rfl (lv_at hl 0 rfl) ?_
                              refine g_get hC hM inX11_take_X11 0 mE0 clX11 25 (by decide) tX11_take_6 TX11_25 mV0_25 dX11_take_269 ?_
                              refine lv_imul hx hb dX11_take_272 ?_
                              refine lv_aload_n hx hb dX11_take_273 rfl (lv_at hl 0 rfl) ?_
                              refine g_get hC hM inX11_take_X11 0 mE0 clX11 0 (by decide) tX11_take_3 TX11_0 mV0_0 dX11_take_274 ?_
                              refine lv_aload_n hx hb dX11_take_277 rfl (lv_at hl 0 rfl) ?_
                              refine g_get hC hM inX11_take_X11 0 mE0 clX11 23 (by decide) tX11_take_1 TX11_23 mV0_23 dX11_take_278 ?_
                              obtain ⟨h35, hf⟩ := ck_s hf
                              refine g_iald hC hM 1 mE1 h35 dX11_take_281 ?_
                              refine lv_iadd hx hb dX11_take_282 ?_
                              refine lv_bipush (v := 48) hx hb dX11_take_283 (by decide) ?_
                              refine lv_isub hx hb dX11_take_285 ?_
                              exact hk286 _ hf _ _ _ hM hl
                            · replace hf := it_f c34 hf
                              refine lv_aload_n hx hb dX11_take_259 rfl (lv_at hl 0 rfl) ?_
                              refine g_get hC hM inX11_take_X11 0 mE0 clX11 25 (by decide) tX11_take_6 TX11_25 mV0_25 dX11_take_260 ?_
                              refine lv_goto (tgt := 286) hx hb dX11_take_263 (by decide) ?_
                              exact hk286 _ hf _ _ _ hM hl
                      · intro k238 hk238 hf
                        exact hk238 _ hf _ _ _ hM hl
                  · intro k228 hk228 hf
                    refine lv_if_eq (tgt := 228) hx hb dX11_take_215 (by decide) (fun c36 => ?_) (fun c36 => ?_)
                    · replace hf := it_t c36 hf
                      exact hk228 _ hf _ _ _ hM (lv_sub hl [1, 0] rfl)
                    · replace hf := it_f c36 hf
                      refine lv_aload_n hx hb dX11_take_218 rfl (lv_at hl 1 rfl) ?_
                      refine lv_dup hx hb dX11_take_219 rfl ?_
                      refine g_get hC hM inX11_take_X11 0 mE0 clX11 23 (by decide) tX11_take_1 TX11_23 mV0_23 dX11_take_220 ?_
                      refine lv_iconst (v := 1) hx hb dX11_take_223 (by decide) ?_
                      refine lv_iadd hx hb dX11_take_224 ?_
                      refine g_put hC hM inX11_take_X11 tyX11_ok nmX11 0 mE0 clX11 23 (by decide) tX11_take_1 TX11_23 tyX11_23 rfl rfl (by rw [mL0]; decide) mP0_23 dX11_take_225 (fun H locs hM => ?_)
                      obtain ⟨S37, hf, hM⟩ := mnm hf hM
                      exact hk228 _ hf _ _ _ hM (lv_sub hl [1, 0] rfl)
                · intro k213 hk213 hf
                  refine lv_icmp_ne (tgt := 212) hx hb dX11_take_205 (by decide) (fun c38 => ?_) (fun c38 => ?_)
                  · replace hf := it_f c38 hf
                    refine lv_iconst (v := 0) hx hb dX11_take_212 (by decide) ?_
                    exact hk213 _ hf _ _ _ hM hl
                  · replace hf := it_t c38 hf
                    refine lv_iconst (v := 1) hx hb dX11_take_208 (by decide) ?_
                    refine lv_goto (tgt := 213) hx hb dX11_take_209 (by decide) ?_
                    exact hk213 _ hf _ _ _ hM hl
              · intro k194 hk194 hf
                refine lv_if_ne (tgt := 194) hx hb dX11_take_164 (by decide) (fun c39 => ?_) (fun c39 => ?_)
                · replace hf := it_f c39 hf
                  exact hk194 hf _ _ _ hM hl
                · replace hf := it_t c39 hf
                  refine lv_aload_n hx hb dX11_take_167 rfl (lv_at hl 0 rfl) ?_
                  refine g_get hC hM inX11_take_X11 0 mE0 clX11 0 (by decide) tX11_take_3 TX11_0 mV0_0 dX11_take_168 ?_
                  refine lv_aload_n hx hb dX11_take_171 rfl (lv_at hl 0 rfl) ?_
                  refine g_get hC hM inX11_take_X11 0 mE0 clX11 23 (by decide) tX11_take_1 TX11_23 mV0_23 dX11_take_172 ?_
                  obtain ⟨h40, hf⟩ := ck_s hf
                  refine g_iald hC hM 1 mE1 h40 dX11_take_175 ?_
                  refine lv_bipush (v := 45) hx hb dX11_take_176 (by decide) ?_
                  refine jp_W (fun k325 : Option (St) => k325 = some Sz → ∀ (H : Heap) (locs : List Loc) (ls : Array Slot), gw D A s.heap H locs (mcells cs a S2) → lv_has ls 2 [(0, .ref (a 0))] → W p l e rmX11_take s m args below meth c H locs 0 0 Q (F0 m 325 ls [])) ?_ ?_ hf
                  · intro  hf H locs ls hM hl
                    unfold j_X11_take_325 at hf
                    refine lv_aload_n hx hb dX11_take_325 rfl (lv_at hl 0 rfl) ?_
                    refine lv_aload_n hx hb dX11_take_326 rfl (lv_at hl 0 rfl) ?_
                    refine g_get hC hM inX11_take_X11 0 mE0 clX11 0 (by decide) tX11_take_3 TX11_0 mV0_0 dX11_take_327 ?_
                    refine lv_aload_n hx hb dX11_take_330 rfl (lv_at hl 0 rfl) ?_
                    refine g_get hC hM inX11_take_X11 0 mE0 clX11 23 (by decide) tX11_take_1 TX11_23 mV0_23 dX11_take_331 ?_
                    obtain ⟨h41, hf⟩ := ck_s hf
                    refine g_iald hC hM 1 mE1 h41 dX11_take_334 ?_
                    refine g_put hC hM inX11_take_X11 tyX11_ok nmX11 0 mE0 clX11 25 (by decide) tX11_take_6 TX11_25 tyX11_25 rfl rfl (by rw [mL0]; decide) mP0_25 dX11_take_335 (fun H locs hM => ?_)
                    obtain ⟨S42, hf, hM⟩ := mnm hf hM
                    refine lv_aload_n hx hb dX11_take_338 rfl (lv_at hl 0 rfl) ?_
                    refine lv_dup hx hb dX11_take_339 rfl ?_
                    refine g_get hC hM inX11_take_X11 0 mE0 clX11 23 (by decide) tX11_take_1 TX11_23 mV0_23 dX11_take_340 ?_
                    refine lv_iconst (v := 1) hx hb dX11_take_343 (by decide) ?_
                    refine lv_iadd hx hb dX11_take_344 ?_
                    refine g_put hC hM inX11_take_X11 tyX11_ok nmX11 0 mE0 clX11 23 (by decide) tX11_take_1 TX11_23 tyX11_23 rfl rfl (by rw [mL0]; decide) mP0_23 dX11_take_345 (fun H locs hM => ?_)
                    obtain ⟨S43, hf, hM⟩ := mnm hf hM
                    refine lv_aload_n hx hb dX11_take_348 rfl (lv_at hl 0 rfl) ?_
                    refine lv_aload_n hx hb dX11_take_349 rfl (lv_at hl 0 rfl) ?_
                    refine g_get hC hM inX11_take_X11 0 mE0 clX11 25 (by decide) tX11_take_6 TX11_25 mV0_25 dX11_take_350 ?_
                    refine lv_bipush (v := 61) hx hb dX11_take_353 (by decide) ?_
                    refine jp_W (fun k381 : Int32 → Option (St) => ∀ (v44 : Int32), k381 v44 = some Sz → ∀ (H : Heap) (locs : List Loc) (ls : Array Slot), gw D A s.heap H locs (mcells cs a S43) → lv_has ls 2 [(0, .ref (a 0))] → W p l e rmX11_take s m args below meth c H locs 0 0 Q (F0 m 381 ls [.int v44, .ref (a 0)])) ?_ ?_ hf
                    · intro v44 hf H locs ls hM hl
                      unfold j_X11_take_381 at hf
                      refine g_put hC hM inX11_take_X11 tyX11_ok nmX11 0 mE0 clX11 24 (by decide) tX11_take_5 TX11_24 tyX11_24 rfl rfl (by rw [mL0]; decide) mP0_24 dX11_take_381 (fun H locs hM => ?_)
                      obtain ⟨S45, hf, hM⟩ := mnm hf hM
                      exact hk384 _ hf _ _ _ hM hl
                    · intro k381 hk381 hf
                      refine jp_W (fun k376 : Option (St) => k376 = some Sz → ∀ (H : Heap) (locs : List Loc) (ls : Array Slot), gw D A s.heap H locs (mcells cs a S43) → lv_has ls 2 [(0, .ref (a 0))] → W p l e rmX11_take s m args below meth c H locs 0 0 Q (F0 m 376 ls [.ref (a 0)])) ?_ ?_ hf
                      · intro  hf H locs ls hM hl
                        unfold j_X11_take_376 at hf
                        refine lv_iconst (v := 3) hx hb dX11_take_376 (by decide) ?_
                        refine lv_goto (tgt := 381) hx hb dX11_take_377 (by decide) ?_
                        exact hk381 _ hf _ _ _ hM hl
                      · intro k376 hk376 hf
                        refine lv_icmp_eq (tgt := 376) hx hb dX11_take_355 (by decide) (fun c46 => ?_) (fun c46 => ?_)
                        · replace hf := it_t c46 hf
                          exact hk376 hf _ _ _ hM hl
                        · replace hf := it_f c46 hf
                          refine lv_aload_n hx hb dX11_take_358 rfl (lv_at hl 0 rfl) ?_
                          refine g_get hC hM inX11_take_X11 0 mE0 clX11 25 (by decide) tX11_take_6 TX11_25 mV0_25 dX11_take_359 ?_
                          refine lv_bipush (v := 44) hx hb dX11_take_362 (by decide) ?_
                          refine lv_icmp_eq (tgt := 376) hx hb dX11_take_364 (by decide) (fun c47 => ?_) (fun c47 => ?_)
                          · replace hf := it_t c47 hf
                            exact hk376 hf _ _ _ hM hl
                          · replace hf := it_f c47 hf
                            refine lv_aload_n hx hb dX11_take_367 rfl (lv_at hl 0 rfl) ?_
                            refine g_get hC hM inX11_take_X11 0 mE0 clX11 25 (by decide) tX11_take_6 TX11_25 mV0_25 dX11_take_368 ?_
                            refine lv_bipush (v := 59) hx hb dX11_take_371 (by decide) ?_
                            refine lv_icmp_ne (tgt := 380) hx hb dX11_take_373 (by decide) (fun c48 => ?_) (fun c48 => ?_)
                            · replace hf := it_f c48 hf
                              refine lv_iconst (v := 4) hx hb dX11_take_380 (by decide) ?_
                              exact hk381 _ hf _ _ _ hM hl
                            · replace hf := it_t c48 hf
                              exact hk376 hf _ _ _ hM hl
                  · intro k325 hk325 hf
                    refine lv_icmp_ne (tgt := 325) hx hb dX11_take_178 (by decide) (fun c49 => ?_) (fun c49 => ?_)
                    · replace hf := it_f c49 hf
                      exact hk325 hf _ _ _ hM hl
                    · replace hf := it_t c49 hf
                      refine lv_aload_n hx hb dX11_take_181 rfl (lv_at hl 0 rfl) ?_
                      refine lv_aload_n hx hb dX11_take_182 rfl (lv_at hl 0 rfl) ?_
                      refine g_get hC hM inX11_take_X11 0 mE0 clX11 23 (by decide) tX11_take_1 TX11_23 mV0_23 dX11_take_183 ?_
                      refine lv_iconst (v := 1) hx hb dX11_take_186 (by decide) ?_
                      refine lv_iadd hx hb dX11_take_187 ?_
                      obtain ⟨v50, hc, hf⟩ := bd_s hf
                      refine gV_i hC hM hA hl.1 [.int ((S2.1 0 23) + 1)] [] (c_X11_isDigit l D cs a N ((S2.1 0 23) + 1) S2 v50 hc) gX11_take_X11_isDigit rfl hd_X11_isDigit ⟨by decide, by decide⟩ 0 11 clX11 rfl mE0 (Nat.le_of_ble_eq_true rfl) dX11_take_188 rfl ⟨by decide, by decide⟩ (fun H locs hM => ?_)
                      refine lv_if_eq (tgt := 325) hx hb dX11_take_191 (by decide) (fun c51 => ?_) (fun c51 => ?_)
                      · replace hf := it_t c51 hf
                        exact hk325 hf _ _ _ hM hl
                      · replace hf := it_f c51 hf
                        exact hk194 hf _ _ _ hM hl
            · replace hf := it_f c17 hf
              exact hk90 _ hf _ _ _ hM hl
      · replace hf := it_t c5 hf
        refine lv_aload_n hx hb dX11_take_71 rfl (lv_at hl 0 rfl) ?_
        refine lv_iconst (v := 0) hx hb dX11_take_72 (by decide) ?_
        refine g_put hC hM inX11_take_X11 tyX11_ok nmX11 0 mE0 clX11 24 (by decide) tX11_take_5 TX11_24 tyX11_24 rfl rfl (by rw [mL0]; decide) mP0_24 dX11_take_73 (fun H locs hM => ?_)
        obtain ⟨S52, hf, hM⟩ := mnm hf hM
        refine lv_goto (tgt := 384) hx hb dX11_take_76 (by decide) ?_
        exact hk384 _ hf _ _ _ hM hl
  · intro k52 hk52 hf
    refine jl_W (fun k0 : St → Option (St) => ∀ (S53 : St), k0 S53 = some Sz → ∀ (H : Heap) (locs : List Loc) (ls : Array Slot), gw D A s.heap H locs (mcells cs a S53) → lv_has ls 2 [(0, .ref (a 0))] → W p l e rmX11_take s m args below meth c H locs 0 0 Q (F0 m 0 ls [])) ?_ ?_ ?_ hf
    · intro S53 h; cases h
    · intro k0 hk0 S53 hf H locs ls hM hl
      unfold b_X11_take_0 at hf
      refine lv_aload_n hx hb dX11_take_0 rfl (lv_at hl 0 rfl) ?_
      refine g_get hC hM inX11_take_X11 0 mE0 clX11 23 (by decide) tX11_take_1 TX11_23 mV0_23 dX11_take_1 ?_
      refine lv_aload_n hx hb dX11_take_4 rfl (lv_at hl 0 rfl) ?_
      refine g_get hC hM inX11_take_X11 0 mE0 clX11 22 (by decide) tX11_take_2 TX11_22 mV0_22 dX11_take_5 ?_
      refine lv_icmp_ge (tgt := 52) hx hb dX11_take_8 (by decide) (fun c54 => ?_) (fun c54 => ?_)
      · replace hf := it_t c54 hf
        exact hk52 _ hf _ _ _ hM hl
      · replace hf := it_f c54 hf
        refine lv_aload_n hx hb dX11_take_11 rfl (lv_at hl 0 rfl) ?_
        refine g_get hC hM inX11_take_X11 0 mE0 clX11 0 (by decide) tX11_take_3 TX11_0 mV0_0 dX11_take_12 ?_
        refine lv_aload_n hx hb dX11_take_15 rfl (lv_at hl 0 rfl) ?_
        refine g_get hC hM inX11_take_X11 0 mE0 clX11 23 (by decide) tX11_take_1 TX11_23 mV0_23 dX11_take_16 ?_
        obtain ⟨h55, hf⟩ := ck_s hf
        refine g_iald hC hM 1 mE1 h55 dX11_take_19 ?_
        refine lv_bipush (v := 10) hx hb dX11_take_20 (by decide) ?_
        refine jp_W (fun k39 : Option (St) => k39 = some Sz → ∀ (H : Heap) (locs : List Loc) (ls : Array Slot), gw D A s.heap H locs (mcells cs a S53) → lv_has ls 2 [(0, .ref (a 0))] → W p l e rmX11_take s m args below meth c H locs 0 0 Q (F0 m 39 ls [])) ?_ ?_ hf
        · intro  hf H locs ls hM hl
          unfold j_X11_take_39 at hf
          refine lv_aload_n hx hb dX11_take_39 rfl (lv_at hl 0 rfl) ?_
          refine lv_dup hx hb dX11_take_40 rfl ?_
          refine g_get hC hM inX11_take_X11 0 mE0 clX11 23 (by decide) tX11_take_1 TX11_23 mV0_23 dX11_take_41 ?_
          refine lv_iconst (v := 1) hx hb dX11_take_44 (by decide) ?_
          refine lv_iadd hx hb dX11_take_45 ?_
          refine g_put hC hM inX11_take_X11 tyX11_ok nmX11 0 mE0 clX11 23 (by decide) tX11_take_1 TX11_23 tyX11_23 rfl rfl (by rw [mL0]; decide) mP0_23 dX11_take_46 (fun H locs hM => ?_)
          obtain ⟨S56, hf, hM⟩ := mnm hf hM
          refine lv_goto (tgt := 0) hx hb dX11_take_49 (by decide) ?_
          exact hk0 _ hf _ _ _ hM hl
        · intro k39 hk39 hf
          refine lv_icmp_eq (tgt := 39) hx hb dX11_take_22 (by decide) (fun c57 => ?_) (fun c57 => ?_)
          · replace hf := it_t c57 hf
            exact hk39 hf _ _ _ hM hl
          · replace hf := it_f c57 hf
            refine lv_aload_n hx hb dX11_take_25 rfl (lv_at hl 0 rfl) ?_
            refine g_get hC hM inX11_take_X11 0 mE0 clX11 0 (by decide) tX11_take_3 TX11_0 mV0_0 dX11_take_26 ?_
            refine lv_aload_n hx hb dX11_take_29 rfl (lv_at hl 0 rfl) ?_
            refine g_get hC hM inX11_take_X11 0 mE0 clX11 23 (by decide) tX11_take_1 TX11_23 mV0_23 dX11_take_30 ?_
            obtain ⟨h58, hf⟩ := ck_s hf
            refine g_iald hC hM 1 mE1 h58 dX11_take_33 ?_
            refine lv_bipush (v := 32) hx hb dX11_take_34 (by decide) ?_
            refine lv_icmp_ne (tgt := 52) hx hb dX11_take_36 (by decide) (fun c59 => ?_) (fun c59 => ?_)
            · replace hf := it_f c59 hf
              exact hk52 _ hf _ _ _ hM hl
            · replace hf := it_t c59 hf
              exact hk39 hf _ _ _ hM hl
    · intro k0 hk0 hf
      exact hk0 _ hf _ _ _ hM hl

theorem hd_X11_need : yX11_need.cls = RX11 ∧ yX11_need.cls ≠ "java/lang/invoke/MethodHandle" ∧ yX11_need.cls ≠ "java/lang/invoke/VarHandle" ∧ (parseMethodDescriptor yX11_need.desc).map (fun d => d.parameters.length) = some 1 := by decide +kernel
theorem tX11_need_1 : Cond.fieldLink RX11 112 "WeatherTellerModel" "kind" "I" ∈ wsX11_need := List.mem_of_getElem? (i := 1) rfl
theorem inX11_need_X11 : ∀ w ∈ u_ws RX11 TX11 50, w ∈ wsX11_need := fun _ h => List.mem_cons_of_mem _ (List.mem_append_right _ h)
theorem tX11_need_3 : Cond.fieldLink RX11 109 "WeatherTellerModel" "place" "I" ∈ wsX11_need := List.mem_of_getElem? (i := 3) rfl
theorem tX11_need_2 : Cond.fieldLink RX11 123 "WeatherTellerModel" "which" "I" ∈ wsX11_need := List.mem_of_getElem? (i := 2) rfl
def j_X11_need_16 (N : Nat) (S : St)  : Option (Int32 × St) :=
  bd2 (f_X11_wrong N 1 (S.1 0 26) S) fun v1 S2 =>
  some (v1, S2)
def f_X11_need (N : Nat) (p0 : Int32) (S : St) : Option (Int32 × St) :=
  zb <|
  jp (j_X11_need_16 N S) fun k16 =>
  if (S.1 0 24) = 3 then
    if (S.1 0 25) = p0 then
      bd (f_X11_take N S) fun S5 =>
      some (1, S5)
    else
      k16
  else
    k16
abbrev rmX11_need : Room := { frames := 2, cells := 0, slots := 0, locals := 48 }
set_option maxRecDepth 100000 in
set_option maxHeartbeats 4000000 in
theorem c_X11_need (l : Launch) (D : va_G) (cs : Nat → ClassId) (a : Nat → Nat) (N : Nat) (p0 : Int32) (S : St) (rz : Int32) (Sz : St) (hf : f_X11_need N p0 S = some (rz, Sz)) : gMi l yX11_need wsX11_need rmX11_need D cs [.ref (a 0), .int p0] (mcells cs a S) rz (mcells cs a Sz) := by
  unfold f_X11_need at hf
  obtain ⟨hrz, hf⟩ := zb_s hf
  refine gE_z (cc := cX11_need) (maxL := 2) hrz (by decide) rfl (Nat.le_of_ble_eq_true rfl) ?_
  intro p e s m args below meth c A Q hC hA hQ hM ls hl
  obtain ⟨hx, hb, hml, hown, hts⟩ := hC.1
  have hl : lv_has ls 2 [(0, .ref (a 0)), (1, .int p0)] := hl
  refine lv_aload_n hx hb dX11_need_0 rfl (lv_at hl 0 rfl) ?_
  refine g_get hC hM inX11_need_X11 0 mE0 clX11 24 (by decide) tX11_need_1 TX11_24 mV0_24 dX11_need_1 ?_
  refine lv_iconst (v := 3) hx hb dX11_need_4 (by decide) ?_
  refine jp_W (fun k16 : Option (Int32 × St) => k16 = some (rz, Sz) → ∀ (H : Heap) (locs : List Loc) (ls : Array Slot), gw D A s.heap H locs (mcells cs a S) → lv_has ls 2 [(0, .ref (a 0))] → W p l e rmX11_need s m args below meth c H locs 0 0 Q (F0 m 16 ls [])) ?_ ?_ hf
  · intro  hf H locs ls hM hl
    unfold j_X11_need_16 at hf
    refine lv_aload_n hx hb dX11_need_16 rfl (lv_at hl 0 rfl) ?_
    refine lv_iconst (v := 1) hx hb dX11_need_17 (by decide) ?_
    refine lv_aload_n hx hb dX11_need_18 rfl (lv_at hl 0 rfl) ?_
    refine g_get hC hM inX11_need_X11 0 mE0 clX11 26 (by decide) tX11_need_3 TX11_26 mV0_26 dX11_need_19 ?_
    obtain ⟨v1, S2, hc, hf⟩ := bd2_s hf
    refine gV_i hC hM hA hl.1 [.int 1, .int (S.1 0 26)] [] (c_X11_wrong l D cs a N 1 (S.1 0 26) S v1 S2 hc) gX11_need_X11_wrong rfl hd_X11_wrong ⟨by decide, by decide⟩ 0 11 clX11 rfl mE0 (Nat.le_of_ble_eq_true rfl) dX11_need_22 rfl ⟨by decide, by decide⟩ (fun H locs hM => ?_)
    obtain ⟨e1, e2⟩ := so_2 hf
    cases e1; cases e2
    exact hQ _ _ _ _ _ _ dX11_need_25 hM (by decide) (by decide)
  · intro k16 hk16 hf
    refine lv_icmp_ne (tgt := 16) hx hb dX11_need_5 (by decide) (fun c3 => ?_) (fun c3 => ?_)
    · replace hf := it_f c3 hf
      exact hk16 hf _ _ _ hM (lv_sub hl [0] rfl)
    · replace hf := it_t c3 hf
      refine lv_aload_n hx hb dX11_need_8 rfl (lv_at hl 0 rfl) ?_
      refine g_get hC hM inX11_need_X11 0 mE0 clX11 25 (by decide) tX11_need_2 TX11_25 mV0_25 dX11_need_9 ?_
      refine lv_iload_n hx hb dX11_need_12 rfl (lv_at hl 1 rfl) ?_
      refine lv_icmp_eq (tgt := 26) hx hb dX11_need_13 (by decide) (fun c4 => ?_) (fun c4 => ?_)
      · replace hf := it_t c4 hf
        refine lv_aload_n hx hb dX11_need_26 rfl (lv_at hl 0 rfl) ?_
        obtain ⟨S5, hc, hf⟩ := bd_s hf
        refine gV_v hC hM hA hl.1 [] [] (c_X11_take l D cs a N S S5 hc) gX11_need_X11_take rfl hd_X11_take ⟨by decide, by decide⟩ 0 11 clX11 rfl mE0 (Nat.le_of_ble_eq_true rfl) dX11_need_27 rfl ⟨by decide, by decide⟩ (fun H locs hM => ?_)
        refine lv_iconst (v := 1) hx hb dX11_need_30 (by decide) ?_
        obtain ⟨e1, e2⟩ := so_2 hf
        cases e1; cases e2
        exact hQ _ _ _ _ _ _ dX11_need_31 hM (by decide) (by decide)
      · replace hf := it_f c4 hf
        exact hk16 hf _ _ _ hM (lv_sub hl [0] rfl)
