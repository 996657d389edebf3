theorem hd_X4_placesNamed : yX4_placesNamed.cls = RX4 ∧ yX4_placesNamed.cls ≠ "java/lang/invoke/MethodHandle" ∧ yX4_placesNamed.cls ≠ "java/lang/invoke/VarHandle" ∧ (parseMethodDescriptor yX4_placesNamed.desc).map (fun d => d.parameters.length) = some 1 := by decide +kernel
theorem tX4_placesNamed_3 : Cond.fieldLink RX4 18 "WeatherTeller$Rules" "regionPlaces" "[I" ∈ wsX4_placesNamed := List.mem_of_getElem? (i := 3) rfl
theorem inX4_placesNamed_X4 : ∀ w ∈ u_ws RX4 TX4 12, w ∈ wsX4_placesNamed := fun _ h => List.mem_cons_of_mem _ (List.mem_append_right _ h)
theorem tX4_placesNamed_1 : Cond.fieldLink RX4 45 "WeatherTeller$Rules" "regions" "I" ∈ wsX4_placesNamed := List.mem_of_getElem? (i := 1) rfl
theorem tX4_placesNamed_2 : Cond.fieldLink RX4 15 "WeatherTeller$Rules" "regionNames" "[J" ∈ wsX4_placesNamed := List.mem_of_getElem? (i := 2) rfl
def j_X4_placesNamed_21 (rr : Nat) (S : St) (v1 : Int32) : Option (Int32) :=
  ck v1 5 <|
  some (S.1 (rr + 3) v1.toNatClampNeg)
def j_X4_placesNamed_34 (rr : Nat) (N : Nat) (p0 : Int64) (S : St)  : Option (Int32) :=
  bd (f_X4_placeNamed N rr p0 S) fun v3 =>
  some v3
def b_X4_placesNamed_2 (rr : Nat) (p0 : Int64) (S : St) (k21 : Int32 → Option (Int32)) (k34 : Option (Int32)) (k2 : Int32 → Option (Int32)) (v4 : Int32) : Option (Int32) :=
  if (S.1 rr 10) ≤ v4 then
    k34
  else
    ck v4 5 <|
    if (lg_cmp (S.2 (rr + 2) v4.toNatClampNeg) p0) = 0 then
      k21 v4
    else
      nm (v4 + 1) fun v8 =>
      k2 v8
def f_X4_placesNamed (N : Nat) (rr : Nat) (p0 : Int64) (S : St) : Option (Int32) :=
  jp (j_X4_placesNamed_21 rr S) fun k21 =>
  jp (j_X4_placesNamed_34 rr N p0 S) fun k34 =>
  jp (lp (fun _ => none) (b_X4_placesNamed_2 rr p0 S k21 k34) N) fun k2 =>
  k2 0
abbrev rmX4_placesNamed_28 : Room := { frames := 1, cells := 0, slots := 0, locals := 23 }
set_option maxRecDepth 100000 in
set_option maxHeartbeats 4000000 in
theorem c_X4_placesNamed_28 (l : Launch) (D : va_G) (cs : Nat → ClassId) (a : Nat → Nat) (q1 q2 : Nat) (N : Nat) (p0 : Int64) (S : St) (rz : Int32) (hf : f_X4_placesNamed N 28 p0 S = some rz) : gMi l yX4_placesNamed wsX4_placesNamed rmX4_placesNamed_28 D cs [.ref (a 28), .long p0] (ccells cs a q1 q2 S) rz (ccells cs a q1 q2 S) := by
  unfold f_X4_placesNamed at hf
  refine gE_i (cc := cX4_placesNamed) (maxL := 4) (by decide) rfl (Nat.le_of_ble_eq_true rfl) ?_
  intro p e s m args below meth c A Q hC hA hQ hM ls hl
  obtain ⟨hx, hb, hml, hown, hts⟩ := hC.1
  have hl : lv_has ls 4 [(0, .ref (a 28)), (1, .long p0)] := hl
  refine lv_iconst (v := 0) hx hb dX4_placesNamed_0 (by decide) ?_
  refine lv_istore_n (lv' := [(3, .int 0), (0, .ref (a 28)), (1, .long p0)]) hx hb dX4_placesNamed_1 rfl hl (by decide) rfl (fun ls hl => ?_)
  refine jp_W (fun k21 : Int32 → Option (Int32) => ∀ (v1 : Int32), k21 v1 = some rz → ∀ (H : Heap) (locs : List Loc) (ls : Array Slot), gw D A s.heap H locs (ccells cs a q1 q2 S) → lv_has ls 4 [(0, .ref (a 28)), (3, .int v1)] → W p l e rmX4_placesNamed_28 s m args below meth c H locs 0 0 Q (F0 m 21 ls [])) ?_ ?_ hf
  · intro v1 hf H locs ls hM hl
    unfold j_X4_placesNamed_21 at hf
    refine lv_aload_n hx hb dX4_placesNamed_21 rfl (lv_at hl 0 rfl) ?_
    refine g_get hC hM inX4_placesNamed_X4 28 cE28 clX4 2 (by decide) tX4_placesNamed_3 TX4_2 cV28_2 dX4_placesNamed_22 ?_
    refine lv_iload_n hx hb dX4_placesNamed_25 rfl (lv_at hl 1 rfl) ?_
    obtain ⟨h2, hf⟩ := ck_s hf
    refine g_iald hC hM 31 cE31 h2 dX4_placesNamed_26 ?_
    cases so_1 hf
    exact hQ _ _ _ _ _ _ dX4_placesNamed_27 hM (by decide) (by decide)
  · intro k21 hk21 hf
    refine jp_W (fun k34 : Option (Int32) => k34 = some rz → ∀ (H : Heap) (locs : List Loc) (ls : Array Slot), gw D A s.heap H locs (ccells cs a q1 q2 S) → lv_has ls 4 [(0, .ref (a 28)), (1, .long p0)] → W p l e rmX4_placesNamed_28 s m args below meth c H locs 0 0 Q (F0 m 34 ls [])) ?_ ?_ hf
    · intro  hf H locs ls hM hl
      unfold j_X4_placesNamed_34 at hf
      refine lv_aload_n hx hb dX4_placesNamed_34 rfl (lv_at hl 0 rfl) ?_
      refine lv_lload_n hx hb dX4_placesNamed_35 rfl (lv_at hl 1 rfl) ?_
      obtain ⟨v3, hc, hf⟩ := bd_s hf
      refine gV_i hC hM hA hl.1 [.long p0] [] (c_X4_placeNamed_28 l D cs a q1 q2 N p0 S v3 hc) gX4_placesNamed_X4_placeNamed rfl hd_X4_placeNamed ⟨by decide, by decide⟩ 28 4 clX4 rfl cE28 (Nat.le_of_ble_eq_true rfl) dX4_placesNamed_36 rfl ⟨by decide, by decide⟩ (fun H locs hM => ?_)
      cases so_1 hf
      exact hQ _ _ _ _ _ _ dX4_placesNamed_39 hM (by decide) (by decide)
    · intro k34 hk34 hf
      refine jl_W (fun k2 : Int32 → Option (Int32) => ∀ (v4 : Int32), k2 v4 = some rz → ∀ (H : Heap) (locs : List Loc) (ls : Array Slot), gw D A s.heap H locs (ccells cs a q1 q2 S) → lv_has ls 4 [(0, .ref (a 28)), (1, .long p0), (3, .int v4)] → W p l e rmX4_placesNamed_28 s m args below meth c H locs 0 0 Q (F0 m 2 ls [])) ?_ ?_ ?_ hf
      · intro v4 h; cases h
      · intro k2 hk2 v4 hf H locs ls hM hl
        unfold b_X4_placesNamed_2 at hf
        refine lv_iload_n hx hb dX4_placesNamed_2 rfl (lv_at hl 2 rfl) ?_
        refine lv_aload_n hx hb dX4_placesNamed_3 rfl (lv_at hl 0 rfl) ?_
        refine g_get hC hM inX4_placesNamed_X4 28 cE28 clX4 10 (by decide) tX4_placesNamed_1 TX4_10 cV28_10 dX4_placesNamed_4 ?_
        refine lv_icmp_ge (tgt := 34) hx hb dX4_placesNamed_7 (by decide) (fun c5 => ?_) (fun c5 => ?_)
        · replace hf := it_t c5 hf
          exact hk34 hf _ _ _ hM (lv_sub hl [0, 1] rfl)
        · replace hf := it_f c5 hf
          refine lv_aload_n hx hb dX4_placesNamed_10 rfl (lv_at hl 0 rfl) ?_
          refine g_get hC hM inX4_placesNamed_X4 28 cE28 clX4 1 (by decide) tX4_placesNamed_2 TX4_1 cV28_1 dX4_placesNamed_11 ?_
          refine lv_iload_n hx hb dX4_placesNamed_14 rfl (lv_at hl 2 rfl) ?_
          obtain ⟨h6, hf⟩ := ck_s hf
          refine g_lald hC hM 30 cE30 h6 dX4_placesNamed_15 ?_
          refine lv_lload_n hx hb dX4_placesNamed_16 rfl (lv_at hl 1 rfl) ?_
          refine W.lcmp hx hb dX4_placesNamed_17 ?_
          refine lv_if_ne (tgt := 28) hx hb dX4_placesNamed_18 (by decide) (fun c7 => ?_) (fun c7 => ?_)
          · replace hf := it_f c7 hf
            obtain ⟨v8, ev8⟩ : ∃ y : Int32, y = v4 + 1 := ⟨_, rfl⟩
            replace hf := nm_q ev8 hf
            refine lv_iinc (v := v8) (lv' := [(3, .int v8), (0, .ref (a 28)), (1, .long p0)]) hx hb dX4_placesNamed_28 hl (k := 2) rfl (by rw [ev8]; rfl) (by decide) rfl (fun ls hl => ?_)
            refine lv_goto (tgt := 2) hx hb dX4_placesNamed_31 (by decide) ?_
            exact hk2 _ hf _ _ _ hM (lv_sub hl [1, 2, 0] rfl)
          · replace hf := it_t c7 hf
            exact hk21 _ hf _ _ _ hM (lv_sub hl [0, 2] rfl)
      · intro k2 hk2 hf
        exact hk2 _ hf _ _ _ hM (lv_sub hl [1, 2, 0] rfl)

theorem hd_X4_bandNamed : yX4_bandNamed.cls = RX4 ∧ yX4_bandNamed.cls ≠ "java/lang/invoke/MethodHandle" ∧ yX4_bandNamed.cls ≠ "java/lang/invoke/VarHandle" ∧ (parseMethodDescriptor yX4_bandNamed.desc).map (fun d => d.parameters.length) = some 1 := by decide +kernel
theorem tX4_bandNamed_1 : Cond.fieldLink RX4 48 "WeatherTeller$Rules" "bands" "I" ∈ wsX4_bandNamed := List.mem_of_getElem? (i := 1) rfl
theorem inX4_bandNamed_X4 : ∀ w ∈ u_ws RX4 TX4 12, w ∈ wsX4_bandNamed := fun _ h => List.mem_cons_of_mem _ (List.mem_append_right _ h)
theorem tX4_bandNamed_2 : Cond.fieldLink RX4 22 "WeatherTeller$Rules" "words" "[J" ∈ wsX4_bandNamed := List.mem_of_getElem? (i := 2) rfl
def b_X4_bandNamed_2 (rr : Nat) (p0 : Int64) (S : St) (k2 : Int32 → Option (Int32)) (v1 : Int32) : Option (Int32) :=
  if (S.1 rr 11) ≤ v1 then
    some (-1)
  else
    ck v1 24 <|
    if (lg_cmp (S.2 (rr + 4) v1.toNatClampNeg) p0) = 0 then
      some v1
    else
      nm (v1 + 1) fun v5 =>
      k2 v5
def f_X4_bandNamed (N : Nat) (rr : Nat) (p0 : Int64) (S : St) : Option (Int32) :=
  jp (lp (fun _ => none) (b_X4_bandNamed_2 rr p0 S) N) fun k2 =>
  k2 0
abbrev rmX4_bandNamed_28 : Room := { frames := 0, cells := 0, slots := 0, locals := 0 }
set_option maxRecDepth 100000 in
set_option maxHeartbeats 4000000 in
theorem c_X4_bandNamed_28 (l : Launch) (D : va_G) (cs : Nat → ClassId) (a : Nat → Nat) (q1 q2 : Nat) (N : Nat) (p0 : Int64) (S : St) (rz : Int32) (hf : f_X4_bandNamed N 28 p0 S = some rz) : gMi l yX4_bandNamed wsX4_bandNamed rmX4_bandNamed_28 D cs [.ref (a 28), .long p0] (ccells cs a q1 q2 S) rz (ccells cs a q1 q2 S) := by
  unfold f_X4_bandNamed at hf
  refine gE_i (cc := cX4_bandNamed) (maxL := 4) (by decide) rfl (Nat.le_of_ble_eq_true rfl) ?_
  intro p e s m args below meth c A Q hC hA hQ hM ls hl
  obtain ⟨hx, hb, hml, hown, hts⟩ := hC.1
  have hl : lv_has ls 4 [(0, .ref (a 28)), (1, .long p0)] := hl
  refine lv_iconst (v := 0) hx hb dX4_bandNamed_0 (by decide) ?_
  refine lv_istore_n (lv' := [(3, .int 0), (0, .ref (a 28)), (1, .long p0)]) hx hb dX4_bandNamed_1 rfl hl (by decide) rfl (fun ls hl => ?_)
  refine jl_W (fun k2 : Int32 → Option (Int32) => ∀ (v1 : Int32), k2 v1 = some rz → ∀ (H : Heap) (locs : List Loc) (ls : Array Slot), gw D A s.heap H locs (ccells cs a q1 q2 S) → lv_has ls 4 [(0, .ref (a 28)), (1, .long p0), (3, .int v1)] → W p l e rmX4_bandNamed_28 s m args below meth c H locs 0 0 Q (F0 m 2 ls [])) ?_ ?_ ?_ hf
  · intro v1 h; cases h
  · intro k2 hk2 v1 hf H locs ls hM hl
    unfold b_X4_bandNamed_2 at hf
    refine lv_iload_n hx hb dX4_bandNamed_2 rfl (lv_at hl 2 rfl) ?_
    refine lv_aload_n hx hb dX4_bandNamed_3 rfl (lv_at hl 0 rfl) ?_
    refine g_get hC hM inX4_bandNamed_X4 28 cE28 clX4 11 (by decide) tX4_bandNamed_1 TX4_11 cV28_11 dX4_bandNamed_4 ?_
    refine lv_icmp_ge (tgt := 29) hx hb dX4_bandNamed_7 (by decide) (fun c2 => ?_) (fun c2 => ?_)
    · replace hf := it_t c2 hf
      refine lv_iconst (v := (-1)) hx hb dX4_bandNamed_29 (by decide) ?_
      cases so_1 hf
      exact hQ _ _ _ _ _ _ dX4_bandNamed_30 hM (by decide) (by decide)
    · replace hf := it_f c2 hf
      refine lv_aload_n hx hb dX4_bandNamed_10 rfl (lv_at hl 0 rfl) ?_
      refine g_get hC hM inX4_bandNamed_X4 28 cE28 clX4 3 (by decide) tX4_bandNamed_2 TX4_3 cV28_3 dX4_bandNamed_11 ?_
      refine lv_iload_n hx hb dX4_bandNamed_14 rfl (lv_at hl 2 rfl) ?_
      obtain ⟨h3, hf⟩ := ck_s hf
      refine g_lald hC hM 32 cE32 h3 dX4_bandNamed_15 ?_
      refine lv_lload_n hx hb dX4_bandNamed_16 rfl (lv_at hl 1 rfl) ?_
      refine W.lcmp hx hb dX4_bandNamed_17 ?_
      refine lv_if_ne (tgt := 23) hx hb dX4_bandNamed_18 (by decide) (fun c4 => ?_) (fun c4 => ?_)
      · replace hf := it_f c4 hf
        obtain ⟨v5, ev5⟩ : ∃ y : Int32, y = v1 + 1 := ⟨_, rfl⟩
        replace hf := nm_q ev5 hf
        refine lv_iinc (v := v5) (lv' := [(3, .int v5), (0, .ref (a 28)), (1, .long p0)]) hx hb dX4_bandNamed_23 hl (k := 2) rfl (by rw [ev5]; rfl) (by decide) rfl (fun ls hl => ?_)
        refine lv_goto (tgt := 2) hx hb dX4_bandNamed_26 (by decide) ?_
        exact hk2 _ hf _ _ _ hM (lv_sub hl [1, 2, 0] rfl)
      · replace hf := it_t c4 hf
        refine lv_iload_n hx hb dX4_bandNamed_21 rfl (lv_at hl 2 rfl) ?_
        cases so_1 hf
        exact hQ _ _ _ _ _ _ dX4_bandNamed_22 hM (by decide) (by decide)
  · intro k2 hk2 hf
    exact hk2 _ hf _ _ _ hM (lv_sub hl [1, 2, 0] rfl)

abbrev rmX4_placeNamed_38 : Room := { frames := 0, cells := 0, slots := 0, locals := 0 }
set_option maxRecDepth 100000 in
set_option maxHeartbeats 4000000 in
theorem c_X4_placeNamed_38 (l : Launch) (D : va_G) (cs : Nat → ClassId) (a : Nat → Nat) (q1 q2 : Nat) (N : Nat) (p0 : Int64) (S : St) (rz : Int32) (hf : f_X4_placeNamed N 38 p0 S = some rz) : gMi l yX4_placeNamed wsX4_placeNamed rmX4_placeNamed_38 D cs [.ref (a 38), .long p0] (ccells cs a q1 q2 S) rz (ccells cs a q1 q2 S) := by
  unfold f_X4_placeNamed at hf
  refine gE_i (cc := cX4_placeNamed) (maxL := 4) (by decide) rfl (Nat.le_of_ble_eq_true rfl) ?_
  intro p e s m args below meth c A Q hC hA hQ hM ls hl
  obtain ⟨hx, hb, hml, hown, hts⟩ := hC.1
  have hl : lv_has ls 4 [(0, .ref (a 38)), (1, .long p0)] := hl
  refine lv_iconst (v := 0) hx hb dX4_placeNamed_0 (by decide) ?_
  refine lv_istore_n (lv' := [(3, .int 0), (0, .ref (a 38)), (1, .long p0)]) hx hb dX4_placeNamed_1 rfl hl (by decide) rfl (fun ls hl => ?_)
  refine jl_W (fun k2 : Int32 → Option (Int32) => ∀ (v1 : Int32), k2 v1 = some rz → ∀ (H : Heap) (locs : List Loc) (ls : Array Slot), gw D A s.heap H locs (ccells cs a q1 q2 S) → lv_has ls 4 [(0, .ref (a 38)), (1, .long p0), (3, .int v1)] → W p l e rmX4_placeNamed_38 s m args below meth c H locs 0 0 Q (F0 m 2 ls [])) ?_ ?_ ?_ hf
  · intro v1 h; cases h
  · intro k2 hk2 v1 hf H locs ls hM hl
    unfold b_X4_placeNamed_2 at hf
    refine lv_iload_n hx hb dX4_placeNamed_2 rfl (lv_at hl 2 rfl) ?_
    refine lv_aload_n hx hb dX4_placeNamed_3 rfl (lv_at hl 0 rfl) ?_
    refine g_get hC hM inX4_placeNamed_X4 38 cE38 clX4 9 (by decide) tX4_placeNamed_1 TX4_9 cV38_9 dX4_placeNamed_4 ?_
    refine lv_icmp_ge (tgt := 31) hx hb dX4_placeNamed_7 (by decide) (fun c2 => ?_) (fun c2 => ?_)
    · replace hf := it_t c2 hf
      refine lv_iconst (v := 0) hx hb dX4_placeNamed_31 (by decide) ?_
      cases so_1 hf
      exact hQ _ _ _ _ _ _ dX4_placeNamed_32 hM (by decide) (by decide)
    · replace hf := it_f c2 hf
      refine lv_aload_n hx hb dX4_placeNamed_10 rfl (lv_at hl 0 rfl) ?_
      refine g_get hC hM inX4_placeNamed_X4 38 cE38 clX4 0 (by decide) tX4_placeNamed_2 TX4_0 cV38_0 dX4_placeNamed_11 ?_
      refine lv_iload_n hx hb dX4_placeNamed_14 rfl (lv_at hl 2 rfl) ?_
      obtain ⟨h3, hf⟩ := ck_s hf
      refine g_lald hC hM 39 cE39 h3 dX4_placeNamed_15 ?_
      refine lv_lload_n hx hb dX4_placeNamed_16 rfl (lv_at hl 1 rfl) ?_
      refine W.lcmp hx hb dX4_placeNamed_17 ?_
      refine lv_if_ne (tgt := 25) hx hb dX4_placeNamed_18 (by decide) (fun c4 => ?_) (fun c4 => ?_)
      · replace hf := it_f c4 hf
        obtain ⟨v5, ev5⟩ : ∃ y : Int32, y = v1 + 1 := ⟨_, rfl⟩
        replace hf := nm_q ev5 hf
        refine lv_iinc (v := v5) (lv' := [(3, .int v5), (0, .ref (a 38)), (1, .long p0)]) hx hb dX4_placeNamed_25 hl (k := 2) rfl (by rw [ev5]; rfl) (by decide) rfl (fun ls hl => ?_)
        refine lv_goto (tgt := 2) hx hb dX4_placeNamed_28 (by decide) ?_
        exact hk2 _ hf _ _ _ hM (lv_sub hl [1, 2, 0] rfl)
      · replace hf := it_t c4 hf
        refine lv_iconst (v := 1) hx hb dX4_placeNamed_21 (by decide) ?_
        refine lv_iload_n hx hb dX4_placeNamed_22 rfl (lv_at hl 2 rfl) ?_
        refine lv_ishl hx hb dX4_placeNamed_23 ?_
        cases so_1 hf
        exact hQ _ _ _ _ _ _ dX4_placeNamed_24 hM (by decide) (by decide)
  · intro k2 hk2 hf
    exact hk2 _ hf _ _ _ hM (lv_sub hl [1, 2, 0] rfl)

abbrev rmX4_placesNamed_38 : Room := { frames := 1, cells := 0, slots := 0, locals := 23 }
set_option maxRecDepth 100000 in
set_option maxHeartbeats 4000000 in
theorem c_X4_placesNamed_38 (l : Launch) (D : va_G) (cs : Nat → ClassId) (a : Nat → Nat) (q1 q2 : Nat) (N : Nat) (p0 : Int64) (S : St) (rz : Int32) (hf : f_X4_placesNamed N 38 p0 S = some rz) : gMi l yX4_placesNamed wsX4_placesNamed rmX4_placesNamed_38 D cs [.ref (a 38), .long p0] (ccells cs a q1 q2 S) rz (ccells cs a q1 q2 S) := by
  unfold f_X4_placesNamed at hf
  refine gE_i (cc := cX4_placesNamed) (maxL := 4) (by decide) rfl (Nat.le_of_ble_eq_true rfl) ?_
  intro p e s m args below meth c A Q hC hA hQ hM ls hl
  obtain ⟨hx, hb, hml, hown, hts⟩ := hC.1
  have hl : lv_has ls 4 [(0, .ref (a 38)), (1, .long p0)] := hl
  refine lv_iconst (v := 0) hx hb dX4_placesNamed_0 (by decide) ?_
  refine lv_istore_n (lv' := [(3, .int 0), (0, .ref (a 38)), (1, .long p0)]) hx hb dX4_placesNamed_1 rfl hl (by decide) rfl (fun ls hl => ?_)
  refine jp_W (fun k21 : Int32 → Option (Int32) => ∀ (v1 : Int32), k21 v1 = some rz → ∀ (H : Heap) (locs : List Loc) (ls : Array Slot), gw D A s.heap H locs (ccells cs a q1 q2 S) → lv_has ls 4 [(0, .ref (a 38)), (3, .int v1)] → W p l e rmX4_placesNamed_38 s m args below meth c H locs 0 0 Q (F0 m 21 ls [])) ?_ ?_ hf
  · intro v1 hf H locs ls hM hl
    unfold j_X4_placesNamed_21 at hf
    refine lv_aload_n hx hb dX4_placesNamed_21 rfl (lv_at hl 0 rfl) ?_
    refine g_get hC hM inX4_placesNamed_X4 38 cE38 clX4 2 (by decide) tX4_placesNamed_3 TX4_2 cV38_2 dX4_placesNamed_22 ?_
    refine lv_iload_n hx hb dX4_placesNamed_25 rfl (lv_at hl 1 rfl) ?_
    obtain ⟨h2, hf⟩ := ck_s hf
    refine g_iald hC hM 41 cE41 h2 dX4_placesNamed_26 ?_
    cases so_1 hf
    exact hQ _ _ _ _ _ _ dX4_placesNamed_27 hM (by decide) (by decide)
  · intro k21 hk21 hf
    refine jp_W (fun k34 : Option (Int32) => k34 = some rz → ∀ (H : Heap) (locs : List Loc) (ls : Array Slot), gw D A s.heap H locs (ccells cs a q1 q2 S) → lv_has ls 4 [(0, .ref (a 38)), (1, .long p0)] → W p l e rmX4_placesNamed_38 s m args below meth c H locs 0 0 Q (F0 m 34 ls [])) ?_ ?_ hf
    · intro  hf H locs ls hM hl
      unfold j_X4_placesNamed_34 at hf
      refine lv_aload_n hx hb dX4_placesNamed_34 rfl (lv_at hl 0 rfl) ?_
      refine lv_lload_n hx hb dX4_placesNamed_35 rfl (lv_at hl 1 rfl) ?_
      obtain ⟨v3, hc, hf⟩ := bd_s hf
      refine gV_i hC hM hA hl.1 [.long p0] [] (c_X4_placeNamed_38 l D cs a q1 q2 N p0 S v3 hc) gX4_placesNamed_X4_placeNamed rfl hd_X4_placeNamed ⟨by decide, by decide⟩ 38 4 clX4 rfl cE38 (Nat.le_of_ble_eq_true rfl) dX4_placesNamed_36 rfl ⟨by decide, by decide⟩ (fun H locs hM => ?_)
      cases so_1 hf
      exact hQ _ _ _ _ _ _ dX4_placesNamed_39 hM (by decide) (by decide)
    · intro k34 hk34 hf
      refine jl_W (fun k2 : Int32 → Option (Int32) => ∀ (v4 : Int32), k2 v4 = some rz → ∀ (H : Heap) (locs : List Loc) (ls : Array Slot), gw D A s.heap H locs (ccells cs a q1 q2 S) → lv_has ls 4 [(0, .ref (a 38)), (1, .long p0), (3, .int v4)] → W p l e rmX4_placesNamed_38 s m args below meth c H locs 0 0 Q (F0 m 2 ls [])) ?_ ?_ ?_ hf
      · intro v4 h; cases h
      · intro k2 hk2 v4 hf H locs ls hM hl
        unfold b_X4_placesNamed_2 at hf
        refine lv_iload_n hx hb dX4_placesNamed_2 rfl (lv_at hl 2 rfl) ?_
        refine lv_aload_n hx hb dX4_placesNamed_3 rfl (lv_at hl 0 rfl) ?_
        refine g_get hC hM inX4_placesNamed_X4 38 cE38 clX4 10 (by decide) tX4_placesNamed_1 TX4_10 cV38_10 dX4_placesNamed_4 ?_
        refine lv_icmp_ge (tgt := 34) hx hb dX4_placesNamed_7 (by decide) (fun c5 => ?_) (fun c5 => ?_)
        · replace hf := it_t c5 hf
          exact hk34 hf _ _ _ hM (lv_sub hl [0, 1] rfl)
        · replace hf := it_f c5 hf
          refine lv_aload_n hx hb dX4_placesNamed_10 rfl (lv_at hl 0 rfl) ?_
          refine g_get hC hM inX4_placesNamed_X4 38 cE38 clX4 1 (by decide) tX4_placesNamed_2 TX4_1 cV38_1 dX4_placesNamed_11 ?_
          refine lv_iload_n hx hb dX4_placesNamed_14 rfl (lv_at hl 2 rfl) ?_
          obtain ⟨h6, hf⟩ := ck_s hf
          refine g_lald hC hM 40 cE40 h6 dX4_placesNamed_15 ?_
          refine lv_lload_n hx hb dX4_placesNamed_16 rfl (lv_at hl 1 rfl) ?_
          refine W.lcmp hx hb dX4_placesNamed_17 ?_
          refine lv_if_ne (tgt := 28) hx hb dX4_placesNamed_18 (by decide) (fun c7 => ?_) (fun c7 => ?_)
          · replace hf := it_f c7 hf
            obtain ⟨v8, ev8⟩ : ∃ y : Int32, y = v4 + 1 := ⟨_, rfl⟩
            replace hf := nm_q ev8 hf
            refine lv_iinc (v := v8) (lv' := [(3, .int v8), (0, .ref (a 38)), (1, .long p0)]) hx hb dX4_placesNamed_28 hl (k := 2) rfl (by rw [ev8]; rfl) (by decide) rfl (fun ls hl => ?_)
            refine lv_goto (tgt := 2) hx hb dX4_placesNamed_31 (by decide) ?_
            exact hk2 _ hf _ _ _ hM (lv_sub hl [1, 2, 0] rfl)
          · replace hf := it_t c7 hf
            exact hk21 _ hf _ _ _ hM (lv_sub hl [0, 2] rfl)
      · intro k2 hk2 hf
        exact hk2 _ hf _ _ _ hM (lv_sub hl [1, 2, 0] rfl)

abbrev rmX4_bandNamed_38 : Room := { frames := 0, cells := 0, slots := 0, locals := 0 }
set_option maxRecDepth 100000 in
set_option maxHeartbeats 4000000 in
theorem c_X4_bandNamed_38 (l : Launch) (D : va_G) (cs : Nat → ClassId) (a : Nat → Nat) (q1 q2 : Nat) (N : Nat) (p0 : Int64) (S : St) (rz : Int32) (hf : f_X4_bandNamed N 38 p0 S = some rz) : gMi l yX4_bandNamed wsX4_bandNamed rmX4_bandNamed_38 D cs [.ref (a 38), .long p0] (ccells cs a q1 q2 S) rz (ccells cs a q1 q2 S) := by
  unfold f_X4_bandNamed at hf
  refine gE_i (cc := cX4_bandNamed) (maxL := 4) (by decide) rfl (Nat.le_of_ble_eq_true rfl) ?_
  intro p e s m args below meth c A Q hC hA hQ hM ls hl
  obtain ⟨hx, hb, hml, hown, hts⟩ := hC.1
  have hl : lv_has ls 4 [(0, .ref (a 38)), (1, .long p0)] := hl
  refine lv_iconst (v := 0) hx hb dX4_bandNamed_0 (by decide) ?_
  refine lv_istore_n (lv' := [(3, .int 0), (0, .ref (a 38)), (1, .long p0)]) hx hb dX4_bandNamed_1 rfl hl (by decide) rfl (fun ls hl => ?_)
  refine jl_W (fun k2 : Int32 → Option (Int32) => ∀ (v1 : Int32), k2 v1 = some rz → ∀ (H : Heap) (locs : List Loc) (ls : Array Slot), gw D A s.heap H locs (ccells cs a q1 q2 S) → lv_has ls 4 [(0, .ref (a 38)), (1, .long p0), (3, .int v1)] → W p l e rmX4_bandNamed_38 s m args below meth c H locs 0 0 Q (F0 m 2 ls [])) ?_ ?_ ?_ hf
  · intro v1 h; cases h
  · intro k2 hk2 v1 hf H locs ls hM hl
    unfold b_X4_bandNamed_2 at hf
    refine lv_iload_n hx hb dX4_bandNamed_2 rfl (lv_at hl 2 rfl) ?_
    refine lv_aload_n hx hb dX4_bandNamed_3 rfl (lv_at hl 0 rfl) ?_
    refine g_get hC hM inX4_bandNamed_X4 38 cE38 clX4 11 (by decide) tX4_bandNamed_1 TX4_11 cV38_11 dX4_bandNamed_4 ?_
    refine lv_icmp_ge (tgt := 29) hx hb dX4_bandNamed_7 (by decide) (fun c2 => ?_) (fun c2 => ?_)
    · replace hf := it_t c2 hf
      refine lv_iconst (v := (-1)) hx hb dX4_bandNamed_29 (by decide) ?_
      cases so_1 hf
      exact hQ _ _ _ _ _ _ dX4_bandNamed_30 hM (by decide) (by decide)
    · replace hf := it_f c2 hf
      refine lv_aload_n hx hb dX4_bandNamed_10 rfl (lv_at hl 0 rfl) ?_
      refine g_get hC hM inX4_bandNamed_X4 38 cE38 clX4 3 (by decide) tX4_bandNamed_2 TX4_3 cV38_3 dX4_bandNamed_11 ?_
      refine lv_iload_n hx hb dX4_bandNamed_14 rfl (lv_at hl 2 rfl) ?_
      obtain ⟨h3, hf⟩ := ck_s hf
      refine g_lald hC hM 42 cE42 h3 dX4_bandNamed_15 ?_
      refine lv_lload_n hx hb dX4_bandNamed_16 rfl (lv_at hl 1 rfl) ?_
      refine W.lcmp hx hb dX4_bandNamed_17 ?_
      refine lv_if_ne (tgt := 23) hx hb dX4_bandNamed_18 (by decide) (fun c4 => ?_) (fun c4 => ?_)
      · replace hf := it_f c4 hf
        obtain ⟨v5, ev5⟩ : ∃ y : Int32, y = v1 + 1 := ⟨_, rfl⟩
        replace hf := nm_q ev5 hf
        refine lv_iinc (v := v5) (lv' := [(3, .int v5), (0, .ref (a 38)), (1, .long p0)]) hx hb dX4_bandNamed_23 hl (k := 2) rfl (by rw [ev5]; rfl) (by decide) rfl (fun ls hl => ?_)
        refine lv_goto (tgt := 2) hx hb dX4_bandNamed_26 (by decide) ?_
        exact hk2 _ hf _ _ _ hM (lv_sub hl [1, 2, 0] rfl)
      · replace hf := it_t c4 hf
        refine lv_iload_n hx hb dX4_bandNamed_21 rfl (lv_at hl 2 rfl) ?_
        cases so_1 hf
        exact hQ _ _ _ _ _ _ dX4_bandNamed_22 hM (by decide) (by decide)
  · intro k2 hk2 hf
    exact hk2 _ hf _ _ _ hM (lv_sub hl [1, 2, 0] rfl)

theorem hd_X4_clear : yX4_clear.cls = RX4 ∧ yX4_clear.cls ≠ "java/lang/invoke/MethodHandle" ∧ yX4_clear.cls ≠ "java/lang/invoke/VarHandle" ∧ (parseMethodDescriptor yX4_clear.desc).map (fun d => d.parameters.length) = some 0 := by decide +kernel
theorem tX4_clear_1 : Cond.fieldLink RX4 41 "WeatherTeller$Rules" "places" "I" ∈ wsX4_clear := List.mem_of_getElem? (i := 1) rfl
theorem inX4_clear_X4 : ∀ w ∈ u_ws RX4 TX4 12, w ∈ wsX4_clear := fun _ h => List.mem_cons_of_mem _ (List.mem_append_right _ h)
theorem tX4_clear_2 : Cond.fieldLink RX4 45 "WeatherTeller$Rules" "regions" "I" ∈ wsX4_clear := List.mem_of_getElem? (i := 2) rfl
theorem tX4_clear_3 : Cond.fieldLink RX4 48 "WeatherTeller$Rules" "bands" "I" ∈ wsX4_clear := List.mem_of_getElem? (i := 3) rfl
def f_X4_clear (N : Nat) (rr : Nat)  (S : St) : Option (St) :=
  nm (puI S rr 9 0) fun S1 =>
  nm (puI S1 rr 10 0) fun S2 =>
  nm (puI S2 rr 11 0) fun S3 =>
  some S3
abbrev rmX4_clear_38 : Room := { frames := 0, cells := 0, slots := 0, locals := 0 }
set_option maxRecDepth 100000 in
set_option maxHeartbeats 4000000 in
theorem c_X4_clear_38 (l : Launch) (D : va_G) (cs : Nat → ClassId) (a : Nat → Nat) (q1 q2 : Nat) (N : Nat) (S : St) (Sz : St) (hf : f_X4_clear N 38 S = some Sz) : gMv l yX4_clear wsX4_clear rmX4_clear_38 D cs [.ref (a 38)] (ccells cs a q1 q2 S) (ccells cs a q1 q2 Sz) := by
  unfold f_X4_clear at hf
  refine gE_v (cc := cX4_clear) (maxL := 1) (by decide) rfl (Nat.le_of_ble_eq_true rfl) ?_
  intro p e s m args below meth c A Q hC hA hQ hM ls hl
  obtain ⟨hx, hb, hml, hown, hts⟩ := hC.1
  have hl : lv_has ls 1 [(0, .ref (a 38))] := hl
  refine lv_aload_n hx hb dX4_clear_0 rfl (lv_at hl 0 rfl) ?_
  refine lv_iconst (v := 0) hx hb dX4_clear_1 (by decide) ?_
  refine g_put hC hM inX4_clear_X4 tyX4_ok nmX4 38 cE38 clX4 9 (by decide) tX4_clear_1 TX4_9 tyX4_9 rfl rfl (by rw [cL38]; decide) cP38_9 dX4_clear_2 (fun H locs hM => ?_)
  obtain ⟨S1, hf, hM⟩ := cnm hf hM
  refine lv_aload_n hx hb dX4_clear_5 rfl (lv_at hl 0 rfl) ?_
  refine lv_iconst (v := 0) hx hb dX4_clear_6 (by decide) ?_
  refine g_put hC hM inX4_clear_X4 tyX4_ok nmX4 38 cE38 clX4 10 (by decide) tX4_clear_2 TX4_10 tyX4_10 rfl rfl (by rw [cL38]; decide) cP38_10 dX4_clear_7 (fun H locs hM => ?_)
  obtain ⟨S2, hf, hM⟩ := cnm hf hM
  refine lv_aload_n hx hb dX4_clear_10 rfl (lv_at hl 0 rfl) ?_
  refine lv_iconst (v := 0) hx hb dX4_clear_11 (by decide) ?_
  refine g_put hC hM inX4_clear_X4 tyX4_ok nmX4 38 cE38 clX4 11 (by decide) tX4_clear_3 TX4_11 tyX4_11 rfl rfl (by rw [cL38]; decide) cP38_11 dX4_clear_12 (fun H locs hM => ?_)
  obtain ⟨S3, hf, hM⟩ := cnm hf hM
  cases so_1 hf
  exact hQ _ _ _ _ _ _ dX4_clear_15 hM (by decide) (by decide)

theorem hd_X4_addPlace : yX4_addPlace.cls = RX4 ∧ yX4_addPlace.cls ≠ "java/lang/invoke/MethodHandle" ∧ yX4_addPlace.cls ≠ "java/lang/invoke/VarHandle" ∧ (parseMethodDescriptor yX4_addPlace.desc).map (fun d => d.parameters.length) = some 1 := by decide +kernel
theorem tX4_addPlace_1 : Cond.fieldLink RX4 41 "WeatherTeller$Rules" "places" "I" ∈ wsX4_addPlace := List.mem_of_getElem? (i := 1) rfl
theorem inX4_addPlace_X4 : ∀ w ∈ u_ws RX4 TX4 12, w ∈ wsX4_addPlace := fun _ h => List.mem_cons_of_mem _ (List.mem_append_right _ h)
theorem tX4_addPlace_2 : Cond.fieldLink RX4 9 "WeatherTeller$Rules" "placeNames" "[J" ∈ wsX4_addPlace := List.mem_of_getElem? (i := 2) rfl
def f_X4_addPlace (N : Nat) (rr : Nat) (p0 : Int64) (S : St) : Option (St) :=
  if 6 ≤ (S.1 rr 9) then
    some S
  else
    ck (S.1 rr 9) 6 <|
    nm (puL S (rr + 1) (S.1 rr 9).toNatClampNeg p0) fun S3 =>
    nm (puI S3 rr 9 ((S3.1 rr 9) + 1)) fun S4 =>
    some S4
abbrev rmX4_addPlace_38 : Room := { frames := 0, cells := 0, slots := 0, locals := 0 }
set_option maxRecDepth 100000 in
set_option maxHeartbeats 4000000 in
theorem c_X4_addPlace_38 (l : Launch) (D : va_G) (cs : Nat → ClassId) (a : Nat → Nat) (q1 q2 : Nat) (N : Nat) (p0 : Int64) (S : St) (Sz : St) (hf : f_X4_addPlace N 38 p0 S = some Sz) : gMv l yX4_addPlace wsX4_addPlace rmX4_addPlace_38 D cs [.ref (a 38), .long p0] (ccells cs a q1 q2 S) (ccells cs a q1 q2 Sz) := by
  unfold f_X4_addPlace at hf
  refine gE_v (cc := cX4_addPlace) (maxL := 3) (by decide) rfl (Nat.le_of_ble_eq_true rfl) ?_
  intro p e s m args below meth c A Q hC hA hQ hM ls hl
  obtain ⟨hx, hb, hml, hown, hts⟩ := hC.1
  have hl : lv_has ls 3 [(0, .ref (a 38)), (1, .long p0)] := hl
  refine lv_aload_n hx hb dX4_addPlace_0 rfl (lv_at hl 0 rfl) ?_
  refine g_get hC hM inX4_addPlace_X4 38 cE38 clX4 9 (by decide) tX4_addPlace_1 TX4_9 cV38_9 dX4_addPlace_1 ?_
  refine lv_bipush (v := 6) hx hb dX4_addPlace_4 (by decide) ?_
  refine lv_icmp_ge (tgt := 29) hx hb dX4_addPlace_6 (by decide) (fun c1 => ?_) (fun c1 => ?_)
  · replace hf := it_t c1 hf
    cases so_1 hf
    exact hQ _ _ _ _ _ _ dX4_addPlace_29 hM (by decide) (by decide)
  · replace hf := it_f c1 hf
    refine lv_aload_n hx hb dX4_addPlace_9 rfl (lv_at hl 0 rfl) ?_
    refine g_get hC hM inX4_addPlace_X4 38 cE38 clX4 0 (by decide) tX4_addPlace_2 TX4_0 cV38_0 dX4_addPlace_10 ?_
    refine lv_aload_n hx hb dX4_addPlace_13 rfl (lv_at hl 0 rfl) ?_
    refine g_get hC hM inX4_addPlace_X4 38 cE38 clX4 9 (by decide) tX4_addPlace_1 TX4_9 cV38_9 dX4_addPlace_14 ?_
    refine lv_lload_n hx hb dX4_addPlace_17 rfl (lv_at hl 1 rfl) ?_
    obtain ⟨h2, hf⟩ := ck_s hf
    refine g_last hC hM 39 cE39 h2 cA39 dX4_addPlace_18 (fun H locs hM => ?_)
    obtain ⟨S3, hf, hM⟩ := cnm hf hM
    refine lv_aload_n hx hb dX4_addPlace_19 rfl (lv_at hl 0 rfl) ?_
    refine lv_dup hx hb dX4_addPlace_20 rfl ?_
    refine g_get hC hM inX4_addPlace_X4 38 cE38 clX4 9 (by decide) tX4_addPlace_1 TX4_9 cV38_9 dX4_addPlace_21 ?_
    refine lv_iconst (v := 1) hx hb dX4_addPlace_24 (by decide) ?_
    refine lv_iadd hx hb dX4_addPlace_25 ?_
    refine g_put hC hM inX4_addPlace_X4 tyX4_ok nmX4 38 cE38 clX4 9 (by decide) tX4_addPlace_1 TX4_9 tyX4_9 rfl rfl (by rw [cL38]; decide) cP38_9 dX4_addPlace_26 (fun H locs hM => ?_)
    obtain ⟨S4, hf, hM⟩ := cnm hf hM
    cases so_1 hf
    exact hQ _ _ _ _ _ _ dX4_addPlace_29 hM (by decide) (by decide)

theorem hd_X4_addRegion : yX4_addRegion.cls = RX4 ∧ yX4_addRegion.cls ≠ "java/lang/invoke/MethodHandle" ∧ yX4_addRegion.cls ≠ "java/lang/invoke/VarHandle" ∧ (parseMethodDescriptor yX4_addRegion.desc).map (fun d => d.parameters.length) = some 2 := by decide +kernel
theorem tX4_addRegion_1 : Cond.fieldLink RX4 45 "WeatherTeller$Rules" "regions" "I" ∈ wsX4_addRegion := List.mem_of_getElem? (i := 1) rfl
theorem inX4_addRegion_X4 : ∀ w ∈ u_ws RX4 TX4 12, w ∈ wsX4_addRegion := fun _ h => List.mem_cons_of_mem _ (List.mem_append_right _ h)
theorem tX4_addRegion_2 : Cond.fieldLink RX4 15 "WeatherTeller$Rules" "regionNames" "[J" ∈ wsX4_addRegion := List.mem_of_getElem? (i := 2) rfl
theorem tX4_addRegion_3 : Cond.fieldLink RX4 18 "WeatherTeller$Rules" "regionPlaces" "[I" ∈ wsX4_addRegion := List.mem_of_getElem? (i := 3) rfl
def f_X4_addRegion (N : Nat) (rr : Nat) (p0 : Int64) (p1 : Int32) (S : St) : Option (St) :=
  if 5 ≤ (S.1 rr 10) then
    some S
  else
    ck (S.1 rr 10) 5 <|
    nm (puL S (rr + 2) (S.1 rr 10).toNatClampNeg p0) fun S3 =>
    ck (S3.1 rr 10) 5 <|
    nm (puI S3 (rr + 3) (S3.1 rr 10).toNatClampNeg p1) fun S5 =>
    nm (puI S5 rr 10 ((S5.1 rr 10) + 1)) fun S6 =>
    some S6
abbrev rmX4_addRegion_38 : Room := { frames := 0, cells := 0, slots := 0, locals := 0 }
set_option maxRecDepth 100000 in
set_option maxHeartbeats 4000000 in
theorem c_X4_addRegion_38 (l : Launch) (D : va_G) (cs : Nat → ClassId) (a : Nat → Nat) (q1 q2 : Nat) (N : Nat) (p0 : Int64) (p1 : Int32) (S : St) (Sz : St) (hf : f_X4_addRegion N 38 p0 p1 S = some Sz) : gMv l yX4_addRegion wsX4_addRegion rmX4_addRegion_38 D cs [.ref (a 38), .long p0, .int p1] (ccells cs a q1 q2 S) (ccells cs a q1 q2 Sz) := by
  unfold f_X4_addRegion at hf
  refine gE_v (cc := cX4_addRegion) (maxL := 4) (by decide) rfl (Nat.le_of_ble_eq_true rfl) ?_
  intro p e s m args below meth c A Q hC hA hQ hM ls hl
  obtain ⟨hx, hb, hml, hown, hts⟩ := hC.1
  have hl : lv_has ls 4 [(0, .ref (a 38)), (1, .long p0), (3, .int p1)] := hl
  refine lv_aload_n hx hb dX4_addRegion_0 rfl (lv_at hl 0 rfl) ?_
  refine g_get hC hM inX4_addRegion_X4 38 cE38 clX4 10 (by decide) tX4_addRegion_1 TX4_10 cV38_10 dX4_addRegion_1 ?_
  refine lv_iconst (v := 5) hx hb dX4_addRegion_4 (by decide) ?_
  refine lv_icmp_ge (tgt := 38) hx hb dX4_addRegion_5 (by decide) (fun c1 => ?_) (fun c1 => ?_)
  · replace hf := it_t c1 hf
    cases so_1 hf
    exact hQ _ _ _ _ _ _ dX4_addRegion_38 hM (by decide) (by decide)
  · replace hf := it_f c1 hf
    refine lv_aload_n hx hb dX4_addRegion_8 rfl (lv_at hl 0 rfl) ?_
    refine g_get hC hM inX4_addRegion_X4 38 cE38 clX4 1 (by decide) tX4_addRegion_2 TX4_1 cV38_1 dX4_addRegion_9 ?_
    refine lv_aload_n hx hb dX4_addRegion_12 rfl (lv_at hl 0 rfl) ?_
    refine g_get hC hM inX4_addRegion_X4 38 cE38 clX4 10 (by decide) tX4_addRegion_1 TX4_10 cV38_10 dX4_addRegion_13 ?_
    refine lv_lload_n hx hb dX4_addRegion_16 rfl (lv_at hl 1 rfl) ?_
    obtain ⟨h2, hf⟩ := ck_s hf
    refine g_last hC hM 40 cE40 h2 cA40 dX4_addRegion_17 (fun H locs hM => ?_)
    obtain ⟨S3, hf, hM⟩ := cnm hf hM
    refine lv_aload_n hx hb dX4_addRegion_18 rfl (lv_at hl 0 rfl) ?_
    refine g_get hC hM inX4_addRegion_X4 38 cE38 clX4 2 (by decide) tX4_addRegion_3 TX4_2 cV38_2 dX4_addRegion_19 ?_
    refine lv_aload_n hx hb dX4_addRegion_22 rfl (lv_at hl 0 rfl) ?_
    refine g_get hC hM inX4_addRegion_X4 38 cE38 clX4 10 (by decide) tX4_addRegion_1 TX4_10 cV38_10 dX4_addRegion_23 ?_
    refine lv_iload_n hx hb dX4_addRegion_26 rfl (lv_at hl 2 rfl) ?_
    obtain ⟨h4, hf⟩ := ck_s hf
    refine g_iast hC hM 41 cE41 h4 cA41 dX4_addRegion_27 (fun H locs hM => ?_)
    obtain ⟨S5, hf, hM⟩ := cnm hf hM
    refine lv_aload_n hx hb dX4_addRegion_28 rfl (lv_at hl 0 rfl) ?_
    refine lv_dup hx hb dX4_addRegion_29 rfl ?_
    refine g_get hC hM inX4_addRegion_X4 38 cE38 clX4 10 (by decide) tX4_addRegion_1 TX4_10 cV38_10 dX4_addRegion_30 ?_
    refine lv_iconst (v := 1) hx hb dX4_addRegion_33 (by decide) ?_
    refine lv_iadd hx hb dX4_addRegion_34 ?_
    refine g_put hC hM inX4_addRegion_X4 tyX4_ok nmX4 38 cE38 clX4 10 (by decide) tX4_addRegion_1 TX4_10 tyX4_10 rfl rfl (by rw [cL38]; decide) cP38_10 dX4_addRegion_35 (fun H locs hM => ?_)
    obtain ⟨S6, hf, hM⟩ := cnm hf hM
    cases so_1 hf
    exact hQ _ _ _ _ _ _ dX4_addRegion_38 hM (by decide) (by decide)

theorem hd_X4_addBand : yX4_addBand.cls = RX4 ∧ yX4_addBand.cls ≠ "java/lang/invoke/MethodHandle" ∧ yX4_addBand.cls ≠ "java/lang/invoke/VarHandle" ∧ (parseMethodDescriptor yX4_addBand.desc).map (fun d => d.parameters.length) = some 6 := by decide +kernel
theorem tX4_addBand_1 : Cond.fieldLink RX4 48 "WeatherTeller$Rules" "bands" "I" ∈ wsX4_addBand := List.mem_of_getElem? (i := 1) rfl
theorem inX4_addBand_X4 : ∀ w ∈ u_ws RX4 TX4 12, w ∈ wsX4_addBand := fun _ h => List.mem_cons_of_mem _ (List.mem_append_right _ h)
theorem tX4_addBand_2 : Cond.fieldLink RX4 25 "WeatherTeller$Rules" "quantities" "[I" ∈ wsX4_addBand := List.mem_of_getElem? (i := 2) rfl
theorem tX4_addBand_3 : Cond.fieldLink RX4 22 "WeatherTeller$Rules" "words" "[J" ∈ wsX4_addBand := List.mem_of_getElem? (i := 3) rfl
theorem tX4_addBand_4 : Cond.fieldLink RX4 28 "WeatherTeller$Rules" "lows" "[I" ∈ wsX4_addBand := List.mem_of_getElem? (i := 4) rfl
theorem tX4_addBand_5 : Cond.fieldLink RX4 31 "WeatherTeller$Rules" "highs" "[I" ∈ wsX4_addBand := List.mem_of_getElem? (i := 5) rfl
theorem tX4_addBand_6 : Cond.fieldLink RX4 34 "WeatherTeller$Rules" "grades" "[I" ∈ wsX4_addBand := List.mem_of_getElem? (i := 6) rfl
theorem tX4_addBand_7 : Cond.fieldLink RX4 37 "WeatherTeller$Rules" "warnings" "[Z" ∈ wsX4_addBand := List.mem_of_getElem? (i := 7) rfl
def f_X4_addBand (N : Nat) (rr : Nat) (p0 : Int32) (p1 : Int64) (p2 : Int32) (p3 : Int32) (p4 : Int32) (p5 : Int32) (S : St) : Option (St) :=
  if 24 ≤ (S.1 rr 11) then
    some S
  else
    ck (S.1 rr 11) 24 <|
    nm (puI S (rr + 5) (S.1 rr 11).toNatClampNeg p0) fun S3 =>
    ck (S3.1 rr 11) 24 <|
    nm (puL S3 (rr + 4) (S3.1 rr 11).toNatClampNeg p1) fun S5 =>
    ck (S5.1 rr 11) 24 <|
    nm (puI S5 (rr + 6) (S5.1 rr 11).toNatClampNeg p2) fun S7 =>
    ck (S7.1 rr 11) 24 <|
    nm (puI S7 (rr + 7) (S7.1 rr 11).toNatClampNeg p3) fun S9 =>
    ck (S9.1 rr 11) 24 <|
    nm (puI S9 (rr + 8) (S9.1 rr 11).toNatClampNeg p4) fun S11 =>
    ck (S11.1 rr 11) 24 <|
    nm (puI S11 (rr + 9) (S11.1 rr 11).toNatClampNeg (vp_nar .boolean p5)) fun S13 =>
    nm (puI S13 rr 11 ((S13.1 rr 11) + 1)) fun S14 =>
    some S14
abbrev rmX4_addBand_38 : Room := { frames := 0, cells := 0, slots := 0, locals := 0 }
set_option maxRecDepth 100000 in
set_option maxHeartbeats 4000000 in
theorem c_X4_addBand_38 (l : Launch) (D : va_G) (cs : Nat → ClassId) (a : Nat → Nat) (q1 q2 : Nat) (N : Nat) (p0 : Int32) (p1 : Int64) (p2 : Int32) (p3 : Int32) (p4 : Int32) (p5 : Int32) (S : St) (Sz : St) (hf : f_X4_addBand N 38 p0 p1 p2 p3 p4 p5 S = some Sz) : gMv l yX4_addBand wsX4_addBand rmX4_addBand_38 D cs [.ref (a 38), .int p0, .long p1, .int p2, .int p3, .int p4, .int p5] (ccells cs a q1 q2 S) (ccells cs a q1 q2 Sz) := by
  unfold f_X4_addBand at hf
  refine gE_v (cc := cX4_addBand) (maxL := 8) (by decide) rfl (Nat.le_of_ble_eq_true rfl) ?_
  intro p e s m args below meth c A Q hC hA hQ hM ls hl
  obtain ⟨hx, hb, hml, hown, hts⟩ := hC.1
  have hl : lv_has ls 8 [(0, .ref (a 38)), (1, .int p0), (2, .long p1), (4, .int p2), (5, .int p3), (6, .int p4), (7, .int p5)] := hl
  refine lv_aload_n hx hb dX4_addBand_0 rfl (lv_at hl 0 rfl) ?_
  refine g_get hC hM inX4_addBand_X4 38 cE38 clX4 11 (by decide) tX4_addBand_1 TX4_11 cV38_11 dX4_addBand_1 ?_
  refine lv_bipush (v := 24) hx hb dX4_addBand_4 (by decide) ?_
  refine lv_icmp_ge (tgt := 83) hx hb dX4_addBand_6 (by decide) (fun c1 => ?_) (fun c1 => ?_)
  · replace hf := it_t c1 hf
    cases so_1 hf
    exact hQ _ _ _ _ _ _ dX4_addBand_83 hM (by decide) (by decide)
  · replace hf := it_f c1 hf
    refine lv_aload_n hx hb dX4_addBand_9 rfl (lv_at hl 0 rfl) ?_
    refine g_get hC hM inX4_addBand_X4 38 cE38 clX4 4 (by decide) tX4_addBand_2 TX4_4 cV38_4 dX4_addBand_10 ?_
    refine lv_aload_n hx hb dX4_addBand_13 rfl (lv_at hl 0 rfl) ?_
    refine g_get hC hM inX4_addBand_X4 38 cE38 clX4 11 (by decide) tX4_addBand_1 TX4_11 cV38_11 dX4_addBand_14 ?_
    refine lv_iload_n hx hb dX4_addBand_17 rfl (lv_at hl 1 rfl) ?_
    obtain ⟨h2, hf⟩ := ck_s hf
    refine g_iast hC hM 43 cE43 h2 cA43 dX4_addBand_18 (fun H locs hM => ?_)
    obtain ⟨S3, hf, hM⟩ := cnm hf hM
    refine lv_aload_n hx hb dX4_addBand_19 rfl (lv_at hl 0 rfl) ?_
    refine g_get hC hM inX4_addBand_X4 38 cE38 clX4 3 (by decide) tX4_addBand_3 TX4_3 cV38_3 dX4_addBand_20 ?_
    refine lv_aload_n hx hb dX4_addBand_23 rfl (lv_at hl 0 rfl) ?_
    refine g_get hC hM inX4_addBand_X4 38 cE38 clX4 11 (by decide) tX4_addBand_1 TX4_11 cV38_11 dX4_addBand_24 ?_
    refine lv_lload_n hx hb dX4_addBand_27 rfl (lv_at hl 2 rfl) ?_
    obtain ⟨h4, hf⟩ := ck_s hf
    refine g_last hC hM 42 cE42 h4 cA42 dX4_addBand_28 (fun H locs hM => ?_)
    obtain ⟨S5, hf, hM⟩ := cnm hf hM
    refine lv_aload_n hx hb dX4_addBand_29 rfl (lv_at hl 0 rfl) ?_
    refine g_get hC hM inX4_addBand_X4 38 cE38 clX4 5 (by decide) tX4_addBand_4 TX4_5 cV38_5 dX4_addBand_30 ?_
    refine lv_aload_n hx hb dX4_addBand_33 rfl (lv_at hl 0 rfl) ?_
    refine g_get hC hM inX4_addBand_X4 38 cE38 clX4 11 (by decide) tX4_addBand_1 TX4_11 cV38_11 dX4_addBand_34 ?_
    refine lv_iload hx hb dX4_addBand_37 (lv_at hl 3 rfl) ?_
    obtain ⟨h6, hf⟩ := ck_s hf
    refine g_iast hC hM 44 cE44 h6 cA44 dX4_addBand_39 (fun H locs hM => ?_)
    obtain ⟨S7, hf, hM⟩ := cnm hf hM
    refine lv_aload_n hx hb dX4_addBand_40 rfl (lv_at hl 0 rfl) ?_
    refine g_get hC hM inX4_addBand_X4 38 cE38 clX4 6 (by decide) tX4_addBand_5 TX4_6 cV38_6 dX4_addBand_41 ?_
    refine lv_aload_n hx hb dX4_addBand_44 rfl (lv_at hl 0 rfl) ?_
    refine g_get hC hM inX4_addBand_X4 38 cE38 clX4 11 (by decide) tX4_addBand_1 TX4_11 cV38_11 dX4_addBand_45 ?_
    refine lv_iload hx hb dX4_addBand_48 (lv_at hl 4 rfl) ?_
    obtain ⟨h8, hf⟩ := ck_s hf
    refine g_iast hC hM 45 cE45 h8 cA45 dX4_addBand_50 (fun H locs hM => ?_)
    obtain ⟨S9, hf, hM⟩ := cnm hf hM
    refine lv_aload_n hx hb dX4_addBand_51 rfl (lv_at hl 0 rfl) ?_
    refine g_get hC hM inX4_addBand_X4 38 cE38 clX4 7 (by decide) tX4_addBand_6 TX4_7 cV38_7 dX4_addBand_52 ?_
    refine lv_aload_n hx hb dX4_addBand_55 rfl (lv_at hl 0 rfl) ?_
    refine g_get hC hM inX4_addBand_X4 38 cE38 clX4 11 (by decide) tX4_addBand_1 TX4_11 cV38_11 dX4_addBand_56 ?_
    refine lv_iload hx hb dX4_addBand_59 (lv_at hl 5 rfl) ?_
    obtain ⟨h10, hf⟩ := ck_s hf
    refine g_iast hC hM 46 cE46 h10 cA46 dX4_addBand_61 (fun H locs hM => ?_)
    obtain ⟨S11, hf, hM⟩ := cnm hf hM
    refine lv_aload_n hx hb dX4_addBand_62 rfl (lv_at hl 0 rfl) ?_
    refine g_get hC hM inX4_addBand_X4 38 cE38 clX4 8 (by decide) tX4_addBand_7 TX4_8 cV38_8 dX4_addBand_63 ?_
    refine lv_aload_n hx hb dX4_addBand_66 rfl (lv_at hl 0 rfl) ?_
    refine g_get hC hM inX4_addBand_X4 38 cE38 clX4 11 (by decide) tX4_addBand_1 TX4_11 cV38_11 dX4_addBand_67 ?_
    refine lv_iload hx hb dX4_addBand_70 (lv_at hl 6 rfl) ?_
    obtain ⟨h12, hf⟩ := ck_s hf
    refine g_zast hC hM 47 cE47 h12 cA47 dX4_addBand_72 (fun H locs hM => ?_)
    obtain ⟨S13, hf, hM⟩ := cnm hf hM
    refine lv_aload_n hx hb dX4_addBand_73 rfl (lv_at hl 0 rfl) ?_
    refine lv_dup hx hb dX4_addBand_74 rfl ?_
    refine g_get hC hM inX4_addBand_X4 38 cE38 clX4 11 (by decide) tX4_addBand_1 TX4_11 cV38_11 dX4_addBand_75 ?_
    refine lv_iconst (v := 1) hx hb dX4_addBand_78 (by decide) ?_
    refine lv_iadd hx hb dX4_addBand_79 ?_
    refine g_put hC hM inX4_addBand_X4 tyX4_ok nmX4 38 cE38 clX4 11 (by decide) tX4_addBand_1 TX4_11 tyX4_11 rfl rfl (by rw [cL38]; decide) cP38_11 dX4_addBand_80 (fun H locs hM => ?_)
    obtain ⟨S14, hf, hM⟩ := cnm hf hM
    cases so_1 hf
    exact hQ _ _ _ _ _ _ dX4_addBand_83 hM (by decide) (by decide)

theorem hd_X4_overlaps : yX4_overlaps.cls = RX4 ∧ yX4_overlaps.cls ≠ "java/lang/invoke/MethodHandle" ∧ yX4_overlaps.cls ≠ "java/lang/invoke/VarHandle" ∧ (parseMethodDescriptor yX4_overlaps.desc).map (fun d => d.parameters.length) = some 3 := by decide +kernel
theorem tX4_overlaps_1 : Cond.fieldLink RX4 48 "WeatherTeller$Rules" "bands" "I" ∈ wsX4_overlaps := List.mem_of_getElem? (i := 1) rfl
theorem inX4_overlaps_X4 : ∀ w ∈ u_ws RX4 TX4 12, w ∈ wsX4_overlaps := fun _ h => List.mem_cons_of_mem _ (List.mem_append_right _ h)
theorem tX4_overlaps_2 : Cond.fieldLink RX4 25 "WeatherTeller$Rules" "quantities" "[I" ∈ wsX4_overlaps := List.mem_of_getElem? (i := 2) rfl
theorem tX4_overlaps_3 : Cond.fieldLink RX4 31 "WeatherTeller$Rules" "highs" "[I" ∈ wsX4_overlaps := List.mem_of_getElem? (i := 3) rfl
theorem tX4_overlaps_4 : Cond.fieldLink RX4 28 "WeatherTeller$Rules" "lows" "[I" ∈ wsX4_overlaps := List.mem_of_getElem? (i := 4) rfl
def j_X4_overlaps_47 (v1 : Int32) (k3 : Int32 → Option (Int32))  : Option (Int32) :=
  nm (v1 + 1) fun v4 =>
  k3 v4
def b_X4_overlaps_3 (rr : Nat) (p0 : Int32) (p1 : Int32) (p2 : Int32) (S : St) (k3 : Int32 → Option (Int32)) (v1 : Int32) : Option (Int32) :=
  if (S.1 rr 11) ≤ v1 then
    some 0
  else
    ck v1 24 <|
    jp (j_X4_overlaps_47 v1 k3) fun k47 =>
    if (S.1 (rr + 5) v1.toNatClampNeg) = p0 then
      ck v1 24 <|
      if (S.1 (rr + 7) v1.toNatClampNeg) ≤ p1 then
        k47
      else
        ck v1 24 <|
        if p2 ≤ (S.1 (rr + 6) v1.toNatClampNeg) then
          k47
        else
          some 1
    else
      k47
def f_X4_overlaps (N : Nat) (rr : Nat) (p0 : Int32) (p1 : Int32) (p2 : Int32) (S : St) : Option (Int32) :=
  z1 <|
  jp (lp (fun _ => none) (b_X4_overlaps_3 rr p0 p1 p2 S) N) fun k3 =>
  k3 0
abbrev rmX4_overlaps_38 : Room := { frames := 0, cells := 0, slots := 0, locals := 0 }
set_option maxRecDepth 100000 in
set_option maxHeartbeats 4000000 in
theorem c_X4_overlaps_38 (l : Launch) (D : va_G) (cs : Nat → ClassId) (a : Nat → Nat) (q1 q2 : Nat) (N : Nat) (p0 : Int32) (p1 : Int32) (p2 : Int32) (S : St) (rz : Int32) (hf : f_X4_overlaps N 38 p0 p1 p2 S = some rz) : gMi l yX4_overlaps wsX4_overlaps rmX4_overlaps_38 D cs [.ref (a 38), .int p0, .int p1, .int p2] (ccells cs a q1 q2 S) rz (ccells cs a q1 q2 S) := by
  unfold f_X4_overlaps at hf
  obtain ⟨hrz, hf⟩ := z1_s hf
  refine gE_z (cc := cX4_overlaps) (maxL := 5) hrz (by decide) rfl (Nat.le_of_ble_eq_true rfl) ?_
  intro p e s m args below meth c A Q hC hA hQ hM ls hl
  obtain ⟨hx, hb, hml, hown, hts⟩ := hC.1
  have hl : lv_has ls 5 [(0, .ref (a 38)), (1, .int p0), (2, .int p1), (3, .int p2)] := hl
  refine lv_iconst (v := 0) hx hb dX4_overlaps_0 (by decide) ?_
  refine lv_istore (lv' := [(4, .int 0), (0, .ref (a 38)), (1, .int p0), (2, .int p1), (3, .int p2)]) hx hb dX4_overlaps_1 hl (by decide) rfl (fun ls hl => ?_)
  refine jl_W (fun k3 : Int32 → Option (Int32) => ∀ (v1 : Int32), k3 v1 = some rz → ∀ (H : Heap) (locs : List Loc) (ls : Array Slot), gw D A s.heap H locs (ccells cs a q1 q2 S) → lv_has ls 5 [(0, .ref (a 38)), (1, .int p0), (2, .int p1), (3, .int p2), (4, .int v1)] → W p l e rmX4_overlaps_38 s m args below meth c H locs 0 0 Q (F0 m 3 ls [])) ?_ ?_ ?_ hf
  · intro v1 h; cases h
  · intro k3 hk3 v1 hf H locs ls hM hl
    unfold b_X4_overlaps_3 at hf
    refine lv_iload hx hb dX4_overlaps_3 (lv_at hl 4 rfl) ?_
    refine lv_aload_n hx hb dX4_overlaps_5 rfl (lv_at hl 0 rfl) ?_
    refine g_get hC hM inX4_overlaps_X4 38 cE38 clX4 11 (by decide) tX4_overlaps_1 TX4_11 cV38_11 dX4_overlaps_6 ?_
    refine lv_icmp_ge (tgt := 53) hx hb dX4_overlaps_9 (by decide) (fun c2 => ?_) (fun c2 => ?_)
    · replace hf := it_t c2 hf
      refine lv_iconst (v := 0) hx hb dX4_overlaps_53 (by decide) ?_
      cases so_1 hf
      exact hQ _ _ _ _ _ _ dX4_overlaps_54 hM (by decide) (by decide)
    · replace hf := it_f c2 hf
      refine lv_aload_n hx hb dX4_overlaps_12 rfl (lv_at hl 0 rfl) ?_
      refine g_get hC hM inX4_overlaps_X4 38 cE38 clX4 4 (by decide) tX4_overlaps_2 TX4_4 cV38_4 dX4_overlaps_13 ?_
      refine lv_iload hx hb dX4_overlaps_16 (lv_at hl 4 rfl) ?_
      obtain ⟨h3, hf⟩ := ck_s hf
      refine g_iald hC hM 43 cE43 h3 dX4_overlaps_18 ?_
      refine lv_iload_n hx hb dX4_overlaps_19 rfl (lv_at hl 1 rfl) ?_
      refine jp_W (fun k47 : Option (Int32) => k47 = some rz → ∀ (H : Heap) (locs : List Loc) (ls : Array Slot), gw D A s.heap H locs (ccells cs a q1 q2 S) → lv_has ls 5 [(0, .ref (a 38)), (1, .int p0), (2, .int p1), (3, .int p2), (4, .int v1)] → W p l e rmX4_overlaps_38 s m args below meth c H locs 0 0 Q (F0 m 47 ls [])) ?_ ?_ hf
      · intro  hf H locs ls hM hl
        unfold j_X4_overlaps_47 at hf
        obtain ⟨v4, ev4⟩ : ∃ y : Int32, y = v1 + 1 := ⟨_, rfl⟩
        replace hf := nm_q ev4 hf
        refine lv_iinc (v := v4) (lv' := [(4, .int v4), (0, .ref (a 38)), (1, .int p0), (2, .int p1), (3, .int p2)]) hx hb dX4_overlaps_47 hl (k := 4) rfl (by rw [ev4]; rfl) (by decide) rfl (fun ls hl => ?_)
        refine lv_goto (tgt := 3) hx hb dX4_overlaps_50 (by decide) ?_
        exact hk3 _ hf _ _ _ hM (lv_sub hl [1, 2, 3, 4, 0] rfl)
      · intro k47 hk47 hf
        refine lv_icmp_ne (tgt := 47) hx hb dX4_overlaps_20 (by decide) (fun c5 => ?_) (fun c5 => ?_)
        · replace hf := it_f c5 hf
          exact hk47 hf _ _ _ hM hl
        · replace hf := it_t c5 hf
          refine lv_iload_n hx hb dX4_overlaps_23 rfl (lv_at hl 2 rfl) ?_
          refine lv_aload_n hx hb dX4_overlaps_24 rfl (lv_at hl 0 rfl) ?_
          refine g_get hC hM inX4_overlaps_X4 38 cE38 clX4 6 (by decide) tX4_overlaps_3 TX4_6 cV38_6 dX4_overlaps_25 ?_
          refine lv_iload hx hb dX4_overlaps_28 (lv_at hl 4 rfl) ?_
          obtain ⟨h6, hf⟩ := ck_s hf
          refine g_iald hC hM 45 cE45 h6 dX4_overlaps_30 ?_
          refine lv_icmp_ge (tgt := 47) hx hb dX4_overlaps_31 (by decide) (fun c7 => ?_) (fun c7 => ?_)
          · replace hf := it_t c7 hf
            exact hk47 hf _ _ _ hM hl
          · replace hf := it_f c7 hf
            refine lv_aload_n hx hb dX4_overlaps_34 rfl (lv_at hl 0 rfl) ?_
            refine g_get hC hM inX4_overlaps_X4 38 cE38 clX4 5 (by decide) tX4_overlaps_4 TX4_5 cV38_5 dX4_overlaps_35 ?_
            refine lv_iload hx hb dX4_overlaps_38 (lv_at hl 4 rfl) ?_
            obtain ⟨h8, hf⟩ := ck_s hf
            refine g_iald hC hM 44 cE44 h8 dX4_overlaps_40 ?_
            refine lv_iload_n hx hb dX4_overlaps_41 rfl (lv_at hl 3 rfl) ?_
            refine lv_icmp_ge (tgt := 47) hx hb dX4_overlaps_42 (by decide) (fun c9 => ?_) (fun c9 => ?_)
            · replace hf := it_t c9 hf
              exact hk47 hf _ _ _ hM hl
            · replace hf := it_f c9 hf
              refine lv_iconst (v := 1) hx hb dX4_overlaps_45 (by decide) ?_
              cases so_1 hf
              exact hQ _ _ _ _ _ _ dX4_overlaps_46 hM (by decide) (by decide)
  · intro k3 hk3 hf
    exact hk3 _ hf _ _ _ hM (lv_sub hl [1, 2, 3, 4, 0] rfl)

theorem hd_X4_isIn : yX4_isIn.cls = RX4 ∧ yX4_isIn.cls ≠ "java/lang/invoke/MethodHandle" ∧ yX4_isIn.cls ≠ "java/lang/invoke/VarHandle" ∧ (parseMethodDescriptor yX4_isIn.desc).map (fun d => d.parameters.length) = some 2 := by decide +kernel
theorem tX4_isIn_1 : Cond.fieldLink RX4 28 "WeatherTeller$Rules" "lows" "[I" ∈ wsX4_isIn := List.mem_of_getElem? (i := 1) rfl
theorem inX4_isIn_X4 : ∀ w ∈ u_ws RX4 TX4 12, w ∈ wsX4_isIn := fun _ h => List.mem_cons_of_mem _ (List.mem_append_right _ h)
theorem tX4_isIn_2 : Cond.fieldLink RX4 31 "WeatherTeller$Rules" "highs" "[I" ∈ wsX4_isIn := List.mem_of_getElem? (i := 2) rfl
def f_X4_isIn (N : Nat) (rr : Nat) (p0 : Int32) (p1 : Int32) (S : St) : Option (Int32) :=
  z1 <|
  ck p0 24 <|
  if p1 < (S.1 (rr + 6) p0.toNatClampNeg) then
    some 0
  else
    ck p0 24 <|
    if (S.1 (rr + 7) p0.toNatClampNeg) ≤ p1 then
      some 0
    else
      some 1
abbrev rmX4_isIn_28 : Room := { frames := 0, cells := 0, slots := 0, locals := 0 }
set_option maxRecDepth 100000 in
set_option maxHeartbeats 4000000 in
theorem c_X4_isIn_28 (l : Launch) (D : va_G) (cs : Nat → ClassId) (a : Nat → Nat) (q1 q2 : Nat) (N : Nat) (p0 : Int32) (p1 : Int32) (S : St) (rz : Int32) (hf : f_X4_isIn N 28 p0 p1 S = some rz) : gMi l yX4_isIn wsX4_isIn rmX4_isIn_28 D cs [.ref (a 28), .int p0, .int p1] (ccells cs a q1 q2 S) rz (ccells cs a q1 q2 S) := by
  unfold f_X4_isIn at hf
  obtain ⟨hrz, hf⟩ := z1_s hf
  refine gE_z (cc := cX4_isIn) (maxL := 3) hrz (by decide) rfl (Nat.le_of_ble_eq_true rfl) ?_
  intro p e s m args below meth c A Q hC hA hQ hM ls hl
  obtain ⟨hx, hb, hml, hown, hts⟩ := hC.1
  have hl : lv_has ls 3 [(0, .ref (a 28)), (1, .int p0), (2, .int p1)] := hl
  refine lv_iload_n hx hb dX4_isIn_0 rfl (lv_at hl 2 rfl) ?_
  refine lv_aload_n hx hb dX4_isIn_1 rfl (lv_at hl 0 rfl) ?_
  refine g_get hC hM inX4_isIn_X4 28 cE28 clX4 5 (by decide) tX4_isIn_1 TX4_5 cV28_5 dX4_isIn_2 ?_
  refine lv_iload_n hx hb dX4_isIn_5 rfl (lv_at hl 1 rfl) ?_
  obtain ⟨h1, hf⟩ := ck_s hf
  refine g_iald hC hM 34 cE34 h1 dX4_isIn_6 ?_
  refine lv_icmp_lt (tgt := 24) hx hb dX4_isIn_7 (by decide) (fun c2 => ?_) (fun c2 => ?_)
  · replace hf := it_t c2 hf
    refine lv_iconst (v := 0) hx hb dX4_isIn_24 (by decide) ?_
    cases so_1 hf
    exact hQ _ _ _ _ _ _ dX4_isIn_25 hM (by decide) (by decide)
  · replace hf := it_f c2 hf
    refine lv_iload_n hx hb dX4_isIn_10 rfl (lv_at hl 2 rfl) ?_
    refine lv_aload_n hx hb dX4_isIn_11 rfl (lv_at hl 0 rfl) ?_
    refine g_get hC hM inX4_isIn_X4 28 cE28 clX4 6 (by decide) tX4_isIn_2 TX4_6 cV28_6 dX4_isIn_12 ?_
    refine lv_iload_n hx hb dX4_isIn_15 rfl (lv_at hl 1 rfl) ?_
    obtain ⟨h3, hf⟩ := ck_s hf
    refine g_iald hC hM 35 cE35 h3 dX4_isIn_16 ?_
    refine lv_icmp_ge (tgt := 24) hx hb dX4_isIn_17 (by decide) (fun c4 => ?_) (fun c4 => ?_)
    · replace hf := it_t c4 hf
      refine lv_iconst (v := 0) hx hb dX4_isIn_24 (by decide) ?_
      cases so_1 hf
      exact hQ _ _ _ _ _ _ dX4_isIn_25 hM (by decide) (by decide)
    · replace hf := it_f c4 hf
      refine lv_iconst (v := 1) hx hb dX4_isIn_20 (by decide) ?_
      refine lv_goto (tgt := 25) hx hb dX4_isIn_21 (by decide) ?_
      cases so_1 hf
      exact hQ _ _ _ _ _ _ dX4_isIn_25 hM (by decide) (by decide)

theorem hd_X4_wordOfName : yX4_wordOfName.cls = RX4 ∧ yX4_wordOfName.cls ≠ "java/lang/invoke/MethodHandle" ∧ yX4_wordOfName.cls ≠ "java/lang/invoke/VarHandle" ∧ (parseMethodDescriptor yX4_wordOfName.desc).map (fun d => d.parameters.length) = some 1 := by decide +kernel
theorem tX4_wordOfName_1 : Cond.fieldLink RX4 41 "WeatherTeller$Rules" "places" "I" ∈ wsX4_wordOfName := List.mem_of_getElem? (i := 1) rfl
theorem inX4_wordOfName_X4 : ∀ w ∈ u_ws RX4 TX4 12, w ∈ wsX4_wordOfName := fun _ h => List.mem_cons_of_mem _ (List.mem_append_right _ h)
theorem tX4_wordOfName_2 : Cond.fieldLink RX4 45 "WeatherTeller$Rules" "regions" "I" ∈ wsX4_wordOfName := List.mem_of_getElem? (i := 2) rfl
theorem tX4_wordOfName_4 : Cond.fieldLink RX4 15 "WeatherTeller$Rules" "regionNames" "[J" ∈ wsX4_wordOfName := List.mem_of_getElem? (i := 4) rfl
theorem tX4_wordOfName_3 : Cond.fieldLink RX4 9 "WeatherTeller$Rules" "placeNames" "[J" ∈ wsX4_wordOfName := List.mem_of_getElem? (i := 3) rfl
def f_X4_wordOfName (N : Nat) (rr : Nat) (p0 : Int32) (S : St) : Option (Int64) :=
  if p0 < 0 then
    some 0
  else
    if p0 < ((S.1 rr 9) + (S.1 rr 10)) then
      if (S.1 rr 9) ≤ p0 then
        ck (p0 - (S.1 rr 9)) 5 <|
        some (S.2 (rr + 2) (p0 - (S.1 rr 9)).toNatClampNeg)
      else
        ck p0 6 <|
        some (S.2 (rr + 1) p0.toNatClampNeg)
    else
      some 0
abbrev rmX4_wordOfName_28 : Room := { frames := 0, cells := 0, slots := 0, locals := 0 }
set_option maxRecDepth 100000 in
set_option maxHeartbeats 4000000 in
theorem c_X4_wordOfName_28 (l : Launch) (D : va_G) (cs : Nat → ClassId) (a : Nat → Nat) (q1 q2 : Nat) (N : Nat) (p0 : Int32) (S : St) (rz : Int64) (hf : f_X4_wordOfName N 28 p0 S = some rz) : gMl l yX4_wordOfName wsX4_wordOfName rmX4_wordOfName_28 D cs [.ref (a 28), .int p0] (ccells cs a q1 q2 S) rz (ccells cs a q1 q2 S) := by
  unfold f_X4_wordOfName at hf
  refine gE_l (cc := cX4_wordOfName) (maxL := 2) (by decide) rfl (Nat.le_of_ble_eq_true rfl) ?_
  intro p e s m args below meth c A Q hC hA hQ hM ls hl
  obtain ⟨hx, hb, hml, hown, hts⟩ := hC.1
  have hl : lv_has ls 2 [(0, .ref (a 28)), (1, .int p0)] := hl
  refine lv_iload_n hx hb dX4_wordOfName_0 rfl (lv_at hl 1 rfl) ?_
  refine lv_if_lt (tgt := 17) hx hb dX4_wordOfName_1 (by decide) (fun c1 => ?_) (fun c1 => ?_)
  · replace hf := it_t c1 hf
    refine lv_lconst (v := 0) hx hb dX4_wordOfName_17 (by decide) ?_
    cases so_1 hf
    exact hQ _ _ _ _ _ _ dX4_wordOfName_18 hM (by decide) (by decide)
  · replace hf := it_f c1 hf
    refine lv_iload_n hx hb dX4_wordOfName_4 rfl (lv_at hl 1 rfl) ?_
    refine lv_aload_n hx hb dX4_wordOfName_5 rfl (lv_at hl 0 rfl) ?_
    refine g_get hC hM inX4_wordOfName_X4 28 cE28 clX4 9 (by decide) tX4_wordOfName_1 TX4_9 cV28_9 dX4_wordOfName_6 ?_
    refine lv_aload_n hx hb dX4_wordOfName_9 rfl (lv_at hl 0 rfl) ?_
    refine g_get hC hM inX4_wordOfName_X4 28 cE28 clX4 10 (by decide) tX4_wordOfName_2 TX4_10 cV28_10 dX4_wordOfName_10 ?_
    refine lv_iadd hx hb dX4_wordOfName_13 ?_
    refine lv_icmp_lt (tgt := 19) hx hb dX4_wordOfName_14 (by decide) (fun c2 => ?_) (fun c2 => ?_)
    · replace hf := it_t c2 hf
      refine lv_iload_n hx hb dX4_wordOfName_19 rfl (lv_at hl 1 rfl) ?_
      refine lv_aload_n hx hb dX4_wordOfName_20 rfl (lv_at hl 0 rfl) ?_
      refine g_get hC hM inX4_wordOfName_X4 28 cE28 clX4 9 (by decide) tX4_wordOfName_1 TX4_9 cV28_9 dX4_wordOfName_21 ?_
      refine lv_icmp_ge (tgt := 36) hx hb dX4_wordOfName_24 (by decide) (fun c3 => ?_) (fun c3 => ?_)
      · replace hf := it_t c3 hf
        refine lv_aload_n hx hb dX4_wordOfName_36 rfl (lv_at hl 0 rfl) ?_
        refine g_get hC hM inX4_wordOfName_X4 28 cE28 clX4 1 (by decide) tX4_wordOfName_4 TX4_1 cV28_1 dX4_wordOfName_37 ?_
        refine lv_iload_n hx hb dX4_wordOfName_40 rfl (lv_at hl 1 rfl) ?_
        refine lv_aload_n hx hb dX4_wordOfName_41 rfl (lv_at hl 0 rfl) ?_
        refine g_get hC hM inX4_wordOfName_X4 28 cE28 clX4 9 (by decide) tX4_wordOfName_1 TX4_9 cV28_9 dX4_wordOfName_42 ?_
        refine lv_isub hx hb dX4_wordOfName_45 ?_
        obtain ⟨h4, hf⟩ := ck_s hf
        refine g_lald hC hM 30 cE30 h4 dX4_wordOfName_46 ?_
        cases so_1 hf
        exact hQ _ _ _ _ _ _ dX4_wordOfName_47 hM (by decide) (by decide)
      · replace hf := it_f c3 hf
        refine lv_aload_n hx hb dX4_wordOfName_27 rfl (lv_at hl 0 rfl) ?_
        refine g_get hC hM inX4_wordOfName_X4 28 cE28 clX4 0 (by decide) tX4_wordOfName_3 TX4_0 cV28_0 dX4_wordOfName_28 ?_
        refine lv_iload_n hx hb dX4_wordOfName_31 rfl (lv_at hl 1 rfl) ?_
        obtain ⟨h5, hf⟩ := ck_s hf
        refine g_lald hC hM 29 cE29 h5 dX4_wordOfName_32 ?_
        refine lv_goto (tgt := 47) hx hb dX4_wordOfName_33 (by decide) ?_
        cases so_1 hf
        exact hQ _ _ _ _ _ _ dX4_wordOfName_47 hM (by decide) (by decide)
    · replace hf := it_f c2 hf
      refine lv_lconst (v := 0) hx hb dX4_wordOfName_17 (by decide) ?_
      cases so_1 hf
      exact hQ _ _ _ _ _ _ dX4_wordOfName_18 hM (by decide) (by decide)

theorem hd_X4_placesOfName : yX4_placesOfName.cls = RX4 ∧ yX4_placesOfName.cls ≠ "java/lang/invoke/MethodHandle" ∧ yX4_placesOfName.cls ≠ "java/lang/invoke/VarHandle" ∧ (parseMethodDescriptor yX4_placesOfName.desc).map (fun d => d.parameters.length) = some 1 := by decide +kernel
theorem tX4_placesOfName_1 : Cond.fieldLink RX4 41 "WeatherTeller$Rules" "places" "I" ∈ wsX4_placesOfName := List.mem_of_getElem? (i := 1) rfl
theorem inX4_placesOfName_X4 : ∀ w ∈ u_ws RX4 TX4 12, w ∈ wsX4_placesOfName := fun _ h => List.mem_cons_of_mem _ (List.mem_append_right _ h)
theorem tX4_placesOfName_2 : Cond.fieldLink RX4 45 "WeatherTeller$Rules" "regions" "I" ∈ wsX4_placesOfName := List.mem_of_getElem? (i := 2) rfl
theorem tX4_placesOfName_3 : Cond.fieldLink RX4 18 "WeatherTeller$Rules" "regionPlaces" "[I" ∈ wsX4_placesOfName := List.mem_of_getElem? (i := 3) rfl
def f_X4_placesOfName (N : Nat) (rr : Nat) (p0 : Int32) (S : St) : Option (Int32) :=
  if p0 < 0 then
    some 0
  else
    if p0 < ((S.1 rr 9) + (S.1 rr 10)) then
      if (S.1 rr 9) ≤ p0 then
        ck (p0 - (S.1 rr 9)) 5 <|
        some (S.1 (rr + 3) (p0 - (S.1 rr 9)).toNatClampNeg)
      else
        some (1 <<< (p0 &&& 31))
    else
      some 0
abbrev rmX4_placesOfName_28 : Room := { frames := 0, cells := 0, slots := 0, locals := 0 }
set_option maxRecDepth 100000 in
set_option maxHeartbeats 4000000 in
theorem c_X4_placesOfName_28 (l : Launch) (D : va_G) (cs : Nat → ClassId) (a : Nat → Nat) (q1 q2 : Nat) (N : Nat) (p0 : Int32) (S : St) (rz : Int32) (hf : f_X4_placesOfName N 28 p0 S = some rz) : gMi l yX4_placesOfName wsX4_placesOfName rmX4_placesOfName_28 D cs [.ref (a 28), .int p0] (ccells cs a q1 q2 S) rz (ccells cs a q1 q2 S) := by
  unfold f_X4_placesOfName at hf
  refine gE_i (cc := cX4_placesOfName) (maxL := 2) (by decide) rfl (Nat.le_of_ble_eq_true rfl) ?_
  intro p e s m args below meth c A Q hC hA hQ hM ls hl
  obtain ⟨hx, hb, hml, hown, hts⟩ := hC.1
  have hl : lv_has ls 2 [(0, .ref (a 28)), (1, .int p0)] := hl
  refine lv_iload_n hx hb dX4_placesOfName_0 rfl (lv_at hl 1 rfl) ?_
  refine lv_if_lt (tgt := 17) hx hb dX4_placesOfName_1 (by decide) (fun c1 => ?_) (fun c1 => ?_)
  · replace hf := it_t c1 hf
    refine lv_iconst (v := 0) hx hb dX4_placesOfName_17 (by decide) ?_
    cases so_1 hf
    exact hQ _ _ _ _ _ _ dX4_placesOfName_18 hM (by decide) (by decide)
  · replace hf := it_f c1 hf
    refine lv_iload_n hx hb dX4_placesOfName_4 rfl (lv_at hl 1 rfl) ?_
    refine lv_aload_n hx hb dX4_placesOfName_5 rfl (lv_at hl 0 rfl) ?_
    refine g_get hC hM inX4_placesOfName_X4 28 cE28 clX4 9 (by decide) tX4_placesOfName_1 TX4_9 cV28_9 dX4_placesOfName_6 ?_
    refine lv_aload_n hx hb dX4_placesOfName_9 rfl (lv_at hl 0 rfl) ?_
    refine g_get hC hM inX4_placesOfName_X4 28 cE28 clX4 10 (by decide) tX4_placesOfName_2 TX4_10 cV28_10 dX4_placesOfName_10 ?_
    refine lv_iadd hx hb dX4_placesOfName_13 ?_
    refine lv_icmp_lt (tgt := 19) hx hb dX4_placesOfName_14 (by decide) (fun c2 => ?_) (fun c2 => ?_)
    · replace hf := it_t c2 hf
      refine lv_iload_n hx hb dX4_placesOfName_19 rfl (lv_at hl 1 rfl) ?_
      refine lv_aload_n hx hb dX4_placesOfName_20 rfl (lv_at hl 0 rfl) ?_
      refine g_get hC hM inX4_placesOfName_X4 28 cE28 clX4 9 (by decide) tX4_placesOfName_1 TX4_9 cV28_9 dX4_placesOfName_21 ?_
      refine lv_icmp_ge (tgt := 33) hx hb dX4_placesOfName_24 (by decide) (fun c3 => ?_) (fun c3 => ?_)
      · replace hf := it_t c3 hf
        refine lv_aload_n hx hb dX4_placesOfName_33 rfl (lv_at hl 0 rfl) ?_
        refine g_get hC hM inX4_placesOfName_X4 28 cE28 clX4 2 (by decide) tX4_placesOfName_3 TX4_2 cV28_2 dX4_placesOfName_34 ?_
        refine lv_iload_n hx hb dX4_placesOfName_37 rfl (lv_at hl 1 rfl) ?_
        refine lv_aload_n hx hb dX4_placesOfName_38 rfl (lv_at hl 0 rfl) ?_
        refine g_get hC hM inX4_placesOfName_X4 28 cE28 clX4 9 (by decide) tX4_placesOfName_1 TX4_9 cV28_9 dX4_placesOfName_39 ?_
        refine lv_isub hx hb dX4_placesOfName_42 ?_
        obtain ⟨h4, hf⟩ := ck_s hf
        refine g_iald hC hM 31 cE31 h4 dX4_placesOfName_43 ?_
        cases so_1 hf
        exact hQ _ _ _ _ _ _ dX4_placesOfName_44 hM (by decide) (by decide)
      · replace hf := it_f c3 hf
        refine lv_iconst (v := 1) hx hb dX4_placesOfName_27 (by decide) ?_
        refine lv_iload_n hx hb dX4_placesOfName_28 rfl (lv_at hl 1 rfl) ?_
        refine lv_ishl hx hb dX4_placesOfName_29 ?_
        refine lv_goto (tgt := 44) hx hb dX4_placesOfName_30 (by decide) ?_
        cases so_1 hf
        exact hQ _ _ _ _ _ _ dX4_placesOfName_44 hM (by decide) (by decide)
    · replace hf := it_f c2 hf
      refine lv_iconst (v := 0) hx hb dX4_placesOfName_17 (by decide) ?_
      cases so_1 hf
      exact hQ _ _ _ _ _ _ dX4_placesOfName_18 hM (by decide) (by decide)

theorem hd_X7_at : yX7_at.cls = RX7 ∧ yX7_at.cls ≠ "java/lang/invoke/MethodHandle" ∧ yX7_at.cls ≠ "java/lang/invoke/VarHandle" ∧ (parseMethodDescriptor yX7_at.desc).map (fun d => d.parameters.length) = some 3 := by decide +kernel
theorem tX7_at_1 : Cond.fieldLink RX7 9 "WeatherTeller$Table" "cells" "[I" ∈ wsX7_at := List.mem_of_getElem? (i := 1) rfl
theorem inX7_at_X7 : ∀ w ∈ u_ws RX7 TX7 1, w ∈ wsX7_at := fun _ h => List.mem_cons_of_mem _ (List.mem_append_right _ h)
def f_X7_at (N : Nat) (rr : Nat) (p0 : Int32) (p1 : Int32) (p2 : Int32) (S : St) : Option (Int32) :=
  bd (f_X7_cellOf N p0 p1 p2) fun v1 =>
  if v1 = (-1) then
    some (-100)
  else
    ck v1 432 <|
    some (S.1 (rr + 1) v1.toNatClampNeg)
abbrev rmX7_at_48 : Room := { frames := 2, cells := 0, slots := 0, locals := 44 }
set_option maxRecDepth 100000 in
set_option maxHeartbeats 4000000 in
theorem c_X7_at_48 (l : Launch) (D : va_G) (cs : Nat → ClassId) (a : Nat → Nat) (q1 q2 : Nat) (N : Nat) (p0 : Int32) (p1 : Int32) (p2 : Int32) (S : St) (rz : Int32) (hf : f_X7_at N 48 p0 p1 p2 S = some rz) : gMi l yX7_at wsX7_at rmX7_at_48 D cs [.ref (a 48), .int p0, .int p1, .int p2] (ccells cs a q1 q2 S) rz (ccells cs a q1 q2 S) := by
  unfold f_X7_at at hf
  refine gE_i (cc := cX7_at) (maxL := 5) (by decide) rfl (Nat.le_of_ble_eq_true rfl) ?_
  intro p e s m args below meth c A Q hC hA hQ hM ls hl
  obtain ⟨hx, hb, hml, hown, hts⟩ := hC.1
  have hl : lv_has ls 5 [(0, .ref (a 48)), (1, .int p0), (2, .int p1), (3, .int p2)] := hl
  refine lv_iload_n hx hb dX7_at_0 rfl (lv_at hl 1 rfl) ?_
  refine lv_iload_n hx hb dX7_at_1 rfl (lv_at hl 2 rfl) ?_
  refine lv_iload_n hx hb dX7_at_2 rfl (lv_at hl 3 rfl) ?_
  obtain ⟨v1, hc, hf⟩ := bd_s hf
  refine gS_i hC hM hA hl.1 [.int p0, .int p1, .int p2] [] (c_X7_cellOf l D cs (ccells cs a q1 q2 S) N p0 p1 p2 v1 hc) gX7_at_X7_cellOf rfl hd_X7_cellOf ⟨by decide, by decide⟩ (Nat.le_of_ble_eq_true rfl) dX7_at_3 rfl ⟨by decide, by decide⟩ (fun H locs hM => ?_)
  refine lv_istore (lv' := [(4, .int v1), (0, .ref (a 48)), (1, .int p0), (2, .int p1), (3, .int p2)]) hx hb dX7_at_6 hl (by decide) rfl (fun ls hl => ?_)
  refine lv_iload hx hb dX7_at_8 (lv_at hl 0 rfl) ?_
  refine lv_iconst (v := (-1)) hx hb dX7_at_10 (by decide) ?_
  refine lv_icmp_ne (tgt := 19) hx hb dX7_at_11 (by decide) (fun c2 => ?_) (fun c2 => ?_)
  · replace hf := it_f c2 hf
    refine lv_aload_n hx hb dX7_at_19 rfl (lv_at hl 1 rfl) ?_
    refine g_get hC hM inX7_at_X7 48 cE48 clX7 0 (by decide) tX7_at_1 TX7_0 cV48_0 dX7_at_20 ?_
    refine lv_iload hx hb dX7_at_23 (lv_at hl 0 rfl) ?_
    obtain ⟨h3, hf⟩ := ck_s hf
    refine g_iald hC hM 49 cE49 h3 dX7_at_25 ?_
    cases so_1 hf
    exact hQ _ _ _ _ _ _ dX7_at_26 hM (by decide) (by decide)
  · replace hf := it_t c2 hf
    refine lv_bipush (v := (-100)) hx hb dX7_at_14 (by decide) ?_
    refine lv_goto (tgt := 26) hx hb dX7_at_16 (by decide) ?_
    cases so_1 hf
    exact hQ _ _ _ _ _ _ dX7_at_26 hM (by decide) (by decide)

theorem hd_X7_clear : yX7_clear.cls = RX7 ∧ yX7_clear.cls ≠ "java/lang/invoke/MethodHandle" ∧ yX7_clear.cls ≠ "java/lang/invoke/VarHandle" ∧ (parseMethodDescriptor yX7_clear.desc).map (fun d => d.parameters.length) = some 0 := by decide +kernel
theorem tX7_clear_1 : Cond.fieldLink RX7 9 "WeatherTeller$Table" "cells" "[I" ∈ wsX7_clear := List.mem_of_getElem? (i := 1) rfl
theorem inX7_clear_X7 : ∀ w ∈ u_ws RX7 TX7 1, w ∈ wsX7_clear := fun _ h => List.mem_cons_of_mem _ (List.mem_append_right _ h)
def f_X7_clear (N : Nat) (rr : Nat)  (S : St) : Option (St) :=
  bd (f_J7_fill_53178 N (rr + 1) 432 (-100) S) fun S1 =>
  some S1
abbrev rmX7_clear_48 : Room := { frames := 1, cells := 0, slots := 0, locals := 23 }
set_option maxRecDepth 100000 in
set_option maxHeartbeats 4000000 in
theorem c_X7_clear_48 (l : Launch) (D : va_G) (cs : Nat → ClassId) (a : Nat → Nat) (q1 q2 : Nat) (N : Nat) (S : St) (Sz : St) (hf : f_X7_clear N 48 S = some Sz) : gMv l yX7_clear wsX7_clear rmX7_clear_48 D cs [.ref (a 48)] (ccells cs a q1 q2 S) (ccells cs a q1 q2 Sz) := by
  unfold f_X7_clear at hf
  refine gE_v (cc := cX7_clear) (maxL := 1) (by decide) rfl (Nat.le_of_ble_eq_true rfl) ?_
  intro p e s m args below meth c A Q hC hA hQ hM ls hl
  obtain ⟨hx, hb, hml, hown, hts⟩ := hC.1
  have hl : lv_has ls 1 [(0, .ref (a 48))] := hl
  refine lv_aload_n hx hb dX7_clear_0 rfl (lv_at hl 0 rfl) ?_
  refine g_get hC hM inX7_clear_X7 48 cE48 clX7 0 (by decide) tX7_clear_1 TX7_0 cV48_0 dX7_clear_1 ?_
  refine lv_bipush (v := (-100)) hx hb dX7_clear_4 (by decide) ?_
  obtain ⟨S1, hc, hf⟩ := bd_s hf
  refine gS_v hC hM hA hl.1 [.ref (a 49), .int (-100)] [] (c_J7_fill_53178_49 l D cs a q1 q2 N (-100) S S1 hc) gX7_clear_J7_fill_53178 rfl hd_J7_fill_53178 ⟨by decide, by decide⟩ (Nat.le_of_ble_eq_true rfl) dX7_clear_6 rfl ⟨by decide, by decide⟩ (fun H locs hM => ?_)
  cases so_1 hf
  exact hQ _ _ _ _ _ _ dX7_clear_9 hM (by decide) (by decide)

abbrev rmX7_at_50 : Room := { frames := 2, cells := 0, slots := 0, locals := 44 }
set_option maxRecDepth 100000 in
set_option maxHeartbeats 4000000 in
theorem c_X7_at_50 (l : Launch) (D : va_G) (cs : Nat → ClassId) (a : Nat → Nat) (q1 q2 : Nat) (N : Nat) (p0 : Int32) (p1 : Int32) (p2 : Int32) (S : St) (rz : Int32) (hf : f_X7_at N 50 p0 p1 p2 S = some rz) : gMi l yX7_at wsX7_at rmX7_at_50 D cs [.ref (a 50), .int p0, .int p1, .int p2] (ccells cs a q1 q2 S) rz (ccells cs a q1 q2 S) := by
  unfold f_X7_at at hf
  refine gE_i (cc := cX7_at) (maxL := 5) (by decide) rfl (Nat.le_of_ble_eq_true rfl) ?_
  intro p e s m args below meth c A Q hC hA hQ hM ls hl
  obtain ⟨hx, hb, hml, hown, hts⟩ := hC.1
  have hl : lv_has ls 5 [(0, .ref (a 50)), (1, .int p0), (2, .int p1), (3, .int p2)] := hl
  refine lv_iload_n hx hb dX7_at_0 rfl (lv_at hl 1 rfl) ?_
  refine lv_iload_n hx hb dX7_at_1 rfl (lv_at hl 2 rfl) ?_
  refine lv_iload_n hx hb dX7_at_2 rfl (lv_at hl 3 rfl) ?_
  obtain ⟨v1, hc, hf⟩ := bd_s hf
  refine gS_i hC hM hA hl.1 [.int p0, .int p1, .int p2] [] (c_X7_cellOf l D cs (ccells cs a q1 q2 S) N p0 p1 p2 v1 hc) gX7_at_X7_cellOf rfl hd_X7_cellOf ⟨by decide, by decide⟩ (Nat.le_of_ble_eq_true rfl) dX7_at_3 rfl ⟨by decide, by decide⟩ (fun H locs hM => ?_)
  refine lv_istore (lv' := [(4, .int v1), (0, .ref (a 50)), (1, .int p0), (2, .int p1), (3, .int p2)]) hx hb dX7_at_6 hl (by decide) rfl (fun ls hl => ?_)
  refine lv_iload hx hb dX7_at_8 (lv_at hl 0 rfl) ?_
  refine lv_iconst (v := (-1)) hx hb dX7_at_10 (by decide) ?_
  refine lv_icmp_ne (tgt := 19) hx hb dX7_at_11 (by decide) (fun c2 => ?_) (fun c2 => ?_)
  · replace hf := it_f c2 hf
    refine lv_aload_n hx hb dX7_at_19 rfl (lv_at hl 1 rfl) ?_
    refine g_get hC hM inX7_at_X7 50 cE50 clX7 0 (by decide) tX7_at_1 TX7_0 cV50_0 dX7_at_20 ?_
    refine lv_iload hx hb dX7_at_23 (lv_at hl 0 rfl) ?_
    obtain ⟨h3, hf⟩ := ck_s hf
    refine g_iald hC hM 51 cE51 h3 dX7_at_25 ?_
    cases so_1 hf
    exact hQ _ _ _ _ _ _ dX7_at_26 hM (by decide) (by decide)
  · replace hf := it_t c2 hf
    refine lv_bipush (v := (-100)) hx hb dX7_at_14 (by decide) ?_
    refine lv_goto (tgt := 26) hx hb dX7_at_16 (by decide) ?_
    cases so_1 hf
    exact hQ _ _ _ _ _ _ dX7_at_26 hM (by decide) (by decide)

abbrev rmX7_clear_50 : Room := { frames := 1, cells := 0, slots := 0, locals := 23 }
set_option maxRecDepth 100000 in
set_option maxHeartbeats 4000000 in
theorem c_X7_clear_50 (l : Launch) (D : va_G) (cs : Nat → ClassId) (a : Nat → Nat) (q1 q2 : Nat) (N : Nat) (S : St) (Sz : St) (hf : f_X7_clear N 50 S = some Sz) : gMv l yX7_clear wsX7_clear rmX7_clear_50 D cs [.ref (a 50)] (ccells cs a q1 q2 S) (ccells cs a q1 q2 Sz) := by
  unfold f_X7_clear at hf
  refine gE_v (cc := cX7_clear) (maxL := 1) (by decide) rfl (Nat.le_of_ble_eq_true rfl) ?_
  intro p e s m args below meth c A Q hC hA hQ hM ls hl
  obtain ⟨hx, hb, hml, hown, hts⟩ := hC.1
  have hl : lv_has ls 1 [(0, .ref (a 50))] := hl
  refine lv_aload_n hx hb dX7_clear_0 rfl (lv_at hl 0 rfl) ?_
  refine g_get hC hM inX7_clear_X7 50 cE50 clX7 0 (by decide) tX7_clear_1 TX7_0 cV50_0 dX7_clear_1 ?_
  refine lv_bipush (v := (-100)) hx hb dX7_clear_4 (by decide) ?_
  obtain ⟨S1, hc, hf⟩ := bd_s hf
  refine gS_v hC hM hA hl.1 [.ref (a 51), .int (-100)] [] (c_J7_fill_53178_51 l D cs a q1 q2 N (-100) S S1 hc) gX7_clear_J7_fill_53178 rfl hd_J7_fill_53178 ⟨by decide, by decide⟩ (Nat.le_of_ble_eq_true rfl) dX7_clear_6 rfl ⟨by decide, by decide⟩ (fun H locs hM => ?_)
  cases so_1 hf
  exact hQ _ _ _ _ _ _ dX7_clear_9 hM (by decide) (by decide)

theorem hd_X7_set : yX7_set.cls = RX7 ∧ yX7_set.cls ≠ "java/lang/invoke/MethodHandle" ∧ yX7_set.cls ≠ "java/lang/invoke/VarHandle" ∧ (parseMethodDescriptor yX7_set.desc).map (fun d => d.parameters.length) = some 4 := by decide +kernel
theorem tX7_set_1 : Cond.fieldLink RX7 9 "WeatherTeller$Table" "cells" "[I" ∈ wsX7_set := List.mem_of_getElem? (i := 1) rfl
theorem inX7_set_X7 : ∀ w ∈ u_ws RX7 TX7 1, w ∈ wsX7_set := fun _ h => List.mem_cons_of_mem _ (List.mem_append_right _ h)
def f_X7_set (N : Nat) (rr : Nat) (p0 : Int32) (p1 : Int32) (p2 : Int32) (p3 : Int32) (S : St) : Option (St) :=
  bd (f_X7_cellOf N p0 p1 p2) fun v1 =>
  if v1 = (-1) then
    some S
  else
    ck v1 432 <|
    nm (puI S (rr + 1) v1.toNatClampNeg p3) fun S4 =>
    some S4
abbrev rmX7_set_48 : Room := { frames := 2, cells := 0, slots := 0, locals := 44 }
set_option maxRecDepth 100000 in
set_option maxHeartbeats 4000000 in
theorem c_X7_set_48 (l : Launch) (D : va_G) (cs : Nat → ClassId) (a : Nat → Nat) (q1 q2 : Nat) (N : Nat) (p0 : Int32) (p1 : Int32) (p2 : Int32) (p3 : Int32) (S : St) (Sz : St) (hf : f_X7_set N 48 p0 p1 p2 p3 S = some Sz) : gMv l yX7_set wsX7_set rmX7_set_48 D cs [.ref (a 48), .int p0, .int p1, .int p2, .int p3] (ccells cs a q1 q2 S) (ccells cs a q1 q2 Sz) := by
  unfold f_X7_set at hf
  refine gE_v (cc := cX7_set) (maxL := 6) (by decide) rfl (Nat.le_of_ble_eq_true rfl) ?_
  intro p e s m args below meth c A Q hC hA hQ hM ls hl
  obtain ⟨hx, hb, hml, hown, hts⟩ := hC.1
  have hl : lv_has ls 6 [(0, .ref (a 48)), (1, .int p0), (2, .int p1), (3, .int p2), (4, .int p3)] := hl
  refine lv_iload_n hx hb dX7_set_0 rfl (lv_at hl 1 rfl) ?_
  refine lv_iload_n hx hb dX7_set_1 rfl (lv_at hl 2 rfl) ?_
  refine lv_iload_n hx hb dX7_set_2 rfl (lv_at hl 3 rfl) ?_
  obtain ⟨v1, hc, hf⟩ := bd_s hf
  refine gS_i hC hM hA hl.1 [.int p0, .int p1, .int p2] [] (c_X7_cellOf l D cs (ccells cs a q1 q2 S) N p0 p1 p2 v1 hc) gX7_set_X7_cellOf rfl hd_X7_cellOf ⟨by decide, by decide⟩ (Nat.le_of_ble_eq_true rfl) dX7_set_3 rfl ⟨by decide, by decide⟩ (fun H locs hM => ?_)
  refine lv_istore (lv' := [(5, .int v1), (0, .ref (a 48)), (1, .int p0), (2, .int p1), (3, .int p2), (4, .int p3)]) hx hb dX7_set_6 hl (by decide) rfl (fun ls hl => ?_)
  refine lv_iload hx hb dX7_set_8 (lv_at hl 0 rfl) ?_
  refine lv_iconst (v := (-1)) hx hb dX7_set_10 (by decide) ?_
  refine lv_icmp_eq (tgt := 23) hx hb dX7_set_11 (by decide) (fun c2 => ?_) (fun c2 => ?_)
  · replace hf := it_t c2 hf
    cases so_1 hf
    exact hQ _ _ _ _ _ _ dX7_set_23 hM (by decide) (by decide)
  · replace hf := it_f c2 hf
    refine lv_aload_n hx hb dX7_set_14 rfl (lv_at hl 1 rfl) ?_
    refine g_get hC hM inX7_set_X7 48 cE48 clX7 0 (by decide) tX7_set_1 TX7_0 cV48_0 dX7_set_15 ?_
    refine lv_iload hx hb dX7_set_18 (lv_at hl 0 rfl) ?_
    refine lv_iload hx hb dX7_set_20 (lv_at hl 5 rfl) ?_
    obtain ⟨h3, hf⟩ := ck_s hf
    refine g_iast hC hM 49 cE49 h3 cA49 dX7_set_22 (fun H locs hM => ?_)
    obtain ⟨S4, hf, hM⟩ := cnm hf hM
    cases so_1 hf
    exact hQ _ _ _ _ _ _ dX7_set_23 hM (by decide) (by decide)

theorem hd_X6_clear : yX6_clear.cls = RX6 ∧ yX6_clear.cls ≠ "java/lang/invoke/MethodHandle" ∧ yX6_clear.cls ≠ "java/lang/invoke/VarHandle" ∧ (parseMethodDescriptor yX6_clear.desc).map (fun d => d.parameters.length) = some 0 := by decide +kernel
theorem tX6_clear_1 : Cond.fieldLink RX6 9 "WeatherTeller$Signs" "length" "I" ∈ wsX6_clear := List.mem_of_getElem? (i := 1) rfl
theorem inX6_clear_X6 : ∀ w ∈ u_ws RX6 TX6 2, w ∈ wsX6_clear := fun _ h => List.mem_cons_of_mem _ (List.mem_append_right _ h)
def f_X6_clear (N : Nat) (rr : Nat)  (S : St) : Option (St) :=
  nm (puI S rr 1 0) fun S1 =>
  some S1
abbrev rmX6_clear_24 : Room := { frames := 0, cells := 0, slots := 0, locals := 0 }
set_option maxRecDepth 100000 in
set_option maxHeartbeats 4000000 in
theorem c_X6_clear_24 (l : Launch) (D : va_G) (cs : Nat → ClassId) (a : Nat → Nat) (q1 q2 : Nat) (N : Nat) (S : St) (Sz : St) (hf : f_X6_clear N 24 S = some Sz) : gMv l yX6_clear wsX6_clear rmX6_clear_24 D cs [.ref (a 24)] (ccells cs a q1 q2 S) (ccells cs a q1 q2 Sz) := by
  unfold f_X6_clear at hf
  refine gE_v (cc := cX6_clear) (maxL := 1) (by decide) rfl (Nat.le_of_ble_eq_true rfl) ?_
  intro p e s m args below meth c A Q hC hA hQ hM ls hl
  obtain ⟨hx, hb, hml, hown, hts⟩ := hC.1
  have hl : lv_has ls 1 [(0, .ref (a 24))] := hl
  refine lv_aload_n hx hb dX6_clear_0 rfl (lv_at hl 0 rfl) ?_
  refine lv_iconst (v := 0) hx hb dX6_clear_1 (by decide) ?_
  refine g_put hC hM inX6_clear_X6 tyX6_ok nmX6 24 cE24 clX6 1 (by decide) tX6_clear_1 TX6_1 tyX6_1 rfl rfl (by rw [cL24]; decide) cP24_1 dX6_clear_2 (fun H locs hM => ?_)
  obtain ⟨S1, hf, hM⟩ := cnm hf hM
  cases so_1 hf
  exact hQ _ _ _ _ _ _ dX6_clear_5 hM (by decide) (by decide)

abbrev rmX6_clear_26 : Room := { frames := 0, cells := 0, slots := 0, locals := 0 }
set_option maxRecDepth 100000 in
set_option maxHeartbeats 4000000 in
theorem c_X6_clear_26 (l : Launch) (D : va_G) (cs : Nat → ClassId) (a : Nat → Nat) (q1 q2 : Nat) (N : Nat) (S : St) (Sz : St) (hf : f_X6_clear N 26 S = some Sz) : gMv l yX6_clear wsX6_clear rmX6_clear_26 D cs [.ref (a 26)] (ccells cs a q1 q2 S) (ccells cs a q1 q2 Sz) := by
  unfold f_X6_clear at hf
  refine gE_v (cc := cX6_clear) (maxL := 1) (by decide) rfl (Nat.le_of_ble_eq_true rfl) ?_
  intro p e s m args below meth c A Q hC hA hQ hM ls hl
  obtain ⟨hx, hb, hml, hown, hts⟩ := hC.1
  have hl : lv_has ls 1 [(0, .ref (a 26))] := hl
  refine lv_aload_n hx hb dX6_clear_0 rfl (lv_at hl 0 rfl) ?_
  refine lv_iconst (v := 0) hx hb dX6_clear_1 (by decide) ?_
  refine g_put hC hM inX6_clear_X6 tyX6_ok nmX6 26 cE26 clX6 1 (by decide) tX6_clear_1 TX6_1 tyX6_1 rfl rfl (by rw [cL26]; decide) cP26_1 dX6_clear_2 (fun H locs hM => ?_)
  obtain ⟨S1, hf, hM⟩ := cnm hf hM
  cases so_1 hf
  exact hQ _ _ _ _ _ _ dX6_clear_5 hM (by decide) (by decide)

theorem hd_X6_at : yX6_at.cls = RX6 ∧ yX6_at.cls ≠ "java/lang/invoke/MethodHandle" ∧ yX6_at.cls ≠ "java/lang/invoke/VarHandle" ∧ (parseMethodDescriptor yX6_at.desc).map (fun d => d.parameters.length) = some 1 := by decide +kernel
theorem tX6_at_1 : Cond.fieldLink RX6 9 "WeatherTeller$Signs" "length" "I" ∈ wsX6_at := List.mem_of_getElem? (i := 1) rfl
theorem inX6_at_X6 : ∀ w ∈ u_ws RX6 TX6 2, w ∈ wsX6_at := fun _ h => List.mem_cons_of_mem _ (List.mem_append_right _ h)
theorem tX6_at_2 : Cond.fieldLink RX6 15 "WeatherTeller$Signs" "row" "[B" ∈ wsX6_at := List.mem_of_getElem? (i := 2) rfl
def f_X6_at (N : Nat) (rr : Nat) (p0 : Int32) (S : St) : Option (Int32) :=
  if p0 < 0 then
    some (-1)
  else
    if p0 < (S.1 rr 1) then
      ck p0 ((S.1 rr 2).toNatClampNeg) <|
      some (S.1 (rr + 1) p0.toNatClampNeg)
    else
      some (-1)
abbrev rmX6_at_24 : Room := { frames := 0, cells := 0, slots := 0, locals := 0 }
set_option maxRecDepth 100000 in
set_option maxHeartbeats 4000000 in
theorem c_X6_at_24 (l : Launch) (D : va_G) (cs : Nat → ClassId) (a : Nat → Nat) (q1 q2 : Nat) (N : Nat) (p0 : Int32) (S : St) (rz : Int32) (hf : f_X6_at N 24 p0 S = some rz) : gMi l yX6_at wsX6_at rmX6_at_24 D cs [.ref (a 24), .int p0] (ccells cs a q1 q2 S) rz (ccells cs a q1 q2 S) := by
  unfold f_X6_at at hf
  refine gE_i (cc := cX6_at) (maxL := 2) (by decide) rfl (Nat.le_of_ble_eq_true rfl) ?_
  intro p e s m args below meth c A Q hC hA hQ hM ls hl
  obtain ⟨hx, hb, hml, hown, hts⟩ := hC.1
  have hl : lv_has ls 2 [(0, .ref (a 24)), (1, .int p0)] := hl
  refine lv_iload_n hx hb dX6_at_0 rfl (lv_at hl 1 rfl) ?_
  refine lv_if_lt (tgt := 12) hx hb dX6_at_1 (by decide) (fun c1 => ?_) (fun c1 => ?_)
  · replace hf := it_t c1 hf
    refine lv_iconst (v := (-1)) hx hb dX6_at_12 (by decide) ?_
    refine lv_goto (tgt := 22) hx hb dX6_at_13 (by decide) ?_
    cases so_1 hf
    exact hQ _ _ _ _ _ _ dX6_at_22 hM (by decide) (by decide)
  · replace hf := it_f c1 hf
    refine lv_iload_n hx hb dX6_at_4 rfl (lv_at hl 1 rfl) ?_
    refine lv_aload_n hx hb dX6_at_5 rfl (lv_at hl 0 rfl) ?_
    refine g_get hC hM inX6_at_X6 24 cE24 clX6 1 (by decide) tX6_at_1 TX6_1 cV24_1 dX6_at_6 ?_
    refine lv_icmp_lt (tgt := 16) hx hb dX6_at_9 (by decide) (fun c2 => ?_) (fun c2 => ?_)
    · replace hf := it_t c2 hf
      refine lv_aload_n hx hb dX6_at_16 rfl (lv_at hl 0 rfl) ?_
      refine g_get hC hM inX6_at_X6 24 cE24 clX6 0 (by decide) tX6_at_2 TX6_0 cV24_0 dX6_at_17 ?_
      refine lv_iload_n hx hb dX6_at_20 rfl (lv_at hl 1 rfl) ?_
      obtain ⟨h3, hf⟩ := ck_s hf
      refine g_bald hC hM 25 cE25 h3 dX6_at_21 ?_
      cases so_1 hf
      exact hQ _ _ _ _ _ _ dX6_at_22 hM (by decide) (by decide)
    · replace hf := it_f c2 hf
      refine lv_iconst (v := (-1)) hx hb dX6_at_12 (by decide) ?_
      refine lv_goto (tgt := 22) hx hb dX6_at_13 (by decide) ?_
      cases so_1 hf
      exact hQ _ _ _ _ _ _ dX6_at_22 hM (by decide) (by decide)
