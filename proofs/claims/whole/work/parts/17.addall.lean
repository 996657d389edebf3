/-! Signs.addAll of a constant String, by the String's place -/
theorem va_ldcwS {p : Program} {l : Launch} {e : Env} {R : Room} {s : State} {m : MethodId} {args : Array Value} {below : List Frame} {meth : Method} {c : Code} {H : Heap} {locs : List Loc} {cells slots : Nat} {Q : State → Prop} {cc : ByteArray} {pc : Nat} {ls : Array Slot} {rest : List Value}
    (hexec : p.tables.exec = Jvm.exec) (hb : c.code = cc) {own tx : String} {index q : Nat} (hown : s.vm.findClass own = some m.cls) (hZ : vk_R own index tx q s) (hdg : decode cc pc = .ok (.ldc_w index, 3))
    (k : W p l e R s m args below meth c H locs cells slots Q (F0 m (pc + 3) ls (.ref q :: rest))) : W p l e R s m args below meth c H locs cells slots Q (F0 m pc ls rest) := by
  intro T hT X
  obtain ⟨t, a1, b1⟩ := k T hT X
  exact ⟨t, Jvm.Stand.ldcStringW X hexec hown (text := tx) (a := q) hZ.1 hZ.2 (g := F0 m pc ls rest) rfl (by rw [hb]; exact hdg) t a1, b1⟩
def b_X6_addAll_2 (N : Nat) (rr : Nat) (i : Nat) (k2 : Int32 → St → Option St) (v1 : Int32) (S1 : St) : Option St :=
  if (Int32.ofNat (zlen.getD i 0)) ≤ v1 then
    some S1
  else
    ck v1 (zlen.getD i 0) <|
    bd (f_X6_add N rr (zch i v1.toNatClampNeg) S1) fun S2 =>
    nm (v1 + 1) fun v3 =>
    k2 v3 S2
def f_X6_addAll (N : Nat) (rr : Nat) (i : Nat) (S : St) : Option St :=
  jp (lp (fun _ _ => none) (b_X6_addAll_2 N rr i) N) fun k2 =>
  k2 0 S
theorem hd_X6_addAll : yX6_addAll.cls = RX6 ∧ yX6_addAll.cls ≠ "java/lang/invoke/MethodHandle" ∧ yX6_addAll.cls ≠ "java/lang/invoke/VarHandle" ∧ (parseMethodDescriptor yX6_addAll.desc).map (fun d => d.parameters.length) = some 1 := by decide +kernel
theorem hd_J0_length : yJ0_length_8abf5.cls = RJ0 ∧ yJ0_length_8abf5.cls ≠ "java/lang/invoke/MethodHandle" ∧ yJ0_length_8abf5.cls ≠ "java/lang/invoke/VarHandle" ∧ (parseMethodDescriptor yJ0_length_8abf5.desc).map (fun d => d.parameters.length) = some 0 := by decide +kernel
theorem hd_J0_charAt : yJ0_charAt_5068e.cls = RJ0 ∧ yJ0_charAt_5068e.cls ≠ "java/lang/invoke/MethodHandle" ∧ yJ0_charAt_5068e.cls ≠ "java/lang/invoke/VarHandle" ∧ (parseMethodDescriptor yJ0_charAt_5068e.desc).map (fun d => d.parameters.length) = some 1 := by decide +kernel
theorem mo_X6_addAll_24 {N i : Nat} {S Sz : St} (hf : f_X6_addAll N 24 i S = some Sz) : ph S ≤ ph Sz := by
  unfold f_X6_addAll at hf
  refine jl_W (fun k2 : Int32 → St → Option St => ∀ (v1 : Int32) (S1 : St), k2 v1 S1 = some Sz → ph S1 ≤ ph Sz ∧ True) ?_ ?_ ?_ hf
  · intro v1 S1 h; cases h
  · intro k2 hk2 v1 S1 hf
    unfold b_X6_addAll_2 at hf
    refine ⟨?_, trivial⟩
    rcases it_s hf with ⟨-, hf⟩ | ⟨-, hf⟩
    · cases so_1 hf; omega
    · obtain ⟨-, hf⟩ := ck_s hf
      obtain ⟨S2, hc, hf⟩ := bd_s hf
      have gS2 : ph S1 ≤ ph S2 := mo_X6_add_24 hc
      replace hf := nm_q rfl hf
      have hj := (hk2 _ _ hf).1
      omega
  · intro k2 hk2 hf
    have hj := (hk2 _ _ hf).1
    omega
set_option maxRecDepth 100000 in
set_option maxHeartbeats 4000000 in
theorem c_X6_addAll_24 (l : Launch) (D : va_G) (cs : Nat → ClassId) (adK adV : Nat → Nat) (a : Nat → Nat) (q1 q2 : Nat) (N : Nat) (i : Nat) (hi : i < 10) (S : St) (Sz : St) (hf : f_X6_addAll N 24 i S = some Sz) : gGv l yX6_addAll wsX6_addAll 4 85 D cs adK adV [.ref (a 24), .ref (adK i)] a q1 q2 S Sz := by
  have hzz : ph S ≤ ph Sz := mo_X6_addAll_24 hf
  unfold f_X6_addAll at hf
  refine gGE_v (cc := cX6_addAll) (maxL := 3) (by decide) rfl (Nat.le_of_ble_eq_true rfl) ?_
  intro p e s m args below meth c A Q hC hA hR hZ hQ hM ls hl
  obtain ⟨hx, hb, hml, hown, hts⟩ := hC.1
  have hl : lv_has ls 3 [(0, .ref (a 24)), (1, .ref (adK i))] := hl
  refine lv_iconst (v := 0) hx hb dX6_addAll_0 (by decide) ?_
  refine lv_istore_n (lv' := [(2, .int 0), (0, .ref (a 24)), (1, .ref (adK i))]) hx hb dX6_addAll_1 rfl hl (by decide) rfl (fun ls hl => ?_)
  refine jl_W (fun k2 : Int32 → St → Option St => ∀ (v1 : Int32) (S1 : St), k2 v1 S1 = some Sz → ph S1 ≤ ph Sz ∧ (ph S ≤ ph S1 → ∀ (q1 q2 : Nat) (H : Heap) (locs : List Loc) (ls : Array Slot), gw D A s.heap H locs (ccells cs a q1 q2 S1) → lv_has ls 3 [(0, .ref (a 24)), (1, .ref (adK i)), (2, .int v1)] → W p l e (rmG 4 85 S Sz) s m args below meth c H locs (ph S1 - ph S) (2 * (ph S1 - ph S)) Q (F0 m 2 ls []))) ?_ ?_ ?_ hf
  · intro v1 S1 h; cases h
  · intro k2 hk2 v1 S1 hf
    unfold b_X6_addAll_2 at hf
    have gzS1 : ph S1 ≤ ph Sz := by
      rcases it_s hf with ⟨-, hf⟩ | ⟨-, hf⟩
      · cases so_1 hf; omega
      · obtain ⟨-, hf⟩ := ck_s hf
        obtain ⟨S2, hc, hf⟩ := bd_s hf
        have gS2 : ph S1 ≤ ph S2 := mo_X6_add_24 hc
        replace hf := nm_q rfl hf
        have hj := (hk2 _ _ hf).1
        omega
    refine ⟨gzS1, ?_⟩
    intro hpS1 q1 q2 H locs ls hM hl
    refine lv_iload_n hx hb dX6_addAll_2 rfl (lv_at hl 2 rfl) ?_
    refine lv_aload_n hx hb dX6_addAll_3 rfl (lv_at hl 1 rfl) ?_
    refine gSV_i hC hM hA hR hZ hl.1 [] [.int v1] (c_length l D cs adK adV (ccells cs a q1 q2 S1) hi) gX6_addAll_J0_length_8abf5 rfl hd_J0_length ⟨Nat.le_of_ble_eq_true rfl, Nat.le_of_ble_eq_true rfl⟩ (vk_recv hZ.1 hi hM.2.2) (Nat.le_of_ble_eq_true rfl) dX6_addAll_4 rfl ⟨by show _ + 0 ≤ ph Sz - ph S; omega, by show _ + 0 ≤ 2 * (ph Sz - ph S); omega⟩ (fun H locs hM => ?_)
    refine W.widen (k := ph S1 - ph S) (n := 2 * (ph S1 - ph S)) (Nat.le_refl _) (Nat.le_refl _) ?_
    refine lv_icmp_ge (tgt := 25) hx hb dX6_addAll_7 (by decide) (fun c1 => ?_) (fun c1 => ?_)
    · replace hf := it_t c1 hf
      cases so_1 hf
      exact hQ _ _ _ _ _ _ _ _ dX6_addAll_25 hM (by omega) (by omega)
    · replace hf := it_f c1 hf
      obtain ⟨h2, hf⟩ := ck_s hf
      refine lv_aload_n hx hb dX6_addAll_10 rfl (lv_at hl 0 rfl) ?_
      refine lv_aload_n hx hb dX6_addAll_11 rfl (lv_at hl 1 rfl) ?_
      refine lv_iload_n hx hb dX6_addAll_12 rfl (lv_at hl 2 rfl) ?_
      refine gSV_i hC hM hA hR hZ hl.1 [.int v1] [.ref (a 24)] (c_charAt l D cs adK adV (ccells cs a _ _ S1) hi v1 (fun q => h2 (Or.inl q)) (Int32.not_le.mp c1) h2) gX6_addAll_J0_charAt_5068e rfl hd_J0_charAt ⟨Nat.le_of_ble_eq_true rfl, Nat.le_of_ble_eq_true rfl⟩ (vk_recv hZ.1 hi hM.2.2) (Nat.le_of_ble_eq_true rfl) dX6_addAll_13 rfl ⟨by show _ + 0 ≤ ph Sz - ph S; omega, by show _ + 0 ≤ 2 * (ph Sz - ph S); omega⟩ (fun H locs hM => ?_)
      refine W.widen (k := ph S1 - ph S) (n := 2 * (ph S1 - ph S)) (Nat.le_refl _) (Nat.le_refl _) ?_
      obtain ⟨S2, hc, hf⟩ := bd_s hf
      have gS2 : ph S1 ≤ ph S2 := mo_X6_add_24 hc
      have gzS2 : ph S2 ≤ ph Sz := (hk2 _ _ hf).1
      refine gGV_v hC hM hA hR hZ hl.1 [.int (zch i v1.toNatClampNeg)] [] (c_X6_add_24 l D cs adK adV a q1 q2 N (zch i v1.toNatClampNeg) S1 S2 hc) gX6_addAll_X6_add rfl hd_X6_add ⟨Nat.le_of_ble_eq_true rfl, Nat.le_of_ble_eq_true rfl⟩ 24 6 clX6 rfl cE24 (Nat.le_of_ble_eq_true rfl) dX6_addAll_16 rfl ⟨by show _ + (ph S2 - ph S1) ≤ ph Sz - ph S; omega, by show _ + 2 * (ph S2 - ph S1) ≤ 2 * (ph Sz - ph S); omega⟩ (fun q1 q2 H locs hM => ?_)
      refine W.widen (k := ph S2 - ph S) (n := 2 * (ph S2 - ph S)) (by omega) (by omega) ?_
      obtain ⟨v3, ev3⟩ : ∃ y : Int32, y = v1 + 1 := ⟨_, rfl⟩
      replace hf := nm_q ev3 hf
      refine lv_iinc (v := v3) (lv' := [(2, .int v3), (0, .ref (a 24)), (1, .ref (adK i))]) hx hb dX6_addAll_19 hl (k := 2) rfl (by rw [ev3]; rfl) (by decide) rfl (fun ls hl => ?_)
      refine lv_goto (tgt := 2) hx hb dX6_addAll_22 (by decide) ?_
      exact (hk2 _ _ hf).2 (by omega) _ _ _ _ _ hM (lv_sub hl [1, 2, 0] rfl)
  · intro k2 hk2 hf
    refine W.widen (k := ph S - ph S) (n := 2 * (ph S - ph S)) (by omega) (by omega) ?_
    exact (hk2 _ _ hf).2 (Nat.le_refl _) _ _ _ _ _ hM (lv_sub hl [1, 2, 0] rfl)
theorem mo_X6_addAll_26 {N i : Nat} {S Sz : St} (hf : f_X6_addAll N 26 i S = some Sz) : ph S ≤ ph Sz := by
  unfold f_X6_addAll at hf
  refine jl_W (fun k2 : Int32 → St → Option St => ∀ (v1 : Int32) (S1 : St), k2 v1 S1 = some Sz → ph S1 ≤ ph Sz ∧ True) ?_ ?_ ?_ hf
  · intro v1 S1 h; cases h
  · intro k2 hk2 v1 S1 hf
    unfold b_X6_addAll_2 at hf
    refine ⟨?_, trivial⟩
    rcases it_s hf with ⟨-, hf⟩ | ⟨-, hf⟩
    · cases so_1 hf; omega
    · obtain ⟨-, hf⟩ := ck_s hf
      obtain ⟨S2, hc, hf⟩ := bd_s hf
      have gS2 : ph S1 ≤ ph S2 := mo_X6_add_26 hc
      replace hf := nm_q rfl hf
      have hj := (hk2 _ _ hf).1
      omega
  · intro k2 hk2 hf
    have hj := (hk2 _ _ hf).1
    omega
set_option maxRecDepth 100000 in
set_option maxHeartbeats 4000000 in
theorem c_X6_addAll_26 (l : Launch) (D : va_G) (cs : Nat → ClassId) (adK adV : Nat → Nat) (a : Nat → Nat) (q1 q2 : Nat) (N : Nat) (i : Nat) (hi : i < 10) (S : St) (Sz : St) (hf : f_X6_addAll N 26 i S = some Sz) : gGv l yX6_addAll wsX6_addAll 4 85 D cs adK adV [.ref (a 26), .ref (adK i)] a q1 q2 S Sz := by
  have hzz : ph S ≤ ph Sz := mo_X6_addAll_26 hf
  unfold f_X6_addAll at hf
  refine gGE_v (cc := cX6_addAll) (maxL := 3) (by decide) rfl (Nat.le_of_ble_eq_true rfl) ?_
  intro p e s m args below meth c A Q hC hA hR hZ hQ hM ls hl
  obtain ⟨hx, hb, hml, hown, hts⟩ := hC.1
  have hl : lv_has ls 3 [(0, .ref (a 26)), (1, .ref (adK i))] := hl
  refine lv_iconst (v := 0) hx hb dX6_addAll_0 (by decide) ?_
  refine lv_istore_n (lv' := [(2, .int 0), (0, .ref (a 26)), (1, .ref (adK i))]) hx hb dX6_addAll_1 rfl hl (by decide) rfl (fun ls hl => ?_)
  refine jl_W (fun k2 : Int32 → St → Option St => ∀ (v1 : Int32) (S1 : St), k2 v1 S1 = some Sz → ph S1 ≤ ph Sz ∧ (ph S ≤ ph S1 → ∀ (q1 q2 : Nat) (H : Heap) (locs : List Loc) (ls : Array Slot), gw D A s.heap H locs (ccells cs a q1 q2 S1) → lv_has ls 3 [(0, .ref (a 26)), (1, .ref (adK i)), (2, .int v1)] → W p l e (rmG 4 85 S Sz) s m args below meth c H locs (ph S1 - ph S) (2 * (ph S1 - ph S)) Q (F0 m 2 ls []))) ?_ ?_ ?_ hf
  · intro v1 S1 h; cases h
  · intro k2 hk2 v1 S1 hf
    unfold b_X6_addAll_2 at hf
    have gzS1 : ph S1 ≤ ph Sz := by
      rcases it_s hf with ⟨-, hf⟩ | ⟨-, hf⟩
      · cases so_1 hf; omega
      · obtain ⟨-, hf⟩ := ck_s hf
        obtain ⟨S2, hc, hf⟩ := bd_s hf
        have gS2 : ph S1 ≤ ph S2 := mo_X6_add_26 hc
        replace hf := nm_q rfl hf
        have hj := (hk2 _ _ hf).1
        omega
    refine ⟨gzS1, ?_⟩
    intro hpS1 q1 q2 H locs ls hM hl
    refine lv_iload_n hx hb dX6_addAll_2 rfl (lv_at hl 2 rfl) ?_
    refine lv_aload_n hx hb dX6_addAll_3 rfl (lv_at hl 1 rfl) ?_
    refine gSV_i hC hM hA hR hZ hl.1 [] [.int v1] (c_length l D cs adK adV (ccells cs a q1 q2 S1) hi) gX6_addAll_J0_length_8abf5 rfl hd_J0_length ⟨Nat.le_of_ble_eq_true rfl, Nat.le_of_ble_eq_true rfl⟩ (vk_recv hZ.1 hi hM.2.2) (Nat.le_of_ble_eq_true rfl) dX6_addAll_4 rfl ⟨by show _ + 0 ≤ ph Sz - ph S; omega, by show _ + 0 ≤ 2 * (ph Sz - ph S); omega⟩ (fun H locs hM => ?_)
    refine W.widen (k := ph S1 - ph S) (n := 2 * (ph S1 - ph S)) (Nat.le_refl _) (Nat.le_refl _) ?_
    refine lv_icmp_ge (tgt := 25) hx hb dX6_addAll_7 (by decide) (fun c1 => ?_) (fun c1 => ?_)
    · replace hf := it_t c1 hf
      cases so_1 hf
      exact hQ _ _ _ _ _ _ _ _ dX6_addAll_25 hM (by omega) (by omega)
    · replace hf := it_f c1 hf
      obtain ⟨h2, hf⟩ := ck_s hf
      refine lv_aload_n hx hb dX6_addAll_10 rfl (lv_at hl 0 rfl) ?_
      refine lv_aload_n hx hb dX6_addAll_11 rfl (lv_at hl 1 rfl) ?_
      refine lv_iload_n hx hb dX6_addAll_12 rfl (lv_at hl 2 rfl) ?_
      refine gSV_i hC hM hA hR hZ hl.1 [.int v1] [.ref (a 26)] (c_charAt l D cs adK adV (ccells cs a _ _ S1) hi v1 (fun q => h2 (Or.inl q)) (Int32.not_le.mp c1) h2) gX6_addAll_J0_charAt_5068e rfl hd_J0_charAt ⟨Nat.le_of_ble_eq_true rfl, Nat.le_of_ble_eq_true rfl⟩ (vk_recv hZ.1 hi hM.2.2) (Nat.le_of_ble_eq_true rfl) dX6_addAll_13 rfl ⟨by show _ + 0 ≤ ph Sz - ph S; omega, by show _ + 0 ≤ 2 * (ph Sz - ph S); omega⟩ (fun H locs hM => ?_)
      refine W.widen (k := ph S1 - ph S) (n := 2 * (ph S1 - ph S)) (Nat.le_refl _) (Nat.le_refl _) ?_
      obtain ⟨S2, hc, hf⟩ := bd_s hf
      have gS2 : ph S1 ≤ ph S2 := mo_X6_add_26 hc
      have gzS2 : ph S2 ≤ ph Sz := (hk2 _ _ hf).1
      refine gGV_v hC hM hA hR hZ hl.1 [.int (zch i v1.toNatClampNeg)] [] (c_X6_add_26 l D cs adK adV a q1 q2 N (zch i v1.toNatClampNeg) S1 S2 hc) gX6_addAll_X6_add rfl hd_X6_add ⟨Nat.le_of_ble_eq_true rfl, Nat.le_of_ble_eq_true rfl⟩ 26 6 clX6 rfl cE26 (Nat.le_of_ble_eq_true rfl) dX6_addAll_16 rfl ⟨by show _ + (ph S2 - ph S1) ≤ ph Sz - ph S; omega, by show _ + 2 * (ph S2 - ph S1) ≤ 2 * (ph Sz - ph S); omega⟩ (fun q1 q2 H locs hM => ?_)
      refine W.widen (k := ph S2 - ph S) (n := 2 * (ph S2 - ph S)) (by omega) (by omega) ?_
      obtain ⟨v3, ev3⟩ : ∃ y : Int32, y = v1 + 1 := ⟨_, rfl⟩
      replace hf := nm_q ev3 hf
      refine lv_iinc (v := v3) (lv' := [(2, .int v3), (0, .ref (a 26)), (1, .ref (adK i))]) hx hb dX6_addAll_19 hl (k := 2) rfl (by rw [ev3]; rfl) (by decide) rfl (fun ls hl => ?_)
      refine lv_goto (tgt := 2) hx hb dX6_addAll_22 (by decide) ?_
      exact (hk2 _ _ hf).2 (by omega) _ _ _ _ _ hM (lv_sub hl [1, 2, 0] rfl)
  · intro k2 hk2 hf
    refine W.widen (k := ph S - ph S) (n := 2 * (ph S - ph S)) (by omega) (by omega) ?_
    exact (hk2 _ _ hf).2 (Nat.le_refl _) _ _ _ _ _ hM (lv_sub hl [1, 2, 0] rfl)
