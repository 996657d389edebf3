theorem hd_X6_addWord : yX6_addWord.cls = RX6 ∧ yX6_addWord.cls ≠ "java/lang/invoke/MethodHandle" ∧ yX6_addWord.cls ≠ "java/lang/invoke/VarHandle" ∧ (parseMethodDescriptor yX6_addWord.desc).map (fun d => d.parameters.length) = some 1 := by decide +kernel
def j_X6_addWord_30 (v1 : Int32) (k3 : Int32 → St → Option (St)) (S5 : St) : Option (St) :=
  nm (v1 + (-5)) fun v6 =>
  k3 v6 S5
def b_X6_addWord_3 (rr : Nat) (N : Nat) (p0 : Int64) (k3 : Int32 → St → Option (St)) (v1 : Int32) (S2 : St) : Option (St) :=
  if v1 < 0 then
    some S2
  else
    nm ((p0 >>> (v1.toInt64 &&& 63)).toInt32 &&& 31) fun v4 =>
    jp (j_X6_addWord_30 v1 k3) fun k30 =>
    if v4 = 0 then
      k30 S2
    else
      bd (f_X6_add N rr (v4 + 96) S2) fun S8 =>
      k30 S8
def f_X6_addWord (N : Nat) (rr : Nat) (p0 : Int64) (S : St) : Option (St) :=
  jp (lp (fun _ _ => none) (b_X6_addWord_3 rr N p0) N) fun k3 =>
  k3 55 S
theorem mo_X6_addWord_24 {N : Nat} {p0 : Int64} {S : St} {Sz : St} (hf : f_X6_addWord N 24 p0 S = some Sz) : ph S ≤ ph Sz := by
  unfold f_X6_addWord at hf
  refine jl_W (fun k3 : Int32 → St → Option (St) => ∀ (v1 : Int32) (S2 : St), k3 v1 S2 = some Sz → ph S2 ≤ ph Sz ∧ True) ?_ ?_ ?_ hf
  · intro v1 S2 h; cases h
  · intro k3 hk3 v1 S2 hf
    unfold b_X6_addWord_3 at hf
    refine ⟨?_, trivial⟩
    rcases it_s hf with ⟨-, hf⟩ | ⟨-, hf⟩
    · skip
      cases so_1 hf
      omega
    · skip
      replace hf := nm_q rfl hf
      refine jp_W (fun k30 : St → Option (St) => ∀ (S5 : St), k30 S5 = some Sz → ph S5 ≤ ph Sz ∧ True) ?_ ?_ hf
      · intro S5 hf
        unfold j_X6_addWord_30 at hf
        refine ⟨?_, trivial⟩
        replace hf := nm_q rfl hf
        have hj := (hk3 _ _ hf).1
        omega
      · intro k30 hk30 hf
        rcases it_s hf with ⟨-, hf⟩ | ⟨-, hf⟩
        · skip
          have hj := (hk30 _ hf).1
          omega
        · skip
          obtain ⟨S8, hc, hf⟩ := bd_s hf
          have gS8 : ph S2 ≤ ph S8 := mo_X6_add_24 hc
          have hj := (hk30 _ hf).1
          omega
  · intro k3 hk3 hf
    have hj := (hk3 _ _ hf).1
    omega
set_option maxRecDepth 100000 in
set_option maxHeartbeats 4000000 in
theorem c_X6_addWord_24 (l : Launch) (D : va_G) (cs : Nat → ClassId) (adK adV : Nat → Nat) (a : Nat → Nat) (q1 q2 : Nat) (N : Nat) (p0 : Int64) (S : St) (Sz : St) (hf : f_X6_addWord N 24 p0 S = some Sz) : gGv l yX6_addWord wsX6_addWord 3 63 D cs adK adV [.ref (a 24), .long p0] a q1 q2 S Sz := by
  have hzz : ph S ≤ ph Sz := mo_X6_addWord_24 hf
  unfold f_X6_addWord at hf
  refine gGE_v (cc := cX6_addWord) (maxL := 5) (by decide) rfl (Nat.le_of_ble_eq_true rfl) ?_
  intro p e s m args below meth c A Q hC hA hR hZ hQ hM ls hl
  obtain ⟨hx, hb, hml, hown, hts⟩ := hC.1
  have hl : lv_has ls 5 [(0, .ref (a 24)), (1, .long p0)] := hl
  have hpS : ph S ≤ ph S := Nat.le_refl _
  refine lv_bipush (v := 55) hx hb dX6_addWord_0 (by decide) ?_
  refine lv_istore_n (lv' := [(3, .int 55), (0, .ref (a 24)), (1, .long p0)]) hx hb dX6_addWord_2 rfl hl (by decide) rfl (fun ls hl => ?_)
  refine jl_W (fun k3 : Int32 → St → Option (St) => ∀ (v1 : Int32) (S2 : St), k3 v1 S2 = some Sz → ph S2 ≤ ph Sz ∧ (ph S ≤ ph S2 → ∀ (q1 q2 : Nat) (H : Heap) (locs : List Loc) (ls : Array Slot), gw D A s.heap H locs (ccells cs a q1 q2 S2) → lv_has ls 5 [(0, .ref (a 24)), (1, .long p0), (3, .int v1)] → W p l e (rmG 3 63 S Sz) s m args below meth c H locs (ph S2 - ph S) (2 * (ph S2 - ph S)) Q (F0 m 3 ls []))) ?_ ?_ ?_ hf
  · intro v1 S2 h; cases h
  · intro k3 hk3 v1 S2 hf
    unfold b_X6_addWord_3 at hf
    have gzS2 : ph S2 ≤ ph Sz := by
      rcases it_s hf with ⟨-, hf⟩ | ⟨-, hf⟩
      · skip
        cases so_1 hf
        omega
      · skip
        replace hf := nm_q rfl hf
        refine jp_W (fun k30 : St → Option (St) => ∀ (S5 : St), k30 S5 = some Sz → ph S5 ≤ ph Sz ∧ True) ?_ ?_ hf
        · intro S5 hf
          unfold j_X6_addWord_30 at hf
          refine ⟨?_, trivial⟩
          replace hf := nm_q rfl hf
          have hj := (hk3 _ _ hf).1
          omega
        · intro k30 hk30 hf
          rcases it_s hf with ⟨-, hf⟩ | ⟨-, hf⟩
          · skip
            have hj := (hk30 _ hf).1
            omega
          · skip
            obtain ⟨S8, hc, hf⟩ := bd_s hf
            have gS8 : ph S2 ≤ ph S8 := mo_X6_add_24 hc
            have hj := (hk30 _ hf).1
            omega
    refine ⟨gzS2, ?_⟩
    intro hpS2 q1 q2 H locs ls hM hl
    refine lv_iload_n hx hb dX6_addWord_3 rfl (lv_at hl 2 rfl) ?_
    refine lv_if_lt (tgt := 36) hx hb dX6_addWord_4 (by decide) (fun c3 => ?_) (fun c3 => ?_)
    · replace hf := it_t c3 hf
      cases so_1 hf
      exact hQ _ _ _ _ _ _ _ _ dX6_addWord_36 hM (by omega) (by omega)
    · replace hf := it_f c3 hf
      refine lv_lload_n hx hb dX6_addWord_7 rfl (lv_at hl 1 rfl) ?_
      refine lv_iload_n hx hb dX6_addWord_8 rfl (lv_at hl 2 rfl) ?_
      refine lv_lshr hx hb dX6_addWord_9 rfl ?_
      refine lv_l2i hx hb dX6_addWord_10 rfl ?_
      refine lv_bipush (v := 31) hx hb dX6_addWord_11 (by decide) ?_
      refine lv_iand hx hb dX6_addWord_13 ?_
      refine lv_topi (fun v4 ev4 => ?_)
      replace hf := nm_q ev4 hf
      refine lv_istore (lv' := [(4, .int v4), (0, .ref (a 24)), (1, .long p0), (3, .int v1)]) hx hb dX6_addWord_14 hl (by decide) rfl (fun ls hl => ?_)
      refine lv_iload hx hb dX6_addWord_16 (lv_at hl 0 rfl) ?_
      refine jp_W (fun k30 : St → Option (St) => ∀ (S5 : St), k30 S5 = some Sz → ph S5 ≤ ph Sz ∧ (ph S ≤ ph S5 → ∀ (q1 q2 : Nat) (H : Heap) (locs : List Loc) (ls : Array Slot), gw D A s.heap H locs (ccells cs a q1 q2 S5) → lv_has ls 5 [(0, .ref (a 24)), (1, .long p0), (3, .int v1)] → W p l e (rmG 3 63 S Sz) s m args below meth c H locs (ph S5 - ph S) (2 * (ph S5 - ph S)) Q (F0 m 30 ls []))) ?_ ?_ hf
      · intro S5 hf
        unfold j_X6_addWord_30 at hf
        have gzS5 : ph S5 ≤ ph Sz := by
          replace hf := nm_q rfl hf
          have hj := (hk3 _ _ hf).1
          omega
        refine ⟨gzS5, ?_⟩
        intro hpS5 q1 q2 H locs ls hM hl
        obtain ⟨v6, ev6⟩ : ∃ y : Int32, y = v1 + (-5) := ⟨_, rfl⟩
        replace hf := nm_q ev6 hf
        refine lv_iinc (v := v6) (lv' := [(3, .int v6), (0, .ref (a 24)), (1, .long p0)]) hx hb dX6_addWord_30 hl (k := 2) rfl (by rw [ev6]; rfl) (by decide) rfl (fun ls hl => ?_)
        refine lv_goto (tgt := 3) hx hb dX6_addWord_33 (by decide) ?_
        refine W.widen (k := ph S5 - ph S) (n := 2 * (ph S5 - ph S)) (by omega) (by omega) ?_
        exact (hk3 _ _ hf).2 (by omega) _ _ _ _ _ hM (lv_sub hl [1, 2, 0] rfl)
      · intro k30 hk30 hf
        refine lv_if_eq (tgt := 30) hx hb dX6_addWord_18 (by decide) (fun c7 => ?_) (fun c7 => ?_)
        · replace hf := it_t c7 hf
          refine W.widen (k := ph S2 - ph S) (n := 2 * (ph S2 - ph S)) (by omega) (by omega) ?_
          exact (hk30 _ hf).2 (by omega) _ _ _ _ _ hM (lv_sub hl [1, 2, 3] rfl)
        · replace hf := it_f c7 hf
          refine lv_aload_n hx hb dX6_addWord_21 rfl (lv_at hl 1 rfl) ?_
          refine lv_iload hx hb dX6_addWord_22 (lv_at hl 0 rfl) ?_
          refine lv_bipush (v := 96) hx hb dX6_addWord_24 (by decide) ?_
          refine lv_iadd hx hb dX6_addWord_26 ?_
          refine W.widen (k := ph S2 - ph S) (n := 2 * (ph S2 - ph S)) (by omega) (by omega) ?_
          obtain ⟨S8, hc, hf⟩ := bd_s hf
          have gS8 : ph S2 ≤ ph S8 := mo_X6_add_24 hc
          have gzS8 : ph S8 ≤ ph Sz := by
            have hj := (hk30 _ hf).1
            omega
          refine gGV_v hC hM hA hR hZ hl.1 [.int (v4 + 96)] [] (c_X6_add_24 l D cs adK adV a q1 q2 N (v4 + 96) S2 S8 hc) gX6_addWord_X6_add rfl hd_X6_add ⟨Nat.le_of_ble_eq_true rfl, Nat.le_of_ble_eq_true rfl⟩ 24 6 clX6 rfl cE24 (Nat.le_of_ble_eq_true rfl) dX6_addWord_27 rfl ⟨by show _ + (ph S8 - ph S2) ≤ ph Sz - ph S; omega, by show _ + 2 * (ph S8 - ph S2) ≤ 2 * (ph Sz - ph S); omega⟩ (fun q1 q2 H locs hM => ?_)
          have hpS8 : ph S ≤ ph S8 := by omega
          refine W.widen (k := ph S8 - ph S) (n := 2 * (ph S8 - ph S)) (by omega) (by omega) ?_
          refine W.widen (k := ph S8 - ph S) (n := 2 * (ph S8 - ph S)) (by omega) (by omega) ?_
          exact (hk30 _ hf).2 (by omega) _ _ _ _ _ hM (lv_sub hl [1, 2, 3] rfl)
  · intro k3 hk3 hf
    refine W.widen (k := ph S - ph S) (n := 2 * (ph S - ph S)) (by omega) (by omega) ?_
    exact (hk3 _ _ hf).2 (by omega) _ _ _ _ _ hM (lv_sub hl [1, 2, 0] rfl)

theorem hd_X6_addHour : yX6_addHour.cls = RX6 ∧ yX6_addHour.cls ≠ "java/lang/invoke/MethodHandle" ∧ yX6_addHour.cls ≠ "java/lang/invoke/VarHandle" ∧ (parseMethodDescriptor yX6_addHour.desc).map (fun d => d.parameters.length) = some 1 := by decide +kernel
def j_X6_addHour_17 (rr : Nat) (N : Nat) (p0 : Int32) (S1 : St) : Option (St) :=
  bd (f_X6_add N rr (48 + (p0 - p0 / 10 * 10)) S1) fun S2 =>
  some S2
def f_X6_addHour (N : Nat) (rr : Nat) (p0 : Int32) (S : St) : Option (St) :=
  jp (j_X6_addHour_17 rr N p0) fun k17 =>
  if p0 < 10 then
    k17 S
  else
    bd (f_X6_add N rr (48 + (p0 / 10)) S) fun S4 =>
    k17 S4
theorem mo_X6_addHour_24 {N : Nat} {p0 : Int32} {S : St} {Sz : St} (hf : f_X6_addHour N 24 p0 S = some Sz) : ph S ≤ ph Sz := by
  unfold f_X6_addHour at hf
  refine jp_W (fun k17 : St → Option (St) => ∀ (S1 : St), k17 S1 = some Sz → ph S1 ≤ ph Sz ∧ True) ?_ ?_ hf
  · intro S1 hf
    unfold j_X6_addHour_17 at hf
    refine ⟨?_, trivial⟩
    obtain ⟨S2, hc, hf⟩ := bd_s hf
    have gS2 : ph S1 ≤ ph S2 := mo_X6_add_24 hc
    cases so_1 hf
    omega
  · intro k17 hk17 hf
    rcases it_s hf with ⟨-, hf⟩ | ⟨-, hf⟩
    · skip
      have hj := (hk17 _ hf).1
      omega
    · skip
      obtain ⟨S4, hc, hf⟩ := bd_s hf
      have gS4 : ph S ≤ ph S4 := mo_X6_add_24 hc
      have hj := (hk17 _ hf).1
      omega
set_option maxRecDepth 100000 in
set_option maxHeartbeats 4000000 in
theorem c_X6_addHour_24 (l : Launch) (D : va_G) (cs : Nat → ClassId) (adK adV : Nat → Nat) (a : Nat → Nat) (q1 q2 : Nat) (N : Nat) (p0 : Int32) (S : St) (Sz : St) (hf : f_X6_addHour N 24 p0 S = some Sz) : gGv l yX6_addHour wsX6_addHour 3 63 D cs adK adV [.ref (a 24), .int p0] a q1 q2 S Sz := by
  have hzz : ph S ≤ ph Sz := mo_X6_addHour_24 hf
  unfold f_X6_addHour at hf
  refine gGE_v (cc := cX6_addHour) (maxL := 2) (by decide) rfl (Nat.le_of_ble_eq_true rfl) ?_
  intro p e s m args below meth c A Q hC hA hR hZ hQ hM ls hl
  obtain ⟨hx, hb, hml, hown, hts⟩ := hC.1
  have hl : lv_has ls 2 [(0, .ref (a 24)), (1, .int p0)] := hl
  have hpS : ph S ≤ ph S := Nat.le_refl _
  refine lv_iload_n hx hb dX6_addHour_0 rfl (lv_at hl 1 rfl) ?_
  refine lv_bipush (v := 10) hx hb dX6_addHour_1 (by decide) ?_
  refine jp_W (fun k17 : St → Option (St) => ∀ (S1 : St), k17 S1 = some Sz → ph S1 ≤ ph Sz ∧ (ph S ≤ ph S1 → ∀ (q1 q2 : Nat) (H : Heap) (locs : List Loc) (ls : Array Slot), gw D A s.heap H locs (ccells cs a q1 q2 S1) → lv_has ls 2 [(0, .ref (a 24)), (1, .int p0)] → W p l e (rmG 3 63 S Sz) s m args below meth c H locs (ph S1 - ph S) (2 * (ph S1 - ph S)) Q (F0 m 17 ls []))) ?_ ?_ hf
  · intro S1 hf
    unfold j_X6_addHour_17 at hf
    have gzS1 : ph S1 ≤ ph Sz := by
      obtain ⟨S2, hc, hf⟩ := bd_s hf
      have gS2 : ph S1 ≤ ph S2 := mo_X6_add_24 hc
      cases so_1 hf
      omega
    refine ⟨gzS1, ?_⟩
    intro hpS1 q1 q2 H locs ls hM hl
    refine lv_aload_n hx hb dX6_addHour_17 rfl (lv_at hl 0 rfl) ?_
    refine lv_bipush (v := 48) hx hb dX6_addHour_18 (by decide) ?_
    refine lv_iload_n hx hb dX6_addHour_20 rfl (lv_at hl 1 rfl) ?_
    refine lv_bipush (v := 10) hx hb dX6_addHour_21 (by decide) ?_
    refine lv_irem hx hb dX6_addHour_23 (by decide) ?_
    refine lv_iadd hx hb dX6_addHour_24 ?_
    refine W.widen (k := ph S1 - ph S) (n := 2 * (ph S1 - ph S)) (by omega) (by omega) ?_
    obtain ⟨S2, hc, hf⟩ := bd_s hf
    have gS2 : ph S1 ≤ ph S2 := mo_X6_add_24 hc
    have gzS2 : ph S2 ≤ ph Sz := by
      cases so_1 hf
      omega
    refine gGV_v hC hM hA hR hZ hl.1 [.int (48 + (p0 - p0 / 10 * 10))] [] (c_X6_add_24 l D cs adK adV a q1 q2 N (48 + (p0 - p0 / 10 * 10)) S1 S2 hc) gX6_addHour_X6_add rfl hd_X6_add ⟨Nat.le_of_ble_eq_true rfl, Nat.le_of_ble_eq_true rfl⟩ 24 6 clX6 rfl cE24 (Nat.le_of_ble_eq_true rfl) dX6_addHour_25 rfl ⟨by show _ + (ph S2 - ph S1) ≤ ph Sz - ph S; omega, by show _ + 2 * (ph S2 - ph S1) ≤ 2 * (ph Sz - ph S); omega⟩ (fun q1 q2 H locs hM => ?_)
    have hpS2 : ph S ≤ ph S2 := by omega
    refine W.widen (k := ph S2 - ph S) (n := 2 * (ph S2 - ph S)) (by omega) (by omega) ?_
    cases so_1 hf
    exact hQ _ _ _ _ _ _ _ _ dX6_addHour_28 hM (by omega) (by omega)
  · intro k17 hk17 hf
    refine lv_icmp_lt (tgt := 17) hx hb dX6_addHour_3 (by decide) (fun c3 => ?_) (fun c3 => ?_)
    · replace hf := it_t c3 hf
      refine W.widen (k := ph S - ph S) (n := 2 * (ph S - ph S)) (by omega) (by omega) ?_
      exact (hk17 _ hf).2 (by omega) _ _ _ _ _ hM hl
    · replace hf := it_f c3 hf
      refine lv_aload_n hx hb dX6_addHour_6 rfl (lv_at hl 0 rfl) ?_
      refine lv_bipush (v := 48) hx hb dX6_addHour_7 (by decide) ?_
      refine lv_iload_n hx hb dX6_addHour_9 rfl (lv_at hl 1 rfl) ?_
      refine lv_bipush (v := 10) hx hb dX6_addHour_10 (by decide) ?_
      refine lv_idiv hx hb dX6_addHour_12 (by decide) ?_
      refine lv_iadd hx hb dX6_addHour_13 ?_
      refine W.widen (k := ph S - ph S) (n := 2 * (ph S - ph S)) (by omega) (by omega) ?_
      obtain ⟨S4, hc, hf⟩ := bd_s hf
      have gS4 : ph S ≤ ph S4 := mo_X6_add_24 hc
      have gzS4 : ph S4 ≤ ph Sz := by
        have hj := (hk17 _ hf).1
        omega
      refine gGV_v hC hM hA hR hZ hl.1 [.int (48 + (p0 / 10))] [] (c_X6_add_24 l D cs adK adV a q1 q2 N (48 + (p0 / 10)) S S4 hc) gX6_addHour_X6_add rfl hd_X6_add ⟨Nat.le_of_ble_eq_true rfl, Nat.le_of_ble_eq_true rfl⟩ 24 6 clX6 rfl cE24 (Nat.le_of_ble_eq_true rfl) dX6_addHour_14 rfl ⟨by show _ + (ph S4 - ph S) ≤ ph Sz - ph S; omega, by show _ + 2 * (ph S4 - ph S) ≤ 2 * (ph Sz - ph S); omega⟩ (fun q1 q2 H locs hM => ?_)
      have hpS4 : ph S ≤ ph S4 := by omega
      refine W.widen (k := ph S4 - ph S) (n := 2 * (ph S4 - ph S)) (by omega) (by omega) ?_
      refine W.widen (k := ph S4 - ph S) (n := 2 * (ph S4 - ph S)) (by omega) (by omega) ?_
      exact (hk17 _ hf).2 (by omega) _ _ _ _ _ hM hl

theorem mo_X6_addWord_26 {N : Nat} {p0 : Int64} {S : St} {Sz : St} (hf : f_X6_addWord N 26 p0 S = some Sz) : ph S ≤ ph Sz := by
  unfold f_X6_addWord at hf
  refine jl_W (fun k3 : Int32 → St → Option (St) => ∀ (v1 : Int32) (S2 : St), k3 v1 S2 = some Sz → ph S2 ≤ ph Sz ∧ True) ?_ ?_ ?_ hf
  · intro v1 S2 h; cases h
  · intro k3 hk3 v1 S2 hf
    unfold b_X6_addWord_3 at hf
    refine ⟨?_, trivial⟩
    rcases it_s hf with ⟨-, hf⟩ | ⟨-, hf⟩
    · skip
      cases so_1 hf
      omega
    · skip
      replace hf := nm_q rfl hf
      refine jp_W (fun k30 : St → Option (St) => ∀ (S5 : St), k30 S5 = some Sz → ph S5 ≤ ph Sz ∧ True) ?_ ?_ hf
      · intro S5 hf
        unfold j_X6_addWord_30 at hf
        refine ⟨?_, trivial⟩
        replace hf := nm_q rfl hf
        have hj := (hk3 _ _ hf).1
        omega
      · intro k30 hk30 hf
        rcases it_s hf with ⟨-, hf⟩ | ⟨-, hf⟩
        · skip
          have hj := (hk30 _ hf).1
          omega
        · skip
          obtain ⟨S8, hc, hf⟩ := bd_s hf
          have gS8 : ph S2 ≤ ph S8 := mo_X6_add_26 hc
          have hj := (hk30 _ hf).1
          omega
  · intro k3 hk3 hf
    have hj := (hk3 _ _ hf).1
    omega
set_option maxRecDepth 100000 in
set_option maxHeartbeats 4000000 in
theorem c_X6_addWord_26 (l : Launch) (D : va_G) (cs : Nat → ClassId) (adK adV : Nat → Nat) (a : Nat → Nat) (q1 q2 : Nat) (N : Nat) (p0 : Int64) (S : St) (Sz : St) (hf : f_X6_addWord N 26 p0 S = some Sz) : gGv l yX6_addWord wsX6_addWord 3 63 D cs adK adV [.ref (a 26), .long p0] a q1 q2 S Sz := by
  have hzz : ph S ≤ ph Sz := mo_X6_addWord_26 hf
  unfold f_X6_addWord at hf
  refine gGE_v (cc := cX6_addWord) (maxL := 5) (by decide) rfl (Nat.le_of_ble_eq_true rfl) ?_
  intro p e s m args below meth c A Q hC hA hR hZ hQ hM ls hl
  obtain ⟨hx, hb, hml, hown, hts⟩ := hC.1
  have hl : lv_has ls 5 [(0, .ref (a 26)), (1, .long p0)] := hl
  have hpS : ph S ≤ ph S := Nat.le_refl _
  refine lv_bipush (v := 55) hx hb dX6_addWord_0 (by decide) ?_
  refine lv_istore_n (lv' := [(3, .int 55), (0, .ref (a 26)), (1, .long p0)]) hx hb dX6_addWord_2 rfl hl (by decide) rfl (fun ls hl => ?_)
  refine jl_W (fun k3 : Int32 → St → Option (St) => ∀ (v1 : Int32) (S2 : St), k3 v1 S2 = some Sz → ph S2 ≤ ph Sz ∧ (ph S ≤ ph S2 → ∀ (q1 q2 : Nat) (H : Heap) (locs : List Loc) (ls : Array Slot), gw D A s.heap H locs (ccells cs a q1 q2 S2) → lv_has ls 5 [(0, .ref (a 26)), (1, .long p0), (3, .int v1)] → W p l e (rmG 3 63 S Sz) s m args below meth c H locs (ph S2 - ph S) (2 * (ph S2 - ph S)) Q (F0 m 3 ls []))) ?_ ?_ ?_ hf
  · intro v1 S2 h; cases h
  · intro k3 hk3 v1 S2 hf
    unfold b_X6_addWord_3 at hf
    have gzS2 : ph S2 ≤ ph Sz := by
      rcases it_s hf with ⟨-, hf⟩ | ⟨-, hf⟩
      · skip
        cases so_1 hf
        omega
      · skip
        replace hf := nm_q rfl hf
        refine jp_W (fun k30 : St → Option (St) => ∀ (S5 : St), k30 S5 = some Sz → ph S5 ≤ ph Sz ∧ True) ?_ ?_ hf
        · intro S5 hf
          unfold j_X6_addWord_30 at hf
          refine ⟨?_, trivial⟩
          replace hf := nm_q rfl hf
          have hj := (hk3 _ _ hf).1
          omega
        · intro k30 hk30 hf
          rcases it_s hf with ⟨-, hf⟩ | ⟨-, hf⟩
          · skip
            have hj := (hk30 _ hf).1
            omega
          · skip
            obtain ⟨S8, hc, hf⟩ := bd_s hf
            have gS8 : ph S2 ≤ ph S8 := mo_X6_add_26 hc
            have hj := (hk30 _ hf).1
            omega
    refine ⟨gzS2, ?_⟩
    intro hpS2 q1 q2 H locs ls hM hl
    refine lv_iload_n hx hb dX6_addWord_3 rfl (lv_at hl 2 rfl) ?_
    refine lv_if_lt (tgt := 36) hx hb dX6_addWord_4 (by decide) (fun c3 => ?_) (fun c3 => ?_)
    · replace hf := it_t c3 hf
      cases so_1 hf
      exact hQ _ _ _ _ _ _ _ _ dX6_addWord_36 hM (by omega) (by omega)
    · replace hf := it_f c3 hf
      refine lv_lload_n hx hb dX6_addWord_7 rfl (lv_at hl 1 rfl) ?_
      refine lv_iload_n hx hb dX6_addWord_8 rfl (lv_at hl 2 rfl) ?_
      refine lv_lshr hx hb dX6_addWord_9 rfl ?_
      refine lv_l2i hx hb dX6_addWord_10 rfl ?_
      refine lv_bipush (v := 31) hx hb dX6_addWord_11 (by decide) ?_
      refine lv_iand hx hb dX6_addWord_13 ?_
      refine lv_topi (fun v4 ev4 => ?_)
      replace hf := nm_q ev4 hf
      refine lv_istore (lv' := [(4, .int v4), (0, .ref (a 26)), (1, .long p0), (3, .int v1)]) hx hb dX6_addWord_14 hl (by decide) rfl (fun ls hl => ?_)
      refine lv_iload hx hb dX6_addWord_16 (lv_at hl 0 rfl) ?_
      refine jp_W (fun k30 : St → Option (St) => ∀ (S5 : St), k30 S5 = some Sz → ph S5 ≤ ph Sz ∧ (ph S ≤ ph S5 → ∀ (q1 q2 : Nat) (H : Heap) (locs : List Loc) (ls : Array Slot), gw D A s.heap H locs (ccells cs a q1 q2 S5) → lv_has ls 5 [(0, .ref (a 26)), (1, .long p0), (3, .int v1)] → W p l e (rmG 3 63 S Sz) s m args below meth c H locs (ph S5 - ph S) (2 * (ph S5 - ph S)) Q (F0 m 30 ls []))) ?_ ?_ hf
      · intro S5 hf
        unfold j_X6_addWord_30 at hf
        have gzS5 : ph S5 ≤ ph Sz := by
          replace hf := nm_q rfl hf
          have hj := (hk3 _ _ hf).1
          omega
        refine ⟨gzS5, ?_⟩
        intro hpS5 q1 q2 H locs ls hM hl
        obtain ⟨v6, ev6⟩ : ∃ y : Int32, y = v1 + (-5) := ⟨_, rfl⟩
        replace hf := nm_q ev6 hf
        refine lv_iinc (v := v6) (lv' := [(3, .int v6), (0, .ref (a 26)), (1, .long p0)]) hx hb dX6_addWord_30 hl (k := 2) rfl (by rw [ev6]; rfl) (by decide) rfl (fun ls hl => ?_)
        refine lv_goto (tgt := 3) hx hb dX6_addWord_33 (by decide) ?_
        refine W.widen (k := ph S5 - ph S) (n := 2 * (ph S5 - ph S)) (by omega) (by omega) ?_
        exact (hk3 _ _ hf).2 (by omega) _ _ _ _ _ hM (lv_sub hl [1, 2, 0] rfl)
      · intro k30 hk30 hf
        refine lv_if_eq (tgt := 30) hx hb dX6_addWord_18 (by decide) (fun c7 => ?_) (fun c7 => ?_)
        · replace hf := it_t c7 hf
          refine W.widen (k := ph S2 - ph S) (n := 2 * (ph S2 - ph S)) (by omega) (by omega) ?_
          exact (hk30 _ hf).2 (by omega) _ _ _ _ _ hM (lv_sub hl [1, 2, 3] rfl)
        · replace hf := it_f c7 hf
          refine lv_aload_n hx hb dX6_addWord_21 rfl (lv_at hl 1 rfl) ?_
          refine lv_iload hx hb dX6_addWord_22 (lv_at hl 0 rfl) ?_
          refine lv_bipush (v := 96) hx hb dX6_addWord_24 (by decide) ?_
          refine lv_iadd hx hb dX6_addWord_26 ?_
          refine W.widen (k := ph S2 - ph S) (n := 2 * (ph S2 - ph S)) (by omega) (by omega) ?_
          obtain ⟨S8, hc, hf⟩ := bd_s hf
          have gS8 : ph S2 ≤ ph S8 := mo_X6_add_26 hc
          have gzS8 : ph S8 ≤ ph Sz := by
            have hj := (hk30 _ hf).1
            omega
          refine gGV_v hC hM hA hR hZ hl.1 [.int (v4 + 96)] [] (c_X6_add_26 l D cs adK adV a q1 q2 N (v4 + 96) S2 S8 hc) gX6_addWord_X6_add rfl hd_X6_add ⟨Nat.le_of_ble_eq_true rfl, Nat.le_of_ble_eq_true rfl⟩ 26 6 clX6 rfl cE26 (Nat.le_of_ble_eq_true rfl) dX6_addWord_27 rfl ⟨by show _ + (ph S8 - ph S2) ≤ ph Sz - ph S; omega, by show _ + 2 * (ph S8 - ph S2) ≤ 2 * (ph Sz - ph S); omega⟩ (fun q1 q2 H locs hM => ?_)
          have hpS8 : ph S ≤ ph S8 := by omega
          refine W.widen (k := ph S8 - ph S) (n := 2 * (ph S8 - ph S)) (by omega) (by omega) ?_
          refine W.widen (k := ph S8 - ph S) (n := 2 * (ph S8 - ph S)) (by omega) (by omega) ?_
          exact (hk30 _ hf).2 (by omega) _ _ _ _ _ hM (lv_sub hl [1, 2, 3] rfl)
  · intro k3 hk3 hf
    refine W.widen (k := ph S - ph S) (n := 2 * (ph S - ph S)) (by omega) (by omega) ?_
    exact (hk3 _ _ hf).2 (by omega) _ _ _ _ _ hM (lv_sub hl [1, 2, 0] rfl)

theorem mo_X6_addHour_26 {N : Nat} {p0 : Int32} {S : St} {Sz : St} (hf : f_X6_addHour N 26 p0 S = some Sz) : ph S ≤ ph Sz := by
  unfold f_X6_addHour at hf
  refine jp_W (fun k17 : St → Option (St) => ∀ (S1 : St), k17 S1 = some Sz → ph S1 ≤ ph Sz ∧ True) ?_ ?_ hf
  · intro S1 hf
    unfold j_X6_addHour_17 at hf
    refine ⟨?_, trivial⟩
    obtain ⟨S2, hc, hf⟩ := bd_s hf
    have gS2 : ph S1 ≤ ph S2 := mo_X6_add_26 hc
    cases so_1 hf
    omega
  · intro k17 hk17 hf
    rcases it_s hf with ⟨-, hf⟩ | ⟨-, hf⟩
    · skip
      have hj := (hk17 _ hf).1
      omega
    · skip
      obtain ⟨S4, hc, hf⟩ := bd_s hf
      have gS4 : ph S ≤ ph S4 := mo_X6_add_26 hc
      have hj := (hk17 _ hf).1
      omega
set_option maxRecDepth 100000 in
set_option maxHeartbeats 4000000 in
theorem c_X6_addHour_26 (l : Launch) (D : va_G) (cs : Nat → ClassId) (adK adV : Nat → Nat) (a : Nat → Nat) (q1 q2 : Nat) (N : Nat) (p0 : Int32) (S : St) (Sz : St) (hf : f_X6_addHour N 26 p0 S = some Sz) : gGv l yX6_addHour wsX6_addHour 3 63 D cs adK adV [.ref (a 26), .int p0] a q1 q2 S Sz := by
  have hzz : ph S ≤ ph Sz := mo_X6_addHour_26 hf
  unfold f_X6_addHour at hf
  refine gGE_v (cc := cX6_addHour) (maxL := 2) (by decide) rfl (Nat.le_of_ble_eq_true rfl) ?_
  intro p e s m args below meth c A Q hC hA hR hZ hQ hM ls hl
  obtain ⟨hx, hb, hml, hown, hts⟩ := hC.1
  have hl : lv_has ls 2 [(0, .ref (a 26)), (1, .int p0)] := hl
  have hpS : ph S ≤ ph S := Nat.le_refl _
  refine lv_iload_n hx hb dX6_addHour_0 rfl (lv_at hl 1 rfl) ?_
  refine lv_bipush (v := 10) hx hb dX6_addHour_1 (by decide) ?_
  refine jp_W (fun k17 : St → Option (St) => ∀ (S1 : St), k17 S1 = some Sz → ph S1 ≤ ph Sz ∧ (ph S ≤ ph S1 → ∀ (q1 q2 : Nat) (H : Heap) (locs : List Loc) (ls : Array Slot), gw D A s.heap H locs (ccells cs a q1 q2 S1) → lv_has ls 2 [(0, .ref (a 26)), (1, .int p0)] → W p l e (rmG 3 63 S Sz) s m args below meth c H locs (ph S1 - ph S) (2 * (ph S1 - ph S)) Q (F0 m 17 ls []))) ?_ ?_ hf
  · intro S1 hf
    unfold j_X6_addHour_17 at hf
    have gzS1 : ph S1 ≤ ph Sz := by
      obtain ⟨S2, hc, hf⟩ := bd_s hf
      have gS2 : ph S1 ≤ ph S2 := mo_X6_add_26 hc
      cases so_1 hf
      omega
    refine ⟨gzS1, ?_⟩
    intro hpS1 q1 q2 H locs ls hM hl
    refine lv_aload_n hx hb dX6_addHour_17 rfl (lv_at hl 0 rfl) ?_
    refine lv_bipush (v := 48) hx hb dX6_addHour_18 (by decide) ?_
    refine lv_iload_n hx hb dX6_addHour_20 rfl (lv_at hl 1 rfl) ?_
    refine lv_bipush (v := 10) hx hb dX6_addHour_21 (by decide) ?_
    refine lv_irem hx hb dX6_addHour_23 (by decide) ?_
    refine lv_iadd hx hb dX6_addHour_24 ?_
    refine W.widen (k := ph S1 - ph S) (n := 2 * (ph S1 - ph S)) (by omega) (by omega) ?_
    obtain ⟨S2, hc, hf⟩ := bd_s hf
    have gS2 : ph S1 ≤ ph S2 := mo_X6_add_26 hc
    have gzS2 : ph S2 ≤ ph Sz := by
      cases so_1 hf
      omega
    refine gGV_v hC hM hA hR hZ hl.1 [.int (48 + (p0 - p0 / 10 * 10))] [] (c_X6_add_26 l D cs adK adV a q1 q2 N (48 + (p0 - p0 / 10 * 10)) S1 S2 hc) gX6_addHour_X6_add rfl hd_X6_add ⟨Nat.le_of_ble_eq_true rfl, Nat.le_of_ble_eq_true rfl⟩ 26 6 clX6 rfl cE26 (Nat.le_of_ble_eq_true rfl) dX6_addHour_25 rfl ⟨by show _ + (ph S2 - ph S1) ≤ ph Sz - ph S; omega, by show _ + 2 * (ph S2 - ph S1) ≤ 2 * (ph Sz - ph S); omega⟩ (fun q1 q2 H locs hM => ?_)
    have hpS2 : ph S ≤ ph S2 := by omega
    refine W.widen (k := ph S2 - ph S) (n := 2 * (ph S2 - ph S)) (by omega) (by omega) ?_
    cases so_1 hf
    exact hQ _ _ _ _ _ _ _ _ dX6_addHour_28 hM (by omega) (by omega)
  · intro k17 hk17 hf
    refine lv_icmp_lt (tgt := 17) hx hb dX6_addHour_3 (by decide) (fun c3 => ?_) (fun c3 => ?_)
    · replace hf := it_t c3 hf
      refine W.widen (k := ph S - ph S) (n := 2 * (ph S - ph S)) (by omega) (by omega) ?_
      exact (hk17 _ hf).2 (by omega) _ _ _ _ _ hM hl
    · replace hf := it_f c3 hf
      refine lv_aload_n hx hb dX6_addHour_6 rfl (lv_at hl 0 rfl) ?_
      refine lv_bipush (v := 48) hx hb dX6_addHour_7 (by decide) ?_
      refine lv_iload_n hx hb dX6_addHour_9 rfl (lv_at hl 1 rfl) ?_
      refine lv_bipush (v := 10) hx hb dX6_addHour_10 (by decide) ?_
      refine lv_idiv hx hb dX6_addHour_12 (by decide) ?_
      refine lv_iadd hx hb dX6_addHour_13 ?_
      refine W.widen (k := ph S - ph S) (n := 2 * (ph S - ph S)) (by omega) (by omega) ?_
      obtain ⟨S4, hc, hf⟩ := bd_s hf
      have gS4 : ph S ≤ ph S4 := mo_X6_add_26 hc
      have gzS4 : ph S4 ≤ ph Sz := by
        have hj := (hk17 _ hf).1
        omega
      refine gGV_v hC hM hA hR hZ hl.1 [.int (48 + (p0 / 10))] [] (c_X6_add_26 l D cs adK adV a q1 q2 N (48 + (p0 / 10)) S S4 hc) gX6_addHour_X6_add rfl hd_X6_add ⟨Nat.le_of_ble_eq_true rfl, Nat.le_of_ble_eq_true rfl⟩ 26 6 clX6 rfl cE26 (Nat.le_of_ble_eq_true rfl) dX6_addHour_14 rfl ⟨by show _ + (ph S4 - ph S) ≤ ph Sz - ph S; omega, by show _ + 2 * (ph S4 - ph S) ≤ 2 * (ph Sz - ph S); omega⟩ (fun q1 q2 H locs hM => ?_)
      have hpS4 : ph S ≤ ph S4 := by omega
      refine W.widen (k := ph S4 - ph S) (n := 2 * (ph S4 - ph S)) (by omega) (by omega) ?_
      refine W.widen (k := ph S4 - ph S) (n := 2 * (ph S4 - ph S)) (by omega) (by omega) ?_
      exact (hk17 _ hf).2 (by omega) _ _ _ _ _ hM hl

theorem hd_X10_writeNames : yX10_writeNames.cls = RX10 ∧ yX10_writeNames.cls ≠ "java/lang/invoke/MethodHandle" ∧ yX10_writeNames.cls ≠ "java/lang/invoke/VarHandle" ∧ (parseMethodDescriptor yX10_writeNames.desc).map (fun d => d.parameters.length) = some 2 := by decide +kernel
theorem tX10_writeNames_1 : Cond.fieldLink RX10 70 "WeatherTeller" "rules" "LWeatherTeller$Rules;" ∈ wsX10_writeNames := List.mem_of_getElem? (i := 1) rfl
theorem inX10_writeNames_X10 : ∀ w ∈ u_ws RX10 TX10 13, w ∈ wsX10_writeNames := fun _ h => List.mem_cons_of_mem _ (List.mem_append_left _ (List.mem_append_left _ (List.mem_append_right _ h)))
theorem tX10_writeNames_2 : Cond.fieldLink RX10 228 "WeatherTeller$Rules" "places" "I" ∈ wsX10_writeNames := List.mem_of_getElem? (i := 2) rfl
theorem inX10_writeNames_X4 : ∀ w ∈ u_ws RX4 TX4 12, w ∈ wsX10_writeNames := fun _ h => List.mem_cons_of_mem _ (List.mem_append_left _ (List.mem_append_right _ h))
theorem tX10_writeNames_3 : Cond.fieldLink RX10 233 "WeatherTeller$Rules" "regions" "I" ∈ wsX10_writeNames := List.mem_of_getElem? (i := 3) rfl
def j_X10_writeNames_60 (v2 : Int32) (k5 : Int32 → Int32 → St → Option (St)) (v6 : Int32) (S7 : St) : Option (St) :=
  nm (v2 + 1) fun v8 =>
  k5 v6 v8 S7
def j_X10_writeNames_45 (rr : Nat) (N : Nat) (v2 : Int32) (k60 : Int32 → St → Option (St)) (S10 : St) : Option (St) :=
  bd (f_X4_wordOfName N 28 v2 S10) fun w11 =>
  bd (f_X6_addWord N rr w11 S10) fun S12 =>
  k60 0 S12
def b_X10_writeNames_5 (N : Nat) (rr : Nat) (p0 : Int32) (k5 : Int32 → Int32 → St → Option (St)) (v1 : Int32) (v2 : Int32) (S3 : St) : Option (St) :=
  if ((S3.1 28 9) + (S3.1 28 10)) ≤ v2 then
    some S3
  else
    bd (f_X10_hasBit N p0 v2) fun v5 =>
    jp (j_X10_writeNames_60 v2 k5) fun k60 =>
    if v5 = 0 then
      k60 v1 S3
    else
      jp (j_X10_writeNames_45 rr N v2 k60) fun k45 =>
      if v1 = 0 then
        bd (f_X6_addAll N rr 7 S3) fun S14 =>
        k45 S14
      else
        k45 S3
def f_X10_writeNames (N : Nat) (rr : Nat) (p0 : Int32) (S : St) : Option (St) :=
  jp (lp (fun _ _ _ => none) (b_X10_writeNames_5 N rr p0) N) fun k5 =>
  k5 1 0 S
theorem mo_X10_writeNames_24 {N : Nat} {p0 : Int32} {S : St} {Sz : St} (hf : f_X10_writeNames N 24 p0 S = some Sz) : ph S ≤ ph Sz := by
  unfold f_X10_writeNames at hf
  refine jl_W (fun k5 : Int32 → Int32 → St → Option (St) => ∀ (v1 : Int32) (v2 : Int32) (S3 : St), k5 v1 v2 S3 = some Sz → ph S3 ≤ ph Sz ∧ True) ?_ ?_ ?_ hf
  · intro v1 v2 S3 h; cases h
  · intro k5 hk5 v1 v2 S3 hf
    unfold b_X10_writeNames_5 at hf
    refine ⟨?_, trivial⟩
    rcases it_s hf with ⟨-, hf⟩ | ⟨-, hf⟩
    · skip
      cases so_1 hf
      omega
    · skip
      obtain ⟨v5, hc, hf⟩ := bd_s hf
      refine jp_W (fun k60 : Int32 → St → Option (St) => ∀ (v6 : Int32) (S7 : St), k60 v6 S7 = some Sz → ph S7 ≤ ph Sz ∧ True) ?_ ?_ hf
      · intro v6 S7 hf
        unfold j_X10_writeNames_60 at hf
        refine ⟨?_, trivial⟩
        replace hf := nm_q rfl hf
        have hj := (hk5 _ _ _ hf).1
        omega
      · intro k60 hk60 hf
        rcases it_s hf with ⟨-, hf⟩ | ⟨-, hf⟩
        · skip
          have hj := (hk60 _ _ hf).1
          omega
        · skip
          refine jp_W (fun k45 : St → Option (St) => ∀ (S10 : St), k45 S10 = some Sz → ph S10 ≤ ph Sz ∧ True) ?_ ?_ hf
          · intro S10 hf
            unfold j_X10_writeNames_45 at hf
            refine ⟨?_, trivial⟩
            obtain ⟨w11, hc, hf⟩ := bd_s hf
            obtain ⟨S12, hc, hf⟩ := bd_s hf
            have gS12 : ph S10 ≤ ph S12 := mo_X6_addWord_24 hc
            have hj := (hk60 _ _ hf).1
            omega
          · intro k45 hk45 hf
            rcases it_s hf with ⟨-, hf⟩ | ⟨-, hf⟩
            · skip
              obtain ⟨S14, hc, hf⟩ := bd_s hf
              have gS14 : ph S3 ≤ ph S14 := mo_X6_addAll_24 hc
              have hj := (hk45 _ hf).1
              omega
            · skip
              have hj := (hk45 _ hf).1
              omega
  · intro k5 hk5 hf
    have hj := (hk5 _ _ _ hf).1
    omega
set_option maxRecDepth 100000 in
set_option maxHeartbeats 4000000 in
theorem c_X10_writeNames_24 (l : Launch) (D : va_G) (cs : Nat → ClassId) (adK adV : Nat → Nat) (a : Nat → Nat) (q1 q2 : Nat) (N : Nat) (p0 : Int32) (S : St) (Sz : St) (hf : f_X10_writeNames N 24 p0 S = some Sz) : gGv l yX10_writeNames wsX10_writeNames 5 107 D cs adK adV [.ref (a 0), .int p0, .ref (a 24)] a q1 q2 S Sz := by
  have hzz : ph S ≤ ph Sz := mo_X10_writeNames_24 hf
  unfold f_X10_writeNames at hf
  refine gGE_v (cc := cX10_writeNames) (maxL := 5) (by decide) rfl (Nat.le_of_ble_eq_true rfl) ?_
  intro p e s m args below meth c A Q hC hA hR hZ hQ hM ls hl
  obtain ⟨hx, hb, hml, hown, hts⟩ := hC.1
  have hl : lv_has ls 5 [(0, .ref (a 0)), (1, .int p0), (2, .ref (a 24))] := hl
  have hpS : ph S ≤ ph S := Nat.le_refl _
  refine lv_iconst (v := 1) hx hb dX10_writeNames_0 (by decide) ?_
  refine lv_istore_n (lv' := [(3, .int 1), (0, .ref (a 0)), (1, .int p0), (2, .ref (a 24))]) hx hb dX10_writeNames_1 rfl hl (by decide) rfl (fun ls hl => ?_)
  refine lv_iconst (v := 0) hx hb dX10_writeNames_2 (by decide) ?_
  refine lv_istore (lv' := [(4, .int 0), (3, .int 1), (0, .ref (a 0)), (1, .int p0), (2, .ref (a 24))]) hx hb dX10_writeNames_3 hl (by decide) rfl (fun ls hl => ?_)
  refine jl_W (fun k5 : Int32 → Int32 → St → Option (St) => ∀ (v1 : Int32) (v2 : Int32) (S3 : St), k5 v1 v2 S3 = some Sz → ph S3 ≤ ph Sz ∧ (ph S ≤ ph S3 → ∀ (q1 q2 : Nat) (H : Heap) (locs : List Loc) (ls : Array Slot), gw D A s.heap H locs (ccells cs a q1 q2 S3) → lv_has ls 5 [(0, .ref (a 0)), (1, .int p0), (2, .ref (a 24)), (3, .int v1), (4, .int v2)] → W p l e (rmG 5 107 S Sz) s m args below meth c H locs (ph S3 - ph S) (2 * (ph S3 - ph S)) Q (F0 m 5 ls []))) ?_ ?_ ?_ hf
  · intro v1 v2 S3 h; cases h
  · intro k5 hk5 v1 v2 S3 hf
    unfold b_X10_writeNames_5 at hf
    have gzS3 : ph S3 ≤ ph Sz := by
      rcases it_s hf with ⟨-, hf⟩ | ⟨-, hf⟩
      · skip
        cases so_1 hf
        omega
      · skip
        obtain ⟨v5, hc, hf⟩ := bd_s hf
        refine jp_W (fun k60 : Int32 → St → Option (St) => ∀ (v6 : Int32) (S7 : St), k60 v6 S7 = some Sz → ph S7 ≤ ph Sz ∧ True) ?_ ?_ hf
        · intro v6 S7 hf
          unfold j_X10_writeNames_60 at hf
          refine ⟨?_, trivial⟩
          replace hf := nm_q rfl hf
          have hj := (hk5 _ _ _ hf).1
          omega
        · intro k60 hk60 hf
          rcases it_s hf with ⟨-, hf⟩ | ⟨-, hf⟩
          · skip
            have hj := (hk60 _ _ hf).1
            omega
          · skip
            refine jp_W (fun k45 : St → Option (St) => ∀ (S10 : St), k45 S10 = some Sz → ph S10 ≤ ph Sz ∧ True) ?_ ?_ hf
            · intro S10 hf
              unfold j_X10_writeNames_45 at hf
              refine ⟨?_, trivial⟩
              obtain ⟨w11, hc, hf⟩ := bd_s hf
              obtain ⟨S12, hc, hf⟩ := bd_s hf
              have gS12 : ph S10 ≤ ph S12 := mo_X6_addWord_24 hc
              have hj := (hk60 _ _ hf).1
              omega
            · intro k45 hk45 hf
              rcases it_s hf with ⟨-, hf⟩ | ⟨-, hf⟩
              · skip
                obtain ⟨S14, hc, hf⟩ := bd_s hf
                have gS14 : ph S3 ≤ ph S14 := mo_X6_addAll_24 hc
                have hj := (hk45 _ hf).1
                omega
              · skip
                have hj := (hk45 _ hf).1
                omega
    refine ⟨gzS3, ?_⟩
    intro hpS3 q1 q2 H locs ls hM hl
    refine lv_iload hx hb dX10_writeNames_5 (lv_at hl 4 rfl) ?_
    refine lv_aload_n hx hb dX10_writeNames_7 rfl (lv_at hl 0 rfl) ?_
    refine g_get hC hM inX10_writeNames_X10 0 cE0 clX10 8 (by decide) tX10_writeNames_1 TX10_8 cV0_8 dX10_writeNames_8 ?_
    refine g_get hC hM inX10_writeNames_X4 28 cE28 clX4 9 (by decide) tX10_writeNames_2 TX4_9 cV28_9 dX10_writeNames_11 ?_
    refine lv_aload_n hx hb dX10_writeNames_14 rfl (lv_at hl 0 rfl) ?_
    refine g_get hC hM inX10_writeNames_X10 0 cE0 clX10 8 (by decide) tX10_writeNames_1 TX10_8 cV0_8 dX10_writeNames_15 ?_
    refine g_get hC hM inX10_writeNames_X4 28 cE28 clX4 10 (by decide) tX10_writeNames_3 TX4_10 cV28_10 dX10_writeNames_18 ?_
    refine lv_iadd hx hb dX10_writeNames_21 ?_
    refine lv_icmp_ge (tgt := 66) hx hb dX10_writeNames_22 (by decide) (fun c4 => ?_) (fun c4 => ?_)
    · replace hf := it_t c4 hf
      cases so_1 hf
      exact hQ _ _ _ _ _ _ _ _ dX10_writeNames_66 hM (by omega) (by omega)
    · replace hf := it_f c4 hf
      refine lv_iload_n hx hb dX10_writeNames_25 rfl (lv_at hl 1 rfl) ?_
      refine lv_iload hx hb dX10_writeNames_26 (lv_at hl 4 rfl) ?_
      obtain ⟨v5, hc, hf⟩ := bd_s hf
      refine W.widen (k := ph S3 - ph S) (n := 2 * (ph S3 - ph S)) (by omega) (by omega) ?_
      refine gS_i hC hM hA hl.1 [.int p0, .int v2] [] (c_X10_hasBit l D cs (ccells cs a q1 q2 S3) N p0 v2 v5 hc) gX10_writeNames_X10_hasBit rfl hd_X10_hasBit ⟨Nat.le_of_ble_eq_true rfl, Nat.le_of_ble_eq_true rfl⟩ (Nat.le_of_ble_eq_true rfl) dX10_writeNames_28 rfl ⟨by show _ + 0 ≤ ph Sz - ph S; omega, by show _ + 0 ≤ 2 * (ph Sz - ph S); omega⟩ (fun H locs hM => ?_)
      refine W.widen (k := ph S3 - ph S) (n := 2 * (ph S3 - ph S)) (Nat.le_refl _) (Nat.le_refl _) ?_
      refine jp_W (fun k60 : Int32 → St → Option (St) => ∀ (v6 : Int32) (S7 : St), k60 v6 S7 = some Sz → ph S7 ≤ ph Sz ∧ (ph S ≤ ph S7 → ∀ (q1 q2 : Nat) (H : Heap) (locs : List Loc) (ls : Array Slot), gw D A s.heap H locs (ccells cs a q1 q2 S7) → lv_has ls 5 [(0, .ref (a 0)), (1, .int p0), (2, .ref (a 24)), (3, .int v6), (4, .int v2)] → W p l e (rmG 5 107 S Sz) s m args below meth c H locs (ph S7 - ph S) (2 * (ph S7 - ph S)) Q (F0 m 60 ls []))) ?_ ?_ hf
      · intro v6 S7 hf
        unfold j_X10_writeNames_60 at hf
        have gzS7 : ph S7 ≤ ph Sz := by
          replace hf := nm_q rfl hf
          have hj := (hk5 _ _ _ hf).1
          omega
        refine ⟨gzS7, ?_⟩
        intro hpS7 q1 q2 H locs ls hM hl
        obtain ⟨v8, ev8⟩ : ∃ y : Int32, y = v2 + 1 := ⟨_, rfl⟩
        replace hf := nm_q ev8 hf
        refine lv_iinc (v := v8) (lv' := [(4, .int v8), (0, .ref (a 0)), (1, .int p0), (2, .ref (a 24)), (3, .int v6)]) hx hb dX10_writeNames_60 hl (k := 4) rfl (by rw [ev8]; rfl) (by decide) rfl (fun ls hl => ?_)
        refine lv_goto (tgt := 5) hx hb dX10_writeNames_63 (by decide) ?_
        refine W.widen (k := ph S7 - ph S) (n := 2 * (ph S7 - ph S)) (by omega) (by omega) ?_
        exact (hk5 _ _ _ hf).2 (by omega) _ _ _ _ _ hM (lv_sub hl [1, 2, 3, 4, 0] rfl)
      · intro k60 hk60 hf
        refine lv_if_eq (tgt := 60) hx hb dX10_writeNames_31 (by decide) (fun c9 => ?_) (fun c9 => ?_)
        · replace hf := it_t c9 hf
          refine W.widen (k := ph S3 - ph S) (n := 2 * (ph S3 - ph S)) (by omega) (by omega) ?_
          exact (hk60 _ _ hf).2 (by omega) _ _ _ _ _ hM hl
        · replace hf := it_f c9 hf
          refine lv_iload_n hx hb dX10_writeNames_34 rfl (lv_at hl 3 rfl) ?_
          refine jp_W (fun k45 : St → Option (St) => ∀ (S10 : St), k45 S10 = some Sz → ph S10 ≤ ph Sz ∧ (ph S ≤ ph S10 → ∀ (q1 q2 : Nat) (H : Heap) (locs : List Loc) (ls : Array Slot), gw D A s.heap H locs (ccells cs a q1 q2 S10) → lv_has ls 5 [(0, .ref (a 0)), (1, .int p0), (2, .ref (a 24)), (4, .int v2)] → W p l e (rmG 5 107 S Sz) s m args below meth c H locs (ph S10 - ph S) (2 * (ph S10 - ph S)) Q (F0 m 45 ls []))) ?_ ?_ hf
          · intro S10 hf
            unfold j_X10_writeNames_45 at hf
            have gzS10 : ph S10 ≤ ph Sz := by
              obtain ⟨w11, hc, hf⟩ := bd_s hf
              obtain ⟨S12, hc, hf⟩ := bd_s hf
              have gS12 : ph S10 ≤ ph S12 := mo_X6_addWord_24 hc
              have hj := (hk60 _ _ hf).1
              omega
            refine ⟨gzS10, ?_⟩
            intro hpS10 q1 q2 H locs ls hM hl
            refine lv_aload_n hx hb dX10_writeNames_45 rfl (lv_at hl 2 rfl) ?_
            refine lv_aload_n hx hb dX10_writeNames_46 rfl (lv_at hl 0 rfl) ?_
            refine g_get hC hM inX10_writeNames_X10 0 cE0 clX10 8 (by decide) tX10_writeNames_1 TX10_8 cV0_8 dX10_writeNames_47 ?_
            refine lv_iload hx hb dX10_writeNames_50 (lv_at hl 3 rfl) ?_
            obtain ⟨w11, hc, hf⟩ := bd_s hf
            refine W.widen (k := ph S10 - ph S) (n := 2 * (ph S10 - ph S)) (by omega) (by omega) ?_
            refine gV_l hC hM hA hl.1 [.int v2] [.ref (a 24)] (c_X4_wordOfName_28 l D cs a q1 q2 N v2 S10 w11 hc) gX10_writeNames_X4_wordOfName rfl hd_X4_wordOfName ⟨Nat.le_of_ble_eq_true rfl, Nat.le_of_ble_eq_true rfl⟩ 28 4 clX4 rfl cE28 (Nat.le_of_ble_eq_true rfl) dX10_writeNames_52 rfl ⟨by show _ + 0 ≤ ph Sz - ph S; omega, by show _ + 0 ≤ 2 * (ph Sz - ph S); omega⟩ (fun H locs hM => ?_)
            refine W.widen (k := ph S10 - ph S) (n := 2 * (ph S10 - ph S)) (Nat.le_refl _) (Nat.le_refl _) ?_
            refine W.widen (k := ph S10 - ph S) (n := 2 * (ph S10 - ph S)) (by omega) (by omega) ?_
            obtain ⟨S12, hc, hf⟩ := bd_s hf
            have gS12 : ph S10 ≤ ph S12 := mo_X6_addWord_24 hc
            have gzS12 : ph S12 ≤ ph Sz := by
              have hj := (hk60 _ _ hf).1
              omega
            refine gGV_v hC hM hA hR hZ hl.1 [.long w11] [] (c_X6_addWord_24 l D cs adK adV a q1 q2 N w11 S10 S12 hc) gX10_writeNames_X6_addWord rfl hd_X6_addWord ⟨Nat.le_of_ble_eq_true rfl, Nat.le_of_ble_eq_true rfl⟩ 24 6 clX6 rfl cE24 (Nat.le_of_ble_eq_true rfl) dX10_writeNames_55 rfl ⟨by show _ + (ph S12 - ph S10) ≤ ph Sz - ph S; omega, by show _ + 2 * (ph S12 - ph S10) ≤ 2 * (ph Sz - ph S); omega⟩ (fun q1 q2 H locs hM => ?_)
            have hpS12 : ph S ≤ ph S12 := by omega
            refine W.widen (k := ph S12 - ph S) (n := 2 * (ph S12 - ph S)) (by omega) (by omega) ?_
            refine lv_iconst (v := 0) hx hb dX10_writeNames_58 (by decide) ?_
            refine lv_istore_n (lv' := [(3, .int 0), (0, .ref (a 0)), (1, .int p0), (2, .ref (a 24)), (4, .int v2)]) hx hb dX10_writeNames_59 rfl hl (by decide) rfl (fun ls hl => ?_)
            refine W.widen (k := ph S12 - ph S) (n := 2 * (ph S12 - ph S)) (by omega) (by omega) ?_
            exact (hk60 _ _ hf).2 (by omega) _ _ _ _ _ hM (lv_sub hl [1, 2, 3, 0, 4] rfl)
          · intro k45 hk45 hf
            refine lv_if_ne (tgt := 45) hx hb dX10_writeNames_35 (by decide) (fun c13 => ?_) (fun c13 => ?_)
            · replace hf := it_f c13 hf
              refine W.widen (k := ph S3 - ph S) (n := 2 * (ph S3 - ph S)) (by omega) (by omega) ?_
              exact (hk45 _ hf).2 (by omega) _ _ _ _ _ hM (lv_sub hl [0, 1, 2, 4] rfl)
            · replace hf := it_t c13 hf
              refine lv_aload_n hx hb dX10_writeNames_38 rfl (lv_at hl 2 rfl) ?_
              refine va_ldcwS hx hb hown (hR ("WeatherTeller", 295, ", ", 7) (by decide)) dX10_writeNames_39 ?_
              refine W.widen (k := ph S3 - ph S) (n := 2 * (ph S3 - ph S)) (by omega) (by omega) ?_
              obtain ⟨S14, hc, hf⟩ := bd_s hf
              have gS14 : ph S3 ≤ ph S14 := mo_X6_addAll_24 hc
              have gzS14 : ph S14 ≤ ph Sz := by
                have hj := (hk45 _ hf).1
                omega
              refine gGV_v hC hM hA hR hZ hl.1 [.ref (adK 7)] [] (c_X6_addAll_24 l D cs adK adV a q1 q2 N 7 (by decide) S3 S14 hc) gX10_writeNames_X6_addAll rfl hd_X6_addAll ⟨Nat.le_of_ble_eq_true rfl, Nat.le_of_ble_eq_true rfl⟩ 24 6 clX6 rfl cE24 (Nat.le_of_ble_eq_true rfl) dX10_writeNames_42 rfl ⟨by show _ + (ph S14 - ph S3) ≤ ph Sz - ph S; omega, by show _ + 2 * (ph S14 - ph S3) ≤ 2 * (ph Sz - ph S); omega⟩ (fun q1 q2 H locs hM => ?_)
              have hpS14 : ph S ≤ ph S14 := by omega
              refine W.widen (k := ph S14 - ph S) (n := 2 * (ph S14 - ph S)) (by omega) (by omega) ?_
              refine W.widen (k := ph S14 - ph S) (n := 2 * (ph S14 - ph S)) (by omega) (by omega) ?_
              exact (hk45 _ hf).2 (by omega) _ _ _ _ _ hM (lv_sub hl [0, 1, 2, 4] rfl)
  · intro k5 hk5 hf
    refine W.widen (k := ph S - ph S) (n := 2 * (ph S - ph S)) (by omega) (by omega) ?_
    exact (hk5 _ _ _ hf).2 (by omega) _ _ _ _ _ hM (lv_sub hl [2, 3, 4, 1, 0] rfl)

theorem mo_X10_writeNames_26 {N : Nat} {p0 : Int32} {S : St} {Sz : St} (hf : f_X10_writeNames N 26 p0 S = some Sz) : ph S ≤ ph Sz := by
  unfold f_X10_writeNames at hf
  refine jl_W (fun k5 : Int32 → Int32 → St → Option (St) => ∀ (v1 : Int32) (v2 : Int32) (S3 : St), k5 v1 v2 S3 = some Sz → ph S3 ≤ ph Sz ∧ True) ?_ ?_ ?_ hf
  · intro v1 v2 S3 h; cases h
  · intro k5 hk5 v1 v2 S3 hf
    unfold b_X10_writeNames_5 at hf
    refine ⟨?_, trivial⟩
    rcases it_s hf with ⟨-, hf⟩ | ⟨-, hf⟩
    · skip
      cases so_1 hf
      omega
    · skip
      obtain ⟨v5, hc, hf⟩ := bd_s hf
      refine jp_W (fun k60 : Int32 → St → Option (St) => ∀ (v6 : Int32) (S7 : St), k60 v6 S7 = some Sz → ph S7 ≤ ph Sz ∧ True) ?_ ?_ hf
      · intro v6 S7 hf
        unfold j_X10_writeNames_60 at hf
        refine ⟨?_, trivial⟩
        replace hf := nm_q rfl hf
        have hj := (hk5 _ _ _ hf).1
        omega
      · intro k60 hk60 hf
        rcases it_s hf with ⟨-, hf⟩ | ⟨-, hf⟩
        · skip
          have hj := (hk60 _ _ hf).1
          omega
        · skip
          refine jp_W (fun k45 : St → Option (St) => ∀ (S10 : St), k45 S10 = some Sz → ph S10 ≤ ph Sz ∧ True) ?_ ?_ hf
          · intro S10 hf
            unfold j_X10_writeNames_45 at hf
            refine ⟨?_, trivial⟩
            obtain ⟨w11, hc, hf⟩ := bd_s hf
            obtain ⟨S12, hc, hf⟩ := bd_s hf
            have gS12 : ph S10 ≤ ph S12 := mo_X6_addWord_26 hc
            have hj := (hk60 _ _ hf).1
            omega
          · intro k45 hk45 hf
            rcases it_s hf with ⟨-, hf⟩ | ⟨-, hf⟩
            · skip
              obtain ⟨S14, hc, hf⟩ := bd_s hf
              have gS14 : ph S3 ≤ ph S14 := mo_X6_addAll_26 hc
              have hj := (hk45 _ hf).1
              omega
            · skip
              have hj := (hk45 _ hf).1
              omega
  · intro k5 hk5 hf
    have hj := (hk5 _ _ _ hf).1
    omega
set_option maxRecDepth 100000 in
set_option maxHeartbeats 4000000 in
theorem c_X10_writeNames_26 (l : Launch) (D : va_G) (cs : Nat → ClassId) (adK adV : Nat → Nat) (a : Nat → Nat) (q1 q2 : Nat) (N : Nat) (p0 : Int32) (S : St) (Sz : St) (hf : f_X10_writeNames N 26 p0 S = some Sz) : gGv l yX10_writeNames wsX10_writeNames 5 107 D cs adK adV [.ref (a 0), .int p0, .ref (a 26)] a q1 q2 S Sz := by
  have hzz : ph S ≤ ph Sz := mo_X10_writeNames_26 hf
  unfold f_X10_writeNames at hf
  refine gGE_v (cc := cX10_writeNames) (maxL := 5) (by decide) rfl (Nat.le_of_ble_eq_true rfl) ?_
  intro p e s m args below meth c A Q hC hA hR hZ hQ hM ls hl
  obtain ⟨hx, hb, hml, hown, hts⟩ := hC.1
  have hl : lv_has ls 5 [(0, .ref (a 0)), (1, .int p0), (2, .ref (a 26))] := hl
  have hpS : ph S ≤ ph S := Nat.le_refl _
  refine lv_iconst (v := 1) hx hb dX10_writeNames_0 (by decide) ?_
  refine lv_istore_n (lv' := [(3, .int 1), (0, .ref (a 0)), (1, .int p0), (2, .ref (a 26))]) hx hb dX10_writeNames_1 rfl hl (by decide) rfl (fun ls hl => ?_)
  refine lv_iconst (v := 0) hx hb dX10_writeNames_2 (by decide) ?_
  refine lv_istore (lv' := [(4, .int 0), (3, .int 1), (0, .ref (a 0)), (1, .int p0), (2, .ref (a 26))]) hx hb dX10_writeNames_3 hl (by decide) rfl (fun ls hl => ?_)
  refine jl_W (fun k5 : Int32 → Int32 → St → Option (St) => ∀ (v1 : Int32) (v2 : Int32) (S3 : St), k5 v1 v2 S3 = some Sz → ph S3 ≤ ph Sz ∧ (ph S ≤ ph S3 → ∀ (q1 q2 : Nat) (H : Heap) (locs : List Loc) (ls : Array Slot), gw D A s.heap H locs (ccells cs a q1 q2 S3) → lv_has ls 5 [(0, .ref (a 0)), (1, .int p0), (2, .ref (a 26)), (3, .int v1), (4, .int v2)] → W p l e (rmG 5 107 S Sz) s m args below meth c H locs (ph S3 - ph S) (2 * (ph S3 - ph S)) Q (F0 m 5 ls []))) ?_ ?_ ?_ hf
  · intro v1 v2 S3 h; cases h
  · intro k5 hk5 v1 v2 S3 hf
    unfold b_X10_writeNames_5 at hf
    have gzS3 : ph S3 ≤ ph Sz := by
      rcases it_s hf with ⟨-, hf⟩ | ⟨-, hf⟩
      · skip
        cases so_1 hf
        omega
      · skip
        obtain ⟨v5, hc, hf⟩ := bd_s hf
        refine jp_W (fun k60 : Int32 → St → Option (St) => ∀ (v6 : Int32) (S7 : St), k60 v6 S7 = some Sz → ph S7 ≤ ph Sz ∧ True) ?_ ?_ hf
        · intro v6 S7 hf
          unfold j_X10_writeNames_60 at hf
          refine ⟨?_, trivial⟩
          replace hf := nm_q rfl hf
          have hj := (hk5 _ _ _ hf).1
          omega
        · intro k60 hk60 hf
          rcases it_s hf with ⟨-, hf⟩ | ⟨-, hf⟩
          · skip
            have hj := (hk60 _ _ hf).1
            omega
          · skip
            refine jp_W (fun k45 : St → Option (St) => ∀ (S10 : St), k45 S10 = some Sz → ph S10 ≤ ph Sz ∧ True) ?_ ?_ hf
            · intro S10 hf
              unfold j_X10_writeNames_45 at hf
              refine ⟨?_, trivial⟩
              obtain ⟨w11, hc, hf⟩ := bd_s hf
              obtain ⟨S12, hc, hf⟩ := bd_s hf
              have gS12 : ph S10 ≤ ph S12 := mo_X6_addWord_26 hc
              have hj := (hk60 _ _ hf).1
              omega
            · intro k45 hk45 hf
              rcases it_s hf with ⟨-, hf⟩ | ⟨-, hf⟩
              · skip
                obtain ⟨S14, hc, hf⟩ := bd_s hf
                have gS14 : ph S3 ≤ ph S14 := mo_X6_addAll_26 hc
                have hj := (hk45 _ hf).1
                omega
              · skip
                have hj := (hk45 _ hf).1
                omega
    refine ⟨gzS3, ?_⟩
    intro hpS3 q1 q2 H locs ls hM hl
    refine lv_iload hx hb dX10_writeNames_5 (lv_at hl 4 rfl) ?_
    refine lv_aload_n hx hb dX10_writeNames_7 rfl (lv_at hl 0 rfl) ?_
    refine g_get hC hM inX10_writeNames_X10 0 cE0 clX10 8 (by decide) tX10_writeNames_1 TX10_8 cV0_8 dX10_writeNames_8 ?_
    refine g_get hC hM inX10_writeNames_X4 28 cE28 clX4 9 (by decide) tX10_writeNames_2 TX4_9 cV28_9 dX10_writeNames_11 ?_
    refine lv_aload_n hx hb dX10_writeNames_14 rfl (lv_at hl 0 rfl) ?_
    refine g_get hC hM inX10_writeNames_X10 0 cE0 clX10 8 (by decide) tX10_writeNames_1 TX10_8 cV0_8 dX10_writeNames_15 ?_
    refine g_get hC hM inX10_writeNames_X4 28 cE28 clX4 10 (by decide) tX10_writeNames_3 TX4_10 cV28_10 dX10_writeNames_18 ?_
    refine lv_iadd hx hb dX10_writeNames_21 ?_
    refine lv_icmp_ge (tgt := 66) hx hb dX10_writeNames_22 (by decide) (fun c4 => ?_) (fun c4 => ?_)
    · replace hf := it_t c4 hf
      cases so_1 hf
      exact hQ _ _ _ _ _ _ _ _ dX10_writeNames_66 hM (by omega) (by omega)
    · replace hf := it_f c4 hf
      refine lv_iload_n hx hb dX10_writeNames_25 rfl (lv_at hl 1 rfl) ?_
      refine lv_iload hx hb dX10_writeNames_26 (lv_at hl 4 rfl) ?_
      obtain ⟨v5, hc, hf⟩ := bd_s hf
      refine W.widen (k := ph S3 - ph S) (n := 2 * (ph S3 - ph S)) (by omega) (by omega) ?_
      refine gS_i hC hM hA hl.1 [.int p0, .int v2] [] (c_X10_hasBit l D cs (ccells cs a q1 q2 S3) N p0 v2 v5 hc) gX10_writeNames_X10_hasBit rfl hd_X10_hasBit ⟨Nat.le_of_ble_eq_true rfl, Nat.le_of_ble_eq_true rfl⟩ (Nat.le_of_ble_eq_true rfl) dX10_writeNames_28 rfl ⟨by show _ + 0 ≤ ph Sz - ph S; omega, by show _ + 0 ≤ 2 * (ph Sz - ph S); omega⟩ (fun H locs hM => ?_)
      refine W.widen (k := ph S3 - ph S) (n := 2 * (ph S3 - ph S)) (Nat.le_refl _) (Nat.le_refl _) ?_
      refine jp_W (fun k60 : Int32 → St → Option (St) => ∀ (v6 : Int32) (S7 : St), k60 v6 S7 = some Sz → ph S7 ≤ ph Sz ∧ (ph S ≤ ph S7 → ∀ (q1 q2 : Nat) (H : Heap) (locs : List Loc) (ls : Array Slot), gw D A s.heap H locs (ccells cs a q1 q2 S7) → lv_has ls 5 [(0, .ref (a 0)), (1, .int p0), (2, .ref (a 26)), (3, .int v6), (4, .int v2)] → W p l e (rmG 5 107 S Sz) s m args below meth c H locs (ph S7 - ph S) (2 * (ph S7 - ph S)) Q (F0 m 60 ls []))) ?_ ?_ hf
      · intro v6 S7 hf
        unfold j_X10_writeNames_60 at hf
        have gzS7 : ph S7 ≤ ph Sz := by
          replace hf := nm_q rfl hf
          have hj := (hk5 _ _ _ hf).1
          omega
        refine ⟨gzS7, ?_⟩
        intro hpS7 q1 q2 H locs ls hM hl
        obtain ⟨v8, ev8⟩ : ∃ y : Int32, y = v2 + 1 := ⟨_, rfl⟩
        replace hf := nm_q ev8 hf
        refine lv_iinc (v := v8) (lv' := [(4, .int v8), (0, .ref (a 0)), (1, .int p0), (2, .ref (a 26)), (3, .int v6)]) hx hb dX10_writeNames_60 hl (k := 4) rfl (by rw [ev8]; rfl) (by decide) rfl (fun ls hl => ?_)
        refine lv_goto (tgt := 5) hx hb dX10_writeNames_63 (by decide) ?_
        refine W.widen (k := ph S7 - ph S) (n := 2 * (ph S7 - ph S)) (by omega) (by omega) ?_
        exact (hk5 _ _ _ hf).2 (by omega) _ _ _ _ _ hM (lv_sub hl [1, 2, 3, 4, 0] rfl)
      · intro k60 hk60 hf
        refine lv_if_eq (tgt := 60) hx hb dX10_writeNames_31 (by decide) (fun c9 => ?_) (fun c9 => ?_)
        · replace hf := it_t c9 hf
          refine W.widen (k := ph S3 - ph S) (n := 2 * (ph S3 - ph S)) (by omega) (by omega) ?_
          exact (hk60 _ _ hf).2 (by omega) _ _ _ _ _ hM hl
        · replace hf := it_f c9 hf
          refine lv_iload_n hx hb dX10_writeNames_34 rfl (lv_at hl 3 rfl) ?_
          refine jp_W (fun k45 : St → Option (St) => ∀ (S10 : St), k45 S10 = some Sz → ph S10 ≤ ph Sz ∧ (ph S ≤ ph S10 → ∀ (q1 q2 : Nat) (H : Heap) (locs : List Loc) (ls : Array Slot), gw D A s.heap H locs (ccells cs a q1 q2 S10) → lv_has ls 5 [(0, .ref (a 0)), (1, .int p0), (2, .ref (a 26)), (4, .int v2)] → W p l e (rmG 5 107 S Sz) s m args below meth c H locs (ph S10 - ph S) (2 * (ph S10 - ph S)) Q (F0 m 45 ls []))) ?_ ?_ hf
          · intro S10 hf
            unfold j_X10_writeNames_45 at hf
            have gzS10 : ph S10 ≤ ph Sz := by
              obtain ⟨w11, hc, hf⟩ := bd_s hf
              obtain ⟨S12, hc, hf⟩ := bd_s hf
              have gS12 : ph S10 ≤ ph S12 := mo_X6_addWord_26 hc
              have hj := (hk60 _ _ hf).1
              omega
            refine ⟨gzS10, ?_⟩
            intro hpS10 q1 q2 H locs ls hM hl
            refine lv_aload_n hx hb dX10_writeNames_45 rfl (lv_at hl 2 rfl) ?_
            refine lv_aload_n hx hb dX10_writeNames_46 rfl (lv_at hl 0 rfl) ?_
            refine g_get hC hM inX10_writeNames_X10 0 cE0 clX10 8 (by decide) tX10_writeNames_1 TX10_8 cV0_8 dX10_writeNames_47 ?_
            refine lv_iload hx hb dX10_writeNames_50 (lv_at hl 3 rfl) ?_
            obtain ⟨w11, hc, hf⟩ := bd_s hf
            refine W.widen (k := ph S10 - ph S) (n := 2 * (ph S10 - ph S)) (by omega) (by omega) ?_
            refine gV_l hC hM hA hl.1 [.int v2] [.ref (a 26)] (c_X4_wordOfName_28 l D cs a q1 q2 N v2 S10 w11 hc) gX10_writeNames_X4_wordOfName rfl hd_X4_wordOfName ⟨Nat.le_of_ble_eq_true rfl, Nat.le_of_ble_eq_true rfl⟩ 28 4 clX4 rfl cE28 (Nat.le_of_ble_eq_true rfl) dX10_writeNames_52 rfl ⟨by show _ + 0 ≤ ph Sz - ph S; omega, by show _ + 0 ≤ 2 * (ph Sz - ph S); omega⟩ (fun H locs hM => ?_)
            refine W.widen (k := ph S10 - ph S) (n := 2 * (ph S10 - ph S)) (Nat.le_refl _) (Nat.le_refl _) ?_
            refine W.widen (k := ph S10 - ph S) (n := 2 * (ph S10 - ph S)) (by omega) (by omega) ?_
            obtain ⟨S12, hc, hf⟩ := bd_s hf
            have gS12 : ph S10 ≤ ph S12 := mo_X6_addWord_26 hc
            have gzS12 : ph S12 ≤ ph Sz := by
              have hj := (hk60 _ _ hf).1
              omega
            refine gGV_v hC hM hA hR hZ hl.1 [.long w11] [] (c_X6_addWord_26 l D cs adK adV a q1 q2 N w11 S10 S12 hc) gX10_writeNames_X6_addWord rfl hd_X6_addWord ⟨Nat.le_of_ble_eq_true rfl, Nat.le_of_ble_eq_true rfl⟩ 26 6 clX6 rfl cE26 (Nat.le_of_ble_eq_true rfl) dX10_writeNames_55 rfl ⟨by show _ + (ph S12 - ph S10) ≤ ph Sz - ph S; omega, by show _ + 2 * (ph S12 - ph S10) ≤ 2 * (ph Sz - ph S); omega⟩ (fun q1 q2 H locs hM => ?_)
            have hpS12 : ph S ≤ ph S12 := by omega
            refine W.widen (k := ph S12 - ph S) (n := 2 * (ph S12 - ph S)) (by omega) (by omega) ?_
            refine lv_iconst (v := 0) hx hb dX10_writeNames_58 (by decide) ?_
            refine lv_istore_n (lv' := [(3, .int 0), (0, .ref (a 0)), (1, .int p0), (2, .ref (a 26)), (4, .int v2)]) hx hb dX10_writeNames_59 rfl hl (by decide) rfl (fun ls hl => ?_)
            refine W.widen (k := ph S12 - ph S) (n := 2 * (ph S12 - ph S)) (by omega) (by omega) ?_
            exact (hk60 _ _ hf).2 (by omega) _ _ _ _ _ hM (lv_sub hl [1, 2, 3, 0, 4] rfl)
          · intro k45 hk45 hf
            refine lv_if_ne (tgt := 45) hx hb dX10_writeNames_35 (by decide) (fun c13 => ?_) (fun c13 => ?_)
            · replace hf := it_f c13 hf
              refine W.widen (k := ph S3 - ph S) (n := 2 * (ph S3 - ph S)) (by omega) (by omega) ?_
              exact (hk45 _ hf).2 (by omega) _ _ _ _ _ hM (lv_sub hl [0, 1, 2, 4] rfl)
            · replace hf := it_t c13 hf
              refine lv_aload_n hx hb dX10_writeNames_38 rfl (lv_at hl 2 rfl) ?_
              refine va_ldcwS hx hb hown (hR ("WeatherTeller", 295, ", ", 7) (by decide)) dX10_writeNames_39 ?_
              refine W.widen (k := ph S3 - ph S) (n := 2 * (ph S3 - ph S)) (by omega) (by omega) ?_
              obtain ⟨S14, hc, hf⟩ := bd_s hf
              have gS14 : ph S3 ≤ ph S14 := mo_X6_addAll_26 hc
              have gzS14 : ph S14 ≤ ph Sz := by
                have hj := (hk45 _ hf).1
                omega
              refine gGV_v hC hM hA hR hZ hl.1 [.ref (adK 7)] [] (c_X6_addAll_26 l D cs adK adV a q1 q2 N 7 (by decide) S3 S14 hc) gX10_writeNames_X6_addAll rfl hd_X6_addAll ⟨Nat.le_of_ble_eq_true rfl, Nat.le_of_ble_eq_true rfl⟩ 26 6 clX6 rfl cE26 (Nat.le_of_ble_eq_true rfl) dX10_writeNames_42 rfl ⟨by show _ + (ph S14 - ph S3) ≤ ph Sz - ph S; omega, by show _ + 2 * (ph S14 - ph S3) ≤ 2 * (ph Sz - ph S); omega⟩ (fun q1 q2 H locs hM => ?_)
              have hpS14 : ph S ≤ ph S14 := by omega
              refine W.widen (k := ph S14 - ph S) (n := 2 * (ph S14 - ph S)) (by omega) (by omega) ?_
              refine W.widen (k := ph S14 - ph S) (n := 2 * (ph S14 - ph S)) (by omega) (by omega) ?_
              exact (hk45 _ hf).2 (by omega) _ _ _ _ _ hM (lv_sub hl [0, 1, 2, 4] rfl)
  · intro k5 hk5 hf
    refine W.widen (k := ph S - ph S) (n := 2 * (ph S - ph S)) (by omega) (by omega) ?_
    exact (hk5 _ _ _ hf).2 (by omega) _ _ _ _ _ hM (lv_sub hl [2, 3, 4, 1, 0] rfl)

theorem hd_X10_writeClause : yX10_writeClause.cls = RX10 ∧ yX10_writeClause.cls ≠ "java/lang/invoke/MethodHandle" ∧ yX10_writeClause.cls ≠ "java/lang/invoke/VarHandle" ∧ (parseMethodDescriptor yX10_writeClause.desc).map (fun d => d.parameters.length) = some 2 := by decide +kernel
theorem tX10_writeClause_1 : Cond.fieldLink RX10 40 "WeatherTeller" "findings" "LWeatherTeller$Findings;" ∈ wsX10_writeClause := List.mem_of_getElem? (i := 1) rfl
theorem inX10_writeClause_X10 : ∀ w ∈ u_ws RX10 TX10 13, w ∈ wsX10_writeClause := fun _ h => List.mem_cons_of_mem _ (List.mem_append_left _ (List.mem_append_left _ (List.mem_append_left _ (List.mem_append_left _ (List.mem_append_right _ h)))))
theorem tX10_writeClause_2 : Cond.fieldLink RX10 161 "WeatherTeller$Findings" "places" "[I" ∈ wsX10_writeClause := List.mem_of_getElem? (i := 2) rfl
theorem inX10_writeClause_X2 : ∀ w ∈ u_ws RX2 TX2 7, w ∈ wsX10_writeClause := fun _ h => List.mem_cons_of_mem _ (List.mem_append_left _ (List.mem_append_left _ (List.mem_append_left _ (List.mem_append_right _ h))))
theorem tX10_writeClause_3 : Cond.fieldLink RX10 33 "WeatherTeller" "groups" "LWeatherTeller$Groups;" ∈ wsX10_writeClause := List.mem_of_getElem? (i := 3) rfl
theorem tX10_writeClause_4 : Cond.fieldLink RX10 70 "WeatherTeller" "rules" "LWeatherTeller$Rules;" ∈ wsX10_writeClause := List.mem_of_getElem? (i := 4) rfl
theorem tX10_writeClause_5 : Cond.fieldLink RX10 277 "WeatherTeller$Rules" "words" "[J" ∈ wsX10_writeClause := List.mem_of_getElem? (i := 5) rfl
theorem inX10_writeClause_X4 : ∀ w ∈ u_ws RX4 TX4 12, w ∈ wsX10_writeClause := fun _ h => List.mem_cons_of_mem _ (List.mem_append_left _ (List.mem_append_left _ (List.mem_append_right _ h)))
theorem tX10_writeClause_6 : Cond.fieldLink RX10 152 "WeatherTeller$Findings" "bands" "[I" ∈ wsX10_writeClause := List.mem_of_getElem? (i := 6) rfl
theorem tX10_writeClause_7 : Cond.fieldLink RX10 155 "WeatherTeller$Findings" "froms" "[I" ∈ wsX10_writeClause := List.mem_of_getElem? (i := 7) rfl
theorem tX10_writeClause_8 : Cond.fieldLink RX10 158 "WeatherTeller$Findings" "tos" "[I" ∈ wsX10_writeClause := List.mem_of_getElem? (i := 8) rfl
def j_X10_writeClause_52 (rr : Nat) (N : Nat) (p0 : Int32) (S8 : St) : Option (St) :=
  bd (f_X6_addAll N rr 6 S8) fun S9 =>
  ck p0 432 <|
  ck (S9.1 9 p0.toNatClampNeg) 24 <|
  bd (f_X6_addWord N rr (S9.2 32 (S9.1 9 p0.toNatClampNeg).toNatClampNeg) S9) fun S12 =>
  bd (f_X6_add N rr 32 S12) fun S13 =>
  ck p0 432 <|
  bd (f_X6_addHour N rr (S13.1 10 p0.toNatClampNeg) S13) fun S15 =>
  bd (f_X6_add N rr 45 S15) fun S16 =>
  ck p0 432 <|
  bd (f_X6_addHour N rr (S16.1 11 p0.toNatClampNeg) S16) fun S18 =>
  bd (f_X6_add N rr 46 S18) fun S19 =>
  some S19
def f_X10_writeClause (N : Nat) (rr : Nat) (p0 : Int32) (S : St) : Option (St) :=
  ck p0 432 <|
  nm (S.1 12 p0.toNatClampNeg) fun v2 =>
  bd2 (f_X3_namesOf N v2 S) fun v3 S4 =>
  bd (f_X10_writeNames N rr v3 S4) fun S5 =>
  bd2 (f_X3_takenOutOf N v2 S5) fun v6 S7 =>
  jp (j_X10_writeClause_52 rr N p0) fun k52 =>
  if v6 = 0 then
    k52 S7
  else
    bd (f_X6_addAll N rr 5 S7) fun S21 =>
    bd (f_X10_writeNames N rr v6 S21) fun S22 =>
    k52 S22
theorem mo_X10_writeClause_24 {N : Nat} {p0 : Int32} {S : St} {Sz : St} (hf : f_X10_writeClause N 24 p0 S = some Sz) : ph S ≤ ph Sz := by
  unfold f_X10_writeClause at hf
  obtain ⟨-, hf⟩ := ck_s hf
  replace hf := nm_q rfl hf
  obtain ⟨v3, S4, hc, hf⟩ := bd2_s hf
  have gS4 : ph S ≤ ph S4 := mo_X3_namesOf hc
  obtain ⟨S5, hc, hf⟩ := bd_s hf
  have gS5 : ph S4 ≤ ph S5 := mo_X10_writeNames_24 hc
  obtain ⟨v6, S7, hc, hf⟩ := bd2_s hf
  have gS7 : ph S5 ≤ ph S7 := mo_X3_takenOutOf hc
  refine jp_W (fun k52 : St → Option (St) => ∀ (S8 : St), k52 S8 = some Sz → ph S8 ≤ ph Sz ∧ True) ?_ ?_ hf
  · intro S8 hf
    unfold j_X10_writeClause_52 at hf
    refine ⟨?_, trivial⟩
    obtain ⟨S9, hc, hf⟩ := bd_s hf
    have gS9 : ph S8 ≤ ph S9 := mo_X6_addAll_24 hc
    obtain ⟨-, hf⟩ := ck_s hf
    obtain ⟨-, hf⟩ := ck_s hf
    obtain ⟨S12, hc, hf⟩ := bd_s hf
    have gS12 : ph S9 ≤ ph S12 := mo_X6_addWord_24 hc
    obtain ⟨S13, hc, hf⟩ := bd_s hf
    have gS13 : ph S12 ≤ ph S13 := mo_X6_add_24 hc
    obtain ⟨-, hf⟩ := ck_s hf
    obtain ⟨S15, hc, hf⟩ := bd_s hf
    have gS15 : ph S13 ≤ ph S15 := mo_X6_addHour_24 hc
    obtain ⟨S16, hc, hf⟩ := bd_s hf
    have gS16 : ph S15 ≤ ph S16 := mo_X6_add_24 hc
    obtain ⟨-, hf⟩ := ck_s hf
    obtain ⟨S18, hc, hf⟩ := bd_s hf
    have gS18 : ph S16 ≤ ph S18 := mo_X6_addHour_24 hc
    obtain ⟨S19, hc, hf⟩ := bd_s hf
    have gS19 : ph S18 ≤ ph S19 := mo_X6_add_24 hc
    cases so_1 hf
    omega
  · intro k52 hk52 hf
    rcases it_s hf with ⟨-, hf⟩ | ⟨-, hf⟩
    · skip
      have hj := (hk52 _ hf).1
      omega
    · skip
      obtain ⟨S21, hc, hf⟩ := bd_s hf
      have gS21 : ph S7 ≤ ph S21 := mo_X6_addAll_24 hc
      obtain ⟨S22, hc, hf⟩ := bd_s hf
      have gS22 : ph S21 ≤ ph S22 := mo_X10_writeNames_24 hc
      have hj := (hk52 _ hf).1
      omega
set_option maxRecDepth 100000 in
set_option maxHeartbeats 4000000 in
theorem c_X10_writeClause_24 (l : Launch) (D : va_G) (cs : Nat → ClassId) (adK adV : Nat → Nat) (a : Nat → Nat) (q1 q2 : Nat) (N : Nat) (p0 : Int32) (S : St) (Sz : St) (hf : f_X10_writeClause N 24 p0 S = some Sz) : gGv l yX10_writeClause wsX10_writeClause 6 131 D cs adK adV [.ref (a 0), .int p0, .ref (a 24)] a q1 q2 S Sz := by
  have hzz : ph S ≤ ph Sz := mo_X10_writeClause_24 hf
  unfold f_X10_writeClause at hf
  refine gGE_v (cc := cX10_writeClause) (maxL := 5) (by decide) rfl (Nat.le_of_ble_eq_true rfl) ?_
  intro p e s m args below meth c A Q hC hA hR hZ hQ hM ls hl
  obtain ⟨hx, hb, hml, hown, hts⟩ := hC.1
  have hl : lv_has ls 5 [(0, .ref (a 0)), (1, .int p0), (2, .ref (a 24))] := hl
  have hpS : ph S ≤ ph S := Nat.le_refl _
  refine lv_aload_n hx hb dX10_writeClause_0 rfl (lv_at hl 0 rfl) ?_
  refine g_get hC hM inX10_writeClause_X10 0 cE0 clX10 4 (by decide) tX10_writeClause_1 TX10_4 cV0_4 dX10_writeClause_1 ?_
  refine g_get hC hM inX10_writeClause_X2 8 cE8 clX2 3 (by decide) tX10_writeClause_2 TX2_3 cV8_3 dX10_writeClause_4 ?_
  refine lv_iload_n hx hb dX10_writeClause_7 rfl (lv_at hl 1 rfl) ?_
  obtain ⟨h1, hf⟩ := ck_s hf
  refine g_iald hC hM 12 cE12 h1 dX10_writeClause_8 ?_
  refine lv_topi (fun v2 ev2 => ?_)
  replace hf := nm_q ev2 hf
  refine lv_istore_n (lv' := [(3, .int v2), (0, .ref (a 0)), (1, .int p0), (2, .ref (a 24))]) hx hb dX10_writeClause_9 rfl hl (by decide) rfl (fun ls hl => ?_)
  refine lv_aload_n hx hb dX10_writeClause_10 rfl (lv_at hl 1 rfl) ?_
  refine lv_aload_n hx hb dX10_writeClause_11 rfl (lv_at hl 1 rfl) ?_
  refine g_get hC hM inX10_writeClause_X10 0 cE0 clX10 3 (by decide) tX10_writeClause_3 TX10_3 cV0_3 dX10_writeClause_12 ?_
  refine lv_iload_n hx hb dX10_writeClause_15 rfl (lv_at hl 0 rfl) ?_
  obtain ⟨v3, S4, hc, hf⟩ := bd2_s hf
  have gS4 : ph S ≤ ph S4 := mo_X3_namesOf hc
  have gzS4 : ph S4 ≤ ph Sz := by
    obtain ⟨S5, hc, hf⟩ := bd_s hf
    have gS5 : ph S4 ≤ ph S5 := mo_X10_writeNames_24 hc
    obtain ⟨v6, S7, hc, hf⟩ := bd2_s hf
    have gS7 : ph S5 ≤ ph S7 := mo_X3_takenOutOf hc
    refine jp_W (fun k52 : St → Option (St) => ∀ (S8 : St), k52 S8 = some Sz → ph S8 ≤ ph Sz ∧ True) ?_ ?_ hf
    · intro S8 hf
      unfold j_X10_writeClause_52 at hf
      refine ⟨?_, trivial⟩
      obtain ⟨S9, hc, hf⟩ := bd_s hf
      have gS9 : ph S8 ≤ ph S9 := mo_X6_addAll_24 hc
      obtain ⟨-, hf⟩ := ck_s hf
      obtain ⟨-, hf⟩ := ck_s hf
      obtain ⟨S12, hc, hf⟩ := bd_s hf
      have gS12 : ph S9 ≤ ph S12 := mo_X6_addWord_24 hc
      obtain ⟨S13, hc, hf⟩ := bd_s hf
      have gS13 : ph S12 ≤ ph S13 := mo_X6_add_24 hc
      obtain ⟨-, hf⟩ := ck_s hf
      obtain ⟨S15, hc, hf⟩ := bd_s hf
      have gS15 : ph S13 ≤ ph S15 := mo_X6_addHour_24 hc
      obtain ⟨S16, hc, hf⟩ := bd_s hf
      have gS16 : ph S15 ≤ ph S16 := mo_X6_add_24 hc
      obtain ⟨-, hf⟩ := ck_s hf
      obtain ⟨S18, hc, hf⟩ := bd_s hf
      have gS18 : ph S16 ≤ ph S18 := mo_X6_addHour_24 hc
      obtain ⟨S19, hc, hf⟩ := bd_s hf
      have gS19 : ph S18 ≤ ph S19 := mo_X6_add_24 hc
      cases so_1 hf
      omega
    · intro k52 hk52 hf
      rcases it_s hf with ⟨-, hf⟩ | ⟨-, hf⟩
      · skip
        have hj := (hk52 _ hf).1
        omega
      · skip
        obtain ⟨S21, hc, hf⟩ := bd_s hf
        have gS21 : ph S7 ≤ ph S21 := mo_X6_addAll_24 hc
        obtain ⟨S22, hc, hf⟩ := bd_s hf
        have gS22 : ph S21 ≤ ph S22 := mo_X10_writeNames_24 hc
        have hj := (hk52 _ hf).1
        omega
  refine W.widen (k := ph S - ph S) (n := 2 * (ph S - ph S)) (by omega) (by omega) ?_
  refine gV_i hC hM hA hl.1 [.int v2] [.ref (a 0)] (c_X3_namesOf l D cs a q1 q2 N v2 S v3 S4 hc) gX10_writeClause_X3_namesOf rfl hd_X3_namesOf ⟨Nat.le_of_ble_eq_true rfl, Nat.le_of_ble_eq_true rfl⟩ 5 3 clX3 rfl cE5 (Nat.le_of_ble_eq_true rfl) dX10_writeClause_16 rfl ⟨by show _ + 0 ≤ ph Sz - ph S; omega, by show _ + 0 ≤ 2 * (ph Sz - ph S); omega⟩ (fun H locs hM => ?_)
  refine W.widen (k := ph S - ph S) (n := 2 * (ph S - ph S)) (Nat.le_refl _) (Nat.le_refl _) ?_
  refine lv_aload_n hx hb dX10_writeClause_19 rfl (lv_at hl 3 rfl) ?_
  refine W.widen (k := ph S4 - ph S) (n := 2 * (ph S4 - ph S)) (by omega) (by omega) ?_
  obtain ⟨S5, hc, hf⟩ := bd_s hf
  have gS5 : ph S4 ≤ ph S5 := mo_X10_writeNames_24 hc
  have gzS5 : ph S5 ≤ ph Sz := by
    obtain ⟨v6, S7, hc, hf⟩ := bd2_s hf
    have gS7 : ph S5 ≤ ph S7 := mo_X3_takenOutOf hc
    refine jp_W (fun k52 : St → Option (St) => ∀ (S8 : St), k52 S8 = some Sz → ph S8 ≤ ph Sz ∧ True) ?_ ?_ hf
    · intro S8 hf
      unfold j_X10_writeClause_52 at hf
      refine ⟨?_, trivial⟩
      obtain ⟨S9, hc, hf⟩ := bd_s hf
      have gS9 : ph S8 ≤ ph S9 := mo_X6_addAll_24 hc
      obtain ⟨-, hf⟩ := ck_s hf
      obtain ⟨-, hf⟩ := ck_s hf
      obtain ⟨S12, hc, hf⟩ := bd_s hf
      have gS12 : ph S9 ≤ ph S12 := mo_X6_addWord_24 hc
      obtain ⟨S13, hc, hf⟩ := bd_s hf
      have gS13 : ph S12 ≤ ph S13 := mo_X6_add_24 hc
      obtain ⟨-, hf⟩ := ck_s hf
      obtain ⟨S15, hc, hf⟩ := bd_s hf
      have gS15 : ph S13 ≤ ph S15 := mo_X6_addHour_24 hc
      obtain ⟨S16, hc, hf⟩ := bd_s hf
      have gS16 : ph S15 ≤ ph S16 := mo_X6_add_24 hc
      obtain ⟨-, hf⟩ := ck_s hf
      obtain ⟨S18, hc, hf⟩ := bd_s hf
      have gS18 : ph S16 ≤ ph S18 := mo_X6_addHour_24 hc
      obtain ⟨S19, hc, hf⟩ := bd_s hf
      have gS19 : ph S18 ≤ ph S19 := mo_X6_add_24 hc
      cases so_1 hf
      omega
    · intro k52 hk52 hf
      rcases it_s hf with ⟨-, hf⟩ | ⟨-, hf⟩
      · skip
        have hj := (hk52 _ hf).1
        omega
      · skip
        obtain ⟨S21, hc, hf⟩ := bd_s hf
        have gS21 : ph S7 ≤ ph S21 := mo_X6_addAll_24 hc
        obtain ⟨S22, hc, hf⟩ := bd_s hf
        have gS22 : ph S21 ≤ ph S22 := mo_X10_writeNames_24 hc
        have hj := (hk52 _ hf).1
        omega
  refine gGV_v hC hM hA hR hZ hl.1 [.int v3, .ref (a 24)] [] (c_X10_writeNames_24 l D cs adK adV a q1 q2 N v3 S4 S5 hc) gX10_writeClause_X10_writeNames rfl hd_X10_writeNames ⟨Nat.le_of_ble_eq_true rfl, Nat.le_of_ble_eq_true rfl⟩ 0 10 clX10 rfl cE0 (Nat.le_of_ble_eq_true rfl) dX10_writeClause_20 rfl ⟨by show _ + (ph S5 - ph S4) ≤ ph Sz - ph S; omega, by show _ + 2 * (ph S5 - ph S4) ≤ 2 * (ph Sz - ph S); omega⟩ (fun q1 q2 H locs hM => ?_)
  have hpS5 : ph S ≤ ph S5 := by omega
  refine W.widen (k := ph S5 - ph S) (n := 2 * (ph S5 - ph S)) (by omega) (by omega) ?_
  refine lv_aload_n hx hb dX10_writeClause_23 rfl (lv_at hl 1 rfl) ?_
  refine g_get hC hM inX10_writeClause_X10 0 cE0 clX10 3 (by decide) tX10_writeClause_3 TX10_3 cV0_3 dX10_writeClause_24 ?_
  refine lv_iload_n hx hb dX10_writeClause_27 rfl (lv_at hl 0 rfl) ?_
  obtain ⟨v6, S7, hc, hf⟩ := bd2_s hf
  have gS7 : ph S5 ≤ ph S7 := mo_X3_takenOutOf hc
  have gzS7 : ph S7 ≤ ph Sz := by
    refine jp_W (fun k52 : St → Option (St) => ∀ (S8 : St), k52 S8 = some Sz → ph S8 ≤ ph Sz ∧ True) ?_ ?_ hf
    · intro S8 hf
      unfold j_X10_writeClause_52 at hf
      refine ⟨?_, trivial⟩
      obtain ⟨S9, hc, hf⟩ := bd_s hf
      have gS9 : ph S8 ≤ ph S9 := mo_X6_addAll_24 hc
      obtain ⟨-, hf⟩ := ck_s hf
      obtain ⟨-, hf⟩ := ck_s hf
      obtain ⟨S12, hc, hf⟩ := bd_s hf
      have gS12 : ph S9 ≤ ph S12 := mo_X6_addWord_24 hc
      obtain ⟨S13, hc, hf⟩ := bd_s hf
      have gS13 : ph S12 ≤ ph S13 := mo_X6_add_24 hc
      obtain ⟨-, hf⟩ := ck_s hf
      obtain ⟨S15, hc, hf⟩ := bd_s hf
      have gS15 : ph S13 ≤ ph S15 := mo_X6_addHour_24 hc
      obtain ⟨S16, hc, hf⟩ := bd_s hf
      have gS16 : ph S15 ≤ ph S16 := mo_X6_add_24 hc
      obtain ⟨-, hf⟩ := ck_s hf
      obtain ⟨S18, hc, hf⟩ := bd_s hf
      have gS18 : ph S16 ≤ ph S18 := mo_X6_addHour_24 hc
      obtain ⟨S19, hc, hf⟩ := bd_s hf
      have gS19 : ph S18 ≤ ph S19 := mo_X6_add_24 hc
      cases so_1 hf
      omega
    · intro k52 hk52 hf
      rcases it_s hf with ⟨-, hf⟩ | ⟨-, hf⟩
      · skip
        have hj := (hk52 _ hf).1
        omega
      · skip
        obtain ⟨S21, hc, hf⟩ := bd_s hf
        have gS21 : ph S7 ≤ ph S21 := mo_X6_addAll_24 hc
        obtain ⟨S22, hc, hf⟩ := bd_s hf
        have gS22 : ph S21 ≤ ph S22 := mo_X10_writeNames_24 hc
        have hj := (hk52 _ hf).1
        omega
  refine W.widen (k := ph S5 - ph S) (n := 2 * (ph S5 - ph S)) (by omega) (by omega) ?_
  refine gV_i hC hM hA hl.1 [.int v2] [] (c_X3_takenOutOf l D cs a q1 q2 N v2 S5 v6 S7 hc) gX10_writeClause_X3_takenOutOf rfl hd_X3_takenOutOf ⟨Nat.le_of_ble_eq_true rfl, Nat.le_of_ble_eq_true rfl⟩ 5 3 clX3 rfl cE5 (Nat.le_of_ble_eq_true rfl) dX10_writeClause_28 rfl ⟨by show _ + 0 ≤ ph Sz - ph S; omega, by show _ + 0 ≤ 2 * (ph Sz - ph S); omega⟩ (fun H locs hM => ?_)
  refine W.widen (k := ph S5 - ph S) (n := 2 * (ph S5 - ph S)) (Nat.le_refl _) (Nat.le_refl _) ?_
  refine lv_istore (lv' := [(4, .int v6), (3, .int v2), (0, .ref (a 0)), (1, .int p0), (2, .ref (a 24))]) hx hb dX10_writeClause_31 hl (by decide) rfl (fun ls hl => ?_)
  refine lv_iload hx hb dX10_writeClause_33 (lv_at hl 0 rfl) ?_
  refine jp_W (fun k52 : St → Option (St) => ∀ (S8 : St), k52 S8 = some Sz → ph S8 ≤ ph Sz ∧ (ph S ≤ ph S8 → ∀ (q1 q2 : Nat) (H : Heap) (locs : List Loc) (ls : Array Slot), gw D A s.heap H locs (ccells cs a q1 q2 S8) → lv_has ls 5 [(0, .ref (a 0)), (1, .int p0), (2, .ref (a 24))] → W p l e (rmG 6 131 S Sz) s m args below meth c H locs (ph S8 - ph S) (2 * (ph S8 - ph S)) Q (F0 m 52 ls []))) ?_ ?_ hf
  · intro S8 hf
    unfold j_X10_writeClause_52 at hf
    have gzS8 : ph S8 ≤ ph Sz := by
      obtain ⟨S9, hc, hf⟩ := bd_s hf
      have gS9 : ph S8 ≤ ph S9 := mo_X6_addAll_24 hc
      obtain ⟨-, hf⟩ := ck_s hf
      obtain ⟨-, hf⟩ := ck_s hf
      obtain ⟨S12, hc, hf⟩ := bd_s hf
      have gS12 : ph S9 ≤ ph S12 := mo_X6_addWord_24 hc
      obtain ⟨S13, hc, hf⟩ := bd_s hf
      have gS13 : ph S12 ≤ ph S13 := mo_X6_add_24 hc
      obtain ⟨-, hf⟩ := ck_s hf
      obtain ⟨S15, hc, hf⟩ := bd_s hf
      have gS15 : ph S13 ≤ ph S15 := mo_X6_addHour_24 hc
      obtain ⟨S16, hc, hf⟩ := bd_s hf
      have gS16 : ph S15 ≤ ph S16 := mo_X6_add_24 hc
      obtain ⟨-, hf⟩ := ck_s hf
      obtain ⟨S18, hc, hf⟩ := bd_s hf
      have gS18 : ph S16 ≤ ph S18 := mo_X6_addHour_24 hc
      obtain ⟨S19, hc, hf⟩ := bd_s hf
      have gS19 : ph S18 ≤ ph S19 := mo_X6_add_24 hc
      cases so_1 hf
      omega
    refine ⟨gzS8, ?_⟩
    intro hpS8 q1 q2 H locs ls hM hl
    refine lv_aload_n hx hb dX10_writeClause_52 rfl (lv_at hl 2 rfl) ?_
    refine va_ldcwS hx hb hown (hR ("WeatherTeller", 275, ": ", 6) (by decide)) dX10_writeClause_53 ?_
    refine W.widen (k := ph S8 - ph S) (n := 2 * (ph S8 - ph S)) (by omega) (by omega) ?_
    obtain ⟨S9, hc, hf⟩ := bd_s hf
    have gS9 : ph S8 ≤ ph S9 := mo_X6_addAll_24 hc
    have gzS9 : ph S9 ≤ ph Sz := by
      obtain ⟨-, hf⟩ := ck_s hf
      obtain ⟨-, hf⟩ := ck_s hf
      obtain ⟨S12, hc, hf⟩ := bd_s hf
      have gS12 : ph S9 ≤ ph S12 := mo_X6_addWord_24 hc
      obtain ⟨S13, hc, hf⟩ := bd_s hf
      have gS13 : ph S12 ≤ ph S13 := mo_X6_add_24 hc
      obtain ⟨-, hf⟩ := ck_s hf
      obtain ⟨S15, hc, hf⟩ := bd_s hf
      have gS15 : ph S13 ≤ ph S15 := mo_X6_addHour_24 hc
      obtain ⟨S16, hc, hf⟩ := bd_s hf
      have gS16 : ph S15 ≤ ph S16 := mo_X6_add_24 hc
      obtain ⟨-, hf⟩ := ck_s hf
      obtain ⟨S18, hc, hf⟩ := bd_s hf
      have gS18 : ph S16 ≤ ph S18 := mo_X6_addHour_24 hc
      obtain ⟨S19, hc, hf⟩ := bd_s hf
      have gS19 : ph S18 ≤ ph S19 := mo_X6_add_24 hc
      cases so_1 hf
      omega
    refine gGV_v hC hM hA hR hZ hl.1 [.ref (adK 6)] [] (c_X6_addAll_24 l D cs adK adV a q1 q2 N 6 (by decide) S8 S9 hc) gX10_writeClause_X6_addAll rfl hd_X6_addAll ⟨Nat.le_of_ble_eq_true rfl, Nat.le_of_ble_eq_true rfl⟩ 24 6 clX6 rfl cE24 (Nat.le_of_ble_eq_true rfl) dX10_writeClause_56 rfl ⟨by show _ + (ph S9 - ph S8) ≤ ph Sz - ph S; omega, by show _ + 2 * (ph S9 - ph S8) ≤ 2 * (ph Sz - ph S); omega⟩ (fun q1 q2 H locs hM => ?_)
    have hpS9 : ph S ≤ ph S9 := by omega
    refine W.widen (k := ph S9 - ph S) (n := 2 * (ph S9 - ph S)) (by omega) (by omega) ?_
    refine lv_aload_n hx hb dX10_writeClause_59 rfl (lv_at hl 2 rfl) ?_
    refine lv_aload_n hx hb dX10_writeClause_60 rfl (lv_at hl 0 rfl) ?_
    refine g_get hC hM inX10_writeClause_X10 0 cE0 clX10 8 (by decide) tX10_writeClause_4 TX10_8 cV0_8 dX10_writeClause_61 ?_
    refine g_get hC hM inX10_writeClause_X4 28 cE28 clX4 3 (by decide) tX10_writeClause_5 TX4_3 cV28_3 dX10_writeClause_64 ?_
    refine lv_aload_n hx hb dX10_writeClause_67 rfl (lv_at hl 0 rfl) ?_
    refine g_get hC hM inX10_writeClause_X10 0 cE0 clX10 4 (by decide) tX10_writeClause_1 TX10_4 cV0_4 dX10_writeClause_68 ?_
    refine g_get hC hM inX10_writeClause_X2 8 cE8 clX2 0 (by decide) tX10_writeClause_6 TX2_0 cV8_0 dX10_writeClause_71 ?_
    refine lv_iload_n hx hb dX10_writeClause_74 rfl (lv_at hl 1 rfl) ?_
    obtain ⟨h10, hf⟩ := ck_s hf
    refine g_iald hC hM 9 cE9 h10 dX10_writeClause_75 ?_
    obtain ⟨h11, hf⟩ := ck_s hf
    refine g_lald hC hM 32 cE32 h11 dX10_writeClause_76 ?_
    refine W.widen (k := ph S9 - ph S) (n := 2 * (ph S9 - ph S)) (by omega) (by omega) ?_
    obtain ⟨S12, hc, hf⟩ := bd_s hf
    have gS12 : ph S9 ≤ ph S12 := mo_X6_addWord_24 hc
    have gzS12 : ph S12 ≤ ph Sz := by
      obtain ⟨S13, hc, hf⟩ := bd_s hf
      have gS13 : ph S12 ≤ ph S13 := mo_X6_add_24 hc
      obtain ⟨-, hf⟩ := ck_s hf
      obtain ⟨S15, hc, hf⟩ := bd_s hf
      have gS15 : ph S13 ≤ ph S15 := mo_X6_addHour_24 hc
      obtain ⟨S16, hc, hf⟩ := bd_s hf
      have gS16 : ph S15 ≤ ph S16 := mo_X6_add_24 hc
      obtain ⟨-, hf⟩ := ck_s hf
      obtain ⟨S18, hc, hf⟩ := bd_s hf
      have gS18 : ph S16 ≤ ph S18 := mo_X6_addHour_24 hc
      obtain ⟨S19, hc, hf⟩ := bd_s hf
      have gS19 : ph S18 ≤ ph S19 := mo_X6_add_24 hc
      cases so_1 hf
      omega
    refine gGV_v hC hM hA hR hZ hl.1 [.long (S9.2 32 (S9.1 9 p0.toNatClampNeg).toNatClampNeg)] [] (c_X6_addWord_24 l D cs adK adV a q1 q2 N (S9.2 32 (S9.1 9 p0.toNatClampNeg).toNatClampNeg) S9 S12 hc) gX10_writeClause_X6_addWord rfl hd_X6_addWord ⟨Nat.le_of_ble_eq_true rfl, Nat.le_of_ble_eq_true rfl⟩ 24 6 clX6 rfl cE24 (Nat.le_of_ble_eq_true rfl) dX10_writeClause_77 rfl ⟨by show _ + (ph S12 - ph S9) ≤ ph Sz - ph S; omega, by show _ + 2 * (ph S12 - ph S9) ≤ 2 * (ph Sz - ph S); omega⟩ (fun q1 q2 H locs hM => ?_)
    have hpS12 : ph S ≤ ph S12 := by omega
    refine W.widen (k := ph S12 - ph S) (n := 2 * (ph S12 - ph S)) (by omega) (by omega) ?_
    refine lv_aload_n hx hb dX10_writeClause_80 rfl (lv_at hl 2 rfl) ?_
    refine lv_bipush (v := 32) hx hb dX10_writeClause_81 (by decide) ?_
    refine W.widen (k := ph S12 - ph S) (n := 2 * (ph S12 - ph S)) (by omega) (by omega) ?_
    obtain ⟨S13, hc, hf⟩ := bd_s hf
    have gS13 : ph S12 ≤ ph S13 := mo_X6_add_24 hc
    have gzS13 : ph S13 ≤ ph Sz := by
      obtain ⟨-, hf⟩ := ck_s hf
      obtain ⟨S15, hc, hf⟩ := bd_s hf
      have gS15 : ph S13 ≤ ph S15 := mo_X6_addHour_24 hc
      obtain ⟨S16, hc, hf⟩ := bd_s hf
      have gS16 : ph S15 ≤ ph S16 := mo_X6_add_24 hc
      obtain ⟨-, hf⟩ := ck_s hf
      obtain ⟨S18, hc, hf⟩ := bd_s hf
      have gS18 : ph S16 ≤ ph S18 := mo_X6_addHour_24 hc
      obtain ⟨S19, hc, hf⟩ := bd_s hf
      have gS19 : ph S18 ≤ ph S19 := mo_X6_add_24 hc
      cases so_1 hf
      omega
    refine gGV_v hC hM hA hR hZ hl.1 [.int 32] [] (c_X6_add_24 l D cs adK adV a q1 q2 N 32 S12 S13 hc) gX10_writeClause_X6_add rfl hd_X6_add ⟨Nat.le_of_ble_eq_true rfl, Nat.le_of_ble_eq_true rfl⟩ 24 6 clX6 rfl cE24 (Nat.le_of_ble_eq_true rfl) dX10_writeClause_83 rfl ⟨by show _ + (ph S13 - ph S12) ≤ ph Sz - ph S; omega, by show _ + 2 * (ph S13 - ph S12) ≤ 2 * (ph Sz - ph S); omega⟩ (fun q1 q2 H locs hM => ?_)
    have hpS13 : ph S ≤ ph S13 := by omega
    refine W.widen (k := ph S13 - ph S) (n := 2 * (ph S13 - ph S)) (by omega) (by omega) ?_
    refine lv_aload_n hx hb dX10_writeClause_86 rfl (lv_at hl 2 rfl) ?_
    refine lv_aload_n hx hb dX10_writeClause_87 rfl (lv_at hl 0 rfl) ?_
    refine g_get hC hM inX10_writeClause_X10 0 cE0 clX10 4 (by decide) tX10_writeClause_1 TX10_4 cV0_4 dX10_writeClause_88 ?_
    refine g_get hC hM inX10_writeClause_X2 8 cE8 clX2 1 (by decide) tX10_writeClause_7 TX2_1 cV8_1 dX10_writeClause_91 ?_
    refine lv_iload_n hx hb dX10_writeClause_94 rfl (lv_at hl 1 rfl) ?_
    obtain ⟨h14, hf⟩ := ck_s hf
    refine g_iald hC hM 10 cE10 h14 dX10_writeClause_95 ?_
    refine W.widen (k := ph S13 - ph S) (n := 2 * (ph S13 - ph S)) (by omega) (by omega) ?_
    obtain ⟨S15, hc, hf⟩ := bd_s hf
    have gS15 : ph S13 ≤ ph S15 := mo_X6_addHour_24 hc
    have gzS15 : ph S15 ≤ ph Sz := by
      obtain ⟨S16, hc, hf⟩ := bd_s hf
      have gS16 : ph S15 ≤ ph S16 := mo_X6_add_24 hc
      obtain ⟨-, hf⟩ := ck_s hf
      obtain ⟨S18, hc, hf⟩ := bd_s hf
      have gS18 : ph S16 ≤ ph S18 := mo_X6_addHour_24 hc
      obtain ⟨S19, hc, hf⟩ := bd_s hf
      have gS19 : ph S18 ≤ ph S19 := mo_X6_add_24 hc
      cases so_1 hf
      omega
    refine gGV_v hC hM hA hR hZ hl.1 [.int (S13.1 10 p0.toNatClampNeg)] [] (c_X6_addHour_24 l D cs adK adV a q1 q2 N (S13.1 10 p0.toNatClampNeg) S13 S15 hc) gX10_writeClause_X6_addHour rfl hd_X6_addHour ⟨Nat.le_of_ble_eq_true rfl, Nat.le_of_ble_eq_true rfl⟩ 24 6 clX6 rfl cE24 (Nat.le_of_ble_eq_true rfl) dX10_writeClause_96 rfl ⟨by show _ + (ph S15 - ph S13) ≤ ph Sz - ph S; omega, by show _ + 2 * (ph S15 - ph S13) ≤ 2 * (ph Sz - ph S); omega⟩ (fun q1 q2 H locs hM => ?_)
    have hpS15 : ph S ≤ ph S15 := by omega
    refine W.widen (k := ph S15 - ph S) (n := 2 * (ph S15 - ph S)) (by omega) (by omega) ?_
    refine lv_aload_n hx hb dX10_writeClause_99 rfl (lv_at hl 2 rfl) ?_
    refine lv_bipush (v := 45) hx hb dX10_writeClause_100 (by decide) ?_
    refine W.widen (k := ph S15 - ph S) (n := 2 * (ph S15 - ph S)) (by omega) (by omega) ?_
    obtain ⟨S16, hc, hf⟩ := bd_s hf
    have gS16 : ph S15 ≤ ph S16 := mo_X6_add_24 hc
    have gzS16 : ph S16 ≤ ph Sz := by
      obtain ⟨-, hf⟩ := ck_s hf
      obtain ⟨S18, hc, hf⟩ := bd_s hf
      have gS18 : ph S16 ≤ ph S18 := mo_X6_addHour_24 hc
      obtain ⟨S19, hc, hf⟩ := bd_s hf
      have gS19 : ph S18 ≤ ph S19 := mo_X6_add_24 hc
      cases so_1 hf
      omega
    refine gGV_v hC hM hA hR hZ hl.1 [.int 45] [] (c_X6_add_24 l D cs adK adV a q1 q2 N 45 S15 S16 hc) gX10_writeClause_X6_add rfl hd_X6_add ⟨Nat.le_of_ble_eq_true rfl, Nat.le_of_ble_eq_true rfl⟩ 24 6 clX6 rfl cE24 (Nat.le_of_ble_eq_true rfl) dX10_writeClause_102 rfl ⟨by show _ + (ph S16 - ph S15) ≤ ph Sz - ph S; omega, by show _ + 2 * (ph S16 - ph S15) ≤ 2 * (ph Sz - ph S); omega⟩ (fun q1 q2 H locs hM => ?_)
    have hpS16 : ph S ≤ ph S16 := by omega
    refine W.widen (k := ph S16 - ph S) (n := 2 * (ph S16 - ph S)) (by omega) (by omega) ?_
    refine lv_aload_n hx hb dX10_writeClause_105 rfl (lv_at hl 2 rfl) ?_
    refine lv_aload_n hx hb dX10_writeClause_106 rfl (lv_at hl 0 rfl) ?_
    refine g_get hC hM inX10_writeClause_X10 0 cE0 clX10 4 (by decide) tX10_writeClause_1 TX10_4 cV0_4 dX10_writeClause_107 ?_
    refine g_get hC hM inX10_writeClause_X2 8 cE8 clX2 2 (by decide) tX10_writeClause_8 TX2_2 cV8_2 dX10_writeClause_110 ?_
    refine lv_iload_n hx hb dX10_writeClause_113 rfl (lv_at hl 1 rfl) ?_
    obtain ⟨h17, hf⟩ := ck_s hf
    refine g_iald hC hM 11 cE11 h17 dX10_writeClause_114 ?_
    refine W.widen (k := ph S16 - ph S) (n := 2 * (ph S16 - ph S)) (by omega) (by omega) ?_
    obtain ⟨S18, hc, hf⟩ := bd_s hf
    have gS18 : ph S16 ≤ ph S18 := mo_X6_addHour_24 hc
    have gzS18 : ph S18 ≤ ph Sz := by
      obtain ⟨S19, hc, hf⟩ := bd_s hf
      have gS19 : ph S18 ≤ ph S19 := mo_X6_add_24 hc
      cases so_1 hf
      omega
    refine gGV_v hC hM hA hR hZ hl.1 [.int (S16.1 11 p0.toNatClampNeg)] [] (c_X6_addHour_24 l D cs adK adV a q1 q2 N (S16.1 11 p0.toNatClampNeg) S16 S18 hc) gX10_writeClause_X6_addHour rfl hd_X6_addHour ⟨Nat.le_of_ble_eq_true rfl, Nat.le_of_ble_eq_true rfl⟩ 24 6 clX6 rfl cE24 (Nat.le_of_ble_eq_true rfl) dX10_writeClause_115 rfl ⟨by show _ + (ph S18 - ph S16) ≤ ph Sz - ph S; omega, by show _ + 2 * (ph S18 - ph S16) ≤ 2 * (ph Sz - ph S); omega⟩ (fun q1 q2 H locs hM => ?_)
    have hpS18 : ph S ≤ ph S18 := by omega
    refine W.widen (k := ph S18 - ph S) (n := 2 * (ph S18 - ph S)) (by omega) (by omega) ?_
    refine lv_aload_n hx hb dX10_writeClause_118 rfl (lv_at hl 2 rfl) ?_
    refine lv_bipush (v := 46) hx hb dX10_writeClause_119 (by decide) ?_
    refine W.widen (k := ph S18 - ph S) (n := 2 * (ph S18 - ph S)) (by omega) (by omega) ?_
    obtain ⟨S19, hc, hf⟩ := bd_s hf
    have gS19 : ph S18 ≤ ph S19 := mo_X6_add_24 hc
    have gzS19 : ph S19 ≤ ph Sz := by
      cases so_1 hf
      omega
    refine gGV_v hC hM hA hR hZ hl.1 [.int 46] [] (c_X6_add_24 l D cs adK adV a q1 q2 N 46 S18 S19 hc) gX10_writeClause_X6_add rfl hd_X6_add ⟨Nat.le_of_ble_eq_true rfl, Nat.le_of_ble_eq_true rfl⟩ 24 6 clX6 rfl cE24 (Nat.le_of_ble_eq_true rfl) dX10_writeClause_121 rfl ⟨by show _ + (ph S19 - ph S18) ≤ ph Sz - ph S; omega, by show _ + 2 * (ph S19 - ph S18) ≤ 2 * (ph Sz - ph S); omega⟩ (fun q1 q2 H locs hM => ?_)
    have hpS19 : ph S ≤ ph S19 := by omega
    refine W.widen (k := ph S19 - ph S) (n := 2 * (ph S19 - ph S)) (by omega) (by omega) ?_
    cases so_1 hf
    exact hQ _ _ _ _ _ _ _ _ dX10_writeClause_124 hM (by omega) (by omega)
  · intro k52 hk52 hf
    refine lv_if_eq (tgt := 52) hx hb dX10_writeClause_35 (by decide) (fun c20 => ?_) (fun c20 => ?_)
    · replace hf := it_t c20 hf
      refine W.widen (k := ph S7 - ph S) (n := 2 * (ph S7 - ph S)) (by omega) (by omega) ?_
      exact (hk52 _ hf).2 (by omega) _ _ _ _ _ hM (lv_sub hl [2, 3, 4] rfl)
    · replace hf := it_f c20 hf
      refine lv_aload_n hx hb dX10_writeClause_38 rfl (lv_at hl 4 rfl) ?_
      refine va_ldcwS hx hb hown (hR ("WeatherTeller", 270, " but ", 5) (by decide)) dX10_writeClause_39 ?_
      refine W.widen (k := ph S7 - ph S) (n := 2 * (ph S7 - ph S)) (by omega) (by omega) ?_
      obtain ⟨S21, hc, hf⟩ := bd_s hf
      have gS21 : ph S7 ≤ ph S21 := mo_X6_addAll_24 hc
      have gzS21 : ph S21 ≤ ph Sz := by
        obtain ⟨S22, hc, hf⟩ := bd_s hf
        have gS22 : ph S21 ≤ ph S22 := mo_X10_writeNames_24 hc
        have hj := (hk52 _ hf).1
        omega
      refine gGV_v hC hM hA hR hZ hl.1 [.ref (adK 5)] [] (c_X6_addAll_24 l D cs adK adV a q1 q2 N 5 (by decide) S7 S21 hc) gX10_writeClause_X6_addAll rfl hd_X6_addAll ⟨Nat.le_of_ble_eq_true rfl, Nat.le_of_ble_eq_true rfl⟩ 24 6 clX6 rfl cE24 (Nat.le_of_ble_eq_true rfl) dX10_writeClause_42 rfl ⟨by show _ + (ph S21 - ph S7) ≤ ph Sz - ph S; omega, by show _ + 2 * (ph S21 - ph S7) ≤ 2 * (ph Sz - ph S); omega⟩ (fun q1 q2 H locs hM => ?_)
      have hpS21 : ph S ≤ ph S21 := by omega
      refine W.widen (k := ph S21 - ph S) (n := 2 * (ph S21 - ph S)) (by omega) (by omega) ?_
      refine lv_aload_n hx hb dX10_writeClause_45 rfl (lv_at hl 2 rfl) ?_
      refine lv_iload hx hb dX10_writeClause_46 (lv_at hl 0 rfl) ?_
      refine lv_aload_n hx hb dX10_writeClause_48 rfl (lv_at hl 4 rfl) ?_
      refine W.widen (k := ph S21 - ph S) (n := 2 * (ph S21 - ph S)) (by omega) (by omega) ?_
      obtain ⟨S22, hc, hf⟩ := bd_s hf
      have gS22 : ph S21 ≤ ph S22 := mo_X10_writeNames_24 hc
      have gzS22 : ph S22 ≤ ph Sz := by
        have hj := (hk52 _ hf).1
        omega
      refine gGV_v hC hM hA hR hZ hl.1 [.int v6, .ref (a 24)] [] (c_X10_writeNames_24 l D cs adK adV a q1 q2 N v6 S21 S22 hc) gX10_writeClause_X10_writeNames rfl hd_X10_writeNames ⟨Nat.le_of_ble_eq_true rfl, Nat.le_of_ble_eq_true rfl⟩ 0 10 clX10 rfl cE0 (Nat.le_of_ble_eq_true rfl) dX10_writeClause_49 rfl ⟨by show _ + (ph S22 - ph S21) ≤ ph Sz - ph S; omega, by show _ + 2 * (ph S22 - ph S21) ≤ 2 * (ph Sz - ph S); omega⟩ (fun q1 q2 H locs hM => ?_)
      have hpS22 : ph S ≤ ph S22 := by omega
      refine W.widen (k := ph S22 - ph S) (n := 2 * (ph S22 - ph S)) (by omega) (by omega) ?_
      refine W.widen (k := ph S22 - ph S) (n := 2 * (ph S22 - ph S)) (by omega) (by omega) ?_
      exact (hk52 _ hf).2 (by omega) _ _ _ _ _ hM (lv_sub hl [2, 3, 4] rfl)

theorem mo_X10_writeClause_26 {N : Nat} {p0 : Int32} {S : St} {Sz : St} (hf : f_X10_writeClause N 26 p0 S = some Sz) : ph S ≤ ph Sz := by
  unfold f_X10_writeClause at hf
  obtain ⟨-, hf⟩ := ck_s hf
  replace hf := nm_q rfl hf
  obtain ⟨v3, S4, hc, hf⟩ := bd2_s hf
  have gS4 : ph S ≤ ph S4 := mo_X3_namesOf hc
  obtain ⟨S5, hc, hf⟩ := bd_s hf
  have gS5 : ph S4 ≤ ph S5 := mo_X10_writeNames_26 hc
  obtain ⟨v6, S7, hc, hf⟩ := bd2_s hf
  have gS7 : ph S5 ≤ ph S7 := mo_X3_takenOutOf hc
  refine jp_W (fun k52 : St → Option (St) => ∀ (S8 : St), k52 S8 = some Sz → ph S8 ≤ ph Sz ∧ True) ?_ ?_ hf
  · intro S8 hf
    unfold j_X10_writeClause_52 at hf
    refine ⟨?_, trivial⟩
    obtain ⟨S9, hc, hf⟩ := bd_s hf
    have gS9 : ph S8 ≤ ph S9 := mo_X6_addAll_26 hc
    obtain ⟨-, hf⟩ := ck_s hf
    obtain ⟨-, hf⟩ := ck_s hf
    obtain ⟨S12, hc, hf⟩ := bd_s hf
    have gS12 : ph S9 ≤ ph S12 := mo_X6_addWord_26 hc
    obtain ⟨S13, hc, hf⟩ := bd_s hf
    have gS13 : ph S12 ≤ ph S13 := mo_X6_add_26 hc
    obtain ⟨-, hf⟩ := ck_s hf
    obtain ⟨S15, hc, hf⟩ := bd_s hf
    have gS15 : ph S13 ≤ ph S15 := mo_X6_addHour_26 hc
    obtain ⟨S16, hc, hf⟩ := bd_s hf
    have gS16 : ph S15 ≤ ph S16 := mo_X6_add_26 hc
    obtain ⟨-, hf⟩ := ck_s hf
    obtain ⟨S18, hc, hf⟩ := bd_s hf
    have gS18 : ph S16 ≤ ph S18 := mo_X6_addHour_26 hc
    obtain ⟨S19, hc, hf⟩ := bd_s hf
    have gS19 : ph S18 ≤ ph S19 := mo_X6_add_26 hc
    cases so_1 hf
    omega
  · intro k52 hk52 hf
    rcases it_s hf with ⟨-, hf⟩ | ⟨-, hf⟩
    · skip
      have hj := (hk52 _ hf).1
      omega
    · skip
      obtain ⟨S21, hc, hf⟩ := bd_s hf
      have gS21 : ph S7 ≤ ph S21 := mo_X6_addAll_26 hc
      obtain ⟨S22, hc, hf⟩ := bd_s hf
      have gS22 : ph S21 ≤ ph S22 := mo_X10_writeNames_26 hc
      have hj := (hk52 _ hf).1
      omega
set_option maxRecDepth 100000 in
set_option maxHeartbeats 4000000 in
theorem c_X10_writeClause_26 (l : Launch) (D : va_G) (cs : Nat → ClassId) (adK adV : Nat → Nat) (a : Nat → Nat) (q1 q2 : Nat) (N : Nat) (p0 : Int32) (S : St) (Sz : St) (hf : f_X10_writeClause N 26 p0 S = some Sz) : gGv l yX10_writeClause wsX10_writeClause 6 131 D cs adK adV [.ref (a 0), .int p0, .ref (a 26)] a q1 q2 S Sz := by
  have hzz : ph S ≤ ph Sz := mo_X10_writeClause_26 hf
  unfold f_X10_writeClause at hf
  refine gGE_v (cc := cX10_writeClause) (maxL := 5) (by decide) rfl (Nat.le_of_ble_eq_true rfl) ?_
  intro p e s m args below meth c A Q hC hA hR hZ hQ hM ls hl
  obtain ⟨hx, hb, hml, hown, hts⟩ := hC.1
  have hl : lv_has ls 5 [(0, .ref (a 0)), (1, .int p0), (2, .ref (a 26))] := hl
  have hpS : ph S ≤ ph S := Nat.le_refl _
  refine lv_aload_n hx hb dX10_writeClause_0 rfl (lv_at hl 0 rfl) ?_
  refine g_get hC hM inX10_writeClause_X10 0 cE0 clX10 4 (by decide) tX10_writeClause_1 TX10_4 cV0_4 dX10_writeClause_1 ?_
  refine g_get hC hM inX10_writeClause_X2 8 cE8 clX2 3 (by decide) tX10_writeClause_2 TX2_3 cV8_3 dX10_writeClause_4 ?_
  refine lv_iload_n hx hb dX10_writeClause_7 rfl (lv_at hl 1 rfl) ?_
  obtain ⟨h1, hf⟩ := ck_s hf
  refine g_iald hC hM 12 cE12 h1 dX10_writeClause_8 ?_
  refine lv_topi (fun v2 ev2 => ?_)
  replace hf := nm_q ev2 hf
  refine lv_istore_n (lv' := [(3, .int v2), (0, .ref (a 0)), (1, .int p0), (2, .ref (a 26))]) hx hb dX10_writeClause_9 rfl hl (by decide) rfl (fun ls hl => ?_)
  refine lv_aload_n hx hb dX10_writeClause_10 rfl (lv_at hl 1 rfl) ?_
  refine lv_aload_n hx hb dX10_writeClause_11 rfl (lv_at hl 1 rfl) ?_
  refine g_get hC hM inX10_writeClause_X10 0 cE0 clX10 3 (by decide) tX10_writeClause_3 TX10_3 cV0_3 dX10_writeClause_12 ?_
  refine lv_iload_n hx hb dX10_writeClause_15 rfl (lv_at hl 0 rfl) ?_
  obtain ⟨v3, S4, hc, hf⟩ := bd2_s hf
  have gS4 : ph S ≤ ph S4 := mo_X3_namesOf hc
  have gzS4 : ph S4 ≤ ph Sz := by
    obtain ⟨S5, hc, hf⟩ := bd_s hf
    have gS5 : ph S4 ≤ ph S5 := mo_X10_writeNames_26 hc
    obtain ⟨v6, S7, hc, hf⟩ := bd2_s hf
    have gS7 : ph S5 ≤ ph S7 := mo_X3_takenOutOf hc
    refine jp_W (fun k52 : St → Option (St) => ∀ (S8 : St), k52 S8 = some Sz → ph S8 ≤ ph Sz ∧ True) ?_ ?_ hf
    · intro S8 hf
      unfold j_X10_writeClause_52 at hf
      refine ⟨?_, trivial⟩
      obtain ⟨S9, hc, hf⟩ := bd_s hf
      have gS9 : ph S8 ≤ ph S9 := mo_X6_addAll_26 hc
      obtain ⟨-, hf⟩ := ck_s hf
      obtain ⟨-, hf⟩ := ck_s hf
      obtain ⟨S12, hc, hf⟩ := bd_s hf
      have gS12 : ph S9 ≤ ph S12 := mo_X6_addWord_26 hc
      obtain ⟨S13, hc, hf⟩ := bd_s hf
      have gS13 : ph S12 ≤ ph S13 := mo_X6_add_26 hc
      obtain ⟨-, hf⟩ := ck_s hf
      obtain ⟨S15, hc, hf⟩ := bd_s hf
      have gS15 : ph S13 ≤ ph S15 := mo_X6_addHour_26 hc
      obtain ⟨S16, hc, hf⟩ := bd_s hf
      have gS16 : ph S15 ≤ ph S16 := mo_X6_add_26 hc
      obtain ⟨-, hf⟩ := ck_s hf
      obtain ⟨S18, hc, hf⟩ := bd_s hf
      have gS18 : ph S16 ≤ ph S18 := mo_X6_addHour_26 hc
      obtain ⟨S19, hc, hf⟩ := bd_s hf
      have gS19 : ph S18 ≤ ph S19 := mo_X6_add_26 hc
      cases so_1 hf
      omega
    · intro k52 hk52 hf
      rcases it_s hf with ⟨-, hf⟩ | ⟨-, hf⟩
      · skip
        have hj := (hk52 _ hf).1
        omega
      · skip
        obtain ⟨S21, hc, hf⟩ := bd_s hf
        have gS21 : ph S7 ≤ ph S21 := mo_X6_addAll_26 hc
        obtain ⟨S22, hc, hf⟩ := bd_s hf
        have gS22 : ph S21 ≤ ph S22 := mo_X10_writeNames_26 hc
        have hj := (hk52 _ hf).1
        omega
  refine W.widen (k := ph S - ph S) (n := 2 * (ph S - ph S)) (by omega) (by omega) ?_
  refine gV_i hC hM hA hl.1 [.int v2] [.ref (a 0)] (c_X3_namesOf l D cs a q1 q2 N v2 S v3 S4 hc) gX10_writeClause_X3_namesOf rfl hd_X3_namesOf ⟨Nat.le_of_ble_eq_true rfl, Nat.le_of_ble_eq_true rfl⟩ 5 3 clX3 rfl cE5 (Nat.le_of_ble_eq_true rfl) dX10_writeClause_16 rfl ⟨by show _ + 0 ≤ ph Sz - ph S; omega, by show _ + 0 ≤ 2 * (ph Sz - ph S); omega⟩ (fun H locs hM => ?_)
  refine W.widen (k := ph S - ph S) (n := 2 * (ph S - ph S)) (Nat.le_refl _) (Nat.le_refl _) ?_
  refine lv_aload_n hx hb dX10_writeClause_19 rfl (lv_at hl 3 rfl) ?_
  refine W.widen (k := ph S4 - ph S) (n := 2 * (ph S4 - ph S)) (by omega) (by omega) ?_
  obtain ⟨S5, hc, hf⟩ := bd_s hf
  have gS5 : ph S4 ≤ ph S5 := mo_X10_writeNames_26 hc
  have gzS5 : ph S5 ≤ ph Sz := by
    obtain ⟨v6, S7, hc, hf⟩ := bd2_s hf
    have gS7 : ph S5 ≤ ph S7 := mo_X3_takenOutOf hc
    refine jp_W (fun k52 : St → Option (St) => ∀ (S8 : St), k52 S8 = some Sz → ph S8 ≤ ph Sz ∧ True) ?_ ?_ hf
    · intro S8 hf
      unfold j_X10_writeClause_52 at hf
      refine ⟨?_, trivial⟩
      obtain ⟨S9, hc, hf⟩ := bd_s hf
      have gS9 : ph S8 ≤ ph S9 := mo_X6_addAll_26 hc
      obtain ⟨-, hf⟩ := ck_s hf
      obtain ⟨-, hf⟩ := ck_s hf
      obtain ⟨S12, hc, hf⟩ := bd_s hf
      have gS12 : ph S9 ≤ ph S12 := mo_X6_addWord_26 hc
      obtain ⟨S13, hc, hf⟩ := bd_s hf
      have gS13 : ph S12 ≤ ph S13 := mo_X6_add_26 hc
      obtain ⟨-, hf⟩ := ck_s hf
      obtain ⟨S15, hc, hf⟩ := bd_s hf
      have gS15 : ph S13 ≤ ph S15 := mo_X6_addHour_26 hc
      obtain ⟨S16, hc, hf⟩ := bd_s hf
      have gS16 : ph S15 ≤ ph S16 := mo_X6_add_26 hc
      obtain ⟨-, hf⟩ := ck_s hf
      obtain ⟨S18, hc, hf⟩ := bd_s hf
      have gS18 : ph S16 ≤ ph S18 := mo_X6_addHour_26 hc
      obtain ⟨S19, hc, hf⟩ := bd_s hf
      have gS19 : ph S18 ≤ ph S19 := mo_X6_add_26 hc
      cases so_1 hf
      omega
    · intro k52 hk52 hf
      rcases it_s hf with ⟨-, hf⟩ | ⟨-, hf⟩
      · skip
        have hj := (hk52 _ hf).1
        omega
      · skip
        obtain ⟨S21, hc, hf⟩ := bd_s hf
        have gS21 : ph S7 ≤ ph S21 := mo_X6_addAll_26 hc
        obtain ⟨S22, hc, hf⟩ := bd_s hf
        have gS22 : ph S21 ≤ ph S22 := mo_X10_writeNames_26 hc
        have hj := (hk52 _ hf).1
        omega
  refine gGV_v hC hM hA hR hZ hl.1 [.int v3, .ref (a 26)] [] (c_X10_writeNames_26 l D cs adK adV a q1 q2 N v3 S4 S5 hc) gX10_writeClause_X10_writeNames rfl hd_X10_writeNames ⟨Nat.le_of_ble_eq_true rfl, Nat.le_of_ble_eq_true rfl⟩ 0 10 clX10 rfl cE0 (Nat.le_of_ble_eq_true rfl) dX10_writeClause_20 rfl ⟨by show _ + (ph S5 - ph S4) ≤ ph Sz - ph S; omega, by show _ + 2 * (ph S5 - ph S4) ≤ 2 * (ph Sz - ph S); omega⟩ (fun q1 q2 H locs hM => ?_)
  have hpS5 : ph S ≤ ph S5 := by omega
  refine W.widen (k := ph S5 - ph S) (n := 2 * (ph S5 - ph S)) (by omega) (by omega) ?_
  refine lv_aload_n hx hb dX10_writeClause_23 rfl (lv_at hl 1 rfl) ?_
  refine g_get hC hM inX10_writeClause_X10 0 cE0 clX10 3 (by decide) tX10_writeClause_3 TX10_3 cV0_3 dX10_writeClause_24 ?_
  refine lv_iload_n hx hb dX10_writeClause_27 rfl (lv_at hl 0 rfl) ?_
  obtain ⟨v6, S7, hc, hf⟩ := bd2_s hf
  have gS7 : ph S5 ≤ ph S7 := mo_X3_takenOutOf hc
  have gzS7 : ph S7 ≤ ph Sz := by
    refine jp_W (fun k52 : St → Option (St) => ∀ (S8 : St), k52 S8 = some Sz → ph S8 ≤ ph Sz ∧ True) ?_ ?_ hf
    · intro S8 hf
      unfold j_X10_writeClause_52 at hf
      refine ⟨?_, trivial⟩
      obtain ⟨S9, hc, hf⟩ := bd_s hf
      have gS9 : ph S8 ≤ ph S9 := mo_X6_addAll_26 hc
      obtain ⟨-, hf⟩ := ck_s hf
      obtain ⟨-, hf⟩ := ck_s hf
      obtain ⟨S12, hc, hf⟩ := bd_s hf
      have gS12 : ph S9 ≤ ph S12 := mo_X6_addWord_26 hc
      obtain ⟨S13, hc, hf⟩ := bd_s hf
      have gS13 : ph S12 ≤ ph S13 := mo_X6_add_26 hc
      obtain ⟨-, hf⟩ := ck_s hf
      obtain ⟨S15, hc, hf⟩ := bd_s hf
      have gS15 : ph S13 ≤ ph S15 := mo_X6_addHour_26 hc
      obtain ⟨S16, hc, hf⟩ := bd_s hf
      have gS16 : ph S15 ≤ ph S16 := mo_X6_add_26 hc
      obtain ⟨-, hf⟩ := ck_s hf
      obtain ⟨S18, hc, hf⟩ := bd_s hf
      have gS18 : ph S16 ≤ ph S18 := mo_X6_addHour_26 hc
      obtain ⟨S19, hc, hf⟩ := bd_s hf
      have gS19 : ph S18 ≤ ph S19 := mo_X6_add_26 hc
      cases so_1 hf
      omega
    · intro k52 hk52 hf
      rcases it_s hf with ⟨-, hf⟩ | ⟨-, hf⟩
      · skip
        have hj := (hk52 _ hf).1
        omega
      · skip
        obtain ⟨S21, hc, hf⟩ := bd_s hf
        have gS21 : ph S7 ≤ ph S21 := mo_X6_addAll_26 hc
        obtain ⟨S22, hc, hf⟩ := bd_s hf
        have gS22 : ph S21 ≤ ph S22 := mo_X10_writeNames_26 hc
        have hj := (hk52 _ hf).1
        omega
  refine W.widen (k := ph S5 - ph S) (n := 2 * (ph S5 - ph S)) (by omega) (by omega) ?_
  refine gV_i hC hM hA hl.1 [.int v2] [] (c_X3_takenOutOf l D cs a q1 q2 N v2 S5 v6 S7 hc) gX10_writeClause_X3_takenOutOf rfl hd_X3_takenOutOf ⟨Nat.le_of_ble_eq_true rfl, Nat.le_of_ble_eq_true rfl⟩ 5 3 clX3 rfl cE5 (Nat.le_of_ble_eq_true rfl) dX10_writeClause_28 rfl ⟨by show _ + 0 ≤ ph Sz - ph S; omega, by show _ + 0 ≤ 2 * (ph Sz - ph S); omega⟩ (fun H locs hM => ?_)
  refine W.widen (k := ph S5 - ph S) (n := 2 * (ph S5 - ph S)) (Nat.le_refl _) (Nat.le_refl _) ?_
  refine lv_istore (lv' := [(4, .int v6), (3, .int v2), (0, .ref (a 0)), (1, .int p0), (2, .ref (a 26))]) hx hb dX10_writeClause_31 hl (by decide) rfl (fun ls hl => ?_)
  refine lv_iload hx hb dX10_writeClause_33 (lv_at hl 0 rfl) ?_
  refine jp_W (fun k52 : St → Option (St) => ∀ (S8 : St), k52 S8 = some Sz → ph S8 ≤ ph Sz ∧ (ph S ≤ ph S8 → ∀ (q1 q2 : Nat) (H : Heap) (locs : List Loc) (ls : Array Slot), gw D A s.heap H locs (ccells cs a q1 q2 S8) → lv_has ls 5 [(0, .ref (a 0)), (1, .int p0), (2, .ref (a 26))] → W p l e (rmG 6 131 S Sz) s m args below meth c H locs (ph S8 - ph S) (2 * (ph S8 - ph S)) Q (F0 m 52 ls []))) ?_ ?_ hf
  · intro S8 hf
    unfold j_X10_writeClause_52 at hf
    have gzS8 : ph S8 ≤ ph Sz := by
      obtain ⟨S9, hc, hf⟩ := bd_s hf
      have gS9 : ph S8 ≤ ph S9 := mo_X6_addAll_26 hc
      obtain ⟨-, hf⟩ := ck_s hf
      obtain ⟨-, hf⟩ := ck_s hf
      obtain ⟨S12, hc, hf⟩ := bd_s hf
      have gS12 : ph S9 ≤ ph S12 := mo_X6_addWord_26 hc
      obtain ⟨S13, hc, hf⟩ := bd_s hf
      have gS13 : ph S12 ≤ ph S13 := mo_X6_add_26 hc
      obtain ⟨-, hf⟩ := ck_s hf
      obtain ⟨S15, hc, hf⟩ := bd_s hf
      have gS15 : ph S13 ≤ ph S15 := mo_X6_addHour_26 hc
      obtain ⟨S16, hc, hf⟩ := bd_s hf
      have gS16 : ph S15 ≤ ph S16 := mo_X6_add_26 hc
      obtain ⟨-, hf⟩ := ck_s hf
      obtain ⟨S18, hc, hf⟩ := bd_s hf
      have gS18 : ph S16 ≤ ph S18 := mo_X6_addHour_26 hc
      obtain ⟨S19, hc, hf⟩ := bd_s hf
      have gS19 : ph S18 ≤ ph S19 := mo_X6_add_26 hc
      cases so_1 hf
      omega
    refine ⟨gzS8, ?_⟩
    intro hpS8 q1 q2 H locs ls hM hl
    refine lv_aload_n hx hb dX10_writeClause_52 rfl (lv_at hl 2 rfl) ?_
    refine va_ldcwS hx hb hown (hR ("WeatherTeller", 275, ": ", 6) (by decide)) dX10_writeClause_53 ?_
    refine W.widen (k := ph S8 - ph S) (n := 2 * (ph S8 - ph S)) (by omega) (by omega) ?_
    obtain ⟨S9, hc, hf⟩ := bd_s hf
    have gS9 : ph S8 ≤ ph S9 := mo_X6_addAll_26 hc
    have gzS9 : ph S9 ≤ ph Sz := by
      obtain ⟨-, hf⟩ := ck_s hf
      obtain ⟨-, hf⟩ := ck_s hf
      obtain ⟨S12, hc, hf⟩ := bd_s hf
      have gS12 : ph S9 ≤ ph S12 := mo_X6_addWord_26 hc
      obtain ⟨S13, hc, hf⟩ := bd_s hf
      have gS13 : ph S12 ≤ ph S13 := mo_X6_add_26 hc
      obtain ⟨-, hf⟩ := ck_s hf
      obtain ⟨S15, hc, hf⟩ := bd_s hf
      have gS15 : ph S13 ≤ ph S15 := mo_X6_addHour_26 hc
      obtain ⟨S16, hc, hf⟩ := bd_s hf
      have gS16 : ph S15 ≤ ph S16 := mo_X6_add_26 hc
      obtain ⟨-, hf⟩ := ck_s hf
      obtain ⟨S18, hc, hf⟩ := bd_s hf
      have gS18 : ph S16 ≤ ph S18 := mo_X6_addHour_26 hc
      obtain ⟨S19, hc, hf⟩ := bd_s hf
      have gS19 : ph S18 ≤ ph S19 := mo_X6_add_26 hc
      cases so_1 hf
      omega
    refine gGV_v hC hM hA hR hZ hl.1 [.ref (adK 6)] [] (c_X6_addAll_26 l D cs adK adV a q1 q2 N 6 (by decide) S8 S9 hc) gX10_writeClause_X6_addAll rfl hd_X6_addAll ⟨Nat.le_of_ble_eq_true rfl, Nat.le_of_ble_eq_true rfl⟩ 26 6 clX6 rfl cE26 (Nat.le_of_ble_eq_true rfl) dX10_writeClause_56 rfl ⟨by show _ + (ph S9 - ph S8) ≤ ph Sz - ph S; omega, by show _ + 2 * (ph S9 - ph S8) ≤ 2 * (ph Sz - ph S); omega⟩ (fun q1 q2 H locs hM => ?_)
    have hpS9 : ph S ≤ ph S9 := by omega
    refine W.widen (k := ph S9 - ph S) (n := 2 * (ph S9 - ph S)) (by omega) (by omega) ?_
    refine lv_aload_n hx hb dX10_writeClause_59 rfl (lv_at hl 2 rfl) ?_
    refine lv_aload_n hx hb dX10_writeClause_60 rfl (lv_at hl 0 rfl) ?_
    refine g_get hC hM inX10_writeClause_X10 0 cE0 clX10 8 (by decide) tX10_writeClause_4 TX10_8 cV0_8 dX10_writeClause_61 ?_
    refine g_get hC hM inX10_writeClause_X4 28 cE28 clX4 3 (by decide) tX10_writeClause_5 TX4_3 cV28_3 dX10_writeClause_64 ?_
    refine lv_aload_n hx hb dX10_writeClause_67 rfl (lv_at hl 0 rfl) ?_
    refine g_get hC hM inX10_writeClause_X10 0 cE0 clX10 4 (by decide) tX10_writeClause_1 TX10_4 cV0_4 dX10_writeClause_68 ?_
    refine g_get hC hM inX10_writeClause_X2 8 cE8 clX2 0 (by decide) tX10_writeClause_6 TX2_0 cV8_0 dX10_writeClause_71 ?_
    refine lv_iload_n hx hb dX10_writeClause_74 rfl (lv_at hl 1 rfl) ?_
    obtain ⟨h10, hf⟩ := ck_s hf
    refine g_iald hC hM 9 cE9 h10 dX10_writeClause_75 ?_
    obtain ⟨h11, hf⟩ := ck_s hf
    refine g_lald hC hM 32 cE32 h11 dX10_writeClause_76 ?_
    refine W.widen (k := ph S9 - ph S) (n := 2 * (ph S9 - ph S)) (by omega) (by omega) ?_
    obtain ⟨S12, hc, hf⟩ := bd_s hf
    have gS12 : ph S9 ≤ ph S12 := mo_X6_addWord_26 hc
    have gzS12 : ph S12 ≤ ph Sz := by
      obtain ⟨S13, hc, hf⟩ := bd_s hf
      have gS13 : ph S12 ≤ ph S13 := mo_X6_add_26 hc
      obtain ⟨-, hf⟩ := ck_s hf
      obtain ⟨S15, hc, hf⟩ := bd_s hf
      have gS15 : ph S13 ≤ ph S15 := mo_X6_addHour_26 hc
      obtain ⟨S16, hc, hf⟩ := bd_s hf
      have gS16 : ph S15 ≤ ph S16 := mo_X6_add_26 hc
      obtain ⟨-, hf⟩ := ck_s hf
      obtain ⟨S18, hc, hf⟩ := bd_s hf
      have gS18 : ph S16 ≤ ph S18 := mo_X6_addHour_26 hc
      obtain ⟨S19, hc, hf⟩ := bd_s hf
      have gS19 : ph S18 ≤ ph S19 := mo_X6_add_26 hc
      cases so_1 hf
      omega
    refine gGV_v hC hM hA hR hZ hl.1 [.long (S9.2 32 (S9.1 9 p0.toNatClampNeg).toNatClampNeg)] [] (c_X6_addWord_26 l D cs adK adV a q1 q2 N (S9.2 32 (S9.1 9 p0.toNatClampNeg).toNatClampNeg) S9 S12 hc) gX10_writeClause_X6_addWord rfl hd_X6_addWord ⟨Nat.le_of_ble_eq_true rfl, Nat.le_of_ble_eq_true rfl⟩ 26 6 clX6 rfl cE26 (Nat.le_of_ble_eq_true rfl) dX10_writeClause_77 rfl ⟨by show _ + (ph S12 - ph S9) ≤ ph Sz - ph S; omega, by show _ + 2 * (ph S12 - ph S9) ≤ 2 * (ph Sz - ph S); omega⟩ (fun q1 q2 H locs hM => ?_)
    have hpS12 : ph S ≤ ph S12 := by omega
    refine W.widen (k := ph S12 - ph S) (n := 2 * (ph S12 - ph S)) (by omega) (by omega) ?_
    refine lv_aload_n hx hb dX10_writeClause_80 rfl (lv_at hl 2 rfl) ?_
    refine lv_bipush (v := 32) hx hb dX10_writeClause_81 (by decide) ?_
    refine W.widen (k := ph S12 - ph S) (n := 2 * (ph S12 - ph S)) (by omega) (by omega) ?_
    obtain ⟨S13, hc, hf⟩ := bd_s hf
    have gS13 : ph S12 ≤ ph S13 := mo_X6_add_26 hc
    have gzS13 : ph S13 ≤ ph Sz := by
      obtain ⟨-, hf⟩ := ck_s hf
      obtain ⟨S15, hc, hf⟩ := bd_s hf
      have gS15 : ph S13 ≤ ph S15 := mo_X6_addHour_26 hc
      obtain ⟨S16, hc, hf⟩ := bd_s hf
      have gS16 : ph S15 ≤ ph S16 := mo_X6_add_26 hc
      obtain ⟨-, hf⟩ := ck_s hf
      obtain ⟨S18, hc, hf⟩ := bd_s hf
      have gS18 : ph S16 ≤ ph S18 := mo_X6_addHour_26 hc
      obtain ⟨S19, hc, hf⟩ := bd_s hf
      have gS19 : ph S18 ≤ ph S19 := mo_X6_add_26 hc
      cases so_1 hf
      omega
    refine gGV_v hC hM hA hR hZ hl.1 [.int 32] [] (c_X6_add_26 l D cs adK adV a q1 q2 N 32 S12 S13 hc) gX10_writeClause_X6_add rfl hd_X6_add ⟨Nat.le_of_ble_eq_true rfl, Nat.le_of_ble_eq_true rfl⟩ 26 6 clX6 rfl cE26 (Nat.le_of_ble_eq_true rfl) dX10_writeClause_83 rfl ⟨by show _ + (ph S13 - ph S12) ≤ ph Sz - ph S; omega, by show _ + 2 * (ph S13 - ph S12) ≤ 2 * (ph Sz - ph S); omega⟩ (fun q1 q2 H locs hM => ?_)
    have hpS13 : ph S ≤ ph S13 := by omega
    refine W.widen (k := ph S13 - ph S) (n := 2 * (ph S13 - ph S)) (by omega) (by omega) ?_
    refine lv_aload_n hx hb dX10_writeClause_86 rfl (lv_at hl 2 rfl) ?_
    refine lv_aload_n hx hb dX10_writeClause_87 rfl (lv_at hl 0 rfl) ?_
    refine g_get hC hM inX10_writeClause_X10 0 cE0 clX10 4 (by decide) tX10_writeClause_1 TX10_4 cV0_4 dX10_writeClause_88 ?_
    refine g_get hC hM inX10_writeClause_X2 8 cE8 clX2 1 (by decide) tX10_writeClause_7 TX2_1 cV8_1 dX10_writeClause_91 ?_
    refine lv_iload_n hx hb dX10_writeClause_94 rfl (lv_at hl 1 rfl) ?_
    obtain ⟨h14, hf⟩ := ck_s hf
    refine g_iald hC hM 10 cE10 h14 dX10_writeClause_95 ?_
    refine W.widen (k := ph S13 - ph S) (n := 2 * (ph S13 - ph S)) (by omega) (by omega) ?_
    obtain ⟨S15, hc, hf⟩ := bd_s hf
    have gS15 : ph S13 ≤ ph S15 := mo_X6_addHour_26 hc
    have gzS15 : ph S15 ≤ ph Sz := by
      obtain ⟨S16, hc, hf⟩ := bd_s hf
      have gS16 : ph S15 ≤ ph S16 := mo_X6_add_26 hc
      obtain ⟨-, hf⟩ := ck_s hf
      obtain ⟨S18, hc, hf⟩ := bd_s hf
      have gS18 : ph S16 ≤ ph S18 := mo_X6_addHour_26 hc
      obtain ⟨S19, hc, hf⟩ := bd_s hf
      have gS19 : ph S18 ≤ ph S19 := mo_X6_add_26 hc
      cases so_1 hf
      omega
    refine gGV_v hC hM hA hR hZ hl.1 [.int (S13.1 10 p0.toNatClampNeg)] [] (c_X6_addHour_26 l D cs adK adV a q1 q2 N (S13.1 10 p0.toNatClampNeg) S13 S15 hc) gX10_writeClause_X6_addHour rfl hd_X6_addHour ⟨Nat.le_of_ble_eq_true rfl, Nat.le_of_ble_eq_true rfl⟩ 26 6 clX6 rfl cE26 (Nat.le_of_ble_eq_true rfl) dX10_writeClause_96 rfl ⟨by show _ + (ph S15 - ph S13) ≤ ph Sz - ph S; omega, by show _ + 2 * (ph S15 - ph S13) ≤ 2 * (ph Sz - ph S); omega⟩ (fun q1 q2 H locs hM => ?_)
    have hpS15 : ph S ≤ ph S15 := by omega
    refine W.widen (k := ph S15 - ph S) (n := 2 * (ph S15 - ph S)) (by omega) (by omega) ?_
    refine lv_aload_n hx hb dX10_writeClause_99 rfl (lv_at hl 2 rfl) ?_
    refine lv_bipush (v := 45) hx hb dX10_writeClause_100 (by decide) ?_
    refine W.widen (k := ph S15 - ph S) (n := 2 * (ph S15 - ph S)) (by omega) (by omega) ?_
    obtain ⟨S16, hc, hf⟩ := bd_s hf
    have gS16 : ph S15 ≤ ph S16 := mo_X6_add_26 hc
    have gzS16 : ph S16 ≤ ph Sz := by
      obtain ⟨-, hf⟩ := ck_s hf
      obtain ⟨S18, hc, hf⟩ := bd_s hf
      have gS18 : ph S16 ≤ ph S18 := mo_X6_addHour_26 hc
      obtain ⟨S19, hc, hf⟩ := bd_s hf
      have gS19 : ph S18 ≤ ph S19 := mo_X6_add_26 hc
      cases so_1 hf
      omega
    refine gGV_v hC hM hA hR hZ hl.1 [.int 45] [] (c_X6_add_26 l D cs adK adV a q1 q2 N 45 S15 S16 hc) gX10_writeClause_X6_add rfl hd_X6_add ⟨Nat.le_of_ble_eq_true rfl, Nat.le_of_ble_eq_true rfl⟩ 26 6 clX6 rfl cE26 (Nat.le_of_ble_eq_true rfl) dX10_writeClause_102 rfl ⟨by show _ + (ph S16 - ph S15) ≤ ph Sz - ph S; omega, by show _ + 2 * (ph S16 - ph S15) ≤ 2 * (ph Sz - ph S); omega⟩ (fun q1 q2 H locs hM => ?_)
    have hpS16 : ph S ≤ ph S16 := by omega
    refine W.widen (k := ph S16 - ph S) (n := 2 * (ph S16 - ph S)) (by omega) (by omega) ?_
    refine lv_aload_n hx hb dX10_writeClause_105 rfl (lv_at hl 2 rfl) ?_
    refine lv_aload_n hx hb dX10_writeClause_106 rfl (lv_at hl 0 rfl) ?_
    refine g_get hC hM inX10_writeClause_X10 0 cE0 clX10 4 (by decide) tX10_writeClause_1 TX10_4 cV0_4 dX10_writeClause_107 ?_
    refine g_get hC hM inX10_writeClause_X2 8 cE8 clX2 2 (by decide) tX10_writeClause_8 TX2_2 cV8_2 dX10_writeClause_110 ?_
    refine lv_iload_n hx hb dX10_writeClause_113 rfl (lv_at hl 1 rfl) ?_
    obtain ⟨h17, hf⟩ := ck_s hf
    refine g_iald hC hM 11 cE11 h17 dX10_writeClause_114 ?_
    refine W.widen (k := ph S16 - ph S) (n := 2 * (ph S16 - ph S)) (by omega) (by omega) ?_
    obtain ⟨S18, hc, hf⟩ := bd_s hf
    have gS18 : ph S16 ≤ ph S18 := mo_X6_addHour_26 hc
    have gzS18 : ph S18 ≤ ph Sz := by
      obtain ⟨S19, hc, hf⟩ := bd_s hf
      have gS19 : ph S18 ≤ ph S19 := mo_X6_add_26 hc
      cases so_1 hf
      omega
    refine gGV_v hC hM hA hR hZ hl.1 [.int (S16.1 11 p0.toNatClampNeg)] [] (c_X6_addHour_26 l D cs adK adV a q1 q2 N (S16.1 11 p0.toNatClampNeg) S16 S18 hc) gX10_writeClause_X6_addHour rfl hd_X6_addHour ⟨Nat.le_of_ble_eq_true rfl, Nat.le_of_ble_eq_true rfl⟩ 26 6 clX6 rfl cE26 (Nat.le_of_ble_eq_true rfl) dX10_writeClause_115 rfl ⟨by show _ + (ph S18 - ph S16) ≤ ph Sz - ph S; omega, by show _ + 2 * (ph S18 - ph S16) ≤ 2 * (ph Sz - ph S); omega⟩ (fun q1 q2 H locs hM => ?_)
    have hpS18 : ph S ≤ ph S18 := by omega
    refine W.widen (k := ph S18 - ph S) (n := 2 * (ph S18 - ph S)) (by omega) (by omega) ?_
    refine lv_aload_n hx hb dX10_writeClause_118 rfl (lv_at hl 2 rfl) ?_
    refine lv_bipush (v := 46) hx hb dX10_writeClause_119 (by decide) ?_
    refine W.widen (k := ph S18 - ph S) (n := 2 * (ph S18 - ph S)) (by omega) (by omega) ?_
    obtain ⟨S19, hc, hf⟩ := bd_s hf
    have gS19 : ph S18 ≤ ph S19 := mo_X6_add_26 hc
    have gzS19 : ph S19 ≤ ph Sz := by
      cases so_1 hf
      omega
    refine gGV_v hC hM hA hR hZ hl.1 [.int 46] [] (c_X6_add_26 l D cs adK adV a q1 q2 N 46 S18 S19 hc) gX10_writeClause_X6_add rfl hd_X6_add ⟨Nat.le_of_ble_eq_true rfl, Nat.le_of_ble_eq_true rfl⟩ 26 6 clX6 rfl cE26 (Nat.le_of_ble_eq_true rfl) dX10_writeClause_121 rfl ⟨by show _ + (ph S19 - ph S18) ≤ ph Sz - ph S; omega, by show _ + 2 * (ph S19 - ph S18) ≤ 2 * (ph Sz - ph S); omega⟩ (fun q1 q2 H locs hM => ?_)
    have hpS19 : ph S ≤ ph S19 := by omega
    refine W.widen (k := ph S19 - ph S) (n := 2 * (ph S19 - ph S)) (by omega) (by omega) ?_
    cases so_1 hf
    exact hQ _ _ _ _ _ _ _ _ dX10_writeClause_124 hM (by omega) (by omega)
  · intro k52 hk52 hf
    refine lv_if_eq (tgt := 52) hx hb dX10_writeClause_35 (by decide) (fun c20 => ?_) (fun c20 => ?_)
    · replace hf := it_t c20 hf
      refine W.widen (k := ph S7 - ph S) (n := 2 * (ph S7 - ph S)) (by omega) (by omega) ?_
      exact (hk52 _ hf).2 (by omega) _ _ _ _ _ hM (lv_sub hl [2, 3, 4] rfl)
    · replace hf := it_f c20 hf
      refine lv_aload_n hx hb dX10_writeClause_38 rfl (lv_at hl 4 rfl) ?_
      refine va_ldcwS hx hb hown (hR ("WeatherTeller", 270, " but ", 5) (by decide)) dX10_writeClause_39 ?_
      refine W.widen (k := ph S7 - ph S) (n := 2 * (ph S7 - ph S)) (by omega) (by omega) ?_
      obtain ⟨S21, hc, hf⟩ := bd_s hf
      have gS21 : ph S7 ≤ ph S21 := mo_X6_addAll_26 hc
      have gzS21 : ph S21 ≤ ph Sz := by
        obtain ⟨S22, hc, hf⟩ := bd_s hf
        have gS22 : ph S21 ≤ ph S22 := mo_X10_writeNames_26 hc
        have hj := (hk52 _ hf).1
        omega
      refine gGV_v hC hM hA hR hZ hl.1 [.ref (adK 5)] [] (c_X6_addAll_26 l D cs adK adV a q1 q2 N 5 (by decide) S7 S21 hc) gX10_writeClause_X6_addAll rfl hd_X6_addAll ⟨Nat.le_of_ble_eq_true rfl, Nat.le_of_ble_eq_true rfl⟩ 26 6 clX6 rfl cE26 (Nat.le_of_ble_eq_true rfl) dX10_writeClause_42 rfl ⟨by show _ + (ph S21 - ph S7) ≤ ph Sz - ph S; omega, by show _ + 2 * (ph S21 - ph S7) ≤ 2 * (ph Sz - ph S); omega⟩ (fun q1 q2 H locs hM => ?_)
      have hpS21 : ph S ≤ ph S21 := by omega
      refine W.widen (k := ph S21 - ph S) (n := 2 * (ph S21 - ph S)) (by omega) (by omega) ?_
      refine lv_aload_n hx hb dX10_writeClause_45 rfl (lv_at hl 2 rfl) ?_
      refine lv_iload hx hb dX10_writeClause_46 (lv_at hl 0 rfl) ?_
      refine lv_aload_n hx hb dX10_writeClause_48 rfl (lv_at hl 4 rfl) ?_
      refine W.widen (k := ph S21 - ph S) (n := 2 * (ph S21 - ph S)) (by omega) (by omega) ?_
      obtain ⟨S22, hc, hf⟩ := bd_s hf
      have gS22 : ph S21 ≤ ph S22 := mo_X10_writeNames_26 hc
      have gzS22 : ph S22 ≤ ph Sz := by
        have hj := (hk52 _ hf).1
        omega
      refine gGV_v hC hM hA hR hZ hl.1 [.int v6, .ref (a 26)] [] (c_X10_writeNames_26 l D cs adK adV a q1 q2 N v6 S21 S22 hc) gX10_writeClause_X10_writeNames rfl hd_X10_writeNames ⟨Nat.le_of_ble_eq_true rfl, Nat.le_of_ble_eq_true rfl⟩ 0 10 clX10 rfl cE0 (Nat.le_of_ble_eq_true rfl) dX10_writeClause_49 rfl ⟨by show _ + (ph S22 - ph S21) ≤ ph Sz - ph S; omega, by show _ + 2 * (ph S22 - ph S21) ≤ 2 * (ph Sz - ph S); omega⟩ (fun q1 q2 H locs hM => ?_)
      have hpS22 : ph S ≤ ph S22 := by omega
      refine W.widen (k := ph S22 - ph S) (n := 2 * (ph S22 - ph S)) (by omega) (by omega) ?_
      refine W.widen (k := ph S22 - ph S) (n := 2 * (ph S22 - ph S)) (by omega) (by omega) ?_
      exact (hk52 _ hf).2 (by omega) _ _ _ _ _ hM (lv_sub hl [2, 3, 4] rfl)

theorem hd_X10_clauseLength : yX10_clauseLength.cls = RX10 ∧ yX10_clauseLength.cls ≠ "java/lang/invoke/MethodHandle" ∧ yX10_clauseLength.cls ≠ "java/lang/invoke/VarHandle" ∧ (parseMethodDescriptor yX10_clauseLength.desc).map (fun d => d.parameters.length) = some 1 := by decide +kernel
theorem tX10_clauseLength_1 : Cond.fieldLink RX10 63 "WeatherTeller" "clause" "LWeatherTeller$Signs;" ∈ wsX10_clauseLength := List.mem_of_getElem? (i := 1) rfl
theorem inX10_clauseLength_X10 : ∀ w ∈ u_ws RX10 TX10 13, w ∈ wsX10_clauseLength := fun _ h => List.mem_cons_of_mem _ (List.mem_append_left _ (List.mem_append_left _ (List.mem_append_left _ (List.mem_append_left _ (List.mem_append_right _ h)))))
theorem tX10_clauseLength_2 : Cond.fieldLink RX10 206 "WeatherTeller$Signs" "length" "I" ∈ wsX10_clauseLength := List.mem_of_getElem? (i := 2) rfl
theorem inX10_clauseLength_X6 : ∀ w ∈ u_ws RX6 TX6 2, w ∈ wsX10_clauseLength := fun _ h => List.mem_cons_of_mem _ (List.mem_append_left _ (List.mem_append_left _ (List.mem_append_left _ (List.mem_append_right _ h))))
def f_X10_clauseLength (N : Nat) (p0 : Int32) (S : St) : Option (Int32 × St) :=
  bd (f_X6_clear N 26 S) fun S1 =>
  bd (f_X10_writeClause N 26 p0 S1) fun S2 =>
  some ((S2.1 26 1), S2)
theorem mo_X10_clauseLength {N : Nat} {p0 : Int32} {S : St} {rz : Int32} {Sz : St} (hf : f_X10_clauseLength N p0 S = some (rz, Sz)) : ph S ≤ ph Sz := by
  unfold f_X10_clauseLength at hf
  obtain ⟨S1, hc, hf⟩ := bd_s hf
  have gS1 : ph S ≤ ph S1 := mo_X6_clear_26 hc
  obtain ⟨S2, hc, hf⟩ := bd_s hf
  have gS2 : ph S1 ≤ ph S2 := mo_X10_writeClause_26 hc
  obtain ⟨e1, e2⟩ := so_2 hf
  cases e1; cases e2
  omega
set_option maxRecDepth 100000 in
set_option maxHeartbeats 4000000 in
theorem c_X10_clauseLength (l : Launch) (D : va_G) (cs : Nat → ClassId) (adK adV : Nat → Nat) (a : Nat → Nat) (q1 q2 : Nat) (N : Nat) (p0 : Int32) (S : St) (rz : Int32) (Sz : St) (hf : f_X10_clauseLength N p0 S = some (rz, Sz)) : gGi l yX10_clauseLength wsX10_clauseLength 7 155 D cs adK adV [.ref (a 0), .int p0] a q1 q2 S rz Sz := by
  have hzz : ph S ≤ ph Sz := mo_X10_clauseLength hf
  unfold f_X10_clauseLength at hf
  refine gGE_i (cc := cX10_clauseLength) (maxL := 2) (by decide) rfl (Nat.le_of_ble_eq_true rfl) ?_
  intro p e s m args below meth c A Q hC hA hR hZ hQ hM ls hl
  obtain ⟨hx, hb, hml, hown, hts⟩ := hC.1
  have hl : lv_has ls 2 [(0, .ref (a 0)), (1, .int p0)] := hl
  have hpS : ph S ≤ ph S := Nat.le_refl _
  refine lv_aload_n hx hb dX10_clauseLength_0 rfl (lv_at hl 0 rfl) ?_
  refine g_get hC hM inX10_clauseLength_X10 0 cE0 clX10 7 (by decide) tX10_clauseLength_1 TX10_7 cV0_7 dX10_clauseLength_1 ?_
  obtain ⟨S1, hc, hf⟩ := bd_s hf
  have gS1 : ph S ≤ ph S1 := mo_X6_clear_26 hc
  have gzS1 : ph S1 ≤ ph Sz := by
    obtain ⟨S2, hc, hf⟩ := bd_s hf
    have gS2 : ph S1 ≤ ph S2 := mo_X10_writeClause_26 hc
    obtain ⟨e1, e2⟩ := so_2 hf
    cases e1; cases e2
    omega
  refine W.widen (k := ph S - ph S) (n := 2 * (ph S - ph S)) (by omega) (by omega) ?_
  refine gV_v hC hM hA hl.1 [] [] (c_X6_clear_26 l D cs a q1 q2 N S S1 hc) gX10_clauseLength_X6_clear rfl hd_X6_clear ⟨Nat.le_of_ble_eq_true rfl, Nat.le_of_ble_eq_true rfl⟩ 26 6 clX6 rfl cE26 (Nat.le_of_ble_eq_true rfl) dX10_clauseLength_4 rfl ⟨by show _ + 0 ≤ ph Sz - ph S; omega, by show _ + 0 ≤ 2 * (ph Sz - ph S); omega⟩ (fun H locs hM => ?_)
  refine W.widen (k := ph S - ph S) (n := 2 * (ph S - ph S)) (Nat.le_refl _) (Nat.le_refl _) ?_
  refine lv_aload_n hx hb dX10_clauseLength_7 rfl (lv_at hl 0 rfl) ?_
  refine lv_iload_n hx hb dX10_clauseLength_8 rfl (lv_at hl 1 rfl) ?_
  refine lv_aload_n hx hb dX10_clauseLength_9 rfl (lv_at hl 0 rfl) ?_
  refine g_get hC hM inX10_clauseLength_X10 0 cE0 clX10 7 (by decide) tX10_clauseLength_1 TX10_7 cV0_7 dX10_clauseLength_10 ?_
  refine W.widen (k := ph S1 - ph S) (n := 2 * (ph S1 - ph S)) (by omega) (by omega) ?_
  obtain ⟨S2, hc, hf⟩ := bd_s hf
  have gS2 : ph S1 ≤ ph S2 := mo_X10_writeClause_26 hc
  have gzS2 : ph S2 ≤ ph Sz := by
    obtain ⟨e1, e2⟩ := so_2 hf
    cases e1; cases e2
    omega
  refine gGV_v hC hM hA hR hZ hl.1 [.int p0, .ref (a 26)] [] (c_X10_writeClause_26 l D cs adK adV a q1 q2 N p0 S1 S2 hc) gX10_clauseLength_X10_writeClause rfl hd_X10_writeClause ⟨Nat.le_of_ble_eq_true rfl, Nat.le_of_ble_eq_true rfl⟩ 0 10 clX10 rfl cE0 (Nat.le_of_ble_eq_true rfl) dX10_clauseLength_13 rfl ⟨by show _ + (ph S2 - ph S1) ≤ ph Sz - ph S; omega, by show _ + 2 * (ph S2 - ph S1) ≤ 2 * (ph Sz - ph S); omega⟩ (fun q1 q2 H locs hM => ?_)
  have hpS2 : ph S ≤ ph S2 := by omega
  refine W.widen (k := ph S2 - ph S) (n := 2 * (ph S2 - ph S)) (by omega) (by omega) ?_
  refine lv_aload_n hx hb dX10_clauseLength_16 rfl (lv_at hl 0 rfl) ?_
  refine g_get hC hM inX10_clauseLength_X10 0 cE0 clX10 7 (by decide) tX10_clauseLength_1 TX10_7 cV0_7 dX10_clauseLength_17 ?_
  refine g_get hC hM inX10_clauseLength_X6 26 cE26 clX6 1 (by decide) tX10_clauseLength_2 TX6_1 cV26_1 dX10_clauseLength_20 ?_
  obtain ⟨e1, e2⟩ := so_2 hf
  cases e1; cases e2
  exact hQ _ _ _ _ _ _ _ _ dX10_clauseLength_23 hM (by omega) (by omega)

theorem hd_X10_writeText : yX10_writeText.cls = RX10 ∧ yX10_writeText.cls ≠ "java/lang/invoke/MethodHandle" ∧ yX10_writeText.cls ≠ "java/lang/invoke/VarHandle" ∧ (parseMethodDescriptor yX10_writeText.desc).map (fun d => d.parameters.length) = some 0 := by decide +kernel
theorem tX10_writeText_1 : Cond.fieldLink RX10 54 "WeatherTeller" "text" "LWeatherTeller$Text;" ∈ wsX10_writeText := List.mem_of_getElem? (i := 1) rfl
theorem inX10_writeText_X10 : ∀ w ∈ u_ws RX10 TX10 13, w ∈ wsX10_writeText := fun _ h => List.mem_cons_of_mem _ (List.mem_append_left _ (List.mem_append_left _ (List.mem_append_left _ (List.mem_append_left _ (List.mem_append_left _ (List.mem_append_right _ h))))))
theorem tX10_writeText_2 : Cond.fieldLink RX10 193 "WeatherTeller$Text" "size" "I" ∈ wsX10_writeText := List.mem_of_getElem? (i := 2) rfl
theorem inX10_writeText_X9 : ∀ w ∈ u_ws RX9 TX9 4, w ∈ wsX10_writeText := fun _ h => List.mem_cons_of_mem _ (List.mem_append_left _ (List.mem_append_left _ (List.mem_append_left _ (List.mem_append_left _ (List.mem_append_right _ h)))))
theorem tX10_writeText_4 : Cond.fieldLink RX10 209 "WeatherTeller$Text" "numbers" "[I" ∈ wsX10_writeText := List.mem_of_getElem? (i := 4) rfl
theorem tX10_writeText_3 : Cond.fieldLink RX10 203 "WeatherTeller$Text" "signs" "LWeatherTeller$Signs;" ∈ wsX10_writeText := List.mem_of_getElem? (i := 3) rfl
def j_X10_writeText_29 (N : Nat) (v1 : Int32) (k2 : Int32 → St → Option (St)) (S4 : St) : Option (St) :=
  ck v1 432 <|
  bd (f_X10_writeClause N 24 (S4.1 23 v1.toNatClampNeg) S4) fun S6 =>
  nm (v1 + 1) fun v7 =>
  k2 v7 S6
def b_X10_writeText_2 (N : Nat) (k2 : Int32 → St → Option (St)) (v1 : Int32) (S2 : St) : Option (St) :=
  if (S2.1 22 2) ≤ v1 then
    some S2
  else
    jp (j_X10_writeText_29 N v1 k2) fun k29 =>
    if v1 ≤ 0 then
      k29 S2
    else
      bd (f_X6_add N 24 32 S2) fun S9 =>
      k29 S9
def f_X10_writeText (N : Nat)  (S : St) : Option (St) :=
  jp (lp (fun _ _ => none) (b_X10_writeText_2 N) N) fun k2 =>
  k2 0 S
theorem mo_X10_writeText {N : Nat} {S : St} {Sz : St} (hf : f_X10_writeText N S = some Sz) : ph S ≤ ph Sz := by
  unfold f_X10_writeText at hf
  refine jl_W (fun k2 : Int32 → St → Option (St) => ∀ (v1 : Int32) (S2 : St), k2 v1 S2 = some Sz → ph S2 ≤ ph Sz ∧ True) ?_ ?_ ?_ hf
  · intro v1 S2 h; cases h
  · intro k2 hk2 v1 S2 hf
    unfold b_X10_writeText_2 at hf
    refine ⟨?_, trivial⟩
    rcases it_s hf with ⟨-, hf⟩ | ⟨-, hf⟩
    · skip
      cases so_1 hf
      omega
    · skip
      refine jp_W (fun k29 : St → Option (St) => ∀ (S4 : St), k29 S4 = some Sz → ph S4 ≤ ph Sz ∧ True) ?_ ?_ hf
      · intro S4 hf
        unfold j_X10_writeText_29 at hf
        refine ⟨?_, trivial⟩
        obtain ⟨-, hf⟩ := ck_s hf
        obtain ⟨S6, hc, hf⟩ := bd_s hf
        have gS6 : ph S4 ≤ ph S6 := mo_X10_writeClause_24 hc
        replace hf := nm_q rfl hf
        have hj := (hk2 _ _ hf).1
        omega
      · intro k29 hk29 hf
        rcases it_s hf with ⟨-, hf⟩ | ⟨-, hf⟩
        · skip
          have hj := (hk29 _ hf).1
          omega
        · skip
          obtain ⟨S9, hc, hf⟩ := bd_s hf
          have gS9 : ph S2 ≤ ph S9 := mo_X6_add_24 hc
          have hj := (hk29 _ hf).1
          omega
  · intro k2 hk2 hf
    have hj := (hk2 _ _ hf).1
    omega
set_option maxRecDepth 100000 in
set_option maxHeartbeats 4000000 in
theorem c_X10_writeText (l : Launch) (D : va_G) (cs : Nat → ClassId) (adK adV : Nat → Nat) (a : Nat → Nat) (q1 q2 : Nat) (N : Nat) (S : St) (Sz : St) (hf : f_X10_writeText N S = some Sz) : gGv l yX10_writeText wsX10_writeText 7 155 D cs adK adV [.ref (a 0)] a q1 q2 S Sz := by
  have hzz : ph S ≤ ph Sz := mo_X10_writeText hf
  unfold f_X10_writeText at hf
  refine gGE_v (cc := cX10_writeText) (maxL := 2) (by decide) rfl (Nat.le_of_ble_eq_true rfl) ?_
  intro p e s m args below meth c A Q hC hA hR hZ hQ hM ls hl
  obtain ⟨hx, hb, hml, hown, hts⟩ := hC.1
  have hl : lv_has ls 2 [(0, .ref (a 0))] := hl
  have hpS : ph S ≤ ph S := Nat.le_refl _
  refine lv_iconst (v := 0) hx hb dX10_writeText_0 (by decide) ?_
  refine lv_istore_n (lv' := [(1, .int 0), (0, .ref (a 0))]) hx hb dX10_writeText_1 rfl hl (by decide) rfl (fun ls hl => ?_)
  refine jl_W (fun k2 : Int32 → St → Option (St) => ∀ (v1 : Int32) (S2 : St), k2 v1 S2 = some Sz → ph S2 ≤ ph Sz ∧ (ph S ≤ ph S2 → ∀ (q1 q2 : Nat) (H : Heap) (locs : List Loc) (ls : Array Slot), gw D A s.heap H locs (ccells cs a q1 q2 S2) → lv_has ls 2 [(0, .ref (a 0)), (1, .int v1)] → W p l e (rmG 7 155 S Sz) s m args below meth c H locs (ph S2 - ph S) (2 * (ph S2 - ph S)) Q (F0 m 2 ls []))) ?_ ?_ ?_ hf
  · intro v1 S2 h; cases h
  · intro k2 hk2 v1 S2 hf
    unfold b_X10_writeText_2 at hf
    have gzS2 : ph S2 ≤ ph Sz := by
      rcases it_s hf with ⟨-, hf⟩ | ⟨-, hf⟩
      · skip
        cases so_1 hf
        omega
      · skip
        refine jp_W (fun k29 : St → Option (St) => ∀ (S4 : St), k29 S4 = some Sz → ph S4 ≤ ph Sz ∧ True) ?_ ?_ hf
        · intro S4 hf
          unfold j_X10_writeText_29 at hf
          refine ⟨?_, trivial⟩
          obtain ⟨-, hf⟩ := ck_s hf
          obtain ⟨S6, hc, hf⟩ := bd_s hf
          have gS6 : ph S4 ≤ ph S6 := mo_X10_writeClause_24 hc
          replace hf := nm_q rfl hf
          have hj := (hk2 _ _ hf).1
          omega
        · intro k29 hk29 hf
          rcases it_s hf with ⟨-, hf⟩ | ⟨-, hf⟩
          · skip
            have hj := (hk29 _ hf).1
            omega
          · skip
            obtain ⟨S9, hc, hf⟩ := bd_s hf
            have gS9 : ph S2 ≤ ph S9 := mo_X6_add_24 hc
            have hj := (hk29 _ hf).1
            omega
    refine ⟨gzS2, ?_⟩
    intro hpS2 q1 q2 H locs ls hM hl
    refine lv_iload_n hx hb dX10_writeText_2 rfl (lv_at hl 1 rfl) ?_
    refine lv_aload_n hx hb dX10_writeText_3 rfl (lv_at hl 0 rfl) ?_
    refine g_get hC hM inX10_writeText_X10 0 cE0 clX10 6 (by decide) tX10_writeText_1 TX10_6 cV0_6 dX10_writeText_4 ?_
    refine g_get hC hM inX10_writeText_X9 22 cE22 clX9 2 (by decide) tX10_writeText_2 TX9_2 cV22_2 dX10_writeText_7 ?_
    refine lv_icmp_ge (tgt := 55) hx hb dX10_writeText_10 (by decide) (fun c3 => ?_) (fun c3 => ?_)
    · replace hf := it_t c3 hf
      cases so_1 hf
      exact hQ _ _ _ _ _ _ _ _ dX10_writeText_55 hM (by omega) (by omega)
    · replace hf := it_f c3 hf
      refine lv_iload_n hx hb dX10_writeText_13 rfl (lv_at hl 1 rfl) ?_
      refine jp_W (fun k29 : St → Option (St) => ∀ (S4 : St), k29 S4 = some Sz → ph S4 ≤ ph Sz ∧ (ph S ≤ ph S4 → ∀ (q1 q2 : Nat) (H : Heap) (locs : List Loc) (ls : Array Slot), gw D A s.heap H locs (ccells cs a q1 q2 S4) → lv_has ls 2 [(0, .ref (a 0)), (1, .int v1)] → W p l e (rmG 7 155 S Sz) s m args below meth c H locs (ph S4 - ph S) (2 * (ph S4 - ph S)) Q (F0 m 29 ls []))) ?_ ?_ hf
      · intro S4 hf
        unfold j_X10_writeText_29 at hf
        have gzS4 : ph S4 ≤ ph Sz := by
          obtain ⟨-, hf⟩ := ck_s hf
          obtain ⟨S6, hc, hf⟩ := bd_s hf
          have gS6 : ph S4 ≤ ph S6 := mo_X10_writeClause_24 hc
          replace hf := nm_q rfl hf
          have hj := (hk2 _ _ hf).1
          omega
        refine ⟨gzS4, ?_⟩
        intro hpS4 q1 q2 H locs ls hM hl
        refine lv_aload_n hx hb dX10_writeText_29 rfl (lv_at hl 0 rfl) ?_
        refine lv_aload_n hx hb dX10_writeText_30 rfl (lv_at hl 0 rfl) ?_
        refine g_get hC hM inX10_writeText_X10 0 cE0 clX10 6 (by decide) tX10_writeText_1 TX10_6 cV0_6 dX10_writeText_31 ?_
        refine g_get hC hM inX10_writeText_X9 22 cE22 clX9 0 (by decide) tX10_writeText_4 TX9_0 cV22_0 dX10_writeText_34 ?_
        refine lv_iload_n hx hb dX10_writeText_37 rfl (lv_at hl 1 rfl) ?_
        obtain ⟨h5, hf⟩ := ck_s hf
        refine g_iald hC hM 23 cE23 h5 dX10_writeText_38 ?_
        refine lv_aload_n hx hb dX10_writeText_39 rfl (lv_at hl 0 rfl) ?_
        refine g_get hC hM inX10_writeText_X10 0 cE0 clX10 6 (by decide) tX10_writeText_1 TX10_6 cV0_6 dX10_writeText_40 ?_
        refine g_get hC hM inX10_writeText_X9 22 cE22 clX9 1 (by decide) tX10_writeText_3 TX9_1 cV22_1 dX10_writeText_43 ?_
        refine W.widen (k := ph S4 - ph S) (n := 2 * (ph S4 - ph S)) (by omega) (by omega) ?_
        obtain ⟨S6, hc, hf⟩ := bd_s hf
        have gS6 : ph S4 ≤ ph S6 := mo_X10_writeClause_24 hc
        have gzS6 : ph S6 ≤ ph Sz := by
          replace hf := nm_q rfl hf
          have hj := (hk2 _ _ hf).1
          omega
        refine gGV_v hC hM hA hR hZ hl.1 [.int (S4.1 23 v1.toNatClampNeg), .ref (a 24)] [] (c_X10_writeClause_24 l D cs adK adV a q1 q2 N (S4.1 23 v1.toNatClampNeg) S4 S6 hc) gX10_writeText_X10_writeClause rfl hd_X10_writeClause ⟨Nat.le_of_ble_eq_true rfl, Nat.le_of_ble_eq_true rfl⟩ 0 10 clX10 rfl cE0 (Nat.le_of_ble_eq_true rfl) dX10_writeText_46 rfl ⟨by show _ + (ph S6 - ph S4) ≤ ph Sz - ph S; omega, by show _ + 2 * (ph S6 - ph S4) ≤ 2 * (ph Sz - ph S); omega⟩ (fun q1 q2 H locs hM => ?_)
        have hpS6 : ph S ≤ ph S6 := by omega
        refine W.widen (k := ph S6 - ph S) (n := 2 * (ph S6 - ph S)) (by omega) (by omega) ?_
        obtain ⟨v7, ev7⟩ : ∃ y : Int32, y = v1 + 1 := ⟨_, rfl⟩
        replace hf := nm_q ev7 hf
        refine lv_iinc (v := v7) (lv' := [(1, .int v7), (0, .ref (a 0))]) hx hb dX10_writeText_49 hl (k := 1) rfl (by rw [ev7]; rfl) (by decide) rfl (fun ls hl => ?_)
        refine lv_goto (tgt := 2) hx hb dX10_writeText_52 (by decide) ?_
        refine W.widen (k := ph S6 - ph S) (n := 2 * (ph S6 - ph S)) (by omega) (by omega) ?_
        exact (hk2 _ _ hf).2 (by omega) _ _ _ _ _ hM (lv_sub hl [1, 0] rfl)
      · intro k29 hk29 hf
        refine lv_if_le (tgt := 29) hx hb dX10_writeText_14 (by decide) (fun c8 => ?_) (fun c8 => ?_)
        · replace hf := it_t c8 hf
          refine W.widen (k := ph S2 - ph S) (n := 2 * (ph S2 - ph S)) (by omega) (by omega) ?_
          exact (hk29 _ hf).2 (by omega) _ _ _ _ _ hM hl
        · replace hf := it_f c8 hf
          refine lv_aload_n hx hb dX10_writeText_17 rfl (lv_at hl 0 rfl) ?_
          refine g_get hC hM inX10_writeText_X10 0 cE0 clX10 6 (by decide) tX10_writeText_1 TX10_6 cV0_6 dX10_writeText_18 ?_
          refine g_get hC hM inX10_writeText_X9 22 cE22 clX9 1 (by decide) tX10_writeText_3 TX9_1 cV22_1 dX10_writeText_21 ?_
          refine lv_bipush (v := 32) hx hb dX10_writeText_24 (by decide) ?_
          refine W.widen (k := ph S2 - ph S) (n := 2 * (ph S2 - ph S)) (by omega) (by omega) ?_
          obtain ⟨S9, hc, hf⟩ := bd_s hf
          have gS9 : ph S2 ≤ ph S9 := mo_X6_add_24 hc
          have gzS9 : ph S9 ≤ ph Sz := by
            have hj := (hk29 _ hf).1
            omega
          refine gGV_v hC hM hA hR hZ hl.1 [.int 32] [] (c_X6_add_24 l D cs adK adV a q1 q2 N 32 S2 S9 hc) gX10_writeText_X6_add rfl hd_X6_add ⟨Nat.le_of_ble_eq_true rfl, Nat.le_of_ble_eq_true rfl⟩ 24 6 clX6 rfl cE24 (Nat.le_of_ble_eq_true rfl) dX10_writeText_26 rfl ⟨by show _ + (ph S9 - ph S2) ≤ ph Sz - ph S; omega, by show _ + 2 * (ph S9 - ph S2) ≤ 2 * (ph Sz - ph S); omega⟩ (fun q1 q2 H locs hM => ?_)
          have hpS9 : ph S ≤ ph S9 := by omega
          refine W.widen (k := ph S9 - ph S) (n := 2 * (ph S9 - ph S)) (by omega) (by omega) ?_
          refine W.widen (k := ph S9 - ph S) (n := 2 * (ph S9 - ph S)) (by omega) (by omega) ?_
          exact (hk29 _ hf).2 (by omega) _ _ _ _ _ hM hl
  · intro k2 hk2 hf
    refine W.widen (k := ph S - ph S) (n := 2 * (ph S - ph S)) (by omega) (by omega) ?_
    exact (hk2 _ _ hf).2 (by omega) _ _ _ _ _ hM (lv_sub hl [1, 0] rfl)

theorem hd_X10_tell : yX10_tell.cls = RX10 ∧ yX10_tell.cls ≠ "java/lang/invoke/MethodHandle" ∧ yX10_tell.cls ≠ "java/lang/invoke/VarHandle" ∧ (parseMethodDescriptor yX10_tell.desc).map (fun d => d.parameters.length) = some 1 := by decide +kernel
theorem tX10_tell_1 : Cond.fieldLink RX10 54 "WeatherTeller" "text" "LWeatherTeller$Text;" ∈ wsX10_tell := List.mem_of_getElem? (i := 1) rfl
theorem inX10_tell_X10 : ∀ w ∈ u_ws RX10 TX10 13, w ∈ wsX10_tell := fun _ h => List.mem_cons_of_mem _ (List.mem_append_left _ (List.mem_append_left _ (List.mem_append_left _ (List.mem_append_left _ (List.mem_append_left _ (List.mem_append_left _ (List.mem_append_left _ (List.mem_append_right _ h))))))))
theorem tX10_tell_2 : Cond.fieldLink RX10 47 "WeatherTeller" "chooser" "LWeatherTeller$Chooser;" ∈ wsX10_tell := List.mem_of_getElem? (i := 2) rfl
theorem tX10_tell_5 : Cond.fieldLink RX10 193 "WeatherTeller$Text" "size" "I" ∈ wsX10_tell := List.mem_of_getElem? (i := 5) rfl
theorem inX10_tell_X9 : ∀ w ∈ u_ws RX9 TX9 4, w ∈ wsX10_tell := fun _ h => List.mem_cons_of_mem _ (List.mem_append_left _ (List.mem_append_left _ (List.mem_append_left _ (List.mem_append_left _ (List.mem_append_left _ (List.mem_append_right _ h))))))
theorem tX10_tell_6 : Cond.fieldLink RX10 203 "WeatherTeller$Text" "signs" "LWeatherTeller$Signs;" ∈ wsX10_tell := List.mem_of_getElem? (i := 6) rfl
theorem tX10_tell_7 : Cond.fieldLink RX10 206 "WeatherTeller$Signs" "length" "I" ∈ wsX10_tell := List.mem_of_getElem? (i := 7) rfl
theorem inX10_tell_X6 : ∀ w ∈ u_ws RX6 TX6 2, w ∈ wsX10_tell := fun _ h => List.mem_cons_of_mem _ (List.mem_append_left _ (List.mem_append_left _ (List.mem_append_left _ (List.mem_append_left _ (List.mem_append_right _ h)))))
theorem tX10_tell_3 : Cond.fieldLink RX10 40 "WeatherTeller" "findings" "LWeatherTeller$Findings;" ∈ wsX10_tell := List.mem_of_getElem? (i := 3) rfl
theorem tX10_tell_4 : Cond.fieldLink RX10 142 "WeatherTeller$Findings" "size" "I" ∈ wsX10_tell := List.mem_of_getElem? (i := 4) rfl
theorem inX10_tell_X2 : ∀ w ∈ u_ws RX2 TX2 7, w ∈ wsX10_tell := fun _ h => List.mem_cons_of_mem _ (List.mem_append_left _ (List.mem_append_left _ (List.mem_append_left _ (List.mem_append_left _ (List.mem_append_left _ (List.mem_append_left _ (List.mem_append_right _ h)))))))
def j_X10_tell_128 (N : Nat) (S7 : St) (v8 : Int32) : Option (Int32 × St) :=
  bd (f_X0_choose N v8 S7) fun S9 =>
  bd (f_X10_takeChosen N (S9.1 22 2) S9) fun S10 =>
  bd (f_X10_writeText N S10) fun S11 =>
  some ((S11.1 24 1), S11)
def j_X10_tell_105 (N : Nat) (p0 : Int32) (v6 : Int32) (S7 : St) : Option (Int32 × St) :=
  jp (j_X10_tell_128 N S7) fun k128 =>
  if (S7.1 22 2) = 0 then
    k128 p0
  else
    k128 ((p0 - v6) + 1)
def j_X10_tell_99 (v14 : Int32) (k35 : Int32 → Int32 → St → Option (Int32 × St)) (v21 : Int32) (S22 : St) : Option (Int32 × St) :=
  nm (v14 + 1) fun v23 =>
  k35 v21 v23 S22
def b_X10_tell_35 (N : Nat) (k105 : Int32 → St → Option (Int32 × St)) (k35 : Int32 → Int32 → St → Option (Int32 × St)) (v13 : Int32) (v14 : Int32) (S15 : St) : Option (Int32 × St) :=
  if (S15.1 8 4) ≤ v14 then
    k105 v13 S15
  else
    bd2 (f_X10_clauseLength N v14 S15) fun v17 S18 =>
    nm (v17 + 1) fun v19 =>
    bd (f_X10_isWarning N v14 S18) fun v20 =>
    jp (j_X10_tell_99 v14 k35) fun k99 =>
    if v20 = 0 then
      bd (f_X10_weightOf N v14 S18) fun v25 =>
      bd (f_X0_offer N v14 v19 v25 S18) fun S26 =>
      k99 v13 S26
    else
      bd (f_X10_weightOf N v14 S18) fun v27 =>
      bd (f_X9_append N v14 v27 S18) fun S28 =>
      nm (v13 + v19) fun v29 =>
      k99 v29 S28
def f_X10_tell (N : Nat) (p0 : Int32) (S : St) : Option (Int32 × St) :=
  if p0 < 0 then
    some ((-1), S)
  else
    if p0 ≤ 400 then
      bd (f_X10_knowFindings N S) fun S3 =>
      bd (f_X9_clear N S3) fun S4 =>
      bd (f_X0_clear N S4) fun S5 =>
      jp (j_X10_tell_105 N p0) fun k105 =>
      jp (lp (fun _ _ _ => none) (b_X10_tell_35 N k105) N) fun k35 =>
      k35 0 0 S5
    else
      some ((-1), S)
theorem mo_X10_tell {N : Nat} {p0 : Int32} {S : St} {rz : Int32} {Sz : St} (hf : f_X10_tell N p0 S = some (rz, Sz)) : ph S ≤ ph Sz := by
  unfold f_X10_tell at hf
  rcases it_s hf with ⟨-, hf⟩ | ⟨-, hf⟩
  · skip
    obtain ⟨e1, e2⟩ := so_2 hf
    cases e1; cases e2
    omega
  · skip
    rcases it_s hf with ⟨-, hf⟩ | ⟨-, hf⟩
    · skip
      obtain ⟨S3, hc, hf⟩ := bd_s hf
      have gS3 : ph S ≤ ph S3 := mo_X10_knowFindings hc
      obtain ⟨S4, hc, hf⟩ := bd_s hf
      have gS4 : ph S3 ≤ ph S4 := mo_X9_clear hc
      obtain ⟨S5, hc, hf⟩ := bd_s hf
      have gS5 : ph S4 ≤ ph S5 := mo_X0_clear hc
      refine jp_W (fun k105 : Int32 → St → Option (Int32 × St) => ∀ (v6 : Int32) (S7 : St), k105 v6 S7 = some (rz, Sz) → ph S7 ≤ ph Sz ∧ True) ?_ ?_ hf
      · intro v6 S7 hf
        unfold j_X10_tell_105 at hf
        refine ⟨?_, trivial⟩
        refine jp_W (fun k128 : Int32 → Option (Int32 × St) => ∀ (v8 : Int32), k128 v8 = some (rz, Sz) → ph S7 ≤ ph Sz ∧ True) ?_ ?_ hf
        · intro v8 hf
          unfold j_X10_tell_128 at hf
          refine ⟨?_, trivial⟩
          obtain ⟨S9, hc, hf⟩ := bd_s hf
          have gS9 : ph S7 ≤ ph S9 := mo_X0_choose hc
          obtain ⟨S10, hc, hf⟩ := bd_s hf
          have gS10 : ph S9 ≤ ph S10 := mo_X10_takeChosen hc
          obtain ⟨S11, hc, hf⟩ := bd_s hf
          have gS11 : ph S10 ≤ ph S11 := mo_X10_writeText hc
          obtain ⟨e1, e2⟩ := so_2 hf
          cases e1; cases e2
          omega
        · intro k128 hk128 hf
          rcases it_s hf with ⟨-, hf⟩ | ⟨-, hf⟩
          · skip
            have hj := (hk128 _ hf).1
            omega
          · skip
            have hj := (hk128 _ hf).1
            omega
      · intro k105 hk105 hf
        refine jl_W (fun k35 : Int32 → Int32 → St → Option (Int32 × St) => ∀ (v13 : Int32) (v14 : Int32) (S15 : St), k35 v13 v14 S15 = some (rz, Sz) → ph S15 ≤ ph Sz ∧ True) ?_ ?_ ?_ hf
        · intro v13 v14 S15 h; cases h
        · intro k35 hk35 v13 v14 S15 hf
          unfold b_X10_tell_35 at hf
          refine ⟨?_, trivial⟩
          rcases it_s hf with ⟨-, hf⟩ | ⟨-, hf⟩
          · skip
            have hj := (hk105 _ _ hf).1
            omega
          · skip
            obtain ⟨v17, S18, hc, hf⟩ := bd2_s hf
            have gS18 : ph S15 ≤ ph S18 := mo_X10_clauseLength hc
            replace hf := nm_q rfl hf
            obtain ⟨v20, hc, hf⟩ := bd_s hf
            refine jp_W (fun k99 : Int32 → St → Option (Int32 × St) => ∀ (v21 : Int32) (S22 : St), k99 v21 S22 = some (rz, Sz) → ph S22 ≤ ph Sz ∧ True) ?_ ?_ hf
            · intro v21 S22 hf
              unfold j_X10_tell_99 at hf
              refine ⟨?_, trivial⟩
              replace hf := nm_q rfl hf
              have hj := (hk35 _ _ _ hf).1
              omega
            · intro k99 hk99 hf
              rcases it_s hf with ⟨-, hf⟩ | ⟨-, hf⟩
              · skip
                obtain ⟨v25, hc, hf⟩ := bd_s hf
                obtain ⟨S26, hc, hf⟩ := bd_s hf
                have gS26 : ph S18 ≤ ph S26 := mo_X0_offer hc
                have hj := (hk99 _ _ hf).1
                omega
              · skip
                obtain ⟨v27, hc, hf⟩ := bd_s hf
                obtain ⟨S28, hc, hf⟩ := bd_s hf
                have gS28 : ph S18 ≤ ph S28 := mo_X9_append hc
                replace hf := nm_q rfl hf
                have hj := (hk99 _ _ hf).1
                omega
        · intro k35 hk35 hf
          have hj := (hk35 _ _ _ hf).1
          omega
    · skip
      obtain ⟨e1, e2⟩ := so_2 hf
      cases e1; cases e2
      omega
set_option maxRecDepth 100000 in
set_option maxHeartbeats 4000000 in
theorem c_X10_tell (l : Launch) (D : va_G) (cs : Nat → ClassId) (adK adV : Nat → Nat) (a : Nat → Nat) (q1 q2 : Nat) (N : Nat) (p0 : Int32) (S : St) (rz : Int32) (Sz : St) (hf : f_X10_tell N p0 S = some (rz, Sz)) : gGi l yX10_tell wsX10_tell 8 176 D cs adK adV [.ref (a 0), .int p0] a q1 q2 S rz Sz := by
  have hzz : ph S ≤ ph Sz := mo_X10_tell hf
  unfold f_X10_tell at hf
  refine gGE_i (cc := cX10_tell) (maxL := 5) (by decide) rfl (Nat.le_of_ble_eq_true rfl) ?_
  intro p e s m args below meth c A Q hC hA hR hZ hQ hM ls hl
  obtain ⟨hx, hb, hml, hown, hts⟩ := hC.1
  have hl : lv_has ls 5 [(0, .ref (a 0)), (1, .int p0)] := hl
  have hpS : ph S ≤ ph S := Nat.le_refl _
  refine lv_iload_n hx hb dX10_tell_0 rfl (lv_at hl 1 rfl) ?_
  refine lv_if_lt (tgt := 11) hx hb dX10_tell_1 (by decide) (fun c1 => ?_) (fun c1 => ?_)
  · replace hf := it_t c1 hf
    refine lv_iconst (v := (-1)) hx hb dX10_tell_11 (by decide) ?_
    obtain ⟨e1, e2⟩ := so_2 hf
    cases e1; cases e2
    exact hQ _ _ _ _ _ _ _ _ dX10_tell_12 hM (by omega) (by omega)
  · replace hf := it_f c1 hf
    refine lv_iload_n hx hb dX10_tell_4 rfl (lv_at hl 1 rfl) ?_
    refine lv_sipush (v := 400) hx hb dX10_tell_5 (by decide) ?_
    refine lv_icmp_le (tgt := 13) hx hb dX10_tell_8 (by decide) (fun c2 => ?_) (fun c2 => ?_)
    · replace hf := it_t c2 hf
      refine lv_aload_n hx hb dX10_tell_13 rfl (lv_at hl 0 rfl) ?_
      obtain ⟨S3, hc, hf⟩ := bd_s hf
      have gS3 : ph S ≤ ph S3 := mo_X10_knowFindings hc
      have gzS3 : ph S3 ≤ ph Sz := by
        obtain ⟨S4, hc, hf⟩ := bd_s hf
        have gS4 : ph S3 ≤ ph S4 := mo_X9_clear hc
        obtain ⟨S5, hc, hf⟩ := bd_s hf
        have gS5 : ph S4 ≤ ph S5 := mo_X0_clear hc
        refine jp_W (fun k105 : Int32 → St → Option (Int32 × St) => ∀ (v6 : Int32) (S7 : St), k105 v6 S7 = some (rz, Sz) → ph S7 ≤ ph Sz ∧ True) ?_ ?_ hf
        · intro v6 S7 hf
          unfold j_X10_tell_105 at hf
          refine ⟨?_, trivial⟩
          refine jp_W (fun k128 : Int32 → Option (Int32 × St) => ∀ (v8 : Int32), k128 v8 = some (rz, Sz) → ph S7 ≤ ph Sz ∧ True) ?_ ?_ hf
          · intro v8 hf
            unfold j_X10_tell_128 at hf
            refine ⟨?_, trivial⟩
            obtain ⟨S9, hc, hf⟩ := bd_s hf
            have gS9 : ph S7 ≤ ph S9 := mo_X0_choose hc
            obtain ⟨S10, hc, hf⟩ := bd_s hf
            have gS10 : ph S9 ≤ ph S10 := mo_X10_takeChosen hc
            obtain ⟨S11, hc, hf⟩ := bd_s hf
            have gS11 : ph S10 ≤ ph S11 := mo_X10_writeText hc
            obtain ⟨e1, e2⟩ := so_2 hf
            cases e1; cases e2
            omega
          · intro k128 hk128 hf
            rcases it_s hf with ⟨-, hf⟩ | ⟨-, hf⟩
            · skip
              have hj := (hk128 _ hf).1
              omega
            · skip
              have hj := (hk128 _ hf).1
              omega
        · intro k105 hk105 hf
          refine jl_W (fun k35 : Int32 → Int32 → St → Option (Int32 × St) => ∀ (v13 : Int32) (v14 : Int32) (S15 : St), k35 v13 v14 S15 = some (rz, Sz) → ph S15 ≤ ph Sz ∧ True) ?_ ?_ ?_ hf
          · intro v13 v14 S15 h; cases h
          · intro k35 hk35 v13 v14 S15 hf
            unfold b_X10_tell_35 at hf
            refine ⟨?_, trivial⟩
            rcases it_s hf with ⟨-, hf⟩ | ⟨-, hf⟩
            · skip
              have hj := (hk105 _ _ hf).1
              omega
            · skip
              obtain ⟨v17, S18, hc, hf⟩ := bd2_s hf
              have gS18 : ph S15 ≤ ph S18 := mo_X10_clauseLength hc
              replace hf := nm_q rfl hf
              obtain ⟨v20, hc, hf⟩ := bd_s hf
              refine jp_W (fun k99 : Int32 → St → Option (Int32 × St) => ∀ (v21 : Int32) (S22 : St), k99 v21 S22 = some (rz, Sz) → ph S22 ≤ ph Sz ∧ True) ?_ ?_ hf
              · intro v21 S22 hf
                unfold j_X10_tell_99 at hf
                refine ⟨?_, trivial⟩
                replace hf := nm_q rfl hf
                have hj := (hk35 _ _ _ hf).1
                omega
              · intro k99 hk99 hf
                rcases it_s hf with ⟨-, hf⟩ | ⟨-, hf⟩
                · skip
                  obtain ⟨v25, hc, hf⟩ := bd_s hf
                  obtain ⟨S26, hc, hf⟩ := bd_s hf
                  have gS26 : ph S18 ≤ ph S26 := mo_X0_offer hc
                  have hj := (hk99 _ _ hf).1
                  omega
                · skip
                  obtain ⟨v27, hc, hf⟩ := bd_s hf
                  obtain ⟨S28, hc, hf⟩ := bd_s hf
                  have gS28 : ph S18 ≤ ph S28 := mo_X9_append hc
                  replace hf := nm_q rfl hf
                  have hj := (hk99 _ _ hf).1
                  omega
          · intro k35 hk35 hf
            have hj := (hk35 _ _ _ hf).1
            omega
      refine W.widen (k := ph S - ph S) (n := 2 * (ph S - ph S)) (by omega) (by omega) ?_
      refine gV_v hC hM hA hl.1 [] [] (c_X10_knowFindings l D cs a q1 q2 N S S3 hc) gX10_tell_X10_knowFindings rfl hd_X10_knowFindings ⟨Nat.le_of_ble_eq_true rfl, Nat.le_of_ble_eq_true rfl⟩ 0 10 clX10 rfl cE0 (Nat.le_of_ble_eq_true rfl) dX10_tell_14 rfl ⟨by show _ + 0 ≤ ph Sz - ph S; omega, by show _ + 0 ≤ 2 * (ph Sz - ph S); omega⟩ (fun H locs hM => ?_)
      refine W.widen (k := ph S - ph S) (n := 2 * (ph S - ph S)) (Nat.le_refl _) (Nat.le_refl _) ?_
      refine lv_aload_n hx hb dX10_tell_17 rfl (lv_at hl 0 rfl) ?_
      refine g_get hC hM inX10_tell_X10 0 cE0 clX10 6 (by decide) tX10_tell_1 TX10_6 cV0_6 dX10_tell_18 ?_
      obtain ⟨S4, hc, hf⟩ := bd_s hf
      have gS4 : ph S3 ≤ ph S4 := mo_X9_clear hc
      have gzS4 : ph S4 ≤ ph Sz := by
        obtain ⟨S5, hc, hf⟩ := bd_s hf
        have gS5 : ph S4 ≤ ph S5 := mo_X0_clear hc
        refine jp_W (fun k105 : Int32 → St → Option (Int32 × St) => ∀ (v6 : Int32) (S7 : St), k105 v6 S7 = some (rz, Sz) → ph S7 ≤ ph Sz ∧ True) ?_ ?_ hf
        · intro v6 S7 hf
          unfold j_X10_tell_105 at hf
          refine ⟨?_, trivial⟩
          refine jp_W (fun k128 : Int32 → Option (Int32 × St) => ∀ (v8 : Int32), k128 v8 = some (rz, Sz) → ph S7 ≤ ph Sz ∧ True) ?_ ?_ hf
          · intro v8 hf
            unfold j_X10_tell_128 at hf
            refine ⟨?_, trivial⟩
            obtain ⟨S9, hc, hf⟩ := bd_s hf
            have gS9 : ph S7 ≤ ph S9 := mo_X0_choose hc
            obtain ⟨S10, hc, hf⟩ := bd_s hf
            have gS10 : ph S9 ≤ ph S10 := mo_X10_takeChosen hc
            obtain ⟨S11, hc, hf⟩ := bd_s hf
            have gS11 : ph S10 ≤ ph S11 := mo_X10_writeText hc
            obtain ⟨e1, e2⟩ := so_2 hf
            cases e1; cases e2
            omega
          · intro k128 hk128 hf
            rcases it_s hf with ⟨-, hf⟩ | ⟨-, hf⟩
            · skip
              have hj := (hk128 _ hf).1
              omega
            · skip
              have hj := (hk128 _ hf).1
              omega
        · intro k105 hk105 hf
          refine jl_W (fun k35 : Int32 → Int32 → St → Option (Int32 × St) => ∀ (v13 : Int32) (v14 : Int32) (S15 : St), k35 v13 v14 S15 = some (rz, Sz) → ph S15 ≤ ph Sz ∧ True) ?_ ?_ ?_ hf
          · intro v13 v14 S15 h; cases h
          · intro k35 hk35 v13 v14 S15 hf
            unfold b_X10_tell_35 at hf
            refine ⟨?_, trivial⟩
            rcases it_s hf with ⟨-, hf⟩ | ⟨-, hf⟩
            · skip
              have hj := (hk105 _ _ hf).1
              omega
            · skip
              obtain ⟨v17, S18, hc, hf⟩ := bd2_s hf
              have gS18 : ph S15 ≤ ph S18 := mo_X10_clauseLength hc
              replace hf := nm_q rfl hf
              obtain ⟨v20, hc, hf⟩ := bd_s hf
              refine jp_W (fun k99 : Int32 → St → Option (Int32 × St) => ∀ (v21 : Int32) (S22 : St), k99 v21 S22 = some (rz, Sz) → ph S22 ≤ ph Sz ∧ True) ?_ ?_ hf
              · intro v21 S22 hf
                unfold j_X10_tell_99 at hf
                refine ⟨?_, trivial⟩
                replace hf := nm_q rfl hf
                have hj := (hk35 _ _ _ hf).1
                omega
              · intro k99 hk99 hf
                rcases it_s hf with ⟨-, hf⟩ | ⟨-, hf⟩
                · skip
                  obtain ⟨v25, hc, hf⟩ := bd_s hf
                  obtain ⟨S26, hc, hf⟩ := bd_s hf
                  have gS26 : ph S18 ≤ ph S26 := mo_X0_offer hc
                  have hj := (hk99 _ _ hf).1
                  omega
                · skip
                  obtain ⟨v27, hc, hf⟩ := bd_s hf
                  obtain ⟨S28, hc, hf⟩ := bd_s hf
                  have gS28 : ph S18 ≤ ph S28 := mo_X9_append hc
                  replace hf := nm_q rfl hf
                  have hj := (hk99 _ _ hf).1
                  omega
          · intro k35 hk35 hf
            have hj := (hk35 _ _ _ hf).1
            omega
      refine W.widen (k := ph S3 - ph S) (n := 2 * (ph S3 - ph S)) (by omega) (by omega) ?_
      refine gV_v hC hM hA hl.1 [] [] (c_X9_clear l D cs a q1 q2 N S3 S4 hc) gX10_tell_X9_clear rfl hd_X9_clear ⟨Nat.le_of_ble_eq_true rfl, Nat.le_of_ble_eq_true rfl⟩ 22 9 clX9 rfl cE22 (Nat.le_of_ble_eq_true rfl) dX10_tell_21 rfl ⟨by show _ + 0 ≤ ph Sz - ph S; omega, by show _ + 0 ≤ 2 * (ph Sz - ph S); omega⟩ (fun H locs hM => ?_)
      refine W.widen (k := ph S3 - ph S) (n := 2 * (ph S3 - ph S)) (Nat.le_refl _) (Nat.le_refl _) ?_
      refine lv_aload_n hx hb dX10_tell_24 rfl (lv_at hl 0 rfl) ?_
      refine g_get hC hM inX10_tell_X10 0 cE0 clX10 5 (by decide) tX10_tell_2 TX10_5 cV0_5 dX10_tell_25 ?_
      obtain ⟨S5, hc, hf⟩ := bd_s hf
      have gS5 : ph S4 ≤ ph S5 := mo_X0_clear hc
      have gzS5 : ph S5 ≤ ph Sz := by
        refine jp_W (fun k105 : Int32 → St → Option (Int32 × St) => ∀ (v6 : Int32) (S7 : St), k105 v6 S7 = some (rz, Sz) → ph S7 ≤ ph Sz ∧ True) ?_ ?_ hf
        · intro v6 S7 hf
          unfold j_X10_tell_105 at hf
          refine ⟨?_, trivial⟩
          refine jp_W (fun k128 : Int32 → Option (Int32 × St) => ∀ (v8 : Int32), k128 v8 = some (rz, Sz) → ph S7 ≤ ph Sz ∧ True) ?_ ?_ hf
          · intro v8 hf
            unfold j_X10_tell_128 at hf
            refine ⟨?_, trivial⟩
            obtain ⟨S9, hc, hf⟩ := bd_s hf
            have gS9 : ph S7 ≤ ph S9 := mo_X0_choose hc
            obtain ⟨S10, hc, hf⟩ := bd_s hf
            have gS10 : ph S9 ≤ ph S10 := mo_X10_takeChosen hc
            obtain ⟨S11, hc, hf⟩ := bd_s hf
            have gS11 : ph S10 ≤ ph S11 := mo_X10_writeText hc
            obtain ⟨e1, e2⟩ := so_2 hf
            cases e1; cases e2
            omega
          · intro k128 hk128 hf
            rcases it_s hf with ⟨-, hf⟩ | ⟨-, hf⟩
            · skip
              have hj := (hk128 _ hf).1
              omega
            · skip
              have hj := (hk128 _ hf).1
              omega
        · intro k105 hk105 hf
          refine jl_W (fun k35 : Int32 → Int32 → St → Option (Int32 × St) => ∀ (v13 : Int32) (v14 : Int32) (S15 : St), k35 v13 v14 S15 = some (rz, Sz) → ph S15 ≤ ph Sz ∧ True) ?_ ?_ ?_ hf
          · intro v13 v14 S15 h; cases h
          · intro k35 hk35 v13 v14 S15 hf
            unfold b_X10_tell_35 at hf
            refine ⟨?_, trivial⟩
            rcases it_s hf with ⟨-, hf⟩ | ⟨-, hf⟩
            · skip
              have hj := (hk105 _ _ hf).1
              omega
            · skip
              obtain ⟨v17, S18, hc, hf⟩ := bd2_s hf
              have gS18 : ph S15 ≤ ph S18 := mo_X10_clauseLength hc
              replace hf := nm_q rfl hf
              obtain ⟨v20, hc, hf⟩ := bd_s hf
              refine jp_W (fun k99 : Int32 → St → Option (Int32 × St) => ∀ (v21 : Int32) (S22 : St), k99 v21 S22 = some (rz, Sz) → ph S22 ≤ ph Sz ∧ True) ?_ ?_ hf
              · intro v21 S22 hf
                unfold j_X10_tell_99 at hf
                refine ⟨?_, trivial⟩
                replace hf := nm_q rfl hf
                have hj := (hk35 _ _ _ hf).1
                omega
              · intro k99 hk99 hf
                rcases it_s hf with ⟨-, hf⟩ | ⟨-, hf⟩
                · skip
                  obtain ⟨v25, hc, hf⟩ := bd_s hf
                  obtain ⟨S26, hc, hf⟩ := bd_s hf
                  have gS26 : ph S18 ≤ ph S26 := mo_X0_offer hc
                  have hj := (hk99 _ _ hf).1
                  omega
                · skip
                  obtain ⟨v27, hc, hf⟩ := bd_s hf
                  obtain ⟨S28, hc, hf⟩ := bd_s hf
                  have gS28 : ph S18 ≤ ph S28 := mo_X9_append hc
                  replace hf := nm_q rfl hf
                  have hj := (hk99 _ _ hf).1
                  omega
          · intro k35 hk35 hf
            have hj := (hk35 _ _ _ hf).1
            omega
      refine W.widen (k := ph S4 - ph S) (n := 2 * (ph S4 - ph S)) (by omega) (by omega) ?_
      refine gV_v hC hM hA hl.1 [] [] (c_X0_clear l D cs a q1 q2 N S4 S5 hc) gX10_tell_X0_clear rfl hd_X0_clear ⟨Nat.le_of_ble_eq_true rfl, Nat.le_of_ble_eq_true rfl⟩ 15 0 clX0 rfl cE15 (Nat.le_of_ble_eq_true rfl) dX10_tell_28 rfl ⟨by show _ + 0 ≤ ph Sz - ph S; omega, by show _ + 0 ≤ 2 * (ph Sz - ph S); omega⟩ (fun H locs hM => ?_)
      refine W.widen (k := ph S4 - ph S) (n := 2 * (ph S4 - ph S)) (Nat.le_refl _) (Nat.le_refl _) ?_
      refine lv_iconst (v := 0) hx hb dX10_tell_31 (by decide) ?_
      refine lv_istore_n (lv' := [(2, .int 0), (0, .ref (a 0)), (1, .int p0)]) hx hb dX10_tell_32 rfl hl (by decide) rfl (fun ls hl => ?_)
      refine lv_iconst (v := 0) hx hb dX10_tell_33 (by decide) ?_
      refine lv_istore_n (lv' := [(3, .int 0), (2, .int 0), (0, .ref (a 0)), (1, .int p0)]) hx hb dX10_tell_34 rfl hl (by decide) rfl (fun ls hl => ?_)
      refine jp_W (fun k105 : Int32 → St → Option (Int32 × St) => ∀ (v6 : Int32) (S7 : St), k105 v6 S7 = some (rz, Sz) → ph S7 ≤ ph Sz ∧ (ph S ≤ ph S7 → ∀ (q1 q2 : Nat) (H : Heap) (locs : List Loc) (ls : Array Slot), gw D A s.heap H locs (ccells cs a q1 q2 S7) → lv_has ls 5 [(0, .ref (a 0)), (1, .int p0), (2, .int v6)] → W p l e (rmG 8 176 S Sz) s m args below meth c H locs (ph S7 - ph S) (2 * (ph S7 - ph S)) Q (F0 m 105 ls []))) ?_ ?_ hf
      · intro v6 S7 hf
        unfold j_X10_tell_105 at hf
        have gzS7 : ph S7 ≤ ph Sz := by
          refine jp_W (fun k128 : Int32 → Option (Int32 × St) => ∀ (v8 : Int32), k128 v8 = some (rz, Sz) → ph S7 ≤ ph Sz ∧ True) ?_ ?_ hf
          · intro v8 hf
            unfold j_X10_tell_128 at hf
            refine ⟨?_, trivial⟩
            obtain ⟨S9, hc, hf⟩ := bd_s hf
            have gS9 : ph S7 ≤ ph S9 := mo_X0_choose hc
            obtain ⟨S10, hc, hf⟩ := bd_s hf
            have gS10 : ph S9 ≤ ph S10 := mo_X10_takeChosen hc
            obtain ⟨S11, hc, hf⟩ := bd_s hf
            have gS11 : ph S10 ≤ ph S11 := mo_X10_writeText hc
            obtain ⟨e1, e2⟩ := so_2 hf
            cases e1; cases e2
            omega
          · intro k128 hk128 hf
            rcases it_s hf with ⟨-, hf⟩ | ⟨-, hf⟩
            · skip
              have hj := (hk128 _ hf).1
              omega
            · skip
              have hj := (hk128 _ hf).1
              omega
        refine ⟨gzS7, ?_⟩
        intro hpS7 q1 q2 H locs ls hM hl
        refine lv_aload_n hx hb dX10_tell_105 rfl (lv_at hl 0 rfl) ?_
        refine g_get hC hM inX10_tell_X10 0 cE0 clX10 5 (by decide) tX10_tell_2 TX10_5 cV0_5 dX10_tell_106 ?_
        refine lv_aload_n hx hb dX10_tell_109 rfl (lv_at hl 0 rfl) ?_
        refine g_get hC hM inX10_tell_X10 0 cE0 clX10 6 (by decide) tX10_tell_1 TX10_6 cV0_6 dX10_tell_110 ?_
        refine g_get hC hM inX10_tell_X9 22 cE22 clX9 2 (by decide) tX10_tell_5 TX9_2 cV22_2 dX10_tell_113 ?_
        refine jp_W (fun k128 : Int32 → Option (Int32 × St) => ∀ (v8 : Int32), k128 v8 = some (rz, Sz) → ph S7 ≤ ph Sz ∧ (ph S ≤ ph S7 → ∀ (q1 q2 : Nat) (H : Heap) (locs : List Loc) (ls : Array Slot), gw D A s.heap H locs (ccells cs a q1 q2 S7) → lv_has ls 5 [(0, .ref (a 0))] → W p l e (rmG 8 176 S Sz) s m args below meth c H locs (ph S7 - ph S) (2 * (ph S7 - ph S)) Q (F0 m 128 ls [.int v8, .ref (a 15)]))) ?_ ?_ hf
        · intro v8 hf
          unfold j_X10_tell_128 at hf
          have gzS7 : ph S7 ≤ ph Sz := by
            obtain ⟨S9, hc, hf⟩ := bd_s hf
            have gS9 : ph S7 ≤ ph S9 := mo_X0_choose hc
            obtain ⟨S10, hc, hf⟩ := bd_s hf
            have gS10 : ph S9 ≤ ph S10 := mo_X10_takeChosen hc
            obtain ⟨S11, hc, hf⟩ := bd_s hf
            have gS11 : ph S10 ≤ ph S11 := mo_X10_writeText hc
            obtain ⟨e1, e2⟩ := so_2 hf
            cases e1; cases e2
            omega
          refine ⟨gzS7, ?_⟩
          intro hpS7 q1 q2 H locs ls hM hl
          obtain ⟨S9, hc, hf⟩ := bd_s hf
          have gS9 : ph S7 ≤ ph S9 := mo_X0_choose hc
          have gzS9 : ph S9 ≤ ph Sz := by
            obtain ⟨S10, hc, hf⟩ := bd_s hf
            have gS10 : ph S9 ≤ ph S10 := mo_X10_takeChosen hc
            obtain ⟨S11, hc, hf⟩ := bd_s hf
            have gS11 : ph S10 ≤ ph S11 := mo_X10_writeText hc
            obtain ⟨e1, e2⟩ := so_2 hf
            cases e1; cases e2
            omega
          refine W.widen (k := ph S7 - ph S) (n := 2 * (ph S7 - ph S)) (by omega) (by omega) ?_
          refine gV_v hC hM hA hl.1 [.int v8] [] (c_X0_choose l D cs a q1 q2 N v8 S7 S9 hc) gX10_tell_X0_choose rfl hd_X0_choose ⟨Nat.le_of_ble_eq_true rfl, Nat.le_of_ble_eq_true rfl⟩ 15 0 clX0 rfl cE15 (Nat.le_of_ble_eq_true rfl) dX10_tell_128 rfl ⟨by show _ + 0 ≤ ph Sz - ph S; omega, by show _ + 0 ≤ 2 * (ph Sz - ph S); omega⟩ (fun H locs hM => ?_)
          refine W.widen (k := ph S7 - ph S) (n := 2 * (ph S7 - ph S)) (Nat.le_refl _) (Nat.le_refl _) ?_
          refine lv_aload_n hx hb dX10_tell_131 rfl (lv_at hl 0 rfl) ?_
          refine lv_aload_n hx hb dX10_tell_132 rfl (lv_at hl 0 rfl) ?_
          refine g_get hC hM inX10_tell_X10 0 cE0 clX10 6 (by decide) tX10_tell_1 TX10_6 cV0_6 dX10_tell_133 ?_
          refine g_get hC hM inX10_tell_X9 22 cE22 clX9 2 (by decide) tX10_tell_5 TX9_2 cV22_2 dX10_tell_136 ?_
          obtain ⟨S10, hc, hf⟩ := bd_s hf
          have gS10 : ph S9 ≤ ph S10 := mo_X10_takeChosen hc
          have gzS10 : ph S10 ≤ ph Sz := by
            obtain ⟨S11, hc, hf⟩ := bd_s hf
            have gS11 : ph S10 ≤ ph S11 := mo_X10_writeText hc
            obtain ⟨e1, e2⟩ := so_2 hf
            cases e1; cases e2
            omega
          refine W.widen (k := ph S9 - ph S) (n := 2 * (ph S9 - ph S)) (by omega) (by omega) ?_
          refine gV_v hC hM hA hl.1 [.int (S9.1 22 2)] [] (c_X10_takeChosen l D cs a q1 q2 N (S9.1 22 2) S9 S10 hc) gX10_tell_X10_takeChosen rfl hd_X10_takeChosen ⟨Nat.le_of_ble_eq_true rfl, Nat.le_of_ble_eq_true rfl⟩ 0 10 clX10 rfl cE0 (Nat.le_of_ble_eq_true rfl) dX10_tell_139 rfl ⟨by show _ + 0 ≤ ph Sz - ph S; omega, by show _ + 0 ≤ 2 * (ph Sz - ph S); omega⟩ (fun H locs hM => ?_)
          refine W.widen (k := ph S9 - ph S) (n := 2 * (ph S9 - ph S)) (Nat.le_refl _) (Nat.le_refl _) ?_
          refine lv_aload_n hx hb dX10_tell_142 rfl (lv_at hl 0 rfl) ?_
          refine W.widen (k := ph S10 - ph S) (n := 2 * (ph S10 - ph S)) (by omega) (by omega) ?_
          obtain ⟨S11, hc, hf⟩ := bd_s hf
          have gS11 : ph S10 ≤ ph S11 := mo_X10_writeText hc
          have gzS11 : ph S11 ≤ ph Sz := by
            obtain ⟨e1, e2⟩ := so_2 hf
            cases e1; cases e2
            omega
          refine gGV_v hC hM hA hR hZ hl.1 [] [] (c_X10_writeText l D cs adK adV a q1 q2 N S10 S11 hc) gX10_tell_X10_writeText rfl hd_X10_writeText ⟨Nat.le_of_ble_eq_true rfl, Nat.le_of_ble_eq_true rfl⟩ 0 10 clX10 rfl cE0 (Nat.le_of_ble_eq_true rfl) dX10_tell_143 rfl ⟨by show _ + (ph S11 - ph S10) ≤ ph Sz - ph S; omega, by show _ + 2 * (ph S11 - ph S10) ≤ 2 * (ph Sz - ph S); omega⟩ (fun q1 q2 H locs hM => ?_)
          have hpS11 : ph S ≤ ph S11 := by omega
          refine W.widen (k := ph S11 - ph S) (n := 2 * (ph S11 - ph S)) (by omega) (by omega) ?_
          refine lv_aload_n hx hb dX10_tell_146 rfl (lv_at hl 0 rfl) ?_
          refine g_get hC hM inX10_tell_X10 0 cE0 clX10 6 (by decide) tX10_tell_1 TX10_6 cV0_6 dX10_tell_147 ?_
          refine g_get hC hM inX10_tell_X9 22 cE22 clX9 1 (by decide) tX10_tell_6 TX9_1 cV22_1 dX10_tell_150 ?_
          refine g_get hC hM inX10_tell_X6 24 cE24 clX6 1 (by decide) tX10_tell_7 TX6_1 cV24_1 dX10_tell_153 ?_
          obtain ⟨e1, e2⟩ := so_2 hf
          cases e1; cases e2
          exact hQ _ _ _ _ _ _ _ _ dX10_tell_156 hM (by omega) (by omega)
        · intro k128 hk128 hf
          refine lv_if_ne (tgt := 123) hx hb dX10_tell_116 (by decide) (fun c12 => ?_) (fun c12 => ?_)
          · replace hf := it_f c12 hf
            refine lv_iload_n hx hb dX10_tell_123 rfl (lv_at hl 1 rfl) ?_
            refine lv_iload_n hx hb dX10_tell_124 rfl (lv_at hl 2 rfl) ?_
            refine lv_isub hx hb dX10_tell_125 ?_
            refine lv_iconst (v := 1) hx hb dX10_tell_126 (by decide) ?_
            refine lv_iadd hx hb dX10_tell_127 ?_
            refine W.widen (k := ph S7 - ph S) (n := 2 * (ph S7 - ph S)) (by omega) (by omega) ?_
            exact (hk128 _ hf).2 (by omega) _ _ _ _ _ hM (lv_sub hl [0] rfl)
          · replace hf := it_t c12 hf
            refine lv_iload_n hx hb dX10_tell_119 rfl (lv_at hl 1 rfl) ?_
            refine lv_goto (tgt := 128) hx hb dX10_tell_120 (by decide) ?_
            refine W.widen (k := ph S7 - ph S) (n := 2 * (ph S7 - ph S)) (by omega) (by omega) ?_
            exact (hk128 _ hf).2 (by omega) _ _ _ _ _ hM (lv_sub hl [0] rfl)
      · intro k105 hk105 hf
        refine jl_W (fun k35 : Int32 → Int32 → St → Option (Int32 × St) => ∀ (v13 : Int32) (v14 : Int32) (S15 : St), k35 v13 v14 S15 = some (rz, Sz) → ph S15 ≤ ph Sz ∧ (ph S ≤ ph S15 → ∀ (q1 q2 : Nat) (H : Heap) (locs : List Loc) (ls : Array Slot), gw D A s.heap H locs (ccells cs a q1 q2 S15) → lv_has ls 5 [(0, .ref (a 0)), (1, .int p0), (2, .int v13), (3, .int v14)] → W p l e (rmG 8 176 S Sz) s m args below meth c H locs (ph S15 - ph S) (2 * (ph S15 - ph S)) Q (F0 m 35 ls []))) ?_ ?_ ?_ hf
        · intro v13 v14 S15 h; cases h
        · intro k35 hk35 v13 v14 S15 hf
          unfold b_X10_tell_35 at hf
          have gzS15 : ph S15 ≤ ph Sz := by
            rcases it_s hf with ⟨-, hf⟩ | ⟨-, hf⟩
            · skip
              have hj := (hk105 _ _ hf).1
              omega
            · skip
              obtain ⟨v17, S18, hc, hf⟩ := bd2_s hf
              have gS18 : ph S15 ≤ ph S18 := mo_X10_clauseLength hc
              replace hf := nm_q rfl hf
              obtain ⟨v20, hc, hf⟩ := bd_s hf
              refine jp_W (fun k99 : Int32 → St → Option (Int32 × St) => ∀ (v21 : Int32) (S22 : St), k99 v21 S22 = some (rz, Sz) → ph S22 ≤ ph Sz ∧ True) ?_ ?_ hf
              · intro v21 S22 hf
                unfold j_X10_tell_99 at hf
                refine ⟨?_, trivial⟩
                replace hf := nm_q rfl hf
                have hj := (hk35 _ _ _ hf).1
                omega
              · intro k99 hk99 hf
                rcases it_s hf with ⟨-, hf⟩ | ⟨-, hf⟩
                · skip
                  obtain ⟨v25, hc, hf⟩ := bd_s hf
                  obtain ⟨S26, hc, hf⟩ := bd_s hf
                  have gS26 : ph S18 ≤ ph S26 := mo_X0_offer hc
                  have hj := (hk99 _ _ hf).1
                  omega
                · skip
                  obtain ⟨v27, hc, hf⟩ := bd_s hf
                  obtain ⟨S28, hc, hf⟩ := bd_s hf
                  have gS28 : ph S18 ≤ ph S28 := mo_X9_append hc
                  replace hf := nm_q rfl hf
                  have hj := (hk99 _ _ hf).1
                  omega
          refine ⟨gzS15, ?_⟩
          intro hpS15 q1 q2 H locs ls hM hl
          refine lv_iload_n hx hb dX10_tell_35 rfl (lv_at hl 3 rfl) ?_
          refine lv_aload_n hx hb dX10_tell_36 rfl (lv_at hl 0 rfl) ?_
          refine g_get hC hM inX10_tell_X10 0 cE0 clX10 4 (by decide) tX10_tell_3 TX10_4 cV0_4 dX10_tell_37 ?_
          refine g_get hC hM inX10_tell_X2 8 cE8 clX2 4 (by decide) tX10_tell_4 TX2_4 cV8_4 dX10_tell_40 ?_
          refine lv_icmp_ge (tgt := 105) hx hb dX10_tell_43 (by decide) (fun c16 => ?_) (fun c16 => ?_)
          · replace hf := it_t c16 hf
            refine W.widen (k := ph S15 - ph S) (n := 2 * (ph S15 - ph S)) (by omega) (by omega) ?_
            exact (hk105 _ _ hf).2 (by omega) _ _ _ _ _ hM (lv_sub hl [0, 1, 2] rfl)
          · replace hf := it_f c16 hf
            refine lv_aload_n hx hb dX10_tell_46 rfl (lv_at hl 0 rfl) ?_
            refine lv_iload_n hx hb dX10_tell_47 rfl (lv_at hl 3 rfl) ?_
            refine W.widen (k := ph S15 - ph S) (n := 2 * (ph S15 - ph S)) (by omega) (by omega) ?_
            obtain ⟨v17, S18, hc, hf⟩ := bd2_s hf
            have gS18 : ph S15 ≤ ph S18 := mo_X10_clauseLength hc
            have gzS18 : ph S18 ≤ ph Sz := by
              replace hf := nm_q rfl hf
              obtain ⟨v20, hc, hf⟩ := bd_s hf
              refine jp_W (fun k99 : Int32 → St → Option (Int32 × St) => ∀ (v21 : Int32) (S22 : St), k99 v21 S22 = some (rz, Sz) → ph S22 ≤ ph Sz ∧ True) ?_ ?_ hf
              · intro v21 S22 hf
                unfold j_X10_tell_99 at hf
                refine ⟨?_, trivial⟩
                replace hf := nm_q rfl hf
                have hj := (hk35 _ _ _ hf).1
                omega
              · intro k99 hk99 hf
                rcases it_s hf with ⟨-, hf⟩ | ⟨-, hf⟩
                · skip
                  obtain ⟨v25, hc, hf⟩ := bd_s hf
                  obtain ⟨S26, hc, hf⟩ := bd_s hf
                  have gS26 : ph S18 ≤ ph S26 := mo_X0_offer hc
                  have hj := (hk99 _ _ hf).1
                  omega
                · skip
                  obtain ⟨v27, hc, hf⟩ := bd_s hf
                  obtain ⟨S28, hc, hf⟩ := bd_s hf
                  have gS28 : ph S18 ≤ ph S28 := mo_X9_append hc
                  replace hf := nm_q rfl hf
                  have hj := (hk99 _ _ hf).1
                  omega
            refine gGV_i hC hM hA hR hZ hl.1 [.int v14] [] (c_X10_clauseLength l D cs adK adV a q1 q2 N v14 S15 v17 S18 hc) gX10_tell_X10_clauseLength rfl hd_X10_clauseLength ⟨Nat.le_of_ble_eq_true rfl, Nat.le_of_ble_eq_true rfl⟩ 0 10 clX10 rfl cE0 (Nat.le_of_ble_eq_true rfl) dX10_tell_48 rfl ⟨by show _ + (ph S18 - ph S15) ≤ ph Sz - ph S; omega, by show _ + 2 * (ph S18 - ph S15) ≤ 2 * (ph Sz - ph S); omega⟩ (fun q1 q2 H locs hM => ?_)
            have hpS18 : ph S ≤ ph S18 := by omega
            refine W.widen (k := ph S18 - ph S) (n := 2 * (ph S18 - ph S)) (by omega) (by omega) ?_
            refine lv_iconst (v := 1) hx hb dX10_tell_51 (by decide) ?_
            refine lv_iadd hx hb dX10_tell_52 ?_
            refine lv_topi (fun v19 ev19 => ?_)
            replace hf := nm_q ev19 hf
            refine lv_istore (lv' := [(4, .int v19), (0, .ref (a 0)), (1, .int p0), (2, .int v13), (3, .int v14)]) hx hb dX10_tell_53 hl (by decide) rfl (fun ls hl => ?_)
            refine lv_aload_n hx hb dX10_tell_55 rfl (lv_at hl 1 rfl) ?_
            refine lv_iload_n hx hb dX10_tell_56 rfl (lv_at hl 4 rfl) ?_
            obtain ⟨v20, hc, hf⟩ := bd_s hf
            refine W.widen (k := ph S18 - ph S) (n := 2 * (ph S18 - ph S)) (by omega) (by omega) ?_
            refine gV_i hC hM hA hl.1 [.int v14] [] (c_X10_isWarning l D cs a q1 q2 N v14 S18 v20 hc) gX10_tell_X10_isWarning rfl hd_X10_isWarning ⟨Nat.le_of_ble_eq_true rfl, Nat.le_of_ble_eq_true rfl⟩ 0 10 clX10 rfl cE0 (Nat.le_of_ble_eq_true rfl) dX10_tell_57 rfl ⟨by show _ + 0 ≤ ph Sz - ph S; omega, by show _ + 0 ≤ 2 * (ph Sz - ph S); omega⟩ (fun H locs hM => ?_)
            refine W.widen (k := ph S18 - ph S) (n := 2 * (ph S18 - ph S)) (Nat.le_refl _) (Nat.le_refl _) ?_
            refine jp_W (fun k99 : Int32 → St → Option (Int32 × St) => ∀ (v21 : Int32) (S22 : St), k99 v21 S22 = some (rz, Sz) → ph S22 ≤ ph Sz ∧ (ph S ≤ ph S22 → ∀ (q1 q2 : Nat) (H : Heap) (locs : List Loc) (ls : Array Slot), gw D A s.heap H locs (ccells cs a q1 q2 S22) → lv_has ls 5 [(0, .ref (a 0)), (1, .int p0), (2, .int v21), (3, .int v14)] → W p l e (rmG 8 176 S Sz) s m args below meth c H locs (ph S22 - ph S) (2 * (ph S22 - ph S)) Q (F0 m 99 ls []))) ?_ ?_ hf
            · intro v21 S22 hf
              unfold j_X10_tell_99 at hf
              have gzS22 : ph S22 ≤ ph Sz := by
                replace hf := nm_q rfl hf
                have hj := (hk35 _ _ _ hf).1
                omega
              refine ⟨gzS22, ?_⟩
              intro hpS22 q1 q2 H locs ls hM hl
              obtain ⟨v23, ev23⟩ : ∃ y : Int32, y = v14 + 1 := ⟨_, rfl⟩
              replace hf := nm_q ev23 hf
              refine lv_iinc (v := v23) (lv' := [(3, .int v23), (0, .ref (a 0)), (1, .int p0), (2, .int v21)]) hx hb dX10_tell_99 hl (k := 3) rfl (by rw [ev23]; rfl) (by decide) rfl (fun ls hl => ?_)
              refine lv_goto (tgt := 35) hx hb dX10_tell_102 (by decide) ?_
              refine W.widen (k := ph S22 - ph S) (n := 2 * (ph S22 - ph S)) (by omega) (by omega) ?_
              exact (hk35 _ _ _ hf).2 (by omega) _ _ _ _ _ hM (lv_sub hl [1, 2, 3, 0] rfl)
            · intro k99 hk99 hf
              refine lv_if_eq (tgt := 84) hx hb dX10_tell_60 (by decide) (fun c24 => ?_) (fun c24 => ?_)
              · replace hf := it_t c24 hf
                refine lv_aload_n hx hb dX10_tell_84 rfl (lv_at hl 1 rfl) ?_
                refine g_get hC hM inX10_tell_X10 0 cE0 clX10 5 (by decide) tX10_tell_2 TX10_5 cV0_5 dX10_tell_85 ?_
                refine lv_iload_n hx hb dX10_tell_88 rfl (lv_at hl 4 rfl) ?_
                refine lv_iload hx hb dX10_tell_89 (lv_at hl 0 rfl) ?_
                refine lv_aload_n hx hb dX10_tell_91 rfl (lv_at hl 1 rfl) ?_
                refine lv_iload_n hx hb dX10_tell_92 rfl (lv_at hl 4 rfl) ?_
                obtain ⟨v25, hc, hf⟩ := bd_s hf
                refine W.widen (k := ph S18 - ph S) (n := 2 * (ph S18 - ph S)) (by omega) (by omega) ?_
                refine gV_i hC hM hA hl.1 [.int v14] [.int v19, .int v14, .ref (a 15)] (c_X10_weightOf l D cs a q1 q2 N v14 S18 v25 hc) gX10_tell_X10_weightOf rfl hd_X10_weightOf ⟨Nat.le_of_ble_eq_true rfl, Nat.le_of_ble_eq_true rfl⟩ 0 10 clX10 rfl cE0 (Nat.le_of_ble_eq_true rfl) dX10_tell_93 rfl ⟨by show _ + 0 ≤ ph Sz - ph S; omega, by show _ + 0 ≤ 2 * (ph Sz - ph S); omega⟩ (fun H locs hM => ?_)
                refine W.widen (k := ph S18 - ph S) (n := 2 * (ph S18 - ph S)) (Nat.le_refl _) (Nat.le_refl _) ?_
                obtain ⟨S26, hc, hf⟩ := bd_s hf
                have gS26 : ph S18 ≤ ph S26 := mo_X0_offer hc
                have gzS26 : ph S26 ≤ ph Sz := by
                  have hj := (hk99 _ _ hf).1
                  omega
                refine W.widen (k := ph S18 - ph S) (n := 2 * (ph S18 - ph S)) (by omega) (by omega) ?_
                refine gV_v hC hM hA hl.1 [.int v14, .int v19, .int v25] [] (c_X0_offer l D cs a q1 q2 N v14 v19 v25 S18 S26 hc) gX10_tell_X0_offer rfl hd_X0_offer ⟨Nat.le_of_ble_eq_true rfl, Nat.le_of_ble_eq_true rfl⟩ 15 0 clX0 rfl cE15 (Nat.le_of_ble_eq_true rfl) dX10_tell_96 rfl ⟨by show _ + 0 ≤ ph Sz - ph S; omega, by show _ + 0 ≤ 2 * (ph Sz - ph S); omega⟩ (fun H locs hM => ?_)
                refine W.widen (k := ph S18 - ph S) (n := 2 * (ph S18 - ph S)) (Nat.le_refl _) (Nat.le_refl _) ?_
                refine W.widen (k := ph S26 - ph S) (n := 2 * (ph S26 - ph S)) (by omega) (by omega) ?_
                exact (hk99 _ _ hf).2 (by omega) _ _ _ _ _ hM (lv_sub hl [1, 2, 3, 4] rfl)
              · replace hf := it_f c24 hf
                refine lv_aload_n hx hb dX10_tell_63 rfl (lv_at hl 1 rfl) ?_
                refine g_get hC hM inX10_tell_X10 0 cE0 clX10 6 (by decide) tX10_tell_1 TX10_6 cV0_6 dX10_tell_64 ?_
                refine lv_iload_n hx hb dX10_tell_67 rfl (lv_at hl 4 rfl) ?_
                refine lv_aload_n hx hb dX10_tell_68 rfl (lv_at hl 1 rfl) ?_
                refine lv_iload_n hx hb dX10_tell_69 rfl (lv_at hl 4 rfl) ?_
                obtain ⟨v27, hc, hf⟩ := bd_s hf
                refine W.widen (k := ph S18 - ph S) (n := 2 * (ph S18 - ph S)) (by omega) (by omega) ?_
                refine gV_i hC hM hA hl.1 [.int v14] [.int v14, .ref (a 22)] (c_X10_weightOf l D cs a q1 q2 N v14 S18 v27 hc) gX10_tell_X10_weightOf rfl hd_X10_weightOf ⟨Nat.le_of_ble_eq_true rfl, Nat.le_of_ble_eq_true rfl⟩ 0 10 clX10 rfl cE0 (Nat.le_of_ble_eq_true rfl) dX10_tell_70 rfl ⟨by show _ + 0 ≤ ph Sz - ph S; omega, by show _ + 0 ≤ 2 * (ph Sz - ph S); omega⟩ (fun H locs hM => ?_)
                refine W.widen (k := ph S18 - ph S) (n := 2 * (ph S18 - ph S)) (Nat.le_refl _) (Nat.le_refl _) ?_
                obtain ⟨S28, hc, hf⟩ := bd_s hf
                have gS28 : ph S18 ≤ ph S28 := mo_X9_append hc
                have gzS28 : ph S28 ≤ ph Sz := by
                  replace hf := nm_q rfl hf
                  have hj := (hk99 _ _ hf).1
                  omega
                refine W.widen (k := ph S18 - ph S) (n := 2 * (ph S18 - ph S)) (by omega) (by omega) ?_
                refine gV_v hC hM hA hl.1 [.int v14, .int v27] [] (c_X9_append l D cs a q1 q2 N v14 v27 S18 S28 hc) gX10_tell_X9_append rfl hd_X9_append ⟨Nat.le_of_ble_eq_true rfl, Nat.le_of_ble_eq_true rfl⟩ 22 9 clX9 rfl cE22 (Nat.le_of_ble_eq_true rfl) dX10_tell_73 rfl ⟨by show _ + 0 ≤ ph Sz - ph S; omega, by show _ + 0 ≤ 2 * (ph Sz - ph S); omega⟩ (fun H locs hM => ?_)
                refine W.widen (k := ph S18 - ph S) (n := 2 * (ph S18 - ph S)) (Nat.le_refl _) (Nat.le_refl _) ?_
                refine lv_iload_n hx hb dX10_tell_76 rfl (lv_at hl 3 rfl) ?_
                refine lv_iload hx hb dX10_tell_77 (lv_at hl 0 rfl) ?_
                refine lv_iadd hx hb dX10_tell_79 ?_
                refine lv_topi (fun v29 ev29 => ?_)
                replace hf := nm_q ev29 hf
                refine lv_istore_n (lv' := [(2, .int v29), (4, .int v19), (0, .ref (a 0)), (1, .int p0), (3, .int v14)]) hx hb dX10_tell_80 rfl hl (by decide) rfl (fun ls hl => ?_)
                refine lv_goto (tgt := 99) hx hb dX10_tell_81 (by decide) ?_
                refine W.widen (k := ph S28 - ph S) (n := 2 * (ph S28 - ph S)) (by omega) (by omega) ?_
                exact (hk99 _ _ hf).2 (by omega) _ _ _ _ _ hM (lv_sub hl [2, 3, 0, 4] rfl)
        · intro k35 hk35 hf
          refine W.widen (k := ph S5 - ph S) (n := 2 * (ph S5 - ph S)) (by omega) (by omega) ?_
          exact (hk35 _ _ _ hf).2 (by omega) _ _ _ _ _ hM (lv_sub hl [2, 3, 1, 0] rfl)
    · replace hf := it_f c2 hf
      refine lv_iconst (v := (-1)) hx hb dX10_tell_11 (by decide) ?_
      obtain ⟨e1, e2⟩ := so_2 hf
      cases e1; cases e2
      exact hQ _ _ _ _ _ _ _ _ dX10_tell_12 hM (by omega) (by omega)
