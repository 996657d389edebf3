/-! the law's calls, one by one: from the call's first instruction to the loop's step -/
section LAW
variable {p : Program} {l : Launch} {e : Env} {s : State} {m : MethodId} {below : List Frame} {meth : Method} {c : Code} {b L : Nat} {xs : Nat → Int32} {D : va_G} {cs : Nat → ClassId} {adK adV : Nat → Nat}
def LE (p : Program) (l : Launch) (s : State) (m : MethodId) (c : Code) (b L : Nat) (xs : Nat → Int32) (D : va_G) (cs : Nat → ClassId) (adK adV : Nat → Nat) : Prop := l.stackTraces = false ∧ gC p s m #[Value.ref b] c code 7 wsL_law RL D cs ∧ gR adK s ∧ gZ adK adV (fun q => s.heap.size ≤ q) s s.heap ∧ gT s ∧ gU (fun q => s.heap.size ≤ q) s s.heap ∧ va_Nc xN xI s ∧ va_X b L xs s s.heap ∧ b < s.heap.size ∧ L ≤ 3584
def LK (p : Program) (l : Launch) (e : Env) (s : State) (m : MethodId) (below : List Frame) (meth : Method) (c : Code) (b : Nat) (D : va_G) (cs : Nat → ClassId) (pc i j : Nat) : Prop :=
  ∀ (C M : St) (a : Nat → Nat) (q1 q2 : Nat) (am : Nat → Nat) (o : Nat) (f : Nat → Int64) (H : Heap) (locs : List Loc) (cells slots : Nat) (ls : Array Slot), Rel C M → gw D (fun q => s.heap.size ≤ q) s.heap H locs (ccells cs a q1 q2 C ++ (mcells cs am M ++ [woL cs o f])) → cells ≤ 200 + ph C + j → slots ≤ 200000 + 2 * ph C + 6 * j →
    lv_has ls 7 [(0, .ref b), (1, .ref (a 0)), (2, .ref (am 0)), (3, .ref o), (4, .int (nI i))] → W p l e room_1 s m #[Value.ref b] below meth c H locs cells slots (lw_Z below #[Value.ref b] s) (F0 m pc ls [])
theorem sc_in {j k : Nat} (h : 7 * j + 7 ≤ L) (hk : k < 7) (hL : L ≤ 3584) : vp_in (nI (7 * j) + nI k) L := by
  rw [q_add]
  exact vp_in_nI (by omega) (by omega)
set_option maxRecDepth 20000 in
set_option maxHeartbeats 2000000 in
theorem lw_feed (E : LE p l s m c b L xs D cs adK adV) {j : Nat} (hj : 7 * j + 7 ≤ L) (hK : LK p l e s m below meth c b D cs 673 (7 * j) (j + 1)) : LK p l e s m below meth c b D cs 112 (7 * j) j := by
  intro C M a q1 q2 am o f H locs cells slots ls hR hM h1 h2 hl
  obtain ⟨hl0, hC, hR', hZ, hT, hU, hNc, hX, hbl, hL⟩ := E
  obtain ⟨hx, hb, hml, hown, hts⟩ := hC.1
  obtain ⟨P, R, B, hR⟩ := hR
  have hA : ∀ q : Nat, s.heap.size ≤ q → (fun q : Nat => s.heap.size ≤ q) q := fun _ h => h
  have hbA : ¬ (fun q : Nat => s.heap.size ≤ q) b := Nat.not_le.mpr hbl
  have ph0 := hR.phb
  obtain ⟨r, C', M', e1, e2, hR2, hph⟩ := R_feed (N := 6000) (a := (xs (nI (7 * j) + 1).toNatClampNeg)) (b := (xs (nI (7 * j) + 2).toNatClampNeg)) (c := (xs (nI (7 * j) + 3).toNatClampNeg)) (d := (xs (nI (7 * j) + 4).toNatClampNeg)) (e := (xs (nI (7 * j) + 5).toNatClampNeg)) (Nat.le_refl _) hR
  have ph1 := hR2.phb
  refine lv_aload_n hx hb dL_law_112 rfl (lv_at hl 1 rfl) ?_
  refine lv_aload_n hx hb dL_law_113 rfl (lv_at hl 0 rfl) ?_
  refine lv_iload hx hb dL_law_114 (lv_at hl 4 rfl) ?_
  refine lv_iconst (v := 1) hx hb dL_law_116 (by decide) ?_
  refine lv_iadd hx hb dL_law_117 ?_
  refine va_sld hx hb hX hbl hbA hM.2.2 (sc_in (k := 1) hj (by omega) hL) dL_law_118 ?_
  refine lv_aload_n hx hb dL_law_119 rfl (lv_at hl 0 rfl) ?_
  refine lv_iload hx hb dL_law_120 (lv_at hl 4 rfl) ?_
  refine lv_iconst (v := 2) hx hb dL_law_122 (by decide) ?_
  refine lv_iadd hx hb dL_law_123 ?_
  refine va_sld hx hb hX hbl hbA hM.2.2 (sc_in (k := 2) hj (by omega) hL) dL_law_124 ?_
  refine lv_aload_n hx hb dL_law_125 rfl (lv_at hl 0 rfl) ?_
  refine lv_iload hx hb dL_law_126 (lv_at hl 4 rfl) ?_
  refine lv_iconst (v := 3) hx hb dL_law_128 (by decide) ?_
  refine lv_iadd hx hb dL_law_129 ?_
  refine va_sld hx hb hX hbl hbA hM.2.2 (sc_in (k := 3) hj (by omega) hL) dL_law_130 ?_
  refine lv_aload_n hx hb dL_law_131 rfl (lv_at hl 0 rfl) ?_
  refine lv_iload hx hb dL_law_132 (lv_at hl 4 rfl) ?_
  refine lv_iconst (v := 4) hx hb dL_law_134 (by decide) ?_
  refine lv_iadd hx hb dL_law_135 ?_
  refine va_sld hx hb hX hbl hbA hM.2.2 (sc_in (k := 4) hj (by omega) hL) dL_law_136 ?_
  refine lv_aload_n hx hb dL_law_137 rfl (lv_at hl 0 rfl) ?_
  refine lv_iload hx hb dL_law_138 (lv_at hl 4 rfl) ?_
  refine lv_iconst (v := 5) hx hb dL_law_140 (by decide) ?_
  refine lv_iadd hx hb dL_law_141 ?_
  refine va_sld hx hb hX hbl hbA hM.2.2 (sc_in (k := 5) hj (by omega) hL) dL_law_142 ?_
  refine fV_i hC hM hA hl.1 [.int (xs (nI (7 * j) + 1).toNatClampNeg), .int (xs (nI (7 * j) + 2).toNatClampNeg), .int (xs (nI (7 * j) + 3).toNatClampNeg), .int (xs (nI (7 * j) + 4).toNatClampNeg), .int (xs (nI (7 * j) + 5).toNatClampNeg)] [] (c_X10_feed l D cs a q1 q2 6000 (xs (nI (7 * j) + 1).toNatClampNeg) (xs (nI (7 * j) + 2).toNatClampNeg) (xs (nI (7 * j) + 3).toNatClampNeg) (xs (nI (7 * j) + 4).toNatClampNeg) (xs (nI (7 * j) + 5).toNatClampNeg) C r C' e1) gL_law_X10_feed rfl hdL_X10_feed ⟨by decide, by decide⟩ 0 10 clX10 rfl rfl (Nat.le_of_ble_eq_true rfl) dL_law_143 rfl ⟨by show cells + 0 ≤ 601024; omega, by show slots + 0 ≤ 7293034; omega⟩ (fun H locs hM => ?_)
  refine lv_aload_n hx hb dL_law_146 rfl (lv_at hl 2 rfl) ?_
  refine lv_aload_n hx hb dL_law_147 rfl (lv_at hl 0 rfl) ?_
  refine lv_iload hx hb dL_law_148 (lv_at hl 4 rfl) ?_
  refine lv_iconst (v := 1) hx hb dL_law_150 (by decide) ?_
  refine lv_iadd hx hb dL_law_151 ?_
  refine va_sld hx hb hX hbl hbA hM.2.2 (sc_in (k := 1) hj (by omega) hL) dL_law_152 ?_
  refine lv_aload_n hx hb dL_law_153 rfl (lv_at hl 0 rfl) ?_
  refine lv_iload hx hb dL_law_154 (lv_at hl 4 rfl) ?_
  refine lv_iconst (v := 2) hx hb dL_law_156 (by decide) ?_
  refine lv_iadd hx hb dL_law_157 ?_
  refine va_sld hx hb hX hbl hbA hM.2.2 (sc_in (k := 2) hj (by omega) hL) dL_law_158 ?_
  refine lv_aload_n hx hb dL_law_159 rfl (lv_at hl 0 rfl) ?_
  refine lv_iload hx hb dL_law_160 (lv_at hl 4 rfl) ?_
  refine lv_iconst (v := 3) hx hb dL_law_162 (by decide) ?_
  refine lv_iadd hx hb dL_law_163 ?_
  refine va_sld hx hb hX hbl hbA hM.2.2 (sc_in (k := 3) hj (by omega) hL) dL_law_164 ?_
  refine lv_aload_n hx hb dL_law_165 rfl (lv_at hl 0 rfl) ?_
  refine lv_iload hx hb dL_law_166 (lv_at hl 4 rfl) ?_
  refine lv_iconst (v := 4) hx hb dL_law_168 (by decide) ?_
  refine lv_iadd hx hb dL_law_169 ?_
  refine va_sld hx hb hX hbl hbA hM.2.2 (sc_in (k := 4) hj (by omega) hL) dL_law_170 ?_
  refine lv_aload_n hx hb dL_law_171 rfl (lv_at hl 0 rfl) ?_
  refine lv_iload hx hb dL_law_172 (lv_at hl 4 rfl) ?_
  refine lv_iconst (v := 5) hx hb dL_law_174 (by decide) ?_
  refine lv_iadd hx hb dL_law_175 ?_
  refine va_sld hx hb hX hbl hbA hM.2.2 (sc_in (k := 5) hj (by omega) hL) dL_law_176 ?_
  refine fV_i hC hM.rot hA hl.1 [.int (xs (nI (7 * j) + 1).toNatClampNeg), .int (xs (nI (7 * j) + 2).toNatClampNeg), .int (xs (nI (7 * j) + 3).toNatClampNeg), .int (xs (nI (7 * j) + 4).toNatClampNeg), .int (xs (nI (7 * j) + 5).toNatClampNeg)] [.int r] (c_X11_feed l D cs am 6000 (xs (nI (7 * j) + 1).toNatClampNeg) (xs (nI (7 * j) + 2).toNatClampNeg) (xs (nI (7 * j) + 3).toNatClampNeg) (xs (nI (7 * j) + 4).toNatClampNeg) (xs (nI (7 * j) + 5).toNatClampNeg) M r M' e2) gL_law_X11_feed rfl hdL_X11_feed ⟨by decide, by decide⟩ 0 11 clX11 rfl rfl (Nat.le_of_ble_eq_true rfl) dL_law_177 rfl ⟨by show cells + 0 + 0 ≤ 601024; omega, by show slots + 0 + 0 ≤ 7293034; omega⟩ (fun H locs hM => ?_)
  refine lv_icmp_eq (tgt := 673) hx hb dL_law_180 (by decide) (fun _ => ?_) (fun h => absurd rfl h)
  exact hK C' M' a q1 q2 am o f H locs _ _ ls ⟨P, R, B, hR2⟩ hM.rot.rot (by show cells + 0 + 0 ≤ _; omega) (by show slots + 0 + 0 ≤ _; omega) hl
set_option maxRecDepth 20000 in
set_option maxHeartbeats 2000000 in
theorem lw_rules (E : LE p l s m c b L xs D cs adK adV) {j : Nat} (hj : 7 * j + 7 ≤ L) (hK : LK p l e s m below meth c b D cs 673 (7 * j) (j + 1)) : LK p l e s m below meth c b D cs 185 (7 * j) j := by
  intro C M a q1 q2 am o f H locs cells slots ls hR hM h1 h2 hl
  obtain ⟨hl0, hC, hR', hZ, hT, hU, hNc, hX, hbl, hL⟩ := E
  obtain ⟨hx, hb, hml, hown, hts⟩ := hC.1
  obtain ⟨P, R, B, hR⟩ := hR
  have hA : ∀ q : Nat, s.heap.size ≤ q → (fun q : Nat => s.heap.size ≤ q) q := fun _ h => h
  have hbA : ¬ (fun q : Nat => s.heap.size ≤ q) b := Nat.not_le.mpr hbl
  have ph0 := hR.phb
  obtain ⟨r, C', M', e1, e2, hR2, hph⟩ := R_rules (N := 6000) (x := (xs (nI (7 * j) + 1).toNatClampNeg)) (Nat.le_refl _) hR
  have ph1 : ph C' ≤ 80000 := by obtain ⟨P', R', B', z⟩ := hR2; exact z.phb
  refine lv_aload_n hx hb dL_law_185 rfl (lv_at hl 1 rfl) ?_
  refine lv_aload_n hx hb dL_law_186 rfl (lv_at hl 0 rfl) ?_
  refine lv_iload hx hb dL_law_187 (lv_at hl 4 rfl) ?_
  refine lv_iconst (v := 1) hx hb dL_law_189 (by decide) ?_
  refine lv_iadd hx hb dL_law_190 ?_
  refine va_sld hx hb hX hbl hbA hM.2.2 (sc_in (k := 1) hj (by omega) hL) dL_law_191 ?_
  refine fX_i hC hM hA hl.1 [.int (xs (nI (7 * j) + 1).toNatClampNeg)] [] (c_X10_rules l D cs a q1 q2 6000 (xs (nI (7 * j) + 1).toNatClampNeg) C r C' e1) gL_law_X10_rules rfl hdL_X10_rules ⟨by decide, by decide⟩ 0 10 clX10 rfl rfl (Nat.le_of_ble_eq_true rfl) dL_law_192 rfl ⟨by show cells + 0 ≤ 601024; omega, by show slots + 0 ≤ 7293034; omega⟩ (fun a' q1 q2 H locs ha hM => ?_)
  have hl : lv_has ls 7 [(0, .ref b), (1, .ref (a' 0)), (2, .ref (am 0)), (3, .ref o), (4, .int (nI (7 * j)))] := by rw [ha]; exact hl
  refine lv_aload_n hx hb dL_law_195 rfl (lv_at hl 2 rfl) ?_
  refine lv_aload_n hx hb dL_law_196 rfl (lv_at hl 0 rfl) ?_
  refine lv_iload hx hb dL_law_197 (lv_at hl 4 rfl) ?_
  refine lv_iconst (v := 1) hx hb dL_law_199 (by decide) ?_
  refine lv_iadd hx hb dL_law_200 ?_
  refine va_sld hx hb hX hbl hbA hM.2.2 (sc_in (k := 1) hj (by omega) hL) dL_law_201 ?_
  refine fV_i hC hM.rot hA hl.1 [.int (xs (nI (7 * j) + 1).toNatClampNeg)] [.int r] (c_X11_rules l D cs am 6000 (xs (nI (7 * j) + 1).toNatClampNeg) M r M' e2) gL_law_X11_rules rfl hdL_X11_rules ⟨by decide, by decide⟩ 0 11 clX11 rfl rfl (Nat.le_of_ble_eq_true rfl) dL_law_202 rfl ⟨by show cells + 0 + 0 ≤ 601024; omega, by show slots + 0 + 0 ≤ 7293034; omega⟩ (fun H locs hM => ?_)
  refine lv_icmp_eq (tgt := 673) hx hb dL_law_205 (by decide) (fun _ => ?_) (fun h => absurd rfl h)
  exact hK C' M' a' q1 q2 am o f H locs _ _ ls hR2 hM.rot.rot (by show cells + 0 + 0 ≤ _; omega) (by show slots + 0 + 0 ≤ _; omega) hl
set_option maxRecDepth 20000 in
set_option maxHeartbeats 2000000 in
theorem lw_fault (E : LE p l s m c b L xs D cs adK adV) {j : Nat} (hj : 7 * j + 7 ≤ L) (hK : LK p l e s m below meth c b D cs 673 (7 * j) (j + 1)) : LK p l e s m below meth c b D cs 210 (7 * j) j := by
  intro C M a q1 q2 am o f H locs cells slots ls hR hM h1 h2 hl
  obtain ⟨hl0, hC, hR', hZ, hT, hU, hNc, hX, hbl, hL⟩ := E
  obtain ⟨hx, hb, hml, hown, hts⟩ := hC.1
  obtain ⟨P, R, B, hR⟩ := hR
  have hA : ∀ q : Nat, s.heap.size ≤ q → (fun q : Nat => s.heap.size ≤ q) q := fun _ h => h
  have hbA : ¬ (fun q : Nat => s.heap.size ≤ q) b := Nat.not_le.mpr hbl
  have ph0 := hR.phb
  obtain ⟨r, M', e1, e2, hR2⟩ := R_fault (N := 6000) (x := (xs (nI (7 * j) + 1).toNatClampNeg)) hR
  refine lv_aload_n hx hb dL_law_210 rfl (lv_at hl 1 rfl) ?_
  refine lv_aload_n hx hb dL_law_211 rfl (lv_at hl 0 rfl) ?_
  refine lv_iload hx hb dL_law_212 (lv_at hl 4 rfl) ?_
  refine lv_iconst (v := 1) hx hb dL_law_214 (by decide) ?_
  refine lv_iadd hx hb dL_law_215 ?_
  refine va_sld hx hb hX hbl hbA hM.2.2 (sc_in (k := 1) hj (by omega) hL) dL_law_216 ?_
  refine fV_i hC hM hA hl.1 [.int (xs (nI (7 * j) + 1).toNatClampNeg)] [] (c_X10_fault l D cs a q1 q2 6000 (xs (nI (7 * j) + 1).toNatClampNeg) C r e1) gL_law_X10_fault rfl hdL_X10_fault ⟨by decide, by decide⟩ 0 10 clX10 rfl rfl (Nat.le_of_ble_eq_true rfl) dL_law_217 rfl ⟨by show cells + 0 ≤ 601024; omega, by show slots + 0 ≤ 7293034; omega⟩ (fun H locs hM => ?_)
  refine lv_aload_n hx hb dL_law_220 rfl (lv_at hl 2 rfl) ?_
  refine lv_aload_n hx hb dL_law_221 rfl (lv_at hl 0 rfl) ?_
  refine lv_iload hx hb dL_law_222 (lv_at hl 4 rfl) ?_
  refine lv_iconst (v := 1) hx hb dL_law_224 (by decide) ?_
  refine lv_iadd hx hb dL_law_225 ?_
  refine va_sld hx hb hX hbl hbA hM.2.2 (sc_in (k := 1) hj (by omega) hL) dL_law_226 ?_
  refine fV_i hC hM.rot hA hl.1 [.int (xs (nI (7 * j) + 1).toNatClampNeg)] [.int r] (c_X11_fault l D cs am 6000 (xs (nI (7 * j) + 1).toNatClampNeg) M r M' e2) gL_law_X11_fault rfl hdL_X11_fault ⟨by decide, by decide⟩ 0 11 clX11 rfl rfl (Nat.le_of_ble_eq_true rfl) dL_law_227 rfl ⟨by show cells + 0 + 0 ≤ 601024; omega, by show slots + 0 + 0 ≤ 7293034; omega⟩ (fun H locs hM => ?_)
  refine lv_icmp_eq (tgt := 673) hx hb dL_law_230 (by decide) (fun _ => ?_) (fun h => absurd rfl h)
  exact hK C M' a q1 q2 am o f H locs _ _ ls ⟨P, R, B, hR2⟩ hM.rot.rot (by show cells + 0 + 0 ≤ _; omega) (by show slots + 0 + 0 ≤ _; omega) hl
set_option maxRecDepth 20000 in
set_option maxHeartbeats 2000000 in
theorem lw_put (E : LE p l s m c b L xs D cs adK adV) {j : Nat} (hj : 7 * j + 7 ≤ L) (hK : LK p l e s m below meth c b D cs 673 (7 * j) (j + 1)) : LK p l e s m below meth c b D cs 235 (7 * j) j := by
  intro C M a q1 q2 am o f H locs cells slots ls hR hM h1 h2 hl
  obtain ⟨hl0, hC, hR', hZ, hT, hU, hNc, hX, hbl, hL⟩ := E
  obtain ⟨hx, hb, hml, hown, hts⟩ := hC.1
  obtain ⟨P, R, B, hR⟩ := hR
  have hA : ∀ q : Nat, s.heap.size ≤ q → (fun q : Nat => s.heap.size ≤ q) q := fun _ h => h
  have hbA : ¬ (fun q : Nat => s.heap.size ≤ q) b := Nat.not_le.mpr hbl
  have ph0 := hR.phb
  obtain ⟨r, C', M', e1, e2, hR2, hph⟩ := R_put (N := 6000) (q := (xs (nI (7 * j) + 1).toNatClampNeg)) (p := (xs (nI (7 * j) + 2).toNatClampNeg)) (f := (xs (nI (7 * j) + 3).toNatClampNeg)) (t := (xs (nI (7 * j) + 4).toNatClampNeg)) (v := (xs (nI (7 * j) + 5).toNatClampNeg)) (s := (xs (nI (7 * j) + 6).toNatClampNeg)) (Nat.le_refl _) hR
  have ph1 := hR2.phb
  refine lv_aload_n hx hb dL_law_235 rfl (lv_at hl 1 rfl) ?_
  refine lv_aload_n hx hb dL_law_236 rfl (lv_at hl 0 rfl) ?_
  refine lv_iload hx hb dL_law_237 (lv_at hl 4 rfl) ?_
  refine lv_iconst (v := 1) hx hb dL_law_239 (by decide) ?_
  refine lv_iadd hx hb dL_law_240 ?_
  refine va_sld hx hb hX hbl hbA hM.2.2 (sc_in (k := 1) hj (by omega) hL) dL_law_241 ?_
  refine lv_aload_n hx hb dL_law_242 rfl (lv_at hl 0 rfl) ?_
  refine lv_iload hx hb dL_law_243 (lv_at hl 4 rfl) ?_
  refine lv_iconst (v := 2) hx hb dL_law_245 (by decide) ?_
  refine lv_iadd hx hb dL_law_246 ?_
  refine va_sld hx hb hX hbl hbA hM.2.2 (sc_in (k := 2) hj (by omega) hL) dL_law_247 ?_
  refine lv_aload_n hx hb dL_law_248 rfl (lv_at hl 0 rfl) ?_
  refine lv_iload hx hb dL_law_249 (lv_at hl 4 rfl) ?_
  refine lv_iconst (v := 3) hx hb dL_law_251 (by decide) ?_
  refine lv_iadd hx hb dL_law_252 ?_
  refine va_sld hx hb hX hbl hbA hM.2.2 (sc_in (k := 3) hj (by omega) hL) dL_law_253 ?_
  refine lv_aload_n hx hb dL_law_254 rfl (lv_at hl 0 rfl) ?_
  refine lv_iload hx hb dL_law_255 (lv_at hl 4 rfl) ?_
  refine lv_iconst (v := 4) hx hb dL_law_257 (by decide) ?_
  refine lv_iadd hx hb dL_law_258 ?_
  refine va_sld hx hb hX hbl hbA hM.2.2 (sc_in (k := 4) hj (by omega) hL) dL_law_259 ?_
  refine lv_aload_n hx hb dL_law_260 rfl (lv_at hl 0 rfl) ?_
  refine lv_iload hx hb dL_law_261 (lv_at hl 4 rfl) ?_
  refine lv_iconst (v := 5) hx hb dL_law_263 (by decide) ?_
  refine lv_iadd hx hb dL_law_264 ?_
  refine va_sld hx hb hX hbl hbA hM.2.2 (sc_in (k := 5) hj (by omega) hL) dL_law_265 ?_
  refine lv_aload_n hx hb dL_law_266 rfl (lv_at hl 0 rfl) ?_
  refine lv_iload hx hb dL_law_267 (lv_at hl 4 rfl) ?_
  refine lv_bipush (v := 6) hx hb dL_law_269 (by decide) ?_
  refine lv_iadd hx hb dL_law_271 ?_
  refine va_sld hx hb hX hbl hbA hM.2.2 (sc_in (k := 6) hj (by omega) hL) dL_law_272 ?_
  refine fV_i hC hM hA hl.1 [.int (xs (nI (7 * j) + 1).toNatClampNeg), .int (xs (nI (7 * j) + 2).toNatClampNeg), .int (xs (nI (7 * j) + 3).toNatClampNeg), .int (xs (nI (7 * j) + 4).toNatClampNeg), .int (xs (nI (7 * j) + 5).toNatClampNeg), .int (xs (nI (7 * j) + 6).toNatClampNeg)] [] (c_X10_put l D cs a q1 q2 6000 (xs (nI (7 * j) + 1).toNatClampNeg) (xs (nI (7 * j) + 2).toNatClampNeg) (xs (nI (7 * j) + 3).toNatClampNeg) (xs (nI (7 * j) + 4).toNatClampNeg) (xs (nI (7 * j) + 5).toNatClampNeg) (xs (nI (7 * j) + 6).toNatClampNeg) C r C' e1) gL_law_X10_put rfl hdL_X10_put ⟨by decide, by decide⟩ 0 10 clX10 rfl rfl (Nat.le_of_ble_eq_true rfl) dL_law_273 rfl ⟨by show cells + 0 ≤ 601024; omega, by show slots + 0 ≤ 7293034; omega⟩ (fun H locs hM => ?_)
  refine lv_aload_n hx hb dL_law_276 rfl (lv_at hl 2 rfl) ?_
  refine lv_aload_n hx hb dL_law_277 rfl (lv_at hl 0 rfl) ?_
  refine lv_iload hx hb dL_law_278 (lv_at hl 4 rfl) ?_
  refine lv_iconst (v := 1) hx hb dL_law_280 (by decide) ?_
  refine lv_iadd hx hb dL_law_281 ?_
  refine va_sld hx hb hX hbl hbA hM.2.2 (sc_in (k := 1) hj (by omega) hL) dL_law_282 ?_
  refine lv_aload_n hx hb dL_law_283 rfl (lv_at hl 0 rfl) ?_
  refine lv_iload hx hb dL_law_284 (lv_at hl 4 rfl) ?_
  refine lv_iconst (v := 2) hx hb dL_law_286 (by decide) ?_
  refine lv_iadd hx hb dL_law_287 ?_
  refine va_sld hx hb hX hbl hbA hM.2.2 (sc_in (k := 2) hj (by omega) hL) dL_law_288 ?_
  refine lv_aload_n hx hb dL_law_289 rfl (lv_at hl 0 rfl) ?_
  refine lv_iload hx hb dL_law_290 (lv_at hl 4 rfl) ?_
  refine lv_iconst (v := 3) hx hb dL_law_292 (by decide) ?_
  refine lv_iadd hx hb dL_law_293 ?_
  refine va_sld hx hb hX hbl hbA hM.2.2 (sc_in (k := 3) hj (by omega) hL) dL_law_294 ?_
  refine lv_aload_n hx hb dL_law_295 rfl (lv_at hl 0 rfl) ?_
  refine lv_iload hx hb dL_law_296 (lv_at hl 4 rfl) ?_
  refine lv_iconst (v := 4) hx hb dL_law_298 (by decide) ?_
  refine lv_iadd hx hb dL_law_299 ?_
  refine va_sld hx hb hX hbl hbA hM.2.2 (sc_in (k := 4) hj (by omega) hL) dL_law_300 ?_
  refine lv_aload_n hx hb dL_law_301 rfl (lv_at hl 0 rfl) ?_
  refine lv_iload hx hb dL_law_302 (lv_at hl 4 rfl) ?_
  refine lv_iconst (v := 5) hx hb dL_law_304 (by decide) ?_
  refine lv_iadd hx hb dL_law_305 ?_
  refine va_sld hx hb hX hbl hbA hM.2.2 (sc_in (k := 5) hj (by omega) hL) dL_law_306 ?_
  refine lv_aload_n hx hb dL_law_307 rfl (lv_at hl 0 rfl) ?_
  refine lv_iload hx hb dL_law_308 (lv_at hl 4 rfl) ?_
  refine lv_bipush (v := 6) hx hb dL_law_310 (by decide) ?_
  refine lv_iadd hx hb dL_law_312 ?_
  refine va_sld hx hb hX hbl hbA hM.2.2 (sc_in (k := 6) hj (by omega) hL) dL_law_313 ?_
  refine fV_i hC hM.rot hA hl.1 [.int (xs (nI (7 * j) + 1).toNatClampNeg), .int (xs (nI (7 * j) + 2).toNatClampNeg), .int (xs (nI (7 * j) + 3).toNatClampNeg), .int (xs (nI (7 * j) + 4).toNatClampNeg), .int (xs (nI (7 * j) + 5).toNatClampNeg), .int (xs (nI (7 * j) + 6).toNatClampNeg)] [.int r] (c_X11_put l D cs am 6000 (xs (nI (7 * j) + 1).toNatClampNeg) (xs (nI (7 * j) + 2).toNatClampNeg) (xs (nI (7 * j) + 3).toNatClampNeg) (xs (nI (7 * j) + 4).toNatClampNeg) (xs (nI (7 * j) + 5).toNatClampNeg) (xs (nI (7 * j) + 6).toNatClampNeg) M r M' e2) gL_law_X11_put rfl hdL_X11_put ⟨by decide, by decide⟩ 0 11 clX11 rfl rfl (Nat.le_of_ble_eq_true rfl) dL_law_314 rfl ⟨by show cells + 0 + 0 ≤ 601024; omega, by show slots + 0 + 0 ≤ 7293034; omega⟩ (fun H locs hM => ?_)
  refine lv_icmp_eq (tgt := 673) hx hb dL_law_317 (by decide) (fun _ => ?_) (fun h => absurd rfl h)
  exact hK C' M' a q1 q2 am o f H locs _ _ ls ⟨P, R, B, hR2⟩ hM.rot.rot (by show cells + 0 + 0 ≤ _; omega) (by show slots + 0 + 0 ≤ _; omega) hl
set_option maxRecDepth 20000 in
set_option maxHeartbeats 2000000 in
theorem lw_miss (E : LE p l s m c b L xs D cs adK adV) {j : Nat} (hj : 7 * j + 7 ≤ L) (hK : LK p l e s m below meth c b D cs 673 (7 * j) (j + 1)) : LK p l e s m below meth c b D cs 322 (7 * j) j := by
  intro C M a q1 q2 am o f H locs cells slots ls hR hM h1 h2 hl
  obtain ⟨hl0, hC, hR', hZ, hT, hU, hNc, hX, hbl, hL⟩ := E
  obtain ⟨hx, hb, hml, hown, hts⟩ := hC.1
  obtain ⟨P, R, B, hR⟩ := hR
  have hA : ∀ q : Nat, s.heap.size ≤ q → (fun q : Nat => s.heap.size ≤ q) q := fun _ h => h
  have hbA : ¬ (fun q : Nat => s.heap.size ≤ q) b := Nat.not_le.mpr hbl
  have ph0 := hR.phb
  obtain ⟨r, C', M', e1, e2, hR2, hph⟩ := R_miss (N := 6000) (q := (xs (nI (7 * j) + 1).toNatClampNeg)) (p := (xs (nI (7 * j) + 2).toNatClampNeg)) (f := (xs (nI (7 * j) + 3).toNatClampNeg)) (t := (xs (nI (7 * j) + 4).toNatClampNeg)) (Nat.le_refl _) hR
  have ph1 := hR2.phb
  refine lv_aload_n hx hb dL_law_322 rfl (lv_at hl 1 rfl) ?_
  refine lv_aload_n hx hb dL_law_323 rfl (lv_at hl 0 rfl) ?_
  refine lv_iload hx hb dL_law_324 (lv_at hl 4 rfl) ?_
  refine lv_iconst (v := 1) hx hb dL_law_326 (by decide) ?_
  refine lv_iadd hx hb dL_law_327 ?_
  refine va_sld hx hb hX hbl hbA hM.2.2 (sc_in (k := 1) hj (by omega) hL) dL_law_328 ?_
  refine lv_aload_n hx hb dL_law_329 rfl (lv_at hl 0 rfl) ?_
  refine lv_iload hx hb dL_law_330 (lv_at hl 4 rfl) ?_
  refine lv_iconst (v := 2) hx hb dL_law_332 (by decide) ?_
  refine lv_iadd hx hb dL_law_333 ?_
  refine va_sld hx hb hX hbl hbA hM.2.2 (sc_in (k := 2) hj (by omega) hL) dL_law_334 ?_
  refine lv_aload_n hx hb dL_law_335 rfl (lv_at hl 0 rfl) ?_
  refine lv_iload hx hb dL_law_336 (lv_at hl 4 rfl) ?_
  refine lv_iconst (v := 3) hx hb dL_law_338 (by decide) ?_
  refine lv_iadd hx hb dL_law_339 ?_
  refine va_sld hx hb hX hbl hbA hM.2.2 (sc_in (k := 3) hj (by omega) hL) dL_law_340 ?_
  refine lv_aload_n hx hb dL_law_341 rfl (lv_at hl 0 rfl) ?_
  refine lv_iload hx hb dL_law_342 (lv_at hl 4 rfl) ?_
  refine lv_iconst (v := 4) hx hb dL_law_344 (by decide) ?_
  refine lv_iadd hx hb dL_law_345 ?_
  refine va_sld hx hb hX hbl hbA hM.2.2 (sc_in (k := 4) hj (by omega) hL) dL_law_346 ?_
  refine fV_i hC hM hA hl.1 [.int (xs (nI (7 * j) + 1).toNatClampNeg), .int (xs (nI (7 * j) + 2).toNatClampNeg), .int (xs (nI (7 * j) + 3).toNatClampNeg), .int (xs (nI (7 * j) + 4).toNatClampNeg)] [] (c_X10_miss l D cs a q1 q2 6000 (xs (nI (7 * j) + 1).toNatClampNeg) (xs (nI (7 * j) + 2).toNatClampNeg) (xs (nI (7 * j) + 3).toNatClampNeg) (xs (nI (7 * j) + 4).toNatClampNeg) C r C' e1) gL_law_X10_miss rfl hdL_X10_miss ⟨by decide, by decide⟩ 0 10 clX10 rfl rfl (Nat.le_of_ble_eq_true rfl) dL_law_347 rfl ⟨by show cells + 0 ≤ 601024; omega, by show slots + 0 ≤ 7293034; omega⟩ (fun H locs hM => ?_)
  refine lv_aload_n hx hb dL_law_350 rfl (lv_at hl 2 rfl) ?_
  refine lv_aload_n hx hb dL_law_351 rfl (lv_at hl 0 rfl) ?_
  refine lv_iload hx hb dL_law_352 (lv_at hl 4 rfl) ?_
  refine lv_iconst (v := 1) hx hb dL_law_354 (by decide) ?_
  refine lv_iadd hx hb dL_law_355 ?_
  refine va_sld hx hb hX hbl hbA hM.2.2 (sc_in (k := 1) hj (by omega) hL) dL_law_356 ?_
  refine lv_aload_n hx hb dL_law_357 rfl (lv_at hl 0 rfl) ?_
  refine lv_iload hx hb dL_law_358 (lv_at hl 4 rfl) ?_
  refine lv_iconst (v := 2) hx hb dL_law_360 (by decide) ?_
  refine lv_iadd hx hb dL_law_361 ?_
  refine va_sld hx hb hX hbl hbA hM.2.2 (sc_in (k := 2) hj (by omega) hL) dL_law_362 ?_
  refine lv_aload_n hx hb dL_law_363 rfl (lv_at hl 0 rfl) ?_
  refine lv_iload hx hb dL_law_364 (lv_at hl 4 rfl) ?_
  refine lv_iconst (v := 3) hx hb dL_law_366 (by decide) ?_
  refine lv_iadd hx hb dL_law_367 ?_
  refine va_sld hx hb hX hbl hbA hM.2.2 (sc_in (k := 3) hj (by omega) hL) dL_law_368 ?_
  refine lv_aload_n hx hb dL_law_369 rfl (lv_at hl 0 rfl) ?_
  refine lv_iload hx hb dL_law_370 (lv_at hl 4 rfl) ?_
  refine lv_iconst (v := 4) hx hb dL_law_372 (by decide) ?_
  refine lv_iadd hx hb dL_law_373 ?_
  refine va_sld hx hb hX hbl hbA hM.2.2 (sc_in (k := 4) hj (by omega) hL) dL_law_374 ?_
  refine fV_i hC hM.rot hA hl.1 [.int (xs (nI (7 * j) + 1).toNatClampNeg), .int (xs (nI (7 * j) + 2).toNatClampNeg), .int (xs (nI (7 * j) + 3).toNatClampNeg), .int (xs (nI (7 * j) + 4).toNatClampNeg)] [.int r] (c_X11_miss l D cs am 6000 (xs (nI (7 * j) + 1).toNatClampNeg) (xs (nI (7 * j) + 2).toNatClampNeg) (xs (nI (7 * j) + 3).toNatClampNeg) (xs (nI (7 * j) + 4).toNatClampNeg) M r M' e2) gL_law_X11_miss rfl hdL_X11_miss ⟨by decide, by decide⟩ 0 11 clX11 rfl rfl (Nat.le_of_ble_eq_true rfl) dL_law_375 rfl ⟨by show cells + 0 + 0 ≤ 601024; omega, by show slots + 0 + 0 ≤ 7293034; omega⟩ (fun H locs hM => ?_)
  refine lv_icmp_eq (tgt := 673) hx hb dL_law_378 (by decide) (fun _ => ?_) (fun h => absurd rfl h)
  exact hK C' M' a q1 q2 am o f H locs _ _ ls ⟨P, R, B, hR2⟩ hM.rot.rot (by show cells + 0 + 0 ≤ _; omega) (by show slots + 0 + 0 ≤ _; omega) hl
set_option maxRecDepth 20000 in
set_option maxHeartbeats 2000000 in
theorem lw_number (E : LE p l s m c b L xs D cs adK adV) {j : Nat} (hj : 7 * j + 7 ≤ L) (hK : LK p l e s m below meth c b D cs 673 (7 * j) (j + 1)) : LK p l e s m below meth c b D cs 383 (7 * j) j := by
  intro C M a q1 q2 am o f H locs cells slots ls hR hM h1 h2 hl
  obtain ⟨hl0, hC, hR', hZ, hT, hU, hNc, hX, hbl, hL⟩ := E
  obtain ⟨hx, hb, hml, hown, hts⟩ := hC.1
  obtain ⟨P, R, B, hR⟩ := hR
  have hA : ∀ q : Nat, s.heap.size ≤ q → (fun q : Nat => s.heap.size ≤ q) q := fun _ h => h
  have hbA : ¬ (fun q : Nat => s.heap.size ≤ q) b := Nat.not_le.mpr hbl
  have ph0 := hR.phb
  obtain ⟨r, M', e1, e2, hR2⟩ := R_number (N := 6000) (q := (xs (nI (7 * j) + 1).toNatClampNeg)) (p := (xs (nI (7 * j) + 2).toNatClampNeg)) (h := (xs (nI (7 * j) + 3).toNatClampNeg)) hR
  refine lv_aload_n hx hb dL_law_383 rfl (lv_at hl 1 rfl) ?_
  refine lv_aload_n hx hb dL_law_384 rfl (lv_at hl 0 rfl) ?_
  refine lv_iload hx hb dL_law_385 (lv_at hl 4 rfl) ?_
  refine lv_iconst (v := 1) hx hb dL_law_387 (by decide) ?_
  refine lv_iadd hx hb dL_law_388 ?_
  refine va_sld hx hb hX hbl hbA hM.2.2 (sc_in (k := 1) hj (by omega) hL) dL_law_389 ?_
  refine lv_aload_n hx hb dL_law_390 rfl (lv_at hl 0 rfl) ?_
  refine lv_iload hx hb dL_law_391 (lv_at hl 4 rfl) ?_
  refine lv_iconst (v := 2) hx hb dL_law_393 (by decide) ?_
  refine lv_iadd hx hb dL_law_394 ?_
  refine va_sld hx hb hX hbl hbA hM.2.2 (sc_in (k := 2) hj (by omega) hL) dL_law_395 ?_
  refine lv_aload_n hx hb dL_law_396 rfl (lv_at hl 0 rfl) ?_
  refine lv_iload hx hb dL_law_397 (lv_at hl 4 rfl) ?_
  refine lv_iconst (v := 3) hx hb dL_law_399 (by decide) ?_
  refine lv_iadd hx hb dL_law_400 ?_
  refine va_sld hx hb hX hbl hbA hM.2.2 (sc_in (k := 3) hj (by omega) hL) dL_law_401 ?_
  refine fV_i hC hM hA hl.1 [.int (xs (nI (7 * j) + 1).toNatClampNeg), .int (xs (nI (7 * j) + 2).toNatClampNeg), .int (xs (nI (7 * j) + 3).toNatClampNeg)] [] (c_X10_number l D cs a q1 q2 6000 (xs (nI (7 * j) + 1).toNatClampNeg) (xs (nI (7 * j) + 2).toNatClampNeg) (xs (nI (7 * j) + 3).toNatClampNeg) C r e1) gL_law_X10_number rfl hdL_X10_number ⟨by decide, by decide⟩ 0 10 clX10 rfl rfl (Nat.le_of_ble_eq_true rfl) dL_law_402 rfl ⟨by show cells + 0 ≤ 601024; omega, by show slots + 0 ≤ 7293034; omega⟩ (fun H locs hM => ?_)
  refine lv_aload_n hx hb dL_law_405 rfl (lv_at hl 2 rfl) ?_
  refine lv_aload_n hx hb dL_law_406 rfl (lv_at hl 0 rfl) ?_
  refine lv_iload hx hb dL_law_407 (lv_at hl 4 rfl) ?_
  refine lv_iconst (v := 1) hx hb dL_law_409 (by decide) ?_
  refine lv_iadd hx hb dL_law_410 ?_
  refine va_sld hx hb hX hbl hbA hM.2.2 (sc_in (k := 1) hj (by omega) hL) dL_law_411 ?_
  refine lv_aload_n hx hb dL_law_412 rfl (lv_at hl 0 rfl) ?_
  refine lv_iload hx hb dL_law_413 (lv_at hl 4 rfl) ?_
  refine lv_iconst (v := 2) hx hb dL_law_415 (by decide) ?_
  refine lv_iadd hx hb dL_law_416 ?_
  refine va_sld hx hb hX hbl hbA hM.2.2 (sc_in (k := 2) hj (by omega) hL) dL_law_417 ?_
  refine lv_aload_n hx hb dL_law_418 rfl (lv_at hl 0 rfl) ?_
  refine lv_iload hx hb dL_law_419 (lv_at hl 4 rfl) ?_
  refine lv_iconst (v := 3) hx hb dL_law_421 (by decide) ?_
  refine lv_iadd hx hb dL_law_422 ?_
  refine va_sld hx hb hX hbl hbA hM.2.2 (sc_in (k := 3) hj (by omega) hL) dL_law_423 ?_
  refine fV_i hC hM.rot hA hl.1 [.int (xs (nI (7 * j) + 1).toNatClampNeg), .int (xs (nI (7 * j) + 2).toNatClampNeg), .int (xs (nI (7 * j) + 3).toNatClampNeg)] [.int r] (c_X11_number l D cs am 6000 (xs (nI (7 * j) + 1).toNatClampNeg) (xs (nI (7 * j) + 2).toNatClampNeg) (xs (nI (7 * j) + 3).toNatClampNeg) M r M' e2) gL_law_X11_number rfl hdL_X11_number ⟨by decide, by decide⟩ 0 11 clX11 rfl rfl (Nat.le_of_ble_eq_true rfl) dL_law_424 rfl ⟨by show cells + 0 + 0 ≤ 601024; omega, by show slots + 0 + 0 ≤ 7293034; omega⟩ (fun H locs hM => ?_)
  refine lv_icmp_eq (tgt := 673) hx hb dL_law_427 (by decide) (fun _ => ?_) (fun h => absurd rfl h)
  exact hK C M' a q1 q2 am o f H locs _ _ ls ⟨P, R, B, hR2⟩ hM.rot.rot (by show cells + 0 + 0 ≤ _; omega) (by show slots + 0 + 0 ≤ _; omega) hl
set_option maxRecDepth 20000 in
set_option maxHeartbeats 2000000 in
theorem lw_tell (E : LE p l s m c b L xs D cs adK adV) {j : Nat} (hj : 7 * j + 7 ≤ L) (hK : LK p l e s m below meth c b D cs 673 (7 * j) (j + 1)) : LK p l e s m below meth c b D cs 500 (7 * j) j := by
  intro C M a q1 q2 am o f H locs cells slots ls hR hM h1 h2 hl
  obtain ⟨hl0, hC, hR', hZ, hT, hU, hNc, hX, hbl, hL⟩ := E
  obtain ⟨hx, hb, hml, hown, hts⟩ := hC.1
  obtain ⟨P, R, B, hR⟩ := hR
  have hA : ∀ q : Nat, s.heap.size ≤ q → (fun q : Nat => s.heap.size ≤ q) q := fun _ h => h
  have hbA : ¬ (fun q : Nat => s.heap.size ≤ q) b := Nat.not_le.mpr hbl
  have ph0 := hR.phb
  obtain ⟨r, C', M', e1, e2, hR2⟩ := R_tell (N := 6000) (x := (xs (nI (7 * j) + 1).toNatClampNeg)) (Nat.le_refl _) hR
  have hph := mo_X10_tell e1
  have ph1 := hR2.phb
  refine lv_aload_n hx hb dL_law_500 rfl (lv_at hl 1 rfl) ?_
  refine lv_aload_n hx hb dL_law_501 rfl (lv_at hl 0 rfl) ?_
  refine lv_iload hx hb dL_law_502 (lv_at hl 4 rfl) ?_
  refine lv_iconst (v := 1) hx hb dL_law_504 (by decide) ?_
  refine lv_iadd hx hb dL_law_505 ?_
  refine va_sld hx hb hX hbl hbA hM.2.2 (sc_in (k := 1) hj (by omega) hL) dL_law_506 ?_
  refine fG_i hC hM hA hR' hZ hl.1 [.int (xs (nI (7 * j) + 1).toNatClampNeg)] [] (c_X10_tell l D cs adK adV a q1 q2 6000 (xs (nI (7 * j) + 1).toNatClampNeg) C r C' e1) gL_law_X10_tell rfl hdL_X10_tell ⟨by decide, by decide⟩ 0 10 clX10 rfl rfl (Nat.le_of_ble_eq_true rfl) dL_law_507 rfl ⟨by show _ ≤ 601024; omega, by show _ ≤ 7293034; omega⟩ (fun q1 q2 H locs hM => ?_)
  generalize hcc : cells + (ph C' - ph C) = cells at *
  generalize hss : slots + 2 * (ph C' - ph C) = slots at *
  refine lv_aload_n hx hb dL_law_510 rfl (lv_at hl 2 rfl) ?_
  refine lv_aload_n hx hb dL_law_511 rfl (lv_at hl 0 rfl) ?_
  refine lv_iload hx hb dL_law_512 (lv_at hl 4 rfl) ?_
  refine lv_iconst (v := 1) hx hb dL_law_514 (by decide) ?_
  refine lv_iadd hx hb dL_law_515 ?_
  refine va_sld hx hb hX hbl hbA hM.2.2 (sc_in (k := 1) hj (by omega) hL) dL_law_516 ?_
  refine fV_i hC hM.rot hA hl.1 [.int (xs (nI (7 * j) + 1).toNatClampNeg)] [.int r] (c_X11_tell l D cs am 6000 (xs (nI (7 * j) + 1).toNatClampNeg) M r M' e2) gL_law_X11_tell rfl hdL_X11_tell ⟨by decide, by decide⟩ 0 11 clX11 rfl rfl (Nat.le_of_ble_eq_true rfl) dL_law_517 rfl ⟨by show cells + 0 ≤ 601024; omega, by show slots + 0 ≤ 7293034; omega⟩ (fun H locs hM => ?_)
  refine lv_icmp_eq (tgt := 673) hx hb dL_law_520 (by decide) (fun _ => ?_) (fun h => absurd rfl h)
  exact hK C' M' a q1 q2 am o f H locs _ _ ls ⟨P, R, B, hR2⟩ hM.rot.rot (by show cells + 0 ≤ _; omega) (by show slots + 0 ≤ _; omega) hl
set_option maxRecDepth 20000 in
set_option maxHeartbeats 2000000 in
theorem lw_sign (E : LE p l s m c b L xs D cs adK adV) {j : Nat} (hj : 7 * j + 7 ≤ L) (hK : LK p l e s m below meth c b D cs 673 (7 * j) (j + 1)) : LK p l e s m below meth c b D cs 525 (7 * j) j := by
  intro C M a q1 q2 am o f H locs cells slots ls hR hM h1 h2 hl
  obtain ⟨hl0, hC, hR', hZ, hT, hU, hNc, hX, hbl, hL⟩ := E
  obtain ⟨hx, hb, hml, hown, hts⟩ := hC.1
  obtain ⟨P, R, B, hR⟩ := hR
  have hA : ∀ q : Nat, s.heap.size ≤ q → (fun q : Nat => s.heap.size ≤ q) q := fun _ h => h
  have hbA : ¬ (fun q : Nat => s.heap.size ≤ q) b := Nat.not_le.mpr hbl
  have ph0 := hR.phb
  obtain ⟨r, M', e1, e2, hR2⟩ := R_sign (N := 6000) (x := (xs (nI (7 * j) + 1).toNatClampNeg)) (Nat.le_refl _) hR
  refine lv_aload_n hx hb dL_law_525 rfl (lv_at hl 1 rfl) ?_
  refine lv_aload_n hx hb dL_law_526 rfl (lv_at hl 0 rfl) ?_
  refine lv_iload hx hb dL_law_527 (lv_at hl 4 rfl) ?_
  refine lv_iconst (v := 1) hx hb dL_law_529 (by decide) ?_
  refine lv_iadd hx hb dL_law_530 ?_
  refine va_sld hx hb hX hbl hbA hM.2.2 (sc_in (k := 1) hj (by omega) hL) dL_law_531 ?_
  refine fV_i hC hM hA hl.1 [.int (xs (nI (7 * j) + 1).toNatClampNeg)] [] (c_X10_sign l D cs a q1 q2 6000 (xs (nI (7 * j) + 1).toNatClampNeg) C r e1) gL_law_X10_sign rfl hdL_X10_sign ⟨by decide, by decide⟩ 0 10 clX10 rfl rfl (Nat.le_of_ble_eq_true rfl) dL_law_532 rfl ⟨by show cells + 0 ≤ 601024; omega, by show slots + 0 ≤ 7293034; omega⟩ (fun H locs hM => ?_)
  refine lv_aload_n hx hb dL_law_535 rfl (lv_at hl 2 rfl) ?_
  refine lv_aload_n hx hb dL_law_536 rfl (lv_at hl 0 rfl) ?_
  refine lv_iload hx hb dL_law_537 (lv_at hl 4 rfl) ?_
  refine lv_iconst (v := 1) hx hb dL_law_539 (by decide) ?_
  refine lv_iadd hx hb dL_law_540 ?_
  refine va_sld hx hb hX hbl hbA hM.2.2 (sc_in (k := 1) hj (by omega) hL) dL_law_541 ?_
  refine fV_i hC hM.rot hA hl.1 [.int (xs (nI (7 * j) + 1).toNatClampNeg)] [.int r] (c_X11_sign l D cs am 6000 (xs (nI (7 * j) + 1).toNatClampNeg) M r M' e2) gL_law_X11_sign rfl hdL_X11_sign ⟨by decide, by decide⟩ 0 11 clX11 rfl rfl (Nat.le_of_ble_eq_true rfl) dL_law_542 rfl ⟨by show cells + 0 + 0 ≤ 601024; omega, by show slots + 0 + 0 ≤ 7293034; omega⟩ (fun H locs hM => ?_)
  refine lv_icmp_eq (tgt := 673) hx hb dL_law_545 (by decide) (fun _ => ?_) (fun h => absurd rfl h)
  exact hK C M' a q1 q2 am o f H locs _ _ ls ⟨P, R, B, hR2⟩ hM.rot.rot (by show cells + 0 + 0 ≤ _; omega) (by show slots + 0 + 0 ≤ _; omega) hl
set_option maxRecDepth 20000 in
set_option maxHeartbeats 2000000 in
theorem lw_told (E : LE p l s m c b L xs D cs adK adV) {j : Nat} (hj : 7 * j + 7 ≤ L) (hK : LK p l e s m below meth c b D cs 673 (7 * j) (j + 1)) : LK p l e s m below meth c b D cs 550 (7 * j) j := by
  intro C M a q1 q2 am o f H locs cells slots ls hR hM h1 h2 hl
  obtain ⟨hl0, hC, hR', hZ, hT, hU, hNc, hX, hbl, hL⟩ := E
  obtain ⟨hx, hb, hml, hown, hts⟩ := hC.1
  obtain ⟨P, R, B, hR⟩ := hR
  have hA : ∀ q : Nat, s.heap.size ≤ q → (fun q : Nat => s.heap.size ≤ q) q := fun _ h => h
  have hbA : ¬ (fun q : Nat => s.heap.size ≤ q) b := Nat.not_le.mpr hbl
  have ph0 := hR.phb
  obtain ⟨r, M', e1, e2, hR2⟩ := R_told (N := 6000) (x := (xs (nI (7 * j) + 1).toNatClampNeg)) hR
  refine lv_aload_n hx hb dL_law_550 rfl (lv_at hl 1 rfl) ?_
  refine lv_aload_n hx hb dL_law_551 rfl (lv_at hl 0 rfl) ?_
  refine lv_iload hx hb dL_law_552 (lv_at hl 4 rfl) ?_
  refine lv_iconst (v := 1) hx hb dL_law_554 (by decide) ?_
  refine lv_iadd hx hb dL_law_555 ?_
  refine va_sld hx hb hX hbl hbA hM.2.2 (sc_in (k := 1) hj (by omega) hL) dL_law_556 ?_
  refine fV_i hC hM hA hl.1 [.int (xs (nI (7 * j) + 1).toNatClampNeg)] [] (c_X10_told l D cs a q1 q2 6000 (xs (nI (7 * j) + 1).toNatClampNeg) C r e1) gL_law_X10_told rfl hdL_X10_told ⟨by decide, by decide⟩ 0 10 clX10 rfl rfl (Nat.le_of_ble_eq_true rfl) dL_law_557 rfl ⟨by show cells + 0 ≤ 601024; omega, by show slots + 0 ≤ 7293034; omega⟩ (fun H locs hM => ?_)
  refine lv_aload_n hx hb dL_law_560 rfl (lv_at hl 2 rfl) ?_
  refine lv_aload_n hx hb dL_law_561 rfl (lv_at hl 0 rfl) ?_
  refine lv_iload hx hb dL_law_562 (lv_at hl 4 rfl) ?_
  refine lv_iconst (v := 1) hx hb dL_law_564 (by decide) ?_
  refine lv_iadd hx hb dL_law_565 ?_
  refine va_sld hx hb hX hbl hbA hM.2.2 (sc_in (k := 1) hj (by omega) hL) dL_law_566 ?_
  refine fV_i hC hM.rot hA hl.1 [.int (xs (nI (7 * j) + 1).toNatClampNeg)] [.int r] (c_X11_told l D cs am 6000 (xs (nI (7 * j) + 1).toNatClampNeg) M r M' e2) gL_law_X11_told rfl hdL_X11_told ⟨by decide, by decide⟩ 0 11 clX11 rfl rfl (Nat.le_of_ble_eq_true rfl) dL_law_567 rfl ⟨by show cells + 0 + 0 ≤ 601024; omega, by show slots + 0 + 0 ≤ 7293034; omega⟩ (fun H locs hM => ?_)
  refine lv_icmp_eq (tgt := 673) hx hb dL_law_570 (by decide) (fun _ => ?_) (fun h => absurd rfl h)
  exact hK C M' a q1 q2 am o f H locs _ _ ls ⟨P, R, B, hR2⟩ hM.rot.rot (by show cells + 0 + 0 ≤ _; omega) (by show slots + 0 + 0 ≤ _; omega) hl
set_option maxRecDepth 20000 in
set_option maxHeartbeats 2000000 in
theorem lw_held (E : LE p l s m c b L xs D cs adK adV) {j : Nat} (hj : 7 * j + 7 ≤ L) (hK : LK p l e s m below meth c b D cs 673 (7 * j) (j + 1)) : LK p l e s m below meth c b D cs 575 (7 * j) j := by
  intro C M a q1 q2 am o f H locs cells slots ls hR hM h1 h2 hl
  obtain ⟨hl0, hC, hR', hZ, hT, hU, hNc, hX, hbl, hL⟩ := E
  obtain ⟨hx, hb, hml, hown, hts⟩ := hC.1
  obtain ⟨P, R, B, hR⟩ := hR
  have hA : ∀ q : Nat, s.heap.size ≤ q → (fun q : Nat => s.heap.size ≤ q) q := fun _ h => h
  have hbA : ¬ (fun q : Nat => s.heap.size ≤ q) b := Nat.not_le.mpr hbl
  have ph0 := hR.phb
  obtain ⟨r, C', M', e1, e2, hR2, hph⟩ := R_held (N := 6000) (x := (xs (nI (7 * j) + 1).toNatClampNeg)) (Nat.le_refl _) hR
  have ph1 := hR2.phb
  refine lv_aload_n hx hb dL_law_575 rfl (lv_at hl 1 rfl) ?_
  refine lv_aload_n hx hb dL_law_576 rfl (lv_at hl 0 rfl) ?_
  refine lv_iload hx hb dL_law_577 (lv_at hl 4 rfl) ?_
  refine lv_iconst (v := 1) hx hb dL_law_579 (by decide) ?_
  refine lv_iadd hx hb dL_law_580 ?_
  refine va_sld hx hb hX hbl hbA hM.2.2 (sc_in (k := 1) hj (by omega) hL) dL_law_581 ?_
  refine fV_i hC hM hA hl.1 [.int (xs (nI (7 * j) + 1).toNatClampNeg)] [] (c_X10_held l D cs a q1 q2 6000 (xs (nI (7 * j) + 1).toNatClampNeg) C r C' e1) gL_law_X10_held rfl hdL_X10_held ⟨by decide, by decide⟩ 0 10 clX10 rfl rfl (Nat.le_of_ble_eq_true rfl) dL_law_582 rfl ⟨by show cells + 0 ≤ 601024; omega, by show slots + 0 ≤ 7293034; omega⟩ (fun H locs hM => ?_)
  refine lv_aload_n hx hb dL_law_585 rfl (lv_at hl 2 rfl) ?_
  refine lv_aload_n hx hb dL_law_586 rfl (lv_at hl 0 rfl) ?_
  refine lv_iload hx hb dL_law_587 (lv_at hl 4 rfl) ?_
  refine lv_iconst (v := 1) hx hb dL_law_589 (by decide) ?_
  refine lv_iadd hx hb dL_law_590 ?_
  refine va_sld hx hb hX hbl hbA hM.2.2 (sc_in (k := 1) hj (by omega) hL) dL_law_591 ?_
  refine fV_i hC hM.rot hA hl.1 [.int (xs (nI (7 * j) + 1).toNatClampNeg)] [.int r] (c_X11_held l D cs am 6000 (xs (nI (7 * j) + 1).toNatClampNeg) M r M' e2) gL_law_X11_held rfl hdL_X11_held ⟨by decide, by decide⟩ 0 11 clX11 rfl rfl (Nat.le_of_ble_eq_true rfl) dL_law_592 rfl ⟨by show cells + 0 + 0 ≤ 601024; omega, by show slots + 0 + 0 ≤ 7293034; omega⟩ (fun H locs hM => ?_)
  refine lv_icmp_eq (tgt := 673) hx hb dL_law_595 (by decide) (fun _ => ?_) (fun h => absurd rfl h)
  exact hK C' M' a q1 q2 am o f H locs _ _ ls ⟨P, R, B, hR2⟩ hM.rot.rot (by show cells + 0 + 0 ≤ _; omega) (by show slots + 0 + 0 ≤ _; omega) hl
set_option maxRecDepth 20000 in
set_option maxHeartbeats 2000000 in
theorem lw_changed (E : LE p l s m c b L xs D cs adK adV) {j : Nat} (hj : 7 * j + 7 ≤ L) (hK : LK p l e s m below meth c b D cs 673 (7 * j) (j + 1)) : LK p l e s m below meth c b D cs 611 (7 * j) j := by
  intro C M a q1 q2 am o f H locs cells slots ls hR hM h1 h2 hl
  obtain ⟨hl0, hC, hR', hZ, hT, hU, hNc, hX, hbl, hL⟩ := E
  obtain ⟨hx, hb, hml, hown, hts⟩ := hC.1
  obtain ⟨P, R, B, hR⟩ := hR
  have hA : ∀ q : Nat, s.heap.size ≤ q → (fun q : Nat => s.heap.size ≤ q) q := fun _ h => h
  have hbA : ¬ (fun q : Nat => s.heap.size ≤ q) b := Nat.not_le.mpr hbl
  have ph0 := hR.phb
  obtain ⟨r, M', e1, e2, hR2⟩ := R_changed (N := 6000) (q := (xs (nI (7 * j) + 1).toNatClampNeg)) (w := (xs (nI (7 * j) + 2).toNatClampNeg)) (Nat.le_refl _) hR
  refine lv_aload_n hx hb dL_law_611 rfl (lv_at hl 1 rfl) ?_
  refine lv_aload_n hx hb dL_law_612 rfl (lv_at hl 0 rfl) ?_
  refine lv_iload hx hb dL_law_613 (lv_at hl 4 rfl) ?_
  refine lv_iconst (v := 1) hx hb dL_law_615 (by decide) ?_
  refine lv_iadd hx hb dL_law_616 ?_
  refine va_sld hx hb hX hbl hbA hM.2.2 (sc_in (k := 1) hj (by omega) hL) dL_law_617 ?_
  refine lv_aload_n hx hb dL_law_618 rfl (lv_at hl 0 rfl) ?_
  refine lv_iload hx hb dL_law_619 (lv_at hl 4 rfl) ?_
  refine lv_iconst (v := 2) hx hb dL_law_621 (by decide) ?_
  refine lv_iadd hx hb dL_law_622 ?_
  refine va_sld hx hb hX hbl hbA hM.2.2 (sc_in (k := 2) hj (by omega) hL) dL_law_623 ?_
  refine fV_i hC hM hA hl.1 [.int (xs (nI (7 * j) + 1).toNatClampNeg), .int (xs (nI (7 * j) + 2).toNatClampNeg)] [] (c_X10_changed l D cs a q1 q2 6000 (xs (nI (7 * j) + 1).toNatClampNeg) (xs (nI (7 * j) + 2).toNatClampNeg) C r e1) gL_law_X10_changed rfl hdL_X10_changed ⟨by decide, by decide⟩ 0 10 clX10 rfl rfl (Nat.le_of_ble_eq_true rfl) dL_law_624 rfl ⟨by show cells + 0 ≤ 601024; omega, by show slots + 0 ≤ 7293034; omega⟩ (fun H locs hM => ?_)
  refine lv_aload_n hx hb dL_law_627 rfl (lv_at hl 2 rfl) ?_
  refine lv_aload_n hx hb dL_law_628 rfl (lv_at hl 0 rfl) ?_
  refine lv_iload hx hb dL_law_629 (lv_at hl 4 rfl) ?_
  refine lv_iconst (v := 1) hx hb dL_law_631 (by decide) ?_
  refine lv_iadd hx hb dL_law_632 ?_
  refine va_sld hx hb hX hbl hbA hM.2.2 (sc_in (k := 1) hj (by omega) hL) dL_law_633 ?_
  refine lv_aload_n hx hb dL_law_634 rfl (lv_at hl 0 rfl) ?_
  refine lv_iload hx hb dL_law_635 (lv_at hl 4 rfl) ?_
  refine lv_iconst (v := 2) hx hb dL_law_637 (by decide) ?_
  refine lv_iadd hx hb dL_law_638 ?_
  refine va_sld hx hb hX hbl hbA hM.2.2 (sc_in (k := 2) hj (by omega) hL) dL_law_639 ?_
  refine fV_i hC hM.rot hA hl.1 [.int (xs (nI (7 * j) + 1).toNatClampNeg), .int (xs (nI (7 * j) + 2).toNatClampNeg)] [.int r] (c_X11_changed l D cs am 6000 (xs (nI (7 * j) + 1).toNatClampNeg) (xs (nI (7 * j) + 2).toNatClampNeg) M r M' e2) gL_law_X11_changed rfl hdL_X11_changed ⟨by decide, by decide⟩ 0 11 clX11 rfl rfl (Nat.le_of_ble_eq_true rfl) dL_law_640 rfl ⟨by show cells + 0 + 0 ≤ 601024; omega, by show slots + 0 + 0 ≤ 7293034; omega⟩ (fun H locs hM => ?_)
  refine lv_icmp_eq (tgt := 673) hx hb dL_law_643 (by decide) (fun _ => ?_) (fun h => absurd rfl h)
  exact hK C M' a q1 q2 am o f H locs _ _ ls ⟨P, R, B, hR2⟩ hM.rot.rot (by show cells + 0 + 0 ≤ _; omega) (by show slots + 0 + 0 ≤ _; omega) hl
set_option maxRecDepth 20000 in
set_option maxHeartbeats 2000000 in
theorem lw_count (E : LE p l s m c b L xs D cs adK adV) {j : Nat} (hj : 7 * j + 7 ≤ L) (hK : LK p l e s m below meth c b D cs 673 (7 * j) (j + 1)) : LK p l e s m below meth c b D cs 648 (7 * j) j := by
  intro C M a q1 q2 am o f H locs cells slots ls hR hM h1 h2 hl
  obtain ⟨hl0, hC, hR', hZ, hT, hU, hNc, hX, hbl, hL⟩ := E
  obtain ⟨hx, hb, hml, hown, hts⟩ := hC.1
  obtain ⟨P, R, B, hR⟩ := hR
  have hA : ∀ q : Nat, s.heap.size ≤ q → (fun q : Nat => s.heap.size ≤ q) q := fun _ h => h
  have hbA : ¬ (fun q : Nat => s.heap.size ≤ q) b := Nat.not_le.mpr hbl
  have ph0 := hR.phb
  obtain ⟨r, C', M', e1, e2, hR2, hph⟩ := R_count (N := 6000) (w := (xs (nI (7 * j) + 1).toNatClampNeg)) (Nat.le_refl _) hR
  have ph1 := hR2.phb
  refine lv_aload_n hx hb dL_law_648 rfl (lv_at hl 1 rfl) ?_
  refine lv_aload_n hx hb dL_law_649 rfl (lv_at hl 0 rfl) ?_
  refine lv_iload hx hb dL_law_650 (lv_at hl 4 rfl) ?_
  refine lv_iconst (v := 1) hx hb dL_law_652 (by decide) ?_
  refine lv_iadd hx hb dL_law_653 ?_
  refine va_sld hx hb hX hbl hbA hM.2.2 (sc_in (k := 1) hj (by omega) hL) dL_law_654 ?_
  refine fV_i hC hM hA hl.1 [.int (xs (nI (7 * j) + 1).toNatClampNeg)] [] (c_X10_count l D cs a q1 q2 6000 (xs (nI (7 * j) + 1).toNatClampNeg) C r C' e1) gL_law_X10_count rfl hdL_X10_count ⟨by decide, by decide⟩ 0 10 clX10 rfl rfl (Nat.le_of_ble_eq_true rfl) dL_law_655 rfl ⟨by show cells + 0 ≤ 601024; omega, by show slots + 0 ≤ 7293034; omega⟩ (fun H locs hM => ?_)
  refine lv_aload_n hx hb dL_law_658 rfl (lv_at hl 2 rfl) ?_
  refine lv_aload_n hx hb dL_law_659 rfl (lv_at hl 0 rfl) ?_
  refine lv_iload hx hb dL_law_660 (lv_at hl 4 rfl) ?_
  refine lv_iconst (v := 1) hx hb dL_law_662 (by decide) ?_
  refine lv_iadd hx hb dL_law_663 ?_
  refine va_sld hx hb hX hbl hbA hM.2.2 (sc_in (k := 1) hj (by omega) hL) dL_law_664 ?_
  refine fV_i hC hM.rot hA hl.1 [.int (xs (nI (7 * j) + 1).toNatClampNeg)] [.int r] (c_X11_count l D cs am 6000 (xs (nI (7 * j) + 1).toNatClampNeg) M r M' e2) gL_law_X11_count rfl hdL_X11_count ⟨by decide, by decide⟩ 0 11 clX11 rfl rfl (Nat.le_of_ble_eq_true rfl) dL_law_665 rfl ⟨by show cells + 0 + 0 ≤ 601024; omega, by show slots + 0 + 0 ≤ 7293034; omega⟩ (fun H locs hM => ?_)
  refine lv_icmp_eq (tgt := 673) hx hb dL_law_668 (by decide) (fun _ => ?_) (fun h => absurd rfl h)
  exact hK C' M' a q1 q2 am o f H locs _ _ ls ⟨P, R, B, hR2⟩ hM.rot.rot (by show cells + 0 + 0 ≤ _; omega) (by show slots + 0 + 0 ≤ _; omega) hl
set_option maxHeartbeats 2000000 in
theorem lw_next (E : LE p l s m c b L xs D cs adK adV) {j : Nat} (hj : 7 * j + 7 ≤ L) (hK : LK p l e s m below meth c b D cs 673 (7 * j) (j + 1)) : LK p l e s m below meth c b D cs 600 (7 * j) j := by
  intro C M a q1 q2 am o f H locs cells slots ls hR hM h1 h2 hl
  obtain ⟨hl0, hC, hR', hZ, hT, hU, hNc, hX, hbl, hL⟩ := E
  obtain ⟨hx, hb, hml, hown, hts⟩ := hC.1
  obtain ⟨P, R, B, hR⟩ := hR
  have hA : ∀ q : Nat, s.heap.size ≤ q → (fun q : Nat => s.heap.size ≤ q) q := fun _ h => h
  have hbA : ¬ (fun q : Nat => s.heap.size ≤ q) b := Nat.not_le.mpr hbl
  have ph0 := hR.phb
  obtain ⟨C', M', e1, e2, hR2, hph⟩ := R_next (N := 6000) (Nat.le_refl _) hR
  have ph1 := hR2.phb
  refine lv_aload_n hx hb dL_law_600 rfl (lv_at hl 1 rfl) ?_
  refine fX_v hC hM hA hl.1 [] [] (c_X10_next l D cs a q1 q2 6000 C C' e1) gL_law_X10_next rfl hdL_X10_next ⟨by decide, by decide⟩ 0 10 clX10 rfl rfl (Nat.le_of_ble_eq_true rfl) dL_law_601 rfl ⟨by show cells + 0 ≤ 601024; omega, by show slots + 0 ≤ 7293034; omega⟩ (fun a' q1 q2 H locs ha hM => ?_)
  have hl : lv_has ls 7 [(0, .ref b), (1, .ref (a' 0)), (2, .ref (am 0)), (3, .ref o), (4, .int (nI (7 * j)))] := by rw [ha]; exact hl
  refine lv_aload_n hx hb dL_law_604 rfl (lv_at hl 2 rfl) ?_
  refine fV_v hC hM.rot hA hl.1 [] [] (c_X11_next l D cs am 6000 M M' e2) gL_law_X11_next rfl hdL_X11_next ⟨by decide, by decide⟩ 0 11 clX11 rfl rfl (Nat.le_of_ble_eq_true rfl) dL_law_605 rfl ⟨by show cells + 0 + 0 ≤ 601024; omega, by show slots + 0 + 0 ≤ 7293034; omega⟩ (fun H locs hM => ?_)
  refine lv_goto (tgt := 673) hx hb dL_law_608 (by decide) ?_
  exact hK C' M' a' q1 q2 am o f H locs _ _ ls ⟨P, R, B, hR2⟩ hM.rot.rot (by show cells + 0 + 0 ≤ _; omega) (by show slots + 0 + 0 ≤ _; omega) hl
end LAW
