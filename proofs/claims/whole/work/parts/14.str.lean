/-! constant Strings and statics that the methods read: an environment beside the world; String.length, String.charAt -/
abbrev zlen : List Nat := [5, 6, 4, 4, 3, 5, 2, 2, 15, 12]
abbrev zbyt : List (List Int32) := [[112, 108, 97, 99, 101], [114, 101, 103, 105, 111, 110], [98, 97, 110, 100], [119, 97, 114, 110], [98, 117, 116], [32, 98, 117, 116, 32], [58, 32], [44, 32], [110, 111, 32, 115, 117, 99, 104, 32, 102, 105, 110, 100, 105, 110, 103], [110, 111, 32, 115, 117, 99, 104, 32, 119, 104, 97, 116]]
abbrev zrs : List (String × Nat × String × Nat) := [("WeatherTeller$RulesReader", 9, "place", 0), ("WeatherTeller$RulesReader", 21, "region", 1), ("WeatherTeller$RulesReader", 26, "band", 2), ("WeatherTeller$RulesReader", 31, "warn", 3), ("WeatherTeller$RulesReader", 36, "but", 4), ("WeatherTeller$ClauseReader", 9, "but", 4), ("WeatherTeller", 270, " but ", 5), ("WeatherTeller", 275, ": ", 6), ("WeatherTeller", 295, ", ", 7), ("WeatherTeller", 147, "no such finding", 8), ("WeatherTeller", 182, "no such what", 9)]
def gR (adK : Nat → Nat) (U : State) : Prop := ∀ q ∈ zrs, vk_R q.1 q.2.1 q.2.2.1 (adK q.2.2.2) U
def gZ (adK adV : Nat → Nat) (A : Nat → Prop) (U : State) (H : Heap) : Prop := vk_S 10 zlen zbyt adK adV A U H ∧ va_Z "java/lang/String" "COMPACT_STRINGS" "Z" (.int 1) A U H ∧ va_Zq "jdk/internal/util/Preconditions" "SIOOBE_FORMATTER" "Ljava/util/function/BiFunction;" A U H
theorem gZ.moved {adK adV : Nat → Nat} {A : Nat → Prop} {u U : State} {H : Heap} (hvm : u.vm.Alike U.vm) (h : gZ adK adV A u H) : gZ adK adV A U H := ⟨vk_S.moved hvm h.1, va_Z.moved hvm h.2.1, va_Zq.moved hvm h.2.2⟩
theorem gZ.kept {adK adV : Nat → Nat} {A : Nat → Prop} {U : State} {H H1 : Heap} (h : gZ adK adV A U H) (hq : ∀ a : Nat, a < H.size → ¬ A a → H1[a]? = H[a]?) : gZ adK adV A U H1 := ⟨h.1.kept hq, h.2.1.kept hq, h.2.2.kept hq⟩
theorem gZ.narrow {adK adV : Nat → Nat} {A B : Nat → Prop} {U : State} {H : Heap} (h : gZ adK adV A U H) (hAB : ∀ q, B q → A q) : gZ adK adV B U H := ⟨h.1.narrow hAB, h.2.1.narrow hAB, h.2.2.narrow hAB⟩
def gPz (D : va_G) (cs : Nat → ClassId) (adK adV : Nat → Nat) (sz : Nat) (w : va_W) (U : State) : Prop := gP D cs sz w U ∧ gR adK U ∧ gZ adK adV (va_A w sz) U U.heap
def gSi (l : Launch) (y : MethodName) (wy : List Cond) (rm : Room) (D : va_G) (cs : Nat → ClassId) (adK adV : Nat → Nat) (As : List Value) (w : va_W) (r : Int32) : Prop :=
  ∀ sz : Nat, Met l y wy rm (va_Pc As (gPz D cs adK adV sz w)) (va_Qi (fun r' (_ : Unit) => r' = r) (fun _ => gB D (va_A w sz) w) (va_A w sz)) rm.cells rm.slots (va_A w sz)
def gSv (l : Launch) (y : MethodName) (wy : List Cond) (rm : Room) (D : va_G) (cs : Nat → ClassId) (adK adV : Nat → Nat) (As : List Value) (w : va_W) : Prop :=
  ∀ sz : Nat, Met l y wy rm (va_Pc As (gPz D cs adK adV sz w)) (va_Qv (fun (_ : Unit) => True) (fun _ => gB D (va_A w sz) w) (va_A w sz)) rm.cells rm.slots (va_A w sz)
section GZ
variable {l : Launch} {y : MethodName} {ws ws' : List Cond} {rm : Room} {cc : ByteArray} {maxL : Nat} {D : va_G} {cs : Nat → ClassId} {adK adV : Nat → Nat} {As : List Value} {w : va_W}
theorem gSE_i {r : Int32} {ty : FieldType} (hn : narrow ty (.int r) = .int r) (hy : plainName y.cls = true) (hw : ws = Cond.code y cc maxL (some ty) :: ws') (hA : (lg_sl As).length ≤ maxL)
    (body : ∀ (p : Program) (e : Env) (s : State) (m : MethodId) (args : Array Value) (below : List Frame) (meth : Method) (c : Code) (A : Nat → Prop) (Q : State → Prop),
      gC p s m args c cc maxL ws y.cls D cs → (∀ q, s.heap.size ≤ q → A q) → gR adK s → gZ adK adV A s s.heap →
      (∀ (H : Heap) (locs : List Loc) (cells slots pc : Nat) (ls : Array Slot), decode cc pc = .ok (.ireturn, 1) → gw D A s.heap H locs w → cells ≤ rm.cells → slots ≤ rm.slots → W p l e rm s m args below meth c H locs cells slots Q (F0 m pc ls [.int r])) →
      gw D A s.heap s.heap [] w → ∀ ls : Array Slot, lv_has ls maxL (lv_args 0 As) → W p l e rm s m args below meth c s.heap [] 0 0 Q (F0 m 0 ls [])) : gSi l y ws rm D cs adK adV As w r := by
  intro sz
  refine Met.ofW (cc := cc) (maxL := maxL) (ret := some ty) hy hw ?_
  intro p e s m args below meth c s₁ B hml hv
  obtain ⟨rfl, ⟨hsz, hP, hK, hD0⟩, hR, hZ⟩ := hv
  subst hsz
  rw [lg_entry_eq]
  refine body p e s m _ below meth c (va_A w s.heap.size) _ ⟨⟨B.exec, B.bytes, hml, findClass_of_methodNamed B.named, atoms_spec B.pre⟩, hK⟩ (fun q h => Or.inr h) hR hZ ?_ ⟨hP, hD0.self, va_S.rf⟩ _ (lv_entry As hA)
  intro H locs cells slots pc ls hd hM h1 h2
  refine W.widen h1 h2 ?_
  exact W.zret B.exec B.bytes B.returns hn (fun t ht hW => ⟨⟨r, (), rfl, rfl, by rw [ht]; exact hM.1, hM.2.1⟩, hM.2.2.F ht⟩) hM.2.2.2.2 hd (hlocks := B.notSynchronized)
theorem gSE_v (hy : plainName y.cls = true) (hw : ws = Cond.code y cc maxL none :: ws') (hA : (lg_sl As).length ≤ maxL)
    (body : ∀ (p : Program) (e : Env) (s : State) (m : MethodId) (args : Array Value) (below : List Frame) (meth : Method) (c : Code) (A : Nat → Prop) (Q : State → Prop),
      gC p s m args c cc maxL ws y.cls D cs → (∀ q, s.heap.size ≤ q → A q) → gR adK s → gZ adK adV A s s.heap →
      (∀ (H : Heap) (locs : List Loc) (cells slots pc : Nat) (ls : Array Slot), decode cc pc = .ok (.return_, 1) → gw D A s.heap H locs w → cells ≤ rm.cells → slots ≤ rm.slots → W p l e rm s m args below meth c H locs cells slots Q (F0 m pc ls [])) →
      gw D A s.heap s.heap [] w → ∀ ls : Array Slot, lv_has ls maxL (lv_args 0 As) → W p l e rm s m args below meth c s.heap [] 0 0 Q (F0 m 0 ls [])) : gSv l y ws rm D cs adK adV As w := by
  intro sz
  refine Met.ofW (cc := cc) (maxL := maxL) (ret := none) hy hw ?_
  intro p e s m args below meth c s₁ B hml hv
  obtain ⟨rfl, ⟨hsz, hP, hK, hD0⟩, hR, hZ⟩ := hv
  subst hsz
  rw [lg_entry_eq]
  refine body p e s m _ below meth c (va_A w s.heap.size) _ ⟨⟨B.exec, B.bytes, hml, findClass_of_methodNamed B.named, atoms_spec B.pre⟩, hK⟩ (fun q h => Or.inr h) hR hZ ?_ ⟨hP, hD0.self, va_S.rf⟩ _ (lv_entry As hA)
  intro H locs cells slots pc ls hd hM h1 h2
  refine W.widen h1 h2 ?_
  exact W.vret B.exec B.bytes B.returns (fun t ht hW => ⟨⟨(), rfl, trivial, by rw [ht]; exact hM.1, hM.2.1⟩, hM.2.2.F ht⟩) hM.2.2.2.2 hd (hlocks := B.notSynchronized)
theorem gPz.blind {sz : Nat} : FrameBlind (va_Pc As (gPz D cs adK adV sz w)) := fun a U g mk q => by
  obtain ⟨q0, ⟨q1, qP, qK, qD⟩, qR, qZ⟩ := q
  exact ⟨q0, ⟨q1, qP, qK.call g mk a, qD⟩, fun z hz => (qR z hz).same rfl, gZ.moved (u := U) (U := U.calling g mk a) (Vm.Alike.refl U.vm) qZ⟩
end GZ
section GZR
variable {p : Program} {l : Launch} {e : Env} {R : Room} {s : State} {m : MethodId} {args : Array Value} {below : List Frame} {meth : Method} {c : Code} {H : Heap} {locs : List Loc} {cells slots : Nat} {Q : State → Prop}
variable {cc : ByteArray} {pc nL : Nat} {ls : Array Slot} {rest : List Value} {D : va_G} {cs : Nat → ClassId} {A : Nat → Prop} {w w' : va_W} {Ts : List Cond} {own : String} {a : Nat} {adK adV : Nat → Nat}
theorem gPz.pre (hK : gK D cs s) (hM : gw D A s.heap H locs w) (hA : ∀ q, s.heap.size ≤ q → A q) (hR : gR adK s) (hZ : gZ adK adV A s s.heap) (As : List Value) : ∀ U : State, U.heap = H → s.WarmedH U.vm → va_Pc As (gPz D cs adK adV H.size w) As.toArray U := fun U hU hW =>
  ⟨rfl, ⟨by rw [hU], by rw [hU]; exact hM.1, hK.warm hW, hM.2.1.weaken (fun _ _ _ _ => trivial)⟩, fun z hz => (hR z hz).warm hW, by rw [hU]; exact ((gZ.moved hW.alike hZ).kept hM.2.2.2.1).narrow (hM.free hA)⟩
variable {index n maxL : Nat} {y : MethodName} {bytes : ByteArray} {ret : Option FieldType} {wy wy' : List Cond} {rm : Room} {b : Addr} {As : List Value} {st0 : List Value}
theorem gSV_i {C : String} {r : Int32} (hC : gC p s m args c cc nL Ts own D cs) (hM : gw D A s.heap H locs w) (hA : ∀ q, s.heap.size ≤ q → A q) (hR' : gR adK s) (hZ : gZ adK adV A s s.heap) (hl : ls.size = nL)
    (As : List Value) (rest : List Value) (hMet : gSi l y wy rm D cs adK adV (.ref b :: As) w r) (hG : GoodIn Ts (wsV own index C y wy)) (hw : wy = Cond.code y bytes maxL ret :: wy') (hd : y.cls = C ∧ y.cls ≠ "java/lang/invoke/MethodHandle" ∧ y.cls ≠ "java/lang/invoke/VarHandle" ∧ (parseMethodDescriptor y.desc).map (fun d => d.parameters.length) = some As.length) (hR : rm.frames + 1 ≤ R.frames ∧ 8 + (maxL + 11) + rm.locals ≤ R.locals)
    (hrc : ∃ cell : Cell, H[b]? = some cell ∧ cell.vm.isStatics = false ∧ s.vm.findClass C = some cell.cls) (hst : (rest.map fun v => v.category).sum ≤ 8) (hdg : decode cc pc = .ok (.invokevirtual index, 3)) (hst0 : st0 = As.reverse ++ .ref b :: rest) (hf : cells + rm.cells ≤ R.cells ∧ slots + rm.slots ≤ R.slots)
    (kk : ∀ (H1 : Heap) (locs1 : List Loc), gw D A s.heap H1 locs1 w → W p l e R s m args below meth c H1 locs1 (cells + rm.cells) (slots + rm.slots) Q (F0 m (pc + 3) ls (.int r :: rest))) : W p l e R s m args below meth c H locs cells slots Q (F0 m pc ls st0) := by
  subst hst0
  refine va_calli (va_runV hC.1 (hMet H.size) (cwV As.length hC.1.2.2.2.2 hG hw rfl rfl hd hR) ⟨gPz.blind, hrc, gPz.pre hC.2 hM hA hR' hZ _⟩ rfl rfl hl rfl (lv_room hst) hdg hf) hM.2.2 (fun q _ h => hM.free hA q h) (hM.free hA) ?_
  intro r' u t H1 locs1 ht hvm hw1 hB hz1 hk1 hS
  obtain rfl : r' = r := hw1
  exact kk H1 locs1 ⟨by rw [← ht]; exact hB.1, hB.2.weaken (fun k q h h2 => hM.free hA _ h2), hS⟩
theorem gSS_i {r : Int32} (hC : gC p s m args c cc nL Ts own D cs) (hM : gw D A s.heap H locs w) (hA : ∀ q, s.heap.size ≤ q → A q) (hR' : gR adK s) (hZ : gZ adK adV A s s.heap) (hl : ls.size = nL)
    (As : List Value) (rest : List Value) (hMet : gSi l y wy rm D cs adK adV As w r) (hG : GoodIn Ts (va_wsS own index y wy)) (hw : wy = Cond.code y bytes maxL ret :: wy') (hd : y.cls ≠ "java/lang/invoke/MethodHandle" ∧ y.cls ≠ "java/lang/invoke/VarHandle" ∧ (parseMethodDescriptor y.desc).map (fun d => d.parameters.length) = some As.length) (hR : rm.frames + 1 ≤ R.frames ∧ 8 + (maxL + 11) + rm.locals ≤ R.locals)
    (hst : (rest.map fun v => v.category).sum ≤ 8) (hdg : decode cc pc = .ok (.invokestatic index, 3)) (hst0 : st0 = As.reverse ++ rest) (hf : cells + rm.cells ≤ R.cells ∧ slots + rm.slots ≤ R.slots)
    (kk : ∀ (H1 : Heap) (locs1 : List Loc), gw D A s.heap H1 locs1 w → W p l e R s m args below meth c H1 locs1 (cells + rm.cells) (slots + rm.slots) Q (F0 m (pc + 3) ls (.int r :: rest))) : W p l e R s m args below meth c H locs cells slots Q (F0 m pc ls st0) := by
  subst hst0
  refine va_calli (va_runS hC.1 (hMet H.size) (va_cwS As.length hC.1.2.2.2.2 hG hw rfl rfl hd hR) ⟨gPz.blind, gPz.pre hC.2 hM hA hR' hZ _⟩ rfl rfl hl rfl (lv_room hst) hdg hf) hM.2.2 (fun q _ h => hM.free hA q h) (hM.free hA) ?_
  intro r' u t H1 locs1 ht hvm hw1 hB hz1 hk1 hS
  obtain rfl : r' = r := hw1
  exact kk H1 locs1 ⟨by rw [← ht]; exact hB.1, hB.2.weaken (fun k q h h2 => hM.free hA _ h2), hS⟩
theorem gSS_v (hC : gC p s m args c cc nL Ts own D cs) (hM : gw D A s.heap H locs w) (hA : ∀ q, s.heap.size ≤ q → A q) (hR' : gR adK s) (hZ : gZ adK adV A s s.heap) (hl : ls.size = nL)
    (As : List Value) (rest : List Value) (hMet : gSv l y wy rm D cs adK adV As w) (hG : GoodIn Ts (va_wsS own index y wy)) (hw : wy = Cond.code y bytes maxL ret :: wy') (hd : y.cls ≠ "java/lang/invoke/MethodHandle" ∧ y.cls ≠ "java/lang/invoke/VarHandle" ∧ (parseMethodDescriptor y.desc).map (fun d => d.parameters.length) = some As.length) (hR : rm.frames + 1 ≤ R.frames ∧ 8 + (maxL + 11) + rm.locals ≤ R.locals)
    (hst : (rest.map fun v => v.category).sum ≤ 8) (hdg : decode cc pc = .ok (.invokestatic index, 3)) (hst0 : st0 = As.reverse ++ rest) (hf : cells + rm.cells ≤ R.cells ∧ slots + rm.slots ≤ R.slots)
    (kk : ∀ (H1 : Heap) (locs1 : List Loc), gw D A s.heap H1 locs1 w → W p l e R s m args below meth c H1 locs1 (cells + rm.cells) (slots + rm.slots) Q (F0 m (pc + 3) ls rest)) : W p l e R s m args below meth c H locs cells slots Q (F0 m pc ls st0) := by
  subst hst0
  refine va_callv (va_runS hC.1 (hMet H.size) (va_cwS As.length hC.1.2.2.2.2 hG hw rfl rfl hd hR) ⟨gPz.blind, gPz.pre hC.2 hM hA hR' hZ _⟩ rfl rfl hl rfl (lv_room hst) hdg hf) hM.2.2 (fun q _ h => hM.free hA q h) (hM.free hA) ?_
  intro u t H1 locs1 ht hvm hw1 hB hz1 hk1 hS
  exact kk H1 locs1 ⟨by rw [← ht]; exact hB.1, hB.2.weaken (fun k q h h2 => hM.free hA _ h2), hS⟩
end GZR
section STR
variable (l : Launch) (D : va_G) (cs : Nat → ClassId) (adK adV : Nat → Nat) (w : va_W)
theorem mw_i {i : Nat} {Ts : List Cond} {x : Cond} (h : Ts[i]? = some x) : x ∈ Ts := List.mem_of_getElem? h
abbrev rmJ0_coder : Room := { frames := 0, cells := 0, slots := 0, locals := 0 }
set_option maxRecDepth 100000 in
theorem c_coder {i : Nat} (hi : i < 10) : gSi l yJ0_coder_7d493 wsJ0_coder_7d493 rmJ0_coder D cs adK adV [.ref (adK i)] w 0 := by
  refine gSE_i (cc := cJ0_coder_7d493) (maxL := 1) (ty := .byte) (by decide) (by decide) rfl (Nat.le_of_ble_eq_true rfl) ?_
  intro p e s m args below meth c A Q hC hA hR hZ hQ hM ls hl
  obtain ⟨hx, hb, hml, hown, hts⟩ := hC.1
  have hl : lv_has ls 1 [(0, .ref (adK i))] := hl
  refine va_gets hx hb hZ.2.1 hM.2.2 hown (hts _ (mw_i (i := 1) rfl)) (fun _ h => h) dJ0_coder_7d493_0 ?_
  refine lv_if_eq (tgt := 13) hx hb dJ0_coder_7d493_3 (by decide) (fun c1 => absurd c1 (by decide)) (fun c1 => ?_)
  refine lv_aload_n hx hb dJ0_coder_7d493_6 rfl (lv_at hl 0 rfl) ?_
  refine vk_getf hx hb (hZ.1.1 i hi).2.1 hM.2.2 hown (hts _ (mw_i (i := 2) rfl)) (fun _ h => h) dJ0_coder_7d493_7 ?_
  refine lv_goto (tgt := 14) hx hb dJ0_coder_7d493_10 (by decide) ?_
  exact hQ _ _ _ _ _ _ dJ0_coder_7d493_14 hM (by decide) (by decide)
abbrev rmJ0_isLatin1 : Room := { frames := 0, cells := 0, slots := 0, locals := 0 }
set_option maxRecDepth 100000 in
theorem c_isLatin1 {i : Nat} (hi : i < 10) : gSi l yJ0_isLatin1_aae02 wsJ0_isLatin1_aae02 rmJ0_isLatin1 D cs adK adV [.ref (adK i)] w 1 := by
  refine gSE_i (cc := cJ0_isLatin1_aae02) (maxL := 1) (ty := .boolean) (by decide) (by decide) rfl (Nat.le_of_ble_eq_true rfl) ?_
  intro p e s m args below meth c A Q hC hA hR hZ hQ hM ls hl
  obtain ⟨hx, hb, hml, hown, hts⟩ := hC.1
  have hl : lv_has ls 1 [(0, .ref (adK i))] := hl
  refine va_gets hx hb hZ.2.1 hM.2.2 hown (hts _ (mw_i (i := 1) rfl)) (fun _ h => h) dJ0_isLatin1_aae02_0 ?_
  refine lv_if_eq (tgt := 17) hx hb dJ0_isLatin1_aae02_3 (by decide) (fun c1 => absurd c1 (by decide)) (fun c1 => ?_)
  refine lv_aload_n hx hb dJ0_isLatin1_aae02_6 rfl (lv_at hl 0 rfl) ?_
  refine vk_getf hx hb (hZ.1.1 i hi).2.1 hM.2.2 hown (hts _ (mw_i (i := 2) rfl)) (fun _ h => h) dJ0_isLatin1_aae02_7 ?_
  refine lv_if_ne (tgt := 17) hx hb dJ0_isLatin1_aae02_10 (by decide) (fun c1 => absurd rfl c1) (fun c1 => ?_)
  refine lv_iconst (v := 1) hx hb dJ0_isLatin1_aae02_13 (by decide) ?_
  refine lv_goto (tgt := 18) hx hb dJ0_isLatin1_aae02_14 (by decide) ?_
  exact hQ _ _ _ _ _ _ dJ0_isLatin1_aae02_18 hM (by decide) (by decide)
abbrev rmJ0_length : Room := { frames := 1, cells := 0, slots := 0, locals := 20 }
theorem hd_J0_coder : yJ0_coder_7d493.cls = RJ0 ∧ yJ0_coder_7d493.cls ≠ "java/lang/invoke/MethodHandle" ∧ yJ0_coder_7d493.cls ≠ "java/lang/invoke/VarHandle" ∧ (parseMethodDescriptor yJ0_coder_7d493.desc).map (fun d => d.parameters.length) = some 0 := by decide +kernel
set_option maxRecDepth 100000 in
theorem c_length {i : Nat} (hi : i < 10) : gSi l yJ0_length_8abf5 wsJ0_length_8abf5 rmJ0_length D cs adK adV [.ref (adK i)] w (Int32.ofNat (zlen.getD i 0)) := by
  refine gSE_i (cc := cJ0_length_8abf5) (maxL := 1) (ty := .int) rfl (by decide) rfl (Nat.le_of_ble_eq_true rfl) ?_
  intro p e s m args below meth c A Q hC hA hR hZ hQ hM ls hl
  obtain ⟨hx, hb, hml, hown, hts⟩ := hC.1
  have hl : lv_has ls 1 [(0, .ref (adK i))] := hl
  refine lv_aload_n hx hb dJ0_length_8abf5_0 rfl (lv_at hl 0 rfl) ?_
  refine vk_getf hx hb (hZ.1.1 i hi).2.2.1 hM.2.2 hown (hts _ (mw_i (i := 1) rfl)) (fun _ h => h) dJ0_length_8abf5_1 ?_
  refine va_tlen hx hb (hZ.1.1 i hi).2.2.2 hM.2.2 rfl dJ0_length_8abf5_4 ?_
  refine lv_aload_n hx hb dJ0_length_8abf5_5 rfl (lv_at hl 0 rfl) ?_
  refine gSV_i hC hM hA hR hZ hl.1 [] [.int (Int32.ofNat (zlen.getD i 0))] (c_coder l D cs adK adV w hi) gJ0_length_8abf5_J0_coder_7d493 rfl hd_J0_coder ⟨by decide, by decide⟩ (vk_recv hZ.1 hi hM.2.2) (Nat.le_of_ble_eq_true rfl) dJ0_length_8abf5_6 rfl ⟨by decide, by decide⟩ (fun H locs hM => ?_)
  refine lv_ishr hx hb dJ0_length_8abf5_9 ?_
  rw [sb_shr0]
  exact hQ _ _ _ _ _ _ dJ0_length_8abf5_10 hM (by decide) (by decide)
abbrev rmJ3_checkIndex : Room := { frames := 0, cells := 0, slots := 0, locals := 0 }
set_option maxRecDepth 100000 in
theorem c_checkIndex3 (x n : Int32) (v : Value) (hv : v = .null ∨ ∃ q, v = .ref q) (h1 : ¬ x < 0) (h2 : x < n) : gSi l yJ3_checkIndex_8e157 wsJ3_checkIndex_8e157 rmJ3_checkIndex D cs adK adV [.int x, .int n, v] w x := by
  refine gSE_i (cc := cJ3_checkIndex_8e157) (maxL := 3) (ty := .int) rfl (by decide) rfl (by rcases hv with rfl | ⟨q, rfl⟩ <;> exact Nat.le_of_ble_eq_true rfl) ?_
  intro p e s m args below meth c A Q hC hA hR hZ hQ hM ls hl
  obtain ⟨hx, hb, hml, hown, hts⟩ := hC.1
  have hl : lv_has ls 3 [(0, .int x), (1, .int n), (2, v)] := hl
  refine lv_iload_n hx hb dJ3_checkIndex_8e157_0 rfl (lv_at hl 0 rfl) ?_
  refine lv_if_lt (tgt := 9) hx hb dJ3_checkIndex_8e157_1 (by decide) (fun c1 => absurd c1 h1) (fun c1 => ?_)
  refine lv_iload_n hx hb dJ3_checkIndex_8e157_4 rfl (lv_at hl 0 rfl) ?_
  refine lv_iload_n hx hb dJ3_checkIndex_8e157_5 rfl (lv_at hl 1 rfl) ?_
  refine lv_icmp_lt (tgt := 16) hx hb dJ3_checkIndex_8e157_6 (by decide) (fun c2 => ?_) (fun c2 => absurd h2 c2)
  refine lv_iload_n hx hb dJ3_checkIndex_8e157_16 rfl (lv_at hl 0 rfl) ?_
  exact hQ _ _ _ _ _ _ dJ3_checkIndex_8e157_17 hM (by decide) (by decide)
abbrev rmJ0_checkIndex : Room := { frames := 1, cells := 0, slots := 0, locals := 22 }
theorem hd_J3_checkIndex : yJ3_checkIndex_8e157.cls ≠ "java/lang/invoke/MethodHandle" ∧ yJ3_checkIndex_8e157.cls ≠ "java/lang/invoke/VarHandle" ∧ (parseMethodDescriptor yJ3_checkIndex_8e157.desc).map (fun d => d.parameters.length) = some 3 := by decide +kernel
set_option maxRecDepth 100000 in
theorem c_checkIndex0 (x n : Int32) (h1 : ¬ x < 0) (h2 : x < n) : gSv l yJ0_checkIndex_df160 wsJ0_checkIndex_df160 rmJ0_checkIndex D cs adK adV [.int x, .int n] w := by
  refine gSE_v (cc := cJ0_checkIndex_df160) (maxL := 2) (by decide) rfl (Nat.le_of_ble_eq_true rfl) ?_
  intro p e s m args below meth c A Q hC hA hR hZ hQ hM ls hl
  obtain ⟨hx, hb, hml, hown, hts⟩ := hC.1
  have hl : lv_has ls 2 [(0, .int x), (1, .int n)] := hl
  refine lv_iload_n hx hb dJ0_checkIndex_df160_0 rfl (lv_at hl 0 rfl) ?_
  refine lv_iload_n hx hb dJ0_checkIndex_df160_1 rfl (lv_at hl 1 rfl) ?_
  have key : ∃ v : Value, (v = .null ∨ ∃ q, v = .ref q) ∧ va_Z "jdk/internal/util/Preconditions" "SIOOBE_FORMATTER" "Ljava/util/function/BiFunction;" v A s s.heap := by
    rcases hZ.2.2 with h | ⟨t, h⟩
    · exact ⟨_, Or.inl rfl, h⟩
    · exact ⟨_, Or.inr ⟨t, rfl⟩, h⟩
  obtain ⟨v, hv, hZv⟩ := key
  refine va_gets hx hb hZv hM.2.2 hown (hts _ (mw_i (i := 1) rfl)) (fun _ h => h) dJ0_checkIndex_df160_2 ?_
  refine gSS_i hC hM hA hR hZ hl.1 [.int x, .int n, v] [] (c_checkIndex3 l D cs adK adV w x n v hv h1 h2) gJ0_checkIndex_df160_J3_checkIndex_8e157 rfl hd_J3_checkIndex ⟨by decide, by decide⟩ (Nat.le_of_ble_eq_true rfl) dJ0_checkIndex_df160_5 rfl ⟨by decide, by decide⟩ (fun H locs hM => ?_)
  refine lv_pop hx hb dJ0_checkIndex_df160_8 rfl ?_
  exact hQ _ _ _ _ _ _ dJ0_checkIndex_df160_9 hM (by decide) (by decide)
def zch (i j : Nat) : Int32 := ((((zbyt.getD i []).getD j 0) &&& 255).toUInt32 % 65536).toInt32
abbrev rmJ1_charAt : Room := { frames := 2, cells := 0, slots := 0, locals := 43 }
theorem hd_J0_checkIndex : yJ0_checkIndex_df160.cls ≠ "java/lang/invoke/MethodHandle" ∧ yJ0_checkIndex_df160.cls ≠ "java/lang/invoke/VarHandle" ∧ (parseMethodDescriptor yJ0_checkIndex_df160.desc).map (fun d => d.parameters.length) = some 2 := by decide +kernel
set_option maxRecDepth 100000 in
theorem c_charAt1 {i : Nat} (hi : i < 10) (x : Int32) (h1 : ¬ x < 0) (h2 : x < Int32.ofNat (zlen.getD i 0)) (h3 : vp_in x (zlen.getD i 0)) : gSi l yJ1_charAt_3b067 wsJ1_charAt_3b067 rmJ1_charAt D cs adK adV [.ref (adV i), .int x] w (zch i x.toNatClampNeg) := by
  refine gSE_i (cc := cJ1_charAt_3b067) (maxL := 2) (ty := .char) (pk_nc _) (by decide) rfl (Nat.le_of_ble_eq_true rfl) ?_
  intro p e s m args below meth c A Q hC hA hR hZ hQ hM ls hl
  obtain ⟨hx, hb, hml, hown, hts⟩ := hC.1
  have hl : lv_has ls 2 [(0, .ref (adV i)), (1, .int x)] := hl
  refine lv_iload_n hx hb dJ1_charAt_3b067_0 rfl (lv_at hl 1 rfl) ?_
  refine lv_aload_n hx hb dJ1_charAt_3b067_1 rfl (lv_at hl 0 rfl) ?_
  refine va_tlen hx hb (hZ.1.1 i hi).2.2.2 hM.2.2 rfl dJ1_charAt_3b067_2 ?_
  refine gSS_v hC hM hA hR hZ hl.1 [.int x, .int (Int32.ofNat (zlen.getD i 0))] [] (c_checkIndex0 l D cs adK adV w x _ h1 h2) gJ1_charAt_3b067_J0_checkIndex_df160 rfl hd_J0_checkIndex ⟨by decide, by decide⟩ (Nat.le_of_ble_eq_true rfl) dJ1_charAt_3b067_3 rfl ⟨by decide, by decide⟩ (fun H locs hM => ?_)
  refine lv_aload_n hx hb dJ1_charAt_3b067_6 rfl (lv_at hl 0 rfl) ?_
  refine lv_iload_n hx hb dJ1_charAt_3b067_7 rfl (lv_at hl 1 rfl) ?_
  refine va_tb hx hb (hZ.1.1 i hi).2.2.2 hM.2.2 h3 rfl dJ1_charAt_3b067_8 ?_
  refine lv_sipush (v := 255) hx hb dJ1_charAt_3b067_9 (by decide) ?_
  refine lv_iand hx hb dJ1_charAt_3b067_12 ?_
  refine lv_i2c hx hb dJ1_charAt_3b067_13 rfl ?_
  exact hQ _ _ _ _ _ _ dJ1_charAt_3b067_14 hM (by decide) (by decide)
abbrev rmJ0_charAt : Room := { frames := 3, cells := 0, slots := 0, locals := 64 }
theorem hd_J0_isLatin1 : yJ0_isLatin1_aae02.cls = RJ0 ∧ yJ0_isLatin1_aae02.cls ≠ "java/lang/invoke/MethodHandle" ∧ yJ0_isLatin1_aae02.cls ≠ "java/lang/invoke/VarHandle" ∧ (parseMethodDescriptor yJ0_isLatin1_aae02.desc).map (fun d => d.parameters.length) = some 0 := by decide +kernel
theorem hd_J1_charAt : yJ1_charAt_3b067.cls ≠ "java/lang/invoke/MethodHandle" ∧ yJ1_charAt_3b067.cls ≠ "java/lang/invoke/VarHandle" ∧ (parseMethodDescriptor yJ1_charAt_3b067.desc).map (fun d => d.parameters.length) = some 2 := by decide +kernel
set_option maxRecDepth 100000 in
theorem c_charAt {i : Nat} (hi : i < 10) (x : Int32) (h1 : ¬ x < 0) (h2 : x < Int32.ofNat (zlen.getD i 0)) (h3 : vp_in x (zlen.getD i 0)) : gSi l yJ0_charAt_5068e wsJ0_charAt_5068e rmJ0_charAt D cs adK adV [.ref (adK i), .int x] w (zch i x.toNatClampNeg) := by
  refine gSE_i (cc := cJ0_charAt_5068e) (maxL := 2) (ty := .char) (pk_nc _) (by decide) rfl (Nat.le_of_ble_eq_true rfl) ?_
  intro p e s m args below meth c A Q hC hA hR hZ hQ hM ls hl
  obtain ⟨hx, hb, hml, hown, hts⟩ := hC.1
  have hl : lv_has ls 2 [(0, .ref (adK i)), (1, .int x)] := hl
  refine lv_aload_n hx hb dJ0_charAt_5068e_0 rfl (lv_at hl 0 rfl) ?_
  refine gSV_i hC hM hA hR hZ hl.1 [] [] (c_isLatin1 l D cs adK adV w hi) gJ0_charAt_5068e_J0_isLatin1_aae02 rfl hd_J0_isLatin1 ⟨by decide, by decide⟩ (vk_recv hZ.1 hi hM.2.2) (Nat.le_of_ble_eq_true rfl) dJ0_charAt_5068e_1 rfl ⟨by decide, by decide⟩ (fun H locs hM => ?_)
  refine lv_if_eq (tgt := 16) hx hb dJ0_charAt_5068e_4 (by decide) (fun c1 => absurd c1 (by decide)) (fun c1 => ?_)
  refine lv_aload_n hx hb dJ0_charAt_5068e_7 rfl (lv_at hl 0 rfl) ?_
  refine vk_getf hx hb (hZ.1.1 i hi).2.2.1 hM.2.2 hown (hts _ (mw_i (i := 1) rfl)) (fun _ h => h) dJ0_charAt_5068e_8 ?_
  refine lv_iload_n hx hb dJ0_charAt_5068e_11 rfl (lv_at hl 1 rfl) ?_
  refine gSS_i hC hM hA hR hZ hl.1 [.ref (adV i), .int x] [] (c_charAt1 l D cs adK adV w hi x h1 h2 h3) gJ0_charAt_5068e_J1_charAt_3b067 rfl hd_J1_charAt ⟨by decide, by decide⟩ (Nat.le_of_ble_eq_true rfl) dJ0_charAt_5068e_12 rfl ⟨by decide, by decide⟩ (fun H locs hM => ?_)
  exact hQ _ _ _ _ _ _ dJ0_charAt_5068e_15 hM (by decide) (by decide)
end STR
