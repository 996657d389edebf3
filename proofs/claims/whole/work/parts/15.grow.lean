/-! methods that may make the row of a Signs longer: exact costs by the rows' lengths; Arrays.copyOf; Signs.add -/
def ph (S : St) : Nat := (S.1 24 2).toNatClampNeg + (S.1 26 2).toNatClampNeg
def rmG (fr lo : Nat) (S Sz : St) : Room := { frames := fr, cells := ph Sz - ph S, slots := 2 * (ph Sz - ph S), locals := lo }
def gGv (l : Launch) (y : MethodName) (wy : List Cond) (fr lo : Nat) (D : va_G) (cs : Nat → ClassId) (adK adV : Nat → Nat) (As : List Value) (a : Nat → Nat) (q1 q2 : Nat) (S Sz : St) : Prop :=
  ∀ sz : Nat, Met l y wy (rmG fr lo S Sz) (va_Pc As (gPz D cs adK adV sz (ccells cs a q1 q2 S))) (va_Qv (fun (_ : Nat × Nat) => True) (fun u => gB D (va_A (ccells cs a q1 q2 S) sz) (ccells cs a u.1 u.2 Sz)) (va_A (ccells cs a q1 q2 S) sz)) (ph Sz - ph S) (2 * (ph Sz - ph S)) (va_A (ccells cs a q1 q2 S) sz)
def gGi (l : Launch) (y : MethodName) (wy : List Cond) (fr lo : Nat) (D : va_G) (cs : Nat → ClassId) (adK adV : Nat → Nat) (As : List Value) (a : Nat → Nat) (q1 q2 : Nat) (S : St) (r : Int32) (Sz : St) : Prop :=
  ∀ sz : Nat, Met l y wy (rmG fr lo S Sz) (va_Pc As (gPz D cs adK adV sz (ccells cs a q1 q2 S))) (va_Qi (fun r' (_ : Nat × Nat) => r' = r) (fun u => gB D (va_A (ccells cs a q1 q2 S) sz) (ccells cs a u.1 u.2 Sz)) (va_A (ccells cs a q1 q2 S) sz)) (ph Sz - ph S) (2 * (ph Sz - ph S)) (va_A (ccells cs a q1 q2 S) sz)
theorem nm_z {α β : Type} {x : α} {k : α → β} {r : β} (h : nm x k = r) : ∃ y, y = x ∧ k y = r := ⟨x, rfl, h⟩
theorem it_s {c : Prop} [Decidable c] {α : Type} {x y r : α} (hf : (if c then x else y) = r) : (c ∧ x = r) ∨ (¬ c ∧ y = r) := by
  by_cases h : c
  · exact Or.inl ⟨h, it_t h hf⟩
  · exact Or.inr ⟨h, it_f h hf⟩
theorem cnmE {β : Type} {D : va_G} {cs : Nat → ClassId} {a : Nat → Nat} {q1 q2 : Nat} {A : Nat → Prop} {H0 H : Heap} {locs : List Loc} {x : St} {k : St → Option β} {r : Option β} (hf : nm x k = r) (hM : gw D A H0 H locs (ccells cs a q1 q2 x)) : ∃ y, y = x ∧ k y = r ∧ gw D A H0 H locs (ccells cs a q1 q2 y) := ⟨x, rfl, hf, hM⟩
section GG
variable {l : Launch} {y : MethodName} {ws ws' : List Cond} {fr lo : Nat} {cc : ByteArray} {maxL : Nat} {D : va_G} {cs : Nat → ClassId} {adK adV : Nat → Nat} {As : List Value} {a : Nat → Nat} {q1 q2 : Nat} {S Sz : St}
theorem gGE_v (hy : plainName y.cls = true) (hw : ws = Cond.code y cc maxL none :: ws') (hA : (lg_sl As).length ≤ maxL)
    (body : ∀ (p : Program) (e : Env) (s : State) (m : MethodId) (args : Array Value) (below : List Frame) (meth : Method) (c : Code) (A : Nat → Prop) (Q : State → Prop),
      gC p s m args c cc maxL ws y.cls D cs → (∀ q, s.heap.size ≤ q → A q) → gR adK s → gZ adK adV A s s.heap →
      (∀ (q1 q2 : Nat) (H : Heap) (locs : List Loc) (cells slots pc : Nat) (ls : Array Slot), decode cc pc = .ok (.return_, 1) → gw D A s.heap H locs (ccells cs a q1 q2 Sz) → cells ≤ ph Sz - ph S → slots ≤ 2 * (ph Sz - ph S) → W p l e (rmG fr lo S Sz) s m args below meth c H locs cells slots Q (F0 m pc ls [])) →
      gw D A s.heap s.heap [] (ccells cs a q1 q2 S) → ∀ ls : Array Slot, lv_has ls maxL (lv_args 0 As) → W p l e (rmG fr lo S Sz) s m args below meth c s.heap [] 0 0 Q (F0 m 0 ls [])) : gGv l y ws fr lo D cs adK adV As a q1 q2 S Sz := by
  intro sz
  refine Met.ofW (cc := cc) (maxL := maxL) (ret := none) hy hw ?_
  intro p e s m args below meth c s₁ B hml hv
  obtain ⟨rfl, ⟨hsz, hP, hK, hD0⟩, hR, hZ⟩ := hv
  subst hsz
  rw [lg_entry_eq]
  refine body p e s m _ below meth c (va_A (ccells cs a q1 q2 S) s.heap.size) _ ⟨⟨B.exec, B.bytes, hml, findClass_of_methodNamed B.named, atoms_spec B.pre⟩, hK⟩ (fun q h => Or.inr h) hR hZ ?_ ⟨hP, hD0.self, va_S.rf⟩ _ (lv_entry As hA)
  intro q1 q2 H locs cells slots pc ls hd hM h1 h2
  refine W.widen h1 h2 ?_
  exact W.vret B.exec B.bytes B.returns (fun t ht hW => ⟨⟨(q1, q2), rfl, trivial, by rw [ht]; exact hM.1, hM.2.1⟩, hM.2.2.F ht⟩) hM.2.2.2.2 hd (hlocks := B.notSynchronized)
theorem gGE_i {r : Int32} (hy : plainName y.cls = true) (hw : ws = Cond.code y cc maxL (some .int) :: ws') (hA : (lg_sl As).length ≤ maxL)
    (body : ∀ (p : Program) (e : Env) (s : State) (m : MethodId) (args : Array Value) (below : List Frame) (meth : Method) (c : Code) (A : Nat → Prop) (Q : State → Prop),
      gC p s m args c cc maxL ws y.cls D cs → (∀ q, s.heap.size ≤ q → A q) → gR adK s → gZ adK adV A s s.heap →
      (∀ (q1 q2 : Nat) (H : Heap) (locs : List Loc) (cells slots pc : Nat) (ls : Array Slot), decode cc pc = .ok (.ireturn, 1) → gw D A s.heap H locs (ccells cs a q1 q2 Sz) → cells ≤ ph Sz - ph S → slots ≤ 2 * (ph Sz - ph S) → W p l e (rmG fr lo S Sz) s m args below meth c H locs cells slots Q (F0 m pc ls [.int r])) →
      gw D A s.heap s.heap [] (ccells cs a q1 q2 S) → ∀ ls : Array Slot, lv_has ls maxL (lv_args 0 As) → W p l e (rmG fr lo S Sz) s m args below meth c s.heap [] 0 0 Q (F0 m 0 ls [])) : gGi l y ws fr lo D cs adK adV As a q1 q2 S r Sz := by
  intro sz
  refine Met.ofW (cc := cc) (maxL := maxL) (ret := some .int) hy hw ?_
  intro p e s m args below meth c s₁ B hml hv
  obtain ⟨rfl, ⟨hsz, hP, hK, hD0⟩, hR, hZ⟩ := hv
  subst hsz
  rw [lg_entry_eq]
  refine body p e s m _ below meth c (va_A (ccells cs a q1 q2 S) s.heap.size) _ ⟨⟨B.exec, B.bytes, hml, findClass_of_methodNamed B.named, atoms_spec B.pre⟩, hK⟩ (fun q h => Or.inr h) hR hZ ?_ ⟨hP, hD0.self, va_S.rf⟩ _ (lv_entry As hA)
  intro q1 q2 H locs cells slots pc ls hd hM h1 h2
  refine W.widen h1 h2 ?_
  exact W.iret B.exec B.bytes B.returns (fun t ht hW => ⟨⟨r, (q1, q2), rfl, rfl, by rw [ht]; exact hM.1, hM.2.1⟩, hM.2.2.F ht⟩) hM.2.2.2.2 hd (hlocks := B.notSynchronized)
end GG
section GGR
variable {p : Program} {l : Launch} {e : Env} {R : Room} {s : State} {m : MethodId} {args : Array Value} {below : List Frame} {meth : Method} {c : Code} {H : Heap} {locs : List Loc} {cells slots : Nat} {Q : State → Prop}
variable {cc : ByteArray} {pc nL : Nat} {ls : Array Slot} {D : va_G} {cs : Nat → ClassId} {A : Nat → Prop} {Ts : List Cond} {own : String} {adK adV : Nat → Nat}
variable {index n maxL fr lo : Nat} {y : MethodName} {bytes : ByteArray} {ret : Option FieldType} {wy wy' : List Cond} {b : Addr} {st0 : List Value} {a : Nat → Nat} {q1 q2 : Nat} {S1 S2 : St}
theorem gGV_v {C : String} (hC : gC p s m args c cc nL Ts own D cs) (hM : gw D A s.heap H locs (ccells cs a q1 q2 S1)) (hA : ∀ q, s.heap.size ≤ q → A q) (hR' : gR adK s) (hZ : gZ adK adV A s s.heap) (hl : ls.size = nL)
    (As : List Value) (rest : List Value) (hMet : gGv l y wy fr lo D cs adK adV (.ref b :: As) a q1 q2 S1 S2) (hG : GoodIn Ts (wsV own index C y wy)) (hw : wy = Cond.code y bytes maxL ret :: wy') (hd : y.cls = C ∧ y.cls ≠ "java/lang/invoke/MethodHandle" ∧ y.cls ≠ "java/lang/invoke/VarHandle" ∧ (parseMethodDescriptor y.desc).map (fun d => d.parameters.length) = some As.length) (hR : fr + 1 ≤ R.frames ∧ 8 + (maxL + 11) + lo ≤ R.locals)
    (q0 ci : Nat) {q : vw_C} {fs : List Value} (hc : vwCl[ci]? = some q) (hq : q.1 = C) (he : (ccells cs a q1 q2 S1)[q0]? = some (b, .inr (ci, fs))) (hst : (rest.map fun v => v.category).sum ≤ 8) (hdg : decode cc pc = .ok (.invokevirtual index, 3)) (hst0 : st0 = As.reverse ++ .ref b :: rest) (hf : cells + (ph S2 - ph S1) ≤ R.cells ∧ slots + 2 * (ph S2 - ph S1) ≤ R.slots)
    (kk : ∀ (q1 q2 : Nat) (H1 : Heap) (locs1 : List Loc), gw D A s.heap H1 locs1 (ccells cs a q1 q2 S2) → W p l e R s m args below meth c H1 locs1 (cells + (ph S2 - ph S1)) (slots + 2 * (ph S2 - ph S1)) Q (F0 m (pc + 3) ls rest)) : W p l e R s m args below meth c H locs cells slots Q (F0 m pc ls st0) := by
  subst hst0
  refine va_callv (va_runV hC.1 (hMet H.size) (cwV As.length hC.1.2.2.2.2 hG hw rfl rfl hd hR) ⟨gPz.blind, hq ▸ va_recv hC.2.1 hM.1 hc he, gPz.pre hC.2 hM hA hR' hZ _⟩ rfl rfl hl rfl (lv_room hst) hdg hf) hM.2.2 (fun q _ h => hM.free hA q h) (hM.free hA) ?_
  intro u t H1 locs1 ht hvm hw1 hB hz1 hk1 hS
  exact kk u.1 u.2 H1 locs1 ⟨by rw [← ht]; exact hB.1, hB.2.weaken (fun k q h h2 => hM.free hA _ h2), hS⟩
theorem gGV_i {C : String} {r : Int32} (hC : gC p s m args c cc nL Ts own D cs) (hM : gw D A s.heap H locs (ccells cs a q1 q2 S1)) (hA : ∀ q, s.heap.size ≤ q → A q) (hR' : gR adK s) (hZ : gZ adK adV A s s.heap) (hl : ls.size = nL)
    (As : List Value) (rest : List Value) (hMet : gGi l y wy fr lo D cs adK adV (.ref b :: As) a q1 q2 S1 r S2) (hG : GoodIn Ts (wsV own index C y wy)) (hw : wy = Cond.code y bytes maxL ret :: wy') (hd : y.cls = C ∧ y.cls ≠ "java/lang/invoke/MethodHandle" ∧ y.cls ≠ "java/lang/invoke/VarHandle" ∧ (parseMethodDescriptor y.desc).map (fun d => d.parameters.length) = some As.length) (hR : fr + 1 ≤ R.frames ∧ 8 + (maxL + 11) + lo ≤ R.locals)
    (q0 ci : Nat) {q : vw_C} {fs : List Value} (hc : vwCl[ci]? = some q) (hq : q.1 = C) (he : (ccells cs a q1 q2 S1)[q0]? = some (b, .inr (ci, fs))) (hst : (rest.map fun v => v.category).sum ≤ 8) (hdg : decode cc pc = .ok (.invokevirtual index, 3)) (hst0 : st0 = As.reverse ++ .ref b :: rest) (hf : cells + (ph S2 - ph S1) ≤ R.cells ∧ slots + 2 * (ph S2 - ph S1) ≤ R.slots)
    (kk : ∀ (q1 q2 : Nat) (H1 : Heap) (locs1 : List Loc), gw D A s.heap H1 locs1 (ccells cs a q1 q2 S2) → W p l e R s m args below meth c H1 locs1 (cells + (ph S2 - ph S1)) (slots + 2 * (ph S2 - ph S1)) Q (F0 m (pc + 3) ls (.int r :: rest))) : W p l e R s m args below meth c H locs cells slots Q (F0 m pc ls st0) := by
  subst hst0
  refine va_calli (va_runV hC.1 (hMet H.size) (cwV As.length hC.1.2.2.2.2 hG hw rfl rfl hd hR) ⟨gPz.blind, hq ▸ va_recv hC.2.1 hM.1 hc he, gPz.pre hC.2 hM hA hR' hZ _⟩ rfl rfl hl rfl (lv_room hst) hdg hf) hM.2.2 (fun q _ h => hM.free hA q h) (hM.free hA) ?_
  intro r' u t H1 locs1 ht hvm hw1 hB hz1 hk1 hS
  obtain rfl : r' = r := hw1
  exact kk u.1 u.2 H1 locs1 ⟨by rw [← ht]; exact hB.1, hB.2.weaken (fun k q h h2 => hM.free hA _ h2), hS⟩
end GGR
abbrev rmcopy (n : Nat) : Room := { frames := 1, cells := 1, slots := n, locals := 20 }
set_option maxRecDepth 100000 in
set_option maxHeartbeats 4000000 in
theorem c_copyOf (l : Launch) (D : va_G) (cs : Nat → ClassId) (w : va_W) {k0 b n0 : Nat} {f : Nat → Int32} (v : Int32) (hk : w[k0]? = some (b, .inl (cs 1, n0, .inl f))) (hv : ¬ v < 0) (hlt : n0 < v.toNatClampNeg) (hle : v.toNatClampNeg ≤ 65536) (hfit : ∀ j, j < n0 → fits .byte (.int (f j)) = true) (sz : Nat) :
    Met l yJ7_copyOf_9075b wsJ7_copyOf_9075b (rmcopy v.toNatClampNeg) (va_Pc [.ref b, .int v] (gP D cs sz w)) (va_Qr (fun (_ : Unit) => True) (fun _ q t => gB D (va_A w sz) (w ++ [(q, .inl (cs 1, v.toNatClampNeg, .inl (va_cpy f (fun _ => 0) 0 0 n0)))]) t) (va_A w sz)) 1 v.toNatClampNeg (va_A w sz) := by
  obtain ⟨vn, hvn, rfl⟩ := nI_of hv
  rw [nI_clamp hvn] at hlt hle ⊢
  have hn0 : n0 < 2 ^ 31 := by omega
  refine Met.ofW (cc := cJ7_copyOf_9075b) (maxL := 3) (ret := some (.array .byte)) (by decide) rfl ?_
  intro p e s m args below meth c s₁ B hml hv2
  obtain ⟨rfl, hsz, hP, hK, hD0⟩ := hv2
  subst hsz
  have hx := B.exec
  have hb := B.bytes
  have hts := atoms_spec (ws := wsJ7_copyOf_9075b) B.pre
  have hown : s.vm.findClass RJ7 = some m.cls := findClass_of_methodNamed B.named
  have hD := hD0.self (sz := s.heap.size)
  generalize hAe : va_A w s.heap.size = A at hD ⊢
  have hA : ∀ q : Nat, s.heap.size ≤ q → A q := fun q h => by rw [← hAe]; exact Or.inr h
  have hS : va_S A s.heap s.heap [] := va_S.rf
  have hl := lv_entry ([.ref b, .int (nI vn)]) (n := 3) (Nat.le_of_ble_eq_true rfl)
  rw [lg_entry_eq]
  generalize (lg_sl ([.ref b, .int (nI vn)]) ++ List.replicate (3 - (lg_sl ([.ref b, .int (nI vn)])).length) Slot.unset).toArray = ls at hl ⊢
  have hl : lv_has ls 3 [(0, .ref b), (1, .int (nI vn))] := hl
  refine lv_iload_n hx hb dJ7_copyOf_9075b_0 rfl (lv_at hl 1 rfl) ?_
  refine lv_aload_n hx hb dJ7_copyOf_9075b_1 rfl (lv_at hl 0 rfl) ?_
  refine va_alen (v := nI n0) hx hb hK.1 hP k0 1 hk rfl rfl dJ7_copyOf_9075b_2 ?_
  refine lv_icmp_ne (tgt := 14) hx hb dJ7_copyOf_9075b_3 (by decide) (fun c1 => ?_) (fun c1 => absurd ((nI_eq hvn hn0).mp c1) (by omega))
  refine lv_iload_n hx hb dJ7_copyOf_9075b_14 rfl (lv_at hl 1 rfl) ?_
  refine va_newa (a0 := (vn, .inl (fun _ => 0))) (N' := vn) (ty := .byte) hx hb (hts _ (mw_i (i := 7) rfl)) rfl hK.1 hP hD hS hA (fun cA => rfl) (nI_pos hvn) (nI_clamp hvn) (by show vn * 1 ≤ _; omega) (Nat.le_of_ble_eq_true rfl) (by show 0 + vn ≤ vn; omega) dJ7_copyOf_9075b_15 (fun q cA H hK2 hP hD hS => ?_)
  have e1 : cA = cs 1 := Option.some.inj ((hK2.2 4 _ rfl).2.symm.trans (hK2.2 1 _ rfl).2)
  subst e1
  refine lv_astore_n (lv' := [(2, .ref q), (0, .ref b), (1, .int (nI vn))]) hx hb dJ7_copyOf_9075b_17 rfl hl (by decide) rfl (fun ls hl => ?_)
  refine lv_aload_n hx hb dJ7_copyOf_9075b_18 rfl (lv_at hl 1 rfl) ?_
  refine lv_iconst (v := 0) hx hb dJ7_copyOf_9075b_19 (by decide) ?_
  refine lv_aload_n hx hb dJ7_copyOf_9075b_20 rfl (lv_at hl 0 rfl) ?_
  refine lv_iconst (v := 0) hx hb dJ7_copyOf_9075b_21 (by decide) ?_
  refine lv_aload_n hx hb dJ7_copyOf_9075b_22 rfl (lv_at hl 1 rfl) ?_
  have hkl : k0 < w.length := (List.getElem?_eq_some_iff.mp hk).1
  have hk1 : (w ++ [(q, .inl (cs 1, vn, .inl (fun _ => (0 : Int32))))])[k0]? = some (b, .inl (cs 1, n0, .inl f)) := by rw [List.getElem?_append_left hkl]; exact hk
  have hk2 : (w ++ [(q, (.inl (cs 1, vn, .inl (fun _ => (0 : Int32))) : va_E))])[w.length]? = some (q, .inl (cs 1, vn, .inl (fun _ => (0 : Int32)))) := by simp
  refine va_alen (v := nI n0) hx hb hK.1 hP k0 1 hk1 rfl rfl dJ7_copyOf_9075b_23 ?_
  refine lv_iload_n hx hb dJ7_copyOf_9075b_24 rfl (lv_at hl 2 rfl) ?_
  refine va_mmin hx hb (by rw [hml]; exact hl.1.symm) hown (hts _ (mw_i (i := 8) rfl)) (hts _ (mw_i (i := 9) rfl)) (hts _ (mw_i (i := 10) rfl)) (hts _ (mw_i (i := 11) rfl)) (Nat.le_of_ble_eq_true rfl) (Nat.le_of_ble_eq_true rfl) (Nat.le_of_ble_eq_true rfl) (by show 0 + vn ≤ vn; omega) dJ7_copyOf_9075b_25 ?_
  rw [if_neg (nI_nlt (by omega) hvn)]
  refine va_copyi (ty := .byte) hx hb (by rw [hml]; exact hl.1.symm) hown (hts _ (mw_i (i := 12) rfl)) (hts _ (mw_i (i := 13) rfl)) (hts _ (mw_i (i := 14) rfl)) (hts _ (mw_i (i := 15) rfl)) hK.1 hP hD hS k0 w.length 1 1 hk1 hk2 rfl rfl rfl (by decide) (by decide) (nI_pos hn0) (by rw [nI_clamp hn0, sb_cl0]; omega) (by rw [nI_clamp hn0, sb_cl0]; omega) (fun i hi => by rw [nI_clamp hn0] at hi; rw [sb_cl0, Nat.zero_add]; exact hfit i hi) (Nat.le_of_ble_eq_true rfl) (Nat.le_of_ble_eq_true rfl) dJ7_copyOf_9075b_28 (fun H1 locs1 hP hD hS => ?_)
  have hset : (w ++ [(q, (.inl (cs 1, vn, .inl (fun _ => (0 : Int32))) : va_E))]).set w.length (q, .inl (cs 1, vn, .inl (va_cpy f (fun _ => 0) (0 : Int32).toNatClampNeg (0 : Int32).toNatClampNeg (nI n0).toNatClampNeg))) = w ++ [(q, .inl (cs 1, vn, .inl (va_cpy f (fun _ => 0) 0 0 n0)))] := by
    rw [nI_clamp hn0, sb_cl0]; simp
  rw [hset] at hP hD
  refine lv_aload_n hx hb dJ7_copyOf_9075b_31 rfl (lv_at hl 0 rfl) ?_
  refine W.widen (k := 1) (n := vn) (by omega) (by omega) ?_
  exact W.aret hx hb B.returns (Or.inr ⟨_, rfl⟩) (Or.inr ⟨q, rfl⟩) (fun t ht hW => ⟨⟨(), q, rfl, trivial, by rw [ht]; exact hP, hD⟩, hS.F ht⟩) hS.2.2 dJ7_copyOf_9075b_32 (hlocks := B.notSynchronized)
abbrev gok (S : St) (rr : Nat) (v : Int32) : Prop := ¬ v < 0 ∧ (S.1 rr 2).toNatClampNeg < v.toNatClampNeg ∧ v.toNatClampNeg ≤ 65536 ∧ 2 * (S.1 rr 2).toNatClampNeg ≤ v.toNatClampNeg ∧ ∀ j, j < (S.1 rr 2).toNatClampNeg → fits .byte (.int (S.1 (rr + 1) j)) = true
def groS (S : St) (rr : Nat) (v : Int32) : St := (fun r => if r = rr then upd (S.1 rr) 2 v else if r = rr + 1 then va_cpy (S.1 (rr + 1)) (fun _ => 0) 0 0 (S.1 rr 2).toNatClampNeg else S.1 r, S.2)
def j_X6_add_40 (rr : Nat) (p0 : Int32) (S1 : St) : Option St :=
  ck (S1.1 rr 1) (S1.1 rr 2).toNatClampNeg <|
  nm (puI S1 (rr + 1) (S1.1 rr 1).toNatClampNeg (vp_nar .byte p0.toInt8.toInt32)) fun S2 =>
  nm (puI S2 rr 1 ((S2.1 rr 1) + 1)) fun S3 =>
  some S3
def f_X6_add (N : Nat) (rr : Nat) (p0 : Int32) (S : St) : Option St :=
  if (S.1 rr 1) < 20000 then
    jp (j_X6_add_40 rr p0) fun k40 =>
    if (S.1 rr 1) < Int32.ofNat (S.1 rr 2).toNatClampNeg then
      k40 S
    else
      if gok S rr (2 * (S.1 rr 1)) then nm (groS S rr (2 * (S.1 rr 1))) fun S1 => k40 S1 else none
  else
    some S
theorem hd_X6_add : yX6_add.cls = RX6 ∧ yX6_add.cls ≠ "java/lang/invoke/MethodHandle" ∧ yX6_add.cls ≠ "java/lang/invoke/VarHandle" ∧ (parseMethodDescriptor yX6_add.desc).map (fun d => d.parameters.length) = some 1 := by decide +kernel
theorem hd_J7_copyOf : yJ7_copyOf_9075b.cls ≠ "java/lang/invoke/MethodHandle" ∧ yJ7_copyOf_9075b.cls ≠ "java/lang/invoke/VarHandle" ∧ (parseMethodDescriptor yJ7_copyOf_9075b.desc).map (fun d => d.parameters.length) = some 2 := by decide +kernel
theorem inX6_add_X6 : ∀ w ∈ u_ws RX6 TX6 2, w ∈ wsX6_add := fun _ h => List.mem_cons_of_mem _ (List.mem_append_right _ h)
theorem pg_24 {S : St} {v : Int32} : ph (groS S 24 v) + (S.1 24 2).toNatClampNeg = ph S + v.toNatClampNeg := by
  show (if (24 : Nat) = 24 then upd (S.1 24) 2 v else if (24 : Nat) = 24 + 1 then va_cpy (S.1 (24 + 1)) (fun _ => 0) 0 0 (S.1 24 2).toNatClampNeg else S.1 24) 2 |>.toNatClampNeg |> (· + ((if (26 : Nat) = 24 then upd (S.1 24) 2 v else if (26 : Nat) = 24 + 1 then va_cpy (S.1 (24 + 1)) (fun _ => 0) 0 0 (S.1 24 2).toNatClampNeg else S.1 26) 2).toNatClampNeg + (S.1 24 2).toNatClampNeg) |> (· = _)
  simp [upd, ph]; omega
theorem mj_24 {p0 : Int32} {S1 Sz : St} (h : j_X6_add_40 24 p0 S1 = some Sz) : ph Sz = ph S1 := by
  unfold j_X6_add_40 at h
  obtain ⟨-, h⟩ := ck_s h
  cases so_1 h
  rfl
theorem mo_X6_add_24 {N : Nat} {p0 : Int32} {S Sz : St} (h : f_X6_add N 24 p0 S = some Sz) : ph S ≤ ph Sz := by
  unfold f_X6_add at h
  rcases it_s h with ⟨-, h⟩ | ⟨-, h⟩
  · rcases it_s h with ⟨-, h⟩ | ⟨-, h⟩
    · rw [mj_24 h]; exact Nat.le_refl _
    · rcases it_s h with ⟨g, h⟩ | ⟨-, h⟩
      · have := mj_24 h
        have h2 := pg_24 (S := S) (v := 2 * (S.1 24 1))
        have h3 := g.2.1
        omega
      · cases h
  · cases so_1 h; exact Nat.le_refl _
set_option maxRecDepth 100000 in
theorem cgr_24 {D : va_G} {cs : Nat → ClassId} {A : Nat → Prop} {H0 H : Heap} {locs : List Loc} {a : Nat → Nat} {q1 q2 q : Nat} {S : St} {v : Int32}
    (hM : gw D A H0 H locs ((ccells cs a q1 q2 S ++ [(q, (.inl (cs 1, v.toNatClampNeg, .inl (va_cpy (S.1 25) (fun _ => 0) 0 0 (S.1 24 2).toNatClampNeg)) : va_E))]).set 24 (a 24, .inr (6, (cf24 a q1 q2 S).set 0 (.ref q))))) : gw D A H0 H locs (ccells cs a q q2 (groS S 24 v)) :=
  ⟨hM.1.sub [0, 1, 2, 3, 4, 5, 6, 7, 8, 9, 10, 11, 12, 13, 14, 15, 16, 17, 18, 19, 20, 21, 22, 23, 24, 52, 26, 27, 28, 29, 30, 31, 32, 33, 34, 35, 36, 37, 38, 39, 40, 41, 42, 43, 44, 45, 46, 47, 48, 49, 50, 51] rfl, hM.2.1.sub [0, 1, 2, 3, 4, 5, 6, 7, 8, 9, 10, 11, 12, 13, 14, 15, 16, 17, 18, 19, 20, 21, 22, 23, 24, 52, 26, 27, 28, 29, 30, 31, 32, 33, 34, 35, 36, 37, 38, 39, 40, 41, 42, 43, 44, 45, 46, 47, 48, 49, 50, 51] (by decide) rfl, hM.2.2⟩
set_option maxRecDepth 100000 in
set_option maxHeartbeats 4000000 in
theorem c_X6_add_24 (l : Launch) (D : va_G) (cs : Nat → ClassId) (adK adV : Nat → Nat) (a : Nat → Nat) (q1 q2 : Nat) (N : Nat) (p0 : Int32) (S Sz : St) (hf : f_X6_add N 24 p0 S = some Sz) : gGv l yX6_add wsX6_add 2 42 D cs adK adV [.ref (a 24), .int p0] a q1 q2 S Sz := by
  unfold f_X6_add at hf
  refine gGE_v (cc := cX6_add) (maxL := 2) (by decide) rfl (Nat.le_of_ble_eq_true rfl) ?_
  intro p e s m args below meth c A Q hC hA hR hZ hQ hM ls hl
  obtain ⟨hx, hb, hml, hown, hts⟩ := hC.1
  have hl : lv_has ls 2 [(0, .ref (a 24)), (1, .int p0)] := hl
  refine lv_aload_n hx hb dX6_add_0 rfl (lv_at hl 0 rfl) ?_
  refine g_get hC hM inX6_add_X6 24 cE24 clX6 1 (by decide) (mw_i (i := 1) rfl) TX6_1 cV24_1 dX6_add_1 ?_
  refine lv_sipush (v := 20000) hx hb dX6_add_4 (by decide) ?_
  refine lv_icmp_lt (tgt := 11) hx hb dX6_add_7 (by decide) (fun c1 => ?_) (fun c1 => ?_)
  · replace hf := it_t c1 hf
    refine jp_W (fun k40 : St → Option St => ∀ (S1 : St), k40 S1 = some Sz → ph Sz = ph S1 ∧ ∀ (q1 q2 : Nat) (H : Heap) (locs : List Loc) (ls : Array Slot) (cells slots : Nat), gw D A s.heap H locs (ccells cs a q1 q2 S1) → lv_has ls 2 [(0, .ref (a 24)), (1, .int p0)] → cells ≤ ph Sz - ph S → slots ≤ 2 * (ph Sz - ph S) → W p l e (rmG 2 42 S Sz) s m args below meth c H locs cells slots Q (F0 m 40 ls [])) ?_ ?_ hf
    · intro S1 hf
      refine ⟨mj_24 hf, ?_⟩
      intro q1 q2 H locs ls cells slots hM hl hc1 hc2
      unfold j_X6_add_40 at hf
      refine lv_aload_n hx hb dX6_add_40 rfl (lv_at hl 0 rfl) ?_
      refine g_get hC hM inX6_add_X6 24 cE24 clX6 0 (by decide) (mw_i (i := 2) rfl) TX6_0 cV24_0 dX6_add_41 ?_
      refine lv_aload_n hx hb dX6_add_44 rfl (lv_at hl 0 rfl) ?_
      refine g_get hC hM inX6_add_X6 24 cE24 clX6 1 (by decide) (mw_i (i := 1) rfl) TX6_1 cV24_1 dX6_add_45 ?_
      refine lv_iload_n hx hb dX6_add_48 rfl (lv_at hl 1 rfl) ?_
      refine lv_i2b hx hb dX6_add_49 rfl ?_
      obtain ⟨h2, hf⟩ := ck_s hf
      refine g_bast hC hM 25 cE25 h2 cA25 dX6_add_50 (fun H locs hM => ?_)
      obtain ⟨S2, hf, hM⟩ := cnm hf hM
      refine lv_aload_n hx hb dX6_add_51 rfl (lv_at hl 0 rfl) ?_
      refine lv_dup hx hb dX6_add_52 rfl ?_
      refine g_get hC hM inX6_add_X6 24 cE24 clX6 1 (by decide) (mw_i (i := 1) rfl) TX6_1 cV24_1 dX6_add_53 ?_
      refine lv_iconst (v := 1) hx hb dX6_add_56 (by decide) ?_
      refine lv_iadd hx hb dX6_add_57 ?_
      refine g_put hC hM inX6_add_X6 tyX6_ok nmX6 24 cE24 clX6 1 (by decide) (mw_i (i := 1) rfl) TX6_1 tyX6_1 rfl rfl (by rw [cL24]; decide) cP24_1 dX6_add_58 (fun H locs hM => ?_)
      obtain ⟨S3, hf, hM⟩ := cnm hf hM
      cases so_1 hf
      exact hQ _ _ _ _ _ _ _ _ dX6_add_61 hM hc1 hc2
    · intro k40 hk40 hf
      refine lv_aload_n hx hb dX6_add_11 rfl (lv_at hl 0 rfl) ?_
      refine g_get hC hM inX6_add_X6 24 cE24 clX6 1 (by decide) (mw_i (i := 1) rfl) TX6_1 cV24_1 dX6_add_12 ?_
      refine lv_aload_n hx hb dX6_add_15 rfl (lv_at hl 0 rfl) ?_
      refine g_get hC hM inX6_add_X6 24 cE24 clX6 0 (by decide) (mw_i (i := 2) rfl) TX6_0 cV24_0 dX6_add_16 ?_
      refine va_alen (v := Int32.ofNat (S.1 24 2).toNatClampNeg) hx hb hC.2.1 hM.1 25 1 cE25 rfl rfl dX6_add_19 ?_
      refine lv_icmp_lt (tgt := 40) hx hb dX6_add_20 (by decide) (fun c2 => ?_) (fun c2 => ?_)
      · replace hf := it_t c2 hf
        exact (hk40 _ hf).2 _ _ _ _ _ _ _ hM hl (Nat.zero_le _) (Nat.zero_le _)
      · replace hf := it_f c2 hf
        rcases it_s hf with ⟨g, hf⟩ | ⟨-, hf⟩
        · have hz := (hk40 _ hf).1
          have hpg := pg_24 (S := S) (v := 2 * (S.1 24 1))
          have hg2 := g.2.1
          have hg4 := g.2.2.2.1
          refine lv_aload_n hx hb dX6_add_23 rfl (lv_at hl 0 rfl) ?_
          refine lv_aload_n hx hb dX6_add_24 rfl (lv_at hl 0 rfl) ?_
          refine g_get hC hM inX6_add_X6 24 cE24 clX6 0 (by decide) (mw_i (i := 2) rfl) TX6_0 cV24_0 dX6_add_25 ?_
          refine lv_iconst (v := 2) hx hb dX6_add_28 (by decide) ?_
          refine lv_aload_n hx hb dX6_add_29 rfl (lv_at hl 0 rfl) ?_
          refine g_get hC hM inX6_add_X6 24 cE24 clX6 1 (by decide) (mw_i (i := 1) rfl) TX6_1 cV24_1 dX6_add_30 ?_
          refine lv_imul hx hb dX6_add_33 ?_
          refine va_callr (va_runS hC.1 (c_copyOf l D cs (ccells cs a q1 q2 S) (2 * (S.1 24 1)) cE25 g.1 g.2.1 g.2.2.1 g.2.2.2.2 s.heap.size) (va_cwS 2 hts gX6_add_J7_copyOf_9075b rfl rfl rfl hd_J7_copyOf ⟨by show 1 + 1 ≤ 2; omega, by show 8 + (3 + 11) + 20 ≤ 42; omega⟩) ⟨gP.blind, gP.pre hC.2 hM _⟩ rfl rfl hl.1 rfl (lv_room (Nat.le_of_ble_eq_true rfl)) dX6_add_34 ⟨by show 0 + 1 ≤ ph Sz - ph S; omega, by show 0 + _ ≤ 2 * (ph Sz - ph S); omega⟩) hM.2.2 (fun q _ h => hM.free hA q h) (hM.free hA) ?_
          intro u q t H1 locs1 ht hvm hw1 hB hz1 hk1 hS
          have hM : gw D A s.heap H1 locs1 (ccells cs a q1 q2 S ++ [(q, .inl (cs 1, (2 * (S.1 24 1)).toNatClampNeg, .inl (va_cpy (S.1 25) (fun _ => 0) 0 0 (S.1 24 2).toNatClampNeg)))]) := ⟨by rw [← ht]; exact hB.1, hB.2.weaken (fun k z h h2 => hM.free hA _ h2), hS⟩
          refine g_put hC hM inX6_add_X6 tyX6_ok nmX6 24 (a := a 24) (fs := cf24 a q1 q2 S) rfl clX6 0 (by decide) (mw_i (i := 2) rfl) TX6_0 (ty := .array .byte) rfl rfl rfl (Nat.le_of_ble_eq_true rfl) rfl dX6_add_37 (fun H locs hM => ?_)
          replace hM := cgr_24 hM
          refine W.widen (k := ph Sz - ph S) (n := 2 * (ph Sz - ph S)) (by omega) (by omega) ?_
          exact (hk40 _ hf).2 _ _ _ _ _ _ _ hM hl (Nat.le_refl _) (Nat.le_refl _)
        · cases hf
  · replace hf := it_f c1 hf
    cases so_1 hf
    exact hQ _ _ _ _ _ _ _ _ dX6_add_10 hM (by omega) (by omega)
theorem pg_26 {S : St} {v : Int32} : ph (groS S 26 v) + (S.1 26 2).toNatClampNeg = ph S + v.toNatClampNeg := by
  show (if (24 : Nat) = 26 then upd (S.1 26) 2 v else if (24 : Nat) = 26 + 1 then va_cpy (S.1 (26 + 1)) (fun _ => 0) 0 0 (S.1 26 2).toNatClampNeg else S.1 24) 2 |>.toNatClampNeg |> (· + ((if (26 : Nat) = 26 then upd (S.1 26) 2 v else if (26 : Nat) = 26 + 1 then va_cpy (S.1 (26 + 1)) (fun _ => 0) 0 0 (S.1 26 2).toNatClampNeg else S.1 26) 2).toNatClampNeg + (S.1 26 2).toNatClampNeg) |> (· = _)
  simp [upd, ph]; omega
theorem mj_26 {p0 : Int32} {S1 Sz : St} (h : j_X6_add_40 26 p0 S1 = some Sz) : ph Sz = ph S1 := by
  unfold j_X6_add_40 at h
  obtain ⟨-, h⟩ := ck_s h
  cases so_1 h
  rfl
theorem mo_X6_add_26 {N : Nat} {p0 : Int32} {S Sz : St} (h : f_X6_add N 26 p0 S = some Sz) : ph S ≤ ph Sz := by
  unfold f_X6_add at h
  rcases it_s h with ⟨-, h⟩ | ⟨-, h⟩
  · rcases it_s h with ⟨-, h⟩ | ⟨-, h⟩
    · rw [mj_26 h]; exact Nat.le_refl _
    · rcases it_s h with ⟨g, h⟩ | ⟨-, h⟩
      · have := mj_26 h
        have h2 := pg_26 (S := S) (v := 2 * (S.1 26 1))
        have h3 := g.2.1
        omega
      · cases h
  · cases so_1 h; exact Nat.le_refl _
set_option maxRecDepth 100000 in
theorem cgr_26 {D : va_G} {cs : Nat → ClassId} {A : Nat → Prop} {H0 H : Heap} {locs : List Loc} {a : Nat → Nat} {q1 q2 q : Nat} {S : St} {v : Int32}
    (hM : gw D A H0 H locs ((ccells cs a q1 q2 S ++ [(q, (.inl (cs 1, v.toNatClampNeg, .inl (va_cpy (S.1 27) (fun _ => 0) 0 0 (S.1 26 2).toNatClampNeg)) : va_E))]).set 26 (a 26, .inr (6, (cf26 a q1 q2 S).set 0 (.ref q))))) : gw D A H0 H locs (ccells cs a q1 q (groS S 26 v)) :=
  ⟨hM.1.sub [0, 1, 2, 3, 4, 5, 6, 7, 8, 9, 10, 11, 12, 13, 14, 15, 16, 17, 18, 19, 20, 21, 22, 23, 24, 25, 26, 52, 28, 29, 30, 31, 32, 33, 34, 35, 36, 37, 38, 39, 40, 41, 42, 43, 44, 45, 46, 47, 48, 49, 50, 51] rfl, hM.2.1.sub [0, 1, 2, 3, 4, 5, 6, 7, 8, 9, 10, 11, 12, 13, 14, 15, 16, 17, 18, 19, 20, 21, 22, 23, 24, 25, 26, 52, 28, 29, 30, 31, 32, 33, 34, 35, 36, 37, 38, 39, 40, 41, 42, 43, 44, 45, 46, 47, 48, 49, 50, 51] (by decide) rfl, hM.2.2⟩
set_option maxRecDepth 100000 in
set_option maxHeartbeats 4000000 in
theorem c_X6_add_26 (l : Launch) (D : va_G) (cs : Nat → ClassId) (adK adV : Nat → Nat) (a : Nat → Nat) (q1 q2 : Nat) (N : Nat) (p0 : Int32) (S Sz : St) (hf : f_X6_add N 26 p0 S = some Sz) : gGv l yX6_add wsX6_add 2 42 D cs adK adV [.ref (a 26), .int p0] a q1 q2 S Sz := by
  unfold f_X6_add at hf
  refine gGE_v (cc := cX6_add) (maxL := 2) (by decide) rfl (Nat.le_of_ble_eq_true rfl) ?_
  intro p e s m args below meth c A Q hC hA hR hZ hQ hM ls hl
  obtain ⟨hx, hb, hml, hown, hts⟩ := hC.1
  have hl : lv_has ls 2 [(0, .ref (a 26)), (1, .int p0)] := hl
  refine lv_aload_n hx hb dX6_add_0 rfl (lv_at hl 0 rfl) ?_
  refine g_get hC hM inX6_add_X6 26 cE26 clX6 1 (by decide) (mw_i (i := 1) rfl) TX6_1 cV26_1 dX6_add_1 ?_
  refine lv_sipush (v := 20000) hx hb dX6_add_4 (by decide) ?_
  refine lv_icmp_lt (tgt := 11) hx hb dX6_add_7 (by decide) (fun c1 => ?_) (fun c1 => ?_)
  · replace hf := it_t c1 hf
    refine jp_W (fun k40 : St → Option St => ∀ (S1 : St), k40 S1 = some Sz → ph Sz = ph S1 ∧ ∀ (q1 q2 : Nat) (H : Heap) (locs : List Loc) (ls : Array Slot) (cells slots : Nat), gw D A s.heap H locs (ccells cs a q1 q2 S1) → lv_has ls 2 [(0, .ref (a 26)), (1, .int p0)] → cells ≤ ph Sz - ph S → slots ≤ 2 * (ph Sz - ph S) → W p l e (rmG 2 42 S Sz) s m args below meth c H locs cells slots Q (F0 m 40 ls [])) ?_ ?_ hf
    · intro S1 hf
      refine ⟨mj_26 hf, ?_⟩
      intro q1 q2 H locs ls cells slots hM hl hc1 hc2
      unfold j_X6_add_40 at hf
      refine lv_aload_n hx hb dX6_add_40 rfl (lv_at hl 0 rfl) ?_
      refine g_get hC hM inX6_add_X6 26 cE26 clX6 0 (by decide) (mw_i (i := 2) rfl) TX6_0 cV26_0 dX6_add_41 ?_
      refine lv_aload_n hx hb dX6_add_44 rfl (lv_at hl 0 rfl) ?_
      refine g_get hC hM inX6_add_X6 26 cE26 clX6 1 (by decide) (mw_i (i := 1) rfl) TX6_1 cV26_1 dX6_add_45 ?_
      refine lv_iload_n hx hb dX6_add_48 rfl (lv_at hl 1 rfl) ?_
      refine lv_i2b hx hb dX6_add_49 rfl ?_
      obtain ⟨h2, hf⟩ := ck_s hf
      refine g_bast hC hM 27 cE27 h2 cA27 dX6_add_50 (fun H locs hM => ?_)
      obtain ⟨S2, hf, hM⟩ := cnm hf hM
      refine lv_aload_n hx hb dX6_add_51 rfl (lv_at hl 0 rfl) ?_
      refine lv_dup hx hb dX6_add_52 rfl ?_
      refine g_get hC hM inX6_add_X6 26 cE26 clX6 1 (by decide) (mw_i (i := 1) rfl) TX6_1 cV26_1 dX6_add_53 ?_
      refine lv_iconst (v := 1) hx hb dX6_add_56 (by decide) ?_
      refine lv_iadd hx hb dX6_add_57 ?_
      refine g_put hC hM inX6_add_X6 tyX6_ok nmX6 26 cE26 clX6 1 (by decide) (mw_i (i := 1) rfl) TX6_1 tyX6_1 rfl rfl (by rw [cL26]; decide) cP26_1 dX6_add_58 (fun H locs hM => ?_)
      obtain ⟨S3, hf, hM⟩ := cnm hf hM
      cases so_1 hf
      exact hQ _ _ _ _ _ _ _ _ dX6_add_61 hM hc1 hc2
    · intro k40 hk40 hf
      refine lv_aload_n hx hb dX6_add_11 rfl (lv_at hl 0 rfl) ?_
      refine g_get hC hM inX6_add_X6 26 cE26 clX6 1 (by decide) (mw_i (i := 1) rfl) TX6_1 cV26_1 dX6_add_12 ?_
      refine lv_aload_n hx hb dX6_add_15 rfl (lv_at hl 0 rfl) ?_
      refine g_get hC hM inX6_add_X6 26 cE26 clX6 0 (by decide) (mw_i (i := 2) rfl) TX6_0 cV26_0 dX6_add_16 ?_
      refine va_alen (v := Int32.ofNat (S.1 26 2).toNatClampNeg) hx hb hC.2.1 hM.1 27 1 cE27 rfl rfl dX6_add_19 ?_
      refine lv_icmp_lt (tgt := 40) hx hb dX6_add_20 (by decide) (fun c2 => ?_) (fun c2 => ?_)
      · replace hf := it_t c2 hf
        exact (hk40 _ hf).2 _ _ _ _ _ _ _ hM hl (Nat.zero_le _) (Nat.zero_le _)
      · replace hf := it_f c2 hf
        rcases it_s hf with ⟨g, hf⟩ | ⟨-, hf⟩
        · have hz := (hk40 _ hf).1
          have hpg := pg_26 (S := S) (v := 2 * (S.1 26 1))
          have hg2 := g.2.1
          have hg4 := g.2.2.2.1
          refine lv_aload_n hx hb dX6_add_23 rfl (lv_at hl 0 rfl) ?_
          refine lv_aload_n hx hb dX6_add_24 rfl (lv_at hl 0 rfl) ?_
          refine g_get hC hM inX6_add_X6 26 cE26 clX6 0 (by decide) (mw_i (i := 2) rfl) TX6_0 cV26_0 dX6_add_25 ?_
          refine lv_iconst (v := 2) hx hb dX6_add_28 (by decide) ?_
          refine lv_aload_n hx hb dX6_add_29 rfl (lv_at hl 0 rfl) ?_
          refine g_get hC hM inX6_add_X6 26 cE26 clX6 1 (by decide) (mw_i (i := 1) rfl) TX6_1 cV26_1 dX6_add_30 ?_
          refine lv_imul hx hb dX6_add_33 ?_
          refine va_callr (va_runS hC.1 (c_copyOf l D cs (ccells cs a q1 q2 S) (2 * (S.1 26 1)) cE27 g.1 g.2.1 g.2.2.1 g.2.2.2.2 s.heap.size) (va_cwS 2 hts gX6_add_J7_copyOf_9075b rfl rfl rfl hd_J7_copyOf ⟨by show 1 + 1 ≤ 2; omega, by show 8 + (3 + 11) + 20 ≤ 42; omega⟩) ⟨gP.blind, gP.pre hC.2 hM _⟩ rfl rfl hl.1 rfl (lv_room (Nat.le_of_ble_eq_true rfl)) dX6_add_34 ⟨by show 0 + 1 ≤ ph Sz - ph S; omega, by show 0 + _ ≤ 2 * (ph Sz - ph S); omega⟩) hM.2.2 (fun q _ h => hM.free hA q h) (hM.free hA) ?_
          intro u q t H1 locs1 ht hvm hw1 hB hz1 hk1 hS
          have hM : gw D A s.heap H1 locs1 (ccells cs a q1 q2 S ++ [(q, .inl (cs 1, (2 * (S.1 26 1)).toNatClampNeg, .inl (va_cpy (S.1 27) (fun _ => 0) 0 0 (S.1 26 2).toNatClampNeg)))]) := ⟨by rw [← ht]; exact hB.1, hB.2.weaken (fun k z h h2 => hM.free hA _ h2), hS⟩
          refine g_put hC hM inX6_add_X6 tyX6_ok nmX6 26 (a := a 26) (fs := cf26 a q1 q2 S) rfl clX6 0 (by decide) (mw_i (i := 2) rfl) TX6_0 (ty := .array .byte) rfl rfl rfl (Nat.le_of_ble_eq_true rfl) rfl dX6_add_37 (fun H locs hM => ?_)
          replace hM := cgr_26 hM
          refine W.widen (k := ph Sz - ph S) (n := 2 * (ph Sz - ph S)) (by omega) (by omega) ?_
          exact (hk40 _ hf).2 _ _ _ _ _ _ _ hM hl (Nat.le_refl _) (Nat.le_refl _)
        · cases hf
  · replace hf := it_f c1 hf
    cases so_1 hf
    exact hQ _ _ _ _ _ _ _ _ dX6_add_10 hM (by omega) (by omega)
