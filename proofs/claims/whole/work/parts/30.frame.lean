/-! worlds side by side: split, turn, join; calls over a part of the world; the law's finding -/
theorem ap_l {α : Type} {wa wb : List α} {k : Nat} {q : α} (h : wa[k]? = some q) : (wa ++ wb)[k]? = some q := by
  rw [List.getElem?_append_left (List.getElem?_eq_some_iff.mp h).1]; exact h
theorem ap_r {α : Type} {wa wb : List α} {k : Nat} {q : α} (h : wb[k]? = some q) : (wa ++ wb)[wa.length + k]? = some q := by
  rw [List.getElem?_append_right (by omega)]; simpa using h
section FR
variable {D : va_G} {cs : Nat → ClassId} {A : Nat → Prop} {H0 H : Heap} {locs : List Loc} {wa wb wc : va_W}
theorem gw.left (hM : gw D A H0 H locs (wa ++ wb)) : gw D A H0 H locs wa :=
  ⟨fun k q h => hM.1 k q (ap_l h), ⟨fun i j p q hi hj e => hM.2.1.1 i j p q (ap_l hi) (ap_l hj) e, fun k q h => hM.2.1.2 k q (ap_l h)⟩, hM.2.2⟩
theorem gw.right (hM : gw D A H0 H locs (wa ++ wb)) : gw D A H0 H locs wb :=
  ⟨fun k q h => hM.1 _ q (ap_r h), ⟨fun i j p q hi hj e => by have := hM.2.1.1 _ _ p q (ap_r hi) (ap_r hj) e; omega, fun k q h => hM.2.1.2 _ q (ap_r h)⟩, hM.2.2⟩
theorem gw.swap (hM : gw D A H0 H locs (wa ++ wb)) : gw D A H0 H locs (wb ++ wa) := by
  refine ⟨hM.right.1.app hM.left.1, hM.right.2.1.app hM.left.2.1 ?_, hM.2.2⟩
  intro i j p q hi hj e
  have := hM.2.1.1 _ _ p q (ap_r hi) (ap_l hj) e
  have hl := (List.getElem?_eq_some_iff.mp hj).1
  omega
theorem gw.rot (hM : gw D A H0 H locs (wa ++ (wb ++ wc))) : gw D A H0 H locs (wb ++ (wc ++ wa)) := by
  have h := hM.swap
  rw [List.append_assoc] at h
  exact h
theorem gw.asc (hM : gw D A H0 H locs (wa ++ (wb ++ wc))) : gw D A H0 H locs ((wa ++ wb) ++ wc) := by
  rw [List.append_assoc]; exact hM
theorem gw.asr (hM : gw D A H0 H locs ((wa ++ wb) ++ wc)) : gw D A H0 H locs (wa ++ (wb ++ wc)) := by
  rw [List.append_assoc] at hM; exact hM
theorem jn_1 : (List.range wa.length).map (fun i => (wa ++ wb)[i]?) = wa.map some := by
  apply List.ext_getElem?
  intro i
  by_cases hi : i < wa.length
  · simp [hi, List.getElem?_append_left hi]
  · simp [hi, Nat.not_lt.mp hi]
theorem jn_2 : ((List.range wb.length).map (fun i => i + wa.length)).map (fun i => (wa ++ wb)[i]?) = wb.map some := by
  apply List.ext_getElem?
  intro i
  by_cases hi : i < wb.length
  · simp [hi, List.getElem?_append_right]
  · simp [hi, Nat.not_lt.mp hi]
theorem jn_3 : va_nd ((List.range wb.length).map (fun i => i + wa.length)) = true := by
  apply nd_of
  rw [List.nodup_iff_pairwise_ne, List.pairwise_map]
  exact (List.nodup_iff_pairwise_ne.mp List.nodup_range).imp (fun h e => h (by omega))
theorem gw.jn {s : State} {wa' : va_W} (hM : gw D A s.heap H locs (wa ++ wb)) {t : State} {H1 : Heap} {locs1 : List Loc} (hA : ∀ q, s.heap.size ≤ q → A q) (ht : t.heap = H1) (hB : gB D (va_A wa H.size) wa' t) (hk1 : ∀ q : Nat, q < H.size → ¬ va_A wa H.size q → H1[q]? = H[q]?) (hS : va_S A s.heap H1 locs1) : gw D A s.heap H1 locs1 (wa' ++ wb) := by
  have j := va_join (wr := wb) (w1 := wa') hM.1 hM.2.1 (List.range wa.length) ((List.range wb.length).map (fun i => i + wa.length)) jn_1 jn_2 jn_3 (by intro i hi; simp at hi ⊢; omega) hk1 (hM.left.free hA) (by rw [← ht]; exact hB.1) hB.2
  exact gw.swap ⟨j.1, j.2, hS⟩
end FR
theorem hd_eq {b q : Nat} {As : List Value} (h : (Value.ref b :: As).head? = some (.ref q)) : q = b := by
  have h1 : (some (Value.ref b) : Option Value) = some (.ref q) := h
  cases h1
  rfl
section FRR
variable {p : Program} {l : Launch} {e : Env} {R : Room} {s : State} {m : MethodId} {args : Array Value} {below : List Frame} {meth : Method} {c : Code} {H : Heap} {locs : List Loc} {cells slots : Nat} {Q : State → Prop}
variable {cc : ByteArray} {pc nL : Nat} {ls : Array Slot} {D : va_G} {cs : Nat → ClassId} {A : Nat → Prop} {wa wa' wb : va_W} {Ts : List Cond} {own : String} {adK adV : Nat → Nat}
variable {index n maxL fr lo : Nat} {y : MethodName} {bytes : ByteArray} {ret : Option FieldType} {wy wy' : List Cond} {rm : Room} {b : Addr} {st0 : List Value} {a : Nat → Nat} {q1 q2 : Nat} {S1 S2 : St}
/-- a call over the world's first part -/
theorem fV_i {C : String} {r : Int32} (hC : gC p s m args c cc nL Ts own D cs) (hM : gw D A s.heap H locs (wa ++ wb)) (hA : ∀ q, s.heap.size ≤ q → A q) (hl : ls.size = nL)
    (As : List Value) (rest : List Value) (hMet : gMi l y wy rm D cs (.ref b :: As) wa r wa') (hG : GoodIn Ts (wsV own index C y wy)) (hw : wy = Cond.code y bytes maxL ret :: wy') (hd : y.cls = C ∧ y.cls ≠ "java/lang/invoke/MethodHandle" ∧ y.cls ≠ "java/lang/invoke/VarHandle" ∧ (parseMethodDescriptor y.desc).map (fun d => d.parameters.length) = some As.length) (hR : rm.frames + 1 ≤ R.frames ∧ 8 + (maxL + 11) + rm.locals ≤ R.locals)
    (q0 ci : Nat) {q : vw_C} {fs : List Value} (hc : vwCl[ci]? = some q) (hq : q.1 = C) (he : wa[q0]? = some (b, .inr (ci, fs))) (hst : (rest.map fun v => v.category).sum ≤ 8) (hdg : decode cc pc = .ok (.invokevirtual index, 3)) (hst0 : st0 = As.reverse ++ .ref b :: rest) (hf : cells + rm.cells ≤ R.cells ∧ slots + rm.slots ≤ R.slots)
    (kk : ∀ (H1 : Heap) (locs1 : List Loc), gw D A s.heap H1 locs1 (wa' ++ wb) → W p l e R s m args below meth c H1 locs1 (cells + rm.cells) (slots + rm.slots) Q (F0 m (pc + 3) ls (.int r :: rest))) : W p l e R s m args below meth c H locs cells slots Q (F0 m pc ls st0) := by
  subst hst0
  have hM1 := hM.left
  refine va_calli (va_runV hC.1 (hMet H.size) (cwV As.length hC.1.2.2.2.2 hG hw rfl rfl hd hR) ⟨gP.blind, hq ▸ va_recv hC.2.1 hM1.1 hc he, gP.pre hC.2 hM1 _⟩ rfl rfl hl rfl (lv_room hst) hdg hf) hM.2.2 (fun q _ h => hM1.free hA q h) (hM1.free hA) ?_
  intro r' u t H1 locs1 ht hvm hw1 hB hz1 hk1 hS
  obtain rfl : r' = r := hw1
  exact kk H1 locs1 (hM.jn hA ht hB hk1 hS)
theorem fV_v {C : String} (hC : gC p s m args c cc nL Ts own D cs) (hM : gw D A s.heap H locs (wa ++ wb)) (hA : ∀ q, s.heap.size ≤ q → A q) (hl : ls.size = nL)
    (As : List Value) (rest : List Value) (hMet : gMv l y wy rm D cs (.ref b :: As) wa wa') (hG : GoodIn Ts (wsV own index C y wy)) (hw : wy = Cond.code y bytes maxL ret :: wy') (hd : y.cls = C ∧ y.cls ≠ "java/lang/invoke/MethodHandle" ∧ y.cls ≠ "java/lang/invoke/VarHandle" ∧ (parseMethodDescriptor y.desc).map (fun d => d.parameters.length) = some As.length) (hR : rm.frames + 1 ≤ R.frames ∧ 8 + (maxL + 11) + rm.locals ≤ R.locals)
    (q0 ci : Nat) {q : vw_C} {fs : List Value} (hc : vwCl[ci]? = some q) (hq : q.1 = C) (he : wa[q0]? = some (b, .inr (ci, fs))) (hst : (rest.map fun v => v.category).sum ≤ 8) (hdg : decode cc pc = .ok (.invokevirtual index, 3)) (hst0 : st0 = As.reverse ++ .ref b :: rest) (hf : cells + rm.cells ≤ R.cells ∧ slots + rm.slots ≤ R.slots)
    (kk : ∀ (H1 : Heap) (locs1 : List Loc), gw D A s.heap H1 locs1 (wa' ++ wb) → W p l e R s m args below meth c H1 locs1 (cells + rm.cells) (slots + rm.slots) Q (F0 m (pc + 3) ls rest)) : W p l e R s m args below meth c H locs cells slots Q (F0 m pc ls st0) := by
  subst hst0
  have hM1 := hM.left
  refine va_callv (va_runV hC.1 (hMet H.size) (cwV As.length hC.1.2.2.2.2 hG hw rfl rfl hd hR) ⟨gP.blind, hq ▸ va_recv hC.2.1 hM1.1 hc he, gP.pre hC.2 hM1 _⟩ rfl rfl hl rfl (lv_room hst) hdg hf) hM.2.2 (fun q _ h => hM1.free hA q h) (hM1.free hA) ?_
  intro u t H1 locs1 ht hvm hw1 hB hz1 hk1 hS
  exact kk H1 locs1 (hM.jn hA ht hB hk1 hS)
theorem fX_i {C : String} {r : Int32} (hC : gC p s m args c cc nL Ts own D cs) (hM : gw D A s.heap H locs (wa ++ wb)) (hA : ∀ q, s.heap.size ≤ q → A q) (hl : ls.size = nL)
    (As : List Value) (rest : List Value) (hMet : gXi l y wy rm D cs (.ref b :: As) wa r S2) (hG : GoodIn Ts (wsV own index C y wy)) (hw : wy = Cond.code y bytes maxL ret :: wy') (hd : y.cls = C ∧ y.cls ≠ "java/lang/invoke/MethodHandle" ∧ y.cls ≠ "java/lang/invoke/VarHandle" ∧ (parseMethodDescriptor y.desc).map (fun d => d.parameters.length) = some As.length) (hR : rm.frames + 1 ≤ R.frames ∧ 8 + (maxL + 11) + rm.locals ≤ R.locals)
    (q0 ci : Nat) {q : vw_C} {fs : List Value} (hc : vwCl[ci]? = some q) (hq : q.1 = C) (he : wa[q0]? = some (b, .inr (ci, fs))) (hst : (rest.map fun v => v.category).sum ≤ 8) (hdg : decode cc pc = .ok (.invokevirtual index, 3)) (hst0 : st0 = As.reverse ++ .ref b :: rest) (hf : cells + rm.cells ≤ R.cells ∧ slots + rm.slots ≤ R.slots)
    (kk : ∀ (a : Nat → Nat) (q1 q2 : Nat) (H1 : Heap) (locs1 : List Loc), a 0 = b → gw D A s.heap H1 locs1 (ccells cs a q1 q2 S2 ++ wb) → W p l e R s m args below meth c H1 locs1 (cells + rm.cells) (slots + rm.slots) Q (F0 m (pc + 3) ls (.int r :: rest))) : W p l e R s m args below meth c H locs cells slots Q (F0 m pc ls st0) := by
  subst hst0
  have hM1 := hM.left
  refine va_calli (va_runV hC.1 (hMet H.size) (cwV As.length hC.1.2.2.2.2 hG hw rfl rfl hd hR) ⟨gP.blind, hq ▸ va_recv hC.2.1 hM1.1 hc he, gP.pre hC.2 hM1 _⟩ rfl rfl hl rfl (lv_room hst) hdg hf) hM.2.2 (fun q _ h => hM1.free hA q h) (hM1.free hA) ?_
  intro r' u t H1 locs1 ht hvm hw1 hB hz1 hk1 hS
  obtain ⟨rfl, h0⟩ := hw1
  exact kk u.1 u.2.1 u.2.2 H1 locs1 (hd_eq h0) (hM.jn hA ht hB hk1 hS)
theorem fX_v {C : String} (hC : gC p s m args c cc nL Ts own D cs) (hM : gw D A s.heap H locs (wa ++ wb)) (hA : ∀ q, s.heap.size ≤ q → A q) (hl : ls.size = nL)
    (As : List Value) (rest : List Value) (hMet : gXv l y wy rm D cs (.ref b :: As) wa S2) (hG : GoodIn Ts (wsV own index C y wy)) (hw : wy = Cond.code y bytes maxL ret :: wy') (hd : y.cls = C ∧ y.cls ≠ "java/lang/invoke/MethodHandle" ∧ y.cls ≠ "java/lang/invoke/VarHandle" ∧ (parseMethodDescriptor y.desc).map (fun d => d.parameters.length) = some As.length) (hR : rm.frames + 1 ≤ R.frames ∧ 8 + (maxL + 11) + rm.locals ≤ R.locals)
    (q0 ci : Nat) {q : vw_C} {fs : List Value} (hc : vwCl[ci]? = some q) (hq : q.1 = C) (he : wa[q0]? = some (b, .inr (ci, fs))) (hst : (rest.map fun v => v.category).sum ≤ 8) (hdg : decode cc pc = .ok (.invokevirtual index, 3)) (hst0 : st0 = As.reverse ++ .ref b :: rest) (hf : cells + rm.cells ≤ R.cells ∧ slots + rm.slots ≤ R.slots)
    (kk : ∀ (a : Nat → Nat) (q1 q2 : Nat) (H1 : Heap) (locs1 : List Loc), a 0 = b → gw D A s.heap H1 locs1 (ccells cs a q1 q2 S2 ++ wb) → W p l e R s m args below meth c H1 locs1 (cells + rm.cells) (slots + rm.slots) Q (F0 m (pc + 3) ls rest)) : W p l e R s m args below meth c H locs cells slots Q (F0 m pc ls st0) := by
  subst hst0
  have hM1 := hM.left
  refine va_callv (va_runV hC.1 (hMet H.size) (cwV As.length hC.1.2.2.2.2 hG hw rfl rfl hd hR) ⟨gP.blind, hq ▸ va_recv hC.2.1 hM1.1 hc he, gP.pre hC.2 hM1 _⟩ rfl rfl hl rfl (lv_room hst) hdg hf) hM.2.2 (fun q _ h => hM1.free hA q h) (hM1.free hA) ?_
  intro u t H1 locs1 ht hvm hw1 hB hz1 hk1 hS
  exact kk u.1 u.2.1 u.2.2 H1 locs1 (hd_eq hw1) (hM.jn hA ht hB hk1 hS)
theorem fG_i {C : String} {r : Int32} (hC : gC p s m args c cc nL Ts own D cs) (hM : gw D A s.heap H locs (ccells cs a q1 q2 S1 ++ wb)) (hA : ∀ q, s.heap.size ≤ q → A q) (hR' : gR adK s) (hZ : gZ adK adV A s s.heap) (hl : ls.size = nL)
    (As : List Value) (rest : List Value) (hMet : gGi l y wy fr lo D cs adK adV (.ref b :: As) a q1 q2 S1 r S2) (hG : GoodIn Ts (wsV own index C y wy)) (hw : wy = Cond.code y bytes maxL ret :: wy') (hd : y.cls = C ∧ y.cls ≠ "java/lang/invoke/MethodHandle" ∧ y.cls ≠ "java/lang/invoke/VarHandle" ∧ (parseMethodDescriptor y.desc).map (fun d => d.parameters.length) = some As.length) (hR : fr + 1 ≤ R.frames ∧ 8 + (maxL + 11) + lo ≤ R.locals)
    (q0 ci : Nat) {q : vw_C} {fs : List Value} (hc : vwCl[ci]? = some q) (hq : q.1 = C) (he : (ccells cs a q1 q2 S1)[q0]? = some (b, .inr (ci, fs))) (hst : (rest.map fun v => v.category).sum ≤ 8) (hdg : decode cc pc = .ok (.invokevirtual index, 3)) (hst0 : st0 = As.reverse ++ .ref b :: rest) (hf : cells + (ph S2 - ph S1) ≤ R.cells ∧ slots + 2 * (ph S2 - ph S1) ≤ R.slots)
    (kk : ∀ (q1 q2 : Nat) (H1 : Heap) (locs1 : List Loc), gw D A s.heap H1 locs1 (ccells cs a q1 q2 S2 ++ wb) → W p l e R s m args below meth c H1 locs1 (cells + (ph S2 - ph S1)) (slots + 2 * (ph S2 - ph S1)) Q (F0 m (pc + 3) ls (.int r :: rest))) : W p l e R s m args below meth c H locs cells slots Q (F0 m pc ls st0) := by
  subst hst0
  have hM1 := hM.left
  refine va_calli (va_runV hC.1 (hMet H.size) (cwV As.length hC.1.2.2.2.2 hG hw rfl rfl hd hR) ⟨gPz.blind, hq ▸ va_recv hC.2.1 hM1.1 hc he, gPz.pre hC.2 hM1 hA hR' hZ _⟩ rfl rfl hl rfl (lv_room hst) hdg hf) hM.2.2 (fun q _ h => hM1.free hA q h) (hM1.free hA) ?_
  intro r' u t H1 locs1 ht hvm hw1 hB hz1 hk1 hS
  obtain rfl : r' = r := hw1
  exact kk u.1 u.2 H1 locs1 (hM.jn hA ht hB hk1 hS)
theorem gU.pre {A : Nat → Prop} {w : va_W} (hM : gw D A s.heap H locs w) (hA : ∀ q, s.heap.size ≤ q → A q) (hU : gU A s s.heap) {U : State} (e : U.heap = H) (hW : s.WarmedH U.vm) : gU (va_A w H.size) U U.heap := by
  rw [e]
  exact ⟨((vx_Zq.moved hW.alike hU.1).kept hM.2.2.2.1).narrow (hM.free hA), ((vx_Zq.moved hW.alike hU.2).kept hM.2.2.2.1).narrow (hM.free hA)⟩
/-- finding, over the world's first part: it returns or throws -/
theorem fF_i {C : String} {r : Int32} {cd : Nat} (hC : gC p s m args c cc nL Ts own D cs) (hM : gw D A s.heap H locs (ccells cs a q1 q2 S1 ++ wb)) (hA : ∀ q, s.heap.size ≤ q → A q) (hR' : gR adK s) (hZ : gZ adK adV A s s.heap) (hT : gT s) (hU : gU A s s.heap) (hl : ls.size = nL)
    (As : List Value) (rest : List Value) (hMet : gF l y wy fr lo D cs adK adV (.ref b :: As) a q1 q2 S1 cd r S2) (hG : GoodIn Ts (wsV own index C y wy)) (hw : wy = Cond.code y bytes maxL ret :: wy') (hd : y.cls = C ∧ y.cls ≠ "java/lang/invoke/MethodHandle" ∧ y.cls ≠ "java/lang/invoke/VarHandle" ∧ (parseMethodDescriptor y.desc).map (fun d => d.parameters.length) = some As.length) (hR : fr + 1 ≤ R.frames ∧ 8 + (maxL + 11) + lo ≤ R.locals)
    (q0 ci : Nat) {q : vw_C} {fs : List Value} (hc : vwCl[ci]? = some q) (hq : q.1 = C) (he : (ccells cs a q1 q2 S1)[q0]? = some (b, .inr (ci, fs))) (hst : (rest.map fun v => v.category).sum ≤ 8) (hdg : decode cc pc = .ok (.invokevirtual index, 3)) (hst0 : st0 = As.reverse ++ .ref b :: rest) (hf : cells + (ph S2 - ph S1 + 1) ≤ R.cells ∧ slots + (2 * (ph S2 - ph S1) + 6) ≤ R.slots)
    (kx : ∀ (E : String) (ce : Cell) (q9 : Addr) (q1 q2 : Nat) (H1 : Heap) (locs1 : List Loc), E = exn cd → cd ≠ 0 → gw D A s.heap H1 locs1 (ccells cs a q1 q2 S2 ++ wb) → H1[q9]? = some ce → ce.vm = .none → s.vm.findClass E = some ce.cls → vx_W p l e R s m args below meth c H1 locs1 (cells + (ph S2 - ph S1 + 1)) (slots + (2 * (ph S2 - ph S1) + 6)) Q (F0 m pc ls rest) q9)
    (kk : cd = 0 → ∀ (q1 q2 : Nat) (H1 : Heap) (locs1 : List Loc), gw D A s.heap H1 locs1 (ccells cs a q1 q2 S2 ++ wb) → W p l e R s m args below meth c H1 locs1 (cells + (ph S2 - ph S1 + 1)) (slots + (2 * (ph S2 - ph S1) + 6)) Q (F0 m (pc + 3) ls (.int r :: rest))) : W p l e R s m args below meth c H locs cells slots Q (F0 m pc ls st0) := by
  subst hst0
  have hM1 := hM.left
  refine vx_calli (vx_runV hC.1 (hMet H.size) (cwV As.length hC.1.2.2.2.2 hG hw rfl rfl hd hR) ⟨gPf.blind, hq ▸ va_recv hC.2.1 hM1.1 hc he, fun U hU2 hW => ?_⟩ rfl rfl hl rfl (lv_room hst) hdg hf) hM.2.2 (fun q _ h => hM1.free hA q h) (hM1.free hA) (fun q _ h => hM1.free hA q h) ?_ ?_
  · have z := gPz.pre hC.2 hM1 hA hR' hZ (.ref b :: As) U hU2 hW
    exact ⟨z.1, z.2, hT.warm hW, gU.pre hM1 hA hU hU2 hW⟩
  · intro E ce q9 u t H1 locs1 ht hvm _ hB hz1 hk1 hS h5 h6 h7
    exact kx E ce q9 u.1 u.2 H1 locs1 hB.1.1 hB.1.2 (hM.jn hA ht hB.2 hk1 hS) h5 h6 h7
  · intro r' u t H1 locs1 ht hvm hw1 hB hz1 hk1 hS
    obtain ⟨h0, rfl⟩ := hw1
    exact kk h0 u.1 u.2 H1 locs1 (hM.jn hA ht hB hk1 hS)
end FRR
