/-! constructors: explicit worlds that grow; Arrays.fill over any world; wordOf -/
def gI (l : Launch) (y : MethodName) (wy : List Cond) (rm : Room) (D : va_G) (cs : Nat → ClassId) (adK adV : Nat → Nat) (As : List Value) (w0 : va_W) (F : (Nat → Nat) → va_W) : Prop :=
  ∀ sz : Nat, Met l y wy rm (va_Pc As (gPz D cs adK adV sz w0)) (va_Qv (fun (_ : Nat → Nat) => True) (fun u => gB D (va_A w0 sz) (F u)) (va_A w0 sz)) rm.cells rm.slots (va_A w0 sz)
theorem nd_of : ∀ {l : List Nat}, l.Nodup → va_nd l = true
  | [], _ => rfl
  | a :: l, h => by
    have h' := List.nodup_cons.mp h
    show (decide (a ∉ l) && va_nd l) = true
    rw [nd_of h'.2]; simp [h'.1]
theorem jn_A {w : va_W} {x : Nat × va_E} : [w.length].map (fun i => (w ++ [x])[i]?) = [x].map some := by simp
theorem jn_B {w : va_W} {x : Nat × va_E} : (List.range w.length).map (fun i => (w ++ [x])[i]?) = w.map some := by
  apply List.ext_getElem?
  intro i
  by_cases hi : i < w.length
  · simp [hi, List.getElem?_append_left hi]
  · simp [hi, Nat.not_lt.mp hi]
section GI
variable {l : Launch} {y : MethodName} {ws ws' : List Cond} {rm : Room} {cc : ByteArray} {maxL : Nat} {D : va_G} {cs : Nat → ClassId} {adK adV : Nat → Nat} {As : List Value} {w : va_W} {F : (Nat → Nat) → va_W}
theorem gIE (hy : plainName y.cls = true) (hyn : y.name = "<init>") (hw : ws = Cond.code y cc maxL none :: ws') (hA : (lg_sl As).length ≤ maxL)
    (body : ∀ (p : Program) (e : Env) (s : State) (m : MethodId) (args : Array Value) (below : List Frame) (meth : Method) (c : Code) (A : Nat → Prop) (Q : State → Prop),
      gC p s m args c cc maxL ws y.cls D cs → (∀ q, s.heap.size ≤ q → A q) → gR adK s → gZ adK adV A s s.heap → meth.name = "<init>" →
      (∀ (u : Nat → Nat) (H : Heap) (locs : List Loc) (cells slots pc : Nat) (ls : Array Slot), decode cc pc = .ok (.return_, 1) → gw D A s.heap H locs (F u) → cells ≤ rm.cells → slots ≤ rm.slots → W p l e rm s m args below meth c H locs cells slots Q (F0 m pc ls [])) →
      gw D A s.heap s.heap [] w → ∀ ls : Array Slot, lv_has ls maxL (lv_args 0 As) → W p l e rm s m args below meth c s.heap [] 0 0 Q (F0 m 0 ls [])) : gI l y ws rm D cs adK adV As w F := by
  intro sz
  refine Met.ofW (cc := cc) (maxL := maxL) (ret := none) hy hw ?_
  intro p e s m args below meth c s₁ B hml hv
  obtain ⟨rfl, ⟨hsz, hP, hK, hD0⟩, hR, hZ⟩ := hv
  subst hsz
  rw [lg_entry_eq]
  refine body p e s m _ below meth c (va_A w s.heap.size) _ ⟨⟨B.exec, B.bytes, hml, findClass_of_methodNamed B.named, atoms_spec B.pre⟩, hK⟩ (fun q h => Or.inr h) hR hZ ((name_of_methodNamed B.named B.method).1.trans hyn) ?_ ⟨hP, hD0.self, va_S.rf⟩ _ (lv_entry As hA)
  intro u H locs cells slots pc ls hd hM h1 h2
  refine W.widen h1 h2 ?_
  exact W.vret B.exec B.bytes B.returns (fun t ht hW => ⟨⟨u, rfl, trivial, by rw [ht]; exact hM.1, hM.2.1⟩, hM.2.2.F ht⟩) hM.2.2.2.2 hd (hlocks := B.notSynchronized)
end GI
section GIR
variable {p : Program} {l : Launch} {e : Env} {R : Room} {s : State} {m : MethodId} {args : Array Value} {below : List Frame} {meth : Method} {c : Code} {H : Heap} {locs : List Loc} {cells slots : Nat} {Q : State → Prop}
variable {cc : ByteArray} {pc nL : Nat} {ls : Array Slot} {rest : List Value} {D : va_G} {cs : Nat → ClassId} {A : Nat → Prop} {w w' : va_W} {Ts : List Cond} {own : String} {a : Nat} {adK adV : Nat → Nat}
theorem g_newi (hC : gC p s m args c cc nL Ts own D cs) (hM : gw D A s.heap H locs w) (hA : ∀ q, s.heap.size ≤ q → A q) (harr : Cond.arrayClass .int ∈ Ts) {n : Int32} (N' : Nat) (hn : ¬ n < 0) (hN : n.toNatClampNeg = N') (hle : N' ≤ 1000000) (hcells : cells + 1 ≤ R.cells) (hslots : slots + N' ≤ R.slots) (hdg : decode cc pc = .ok (.newarray .int, 2))
    (kk : ∀ (q : Nat) (H1 : Heap), gw D A s.heap H1 locs (w ++ [(q, .inl (cs 0, N', .inl (fun _ => 0)))]) → W p l e R s m args below meth c H1 locs (cells + 1) (slots + N') Q (F0 m (pc + 2) ls (.ref q :: rest))) : W p l e R s m args below meth c H locs cells slots Q (F0 m pc ls (.int n :: rest)) := by
  refine va_newa (a0 := (N', .inl (fun _ => 0))) (N' := N') (atype := .int) (ty := .int) hC.1.1 hC.1.2.1 (hC.1.2.2.2.2 _ harr) rfl hC.2.1 hM.1 hM.2.1 hM.2.2 hA (fun cA => rfl) hn hN (by show N' * 4 ≤ _; omega) hcells hslots hdg (fun q cA H hK2 hP hD hS => ?_)
  have e1 : cA = cs 0 := Option.some.inj ((hK2.2 4 _ rfl).2.symm.trans (hK2.2 0 _ rfl).2)
  subst e1
  exact kk q H ⟨hP, hD, hS⟩
theorem g_newb (hC : gC p s m args c cc nL Ts own D cs) (hM : gw D A s.heap H locs w) (hA : ∀ q, s.heap.size ≤ q → A q) (harr : Cond.arrayClass .byte ∈ Ts) {n : Int32} (N' : Nat) (hn : ¬ n < 0) (hN : n.toNatClampNeg = N') (hle : N' ≤ 1000000) (hcells : cells + 1 ≤ R.cells) (hslots : slots + N' ≤ R.slots) (hdg : decode cc pc = .ok (.newarray .byte, 2))
    (kk : ∀ (q : Nat) (H1 : Heap), gw D A s.heap H1 locs (w ++ [(q, .inl (cs 1, N', .inl (fun _ => 0)))]) → W p l e R s m args below meth c H1 locs (cells + 1) (slots + N') Q (F0 m (pc + 2) ls (.ref q :: rest))) : W p l e R s m args below meth c H locs cells slots Q (F0 m pc ls (.int n :: rest)) := by
  refine va_newa (a0 := (N', .inl (fun _ => 0))) (N' := N') (atype := .byte) (ty := .byte) hC.1.1 hC.1.2.1 (hC.1.2.2.2.2 _ harr) rfl hC.2.1 hM.1 hM.2.1 hM.2.2 hA (fun cA => rfl) hn hN (by show N' * 1 ≤ _; omega) hcells hslots hdg (fun q cA H hK2 hP hD hS => ?_)
  have e1 : cA = cs 1 := Option.some.inj ((hK2.2 4 _ rfl).2.symm.trans (hK2.2 1 _ rfl).2)
  subst e1
  exact kk q H ⟨hP, hD, hS⟩
theorem g_newz (hC : gC p s m args c cc nL Ts own D cs) (hM : gw D A s.heap H locs w) (hA : ∀ q, s.heap.size ≤ q → A q) (harr : Cond.arrayClass .boolean ∈ Ts) {n : Int32} (N' : Nat) (hn : ¬ n < 0) (hN : n.toNatClampNeg = N') (hle : N' ≤ 1000000) (hcells : cells + 1 ≤ R.cells) (hslots : slots + N' ≤ R.slots) (hdg : decode cc pc = .ok (.newarray .boolean, 2))
    (kk : ∀ (q : Nat) (H1 : Heap), gw D A s.heap H1 locs (w ++ [(q, .inl (cs 3, N', .inl (fun _ => 0)))]) → W p l e R s m args below meth c H1 locs (cells + 1) (slots + N') Q (F0 m (pc + 2) ls (.ref q :: rest))) : W p l e R s m args below meth c H locs cells slots Q (F0 m pc ls (.int n :: rest)) := by
  refine va_newa (a0 := (N', .inl (fun _ => 0))) (N' := N') (atype := .boolean) (ty := .boolean) hC.1.1 hC.1.2.1 (hC.1.2.2.2.2 _ harr) rfl hC.2.1 hM.1 hM.2.1 hM.2.2 hA (fun cA => rfl) hn hN (by show N' * 1 ≤ _; omega) hcells hslots hdg (fun q cA H hK2 hP hD hS => ?_)
  have e1 : cA = cs 3 := Option.some.inj ((hK2.2 4 _ rfl).2.symm.trans (hK2.2 3 _ rfl).2)
  subst e1
  exact kk q H ⟨hP, hD, hS⟩
theorem g_newl (hC : gC p s m args c cc nL Ts own D cs) (hM : gw D A s.heap H locs w) (hA : ∀ q, s.heap.size ≤ q → A q) (harr : Cond.arrayClass .long ∈ Ts) {n : Int32} (N' : Nat) (hn : ¬ n < 0) (hN : n.toNatClampNeg = N') (hle : N' ≤ 1000000) (hcells : cells + 1 ≤ R.cells) (hslots : slots + N' ≤ R.slots) (hdg : decode cc pc = .ok (.newarray .long, 2))
    (kk : ∀ (q : Nat) (H1 : Heap), gw D A s.heap H1 locs (w ++ [(q, .inl (cs 2, N', .inr (.inl (fun _ => 0))))]) → W p l e R s m args below meth c H1 locs (cells + 1) (slots + N') Q (F0 m (pc + 2) ls (.ref q :: rest))) : W p l e R s m args below meth c H locs cells slots Q (F0 m pc ls (.int n :: rest)) := by
  refine va_newa (a0 := (N', .inr (.inl (fun _ => 0)))) (N' := N') (atype := .long) (ty := .long) hC.1.1 hC.1.2.1 (hC.1.2.2.2.2 _ harr) rfl hC.2.1 hM.1 hM.2.1 hM.2.2 hA (fun cA => rfl) hn hN (by show N' * 8 ≤ _; omega) hcells hslots hdg (fun q cA H hK2 hP hD hS => ?_)
  have e1 : cA = cs 2 := Option.some.inj ((hK2.2 4 _ rfl).2.symm.trans (hK2.2 2 _ rfl).2)
  subst e1
  exact kk q H ⟨hP, hD, hS⟩
theorem g_new (hC : gC p s m args c cc nL Ts own D cs) (hM : gw D A s.heap H locs w) (hA : ∀ q, s.heap.size ≤ q → A q) {C : String} {T : u_T} {N ci index : Nat} (hin : ∀ w ∈ u_ws C T N, w ∈ Ts) (ty : Nat → FieldType) (hty : ∀ k, k < N → parseFieldDescriptor (T k).2.2.1 = some (ty k)) (hcl : Cond.classLink own index C ∈ Ts) (hinst : Cond.instantiable C N ∈ Ts) (hini : Cond.initialized C ∈ Ts)
    (hc : vwCl[ci]? = some (C, T, N)) (fs : List Value) (hfs : ∀ j, j < N → defaultValue (ty j) = vp_V fs j) (hcells : cells + 1 ≤ R.cells) (hslots : slots + N ≤ R.slots) (hdg : decode cc pc = .ok (.new index, 3))
    (kk : ∀ (q : Nat) (H1 : Heap), gw D A s.heap H1 locs (w ++ [(q, .inr (ci, fs))]) → W p l e R s m args below meth c H1 locs (cells + 1) (slots + N) Q (F0 m (pc + 3) ls (.ref q :: rest))) : W p l e R s m args below meth c H locs cells slots Q (F0 m pc ls rest) :=
  va_new hC.1.1 hC.1.2.1 hC.1.2.2.2.2 hin ty hty hC.1.2.2.2.1 (hC.1.2.2.2.2 _ hcl) (hC.1.2.2.2.2 _ hinst) (hC.1.2.2.2.2 _ hini) hC.2.1 hM.1 hM.2.1 hM.2.2 hA hc hfs hcells hslots hdg (fun q H1 h1 h2 h3 => kk q H1 ⟨h1, h2, h3⟩)
theorem g_putF (hC : gC p s m args c cc nL Ts own D cs) (hM : gw D A s.heap H locs w) {C fn fd : String} {T : u_T} {N ci index : Nat} (hin : ∀ w ∈ u_ws C T N, w ∈ Ts) {ty0 : Nat → FieldType} (hty : ∀ k, k < N → parseFieldDescriptor (T k).2.2.1 = some (ty0 k)) (hnm : ∀ a, a < N → ∀ b, b < N → a ≠ b → (T a).2.1 ≠ (T b).2.1) (q0 : Nat) {fs : List Value} (he : w[q0]? = some (a, .inr (ci, fs))) (hc : vwCl[ci]? = some (C, T, N)) (k : Nat) (hk : k < N) (hlink : Cond.fieldLink own index own fn fd ∈ Ts) (hT : T k = (own, fn, fd, true)) (hin2 : meth.name = "<init>") {ty : FieldType} (ht : ty0 k = ty) {v : Value} (hn : narrow ty v = v) (hfit : fits ty v = true) (hl : k < fs.length)
    (hset : w.set q0 (a, .inr (ci, fs.set k v)) = w') (hdg : decode cc pc = .ok (.putfield index, 3))
    (kk : ∀ (H1 : Heap) (locs1 : List Loc), gw D A s.heap H1 locs1 w' → W p l e R s m args below meth c H1 locs1 cells slots Q (F0 m (pc + 3) ls rest)) : W p l e R s m args below meth c H locs cells slots Q (F0 m pc ls (v :: .ref a :: rest)) :=
  va_putF (D := D) hC.1.1 hC.1.2.1 hC.1.2.2.2.2 hin ty0 hty hnm hC.1.2.2.2.1 hC.2.1 hM.1 hM.2.1 hM.2.2 q0 he hc k hk (by rw [hT]; exact hC.1.2.2.2.2 _ hlink) (by rw [hT]; exact fun _ h => h) (by rw [hT]) hin2 (by rw [hT]) (by rw [hty k hk, ht]) hn hfit hl hdg (fun H1 locs1 h1 h2 h3 => kk H1 locs1 ⟨hset ▸ h1, hset ▸ h2, h3⟩)
variable {index n maxL : Nat} {y : MethodName} {bytes : ByteArray} {wy wy' : List Cond} {rm : Room} {b : Addr} {st0 : List Value} {c0 : va_E} {F : (Nat → Nat) → va_W}
theorem g_sub1 (hM : gw D A s.heap H locs (w ++ [(b, c0)])) : gw D A s.heap H locs [(b, c0)] := ⟨hM.1.sub [w.length] (by simp), hM.2.1.sub [w.length] rfl (by simp), hM.2.2⟩
theorem g_jn (hM : gw D A s.heap H locs (w ++ [(b, c0)])) {t : State} {H1 : Heap} {locs1 : List Loc} {w1 : va_W} (hA : ∀ q, s.heap.size ≤ q → A q) (ht : t.heap = H1) (hB : gB D (va_A [(b, c0)] H.size) w1 t) (hk1 : ∀ q : Nat, q < H.size → ¬ va_A [(b, c0)] H.size q → H1[q]? = H[q]?) (hS : va_S A s.heap H1 locs1) : gw D A s.heap H1 locs1 (w ++ w1) := by
  have j := va_join (wr := w) (w1 := w1) hM.1 hM.2.1 [w.length] (List.range w.length) jn_A jn_B (nd_of List.nodup_range) (by intro i hi; simp at hi ⊢; omega) hk1 ((g_sub1 hM).free hA) (by rw [← ht]; exact hB.1) hB.2
  exact ⟨j.1, j.2, hS⟩
theorem gI_v (hC : gC p s m args c cc nL Ts own D cs) (hM : gw D A s.heap H locs (w ++ [(b, c0)])) (hA : ∀ q, s.heap.size ≤ q → A q) (hR' : gR adK s) (hZ : gZ adK adV A s s.heap) (hl : ls.size = nL)
    (As : List Value) (rest : List Value) (hMet : gI l y wy rm D cs adK adV (.ref b :: As) [(b, c0)] F) (hG : GoodIn Ts wy) (hi : Cond.initialized y.cls ∈ Ts) (hlk : Cond.methodLink own index y ∈ Ts) (hins : Cond.instanceMethod y ∈ Ts) (hyn : y.name = "<init>") (hw : wy = Cond.code y bytes maxL none :: wy') (hd : y.cls ≠ "java/lang/invoke/MethodHandle" ∧ y.cls ≠ "java/lang/invoke/VarHandle" ∧ (parseMethodDescriptor y.desc).map (fun d => d.parameters.length) = some As.length) (hR : rm.frames + 1 ≤ R.frames ∧ 8 + (maxL + 11) + rm.locals ≤ R.locals)
    (hst : (rest.map fun v => v.category).sum ≤ 8) (hdg : decode cc pc = .ok (.invokespecial index, 3)) (hst0 : st0 = As.reverse ++ .ref b :: rest) (hf : cells + rm.cells ≤ R.cells ∧ slots + rm.slots ≤ R.slots)
    (kk : ∀ (u : Nat → Nat) (H1 : Heap) (locs1 : List Loc), gw D A s.heap H1 locs1 (w ++ F u) → W p l e R s m args below meth c H1 locs1 (cells + rm.cells) (slots + rm.slots) Q (F0 m (pc + 3) ls rest)) : W p l e R s m args below meth c H locs cells slots Q (F0 m pc ls st0) := by
  subst hst0
  have hM1 := g_sub1 hM
  refine va_callv (va_runI hC.1 (hMet H.size) ⟨callB_of As.length hC.1.2.2.2.2 hG hw rfl rfl (hC.1.2.2.2.2 _ hi) (hC.1.2.2.2.2 _ hlk) hd hR, hyn, hC.1.2.2.2.2 _ hins⟩ ⟨gPz.blind, gPz.pre hC.2 hM1 hA hR' hZ _⟩ rfl rfl hl rfl (lv_room hst) hdg hf) hM.2.2 (fun q _ h => hM1.free hA q h) (hM1.free hA) ?_
  intro u t H1 locs1 ht hvm hw1 hB hz1 hk1 hS
  exact kk u H1 locs1 (g_jn hM hA ht hB hk1 hS)
theorem gI_n {host : String} (hC : gC p s m args c cc nL Ts own D cs) (hM : gw D A s.heap H locs (w ++ [(b, c0)])) (hA : ∀ q, s.heap.size ≤ q → A q) (hR' : gR adK s) (hZ : gZ adK adV A s s.heap) (hl : ls.size = nL)
    (As : List Value) (rest : List Value) (hMet : gI l y wy rm D cs adK adV (.ref b :: As) [(b, c0)] F) (hG : GoodIn Ts wy) (hi : Cond.initialized y.cls ∈ Ts) (hnw : (own, index, y, host) ∈ nwl) (hins : Cond.instanceMethod y ∈ Ts) (hyn : y.name = "<init>") (hw : wy = Cond.code y bytes maxL none :: wy') (hd : y.cls ≠ "java/lang/invoke/MethodHandle" ∧ y.cls ≠ "java/lang/invoke/VarHandle" ∧ (parseMethodDescriptor y.desc).map (fun d => d.parameters.length) = some As.length) (hR : rm.frames + 1 ≤ R.frames ∧ 8 + (maxL + 11) + rm.locals ≤ R.locals)
    (hst : (rest.map fun v => v.category).sum ≤ 8) (hdg : decode cc pc = .ok (.invokespecial index, 3)) (hst0 : st0 = As.reverse ++ .ref b :: rest) (hf : cells + rm.cells ≤ R.cells ∧ slots + rm.slots ≤ R.slots)
    (kk : ∀ (u : Nat → Nat) (H1 : Heap) (locs1 : List Loc), gw D A s.heap H1 locs1 (w ++ F u) → W p l e R s m args below meth c H1 locs1 (cells + rm.cells) (slots + rm.slots) Q (F0 m (pc + 3) ls rest)) : W p l e R s m args below meth c H locs cells slots Q (F0 m pc ls st0) := by
  subst hst0
  have hM1 := g_sub1 hM
  refine va_callv (va_runIN hC.1 (hMet H.size) ⟨va_cnB As.length hC.1.2.2.2.2 hG hw rfl rfl (hC.2.2 _ hnw) (hC.1.2.2.2.2 _ hi) hd hR, hyn, hC.1.2.2.2.2 _ hins⟩ ⟨gPz.blind, gPz.pre hC.2 hM1 hA hR' hZ _⟩ rfl rfl hl rfl (lv_room hst) hdg hf) hM.2.2 (fun q _ h => hM1.free hA q h) (hM1.free hA) ?_
  intro u t H1 locs1 ht hvm hw1 hB hz1 hk1 hS
  exact kk u H1 locs1 (g_jn hM hA ht hB hk1 hS)
end GIR
def fillf (f : Nat → Int32) (v : Int32) (i : Nat) : Nat → Int32 := fun j => if j < i then v else f j
theorem fillf_0 {f : Nat → Int32} {v : Int32} : fillf f v 0 = f := by funext j; simp [fillf]
theorem fillf_s {f : Nat → Int32} {v : Int32} {i : Nat} : upd (fillf f v i) i v = fillf f v (i + 1) := by
  funext j
  simp only [upd, fillf]
  by_cases h : j = i
  · simp [h]
  · by_cases h2 : j < i
    · simp [h, h2, Nat.lt_succ_of_lt h2]
    · simp [h, h2, show ¬ j < i + 1 by omega]
theorem set_same {w : va_W} {k : Nat} {x : Nat × va_E} (h : w[k]? = some x) : w.set k x = w := by
  apply List.ext_getElem?
  intro i
  by_cases hi : k = i
  · subst hi
    rw [List.getElem?_set_self (List.getElem?_eq_some_iff.mp h).1, h]
  · simp [hi]
abbrev rmfill : Room := { frames := 0, cells := 0, slots := 0, locals := 0 }
set_option maxRecDepth 100000 in
set_option maxHeartbeats 4000000 in
theorem c_fillG (l : Launch) (D : va_G) (cs : Nat → ClassId) (w : va_W) {k0 b n : Nat} {f : Nat → Int32} (v : Int32) (hk : w[k0]? = some (b, .inl (cs 0, n, .inl f))) (hn : n < 2 ^ 31) : gMv l yJ7_fill_53178 wsJ7_fill_53178 rmfill D cs [.ref b, .int v] w (w.set k0 (b, .inl (cs 0, n, .inl (fillf f v n)))) := by
  have hkl : k0 < w.length := (List.getElem?_eq_some_iff.mp hk).1
  refine gE_v (cc := cJ7_fill_53178) (maxL := 4) (by decide) rfl (Nat.le_of_ble_eq_true rfl) ?_
  intro p e s m args below meth c A Q hC hA hQ hM ls hl
  obtain ⟨hx, hb, hml, hown, hts⟩ := hC.1
  have hl : lv_has ls 4 [(0, .ref b), (1, .int v)] := hl
  have loop : ∀ (d i : Nat), i + d = n → ∀ (H : Heap) (locs : List Loc) (ls : Array Slot), gw D A s.heap H locs (w.set k0 (b, .inl (cs 0, n, .inl (fillf f v i)))) → lv_has ls 4 [(0, .ref b), (1, .int v), (2, .int (nI i)), (3, .int (nI n))] → W p l e rmfill s m args below meth c H locs 0 0 Q (F0 m 5 ls []) := by
    intro d
    induction d with
    | zero =>
      intro i hi H locs ls hM hl
      have e1 : i = n := by omega
      subst e1
      refine lv_iload_n hx hb dJ7_fill_53178_5 rfl (lv_at hl 2 rfl) ?_
      refine lv_iload_n hx hb dJ7_fill_53178_6 rfl (lv_at hl 3 rfl) ?_
      refine lv_icmp_ge (tgt := 20) hx hb dJ7_fill_53178_7 (by decide) (fun c1 => ?_) (fun c1 => absurd (nI_le (Nat.le_refl _) hn) c1)
      exact hQ _ _ _ _ _ _ dJ7_fill_53178_20 hM (by decide) (by decide)
    | succ d ih =>
      intro i hi H locs ls hM hl
      have hlt : i < n := by omega
      refine lv_iload_n hx hb dJ7_fill_53178_5 rfl (lv_at hl 2 rfl) ?_
      refine lv_iload_n hx hb dJ7_fill_53178_6 rfl (lv_at hl 3 rfl) ?_
      refine lv_icmp_ge (tgt := 20) hx hb dJ7_fill_53178_7 (by decide) (fun c1 => absurd c1 (nI_ge hlt hn)) (fun c1 => ?_)
      refine lv_aload_n hx hb dJ7_fill_53178_10 rfl (lv_at hl 0 rfl) ?_
      refine lv_iload_n hx hb dJ7_fill_53178_11 rfl (lv_at hl 2 rfl) ?_
      refine lv_iload_n hx hb dJ7_fill_53178_12 rfl (lv_at hl 1 rfl) ?_
      refine g_iast (w' := w.set k0 (b, .inl (cs 0, n, .inl (fillf f v (i + 1))))) hC hM k0 (f := fillf f v i) (by simp [hkl]) (vp_in_nI hlt hn) (by rw [List.set_set, nI_clamp (by omega), fillf_s]) dJ7_fill_53178_13 (fun H locs hM => ?_)
      refine lv_iinc (v := nI (i + 1)) (lv' := [(2, .int (nI (i + 1))), (0, .ref b), (1, .int v), (3, .int (nI n))]) hx hb dJ7_fill_53178_14 hl (k := 2) rfl (nI_1 i) (by decide) rfl (fun ls hl => ?_)
      refine lv_goto (tgt := 5) hx hb dJ7_fill_53178_17 (by decide) ?_
      exact ih (i + 1) (by omega) H locs ls hM (lv_sub hl [1, 2, 0, 3] rfl)
  refine lv_iconst (v := 0) hx hb dJ7_fill_53178_0 (by decide) ?_
  refine lv_istore_n (lv' := [(2, .int 0), (0, .ref b), (1, .int v)]) hx hb dJ7_fill_53178_1 rfl hl (by decide) rfl (fun ls hl => ?_)
  refine lv_aload_n hx hb dJ7_fill_53178_2 rfl (lv_at hl 1 rfl) ?_
  refine va_alen (v := nI n) hx hb hC.2.1 hM.1 k0 0 hk rfl rfl dJ7_fill_53178_3 ?_
  refine lv_istore_n (lv' := [(3, .int (nI n)), (2, .int 0), (0, .ref b), (1, .int v)]) hx hb dJ7_fill_53178_4 rfl hl (by decide) rfl (fun ls hl => ?_)
  refine loop n 0 (by omega) _ _ ls ?_ (lv_sub hl [2, 3, 1, 0] rfl)
  rw [fillf_0, set_same hk]
  exact hM
/-- wordOf of a constant String -/
def gSl (l : Launch) (y : MethodName) (wy : List Cond) (rm : Room) (D : va_G) (cs : Nat → ClassId) (adK adV : Nat → Nat) (As : List Value) (w : va_W) (r : Int64) : Prop :=
  ∀ sz : Nat, Met l y wy rm (va_Pc As (gPz D cs adK adV sz w)) (va_Ql (fun r' (_ : Unit) => r' = r) (fun _ => gB D (va_A w sz) w) (va_A w sz)) rm.cells rm.slots (va_A w sz)
def b_X10_wordOf_4 (i : Nat) (k4 : Int64 → Int32 → Option Int64) (w1 : Int64) (v2 : Int32) : Option Int64 :=
  if (Int32.ofNat (zlen.getD i 0)) ≤ v2 then
    some w1
  else
    ck v2 (zlen.getD i 0) <|
    k4 ((w1 <<< ((5 : Int32).toInt64 &&& 63)) ||| (zch i v2.toNatClampNeg - 96).toInt64) (v2 + 1)
def f_X10_wordOf (N : Nat) (i : Nat) : Option Int64 :=
  jp (lp (fun _ _ => none) (b_X10_wordOf_4 i) N) fun k4 =>
  k4 0 0
abbrev rmwordOf : Room := { frames := 4, cells := 0, slots := 0, locals := 85 }
set_option maxRecDepth 100000 in
set_option maxHeartbeats 4000000 in
theorem c_wordOf (l : Launch) (D : va_G) (cs : Nat → ClassId) (adK adV : Nat → Nat) (w : va_W) (N : Nat) {i : Nat} (hi : i < 10) (rz : Int64) (hf : f_X10_wordOf N i = some rz) : gSl l yX10_wordOf wsX10_wordOf rmwordOf D cs adK adV [.ref (adK i)] w rz := by
  unfold f_X10_wordOf at hf
  intro sz
  refine Met.ofW (cc := cX10_wordOf) (maxL := 4) (ret := some .long) (by decide) rfl ?_
  intro p e s m args below meth c s₁ B hml hv
  obtain ⟨rfl, ⟨hsz, hP, hK, hD0⟩, hR, hZ⟩ := hv
  subst hsz
  rw [lg_entry_eq]
  have hl := lv_entry ([.ref (adK i)]) (n := 4) (Nat.le_of_ble_eq_true rfl)
  generalize (lg_sl ([.ref (adK i)]) ++ List.replicate (4 - (lg_sl ([.ref (adK i)])).length) Slot.unset).toArray = ls at hl ⊢
  have hl : lv_has ls 4 [(0, .ref (adK i))] := hl
  have hC : gC p s m _ c cX10_wordOf 4 wsX10_wordOf RX10 D cs := ⟨⟨B.exec, B.bytes, hml, findClass_of_methodNamed B.named, atoms_spec (ws := wsX10_wordOf) B.pre⟩, hK⟩
  obtain ⟨hx, hb, hml, hown, hts⟩ := hC.1
  have hM : gw D (va_A w s.heap.size) s.heap s.heap [] w := ⟨hP, hD0.self, va_S.rf⟩
  have hA : ∀ q, s.heap.size ≤ q → va_A w s.heap.size q := fun q h => Or.inr h
  refine lv_lconst (v := 0) hx hb dX10_wordOf_0 (by decide) ?_
  refine lv_lstore_n (lv' := [(1, .long 0), (0, .ref (adK i))]) hx hb dX10_wordOf_1 rfl hl (by decide) rfl (fun ls hl => ?_)
  refine lv_iconst (v := 0) hx hb dX10_wordOf_2 (by decide) ?_
  refine lv_istore_n (lv' := [(3, .int 0), (1, .long 0), (0, .ref (adK i))]) hx hb dX10_wordOf_3 rfl hl (by decide) rfl (fun ls hl => ?_)
  refine jl_W (fun k4 : Int64 → Int32 → Option Int64 => ∀ (w1 : Int64) (v2 : Int32), k4 w1 v2 = some rz → ∀ (H : Heap) (locs : List Loc) (ls : Array Slot), gw D (va_A w s.heap.size) s.heap H locs w → lv_has ls 4 [(0, .ref (adK i)), (1, .long w1), (3, .int v2)] → W p l e rmwordOf s m #[Value.ref (adK i)] below meth c H locs 0 0 (MQ below (va_Ql (fun r' (_ : Unit) => r' = rz) (fun _ => gB D (va_A w s.heap.size) w) (va_A w s.heap.size)) #[Value.ref (adK i)] s 0 0 (va_A w s.heap.size)) (F0 m 4 ls [])) ?_ ?_ ?_ hf
  · intro w1 v2 h; cases h
  · intro k4 hk4 w1 v2 hf H locs ls hM hl
    unfold b_X10_wordOf_4 at hf
    refine lv_iload_n hx hb dX10_wordOf_4 rfl (lv_at hl 2 rfl) ?_
    refine lv_aload_n hx hb dX10_wordOf_5 rfl (lv_at hl 0 rfl) ?_
    refine gSV_i hC hM hA hR hZ hl.1 [] [.int v2] (c_length l D cs adK adV w hi) gX10_wordOf_J0_length_8abf5 rfl hd_J0_length ⟨by decide, by decide⟩ (vk_recv hZ.1 hi hM.2.2) (Nat.le_of_ble_eq_true rfl) dX10_wordOf_6 rfl ⟨by decide, by decide⟩ (fun H locs hM => ?_)
    refine lv_icmp_ge (tgt := 32) hx hb dX10_wordOf_9 (by decide) (fun c1 => ?_) (fun c1 => ?_)
    · replace hf := it_t c1 hf
      cases so_1 hf
      refine lv_lload_n hx hb dX10_wordOf_32 rfl (lv_at hl 1 rfl) ?_
      refine W.widen (k := 0) (n := 0) (by decide) (by decide) ?_
      exact W.lret hx hb B.returns (fun t ht hW => ⟨⟨_, (), rfl, rfl, by rw [ht]; exact hM.1, hM.2.1⟩, hM.2.2.F ht⟩) hM.2.2.2.2 dX10_wordOf_33 (hlocks := B.notSynchronized)
    · replace hf := it_f c1 hf
      obtain ⟨h2, hf⟩ := ck_s hf
      refine lv_lload_n hx hb dX10_wordOf_12 rfl (lv_at hl 1 rfl) ?_
      refine lv_iconst (v := 5) hx hb dX10_wordOf_13 (by decide) ?_
      refine lv_lshl hx hb dX10_wordOf_14 rfl ?_
      refine lv_aload_n hx hb dX10_wordOf_15 rfl (lv_at hl 0 rfl) ?_
      refine lv_iload_n hx hb dX10_wordOf_16 rfl (lv_at hl 2 rfl) ?_
      refine gSV_i hC hM hA hR hZ hl.1 [.int v2] [.long (w1 <<< ((5 : Int32).toInt64 &&& 63))] (c_charAt l D cs adK adV w hi v2 (fun q => h2 (Or.inl q)) (Int32.not_le.mp c1) h2) gX10_wordOf_J0_charAt_5068e rfl hd_J0_charAt ⟨by decide, by decide⟩ (vk_recv hZ.1 hi hM.2.2) (Nat.le_of_ble_eq_true rfl) dX10_wordOf_17 rfl ⟨by decide, by decide⟩ (fun H locs hM => ?_)
      refine lv_bipush (v := 96) hx hb dX10_wordOf_20 (by decide) ?_
      refine lv_isub hx hb dX10_wordOf_22 ?_
      refine lv_i2l hx hb dX10_wordOf_23 rfl ?_
      refine lv_lor hx hb dX10_wordOf_24 ?_
      refine lv_lstore_n (lv' := [(1, .long ((w1 <<< ((5 : Int32).toInt64 &&& 63)) ||| (zch i v2.toNatClampNeg - 96).toInt64)), (0, .ref (adK i)), (3, .int v2)]) hx hb dX10_wordOf_25 rfl hl (by decide) rfl (fun ls hl => ?_)
      refine lv_iinc (v := v2 + 1) (lv' := [(3, .int (v2 + 1)), (1, .long ((w1 <<< ((5 : Int32).toInt64 &&& 63)) ||| (zch i v2.toNatClampNeg - 96).toInt64)), (0, .ref (adK i))]) hx hb dX10_wordOf_26 hl (k := 2) rfl rfl (by decide) rfl (fun ls hl => ?_)
      refine lv_goto (tgt := 4) hx hb dX10_wordOf_29 (by decide) ?_
      exact hk4 _ _ hf _ _ _ hM (lv_sub hl [2, 1, 0] rfl)
  · intro k4 hk4 hf
    exact hk4 _ _ hf _ _ _ hM (lv_sub hl [2, 1, 0] rfl)
theorem gNl {p : Program} {l : Launch} {e : Env} {R : Room} {s : State} {m : MethodId} {args : Array Value} {below : List Frame} {meth : Method} {c : Code} {H : Heap} {locs : List Loc} {cells slots : Nat} {Q : State → Prop} {cc : ByteArray} {pc nL : Nat} {ls : Array Slot} {D : va_G} {cs : Nat → ClassId} {A : Nat → Prop} {w : va_W} {Ts : List Cond} {own : String} {adK adV : Nat → Nat} {index maxL : Nat} {y : MethodName} {bytes : ByteArray} {ret : Option FieldType} {wy wy' : List Cond} {rm : Room} {st0 : List Value}
    {host : String} {r : Int64} (hC : gC p s m args c cc nL Ts own D cs) (hM : gw D A s.heap H locs w) (hA : ∀ q, s.heap.size ≤ q → A q) (hR' : gR adK s) (hZ : gZ adK adV A s s.heap) (hl : ls.size = nL)
    (As : List Value) (rest : List Value) (hMet : gSl l y wy rm D cs adK adV As w r) (hG : GoodIn Ts wy) (hs : Cond.static y ∈ Ts) (hi : Cond.initialized y.cls ∈ Ts) (hnw : (own, index, y, host) ∈ nwl) (hw : wy = Cond.code y bytes maxL ret :: wy') (hd : y.cls ≠ "java/lang/invoke/MethodHandle" ∧ y.cls ≠ "java/lang/invoke/VarHandle" ∧ (parseMethodDescriptor y.desc).map (fun d => d.parameters.length) = some As.length) (hR : rm.frames + 1 ≤ R.frames ∧ 8 + (maxL + 11) + rm.locals ≤ R.locals)
    (hst : (rest.map fun v => v.category).sum ≤ 8) (hdg : decode cc pc = .ok (.invokestatic index, 3)) (hst0 : st0 = As.reverse ++ rest) (hf : cells + rm.cells ≤ R.cells ∧ slots + rm.slots ≤ R.slots)
    (kk : ∀ (H1 : Heap) (locs1 : List Loc), gw D A s.heap H1 locs1 w → W p l e R s m args below meth c H1 locs1 (cells + rm.cells) (slots + rm.slots) Q (F0 m (pc + 3) ls (.long r :: rest))) : W p l e R s m args below meth c H locs cells slots Q (F0 m pc ls st0) := by
  subst hst0
  refine va_calll (va_runSN hC.1 (hMet H.size) ⟨va_cnB As.length hC.1.2.2.2.2 hG hw rfl rfl (hC.2.2 _ hnw) (hC.1.2.2.2.2 _ hi) hd hR, hC.1.2.2.2.2 _ hs, trivial⟩ ⟨gPz.blind, gPz.pre hC.2 hM hA hR' hZ _⟩ rfl rfl hl rfl (lv_room hst) hdg hf) hM.2.2 (fun q _ h => hM.free hA q h) (hM.free hA) ?_
  intro r' u t H1 locs1 ht hvm hw1 hB hz1 hk1 hS
  obtain rfl : r' = r := hw1
  exact kk H1 locs1 ⟨by rw [← ht]; exact hB.1, hB.2.weaken (fun k q h h2 => hM.free hA _ h2), hS⟩
theorem hd_X10_wordOf : yX10_wordOf.cls ≠ "java/lang/invoke/MethodHandle" ∧ yX10_wordOf.cls ≠ "java/lang/invoke/VarHandle" ∧ (parseMethodDescriptor yX10_wordOf.desc).map (fun d => d.parameters.length) = some 1 := by decide +kernel
def zw (i : Nat) : Int64 := (f_X10_wordOf 20 i).getD 0
theorem zw_0 : f_X10_wordOf 20 0 = some (zw 0) := by decide +kernel
theorem zw_1 : f_X10_wordOf 20 1 = some (zw 1) := by decide +kernel
theorem zw_2 : f_X10_wordOf 20 2 = some (zw 2) := by decide +kernel
theorem zw_3 : f_X10_wordOf 20 3 = some (zw 3) := by decide +kernel
theorem zw_4 : f_X10_wordOf 20 4 = some (zw 4) := by decide +kernel
