/-! base: a state as numbers by role and place; a method as a pure partial function; contracts and rows over a whole world -/
abbrev St : Type := (Nat → Nat → Int32) × (Nat → Nat → Int64)
def puI (S : St) (r k : Nat) (v : Int32) : St := (fun r' => if r' = r then upd (S.1 r) k v else S.1 r', S.2)
def puL (S : St) (r k : Nat) (v : Int64) : St := (S.1, fun r' => if r' = r then vp_updL (S.2 r) k v else S.2 r')
def nm {α β : Type} (x : α) (k : α → β) : β := k x
def ck {β : Type} (i : Int32) (n : Nat) (k : Option β) : Option β := if i < 0 ∨ n ≤ i.toNatClampNeg then none else k
def bz {β : Type} (v : Int32) (k : Option β) : Option β := if v = 0 ∨ v = 1 then k else none
def dz {β : Type} (v : Int32) (k : Option β) : Option β := if v = 0 then none else k
def bd {α β : Type} (x : Option α) (k : α → Option β) : Option β := match x with
  | none => none
  | some a => k a
def bd2 {α β γ : Type} (x : Option (α × β)) (k : α → β → Option γ) : Option γ := match x with
  | none => none
  | some (a, b) => k a b
def zb {β : Type} (x : Option (Int32 × β)) : Option (Int32 × β) := bd2 x fun r S => bz r (some (r, S))
def z1 (x : Option Int32) : Option Int32 := bd x fun r => bz r (some r)
def lp {κ : Type} (z : κ) (body : κ → κ) : Nat → κ
  | 0 => z
  | n + 1 => body (lp z body n)
def jp {κ β : Type} (j : κ) (mn : κ → Option β) : Option β := mn j
theorem ck_s {β : Type} {i : Int32} {n : Nat} {k : Option β} {r : β} (h : ck i n k = some r) : vp_in i n ∧ k = some r := by
  unfold ck at h
  split at h
  · cases h
  · next q => exact ⟨q, h⟩
theorem bz_s {β : Type} {v : Int32} {k : Option β} {r : β} (h : bz v k = some r) : (v = 0 ∨ v = 1) ∧ k = some r := by
  unfold bz at h
  split at h
  · next q => exact ⟨q, h⟩
  · cases h
theorem dz_s {β : Type} {v : Int32} {k : Option β} {r : β} (h : dz v k = some r) : ¬ v = 0 ∧ k = some r := by
  unfold dz at h
  split at h
  · cases h
  · next q => exact ⟨q, h⟩
theorem bd_s {α β : Type} {x : Option α} {k : α → Option β} {r : β} (h : bd x k = some r) : ∃ a, x = some a ∧ k a = some r := by
  cases x with
  | none => cases h
  | some a => exact ⟨a, rfl, h⟩
theorem bd2_s {α β γ : Type} {x : Option (α × β)} {k : α → β → Option γ} {r : γ} (h : bd2 x k = some r) : ∃ (a : α) (b : β), x = some (a, b) ∧ k a b = some r := by
  cases x with
  | none => cases h
  | some a => exact ⟨a.1, a.2, rfl, h⟩
theorem zb_s {β : Type} {x : Option (Int32 × β)} {r : Int32} {S : β} (h : zb x = some (r, S)) : (r = 0 ∨ r = 1) ∧ x = some (r, S) := by
  obtain ⟨a, b, h1, h2⟩ := bd2_s h
  obtain ⟨h3, h4⟩ := bz_s h2
  cases h4
  exact ⟨h3, h1⟩
theorem z1_s {x : Option Int32} {r : Int32} (h : z1 x = some r) : (r = 0 ∨ r = 1) ∧ x = some r := by
  obtain ⟨a, h1, h2⟩ := bd_s h
  obtain ⟨h3, h4⟩ := bz_s h2
  cases h4
  exact ⟨h3, h1⟩
theorem it_t {c : Prop} [Decidable c] {α : Type} {x y r : α} (h : c) (hf : (if c then x else y) = r) : x = r := by rw [if_pos h] at hf; exact hf
theorem it_f {c : Prop} [Decidable c] {α : Type} {x y r : α} (h : ¬ c) (hf : (if c then x else y) = r) : y = r := by rw [if_neg h] at hf; exact hf
theorem nm_q {α β : Type} {x y : α} {k : α → β} {r : β} (e : y = x) (h : nm x k = r) : k y = r := by subst e; exact h
theorem so_1 {α : Type} {x y : α} (h : some x = some y) : x = y := Option.some.inj h
theorem so_2 {α β : Type} {x y : α} {u v : β} (h : some (x, u) = some (y, v)) : x = y ∧ u = v := by cases h; exact ⟨rfl, rfl⟩
theorem lp_W {κ : Type} {z : κ} {body : κ → κ} (R : κ → Prop) (h0 : R z) (hs : ∀ k, R k → R (body k)) : ∀ n, R (lp z body n) := by
  intro n
  induction n with
  | zero => exact h0
  | succ n ih => exact hs _ ih
theorem jp_W {κ β : Type} {j : κ} {mn : κ → Option β} {r : β} {G : Prop} (R : κ → Prop) (hj : R j) (hm : ∀ k : κ, R k → mn k = some r → G) (h : jp j mn = some r) : G := hm j hj h
theorem jl_W {κ β : Type} {z : κ} {body : κ → κ} {N : Nat} {mn : κ → Option β} {r : β} {G : Prop} (R : κ → Prop) (h0 : R z) (hs : ∀ k, R k → R (body k)) (hm : ∀ k : κ, R k → mn k = some r → G) (h : jp (lp z body N) mn = some r) : G := hm _ (lp_W R h0 hs N) h
theorem bz_n {v : Int32} (h : v = 0 ∨ v = 1) : narrow .boolean (.int v) = .int v := by rcases h with rfl | rfl <;> decide
theorem bz_fit {v : Int32} (h : v = 0 ∨ v = 1) : fits .boolean (.int v) = true := by rcases h with rfl | rfl <;> decide
abbrev tys (cs : Nat → ClassId) : List (ClassId × FieldType) := [(cs 0, .int), (cs 1, .byte), (cs 2, .long), (cs 3, .boolean)]
abbrev nwl : List (String × Nat × MethodName × String) := [("WeatherTeller", 11, yX8_init, "WeatherTeller"), ("WeatherTeller", 18, yX5_init, "WeatherTeller"), ("WeatherTeller$RulesReader", 11, yX10_wordOf, "WeatherTeller"), ("WeatherTeller", 25, yX1_init, "WeatherTeller"), ("WeatherTeller$ClauseReader", 11, yX10_wordOf, "WeatherTeller"), ("WeatherTeller", 32, yX3_init, "WeatherTeller"), ("WeatherTeller", 39, yX2_init, "WeatherTeller"), ("WeatherTeller", 46, yX0_init, "WeatherTeller"), ("WeatherTeller", 53, yX9_init, "WeatherTeller"), ("WeatherTeller", 69, yX4_init, "WeatherTeller"), ("WeatherTeller$Tape", 29, yX10_isWithin, "WeatherTeller"), ("WeatherTeller$RulesReader", 143, yX10_isWithin, "WeatherTeller"), ("WeatherTeller$Table", 25, yX10_isWithin, "WeatherTeller"), ("WeatherTeller$Findings", 61, yX10_hasBit, "WeatherTeller"), ("WeatherTeller$Chooser", 49, yX10_hasBit, "WeatherTeller")]
def gK (D : va_G) (cs : Nat → ClassId) (U : State) : Prop := va_K D vwCl (tys cs) U ∧ ∀ q ∈ nwl, va_Nw (.methodLinkNest q.1 q.2.1 q.2.2.1 q.2.2.2) U
theorem gK.warm {D : va_G} {cs : Nat → ClassId} {s U : State} (h : gK D cs s) (hW : s.WarmedH U.vm) : gK D cs U := ⟨va_K.moved hW.alike h.1, fun q hq => (h.2 q hq).warmM hW⟩
theorem gK.call {D : va_G} {cs : Nat → ClassId} {U : State} (h : gK D cs U) (g : JFrame) (mk : MethodId) (a : Array Value) : gK D cs (U.calling g mk a) := ⟨va_K.moved (u := U) (U := U.calling g mk a) (Vm.Alike.refl U.vm) h.1, fun q hq => (h.2 q hq).same rfl rfl⟩
def gw (D : va_G) (A : Nat → Prop) (H0 H : Heap) (locs : List Loc) (w : va_W) : Prop := va_P D vwCl w H ∧ va_D A w ∧ va_S A H0 H locs
def gP (D : va_G) (cs : Nat → ClassId) (sz : Nat) (w : va_W) (U : State) : Prop := U.heap.size = sz ∧ va_P D vwCl w U.heap ∧ gK D cs U ∧ va_D (fun _ => True) w
def gB (D : va_G) (A : Nat → Prop) (w : va_W) (t : State) : Prop := va_P D vwCl w t.heap ∧ va_D A w
def gMi (l : Launch) (y : MethodName) (wy : List Cond) (rm : Room) (D : va_G) (cs : Nat → ClassId) (As : List Value) (w : va_W) (r : Int32) (w' : va_W) : Prop :=
  ∀ sz : Nat, Met l y wy rm (va_Pc As (gP D cs sz w)) (va_Qi (fun r' (_ : Unit) => r' = r) (fun _ => gB D (va_A w sz) w') (va_A w sz)) rm.cells rm.slots (va_A w sz)
def gMl (l : Launch) (y : MethodName) (wy : List Cond) (rm : Room) (D : va_G) (cs : Nat → ClassId) (As : List Value) (w : va_W) (r : Int64) (w' : va_W) : Prop :=
  ∀ sz : Nat, Met l y wy rm (va_Pc As (gP D cs sz w)) (va_Ql (fun r' (_ : Unit) => r' = r) (fun _ => gB D (va_A w sz) w') (va_A w sz)) rm.cells rm.slots (va_A w sz)
def gMv (l : Launch) (y : MethodName) (wy : List Cond) (rm : Room) (D : va_G) (cs : Nat → ClassId) (As : List Value) (w : va_W) (w' : va_W) : Prop :=
  ∀ sz : Nat, Met l y wy rm (va_Pc As (gP D cs sz w)) (va_Qv (fun (_ : Unit) => True) (fun _ => gB D (va_A w sz) w') (va_A w sz)) rm.cells rm.slots (va_A w sz)
/-- what holds in a method's body: the machine, the code, the words, the class, the locals' number, the tables -/
def gC (p : Program) (s : State) (m : MethodId) (args : Array Value) (c : Code) (cc : ByteArray) (nL : Nat) (Ts : List Cond) (own : String) (D : va_G) (cs : Nat → ClassId) : Prop :=
  CallFix p m c cc nL s args Ts own ∧ gK D cs s
section GE
variable {l : Launch} {y : MethodName} {ws ws' : List Cond} {rm : Room} {cc : ByteArray} {maxL : Nat} {D : va_G} {cs : Nat → ClassId} {As : List Value} {w w' : va_W}
theorem gE_i {r : Int32} (hy : plainName y.cls = true) (hw : ws = Cond.code y cc maxL (some .int) :: ws') (hA : (lg_sl As).length ≤ maxL)
    (body : ∀ (p : Program) (e : Env) (s : State) (m : MethodId) (args : Array Value) (below : List Frame) (meth : Method) (c : Code) (A : Nat → Prop) (Q : State → Prop),
      gC p s m args c cc maxL ws y.cls D cs → (∀ q, s.heap.size ≤ q → A q) →
      (∀ (H : Heap) (locs : List Loc) (cells slots pc : Nat) (ls : Array Slot), decode cc pc = .ok (.ireturn, 1) → gw D A s.heap H locs w' → cells ≤ rm.cells → slots ≤ rm.slots → W p l e rm s m args below meth c H locs cells slots Q (F0 m pc ls [.int r])) →
      gw D A s.heap s.heap [] w → ∀ ls : Array Slot, lv_has ls maxL (lv_args 0 As) → W p l e rm s m args below meth c s.heap [] 0 0 Q (F0 m 0 ls [])) : gMi l y ws rm D cs As w r w' := by
  intro sz
  refine Met.ofW (cc := cc) (maxL := maxL) (ret := some .int) hy hw ?_
  intro p e s m args below meth c s₁ B hml hv
  obtain ⟨rfl, hsz, hP, hK, hD0⟩ := hv
  subst hsz
  rw [lg_entry_eq]
  refine body p e s m _ below meth c (va_A w s.heap.size) _ ⟨⟨B.exec, B.bytes, hml, findClass_of_methodNamed B.named, atoms_spec B.pre⟩, hK⟩ (fun q h => Or.inr h) ?_ ⟨hP, hD0.self, va_S.rf⟩ _ (lv_entry As hA)
  intro H locs cells slots pc ls hd hM h1 h2
  refine W.widen h1 h2 ?_
  exact W.iret B.exec B.bytes B.returns (fun t ht hW => ⟨⟨r, (), rfl, rfl, by rw [ht]; exact hM.1, hM.2.1⟩, hM.2.2.F ht⟩) hM.2.2.2.2 hd (hlocks := B.notSynchronized)
theorem gE_z {r : Int32} (hr : r = 0 ∨ r = 1) (hy : plainName y.cls = true) (hw : ws = Cond.code y cc maxL (some .boolean) :: ws') (hA : (lg_sl As).length ≤ maxL)
    (body : ∀ (p : Program) (e : Env) (s : State) (m : MethodId) (args : Array Value) (below : List Frame) (meth : Method) (c : Code) (A : Nat → Prop) (Q : State → Prop),
      gC p s m args c cc maxL ws y.cls D cs → (∀ q, s.heap.size ≤ q → A q) →
      (∀ (H : Heap) (locs : List Loc) (cells slots pc : Nat) (ls : Array Slot), decode cc pc = .ok (.ireturn, 1) → gw D A s.heap H locs w' → cells ≤ rm.cells → slots ≤ rm.slots → W p l e rm s m args below meth c H locs cells slots Q (F0 m pc ls [.int r])) →
      gw D A s.heap s.heap [] w → ∀ ls : Array Slot, lv_has ls maxL (lv_args 0 As) → W p l e rm s m args below meth c s.heap [] 0 0 Q (F0 m 0 ls [])) : gMi l y ws rm D cs As w r w' := by
  intro sz
  refine Met.ofW (cc := cc) (maxL := maxL) (ret := some .boolean) hy hw ?_
  intro p e s m args below meth c s₁ B hml hv
  obtain ⟨rfl, hsz, hP, hK, hD0⟩ := hv
  subst hsz
  rw [lg_entry_eq]
  refine body p e s m _ below meth c (va_A w s.heap.size) _ ⟨⟨B.exec, B.bytes, hml, findClass_of_methodNamed B.named, atoms_spec B.pre⟩, hK⟩ (fun q h => Or.inr h) ?_ ⟨hP, hD0.self, va_S.rf⟩ _ (lv_entry As hA)
  intro H locs cells slots pc ls hd hM h1 h2
  refine W.widen h1 h2 ?_
  exact W.zret B.exec B.bytes B.returns (bz_n hr) (fun t ht hW => ⟨⟨r, (), rfl, rfl, by rw [ht]; exact hM.1, hM.2.1⟩, hM.2.2.F ht⟩) hM.2.2.2.2 hd (hlocks := B.notSynchronized)
theorem gE_l {r : Int64} (hy : plainName y.cls = true) (hw : ws = Cond.code y cc maxL (some .long) :: ws') (hA : (lg_sl As).length ≤ maxL)
    (body : ∀ (p : Program) (e : Env) (s : State) (m : MethodId) (args : Array Value) (below : List Frame) (meth : Method) (c : Code) (A : Nat → Prop) (Q : State → Prop),
      gC p s m args c cc maxL ws y.cls D cs → (∀ q, s.heap.size ≤ q → A q) →
      (∀ (H : Heap) (locs : List Loc) (cells slots pc : Nat) (ls : Array Slot), decode cc pc = .ok (.lreturn, 1) → gw D A s.heap H locs w' → cells ≤ rm.cells → slots ≤ rm.slots → W p l e rm s m args below meth c H locs cells slots Q (F0 m pc ls [.long r])) →
      gw D A s.heap s.heap [] w → ∀ ls : Array Slot, lv_has ls maxL (lv_args 0 As) → W p l e rm s m args below meth c s.heap [] 0 0 Q (F0 m 0 ls [])) : gMl l y ws rm D cs As w r w' := by
  intro sz
  refine Met.ofW (cc := cc) (maxL := maxL) (ret := some .long) hy hw ?_
  intro p e s m args below meth c s₁ B hml hv
  obtain ⟨rfl, hsz, hP, hK, hD0⟩ := hv
  subst hsz
  rw [lg_entry_eq]
  refine body p e s m _ below meth c (va_A w s.heap.size) _ ⟨⟨B.exec, B.bytes, hml, findClass_of_methodNamed B.named, atoms_spec B.pre⟩, hK⟩ (fun q h => Or.inr h) ?_ ⟨hP, hD0.self, va_S.rf⟩ _ (lv_entry As hA)
  intro H locs cells slots pc ls hd hM h1 h2
  refine W.widen h1 h2 ?_
  exact W.lret B.exec B.bytes B.returns (fun t ht hW => ⟨⟨r, (), rfl, rfl, by rw [ht]; exact hM.1, hM.2.1⟩, hM.2.2.F ht⟩) hM.2.2.2.2 hd (hlocks := B.notSynchronized)
theorem gE_v (hy : plainName y.cls = true) (hw : ws = Cond.code y cc maxL none :: ws') (hA : (lg_sl As).length ≤ maxL)
    (body : ∀ (p : Program) (e : Env) (s : State) (m : MethodId) (args : Array Value) (below : List Frame) (meth : Method) (c : Code) (A : Nat → Prop) (Q : State → Prop),
      gC p s m args c cc maxL ws y.cls D cs → (∀ q, s.heap.size ≤ q → A q) →
      (∀ (H : Heap) (locs : List Loc) (cells slots pc : Nat) (ls : Array Slot), decode cc pc = .ok (.return_, 1) → gw D A s.heap H locs w' → cells ≤ rm.cells → slots ≤ rm.slots → W p l e rm s m args below meth c H locs cells slots Q (F0 m pc ls [])) →
      gw D A s.heap s.heap [] w → ∀ ls : Array Slot, lv_has ls maxL (lv_args 0 As) → W p l e rm s m args below meth c s.heap [] 0 0 Q (F0 m 0 ls [])) : gMv l y ws rm D cs As w w' := by
  intro sz
  refine Met.ofW (cc := cc) (maxL := maxL) (ret := none) hy hw ?_
  intro p e s m args below meth c s₁ B hml hv
  obtain ⟨rfl, hsz, hP, hK, hD0⟩ := hv
  subst hsz
  rw [lg_entry_eq]
  refine body p e s m _ below meth c (va_A w s.heap.size) _ ⟨⟨B.exec, B.bytes, hml, findClass_of_methodNamed B.named, atoms_spec B.pre⟩, hK⟩ (fun q h => Or.inr h) ?_ ⟨hP, hD0.self, va_S.rf⟩ _ (lv_entry As hA)
  intro H locs cells slots pc ls hd hM h1 h2
  refine W.widen h1 h2 ?_
  exact W.vret B.exec B.bytes B.returns (fun t ht hW => ⟨⟨(), rfl, trivial, by rw [ht]; exact hM.1, hM.2.1⟩, hM.2.2.F ht⟩) hM.2.2.2.2 hd (hlocks := B.notSynchronized)
end GE
section GR
variable {p : Program} {l : Launch} {e : Env} {R : Room} {s : State} {m : MethodId} {args : Array Value} {below : List Frame} {meth : Method} {c : Code} {H : Heap} {locs : List Loc} {cells slots : Nat} {Q : State → Prop}
variable {cc : ByteArray} {pc nL : Nat} {ls : Array Slot} {rest : List Value} {D : va_G} {cs : Nat → ClassId} {A : Nat → Prop} {H0 : Heap} {w w' : va_W} {Ts : List Cond} {own : String} {a : Nat}
theorem g_get (hC : gC p s m args c cc nL Ts own D cs) (hM : gw D A H0 H locs w) {ref C fn fd : String} {fb : Bool} {T : u_T} {N ci index : Nat} (hin : ∀ w ∈ u_ws C T N, w ∈ Ts) (q0 : Nat) {fs : List Value} (he : w[q0]? = some (a, .inr (ci, fs))) (hc : vwCl[ci]? = some (C, T, N)) (k : Nat) (hk : k < N) (hlink : Cond.fieldLink own index ref fn fd ∈ Ts) (hT : T k = (ref, fn, fd, fb)) {v : Value} (hv : fs[k]? = some v) (hdg : decode cc pc = .ok (.getfield index, 3))
    (kk : W p l e R s m args below meth c H locs cells slots Q (F0 m (pc + 3) ls (v :: rest))) : W p l e R s m args below meth c H locs cells slots Q (F0 m pc ls (.ref a :: rest)) :=
  va_get (D := D) hC.1.1 hC.1.2.1 hC.1.2.2.2.2 hin hC.1.2.2.2.1 hC.2.1 hM.1 q0 he hc k hk (by rw [hT]; exact hC.1.2.2.2.2 _ hlink) (by rw [hT]; exact fun _ h => h) hv hdg kk
theorem g_put (hC : gC p s m args c cc nL Ts own D cs) (hM : gw D A H0 H locs w) {ref C fn fd : String} {T : u_T} {N ci index : Nat} (hin : ∀ w ∈ u_ws C T N, w ∈ Ts) {ty0 : Nat → FieldType} (hty : ∀ k, k < N → parseFieldDescriptor (T k).2.2.1 = some (ty0 k)) (hnm : ∀ a, a < N → ∀ b, b < N → a ≠ b → (T a).2.1 ≠ (T b).2.1) (q0 : Nat) {fs : List Value} (he : w[q0]? = some (a, .inr (ci, fs))) (hc : vwCl[ci]? = some (C, T, N)) (k : Nat) (hk : k < N) (hlink : Cond.fieldLink own index ref fn fd ∈ Ts) (hT : T k = (ref, fn, fd, false)) {ty : FieldType} (ht : ty0 k = ty) {v : Value} (hn : narrow ty v = v) (hfit : fits ty v = true) (hl : k < fs.length)
    (hset : w.set q0 (a, .inr (ci, fs.set k v)) = w') (hdg : decode cc pc = .ok (.putfield index, 3))
    (kk : ∀ (H1 : Heap) (locs1 : List Loc), gw D A H0 H1 locs1 w' → W p l e R s m args below meth c H1 locs1 cells slots Q (F0 m (pc + 3) ls rest)) : W p l e R s m args below meth c H locs cells slots Q (F0 m pc ls (v :: .ref a :: rest)) :=
  va_put (D := D) hC.1.1 hC.1.2.1 hC.1.2.2.2.2 hin ty0 hty hnm hC.1.2.2.2.1 hC.2.1 hM.1 hM.2.1 hM.2.2 q0 he hc k hk (by rw [hT]; exact hC.1.2.2.2.2 _ hlink) (by rw [hT]; exact fun _ h => h) (by rw [hT]) (by rw [hty k hk, ht]) hn hfit hl hdg (fun H1 locs1 h1 h2 h3 => kk H1 locs1 ⟨hset ▸ h1, hset ▸ h2, h3⟩)
theorem g_iald (hC : gC p s m args c cc nL Ts own D cs) (hM : gw D A H0 H locs w) (q0 : Nat) {n : Nat} {f : Nat → Int32} (ha : w[q0]? = some (a, .inl (cs 0, n, .inl f))) {i : Int32} (hin : vp_in i n) (hdg : decode cc pc = .ok (.iaload, 1))
    (kk : W p l e R s m args below meth c H locs cells slots Q (F0 m (pc + 1) ls (.int (f i.toNatClampNeg) :: rest))) : W p l e R s m args below meth c H locs cells slots Q (F0 m pc ls (.int i :: .ref a :: rest)) :=
  va_iald hC.1.1 hC.1.2.1 hC.2.1 hM.1 q0 0 ha rfl hin hdg kk
theorem g_bald (hC : gC p s m args c cc nL Ts own D cs) (hM : gw D A H0 H locs w) (q0 : Nat) {n : Nat} {f : Nat → Int32} (ha : w[q0]? = some (a, .inl (cs 1, n, .inl f))) {i : Int32} (hin : vp_in i n) (hdg : decode cc pc = .ok (.baload, 1))
    (kk : W p l e R s m args below meth c H locs cells slots Q (F0 m (pc + 1) ls (.int (f i.toNatClampNeg) :: rest))) : W p l e R s m args below meth c H locs cells slots Q (F0 m pc ls (.int i :: .ref a :: rest)) :=
  va_bald hC.1.1 hC.1.2.1 hC.2.1 hM.1 q0 1 ha rfl hin hdg kk
theorem g_zald (hC : gC p s m args c cc nL Ts own D cs) (hM : gw D A H0 H locs w) (q0 : Nat) {n : Nat} {f : Nat → Int32} (ha : w[q0]? = some (a, .inl (cs 3, n, .inl f))) {i : Int32} (hin : vp_in i n) (hdg : decode cc pc = .ok (.baload, 1))
    (kk : W p l e R s m args below meth c H locs cells slots Q (F0 m (pc + 1) ls (.int (f i.toNatClampNeg) :: rest))) : W p l e R s m args below meth c H locs cells slots Q (F0 m pc ls (.int i :: .ref a :: rest)) :=
  va_zald hC.1.1 hC.1.2.1 hC.2.1 hM.1 q0 3 ha rfl hin hdg kk
theorem g_lald (hC : gC p s m args c cc nL Ts own D cs) (hM : gw D A H0 H locs w) (q0 : Nat) {n : Nat} {f : Nat → Int64} (ha : w[q0]? = some (a, .inl (cs 2, n, .inr (.inl f)))) {i : Int32} (hin : vp_in i n) (hdg : decode cc pc = .ok (.laload, 1))
    (kk : W p l e R s m args below meth c H locs cells slots Q (F0 m (pc + 1) ls (.long (f i.toNatClampNeg) :: rest))) : W p l e R s m args below meth c H locs cells slots Q (F0 m pc ls (.int i :: .ref a :: rest)) :=
  va_lald hC.1.1 hC.1.2.1 hC.2.1 hM.1 q0 2 ha rfl hin hdg kk
theorem g_iast (hC : gC p s m args c cc nL Ts own D cs) (hM : gw D A H0 H locs w) (q0 : Nat) {n : Nat} {f : Nat → Int32} (ha : w[q0]? = some (a, .inl (cs 0, n, .inl f))) {i x : Int32} (hin : vp_in i n) (hset : w.set q0 (a, .inl (cs 0, n, .inl (upd f i.toNatClampNeg x))) = w') (hdg : decode cc pc = .ok (.iastore, 1))
    (kk : ∀ (H1 : Heap) (locs1 : List Loc), gw D A H0 H1 locs1 w' → W p l e R s m args below meth c H1 locs1 cells slots Q (F0 m (pc + 1) ls rest)) : W p l e R s m args below meth c H locs cells slots Q (F0 m pc ls (.int x :: .int i :: .ref a :: rest)) :=
  va_iast hC.1.1 hC.1.2.1 hC.2.1 hM.1 hM.2.1 hM.2.2 q0 0 ha rfl hin hdg (fun H1 locs1 h1 h2 h3 => kk H1 locs1 ⟨hset ▸ h1, hset ▸ h2, h3⟩)
theorem g_bast (hC : gC p s m args c cc nL Ts own D cs) (hM : gw D A H0 H locs w) (q0 : Nat) {n : Nat} {f : Nat → Int32} (ha : w[q0]? = some (a, .inl (cs 1, n, .inl f))) {i x : Int32} (hin : vp_in i n) (hset : w.set q0 (a, .inl (cs 1, n, .inl (upd f i.toNatClampNeg (vp_nar .byte x)))) = w') (hdg : decode cc pc = .ok (.bastore, 1))
    (kk : ∀ (H1 : Heap) (locs1 : List Loc), gw D A H0 H1 locs1 w' → W p l e R s m args below meth c H1 locs1 cells slots Q (F0 m (pc + 1) ls rest)) : W p l e R s m args below meth c H locs cells slots Q (F0 m pc ls (.int x :: .int i :: .ref a :: rest)) :=
  va_bast hC.1.1 hC.1.2.1 hC.2.1 hM.1 hM.2.1 hM.2.2 q0 1 ha rfl hin hdg (fun H1 locs1 h1 h2 h3 => kk H1 locs1 ⟨hset ▸ h1, hset ▸ h2, h3⟩)
theorem g_zast (hC : gC p s m args c cc nL Ts own D cs) (hM : gw D A H0 H locs w) (q0 : Nat) {n : Nat} {f : Nat → Int32} (ha : w[q0]? = some (a, .inl (cs 3, n, .inl f))) {i x : Int32} (hin : vp_in i n) (hset : w.set q0 (a, .inl (cs 3, n, .inl (upd f i.toNatClampNeg (vp_nar .boolean x)))) = w') (hdg : decode cc pc = .ok (.bastore, 1))
    (kk : ∀ (H1 : Heap) (locs1 : List Loc), gw D A H0 H1 locs1 w' → W p l e R s m args below meth c H1 locs1 cells slots Q (F0 m (pc + 1) ls rest)) : W p l e R s m args below meth c H locs cells slots Q (F0 m pc ls (.int x :: .int i :: .ref a :: rest)) :=
  va_zast hC.1.1 hC.1.2.1 hC.2.1 hM.1 hM.2.1 hM.2.2 q0 3 ha rfl hin hdg (fun H1 locs1 h1 h2 h3 => kk H1 locs1 ⟨hset ▸ h1, hset ▸ h2, h3⟩)
theorem g_last (hC : gC p s m args c cc nL Ts own D cs) (hM : gw D A H0 H locs w) (q0 : Nat) {n : Nat} {f : Nat → Int64} (ha : w[q0]? = some (a, .inl (cs 2, n, .inr (.inl f)))) {i : Int32} {x : Int64} (hin : vp_in i n) (hset : w.set q0 (a, .inl (cs 2, n, .inr (.inl (vp_updL f i.toNatClampNeg x)))) = w') (hdg : decode cc pc = .ok (.lastore, 1))
    (kk : ∀ (H1 : Heap) (locs1 : List Loc), gw D A H0 H1 locs1 w' → W p l e R s m args below meth c H1 locs1 cells slots Q (F0 m (pc + 1) ls rest)) : W p l e R s m args below meth c H locs cells slots Q (F0 m pc ls (.long x :: .int i :: .ref a :: rest)) :=
  va_last hC.1.1 hC.1.2.1 hC.2.1 hM.1 hM.2.1 hM.2.2 q0 2 ha rfl hin hdg (fun H1 locs1 h1 h2 h3 => kk H1 locs1 ⟨hset ▸ h1, hset ▸ h2, h3⟩)
theorem g_tIn {dflt lo hi : Int} {offs : Array Int} {len : Nat} {x : Int32} {off : Int} {tgt : Nat} (k : Int32) (hk : x = k) (hexec : p.tables.exec = Jvm.exec) (hb : c.code = cc) (hdg : decode cc pc = .ok (.tableswitch dflt lo hi offs, len)) (h1 : ¬ k.toInt < lo) (h2 : ¬ hi < k.toInt) (ho : offs[(k.toInt - lo).toNat]? = some off) (ht : (pc : Int) + off = (tgt : Int))
    (kk : W p l e R s m args below meth c H locs cells slots Q (F0 m tgt ls rest)) : W p l e R s m args below meth c H locs cells slots Q (F0 m pc ls (.int x :: rest)) := by
  subst hk
  exact lv_tableIn hexec hb hdg h1 h2 ho ht kk
theorem g_lIn {dflt : Int} {ps : Array (Int × Int)} {len : Nat} {x : Int32} {off : Int} {tgt : Nat} (k : Int32) (hk : x = k) (hexec : p.tables.exec = Jvm.exec) (hb : c.code = cc) (hdg : decode cc pc = .ok (.lookupswitch dflt ps, len)) (hp : (ps.toList.zip (ps.toList.drop 1)).all (fun (a, next) => a.1 < next.1) = true) (ho : Op.lookupswitch.offset ps.toList dflt k.toInt = off) (ht : (pc : Int) + off = (tgt : Int))
    (kk : W p l e R s m args below meth c H locs cells slots Q (F0 m tgt ls rest)) : W p l e R s m args below meth c H locs cells slots Q (F0 m pc ls (.int x :: rest)) := by
  subst hk
  exact lv_lookup hexec hb hdg hp ho ht kk
theorem g_out {x : Int32} {n : Nat} (h : ∀ j, j < n → ¬ x = nI j) (hn : n < 1000) : x.toInt < 0 ∨ (n : Int) - 1 < x.toInt := by
  by_cases h0 : x < 0
  · left
    have := Int32.lt_iff_toInt_lt.mp h0
    simpa using this
  · obtain ⟨j, hj, rfl⟩ := nI_of h0
    right
    rw [nI_toInt hj]
    by_cases hjn : j < n
    · exact absurd rfl (h j hjn)
    · omega
theorem g_tOut {dflt lo hi : Int} {offs : Array Int} {len n : Nat} {x : Int32} {tgt : Nat} (hne : ∀ j, j < n → ¬ x = nI j) (hn : n < 1000) (hexec : p.tables.exec = Jvm.exec) (hb : c.code = cc) (hdg : decode cc pc = .ok (.tableswitch dflt lo hi offs, len)) (hlo : lo = 0) (hhi : hi = (n : Int) - 1) (ht : (pc : Int) + dflt = (tgt : Int))
    (kk : W p l e R s m args below meth c H locs cells slots Q (F0 m tgt ls rest)) : W p l e R s m args below meth c H locs cells slots Q (F0 m pc ls (.int x :: rest)) := by
  refine lv_tableOut hexec hb hdg ?_ ht kk
  rw [hlo, hhi]
  exact g_out hne hn
theorem gw.free (hM : gw D A H0 H locs w) (hA : ∀ q, H0.size ≤ q → A q) : ∀ q, va_A w H.size q → A q := by
  intro q h
  rcases h with ⟨k, e, h⟩ | h
  · exact hM.2.1.2 k (q, e) h
  · exact hA q (Nat.le_trans hM.2.2.1 h)
theorem gP.blind {As : List Value} {sz : Nat} : FrameBlind (va_Pc As (gP D cs sz w)) := fun a U g mk q => by
  obtain ⟨q0, q1, qP, qK, qD⟩ := q
  exact ⟨q0, q1, qP, qK.call g mk a, qD⟩
theorem gP.pre (hK : gK D cs s) (hM : gw D A H0 H locs w) (As : List Value) : ∀ U : State, U.heap = H → s.WarmedH U.vm → va_Pc As (gP D cs H.size w) As.toArray U := fun U hU hW => ⟨rfl, by rw [hU], by rw [hU]; exact hM.1, hK.warm hW, hM.2.1.weaken (fun _ _ _ _ => trivial)⟩
variable {index n maxL : Nat} {y : MethodName} {bytes : ByteArray} {ret : Option FieldType} {wy wy' : List Cond} {rm : Room} {b : Addr} {As : List Value} {st0 : List Value}
/-- a call of an instance method, the answer an int; its room may make cells -/
theorem gV_i {C : String} {r : Int32} (hC : gC p s m args c cc nL Ts own D cs) (hM : gw D A s.heap H locs w) (hA : ∀ q, s.heap.size ≤ q → A q) (hl : ls.size = nL)
    (As : List Value) (rest : List Value) (hMet : gMi l y wy rm D cs (.ref b :: As) w r w') (hG : GoodIn Ts (wsV own index C y wy)) (hw : wy = Cond.code y bytes maxL ret :: wy') (hd : y.cls = C ∧ y.cls ≠ "java/lang/invoke/MethodHandle" ∧ y.cls ≠ "java/lang/invoke/VarHandle" ∧ (parseMethodDescriptor y.desc).map (fun d => d.parameters.length) = some As.length) (hR : rm.frames + 1 ≤ R.frames ∧ 8 + (maxL + 11) + rm.locals ≤ R.locals)
    (q0 ci : Nat) {q : vw_C} {fs : List Value} (hc : vwCl[ci]? = some q) (hq : q.1 = C) (he : w[q0]? = some (b, .inr (ci, fs))) (hst : (rest.map fun v => v.category).sum ≤ 8) (hdg : decode cc pc = .ok (.invokevirtual index, 3)) (hst0 : st0 = As.reverse ++ .ref b :: rest) (hf : cells + rm.cells ≤ R.cells ∧ slots + rm.slots ≤ R.slots)
    (kk : ∀ (H1 : Heap) (locs1 : List Loc), gw D A s.heap H1 locs1 w' → W p l e R s m args below meth c H1 locs1 (cells + rm.cells) (slots + rm.slots) Q (F0 m (pc + 3) ls (.int r :: rest))) : W p l e R s m args below meth c H locs cells slots Q (F0 m pc ls st0) := by
  subst hst0
  refine va_calli (va_runV hC.1 (hMet H.size) (cwV As.length hC.1.2.2.2.2 hG hw rfl rfl hd hR) ⟨gP.blind, hq ▸ va_recv hC.2.1 hM.1 hc he, gP.pre hC.2 hM _⟩ rfl rfl hl rfl (lv_room hst) hdg hf) hM.2.2 (fun q _ h => hM.free hA q h) (hM.free hA) ?_
  intro r' u t H1 locs1 ht hvm hw1 hB hz1 hk1 hS
  obtain rfl : r' = r := hw1
  exact kk H1 locs1 ⟨by rw [← ht]; exact hB.1, hB.2.weaken (fun k q h h2 => hM.free hA _ h2), hS⟩
theorem gV_l {C : String} {r : Int64} (hC : gC p s m args c cc nL Ts own D cs) (hM : gw D A s.heap H locs w) (hA : ∀ q, s.heap.size ≤ q → A q) (hl : ls.size = nL)
    (As : List Value) (rest : List Value) (hMet : gMl l y wy rm D cs (.ref b :: As) w r w') (hG : GoodIn Ts (wsV own index C y wy)) (hw : wy = Cond.code y bytes maxL ret :: wy') (hd : y.cls = C ∧ y.cls ≠ "java/lang/invoke/MethodHandle" ∧ y.cls ≠ "java/lang/invoke/VarHandle" ∧ (parseMethodDescriptor y.desc).map (fun d => d.parameters.length) = some As.length) (hR : rm.frames + 1 ≤ R.frames ∧ 8 + (maxL + 11) + rm.locals ≤ R.locals)
    (q0 ci : Nat) {q : vw_C} {fs : List Value} (hc : vwCl[ci]? = some q) (hq : q.1 = C) (he : w[q0]? = some (b, .inr (ci, fs))) (hst : (rest.map fun v => v.category).sum ≤ 8) (hdg : decode cc pc = .ok (.invokevirtual index, 3)) (hst0 : st0 = As.reverse ++ .ref b :: rest) (hf : cells + rm.cells ≤ R.cells ∧ slots + rm.slots ≤ R.slots)
    (kk : ∀ (H1 : Heap) (locs1 : List Loc), gw D A s.heap H1 locs1 w' → W p l e R s m args below meth c H1 locs1 (cells + rm.cells) (slots + rm.slots) Q (F0 m (pc + 3) ls (.long r :: rest))) : W p l e R s m args below meth c H locs cells slots Q (F0 m pc ls st0) := by
  subst hst0
  refine va_calll (va_runV hC.1 (hMet H.size) (cwV As.length hC.1.2.2.2.2 hG hw rfl rfl hd hR) ⟨gP.blind, hq ▸ va_recv hC.2.1 hM.1 hc he, gP.pre hC.2 hM _⟩ rfl rfl hl rfl (lv_room hst) hdg hf) hM.2.2 (fun q _ h => hM.free hA q h) (hM.free hA) ?_
  intro r' u t H1 locs1 ht hvm hw1 hB hz1 hk1 hS
  obtain rfl : r' = r := hw1
  exact kk H1 locs1 ⟨by rw [← ht]; exact hB.1, hB.2.weaken (fun k q h h2 => hM.free hA _ h2), hS⟩
theorem gV_v {C : String} (hC : gC p s m args c cc nL Ts own D cs) (hM : gw D A s.heap H locs w) (hA : ∀ q, s.heap.size ≤ q → A q) (hl : ls.size = nL)
    (As : List Value) (rest : List Value) (hMet : gMv l y wy rm D cs (.ref b :: As) w w') (hG : GoodIn Ts (wsV own index C y wy)) (hw : wy = Cond.code y bytes maxL ret :: wy') (hd : y.cls = C ∧ y.cls ≠ "java/lang/invoke/MethodHandle" ∧ y.cls ≠ "java/lang/invoke/VarHandle" ∧ (parseMethodDescriptor y.desc).map (fun d => d.parameters.length) = some As.length) (hR : rm.frames + 1 ≤ R.frames ∧ 8 + (maxL + 11) + rm.locals ≤ R.locals)
    (q0 ci : Nat) {q : vw_C} {fs : List Value} (hc : vwCl[ci]? = some q) (hq : q.1 = C) (he : w[q0]? = some (b, .inr (ci, fs))) (hst : (rest.map fun v => v.category).sum ≤ 8) (hdg : decode cc pc = .ok (.invokevirtual index, 3)) (hst0 : st0 = As.reverse ++ .ref b :: rest) (hf : cells + rm.cells ≤ R.cells ∧ slots + rm.slots ≤ R.slots)
    (kk : ∀ (H1 : Heap) (locs1 : List Loc), gw D A s.heap H1 locs1 w' → W p l e R s m args below meth c H1 locs1 (cells + rm.cells) (slots + rm.slots) Q (F0 m (pc + 3) ls rest)) : W p l e R s m args below meth c H locs cells slots Q (F0 m pc ls st0) := by
  subst hst0
  refine va_callv (va_runV hC.1 (hMet H.size) (cwV As.length hC.1.2.2.2.2 hG hw rfl rfl hd hR) ⟨gP.blind, hq ▸ va_recv hC.2.1 hM.1 hc he, gP.pre hC.2 hM _⟩ rfl rfl hl rfl (lv_room hst) hdg hf) hM.2.2 (fun q _ h => hM.free hA q h) (hM.free hA) ?_
  intro u t H1 locs1 ht hvm hw1 hB hz1 hk1 hS
  exact kk H1 locs1 ⟨by rw [← ht]; exact hB.1, hB.2.weaken (fun k q h h2 => hM.free hA _ h2), hS⟩
/-- a call of a static method -/
theorem gS_i {r : Int32} (hC : gC p s m args c cc nL Ts own D cs) (hM : gw D A s.heap H locs w) (hA : ∀ q, s.heap.size ≤ q → A q) (hl : ls.size = nL)
    (As : List Value) (rest : List Value) (hMet : gMi l y wy rm D cs As w r w') (hG : GoodIn Ts (va_wsS own index y wy)) (hw : wy = Cond.code y bytes maxL ret :: wy') (hd : y.cls ≠ "java/lang/invoke/MethodHandle" ∧ y.cls ≠ "java/lang/invoke/VarHandle" ∧ (parseMethodDescriptor y.desc).map (fun d => d.parameters.length) = some As.length) (hR : rm.frames + 1 ≤ R.frames ∧ 8 + (maxL + 11) + rm.locals ≤ R.locals)
    (hst : (rest.map fun v => v.category).sum ≤ 8) (hdg : decode cc pc = .ok (.invokestatic index, 3)) (hst0 : st0 = As.reverse ++ rest) (hf : cells + rm.cells ≤ R.cells ∧ slots + rm.slots ≤ R.slots)
    (kk : ∀ (H1 : Heap) (locs1 : List Loc), gw D A s.heap H1 locs1 w' → W p l e R s m args below meth c H1 locs1 (cells + rm.cells) (slots + rm.slots) Q (F0 m (pc + 3) ls (.int r :: rest))) : W p l e R s m args below meth c H locs cells slots Q (F0 m pc ls st0) := by
  subst hst0
  refine va_calli (va_runS hC.1 (hMet H.size) (va_cwS As.length hC.1.2.2.2.2 hG hw rfl rfl hd hR) ⟨gP.blind, gP.pre hC.2 hM _⟩ rfl rfl hl rfl (lv_room hst) hdg hf) hM.2.2 (fun q _ h => hM.free hA q h) (hM.free hA) ?_
  intro r' u t H1 locs1 ht hvm hw1 hB hz1 hk1 hS
  obtain rfl : r' = r := hw1
  exact kk H1 locs1 ⟨by rw [← ht]; exact hB.1, hB.2.weaken (fun k q h h2 => hM.free hA _ h2), hS⟩
theorem gS_v (hC : gC p s m args c cc nL Ts own D cs) (hM : gw D A s.heap H locs w) (hA : ∀ q, s.heap.size ≤ q → A q) (hl : ls.size = nL)
    (As : List Value) (rest : List Value) (hMet : gMv l y wy rm D cs As w w') (hG : GoodIn Ts (va_wsS own index y wy)) (hw : wy = Cond.code y bytes maxL ret :: wy') (hd : y.cls ≠ "java/lang/invoke/MethodHandle" ∧ y.cls ≠ "java/lang/invoke/VarHandle" ∧ (parseMethodDescriptor y.desc).map (fun d => d.parameters.length) = some As.length) (hR : rm.frames + 1 ≤ R.frames ∧ 8 + (maxL + 11) + rm.locals ≤ R.locals)
    (hst : (rest.map fun v => v.category).sum ≤ 8) (hdg : decode cc pc = .ok (.invokestatic index, 3)) (hst0 : st0 = As.reverse ++ rest) (hf : cells + rm.cells ≤ R.cells ∧ slots + rm.slots ≤ R.slots)
    (kk : ∀ (H1 : Heap) (locs1 : List Loc), gw D A s.heap H1 locs1 w' → W p l e R s m args below meth c H1 locs1 (cells + rm.cells) (slots + rm.slots) Q (F0 m (pc + 3) ls rest)) : W p l e R s m args below meth c H locs cells slots Q (F0 m pc ls st0) := by
  subst hst0
  refine va_callv (va_runS hC.1 (hMet H.size) (va_cwS As.length hC.1.2.2.2.2 hG hw rfl rfl hd hR) ⟨gP.blind, gP.pre hC.2 hM _⟩ rfl rfl hl rfl (lv_room hst) hdg hf) hM.2.2 (fun q _ h => hM.free hA q h) (hM.free hA) ?_
  intro u t H1 locs1 ht hvm hw1 hB hz1 hk1 hS
  exact kk H1 locs1 ⟨by rw [← ht]; exact hB.1, hB.2.weaken (fun k q h h2 => hM.free hA _ h2), hS⟩
/-- a static call of a nest mate's private method -/
theorem gN_i {host : String} {r : Int32} (hC : gC p s m args c cc nL Ts own D cs) (hM : gw D A s.heap H locs w) (hA : ∀ q, s.heap.size ≤ q → A q) (hl : ls.size = nL)
    (As : List Value) (rest : List Value) (hMet : gMi l y wy rm D cs As w r w') (hG : GoodIn Ts wy) (hs : Cond.static y ∈ Ts) (hi : Cond.initialized y.cls ∈ Ts) (hnw : (own, index, y, host) ∈ nwl) (hw : wy = Cond.code y bytes maxL ret :: wy') (hd : y.cls ≠ "java/lang/invoke/MethodHandle" ∧ y.cls ≠ "java/lang/invoke/VarHandle" ∧ (parseMethodDescriptor y.desc).map (fun d => d.parameters.length) = some As.length) (hR : rm.frames + 1 ≤ R.frames ∧ 8 + (maxL + 11) + rm.locals ≤ R.locals)
    (hst : (rest.map fun v => v.category).sum ≤ 8) (hdg : decode cc pc = .ok (.invokestatic index, 3)) (hst0 : st0 = As.reverse ++ rest) (hf : cells + rm.cells ≤ R.cells ∧ slots + rm.slots ≤ R.slots)
    (kk : ∀ (H1 : Heap) (locs1 : List Loc), gw D A s.heap H1 locs1 w' → W p l e R s m args below meth c H1 locs1 (cells + rm.cells) (slots + rm.slots) Q (F0 m (pc + 3) ls (.int r :: rest))) : W p l e R s m args below meth c H locs cells slots Q (F0 m pc ls st0) := by
  subst hst0
  refine va_calli (va_runSN hC.1 (hMet H.size) ⟨va_cnB As.length hC.1.2.2.2.2 hG hw rfl rfl (hC.2.2 _ hnw) (hC.1.2.2.2.2 _ hi) hd hR, hC.1.2.2.2.2 _ hs, trivial⟩ ⟨gP.blind, gP.pre hC.2 hM _⟩ rfl rfl hl rfl (lv_room hst) hdg hf) hM.2.2 (fun q _ h => hM.free hA q h) (hM.free hA) ?_
  intro r' u t H1 locs1 ht hvm hw1 hB hz1 hk1 hS
  obtain rfl : r' = r := hw1
  exact kk H1 locs1 ⟨by rw [← ht]; exact hB.1, hB.2.weaken (fun k q h h2 => hM.free hA _ h2), hS⟩
end GR
