/-! contracts of the class whose addresses may change behind them (swapped objects, a longer row); swaps -/
def swA (a : Nat → Nat) : Nat → Nat := fun r => if 28 ≤ r ∧ r < 38 then a (r + 10) else if 38 ≤ r ∧ r < 48 then a (r - 10) else a r
def swS (S : St) : St := (fun r => if 28 ≤ r ∧ r < 38 then S.1 (r + 10) else if 38 ≤ r ∧ r < 48 then S.1 (r - 10) else S.1 r, fun r => if 28 ≤ r ∧ r < 38 then S.2 (r + 10) else if 38 ≤ r ∧ r < 48 then S.2 (r - 10) else S.2 r)
def stA (a : Nat → Nat) : Nat → Nat := fun r => if 48 ≤ r ∧ r < 50 then a (r + 2) else if 50 ≤ r ∧ r < 52 then a (r - 2) else a r
def stS (S : St) : St := (fun r => if 48 ≤ r ∧ r < 50 then S.1 (r + 2) else if 50 ≤ r ∧ r < 52 then S.1 (r - 2) else S.1 r, S.2)
def gXi (l : Launch) (y : MethodName) (wy : List Cond) (rm : Room) (D : va_G) (cs : Nat → ClassId) (As : List Value) (w : va_W) (r : Int32) (Sz : St) : Prop :=
  ∀ sz : Nat, Met l y wy rm (va_Pc As (gP D cs sz w)) (va_Qi (fun r' (u : (Nat → Nat) × Nat × Nat) => r' = r ∧ As.head? = some (.ref (u.1 0))) (fun u => gB D (va_A w sz) (ccells cs u.1 u.2.1 u.2.2 Sz)) (va_A w sz)) rm.cells rm.slots (va_A w sz)
def gXv (l : Launch) (y : MethodName) (wy : List Cond) (rm : Room) (D : va_G) (cs : Nat → ClassId) (As : List Value) (w : va_W) (Sz : St) : Prop :=
  ∀ sz : Nat, Met l y wy rm (va_Pc As (gP D cs sz w)) (va_Qv (fun (u : (Nat → Nat) × Nat × Nat) => As.head? = some (.ref (u.1 0))) (fun u => gB D (va_A w sz) (ccells cs u.1 u.2.1 u.2.2 Sz)) (va_A w sz)) rm.cells rm.slots (va_A w sz)
section GX
variable {l : Launch} {y : MethodName} {ws ws' : List Cond} {rm : Room} {cc : ByteArray} {maxL : Nat} {D : va_G} {cs : Nat → ClassId} {As : List Value} {w : va_W} {Sz : St}
theorem gXE_i {r : Int32} (hy : plainName y.cls = true) (hw : ws = Cond.code y cc maxL (some .int) :: ws') (hA : (lg_sl As).length ≤ maxL)
    (body : ∀ (p : Program) (e : Env) (s : State) (m : MethodId) (args : Array Value) (below : List Frame) (meth : Method) (c : Code) (A : Nat → Prop) (Q : State → Prop),
      gC p s m args c cc maxL ws y.cls D cs → (∀ q, s.heap.size ≤ q → A q) →
      (∀ (a : Nat → Nat) (q1 q2 : Nat) (H : Heap) (locs : List Loc) (cells slots pc : Nat) (ls : Array Slot), decode cc pc = .ok (.ireturn, 1) → gw D A s.heap H locs (ccells cs a q1 q2 Sz) → As.head? = some (.ref (a 0)) → cells ≤ rm.cells → slots ≤ rm.slots → W p l e rm s m args below meth c H locs cells slots Q (F0 m pc ls [.int r])) →
      gw D A s.heap s.heap [] w → ∀ ls : Array Slot, lv_has ls maxL (lv_args 0 As) → W p l e rm s m args below meth c s.heap [] 0 0 Q (F0 m 0 ls [])) : gXi l y ws rm D cs As w r Sz := by
  intro sz
  refine Met.ofW (cc := cc) (maxL := maxL) (ret := some .int) hy hw ?_
  intro p e s m args below meth c s₁ B hml hv
  obtain ⟨rfl, hsz, hP, hK, hD0⟩ := hv
  subst hsz
  rw [lg_entry_eq]
  refine body p e s m _ below meth c (va_A w s.heap.size) _ ⟨⟨B.exec, B.bytes, hml, findClass_of_methodNamed B.named, atoms_spec B.pre⟩, hK⟩ (fun q h => Or.inr h) ?_ ⟨hP, hD0.self, va_S.rf⟩ _ (lv_entry As hA)
  intro a q1 q2 H locs cells slots pc ls hd hM h0 h1 h2
  refine W.widen h1 h2 ?_
  exact W.iret B.exec B.bytes B.returns (fun t ht hW => ⟨⟨r, (a, q1, q2), rfl, ⟨rfl, h0⟩, by rw [ht]; exact hM.1, hM.2.1⟩, hM.2.2.F ht⟩) hM.2.2.2.2 hd (hlocks := B.notSynchronized)
theorem gXE_v (hy : plainName y.cls = true) (hw : ws = Cond.code y cc maxL none :: ws') (hA : (lg_sl As).length ≤ maxL)
    (body : ∀ (p : Program) (e : Env) (s : State) (m : MethodId) (args : Array Value) (below : List Frame) (meth : Method) (c : Code) (A : Nat → Prop) (Q : State → Prop),
      gC p s m args c cc maxL ws y.cls D cs → (∀ q, s.heap.size ≤ q → A q) →
      (∀ (a : Nat → Nat) (q1 q2 : Nat) (H : Heap) (locs : List Loc) (cells slots pc : Nat) (ls : Array Slot), decode cc pc = .ok (.return_, 1) → gw D A s.heap H locs (ccells cs a q1 q2 Sz) → As.head? = some (.ref (a 0)) → cells ≤ rm.cells → slots ≤ rm.slots → W p l e rm s m args below meth c H locs cells slots Q (F0 m pc ls [])) →
      gw D A s.heap s.heap [] w → ∀ ls : Array Slot, lv_has ls maxL (lv_args 0 As) → W p l e rm s m args below meth c s.heap [] 0 0 Q (F0 m 0 ls [])) : gXv l y ws rm D cs As w Sz := by
  intro sz
  refine Met.ofW (cc := cc) (maxL := maxL) (ret := none) hy hw ?_
  intro p e s m args below meth c s₁ B hml hv
  obtain ⟨rfl, hsz, hP, hK, hD0⟩ := hv
  subst hsz
  rw [lg_entry_eq]
  refine body p e s m _ below meth c (va_A w s.heap.size) _ ⟨⟨B.exec, B.bytes, hml, findClass_of_methodNamed B.named, atoms_spec B.pre⟩, hK⟩ (fun q h => Or.inr h) ?_ ⟨hP, hD0.self, va_S.rf⟩ _ (lv_entry As hA)
  intro a q1 q2 H locs cells slots pc ls hd hM h0 h1 h2
  refine W.widen h1 h2 ?_
  exact W.vret B.exec B.bytes B.returns (fun t ht hW => ⟨⟨(a, q1, q2), rfl, h0, by rw [ht]; exact hM.1, hM.2.1⟩, hM.2.2.F ht⟩) hM.2.2.2.2 hd (hlocks := B.notSynchronized)
end GX
section SW
variable {D : va_G} {cs : Nat → ClassId} {A : Nat → Prop} {H0 H : Heap} {locs : List Loc} {a : Nat → Nat} {q1 q2 : Nat} {S : St}
theorem cset0 {x : Nat × va_E} : (ccells cs a q1 q2 S).set 0 x = x :: (ccells cs a q1 q2 S).tail := rfl
set_option maxRecDepth 20000 in
theorem cswR (hM : gw D A H0 H locs ((a 0, .inr (10, ((cf0 a q1 q2 S).set 8 (.ref (a 38))).set 9 (.ref (a 28)))) :: (ccells cs a q1 q2 S).tail)) : gw D A H0 H locs (ccells cs (swA a) q1 q2 (swS S)) :=
  ⟨hM.1.sub [0, 1, 2, 3, 4, 5, 6, 7, 8, 9, 10, 11, 12, 13, 14, 15, 16, 17, 18, 19, 20, 21, 22, 23, 24, 25, 26, 27, 38, 39, 40, 41, 42, 43, 44, 45, 46, 47, 28, 29, 30, 31, 32, 33, 34, 35, 36, 37, 48, 49, 50, 51] rfl,
   hM.2.1.sub [0, 1, 2, 3, 4, 5, 6, 7, 8, 9, 10, 11, 12, 13, 14, 15, 16, 17, 18, 19, 20, 21, 22, 23, 24, 25, 26, 27, 38, 39, 40, 41, 42, 43, 44, 45, 46, 47, 28, 29, 30, 31, 32, 33, 34, 35, 36, 37, 48, 49, 50, 51] (by decide) rfl, hM.2.2⟩
set_option maxRecDepth 20000 in
theorem cswT (hM : gw D A H0 H locs ((a 0, .inr (10, ((cf0 a q1 q2 S).set 11 (.ref (a 48))).set 10 (.ref (a 50)))) :: (ccells cs a q1 q2 S).tail)) : gw D A H0 H locs (ccells cs (stA a) q1 q2 (stS S)) :=
  ⟨hM.1.sub [0, 1, 2, 3, 4, 5, 6, 7, 8, 9, 10, 11, 12, 13, 14, 15, 16, 17, 18, 19, 20, 21, 22, 23, 24, 25, 26, 27, 28, 29, 30, 31, 32, 33, 34, 35, 36, 37, 38, 39, 40, 41, 42, 43, 44, 45, 46, 47, 50, 51, 48, 49] rfl,
   hM.2.1.sub [0, 1, 2, 3, 4, 5, 6, 7, 8, 9, 10, 11, 12, 13, 14, 15, 16, 17, 18, 19, 20, 21, 22, 23, 24, 25, 26, 27, 28, 29, 30, 31, 32, 33, 34, 35, 36, 37, 38, 39, 40, 41, 42, 43, 44, 45, 46, 47, 50, 51, 48, 49] (by decide) rfl, hM.2.2⟩
end SW
