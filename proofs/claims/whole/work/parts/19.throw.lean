/-! finding: it returns or throws; what the throw needs -/
abbrev xnames : List String := ["java/lang/RuntimeException", "java/lang/Exception"]
abbrev xI : String := "java/lang/IndexOutOfBoundsException"
abbrev xN : String := "java/util/NoSuchElementException"
def exn (cd : Nat) : String := if cd = 1 then xI else xN
def gT (U : State) : Prop := va_Nw (.castable xI xI) U ∧ va_Nw (.castable xN xN) U ∧ va_Nw (.declares (Bundle.initS "java/lang/RuntimeException")) U ∧ va_Nw (.declares (Bundle.initS "java/lang/Exception")) U ∧ va_Nw (.declares (Bundle.initS "java/lang/Throwable")) U
theorem cast_warm {a b : String} {s U : State} (hW : s.WarmedH U.vm) (hZ : va_Nw (.castable a b) s) : va_Nw (.castable a b) U := va_tabs rfl (rfl : (s.setVm U.vm).vm = U.vm) (by rw [Cond.castable_setVm hW.alike]; exact hZ)
theorem gT.warm {s U : State} (hW : s.WarmedH U.vm) (h : gT s) : gT U := ⟨cast_warm hW h.1, cast_warm hW h.2.1, h.2.2.1.warmD hW, h.2.2.2.1.warmD hW, h.2.2.2.2.warmD hW⟩
theorem gT.same {s U : State} (e : s.vm = U.vm) (h : gT s) : gT U := ⟨h.1.same rfl e, h.2.1.same rfl e, h.2.2.1.same rfl e, h.2.2.2.1.same rfl e, h.2.2.2.2.same rfl e⟩
def gU (A : Nat → Prop) (U : State) (H : Heap) : Prop := vx_Zq Bundle.tN "UNASSIGNED_STACK" Bundle.steD A U H ∧ vx_Zq Bundle.tN "SUPPRESSED_SENTINEL" Bundle.listD A U H
def gPf (D : va_G) (cs : Nat → ClassId) (adK adV : Nat → Nat) (sz : Nat) (w : va_W) (U : State) : Prop := gPz D cs adK adV sz w U ∧ gT U ∧ gU (va_A w sz) U U.heap
def rmF (fr lo : Nat) (S Sz : St) : Room := { frames := fr, cells := ph Sz - ph S + 1, slots := 2 * (ph Sz - ph S) + 6, locals := lo }
def gF (l : Launch) (y : MethodName) (wy : List Cond) (fr lo : Nat) (D : va_G) (cs : Nat → ClassId) (adK adV : Nat → Nat) (As : List Value) (a : Nat → Nat) (q1 q2 : Nat) (S : St) (cd : Nat) (r : Int32) (Sz : St) : Prop :=
  ∀ sz : Nat, vx_Met l y wy (rmF fr lo S Sz) (va_Pc As (gPf D cs adK adV sz (ccells cs a q1 q2 S))) (va_Qi (fun r' (_ : Nat × Nat) => cd = 0 ∧ r' = r) (fun u => gB D (va_A (ccells cs a q1 q2 S) sz) (ccells cs a u.1 u.2 Sz)) (va_A (ccells cs a q1 q2 S) sz))
    (vx_X (fun (_ : Nat × Nat) => True) (fun E u t => (E = exn cd ∧ cd ≠ 0) ∧ gB D (va_A (ccells cs a q1 q2 S) sz) (ccells cs a u.1 u.2 Sz) t) (va_A (ccells cs a q1 q2 S) sz)) (ph Sz - ph S + 1) (2 * (ph Sz - ph S) + 6) (va_A (ccells cs a q1 q2 S) sz)
theorem hg1 : ∀ w ∈ Cond.classLink RX10 145 xI :: Cond.initialized xI :: vx_atS RX10 149 xI xnames, vx_ot w = true := by decide +kernel
abbrev atN : List Cond := nx_at RX10 184 xN 13 nx_b "java/lang/RuntimeException"
theorem hg2 : ∀ w ∈ Cond.classLink RX10 180 xN :: Cond.initialized xN :: vx_atS RX10 149 xI xnames, vx_ot w = true := by decide +kernel
theorem hg3 : ∀ w ∈ atN, vx_ot w = true := by decide +kernel
theorem hb1 : ∀ w ∈ (vx_atS RX10 149 xI xnames).filter (fun w => !goodWord w), w ∈ [Cond.castable xI xI, .declares (Bundle.initS "java/lang/RuntimeException"), .declares (Bundle.initS "java/lang/Exception"), .declares (Bundle.initS "java/lang/Throwable")] := by decide +kernel
theorem hb2 : ∀ w ∈ atN.filter (fun w => !goodWord w), w ∈ [Cond.declares (Bundle.initS "java/lang/RuntimeException")] := by decide +kernel
theorem hin1 : ∀ w ∈ (vx_atS RX10 149 xI xnames).filter goodWord, w ∈ wsX10_finding := fun _ h => List.mem_cons_of_mem _ (List.mem_append_left _ (List.mem_append_right _ h))
theorem hin2 : ∀ w ∈ atN.filter goodWord, w ∈ wsX10_finding := fun _ h => List.mem_cons_of_mem _ (List.mem_append_right _ h)
section GF
variable {l : Launch} {fr lo : Nat} {D : va_G} {cs : Nat → ClassId} {adK adV : Nat → Nat} {As : List Value} {a : Nat → Nat} {q1 q2 : Nat} {S Sz : St} {cd : Nat} {r : Int32}
theorem gPf.blind {sz : Nat} {w : va_W} : FrameBlind (va_Pc As (gPf D cs adK adV sz w)) := fun b U g mk q => by
  obtain ⟨q0, ⟨⟨q1, qP, qK, qD⟩, qR, qZ⟩, qT, qU⟩ := q
  exact ⟨q0, ⟨⟨q1, qP, qK.call g mk b, qD⟩, fun z hz => (qR z hz).same rfl, gZ.moved (u := U) (U := U.calling g mk b) (Vm.Alike.refl U.vm) qZ⟩, qT.same rfl, vx_Zq.moved (u := U) (U := U.calling g mk b) (Vm.Alike.refl U.vm) qU.1, vx_Zq.moved (u := U) (U := U.calling g mk b) (Vm.Alike.refl U.vm) qU.2⟩
set_option maxRecDepth 100000 in
set_option maxHeartbeats 4000000 in
theorem gFE (hl0 : l.stackTraces = false) (hfr : 6 ≤ fr) (hlo : 82 ≤ lo) (hA : (lg_sl As).length ≤ 3)
    (body : ∀ (p : Program) (e : Env) (s : State) (m : MethodId) (args : Array Value) (below : List Frame) (meth : Method) (c : Code) (A : Nat → Prop) (Q : State → Prop),
      gC p s m args c cX10_finding 3 wsX10_finding RX10 D cs → (∀ q, s.heap.size ≤ q → A q) → gR adK s → gZ adK adV A s s.heap →
      (∀ (q1 q2 : Nat) (H : Heap) (locs : List Loc) (cells slots pc : Nat) (ls : Array Slot), decode cX10_finding pc = .ok (.ireturn, 1) → gw D A s.heap H locs (ccells cs a q1 q2 Sz) → cells ≤ ph Sz - ph S → slots ≤ 2 * (ph Sz - ph S) → cd = 0 → W p l e (rmF fr lo S Sz) s m args below meth c H locs cells slots Q (F0 m pc ls [.int r])) →
      (∀ (q1 q2 : Nat) (H : Heap) (locs : List Loc) (cells slots : Nat) (ls : Array Slot), gw D A s.heap H locs (ccells cs a q1 q2 Sz) → ls.size = 3 → cells ≤ ph Sz - ph S → slots ≤ 2 * (ph Sz - ph S) → cd = 1 → W p l e (rmF fr lo S Sz) s m args below meth c H locs cells slots Q (F0 m 19 ls [])) →
      (∀ (q1 q2 : Nat) (H : Heap) (locs : List Loc) (cells slots : Nat) (ls : Array Slot), gw D A s.heap H locs (ccells cs a q1 q2 Sz) → ls.size = 3 → cells ≤ ph Sz - ph S → slots ≤ 2 * (ph Sz - ph S) → cd = 2 → W p l e (rmF fr lo S Sz) s m args below meth c H locs cells slots Q (F0 m 180 ls [])) →
      gw D A s.heap s.heap [] (ccells cs a q1 q2 S) → ∀ ls : Array Slot, lv_has ls 3 (lv_args 0 As) → W p l e (rmF fr lo S Sz) s m args below meth c s.heap [] 0 0 Q (F0 m 0 ls [])) : gF l yX10_finding wsX10_finding fr lo D cs adK adV As a q1 q2 S cd r Sz := by
  intro sz
  refine vx_ofW (cc := cX10_finding) (maxL := 3) (ret := some .int) (by decide) rfl ?_
  intro p e s m args below meth c s₁ B hml htab hv
  obtain ⟨rfl, ⟨⟨hsz, hP, hK, hD0⟩, hR, hZ⟩, hT, hU⟩ := hv
  subst hsz
  have hts := atoms_spec (ws := wsX10_finding) B.pre
  have hown : s.vm.findClass RX10 = some m.cls := findClass_of_methodNamed B.named
  have hxx : ∀ (q1 q2 : Nat) (H : Heap) (locs : List Loc), gw D (va_A (ccells cs a q1 q2 S) s.heap.size) s.heap H locs (ccells cs a q1 q2 Sz) → True := fun _ _ _ _ _ => trivial
  rw [lg_entry_eq]
  have throwX : ∀ (E : String) (q1' q2' : Nat) (H : Heap) (locs : List Loc), E = exn cd → cd ≠ 0 → gw D (va_A (ccells cs a q1 q2 S) s.heap.size) s.heap H locs (ccells cs a q1' q2' Sz) → ∀ t : State, s.vm.Alike t.vm → H.size ≤ t.heap.size → (∀ q : Nat, q < H.size → t.heap[q]? = H[q]?) →
      vx_X (fun (_ : Nat × Nat) => True) (fun E u t => (E = exn cd ∧ cd ≠ 0) ∧ gB D (va_A (ccells cs a q1 q2 S) s.heap.size) (ccells cs a u.1 u.2 Sz) t) (va_A (ccells cs a q1 q2 S) s.heap.size) E s t := by
    intro E q1' q2' H locs hE hcd hM t hal hsz hk
    refine ⟨(q1', q2'), trivial, ⟨⟨hE, hcd⟩, hM.1.kept (fun k q hq => hk q.1 ((hM.1 k q hq).lt)), hM.2.1⟩, Nat.le_trans hM.2.2.1 hsz, fun q h1 h2 => ?_⟩
    rw [hk q (Nat.lt_of_lt_of_le h1 hM.2.2.1)]
    exact hM.2.2.2.1 q h1 h2
  refine body p e s m _ below meth c (va_A (ccells cs a q1 q2 S) s.heap.size) _ ⟨⟨B.exec, B.bytes, hml, hown, hts⟩, hK⟩ (fun q h => Or.inr h) hR hZ ?_ ?_ ?_ ⟨hP, hD0.self, va_S.rf⟩ _ (lv_entry As hA)
  · intro q1 q2 H locs cells slots pc ls hd hM h1 h2 h0
    refine vx_ret (W.widen (Nat.le_trans h1 (Nat.le_succ _)) (Nat.le_trans h2 (Nat.le_add_right _ 6)) ?_)
    exact W.iret B.exec B.bytes B.returns (fun t ht hW => ⟨⟨r, (q1, q2), rfl, ⟨h0, rfl⟩, by rw [ht]; exact hM.1, hM.2.1⟩, hM.2.2.F ht⟩) hM.2.2.2.2 hd (hlocks := B.notSynchronized)
  · intro q1 q2 H locs cells slots ls hM hls h1 h2 h0
    exact vx_throwS (cls := xI) (names := xnames) (text := "no such finding") (sa := adK 8) B.exec B.bytes hl0 hown (by decide) (by decide) (hts _ (mw_i (i := 1) rfl)) (hts _ (mw_i (i := 2) rfl)) (hR ("WeatherTeller", 147, "no such finding", 8) (by decide))
      (vx_hat (fun w h => hts w (hin1 w h)) hb1 (vx_c (hT.1.use rfl) (vx_c (hT.2.2.1.use rfl) (vx_c (hT.2.2.2.1.use rfl) (vx_c (hT.2.2.2.2.use rfl) vx_n))))) hg1 hU.1 hU.2 hM.2.2 (by rw [hls, hml]) dX10_finding_19 dX10_finding_22 dX10_finding_23 dX10_finding_25 dX10_finding_28 (fun x hx => (htab x hx).elim)
      (by show 2 + 3 < fr; omega) (by show 0 + (13 * (2 + 1) + 43) ≤ lo; omega) (by show cells + 1 ≤ ph Sz - ph S + 1; omega) (by show slots + 6 ≤ 2 * (ph Sz - ph S) + 6; omega) B.notSynchronized (throwX xI q1 q2 H locs (by rw [h0]; rfl) (by omega) hM) hM.2.2.2.2 (by omega) (by omega)
  · intro q1 q2 H locs cells slots ls hM hls h1 h2 h0
    exact nx_throwS (clsI := xI) (cls := xN) (par := "java/lang/RuntimeException") (names := ["java/lang/Exception"]) (icI := 149) (text := "no such what") (sa := adK 9) B.exec B.bytes hl0 hown (by decide) (by decide) (by decide) nx_b0 nx_b1 nx_b2 nx_b5 (hts _ (mw_i (i := 3) rfl)) (hts _ (mw_i (i := 4) rfl)) (hR ("WeatherTeller", 182, "no such what", 9) (by decide))
      (vx_hat (fun w h => hts w (hin1 w h)) hb1 (vx_c (hT.1.use rfl) (vx_c (hT.2.2.1.use rfl) (vx_c (hT.2.2.2.1.use rfl) (vx_c (hT.2.2.2.2.use rfl) vx_n))))) (vx_hat (fun w h => hts w (hin2 w h)) hb2 (vx_c (hT.2.2.1.use rfl) vx_n)) hg2 hg3 hU.1 hU.2 hM.2.2 (by rw [hls, hml]) dX10_finding_180 dX10_finding_183 dX10_finding_184 dX10_finding_186 dX10_finding_189 (fun x hx => (htab x hx).elim)
      (by show 1 + 4 < fr; omega) (by show 0 + (13 * (1 + 2) + 43) ≤ lo; omega) (by show cells + 1 ≤ ph Sz - ph S + 1; omega) (by show slots + 6 ≤ 2 * (ph Sz - ph S) + 6; omega) B.notSynchronized (throwX xN q1 q2 H locs (by rw [h0]; rfl) (by omega) hM) hM.2.2.2.2 (by omega) (by omega)
end GF
