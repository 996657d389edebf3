/-! NoSuchElementException: its constructor hands the message on to its parent's by index 13 of its own pool (the kit's words of a throw take index 7 at every link) -/
def nx_b : ByteArray := ⟨#[0x2a, 0x2b, 0xb7, 0x00, 0x0d, 0xb1]⟩
theorem nx_b0 : decode nx_b 0 = .ok (.aload_n 0, 1) := by decide +kernel
theorem nx_b1 : decode nx_b 1 = .ok (.aload_n 1, 1) := by decide +kernel
theorem nx_b2 : decode nx_b 2 = .ok (.invokespecial 13, 3) := by decide +kernel
theorem nx_b5 : decode nx_b 5 = .ok (.return_, 1) := by decide +kernel
/-- what a throw of X needs beside the words of a throw of a class with the same parent Y -/
def nx_at (own : String) (ic : Nat) (X : String) (ix : Nat) (rx : ByteArray) (Y : String) : List Cond :=
  Bundle.passSAtoms X Y ix rx ++ [.methodLink own ic (Bundle.initS X), .instantiable X 6, .selects X Bundle.tFill0 Bundle.tFill0, .selects X Bundle.tFill Bundle.tFill, .lays X Bundle.tN "cause" "Ljava/lang/Throwable;", .lays X Bundle.tN "stackTrace" Bundle.steD, .lays X Bundle.tN "suppressedExceptions" Bundle.listD, .lays X Bundle.tN "detailMessage" "Ljava/lang/String;", .lays X Bundle.tN "backtrace" "Ljava/lang/Object;"]
section NX
variable {p : Program} {l : Launch} {e : Env} {R : Room} {s : State} {m : MethodId} {args : Array Value} {below : List Frame} {meth : Method} {c : Code} {W0 : State} {cells slots : Nat}
/-- the chain of constructors from X, whose own link is ix, over Y's -/
theorem nx_chain {pl : Platform} (hpl : pl.magicAccessors = ({} : Platform).magicAccessors) {top : MethodId} (htop : s.methodNamed? (Bundle.initS Bundle.tN) = some top) {X Y : String} {names : List String} {own : String} {ic ix : Nat} {rx : ByteArray} (hX : Bundle.fit X = true) (hY : Bundle.fit Y = true) (hn : ∀ n ∈ names, Bundle.fit n = true)
    (b0 : decode rx 0 = .ok (.aload_n 0, 1)) (b1 : decode rx 1 = .ok (.aload_n 1, 1)) (b2 : decode rx 2 = .ok (.invokespecial ix, 3)) (b5 : decode rx 5 = .ok (.return_, 1))
    (hN : ∀ w ∈ nx_at own ic X ix rx Y, w.before args s = true) (hc : ∀ w ∈ Bundle.chainSAtoms Y names, w.before args s = true) :
    ∃ (P : PassC) (Ps : List PassC), Ps.length = names.length + 1 ∧ (∀ q ∈ P :: Ps, PassC.LinksS q pl s) ∧ s.methodNamed? (Bundle.initS X) = some P.m ∧ PassesOn top ((P :: Ps).map (·.toPassT)) := by
  obtain ⟨P, LP, hm, hsup⟩ := PassC.ofS_atoms (args := args) (s := s) hpl (Bundle.fit_spec hX).1 (Bundle.fit_spec hY).2 b0 b1 b2 b5 (fun w hw => hN w (List.mem_append_left _ hw))
  obtain ⟨P1, Ps, hlen, L1, hL, hm1, hs1, hs2⟩ := Bundle.chainS (args := args) hpl htop names Y hY hn hc
  refine ⟨P, P1 :: Ps, by rw [List.length_cons, hlen], ?_, hm, Option.some.inj (hsup.symm.trans hm1), hs1, hs2⟩
  intro q hq
  rcases List.mem_cons.mp hq with rfl | hq
  · exact LP
  rcases List.mem_cons.mp hq with rfl | hq
  · exact L1
  · exact hL q hq
set_option maxHeartbeats 4000000 in
/-- new is done, the message lies on the stack: the constructor, then athrow -/
theorem nx_ctor (X : Stand p l e R s m args below meth c W0 [] cells slots) (hexec : p.tables.exec = Jvm.exec) (htr : e.platform.stackTraces = false) {own clsI cls Y : String} {names : List String} {icI ic ix : Nat} {rx : ByteArray}
    (hown : s.vm.findClass own = some m.cls) (hcls : Bundle.fit cls = true) (hY : Bundle.fit Y = true) (hnames : ∀ n ∈ names, Bundle.fit n = true)
    (b0 : decode rx 0 = .ok (.aload_n 0, 1)) (b1 : decode rx 1 = .ok (.aload_n 1, 1)) (b2 : decode rx 2 = .ok (.invokespecial ix, 3)) (b5 : decode rx 5 = .ok (.return_, 1))
    (hI : ∀ w ∈ Bundle.ownAtoms own icI clsI (Y :: names), w.before args s = true) (hN : ∀ w ∈ nx_at own ic cls ix rx Y, w.before args s = true)
    {a : Addr} {cX : ClassId} {kX : Class} (hfX : s.vm.findClass cls = some cX) (hkX : s.vm.classes[cX]? = some kX) (hcell : W0.heap[a]? = some (freshCell cX kX)) (hnew : s.heap.size ≤ a)
    {msg : Value} (hmsg : msg.isRef = true) {g : JFrame} (hg : g.method = m) (hsize : g.locals.size = c.maxLocals) (hlocked : g.locked = none) (hentered : g.entered = []) {rest : List Value} (hstack : g.stack = msg :: .ref a :: .ref a :: rest)
    (hd6 : decode c.code g.pc = .ok (.invokespecial ic, 3)) (hd9 : decode c.code (g.pc + 3) = .ok (.athrow, 1)) (hout : ∀ x ∈ c.exceptionTable.toList, covers x (g.pc + 3) = false)
    (hRframes : names.length + 4 < R.frames) (hRlocals : 2 * g.monitorRoom + ((Value.ref a :: rest).map fun v => v.category).sum + (13 * (names.length + 2) + 42) ≤ R.locals) (hlocks : meth.locks = false) :
    ∃ U : State, Steps p.tables e below (W0.setTop g) U ∧ U.status = .running ∧ Ended U below (.threw a) ∧ s.WarmedH U.vm ∧ s.sameButNew ({ U with vm := s.vm } : State) [] cells slots ∧
      ∃ ce : Cell, U.heap[a]? = some ce ∧ ce.vm = .none ∧ s.vm.findClass cls = some ce.cls := by
  have hplat := X.admits.platform
  have hpl : e.platform.magicAccessors = ({} : Platform).magicAccessors := by rw [hplat]
  have tl : ∀ w, w ∈ [Cond.methodLink own ic (Bundle.initS cls), .instantiable cls 6, .selects cls Bundle.tFill0 Bundle.tFill0, .selects cls Bundle.tFill Bundle.tFill, .lays cls Bundle.tN "cause" "Ljava/lang/Throwable;", .lays cls Bundle.tN "stackTrace" Bundle.steD, .lays cls Bundle.tN "suppressedExceptions" Bundle.listD, .lays cls Bundle.tN "detailMessage" "Ljava/lang/String;", .lays cls Bundle.tN "backtrace" "Ljava/lang/Object;"] → w.holds args s none s [] = true := fun w hw => hN w (List.mem_append_right _ hw)
  have fr : ∀ w, w ∈ Bundle.ownAtoms own icI clsI (Y :: names) → w.holds args s none s [] = true := fun w hw => hI w hw
  -- Throwable's own parts, and the chain
  obtain ⟨T, Z0, L, -, Ti⟩ := ThrowableC.of_atoms (args := args) (s := s) (by rw [hplat]) (by rw [hplat]) hpl (fun w hw => hI w (by simp [Bundle.ownAtoms, hw]))
  obtain ⟨Z, M, LZ, LM, hZ⟩ := Init0T.ofS_atoms (args := args) hpl L Ti (fun w hw => hI w (by simp [Bundle.ownAtoms, hw]))
  obtain ⟨P, Ps, hlen, hPs, hPm, hon⟩ := nx_chain hpl hZ hcls hY hnames b0 b1 b2 b5 hN (fun w hw => hI w (by simp [Bundle.ownAtoms, Bundle.chainSAtoms, hw]))
  have hfound : s.vm.findClass cls = some P.m.cls := findClass_of_methodNamed hPm
  cases Option.some.inj (hfX.symm.trans hfound)
  obtain ⟨c1, k1, hc1, hk1, hord, -, -, -⟩ := Cond.instantiable_spec (tl (.instantiable cls 6) (by simp))
  cases Option.some.inj (hc1.symm.trans hfound)
  cases Option.some.inj (hkX.symm.trans hk1)
  -- which methods a call on the new object selects
  have sel : ∀ (y : MethodName) (q : MethodId), y.cls = Bundle.tN → s.methodNamed? y = some q → (y.cls ≠ "java/lang/invoke/MethodHandle" ∧ y.cls ≠ "java/lang/invoke/VarHandle") → (Cond.selects cls y y).holds args s none s [] = true → selectMethod e.platform s.vm P.m.cls q = .method q := by
    intro y q hy1 hy hy2 hw
    obtain ⟨c2, r2, m2, q1, q2, q3, q4, -⟩ := Cond.selects_spec hw
    cases Option.some.inj (q1.symm.trans hfound)
    cases Option.some.inj (q2.symm.trans (State.methodFound?_of_named hy hy2))
    cases Option.some.inj (q3.symm.trans hy)
    rw [Launch.admits_selectMethod X.admits]
    exact q4
  have sel0 := sel _ _ rfl Ti.fill0 (by decide) (tl (.selects cls Bundle.tFill0 Bundle.tFill0) (by simp))
  have sel1 := sel _ _ rfl Ti.fill (by decide) (tl (.selects cls Bundle.tFill Bundle.tFill) (by simp))
  -- the two statics
  obtain ⟨zS, hzS, hzi⟩ := Ti.statics
  obtain ⟨u0, hu0⟩ := Cond.staticRefV Ti.unassigned L.unassignedStatic L.statics hzS hzi (fr (.isRef (.static Bundle.tN "UNASSIGNED_STACK" Bundle.steD)) (by simp [Bundle.ownAtoms]))
  obtain ⟨sen, hsen⟩ := Cond.staticRefV Ti.sentinel L.sentinelStatic L.statics hzS hzi (fr (.isRef (.static Bundle.tN "SUPPRESSED_SENTINEL" Bundle.listD)) (by simp [Bundle.ownAtoms]))
  obtain ⟨zW, hzW, hzv, -, hzk⟩ := X.same.2.2.2.2.2 T.aS zS hzS
  have hne : T.aS ≠ a := Nat.ne_of_lt (Nat.lt_of_lt_of_le (Array.getElem?_eq_some_iff.mp hzS).1 hnew)
  have hzu : zW.vm ≠ .unknown := by
    rw [hzv]
    intro h
    rw [show zS.vm = .unknown from h] at hzi
    cases hzi
  have no : ∀ i : Nat, (⟨T.aS, i⟩ : Loc) ∉ ([] : List Loc) := fun _ h => nomatch h
  -- the fields of the new object
  obtain ⟨iM, hM⟩ := Ti.msg
  obtain ⟨ciB, iB, fB, hB1, hB2, hB3, hB4, -, hBn, hBt, hB⟩ := Cond.ownField (t := .object "java/lang/Object") Ti.found L.cls (by decide +kernel) (fr (.fieldLink Bundle.tN 198 Bundle.tN "backtrace" "Ljava/lang/Object;") (by simp [Bundle.ownAtoms])) (fr (.lays Bundle.tN Bundle.tN "backtrace" "Ljava/lang/Object;") (by simp [Bundle.ownAtoms])) e.platform hpl
  obtain ⟨tyC, dC, eC, nC⟩ := Cond.laysAt hfound hk1 Ti.cause (tl (.lays cls Bundle.tN "cause" "Ljava/lang/Throwable;") (by simp))
  obtain ⟨tyS, dS, eS, nS⟩ := Cond.laysAt hfound hk1 Ti.stack (tl (.lays cls Bundle.tN "stackTrace" Bundle.steD) (by simp))
  obtain ⟨tyP, dP, eP, nP⟩ := Cond.laysAt hfound hk1 Ti.supp (tl (.lays cls Bundle.tN "suppressedExceptions" Bundle.listD) (by simp))
  obtain ⟨tyM, dM, eM, nM⟩ := Cond.laysAt hfound hk1 hM (tl (.lays cls Bundle.tN "detailMessage" "Ljava/lang/String;") (by simp))
  obtain ⟨tyB, dB, eB, nB⟩ := Cond.laysAt hfound hk1 hB (tl (.lays cls Bundle.tN "backtrace" "Ljava/lang/Object;") (by simp))
  have pC := Cond.laysApart eB eC nB nC (by rw [hBn, Ti.causeName]; decide)
  have pS := Cond.laysApart eB eS nB nS (by rw [hBn, Ti.stackName]; decide)
  have pP := Cond.laysApart eB eP nB nP (by rw [hBn, Ti.suppName]; decide)
  have hskip : SkipFacts T e.platform s (fun u => u) u0 ((preparedCellV T.toThrowableT (freshCell P.m.cls kX) a u0 sen).withEntry W0.cur) := by
    refine ⟨{ ci198 := ciB, i198 := iB, fBack := fB }, ⟨hB1, hB2, hB3, hB4⟩, ?_, fun _ _ => rfl⟩
    have h0 := fresh_default (c := P.m.cls) tyB
    rw [hBt] at h0
    simpa [preparedCellV, Cell.setSlot, Cell.withEntry, Array.getElem?_setIfInBounds, pC, pS, pP, pC.symm, pS.symm, pP.symm, defaultValue] using h0
  -- the call, the chain, athrow
  obtain ⟨tm, -, -, -, vm₁, hn1, -, -, -, -, -, -, -, hW1, st1⟩ := Steps.initColdS (tb := p.tables) (e := e) (below := below) (s := s) (U := W0) X.here hexec X.warmed hpl hown (t := Bundle.initS cls) rfl rfl (Bundle.fit_spec hcls).2
    (tl (.methodLink own ic (Bundle.initS cls)) (by simp)) (hN (.instanceMethod (Bundle.initS cls)) (by simp [nx_at, Bundle.passSAtoms])) (bytes := rx) (maxL := 2) (hN (.code (Bundle.initS cls) rx 2 none) (by simp [nx_at, Bundle.passSAtoms]))
    (f := g) hg (a := a) (msg := msg) (rest := .ref a :: rest) hstack hd6
  cases Option.some.inj (hn1.symm.trans hPm)
  obtain ⟨vm₂, X2, st2⟩ := (X.noted hW1).ctorMessageOffV hexec (g := { g with stack := .ref a :: rest }) hg hsize T L Z LZ M LM (P :: Ps) hPs hon (u0 := u0) (sen := sen) (self := a) hmsg (cell := freshCell P.m.cls kX) (cellS := zW)
    hcell (fun _ => by simp) (by simp) rfl rfl sel0 sel1 hzW hne hzu (by rw [hzk _ (no _)]; exact hu0) (by rw [hzk _ (no _)]; exact hsen)
    (Takes.of_laid hk1 hord tyC (by rw [Ti.causeType]; rfl)) (Takes.of_laid hk1 hord tyS (by rw [Ti.stackType]; exact fits_refV_array _ u0)) (Takes.of_laid hk1 hord tyP (by rw [Ti.suppType]; exact fits_refV_object _ sen))
    (Takes.of_laid hk1 hord tyM (by rw [Ti.msgType]; exact fits_refV_object _ ⟨msg, hmsg⟩)) Ti.objLocals hskip htr [] hd6 (by rw [List.length_cons, hlen]; omega) (by rw [List.length_cons, hlen]; exact hRlocals)
  obtain ⟨hw, hrun, hend, hWU, hsame⟩ := X2.athrowLeaves hexec (g := { g with stack := .ref a :: rest, pc := g.pc + 3 }) hg hlocked hentered hout (a := a) (rest := rest) rfl hd9 hlocks
  have hlt : a < ((W0.setVm vm₁).setVm vm₂).heap.size := (Array.getElem?_eq_some_iff.mp hcell).1
  refine ⟨_, st1 _ (fun acts => ?_), hrun, hend, hWU, hsame.weaken (fun y hy hlt' => ?_) (Nat.le_refl _) (Nat.le_refl _), _, heapAt_setCell_self (s := (W0.setVm vm₁).setVm vm₂) (plainBareV T.toThrowableT (freshCell P.m.cls kX) a u0 sen msg) hlt, rfl, hfound⟩
  · rw [doInvoke_state]
    exact st2 _ hw
  · exfalso
    have hb : y.base = a := by
      simp only [List.nil_append, List.mem_cons, List.not_mem_nil, or_false] at hy
      rcases hy with rfl | rfl | rfl | rfl | rfl <;> rfl
    rw [hb] at hlt'
    exact Nat.not_lt.mpr hnew hlt'
end NX
section NXT
variable {p : Program} {l : Launch} {e : Env} {R : Room} {s : State} {m : MethodId} {args : Array Value} {below : List Frame} {meth : Method} {c : Code} {H : Heap} {locs : List Loc} {cells slots : Nat} {Q : State → Prop}
variable {mc ms : Nat} {free : Addr → Prop} {A0 A1 : Nat → Prop} {H0 : Heap} {a : Array Value} {ls : Array Slot} {st0 rest : List Value}
variable {Qc : Array Value → State → Outcome → State → Prop} {XC : String → State → State → Prop}
theorem nx_throwS {cc : ByteArray} {pc : Nat} (hexec : p.tables.exec = Jvm.exec) (hb : c.code = cc) (hl : l.stackTraces = false) {own clsI cls par text : String} {names : List String} {ik is icI ic ix mc ms sa : Nat} {rx : ByteArray} {A : Nat → Prop}
    (hown : s.vm.findClass own = some m.cls) (hcls : Bundle.fit cls = true) (hY : Bundle.fit par = true) (hnames : ∀ n ∈ names, Bundle.fit n = true)
    (b0 : decode rx 0 = .ok (.aload_n 0, 1)) (b1 : decode rx 1 = .ok (.aload_n 1, 1)) (b2 : decode rx 2 = .ok (.invokespecial ix, 3)) (b5 : decode rx 5 = .ok (.return_, 1))
    (hk : (Cond.classLink own ik cls).before args s = true) (hini : (Cond.initialized cls).before args s = true) (hstr : vk_R own is text sa s) (hat : ∀ w ∈ vx_atS own icI clsI (par :: names), w.before args s = true) (hatN : ∀ w ∈ nx_at own ic cls ix rx par, w.before args s = true)
    (hgood : ∀ w ∈ Cond.classLink own ik cls :: Cond.initialized cls :: vx_atS own icI clsI (par :: names), vx_ot w = true) (hgoodN : ∀ w ∈ nx_at own ic cls ix rx par, vx_ot w = true)
    (hU : vx_Zq Bundle.tN "UNASSIGNED_STACK" Bundle.steD A s s.heap) (hN : vx_Zq Bundle.tN "SUPPRESSED_SENTINEL" Bundle.listD A s s.heap) (hS : va_S A s.heap H locs) (hsize : ls.size = c.maxLocals)
    (d0 : decode cc pc = .ok (.new ik, 3)) (d3 : decode cc (pc + 3) = .ok (.dup, 1)) (d4 : decode cc (pc + 4) = .ok (.ldc is, 2)) (d6 : decode cc (pc + 6) = .ok (.invokespecial ic, 3)) (d9 : decode cc (pc + 9) = .ok (.athrow, 1))
    (hout : ∀ x ∈ c.exceptionTable.toList, covers x (pc + 9) = false)
    (hRframes : names.length + 4 < R.frames) (hRlocals : (rest.map fun v => v.category).sum + (13 * (names.length + 2) + 43) ≤ R.locals) (hRcells : cells + 1 ≤ R.cells) (hRslots : slots + 6 ≤ R.slots) (hlocks : meth.locks = false)
    (hx : ∀ t : State, s.vm.Alike t.vm → H.size ≤ t.heap.size → (∀ q : Nat, q < H.size → t.heap[q]? = H[q]?) → XC cls s t)
    (hf : ∀ z ∈ locs, free z.base) (hc : cells + 1 ≤ mc) (hs : slots + 6 ≤ ms) :
    W p l e R s m args below meth c H locs cells slots (vx_MQ below Qc XC args s mc ms free) (F0 m pc ls rest) := by
  intro T hT X
  have htr : e.platform.stackTraces = false := (show e.platform.stackTraces = l.stackTraces by rw [X.admits.platform]).trans hl
  have Y := vx_rebase X (R' := { frames := R.frames, locals := R.locals, cells := 1, slots := 6 }) (Nat.le_refl _) (Nat.le_refl _) hRcells hRslots
  obtain ⟨s', hA⟩ : ∃ z, z = (T.setVm s.vm).setFrames (.invoking m args :: below) := ⟨_, rfl⟩
  rw [← hA] at Y
  have hvm : s'.vm = s.vm := by rw [hA]; rfl
  have hhp : s'.heap = H := by rw [hA]; exact hT
  have hW0 : s.WarmedH s'.vm := by rw [hvm]; exact State.WarmedH.refl s
  have hatN' : ∀ w ∈ nx_at own ic cls ix rx par, w.before args s' = true := fun w hw => vx_ot_at hW0 hvm.symm (hgoodN w hw) (hatN w hw)
  have hat' : ∀ w ∈ vx_atS own icI clsI (par :: names), w.before args s' = true := fun w hw => vx_ot_at hW0 hvm.symm (hgood w (List.mem_cons_of_mem _ (List.mem_cons_of_mem _ hw))) (hat w hw)
  have hk' : (Cond.classLink own ik cls).before args s' = true := vx_ot_at hW0 hvm.symm (hgood _ List.mem_cons_self) hk
  have hini' : (Cond.initialized cls).before args s' = true := vx_ot_at hW0 hvm.symm (hgood _ (List.mem_cons_of_mem _ List.mem_cons_self)) hini
  have hU' : vx_Zq Bundle.tN "UNASSIGNED_STACK" Bundle.steD A s' s'.heap := by rw [hhp]; exact vx_Zq.moved hW0.alike (hU.kept hS.2.1)
  have hN' : vx_Zq Bundle.tN "SUPPRESSED_SENTINEL" Bundle.listD A s' s'.heap := by rw [hhp]; exact vx_Zq.moved hW0.alike (hN.kept hS.2.1)
  have h : ∀ w ∈ Bundle.ownAtoms own icI clsI (par :: names), w.before args s' = true := vx_own hat' (vx_isRefq hU'.1) (vx_isRefq hN'.1) hU'.2.word hN'.2.word
  have hown' : s'.vm.findClass own = some m.cls := by rw [hvm]; exact hown
  have hins : (Cond.instantiable cls 6).before args s' = true := hatN' _ (by simp [nx_at])
  obtain ⟨vm₁, cX, kX, hfX, hkX, -, -, X₁, st1⟩ := Y.newCold hexec (own := own) (C := cls) (index := ik) (n := 6) hown' hk' hins hini'
    (g := F0 m pc ls rest) rfl (by rw [hb]; exact d0) (Nat.le_refl _) (Nat.le_refl _)
  generalize hT1 : (T.setVm vm₁).pushCell { cls := cX, slots := kX.instanceTypes.map defaultValue, vm := .none } = T1 at X₁ st1
  have hcat : (Value.ref T.heap.size).category = 1 := rfl
  have hcellA : T1.heap[T.heap.size]? = some (freshCell cX kX) := by rw [← hT1]; exact State.heap_pushCell_size _ _
  have d3' : decode c.code (pc + 3) = .ok (.dup, 1) := by rw [hb]; exact d3
  have d4' : decode c.code (pc + 4) = .ok (.ldc is, 2) := by rw [hb]; exact d4
  have hstr' : vk_R own is text sa s' := vk_R.warm hW0 hstr
  obtain ⟨U, hsteps, hrun, hend, hW, hsame, ce, hce, hOv, hOc⟩ := nx_ctor X₁ hexec htr (own := own) (clsI := clsI) (cls := cls) (Y := par) (names := names) (ic := ic) hown' hcls hY hnames b0 b1 b2 b5 h hatN' hfX hkX hcellA (by rw [hhp, hT]; exact Nat.le_refl _) (msg := .ref sa) rfl
    (g := { method := m, pc := pc + 6, locals := ls, stack := .ref sa :: .ref T.heap.size :: .ref T.heap.size :: rest, locked := none }) rfl hsize rfl rfl (rest := rest) rfl
    (by rw [hb]; exact d6) (by rw [hb]; exact d9) hout hRframes (by simp only [List.map_cons, List.sum_cons, hcat]; omega) hlocks
  obtain ⟨f1, f2⟩ := vx_frame hsame
  rw [hhp] at f1 f2
  have hWs : s.WarmedH U.vm := State.WarmedH.trans hW0 hW
  have hcl : s.vm.findClass cls = some ce.cls := by
    have h9 := hOc
    rw [hvm] at h9
    exact h9
  have hall : s.sameButNew ({ U with vm := s.vm } : State) locs mc ms := by
    subst hA
    obtain ⟨e1, e2⟩ := hsame
    rw [State.setFrames_setFrames] at e1
    have h2 : (T.setVm s.vm).sameButNew ({ U with vm := s.vm } : State) [] (0 + 1) (0 + 6) := ⟨e1, e2⟩
    have h3 := X.same.trans h2
    rw [List.append_nil] at h3
    exact h3.mono hc hs
  refine ⟨U, ?_, .threw T.heap.size, hrun, hend, Or.inr ⟨T.heap.size, rfl, cls, ce, locs, hx U hWs.alike f1 (fun q hq => f2 q hq (fun z hz => nomatch hz)), hce, hOv, hcl, hWs, hall, hf⟩⟩
  refine st1 _ ?_
  show Steps p.tables e below (T1.setTop { method := m, pc := pc + 3, locals := ls, stack := .ref T.heap.size :: rest, locked := none }) _
  jvm_step X₁.here [X₁.here.top, hexec, d3', Value.category]
  exact X₁.ldcString hexec (own := own) (text := text) (index := is) (a := sa) hown' hstr'.1 hstr'.2
    (g := { method := m, pc := pc + 4, locals := ls, stack := .ref T.heap.size :: .ref T.heap.size :: rest, locked := none }) rfl d4' _ hsteps
end NXT
set_option maxRecDepth 20000 in
theorem tt_x1 : ∀ w ∈ (nx_at RX10 184 "java/util/NoSuchElementException" 13 nx_b "java/lang/RuntimeException").filter goodWord, w ∈ lw_tbl := by decide +kernel
theorem tt_g : ∀ w ∈ nx_at RX10 184 xN 13 nx_b "java/lang/RuntimeException", vx_ot w = true := by decide +kernel
theorem tt_g2 : ∀ w ∈ Cond.classLink RX10 180 xN :: Cond.initialized xN :: vx_atS RX10 149 xI xnames, vx_ot w = true := by decide +kernel
theorem tt_b : ∀ w ∈ (nx_at RX10 184 xN 13 nx_b "java/lang/RuntimeException").filter (fun w => !goodWord w), w ∈ [Cond.declares (Bundle.initS "java/lang/RuntimeException")] := by decide +kernel
