/-! the law's finding: the class' finding, its throws caught -/
theorem hdL_X10_feed : yX10_feed.cls = RX10 ∧ yX10_feed.cls ≠ "java/lang/invoke/MethodHandle" ∧ yX10_feed.cls ≠ "java/lang/invoke/VarHandle" ∧ (parseMethodDescriptor yX10_feed.desc).map (fun d => d.parameters.length) = some 5 := by decide +kernel
theorem hdL_X10_rules : yX10_rules.cls = RX10 ∧ yX10_rules.cls ≠ "java/lang/invoke/MethodHandle" ∧ yX10_rules.cls ≠ "java/lang/invoke/VarHandle" ∧ (parseMethodDescriptor yX10_rules.desc).map (fun d => d.parameters.length) = some 1 := by decide +kernel
theorem hdL_X10_fault : yX10_fault.cls = RX10 ∧ yX10_fault.cls ≠ "java/lang/invoke/MethodHandle" ∧ yX10_fault.cls ≠ "java/lang/invoke/VarHandle" ∧ (parseMethodDescriptor yX10_fault.desc).map (fun d => d.parameters.length) = some 1 := by decide +kernel
theorem hdL_X10_put : yX10_put.cls = RX10 ∧ yX10_put.cls ≠ "java/lang/invoke/MethodHandle" ∧ yX10_put.cls ≠ "java/lang/invoke/VarHandle" ∧ (parseMethodDescriptor yX10_put.desc).map (fun d => d.parameters.length) = some 6 := by decide +kernel
theorem hdL_X10_miss : yX10_miss.cls = RX10 ∧ yX10_miss.cls ≠ "java/lang/invoke/MethodHandle" ∧ yX10_miss.cls ≠ "java/lang/invoke/VarHandle" ∧ (parseMethodDescriptor yX10_miss.desc).map (fun d => d.parameters.length) = some 4 := by decide +kernel
theorem hdL_X10_number : yX10_number.cls = RX10 ∧ yX10_number.cls ≠ "java/lang/invoke/MethodHandle" ∧ yX10_number.cls ≠ "java/lang/invoke/VarHandle" ∧ (parseMethodDescriptor yX10_number.desc).map (fun d => d.parameters.length) = some 3 := by decide +kernel
theorem hdL_X10_tell : yX10_tell.cls = RX10 ∧ yX10_tell.cls ≠ "java/lang/invoke/MethodHandle" ∧ yX10_tell.cls ≠ "java/lang/invoke/VarHandle" ∧ (parseMethodDescriptor yX10_tell.desc).map (fun d => d.parameters.length) = some 1 := by decide +kernel
theorem hdL_X10_sign : yX10_sign.cls = RX10 ∧ yX10_sign.cls ≠ "java/lang/invoke/MethodHandle" ∧ yX10_sign.cls ≠ "java/lang/invoke/VarHandle" ∧ (parseMethodDescriptor yX10_sign.desc).map (fun d => d.parameters.length) = some 1 := by decide +kernel
theorem hdL_X10_told : yX10_told.cls = RX10 ∧ yX10_told.cls ≠ "java/lang/invoke/MethodHandle" ∧ yX10_told.cls ≠ "java/lang/invoke/VarHandle" ∧ (parseMethodDescriptor yX10_told.desc).map (fun d => d.parameters.length) = some 1 := by decide +kernel
theorem hdL_X10_held : yX10_held.cls = RX10 ∧ yX10_held.cls ≠ "java/lang/invoke/MethodHandle" ∧ yX10_held.cls ≠ "java/lang/invoke/VarHandle" ∧ (parseMethodDescriptor yX10_held.desc).map (fun d => d.parameters.length) = some 1 := by decide +kernel
theorem hdL_X10_changed : yX10_changed.cls = RX10 ∧ yX10_changed.cls ≠ "java/lang/invoke/MethodHandle" ∧ yX10_changed.cls ≠ "java/lang/invoke/VarHandle" ∧ (parseMethodDescriptor yX10_changed.desc).map (fun d => d.parameters.length) = some 2 := by decide +kernel
theorem hdL_X10_count : yX10_count.cls = RX10 ∧ yX10_count.cls ≠ "java/lang/invoke/MethodHandle" ∧ yX10_count.cls ≠ "java/lang/invoke/VarHandle" ∧ (parseMethodDescriptor yX10_count.desc).map (fun d => d.parameters.length) = some 1 := by decide +kernel
theorem hdL_X10_next : yX10_next.cls = RX10 ∧ yX10_next.cls ≠ "java/lang/invoke/MethodHandle" ∧ yX10_next.cls ≠ "java/lang/invoke/VarHandle" ∧ (parseMethodDescriptor yX10_next.desc).map (fun d => d.parameters.length) = some 0 := by decide +kernel
theorem hdL_X10_finding : yX10_finding.cls = RX10 ∧ yX10_finding.cls ≠ "java/lang/invoke/MethodHandle" ∧ yX10_finding.cls ≠ "java/lang/invoke/VarHandle" ∧ (parseMethodDescriptor yX10_finding.desc).map (fun d => d.parameters.length) = some 2 := by decide +kernel
theorem hdL_X11_feed : yX11_feed.cls = RX11 ∧ yX11_feed.cls ≠ "java/lang/invoke/MethodHandle" ∧ yX11_feed.cls ≠ "java/lang/invoke/VarHandle" ∧ (parseMethodDescriptor yX11_feed.desc).map (fun d => d.parameters.length) = some 5 := by decide +kernel
theorem hdL_X11_rules : yX11_rules.cls = RX11 ∧ yX11_rules.cls ≠ "java/lang/invoke/MethodHandle" ∧ yX11_rules.cls ≠ "java/lang/invoke/VarHandle" ∧ (parseMethodDescriptor yX11_rules.desc).map (fun d => d.parameters.length) = some 1 := by decide +kernel
theorem hdL_X11_fault : yX11_fault.cls = RX11 ∧ yX11_fault.cls ≠ "java/lang/invoke/MethodHandle" ∧ yX11_fault.cls ≠ "java/lang/invoke/VarHandle" ∧ (parseMethodDescriptor yX11_fault.desc).map (fun d => d.parameters.length) = some 1 := by decide +kernel
theorem hdL_X11_put : yX11_put.cls = RX11 ∧ yX11_put.cls ≠ "java/lang/invoke/MethodHandle" ∧ yX11_put.cls ≠ "java/lang/invoke/VarHandle" ∧ (parseMethodDescriptor yX11_put.desc).map (fun d => d.parameters.length) = some 6 := by decide +kernel
theorem hdL_X11_miss : yX11_miss.cls = RX11 ∧ yX11_miss.cls ≠ "java/lang/invoke/MethodHandle" ∧ yX11_miss.cls ≠ "java/lang/invoke/VarHandle" ∧ (parseMethodDescriptor yX11_miss.desc).map (fun d => d.parameters.length) = some 4 := by decide +kernel
theorem hdL_X11_number : yX11_number.cls = RX11 ∧ yX11_number.cls ≠ "java/lang/invoke/MethodHandle" ∧ yX11_number.cls ≠ "java/lang/invoke/VarHandle" ∧ (parseMethodDescriptor yX11_number.desc).map (fun d => d.parameters.length) = some 3 := by decide +kernel
theorem hdL_X11_tell : yX11_tell.cls = RX11 ∧ yX11_tell.cls ≠ "java/lang/invoke/MethodHandle" ∧ yX11_tell.cls ≠ "java/lang/invoke/VarHandle" ∧ (parseMethodDescriptor yX11_tell.desc).map (fun d => d.parameters.length) = some 1 := by decide +kernel
theorem hdL_X11_sign : yX11_sign.cls = RX11 ∧ yX11_sign.cls ≠ "java/lang/invoke/MethodHandle" ∧ yX11_sign.cls ≠ "java/lang/invoke/VarHandle" ∧ (parseMethodDescriptor yX11_sign.desc).map (fun d => d.parameters.length) = some 1 := by decide +kernel
theorem hdL_X11_told : yX11_told.cls = RX11 ∧ yX11_told.cls ≠ "java/lang/invoke/MethodHandle" ∧ yX11_told.cls ≠ "java/lang/invoke/VarHandle" ∧ (parseMethodDescriptor yX11_told.desc).map (fun d => d.parameters.length) = some 1 := by decide +kernel
theorem hdL_X11_held : yX11_held.cls = RX11 ∧ yX11_held.cls ≠ "java/lang/invoke/MethodHandle" ∧ yX11_held.cls ≠ "java/lang/invoke/VarHandle" ∧ (parseMethodDescriptor yX11_held.desc).map (fun d => d.parameters.length) = some 1 := by decide +kernel
theorem hdL_X11_changed : yX11_changed.cls = RX11 ∧ yX11_changed.cls ≠ "java/lang/invoke/MethodHandle" ∧ yX11_changed.cls ≠ "java/lang/invoke/VarHandle" ∧ (parseMethodDescriptor yX11_changed.desc).map (fun d => d.parameters.length) = some 2 := by decide +kernel
theorem hdL_X11_count : yX11_count.cls = RX11 ∧ yX11_count.cls ≠ "java/lang/invoke/MethodHandle" ∧ yX11_count.cls ≠ "java/lang/invoke/VarHandle" ∧ (parseMethodDescriptor yX11_count.desc).map (fun d => d.parameters.length) = some 1 := by decide +kernel
theorem hdL_X11_next : yX11_next.cls = RX11 ∧ yX11_next.cls ≠ "java/lang/invoke/MethodHandle" ∧ yX11_next.cls ≠ "java/lang/invoke/VarHandle" ∧ (parseMethodDescriptor yX11_next.desc).map (fun d => d.parameters.length) = some 0 := by decide +kernel
theorem hdL_X11_finding : yX11_finding.cls = RX11 ∧ yX11_finding.cls ≠ "java/lang/invoke/MethodHandle" ∧ yX11_finding.cls ≠ "java/lang/invoke/VarHandle" ∧ (parseMethodDescriptor yX11_finding.desc).map (fun d => d.parameters.length) = some 2 := by decide +kernel
theorem hdL_X11_thrown : yX11_thrown.cls = RX11 ∧ yX11_thrown.cls ≠ "java/lang/invoke/MethodHandle" ∧ yX11_thrown.cls ≠ "java/lang/invoke/VarHandle" ∧ (parseMethodDescriptor yX11_thrown.desc).map (fun d => d.parameters.length) = some 0 := by decide +kernel
abbrev woL (cs : Nat → ClassId) (o : Nat) (f : Nat → Int64) : Nat × va_E := (o, .inl (cs 2, 1, .inr (.inl f)))
abbrev hhL : List (Nat × Nat × Nat × Nat) := [(0, 10, 13, 13), (0, 10, 17, 15)]
def gPl (D : va_G) (cs : Nat → ClassId) (adK adV : Nat → Nat) (sz : Nat) (w : va_W) (U : State) : Prop := gPf D cs adK adV sz w U ∧ va_Nc xN xI U
def fO (cd : Nat) (f : Nat → Int64) (r : Int32) : Nat → Int64 := if cd = 0 then vp_updL f 0 r.toInt64 else f
def gL (l : Launch) (D : va_G) (cs : Nat → ClassId) (adK adV : Nat → Nat) (As : List Value) (o : Nat) (f : Nat → Int64) (a : Nat → Nat) (q1 q2 : Nat) (S : St) (cd : Nat) (r : Int32) (Sz : St) : Prop :=
  ∀ sz : Nat, Met l yL_finding wsL_finding (rmF 9 198 S Sz) (va_Pc As (gPl D cs adK adV sz ([woL cs o f] ++ ccells cs a q1 q2 S))) (va_Qi (fun r' (_ : Nat × Nat) => r' = nI cd) (fun u => gB D (va_A ([woL cs o f] ++ ccells cs a q1 q2 S) sz) ([woL cs o (fO cd f r)] ++ ccells cs a u.1 u.2 Sz)) (va_A ([woL cs o f] ++ ccells cs a q1 q2 S) sz)) (ph Sz - ph S + 1) (2 * (ph Sz - ph S) + 6) (va_A ([woL cs o f] ++ ccells cs a q1 q2 S) sz)
theorem c_L_finding (l : Launch) (hl0 : l.stackTraces = false) (D : va_G) (cs : Nat → ClassId) (adK adV : Nat → Nat) (a : Nat → Nat) (q1 q2 o : Nat) (f : Nat → Int64) (N : Nat) (p0 p1 : Int32) (S : St) (cd : Nat) (rz : Int32) (Sz : St) (hf : f_X10_finding N p0 p1 S = some ((cd, rz), Sz)) (hcd : cd ≤ 2) : gL l D cs adK adV [.ref (a 0), .int p0, .int p1, .ref o] o f a q1 q2 S cd rz Sz := by
  intro sz
  refine va_MetW (cc := cL_finding) (maxL := 5) (ret := some .int) (hh := hhL) (by decide) rfl ?_
  intro p e s m args below meth c s₁ B hml hv
  obtain ⟨rfl, ⟨⟨⟨hsz, hP, hK, hD0⟩, hR, hZ⟩, hT, hU⟩, hN⟩ := hv
  subst hsz
  have htab : c.exceptionTable.toList = tableOf hhL := vx_table (x := yL_finding) B (atoms_spec B.pre _ List.mem_cons_self)
  have hl := lv_entry ([.ref (a 0), .int p0, .int p1, .ref o]) (n := 5) (Nat.le_of_ble_eq_true rfl)
  rw [lg_entry_eq]
  generalize (lg_sl ([.ref (a 0), .int p0, .int p1, .ref o]) ++ List.replicate (5 - (lg_sl ([.ref (a 0), .int p0, .int p1, .ref o])).length) Slot.unset).toArray = ls at hl ⊢
  generalize hA0 : va_A ([woL cs o f] ++ ccells cs a q1 q2 S) s.heap.size = A
  have hA : ∀ q, s.heap.size ≤ q → A q := by rw [← hA0]; exact fun q h => Or.inr h
  have hM : gw D A s.heap s.heap [] ([woL cs o f] ++ ccells cs a q1 q2 S) := by rw [← hA0]; exact ⟨hP, hD0.self, va_S.rf⟩
  rw [hA0] at hZ hU
  have hM := hM.swap
  have hC : gC p s m #[.ref (a 0), .int p0, .int p1, .ref o] c cL_finding 5 wsL_finding RL D cs := ⟨⟨B.exec, B.bytes, hml, findClass_of_methodNamed B.named, atoms_spec B.pre⟩, hK⟩
  obtain ⟨hx, hb, -, hown, hts⟩ := hC.1
  have hl : lv_has ls 5 [(0, .ref (a 0)), (1, .int p0), (2, .int p1), (3, .ref o)] := hl
  have fin : ∀ (q1 q2 : Nat) (H : Heap) (locs : List Loc) (cells slots pc : Nat) (ls : Array Slot) (f' : Nat → Int64) (v : Int32), decode cL_finding pc = .ok (.ireturn, 1) → gw D A s.heap H locs (ccells cs a q1 q2 Sz ++ [woL cs o f']) → f' = fO cd f rz → v = nI cd → cells ≤ ph Sz - ph S + 1 → slots ≤ 2 * (ph Sz - ph S) + 6 → W p l e (rmF 9 198 S Sz) s m #[.ref (a 0), .int p0, .int p1, .ref o] below meth c H locs cells slots (MQ below (va_Qi (fun r' (_ : Nat × Nat) => r' = nI cd) (fun u => gB D A ([woL cs o (fO cd f rz)] ++ ccells cs a u.1 u.2 Sz)) A) #[.ref (a 0), .int p0, .int p1, .ref o] s (ph Sz - ph S + 1) (2 * (ph Sz - ph S) + 6) A) (F0 m pc ls [.int v]) := by
    intro q1 q2 H locs cells slots pc ls f' v hd hM e1 e2 h1 h2
    subst e1
    have hM := hM.swap
    refine W.widen h1 h2 ?_
    exact W.iret B.exec B.bytes B.returns (fun t ht hW => ⟨⟨v, (q1, q2), rfl, e2, by rw [ht]; exact hM.1, hM.2.1⟩, hM.2.2.F ht⟩) hM.2.2.2.2 hd (hlocks := B.notSynchronized)
  refine lv_aload_n hx hb dL_finding_0 rfl (lv_at hl 3 rfl) ?_
  refine lv_iconst (v := 0) hx hb dL_finding_1 (by decide) ?_
  refine lv_aload_n hx hb dL_finding_2 rfl (lv_at hl 0 rfl) ?_
  refine lv_iload_n hx hb dL_finding_3 rfl (lv_at hl 1 rfl) ?_
  refine lv_iload_n hx hb dL_finding_4 rfl (lv_at hl 2 rfl) ?_
  refine fF_i hC hM hA hR hZ hT hU hl.1 [.int p0, .int p1] [.int 0, .ref o] (c_X10_finding l hl0 D cs adK adV a q1 q2 N p0 p1 S cd rz Sz hf) gL_finding_X10_finding rfl hdL_X10_finding ⟨Nat.le_refl _, Nat.le_refl _⟩ 0 10 clX10 rfl rfl (Nat.le_of_ble_eq_true rfl) dL_finding_5 rfl ⟨Nat.le_of_eq (Nat.zero_add _), Nat.le_of_eq (Nat.zero_add _)⟩ ?_ ?_
  · intro E ce q9 q1 q2 H locs hE hc0 hM h5 h6 h7
    have h12 : cd = 1 ∨ cd = 2 := by omega
    rcases h12 with h | h
    · have hE : E = xI := by rw [hE, h]; rfl
      subst hE
      refine vx_catch (name := xI) hown [] ⟨0, 10, 13, 13⟩ [⟨0, 10, 17, 15⟩] htab (fun z hz => nomatch hz) (by decide) (by decide) (hts _ (by decide +kernel)) (hT.1.use rfl) h5 h6 h7 ?_
      refine lv_astore (lv' := [(4, .ref q9), (0, .ref (a 0)), (1, .int p0), (2, .int p1), (3, .ref o)]) hx hb dL_finding_13 hl (by decide) rfl (fun ls hl => ?_)
      refine lv_iconst (v := 1) hx hb dL_finding_15 (by decide) ?_
      exact fin _ _ _ _ _ _ _ _ f _ dL_finding_16 hM (by unfold fO; rw [if_neg hc0]) (by rw [h]; rfl) (by omega) (by omega)
    · have hE : E = xN := by rw [hE, h]; rfl
      subst hE
      refine vx_catch (name := xN) hown [⟨0, 10, 13, 13⟩] ⟨0, 10, 17, 15⟩ [] htab ?_ (by decide) (by decide) (hts _ (by decide +kernel)) (hT.2.1.use rfl) h5 h6 h7 ?_
      · intro z hz
        have hz : z = ⟨0, 10, 13, 13⟩ := by simpa using hz
        subst hz
        exact Or.inr ⟨by decide, xI, hts _ (by decide +kernel), hN⟩
      refine lv_astore (lv' := [(4, .ref q9), (0, .ref (a 0)), (1, .int p0), (2, .int p1), (3, .ref o)]) hx hb dL_finding_17 hl (by decide) rfl (fun ls hl => ?_)
      refine lv_iconst (v := 2) hx hb dL_finding_19 (by decide) ?_
      exact fin _ _ _ _ _ _ _ _ f _ dL_finding_20 hM (by unfold fO; rw [if_neg hc0]) (by rw [h]; rfl) (by omega) (by omega)
  · intro hc0 q1 q2 H locs hM
    refine lv_i2l hx hb dL_finding_8 rfl ?_
    refine g_last (w' := [woL cs o (vp_updL f 0 rz.toInt64)] ++ ccells cs a q1 q2 Sz) hC hM.swap 0 rfl (i := 0) (vp_in_nI (n := 0) (by decide) (by decide)) rfl dL_finding_9 (fun H locs hM => ?_)
    refine lv_goto (tgt := 21) hx hb dL_finding_10 (by decide) ?_
    refine lv_iconst (v := 0) hx hb dL_finding_21 (by decide) ?_
    exact fin _ _ _ _ _ _ _ _ _ _ dL_finding_22 hM.swap (by unfold fO; rw [if_pos hc0]) (by rw [hc0]; rfl) (by omega) (by omega)
theorem gPl.blind {D : va_G} {cs : Nat → ClassId} {adK adV : Nat → Nat} {As : List Value} {sz : Nat} {w : va_W} : FrameBlind (va_Pc As (gPl D cs adK adV sz w)) := fun b U g mk q => by
  obtain ⟨q0, qf, qn⟩ := q
  have z := gPf.blind (As := As) b U g mk ⟨q0, qf⟩
  exact ⟨z.1, z.2, va_Nc.moved (u := U) (U := U.calling g mk b) (Vm.Alike.refl U.vm) qn⟩
section FL
variable {p : Program} {l : Launch} {e : Env} {R : Room} {s : State} {m : MethodId} {args : Array Value} {below : List Frame} {meth : Method} {c : Code} {H : Heap} {locs : List Loc} {cells slots : Nat} {Q : State → Prop}
variable {cc : ByteArray} {pc nL : Nat} {ls : Array Slot} {D : va_G} {cs : Nat → ClassId} {A : Nat → Prop} {wb : va_W} {Ts : List Cond} {adK adV : Nat → Nat}
variable {index o : Nat} {f : Nat → Int64} {st0 : List Value} {a : Nat → Nat} {q1 q2 : Nat} {S1 S2 : St}
/-- the law's finding, over the world's first part -/
theorem fL_i {r : Int32} {cd : Nat} (hC : gC p s m args c cc nL Ts RL D cs) (hM : gw D A s.heap H locs (([woL cs o f] ++ ccells cs a q1 q2 S1) ++ wb)) (hA : ∀ q, s.heap.size ≤ q → A q) (hR' : gR adK s) (hZ : gZ adK adV A s s.heap) (hT : gT s) (hU : gU A s s.heap) (hNc : va_Nc xN xI s) (hl : ls.size = nL)
    (As : List Value) (hn : As.length = 4) (rest : List Value) (hMet : gL l D cs adK adV As o f a q1 q2 S1 cd r S2) (hG : GoodIn Ts (va_wsS RL index yL_finding wsL_finding)) (hR : 9 + 1 ≤ R.frames ∧ 8 + (5 + 11) + 198 ≤ R.locals) (hst : (rest.map fun v => v.category).sum ≤ 8) (hdg : decode cc pc = .ok (.invokestatic index, 3)) (hst0 : st0 = As.reverse ++ rest) (hf : cells + (ph S2 - ph S1 + 1) ≤ R.cells ∧ slots + (2 * (ph S2 - ph S1) + 6) ≤ R.slots)
    (kk : ∀ (q1 q2 : Nat) (H1 : Heap) (locs1 : List Loc), gw D A s.heap H1 locs1 (([woL cs o (fO cd f r)] ++ ccells cs a q1 q2 S2) ++ wb) → W p l e R s m args below meth c H1 locs1 (cells + (ph S2 - ph S1 + 1)) (slots + (2 * (ph S2 - ph S1) + 6)) Q (F0 m (pc + 3) ls (.int (nI cd) :: rest))) : W p l e R s m args below meth c H locs cells slots Q (F0 m pc ls st0) := by
  subst hst0
  have hM1 := hM.left
  refine va_calli (vx_runSW (hh := hhL) hC.1 (hMet H.size) (vx_cwSW 4 hC.1.2.2.2.2 hG rfl rfl rfl (by decide +kernel) hR) ⟨gPl.blind, fun U hU2 hW => ?_⟩ rfl hn hl rfl (lv_room hst) hdg hf) hM.2.2 (fun q _ h => hM1.free hA q h) (hM1.free hA) ?_
  · have z := gPz.pre hC.2 hM1 hA hR' hZ As U hU2 hW
    exact ⟨z.1, ⟨z.2, hT.warm hW, gU.pre hM1 hA hU hU2 hW⟩, va_Nc.moved hW.alike hNc⟩
  · intro r' u t H1 locs1 ht hvm hw1 hB hz1 hk1 hS
    obtain rfl : r' = nI cd := hw1
    exact kk u.1 u.2 H1 locs1 (hM.jn hA ht hB hk1 hS)
end FL
