/-! what holds at the law's entry, out of the tables and the start -/
section GIV
theorem arr_known {s : State} {args : Array Value} {ty : FieldType} (h : (Cond.arrayClass ty).before args s = true) : ∃ cA : ClassId, ArrOfT s cA ty ∧ s.vm.findClass ("[" ++ ty.toString) = some cA := by
  obtain ⟨c, k, comp, h1, h2, h3⟩ := Cond.arrayClass_spec h
  exact ⟨c, fun n z => ⟨fun k h => (by cases h), k, h2, comp, h3⟩, h1⟩
abbrev ztm : List (String × Nat) := [("WeatherTeller$RulesReader", 9), ("WeatherTeller$RulesReader", 21), ("WeatherTeller$RulesReader", 26), ("WeatherTeller$RulesReader", 31), ("WeatherTeller$RulesReader", 36), ("WeatherTeller", 270), ("WeatherTeller", 275), ("WeatherTeller", 295), ("WeatherTeller", 147), ("WeatherTeller", 182)]
def tmz (i : Nat) : Term := .string (ztm.getD i ("", 0)).1 (ztm.getD i ("", 0)).2
abbrev FLz : List Cond := flatC (Jvm.Cond.and given_1 narrow_1)
theorem z_ex : ∀ i, i < 10 → Cond.exactly (tmz i) "java/lang/String" ∈ FLz := by decide +kernel
theorem z_co : ∀ i, i < 10 → Cond.eq (.field (tmz i) "java/lang/String" "coder" "B") (.int 0) ∈ FLz := by decide +kernel
theorem z_ar : ∀ i, i < 10 → Cond.arrayOf (.field (tmz i) "java/lang/String" "value" "[B") .byte ∈ FLz := by decide +kernel
theorem z_le : ∀ i, i < 10 → Cond.eq (.length (.field (tmz i) "java/lang/String" "value" "[B")) (.int (Int32.ofNat (zlen.getD i 0))) ∈ FLz := by decide +kernel
theorem z_el : ∀ i, i < 10 → ∀ j, j < zlen.getD i 0 → Cond.eq (.elem (.field (tmz i) "java/lang/String" "value" "[B") (.int (Int32.ofNat j))) (.int ((zbyt.getD i []).getD j 0)) ∈ FLz := by decide +kernel
theorem z_ne : ∀ i, i < 10 → ∀ j, j < 10 → i ≠ j → Cond.not (Cond.eq (tmz i) (tmz j)) ∈ FLz ∨ Cond.not (Cond.eq (tmz j) (tmz i)) ∈ FLz := by decide +kernel
theorem z_sr : ∀ q ∈ zrs, Cond.stringRef q.1 q.2.1 q.2.2.1 ∈ lw_tbl := by decide +kernel
theorem z_nw : ∀ q ∈ nwl, Cond.methodLinkNest q.1 q.2.1 q.2.2.1 q.2.2.2 ∈ lw_tbl := by decide +kernel
variable {p : Program} {e : Env} {s : State} {m : MethodId} {below : List Frame} {meth : Method} {c : Code} {b L : Nat} {xs : Nat → Int32}
theorem cl_known (hts : ∀ w ∈ wsL_law, w.before #[Value.ref b] s = true) (hti : ∀ (k : Nat) (q : vw_C), vwCl[k]? = some q → (Cond.instantiable q.1 q.2.2).before #[Value.ref b] s = true) : ∃ D : va_G, ∀ (k : Nat) (q : vw_C), vwCl[k]? = some q → u_Kn s q.1 q.2.1 q.2.2 (D.1 k) (D.2 k) := by
  have h0 : ∀ k : Nat, ∃ z : ClassId × (Nat → Nat), ∀ q : vw_C, vwCl[k]? = some q → u_Kn s q.1 q.2.1 q.2.2 z.1 z.2 := by
    intro k
    have one : ∀ q : vw_C, vwCl[k]? = some q → (∀ w ∈ u_ws q.1 q.2.1 q.2.2, w ∈ wsL_law) → ∃ z : ClassId × (Nat → Nat), ∀ q : vw_C, vwCl[k]? = some q → u_Kn s q.1 q.2.1 q.2.2 z.1 z.2 := by
      intro q hq hin
      obtain ⟨cC, iS, h⟩ := u_known (C := q.1) (T := q.2.1) (N := q.2.2) hts hin (hti k q hq)
      exact ⟨(cC, iS), fun q' hq' => by cases hq.symm.trans hq'; exact h⟩
    match k, one with
    | 0, one => exact one _ rfl inlX0
    | 1, one => exact one _ rfl inlX1
    | 2, one => exact one _ rfl inlX2
    | 3, one => exact one _ rfl inlX3
    | 4, one => exact one _ rfl inlX4
    | 5, one => exact one _ rfl inlX5
    | 6, one => exact one _ rfl inlX6
    | 7, one => exact one _ rfl inlX7
    | 8, one => exact one _ rfl inlX8
    | 9, one => exact one _ rfl inlX9
    | 10, one => exact one _ rfl inlX10
    | 11, one => exact one _ rfl inlX11
    | k + 12, one =>
      obtain ⟨cC, iS, h⟩ := u_known (C := RX0) (T := TX0) (N := 7) hts inlX0 (hti 0 _ rfl)
      exact ⟨(cC, iS), fun q hq => by simp [vwCl] at hq⟩
  obtain ⟨ad, had⟩ := Classical.axiomOfChoice h0
  exact ⟨(fun k => (ad k).1, fun k => (ad k).2), fun k q hq => had k q hq⟩
theorem whole_start (l : Launch) (hl0 : l.stackTraces = false) (hL : L ≤ 3584) (C0 : lw_At p s m meth c b L xs) : W p l e room_1 s m #[Value.ref b] below meth c s.heap [] 0 0 (lw_Z below #[Value.ref b] s) (entryFrame m ([Value.ref b] : List Value).toArray 7) := by
  obtain ⟨hx, hb, hr, hml, hown, hts, hX, hbl, hlocks, hgv⟩ := id C0
  have hq := flat_of_before _ hgv
  have htl : ∀ w ∈ wsL_law, w.before #[Value.ref b] s = true := fun w h => hts w (wl_law w h)
  have hA0 : ∀ a : Nat, a < s.heap.size → ¬ (fun q : Nat => s.heap.size ≤ q) a := fun a h => Nat.not_le.mpr h
  obtain ⟨D, hD⟩ := cl_known htl (fun k q hk => hts _ ((by decide +kernel : ∀ q ∈ vwCl.map (fun q => (q.1, q.2.2)), Cond.instantiable q.1 q.2 ∈ lw_tbl) (q.1, q.2.2) (List.mem_map.mpr ⟨q, List.mem_of_getElem? hk, rfl⟩)))
  obtain ⟨c0, a0, n0⟩ := arr_known (hts (.arrayClass .int) (by decide +kernel))
  obtain ⟨c1, a1, n1⟩ := arr_known (hts (.arrayClass .byte) (by decide +kernel))
  obtain ⟨c2, a2, n2⟩ := arr_known (hts (.arrayClass .long) (by decide +kernel))
  obtain ⟨c3, a3, n3⟩ := arr_known (hts (.arrayClass .boolean) (by decide +kernel))
  obtain ⟨cs, e0, e1, e2, e3⟩ : ∃ cs : Nat → ClassId, cs 0 = c0 ∧ cs 1 = c1 ∧ cs 2 = c2 ∧ cs 3 = c3 := ⟨fun k => if k = 0 then c0 else if k = 1 then c1 else if k = 2 then c2 else c3, rfl, rfl, rfl, rfl⟩
  have hK : gK D cs s := by
    refine ⟨⟨hD, fun k q h => ?_⟩, fun q h => va_Nw.of rfl (hts _ (z_nw q h))⟩
    match k, h with
    | 0, h => cases h; rw [e0]; exact ⟨a0, n0⟩
    | 1, h => cases h; rw [e1]; exact ⟨a1, n1⟩
    | 2, h => cases h; rw [e2]; exact ⟨a2, n2⟩
    | 3, h => cases h; rw [e3]; exact ⟨a3, n3⟩
    | k + 4, h => simp at h
  obtain ⟨adK, adV, hS, hE⟩ := vk_Sof (args := #[Value.ref b]) (s := s) (N := 10) (tm := tmz) (len := zlen) (byt := zbyt) (A := fun q : Nat => s.heap.size ≤ q) (by decide) (fun i hi => hq _ (z_ex i hi)) (fun i hi => hq _ (z_co i hi)) (fun i hi => hq _ (z_ar i hi)) (fun i hi => hq _ (z_le i hi)) (fun i hi j hj => hq _ (z_el i hi j hj)) (fun i j hi hj hij => (z_ne i hi j hj hij).elim (fun h => Or.inl (hq _ h)) (fun h => Or.inr (hq _ h))) hA0
  have hR : gR adK s := by
    intro q hqz
    refine vk_R.of (A := #[Value.ref b]) (hts _ (z_sr q hqz)) ?_
    have h4 : (Term.string "WeatherTeller$ClauseReader" 9).eval #[Value.ref b] s none [] s = some (.ref (adK 4)) := va_eqR (t := .string "WeatherTeller$RulesReader" 36) (hq _ (by decide +kernel)) (hE 4 (by omega))
    simp only [zrs, List.mem_cons, List.not_mem_nil, or_false] at hqz
    rcases hqz with rfl | rfl | rfl | rfl | rfl | rfl | rfl | rfl | rfl | rfl | rfl
    · exact hE 0 (by omega)
    · exact hE 1 (by omega)
    · exact hE 2 (by omega)
    · exact hE 3 (by omega)
    · exact hE 4 (by omega)
    · exact h4
    · exact hE 5 (by omega)
    · exact hE 6 (by omega)
    · exact hE 7 (by omega)
    · exact hE 8 (by omega)
    · exact hE 9 (by omega)
  have hZ : gZ adK adV (fun q : Nat => s.heap.size ≤ q) s s.heap := ⟨hS, va_Zof (hts _ (by decide +kernel)) (hts _ (by decide +kernel)) (va_eqt (hq (Cond.eq (.static "java/lang/String" "COMPACT_STRINGS" "Z") (.int 1)) (by decide +kernel))) hA0, va_Zqof (hts _ (by decide +kernel)) (hts _ (by decide +kernel)) (hq _ (by decide +kernel)) hA0⟩
  have hT : gT s := ⟨va_Nw.of rfl (hts _ (by decide +kernel)), va_Nw.of rfl (hts _ (by decide +kernel)), va_Nw.of rfl (hts _ (by decide +kernel)), va_Nw.of rfl (hts _ (by decide +kernel)), va_Nw.of rfl (hts _ (by decide +kernel))⟩
  have hU : gU (fun q : Nat => s.heap.size ≤ q) s s.heap := ⟨vx_Zqof (hts _ (by decide +kernel)) (hts _ (by decide +kernel)) (hq _ (by decide +kernel)) hA0, vx_Zqof (hts _ (by decide +kernel)) (hts _ (by decide +kernel)) (hq _ (by decide +kernel)) hA0⟩
  have hN : va_Nc xN xI s := va_Nc.of (hq _ (by decide +kernel))
  have hl := lv_entry ([.ref b]) (n := 7) (Nat.le_of_ble_eq_true rfl)
  rw [lg_entry_eq]
  generalize (lg_sl ([.ref b]) ++ List.replicate (7 - (lg_sl ([.ref b])).length) Slot.unset).toArray = ls at hl ⊢
  exact law_enter ⟨hl0, ⟨⟨hx, hb, hml, hown, htl⟩, hK⟩, hR, hZ, hT, hU, hN, hX, hbl, hL⟩ hr hlocks hl
end GIV
