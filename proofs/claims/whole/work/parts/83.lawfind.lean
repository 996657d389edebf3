/-! the law's call of finding -/
section LAW2
variable {p : Program} {l : Launch} {e : Env} {s : State} {m : MethodId} {below : List Frame} {meth : Method} {c : Code} {b L : Nat} {xs : Nat → Int32} {D : va_G} {cs : Nat → ClassId} {adK adV : Nat → Nat}
set_option maxRecDepth 20000 in
set_option maxHeartbeats 2000000 in
theorem lw_finding (E : LE p l s m c b L xs D cs adK adV) {j : Nat} (hj : 7 * j + 7 ≤ L) (hK : LK p l e s m below meth c b D cs 673 (7 * j) (j + 1)) : LK p l e s m below meth c b D cs 432 (7 * j) j := by
  intro C M a q1 q2 am o f H locs cells slots ls hR hM h1 h2 hl
  obtain ⟨hl0, hC, hR', hZ, hT, hU, hNc, hX, hbl, hL⟩ := E
  obtain ⟨hx, hb, hml, hown, hts⟩ := hC.1
  obtain ⟨P, R, B, hR⟩ := hR
  have hA : ∀ q : Nat, s.heap.size ≤ q → (fun q : Nat => s.heap.size ≤ q) q := fun _ h => h
  have hbA : ¬ (fun q : Nat => s.heap.size ≤ q) b := Nat.not_le.mpr hbl
  have ph0 := hR.phb
  obtain ⟨cd, r, bb, C', M', e1, e2, e3, e4, e5, hR2⟩ := R_finding (N := 6000) (k := (xs (nI (7 * j) + 1).toNatClampNeg)) (w := (xs (nI (7 * j) + 2).toNatClampNeg)) (Nat.le_refl _) hR
  have hph := mo_X10_finding e1
  have ph1 := hR2.phb
  refine lv_aload_n hx hb dL_law_432 rfl (lv_at hl 1 rfl) ?_
  refine lv_aload_n hx hb dL_law_433 rfl (lv_at hl 0 rfl) ?_
  refine lv_iload hx hb dL_law_434 (lv_at hl 4 rfl) ?_
  refine lv_iconst (v := 1) hx hb dL_law_436 (by decide) ?_
  refine lv_iadd hx hb dL_law_437 ?_
  refine va_sld hx hb hX hbl hbA hM.2.2 (sc_in (k := 1) hj (by omega) hL) dL_law_438 ?_
  refine lv_aload_n hx hb dL_law_439 rfl (lv_at hl 0 rfl) ?_
  refine lv_iload hx hb dL_law_440 (lv_at hl 4 rfl) ?_
  refine lv_iconst (v := 2) hx hb dL_law_442 (by decide) ?_
  refine lv_iadd hx hb dL_law_443 ?_
  refine va_sld hx hb hX hbl hbA hM.2.2 (sc_in (k := 2) hj (by omega) hL) dL_law_444 ?_
  refine lv_aload_n hx hb dL_law_445 rfl (lv_at hl 3 rfl) ?_
  refine fL_i hC hM.rot.swap hA hR' hZ hT hU hNc hl.1 [.ref (a 0), .int (xs (nI (7 * j) + 1).toNatClampNeg), .int (xs (nI (7 * j) + 2).toNatClampNeg), .ref o] rfl [] (c_L_finding l hl0 D cs adK adV a q1 q2 o f 6000 _ _ C cd r C' e1 e4) gL_law_L_finding ⟨by decide, by decide⟩ (Nat.le_of_ble_eq_true rfl) dL_law_446 rfl ⟨by show _ ≤ 601024; omega, by show _ ≤ 7293034; omega⟩ (fun q1 q2 H locs hM => ?_)
  have hM := hM.swap
  generalize hcc : cells + (ph C' - ph C + 1) = cells1
  generalize hss : slots + (2 * (ph C' - ph C) + 6) = slots1
  refine lv_istore (lv' := [(5, .int (nI cd)), (0, .ref b), (1, .ref (a 0)), (2, .ref (am 0)), (3, .ref o), (4, .int (nI (7 * j)))]) hx hb dL_law_449 hl (by decide) rfl (fun ls hl => ?_)
  refine lv_aload_n hx hb dL_law_451 rfl (lv_at hl 3 rfl) ?_
  refine lv_aload_n hx hb dL_law_452 rfl (lv_at hl 1 rfl) ?_
  refine lv_iload hx hb dL_law_453 (lv_at hl 5 rfl) ?_
  refine lv_iconst (v := 1) hx hb dL_law_455 (by decide) ?_
  refine lv_iadd hx hb dL_law_456 ?_
  refine va_sld hx hb hX hbl hbA hM.2.2 (sc_in (k := 1) hj (by omega) hL) dL_law_457 ?_
  refine lv_aload_n hx hb dL_law_458 rfl (lv_at hl 1 rfl) ?_
  refine lv_iload hx hb dL_law_459 (lv_at hl 5 rfl) ?_
  refine lv_iconst (v := 2) hx hb dL_law_461 (by decide) ?_
  refine lv_iadd hx hb dL_law_462 ?_
  refine va_sld hx hb hX hbl hbA hM.2.2 (sc_in (k := 2) hj (by omega) hL) dL_law_463 ?_
  refine fV_i hC hM hA hl.1 [.int (xs (nI (7 * j) + 1).toNatClampNeg), .int (xs (nI (7 * j) + 2).toNatClampNeg)] [] (c_X11_finding l D cs am 6000 _ _ M bb M' e2) gL_law_X11_finding rfl hdL_X11_finding ⟨by decide, by decide⟩ 0 11 clX11 rfl rfl (Nat.le_of_ble_eq_true rfl) dL_law_464 rfl ⟨by show cells1 + 0 ≤ 601024; omega, by show slots1 + 0 ≤ 7293034; omega⟩ (fun H locs hM => ?_)
  refine lv_istore (lv' := [(6, .int bb), (5, .int (nI cd)), (0, .ref b), (1, .ref (a 0)), (2, .ref (am 0)), (3, .ref o), (4, .int (nI (7 * j)))]) hx hb dL_law_467 hl (by decide) rfl (fun ls hl => ?_)
  refine lv_aload_n hx hb dL_law_469 rfl (lv_at hl 4 rfl) ?_
  refine fV_i hC hM hA hl.1 [] [] (c_X11_thrown l D cs am 6000 M' (nI cd) (by rw [← e3]; rfl)) gL_law_X11_thrown rfl hdL_X11_thrown ⟨by decide, by decide⟩ 0 11 clX11 rfl rfl (Nat.le_of_ble_eq_true rfl) dL_law_470 rfl ⟨by show cells1 + 0 + 0 ≤ 601024; omega, by show slots1 + 0 + 0 ≤ 7293034; omega⟩ (fun H locs hM => ?_)
  refine lv_iload hx hb dL_law_473 (lv_at hl 1 rfl) ?_
  refine lv_icmp_eq (tgt := 480) hx hb dL_law_475 (by decide) (fun _ => ?_) (fun h => absurd rfl h)
  have go : ∀ (H : Heap) (locs : List Loc), gw D (fun q => s.heap.size ≤ q) s.heap H locs (mcells cs am M' ++ ([woL cs o (fO cd f r)] ++ ccells cs a q1 q2 C')) → W p l e room_1 s m #[Value.ref b] below meth c H locs (cells1 + 0 + 0) (slots1 + 0 + 0) (lw_Z below #[Value.ref b] s) (F0 m 497 ls []) := by
    intro H locs hM
    refine lv_goto (tgt := 673) hx hb dL_law_497 (by decide) ?_
    exact hK C' M' a q1 q2 am o _ H locs _ _ ls ⟨P, R, B, hR2⟩ hM.rot.rot (by show cells1 + 0 + 0 ≤ _; omega) (by show slots1 + 0 + 0 ≤ _; omega) (lv_sub hl [2, 3, 4, 5, 6] rfl)
  refine lv_iload hx hb dL_law_480 (lv_at hl 1 rfl) ?_
  refine lv_if_ne (tgt := 497) hx hb dL_law_482 (by decide) (fun _ => go _ _ hM) (fun h0 => ?_)
  have hc0 : cd = 0 := by
    have : (nI cd = 0) = (cd = 0) := q_eq (b := 0) (by omega) (by omega)
    exact this ▸ h0
  subst hc0
  have hbr : bb = r := e5 rfl
  subst hbr
  refine lv_aload_n hx hb dL_law_485 rfl (lv_at hl 5 rfl) ?_
  refine lv_iconst (v := 0) hx hb dL_law_486 (by decide) ?_
  refine g_lald hC hM.rot 0 rfl (i := 0) (vp_in_nI (n := 0) (by decide) (by decide)) dL_law_487 ?_
  refine lv_iload hx hb dL_law_488 (lv_at hl 0 rfl) ?_
  refine lv_i2l hx hb dL_law_490 rfl ?_
  refine W.lcmp hx hb dL_law_491 ?_
  refine lv_if_eq (tgt := 497) hx hb dL_law_492 (by decide) (fun _ => go _ _ hM) (fun h => absurd ?_ h)
  show lg_cmp bb.toInt64 bb.toInt64 = 0
  unfold lg_cmp
  simp
end LAW2
