/-! the law's loop -/
section LAW3
variable {p : Program} {l : Launch} {e : Env} {s : State} {m : MethodId} {below : List Frame} {meth : Method} {c : Code} {b L : Nat} {xs : Nat → Int32} {D : va_G} {cs : Nat → ClassId} {adK adV : Nat → Nat}
theorem lw_step (E : LE p l s m c b L xs D cs adK adV) {j : Nat} (hK : LK p l e s m below meth c b D cs 23 (7 * (j + 1)) (j + 1)) : LK p l e s m below meth c b D cs 673 (7 * j) (j + 1) := by
  intro C M a q1 q2 am o f H locs cells slots ls hR hM h1 h2 hl
  obtain ⟨hl0, hC, hR', hZ, hT, hU, hNc, hX, hbl, hL⟩ := E
  obtain ⟨hx, hb, hml, hown, hts⟩ := hC.1
  refine lv_iinc (v := nI (7 * (j + 1))) (lv' := [(4, .int (nI (7 * (j + 1)))), (0, .ref b), (1, .ref (a 0)), (2, .ref (am 0)), (3, .ref o)]) hx hb dL_law_673 hl (k := 4) rfl (q_add (7 * j) 7) (by decide) rfl (fun ls hl => ?_)
  refine lv_goto (tgt := 23) hx hb dL_law_676 (by decide) ?_
  exact hK C M a q1 q2 am o f H locs cells slots ls hR hM h1 h2 (lv_sub hl [1, 2, 3, 4, 0] rfl)
theorem lw_head (E : LE p l s m c b L xs D cs adK adV) (hr : meth.sig.returnType = ret) (hlocks : meth.locks = false) {j : Nat} (hj : j ≤ 1000) (hS : 7 * j + 7 ≤ L → LK p l e s m below meth c b D cs 33 (7 * j) j) : LK p l e s m below meth c b D cs 23 (7 * j) j := by
  intro C M a q1 q2 am o f H locs cells slots ls hR hM h1 h2 hl
  have ph0 : ph C ≤ 80000 := by obtain ⟨P, R, B, z⟩ := hR; exact z.phb
  obtain ⟨hl0, hC, hR', hZ, hT, hU, hNc, hX, hbl, hL⟩ := E
  obtain ⟨hx, hb, hml, hown, hts⟩ := hC.1
  have hbA : ¬ (fun q : Nat => s.heap.size ≤ q) b := Nat.not_le.mpr hbl
  refine lv_iload hx hb dL_law_23 (lv_at hl 4 rfl) ?_
  refine lv_aload_n hx hb dL_law_25 rfl (lv_at hl 0 rfl) ?_
  refine va_slen hx hb hX hbl hbA hM.2.2 dL_law_26 ?_
  refine lv_bipush (v := 7) hx hb dL_law_27 (by decide) ?_
  refine lv_isub hx hb dL_law_29 ?_
  refine lv_icmp_gt (tgt := 679) hx hb dL_law_30 (by decide) (fun _ => ?_) (fun h => ?_)
  · refine lv_iconst (v := 1) hx hb dL_law_679 (by decide) ?_
    refine va_forget (fun q hq => hM.2.2.2.2 q hq) ?_
    refine W.widen (k := 601024) (n := 7293034) (by omega) (by omega) ?_
    exact lw_ret hx hb hr hlocks dL_law_680
  · refine hS ?_ C M a q1 q2 am o f H locs cells slots ls hR hM h1 h2 hl
    rw [Int32.lt_iff_toInt_lt, nI_toInt (by omega)] at h
    have l7 : (7 : Int32).toInt = 7 := by decide
    have e1 : (Int32.ofNat L - 7).toInt = (L : Int) - 7 := by
      rw [Int32.toInt_sub, show (Int32.ofNat L).toInt = (L : Int) from nI_toInt (by omega), l7, Int.bmod_eq_of_le (by omega) (by omega)]
    rw [e1] at h
    omega
theorem and15 (x : Int32) : ∃ k, k < 16 ∧ x &&& 15 = nI k := by
  refine ⟨x.toBitVec.toNat &&& 15, ?_, ?_⟩
  · have := Nat.and_le_right (n := x.toBitVec.toNat) (m := 15); omega
  · apply Int32.toBitVec_inj.1
    show x.toBitVec &&& BitVec.ofNat 32 15 = BitVec.ofNat 32 (x.toBitVec.toNat &&& 15)
    apply BitVec.eq_of_toNat_eq
    rw [BitVec.toNat_and, BitVec.toNat_ofNat, BitVec.toNat_ofNat]
    have := Nat.and_le_right (n := x.toBitVec.toNat) (m := 15)
    rw [Nat.mod_eq_of_lt (show 15 < 2 ^ 32 by decide), Nat.mod_eq_of_lt (show x.toBitVec.toNat &&& 15 < 2 ^ 32 by omega)]
set_option maxRecDepth 20000 in
set_option maxHeartbeats 2000000 in
theorem lw_switch (E : LE p l s m c b L xs D cs adK adV) {j : Nat} (hj : 7 * j + 7 ≤ L) (hK : LK p l e s m below meth c b D cs 673 (7 * j) (j + 1)) : LK p l e s m below meth c b D cs 33 (7 * j) j := by
  intro C M a q1 q2 am o f H locs cells slots ls hR hM h1 h2 hl
  have E0 := E
  obtain ⟨hl0, hC, hR', hZ, hT, hU, hNc, hX, hbl, hL⟩ := E
  obtain ⟨hx, hb, hml, hown, hts⟩ := hC.1
  have hbA : ¬ (fun q : Nat => s.heap.size ≤ q) b := Nat.not_le.mpr hbl
  refine lv_aload_n hx hb dL_law_33 rfl (lv_at hl 0 rfl) ?_
  refine lv_iload hx hb dL_law_34 (lv_at hl 4 rfl) ?_
  refine va_sld hx hb hX hbl hbA hM.2.2 (vp_in_nI (by omega) (by omega)) dL_law_36 ?_
  refine lv_bipush (v := 15) hx hb dL_law_37 (by decide) ?_
  refine lv_iand hx hb dL_law_39 ?_
  obtain ⟨k, hk, ek⟩ := and15 (xs (nI (7 * j)).toNatClampNeg)
  rw [ek]
  have hk16 : k = 0 ∨ k = 1 ∨ k = 2 ∨ k = 3 ∨ k = 4 ∨ k = 5 ∨ k = 6 ∨ k = 7 ∨ k = 8 ∨ k = 9 ∨ k = 10 ∨ k = 11 ∨ k = 12 ∨ k = 13 ∨ k = 14 ∨ k = 15 := by omega
  rcases hk16 with rfl | rfl | rfl | rfl | rfl | rfl | rfl | rfl | rfl | rfl | rfl | rfl | rfl | rfl | rfl | rfl
  · refine lv_tableIn (tgt := 112) hx hb dL_law_40 (by decide) (by decide) rfl (by decide) ?_
    exact lw_feed E0 hj hK C M a q1 q2 am o f H locs cells slots ls hR hM h1 h2 hl
  · refine lv_tableIn (tgt := 185) hx hb dL_law_40 (by decide) (by decide) rfl (by decide) ?_
    exact lw_rules E0 hj hK C M a q1 q2 am o f H locs cells slots ls hR hM h1 h2 hl
  · refine lv_tableIn (tgt := 210) hx hb dL_law_40 (by decide) (by decide) rfl (by decide) ?_
    exact lw_fault E0 hj hK C M a q1 q2 am o f H locs cells slots ls hR hM h1 h2 hl
  · refine lv_tableIn (tgt := 235) hx hb dL_law_40 (by decide) (by decide) rfl (by decide) ?_
    exact lw_put E0 hj hK C M a q1 q2 am o f H locs cells slots ls hR hM h1 h2 hl
  · refine lv_tableIn (tgt := 322) hx hb dL_law_40 (by decide) (by decide) rfl (by decide) ?_
    exact lw_miss E0 hj hK C M a q1 q2 am o f H locs cells slots ls hR hM h1 h2 hl
  · refine lv_tableIn (tgt := 383) hx hb dL_law_40 (by decide) (by decide) rfl (by decide) ?_
    exact lw_number E0 hj hK C M a q1 q2 am o f H locs cells slots ls hR hM h1 h2 hl
  · refine lv_tableIn (tgt := 432) hx hb dL_law_40 (by decide) (by decide) rfl (by decide) ?_
    exact lw_finding E0 hj hK C M a q1 q2 am o f H locs cells slots ls hR hM h1 h2 hl
  · refine lv_tableIn (tgt := 500) hx hb dL_law_40 (by decide) (by decide) rfl (by decide) ?_
    exact lw_tell E0 hj hK C M a q1 q2 am o f H locs cells slots ls hR hM h1 h2 hl
  · refine lv_tableIn (tgt := 525) hx hb dL_law_40 (by decide) (by decide) rfl (by decide) ?_
    exact lw_sign E0 hj hK C M a q1 q2 am o f H locs cells slots ls hR hM h1 h2 hl
  · refine lv_tableIn (tgt := 550) hx hb dL_law_40 (by decide) (by decide) rfl (by decide) ?_
    exact lw_told E0 hj hK C M a q1 q2 am o f H locs cells slots ls hR hM h1 h2 hl
  · refine lv_tableIn (tgt := 575) hx hb dL_law_40 (by decide) (by decide) rfl (by decide) ?_
    exact lw_held E0 hj hK C M a q1 q2 am o f H locs cells slots ls hR hM h1 h2 hl
  · refine lv_tableIn (tgt := 600) hx hb dL_law_40 (by decide) (by decide) rfl (by decide) ?_
    exact lw_next E0 hj hK C M a q1 q2 am o f H locs cells slots ls hR hM h1 h2 hl
  · refine lv_tableIn (tgt := 611) hx hb dL_law_40 (by decide) (by decide) rfl (by decide) ?_
    exact lw_changed E0 hj hK C M a q1 q2 am o f H locs cells slots ls hR hM h1 h2 hl
  · refine lv_tableIn (tgt := 648) hx hb dL_law_40 (by decide) (by decide) rfl (by decide) ?_
    exact lw_count E0 hj hK C M a q1 q2 am o f H locs cells slots ls hR hM h1 h2 hl
  · refine lv_tableOut (tgt := 673) hx hb dL_law_40 (Or.inr (by decide)) (by decide) ?_
    exact hK C M a q1 q2 am o f H locs cells slots ls hR hM (by omega) (by omega) hl
  · refine lv_tableOut (tgt := 673) hx hb dL_law_40 (Or.inr (by decide)) (by decide) ?_
    exact hK C M a q1 q2 am o f H locs cells slots ls hR hM (by omega) (by omega) hl
theorem law_loop (E : LE p l s m c b L xs D cs adK adV) (hr : meth.sig.returnType = ret) (hlocks : meth.locks = false) : ∀ n j, j ≤ 600 → L + 1 ≤ 7 * j + n → LK p l e s m below meth c b D cs 23 (7 * j) j := by
  have hL : L ≤ 3584 := E.2.2.2.2.2.2.2.2.2
  intro n
  induction n with
  | zero =>
    intro j h1 h2
    exact lw_head E hr hlocks (by omega) (fun h => by omega)
  | succ n ih =>
    intro j h1 h2
    exact lw_head E hr hlocks (by omega) (fun h => lw_switch E h (lw_step E (ih (j + 1) (by omega) (by omega))))
end LAW3
