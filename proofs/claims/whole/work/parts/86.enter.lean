/-! the law's beginning: the two objects and the row are made -/
section ENT
variable {p : Program} {l : Launch} {e : Env} {s : State} {m : MethodId} {below : List Frame} {meth : Method} {c : Code} {b L : Nat} {xs : Nat → Int32} {D : va_G} {cs : Nat → ClassId} {adK adV : Nat → Nat}
set_option maxRecDepth 100000 in
set_option maxHeartbeats 4000000 in
theorem law_enter (E : LE p l s m c b L xs D cs adK adV) (hr : meth.sig.returnType = ret) (hlocks : meth.locks = false) {ls : Array Slot} (hl : lv_has ls 7 [(0, .ref b)]) : W p l e room_1 s m #[Value.ref b] below meth c s.heap [] 0 0 (lw_Z below #[Value.ref b] s) (F0 m 0 ls []) := by
  have E0 := E
  obtain ⟨hl0, hC, hR', hZ, hT, hU, hNc, hX, hbl, hL⟩ := E
  obtain ⟨hx, hb, hml, hown, hts⟩ := hC.1
  obtain ⟨M0, hi, hRel⟩ := R_init (N := 6000) (Nat.le_refl _)
  have hA : ∀ q : Nat, s.heap.size ≤ q → (fun q : Nat => s.heap.size ≤ q) q := fun _ h => h
  have hE : gw D (fun q : Nat => s.heap.size ≤ q) s.heap s.heap [] [] := ⟨fun k q h => by simp at h, ⟨fun i j p q h => by simp at h, fun k q h => by simp at h⟩, va_S.rf⟩
  refine g_new hC hE hA inlX10 tyX10 tyX10_ok (mw_i (i := 0) rfl) (mw_i (i := 1) rfl) (mw_i (i := 2) rfl) clX10 [.null, .null, .null, .null, .null, .null, .null, .null, .null, .null, .null, .null, .int 0] (fun j hj => by rcases (show j = 0 ∨ j = 1 ∨ j = 2 ∨ j = 3 ∨ j = 4 ∨ j = 5 ∨ j = 6 ∨ j = 7 ∨ j = 8 ∨ j = 9 ∨ j = 10 ∨ j = 11 ∨ j = 12 by omega) with rfl | rfl | rfl | rfl | rfl | rfl | rfl | rfl | rfl | rfl | rfl | rfl | rfl <;> rfl) (Nat.le_of_ble_eq_true rfl) (Nat.le_of_ble_eq_true rfl) dL_law_0 (fun q0 H hM0 => ?_)
  refine lv_dup hx hb dL_law_3 rfl ?_
  refine gI_v hC (w := []) hM0 hA hR' hZ hl.1 [] [.ref q0] (c_X10_init l D cs adK adV q0) gL_law_X10_init (mw_i (i := 2) rfl) (mw_i (i := 7) rfl) (mw_i (i := 8) rfl) rfl rfl hdc_X10_init ⟨by decide, by decide⟩ (Nat.le_of_ble_eq_true rfl) dL_law_4 rfl ⟨by decide, by decide⟩ (fun u H locs hMu => ?_)
  have hM : gw D (fun q : Nat => s.heap.size ≤ q) s.heap H locs (ccells cs (fun r => if r = 0 then q0 else u (r - 1)) (u 24) (u 26) cS0) := hMu
  generalize ha : (fun r => if r = 0 then q0 else u (r - 1)) = a at hM
  have ha0 : q0 = a 0 := by rw [← ha]; rfl
  subst ha0
  refine lv_astore_n (lv' := [(1, .ref (a 0)), (0, .ref b)]) hx hb dL_law_7 rfl hl (by decide) rfl (fun ls hl => ?_)
  refine g_new hC hM hA inlX11 tyX11 tyX11_ok (mw_i (i := 3) rfl) (mw_i (i := 4) rfl) (mw_i (i := 5) rfl) clX11 [.null, .int 0, .int 0, .int 0, .int 0, .null, .null, .null, .int 0, .null, .null, .null, .null, .null, .null, .null, .int 0, .int 0, .null, .null, .null, .null, .int 0, .int 0, .int 0, .int 0, .int 0, .int 0, .int 0, .int 0, .int 0, .int 0, .int 0, .null, .null, .null, .null, .int 0, .int 0, .int 0, .null, .null, .null, .null, .null, .null, .null, .int 0, .int 0, .int 0] ?_ (by decide) (by decide) dL_law_8 (fun q2 H hM1 => ?_)
  · exact (by decide +kernel : ∀ j, j < 50 → defaultValue (tyX11 j) = vp_V [.null, .int 0, .int 0, .int 0, .int 0, .null, .null, .null, .int 0, .null, .null, .null, .null, .null, .null, .null, .int 0, .int 0, .null, .null, .null, .null, .int 0, .int 0, .int 0, .int 0, .int 0, .int 0, .int 0, .int 0, .int 0, .int 0, .int 0, .null, .null, .null, .null, .int 0, .int 0, .int 0, .null, .null, .null, .null, .null, .null, .null, .int 0, .int 0, .int 0] j)
  refine lv_dup hx hb dL_law_11 rfl ?_
  refine gI_v hC (w := ccells cs a (u 24) (u 26) cS0) hM1 hA hR' hZ hl.1 [] [.ref q2] (c_X11_init l D cs adK adV q2 6000 M0 hi) gL_law_X11_init (mw_i (i := 5) rfl) (mw_i (i := 201) rfl) (mw_i (i := 202) rfl) rfl rfl hdc_X11_init ⟨by decide, by decide⟩ (Nat.le_of_ble_eq_true rfl) dL_law_12 rfl ⟨by decide, by decide⟩ (fun v H locs hM2 => ?_)
  generalize hm : (fun r => if r = 0 then q2 else v r) = am at hM2
  have hm0 : q2 = am 0 := by rw [← hm]; rfl
  subst hm0
  refine lv_astore_n (lv' := [(2, .ref (am 0)), (1, .ref (a 0)), (0, .ref b)]) hx hb dL_law_15 rfl hl (by decide) rfl (fun ls hl => ?_)
  refine lv_iconst (v := 1) hx hb dL_law_16 (by decide) ?_
  refine g_newl hC hM2 hA (mw_i (i := 6) rfl) 1 (by decide) rfl (by decide) (by decide) (by decide) dL_law_17 (fun o H hM3 => ?_)
  refine lv_astore_n (lv' := [(3, .ref o), (2, .ref (am 0)), (1, .ref (a 0)), (0, .ref b)]) hx hb dL_law_19 rfl hl (by decide) rfl (fun ls hl => ?_)
  refine lv_iconst (v := 0) hx hb dL_law_20 (by decide) ?_
  refine lv_istore (lv' := [(4, .int 0), (3, .ref o), (2, .ref (am 0)), (1, .ref (a 0)), (0, .ref b)]) hx hb dL_law_21 hl (by decide) rfl (fun ls hl => ?_)
  exact law_loop E0 hr hlocks (L + 1) 0 (by omega) (by omega) cS0 M0 a (u 24) (u 26) am o (fun _ => 0) H locs _ _ ls ⟨0, 0, 0, hRel⟩ hM3.asr (by decide) (by decide) (lv_sub hl [4, 3, 2, 1, 0] rfl)
end ENT
