/-! pure part: rules, the call -/
section RULb
variable {N P R B : Nat} {C M : St}
/-- the members as they were read -/
theorem Zr.mem (h : Zr P R B C M) : memOK P R (fun i => (M.1 4 (fromK P i)).toNatClampNeg) ∧ ∀ i, i < P + R → M.1 4 (fromK P i) = nI ((M.1 4 (fromK P i)).toNatClampNeg) := by
  obtain ⟨⟨r1, r2, r3, r4, r5, r6, r7⟩, -⟩ := h
  have hp6 := pw6 r3
  have hm : ∀ i, i < P + R → ∃ m, m < 2 ^ P ∧ M.1 4 (fromK P i) = nI m ∧ (i < P → m = 2 ^ i) := by
    intro i hi
    unfold fromK
    by_cases e : i < P
    · rw [if_pos e]
      exact ⟨2 ^ i, Nat.pow_lt_pow_right (by decide) e, (r5 i e).2, fun _ => rfl⟩
    · rw [if_neg e]
      obtain ⟨m, m1, m2, m3, m4⟩ := (r6 (i - P) (by omega)).2
      exact ⟨m, m2, m4, fun w => absurd w e⟩
  refine ⟨⟨r3, r4, fun i hi => ?_, fun i hi => ?_⟩, fun i hi => ?_⟩
  · obtain ⟨m, m1, m2, m3⟩ := hm i (by omega)
    show (M.1 4 (fromK P i)).toNatClampNeg = _
    rw [m2, q_tn (by omega)]
    exact m3 hi
  · obtain ⟨m, m1, m2, m3⟩ := hm i hi
    show (M.1 4 (fromK P i)).toNatClampNeg < _
    rw [m2, q_tn (by omega)]
    exact m1
  · obtain ⟨m, m1, m2, m3⟩ := hm i hi
    rw [m2, q_tn (by omega)]
theorem swS_lo (S : St) {r k : Nat} (h : r < 28 ∨ 47 < r) : (swS S).1 r k = S.1 r k := by
  show (if 28 ≤ r ∧ r < 38 then S.1 (r + 10) else if 38 ≤ r ∧ r < 48 then S.1 (r - 10) else S.1 r) k = _
  rw [if_neg (by omega), if_neg (by omega)]
theorem swS_lo2 (S : St) {r k : Nat} (h : r < 28 ∨ 47 < r) : (swS S).2 r k = S.2 r k := by
  show (if 28 ≤ r ∧ r < 38 then S.2 (r + 10) else if 38 ≤ r ∧ r < 48 then S.2 (r - 10) else S.2 r) k = _
  rw [if_neg (by omega), if_neg (by omega)]
theorem swS_up (S : St) {r k : Nat} (h : r < 10) : (swS S).1 (28 + r) k = S.1 (38 + r) k := by
  show (if 28 ≤ 28 + r ∧ 28 + r < 38 then S.1 (28 + r + 10) else if 38 ≤ 28 + r ∧ 28 + r < 48 then S.1 (28 + r - 10) else S.1 (28 + r)) k = _
  rw [if_pos (by omega), show 28 + r + 10 = 38 + r by omega]
theorem swS_up2 (S : St) {r k : Nat} (h : r < 10) : (swS S).2 (28 + r) k = S.2 (38 + r) k := by
  show (if 28 ≤ 28 + r ∧ 28 + r < 38 then S.2 (28 + r + 10) else if 38 ≤ 28 + r ∧ 28 + r < 48 then S.2 (28 + r - 10) else S.2 (28 + r)) k = _
  rw [if_pos (by omega), show 28 + r + 10 = 38 + r by omega]
/-- what stays besides the rules, up to the reading's end -/
def Kp (C C1 M M1 : St) : Prop := (∀ r k, ¬ FCf r k → ¬ (r = 1 ∧ k = 1) → ¬ (r = 3 ∧ (k = 5 ∨ k = 6)) → C1.1 r k = C.1 r k) ∧ (∀ r k, (r < 38 ∨ 47 < r) → C1.2 r k = C.2 r k) ∧ fr (fun r k => FMf r k ∨ (r = 0 ∧ (k = 1 ∨ k = 16 ∨ k = 17))) M M1 ∧ rT C1 M1
theorem R_good {P' R' B' : Nat} {C1 M1 : St} (hN : 6000 ≤ N) (h : RelP P R B C M) (hk : Kp C C1 M M1) (hz : Zr P' R' B' C1 M1) (hf : rFl C1 M1) :
    ∃ r C' M', (nm (swS C1) fun S6 => bd (f_X3_join N S6) fun S7 => bd (f_X7_clear N 48 S7) fun S8 => bd (f_X7_clear N 50 S8) fun S9 => bd (f_X9_clear N S9) fun S10 => nm (puI S10 0 12 0) fun S11 => some ((S11.1 28 11), S11)) = some (r, C') ∧ j_X11_rules_80 N M1 = some (r, M') ∧ RelP P' R' B' C' M' ∧ ph C ≤ ph C' := by
  obtain ⟨k1, k2, k3, k4⟩ := hk
  have hzm := hz.mem
  generalize hmem : (fun i => (M1.1 4 (fromK P' i)).toNatClampNeg) = mem at hzm
  have hz9 : ∀ i, i < B' → M1.1 9 (24 + i) = 0 ∨ M1.1 9 (24 + i) = 1 := by
    intro i hi
    obtain ⟨-, -, -, -, -, -, -, -, -, -, w11, w12⟩ := hz.2.1.2.2.1 i hi
    rw [w12]; exact w11
  have hmm : ∀ i, i < P' + R' → M1.1 4 (fromK P' i) = nI (mem i) := fun i hi => by rw [← hmem]; exact hzm.2 i hi
  obtain ⟨⟨r, M'⟩, m1, hZ⟩ := rules80 hN hz.2.2.1 hz.2.2.2.1 hz.2.2.2.2 hzm.1 hmm hz.2.1.2.1 hz9
  have hP6 := hz.1.2.2.1
  have hR5 := hz.1.2.2.2.1
  have hp6 := pw6 hP6
  rw [q_nm]
  have s9 : (swS C1).1 28 9 = nI P' := (swS_up C1 (r := 0) (by omega)).trans hz.1.1
  have s10 : (swS C1).1 28 10 = nI R' := (swS_up C1 (r := 0) (by omega)).trans hz.1.2.1
  have s11 : (swS C1).1 28 11 = nI B' := (swS_up C1 (r := 0) (by omega)).trans hz.2.1.1
  have s60 : (swS C1).1 6 0 = 0 := by rw [swS_lo C1 (by omega), k1 _ _ (by unfold FCf; omega) (by omega) (by omega)]; exact h.2.2.2.2.1.2.1
  have s31 : ∀ i, i < R' → ∃ m, 0 < m ∧ m < 64 ∧ (swS C1).1 31 i = nI m ∧ M1.1 4 (18 + i) = nI m := by
    intro i hi
    obtain ⟨m, x1, x2, x3, x4⟩ := (hz.1.2.2.2.2.2.1 i hi).2
    exact ⟨m, x1, by omega, (swS_up C1 (r := 3) (by omega)).trans x3, x4⟩
  obtain ⟨⟨r', C'⟩, c1, t1, t2, t3, t4, t5, t6, t7, t8, t9, t10⟩ := ctail (C := swS C1) hN s9 s10 hP6 hR5 s60 (fun i hi => by obtain ⟨m, x1, x2, x3, -⟩ := s31 i hi; exact ⟨m, x1, x2, x3⟩)
  have hr : r' = r := by
    have e1 : r' = nI B' := t1.trans s11
    have e2 : r = nI B' := hZ.1
    rw [e1, e2]
  subst hr
  have hRR : RR P' R' B' C' M' := by
    refine RR_new hz hZ (fun k j hk => ?_) (fun k j hk => ?_)
    · have := t2.2 (28 + k) j (by unfold PR; omega)
      exact this.trans (swS_up C1 hk)
    · have : C'.2 = (swS C1).2 := t2.1
      rw [this]
      exact swS_up2 C1 hk
  have cl : ∀ r k, (r < 28 ∨ 47 < r) → ¬ PR r k → ¬ FCf r k → ¬ (r = 1 ∧ k = 1) → ¬ (r = 3 ∧ (k = 5 ∨ k = 6)) → C'.1 r k = C.1 r k := by
    intro r k a1 a2 a3 a4 a5
    have := t2.2 r k a2
    exact this.trans ((swS_lo C1 a1).trans (k1 r k a3 a4 a5))
  have cl1 : ∀ r k, (r < 28 ∨ 47 < r) → ¬ PR r k → C'.1 r k = C1.1 r k := fun r k a1 a2 => (t2.2 r k a2).trans (swS_lo C1 a1)
  have cl2 : ∀ r k, r < 28 → C'.2 r k = C.2 r k := by
    intro r k a1
    have : C'.2 = (swS C1).2 := t2.1
    rw [this, swS_lo2 C1 (by omega), k2 r k (by omega)]
  have hfz : fr PZ M1 M' := hZ.2.1
  obtain ⟨-, -, z3, z4, z8, z37, z38, z39, zn, zb, zg, zt⟩ := hZ
  have hmM : ∀ i, i < P' + R' → memM M' i = mem i := by
    intro i hi
    have e1 : M'.1 4 i = M1.1 4 (fromK P' i) := (zn i hi).2.1
    unfold memM
    rw [e1, ← hmem]
  have hmC : ∀ i, i < P' + R' → memM M' i = memC 28 P' (swS C1) i := by
    intro i hi
    rw [hmM i hi]
    unfold memC
    by_cases e : i < P'
    · rw [if_pos e]
      exact hzm.1.2.2.1 i e
    · rw [if_neg e]
      obtain ⟨m, x1, x2, x3, x4⟩ := s31 (i - P') (by omega)
      rw [x3, ← hmem]
      show (M1.1 4 (fromK P' i)).toNatClampNeg = _
      unfold fromK
      rw [if_neg e, x4]
  have hJ : ∀ s, s < 2 ^ (P' + R') → C'.1 6 s = nI (Jn (memM M') (P' + R') s) := by
    intro s hs
    have e1 : C'.1 6 s = nI (orJ (memC 28 P' (swS C1)) s (P' + R')) := t4 s hs
    rw [e1, Jn_cg (fun i hi => hmC i hi)]
    rfl
  refine ⟨r', C', M', c1, m1, ⟨?_, ?_, ?_, hRR, ⟨⟨t3, hJ, fun s a1 a2 => Or.inl (t5 s (by omega))⟩, ?_, fun s a1 a2 => ?_⟩, ⟨fun k hk => ?_, fun k hk => ?_, fun q p x a1 a2 a3 a4 => ?_⟩, ⟨Or.inl t10, fun t ht => ?_⟩, ⟨⟨[], by decide, t7, z38, fun k hk => absurd hk (by simp), AL.nil, by simp, ?_, fun _ => rfl⟩, ?_, ?_⟩⟩, ph_k (cl _ _ (by omega) (by unfold PR; omega) (by unfold FCf; omega) (by omega) (by omega)) (cl _ _ (by omega) (by unfold PR; omega) (by unfold FCf; omega) (by omega) (by omega))⟩
  · exact k4.go (cl1 _ _ (by omega) (by unfold PR; omega)) (fun k => cl1 _ _ (by omega) (by unfold PR; omega)) (hfz.2 _ _ (by unfold PZ; omega)) (fun k => hfz.2 _ _ (by unfold PZ; omega))
  · exact h.2.1.go (fun k => cl2 _ _ (by omega)) (cl2 _ _ (by omega)) (fun k => by rw [hfz.2 _ _ (by unfold PZ; omega), k3.2 _ _ (by unfold FMf; omega)])
  · unfold rFl
    rw [cl1 3 5 (by omega) (by unfold PR; omega), cl1 3 6 (by omega) (by unfold PR; omega), hfz.2 _ _ (by unfold PZ; omega), hfz.2 _ _ (by unfold PZ; omega)]
    exact hf
  · rw [hJ 0 (Nat.two_pow_pos _)]
    unfold Jn
    rw [orJ_0]
    rfl
  · rw [Gn_cg hmM, Go_cg hmM]
    exact zg s a1 a2
  · obtain ⟨y1, y2⟩ := t6 k hk
    have e1 : M'.1 14 k = -100 := zt k (by omega)
    have e2 : M'.1 14 (432 + k) = -100 := zt _ (by omega)
    rw [e1, e2]
    exact ⟨y1, y2⟩
  · have e1 : M'.1 14 k = -100 := zt k (by omega)
    rw [e1]
    unfold tOK
    decide
  · exact ⟨zt _ (by omega), zt _ (by omega)⟩
  · rw [cl _ _ (by omega) (by unfold PR; omega) (by unfold FCf; omega) (by omega) (by omega)]
    exact h.2.2.2.2.2.2.1.2 t ht
  · obtain ⟨⟨xs, -, -, -, -, -, -, ⟨cap, a1, a2, a3, -, -, a6, -⟩, -⟩, -⟩ := h.2.2.2.2.2.2.2
    show SG 24 [] C'
    have e25 : ∀ k, C'.1 25 k = C.1 25 k := fun k => cl _ _ (by omega) (by unfold PR; omega) (by unfold FCf; omega) (by omega) (by omega)
    refine ⟨cap, (cl _ _ (by omega) (by unfold PR; omega) (by unfold FCf; omega) (by omega) (by omega)).trans a1, a2, a3, by simp, t9, fun j hj => ?_, fun i x hx => by simp at hx⟩
    rw [e25]
    exact a6 j hj
  · have e1 : C'.1 22 3 = 0 := t8
    have e2 : M'.1 0 39 = 0 := z39
    rw [e1, e2]
  · obtain ⟨l, h26⟩ := h.2.2.2.2.2.2.2.2.2
    exact ⟨l, h26.go (cl _ _ (by omega) (by unfold PR; omega) (by unfold FCf; omega) (by omega) (by omega)) (cl _ _ (by omega) (by unfold PR; omega) (by unfold FCf; omega) (by omega) (by omega)) (funext fun k => cl _ _ (by omega) (by unfold PR; omega) (by unfold FCf; omega) (by omega) (by omega))⟩
theorem R_rules {x : Int32} (hN : 6000 ≤ N) (h : RelP P R B C M) : ∃ r C' M', f_X10_rules N x C = some (r, C') ∧ f_X11_rules N x M = some (r, M') ∧ Rel C' M' ∧ ph C ≤ ph C' := by
  obtain ⟨L, l1, l2, l3⟩ := h.1.1
  have hby := h.1.2
  have h2 := h.m2 0
  have g1 : (puI M 0 2 0).1 0 1 = nI L := by rw [q_gK _ _ _ _ _ _ (by omega)]; exact l3
  unfold f_X10_rules f_X11_rules
  rw [q_nm]
  by_cases e0 : x < 0
  · rw [open_n l2 (Or.inl e0), q_bd2, if_pos e0, if_pos rfl]
    exact ⟨_, C, _, rfl, rfl, ⟨P, R, B, h2⟩, Nat.le_refl _⟩
  · rw [if_neg e0, g1]
    by_cases e1 : x ≤ nI L
    · obtain ⟨n, hn, rfl⟩ := q_of e0
      rw [q_le (by omega) (by omega)] at e1
      rw [open_y l2 l1 e1, q_bd2, if_neg (show ¬ (1 : Int32) = 0 by decide), if_pos (show nI n ≤ nI L by rw [q_le (by omega) (by omega)]; exact e1)]
      unfold f_X5_read f_X4_clear
      simp only [q_nm, q_bd]
      have ht := opS_tp (C := C) (n := n) (by omega)
      have hf := opS_fr (C := C) (x := nI n)
      have hC11 : (opS C (nI n)).1 1 1 = nI 0 := by unfold opS; rw [q_gS]; rfl
      generalize opS C (nI n) = C0 at ht hf hC11
      generalize hC1 : puI (puI (puI (puI (puI C0 3 5 0) 3 6 (-1)) 38 9 0) 38 10 0) 38 11 0 = C1
      have f1 : fr (fun r k => (r = 3 ∧ (k = 5 ∨ k = 6)) ∨ (r = 38 ∧ 9 ≤ k ∧ k ≤ 11)) C0 C1 := by
        rw [← hC1]
        exact ((((fr.rf.pu (by omega)).pu (by omega)).pu (by omega)).pu (by omega)).pu (by omega)
      have c35 : C1.1 3 5 = 0 := by rw [← hC1, q_gR _ _ _ _ _ _ (by omega), q_gR _ _ _ _ _ _ (by omega), q_gR _ _ _ _ _ _ (by omega), q_gK _ _ _ _ _ _ (by omega), q_gS]
      have c36 : C1.1 3 6 = -1 := by rw [← hC1, q_gR _ _ _ _ _ _ (by omega), q_gR _ _ _ _ _ _ (by omega), q_gR _ _ _ _ _ _ (by omega), q_gS]
      have c9 : C1.1 38 9 = 0 := by rw [← hC1, q_gK _ _ _ _ _ _ (by omega), q_gK _ _ _ _ _ _ (by omega), q_gS]
      have c10 : C1.1 38 10 = 0 := by rw [← hC1, q_gK _ _ _ _ _ _ (by omega), q_gS]
      have c11 : C1.1 38 11 = 0 := by rw [← hC1, q_gS]
      have ht1 : tp C1 0 n := ⟨(f1.2 _ _ (by omega)).trans ht.1, (f1.2 _ _ (by omega)).trans ht.2.1, by omega, ht.2.2.2⟩
      have hcb : cb C1 = cb C := by
        funext k
        show (C1.1 2 k &&& 255).toNatClampNeg = (C.1 2 k &&& 255).toNatClampNeg
        rw [f1.2 2 k (by omega), hf.2 2 k (by omega)]
      generalize hM1 : puI (puI (puI (puI (puI (puI (puI (puI (puI M 0 2 0) 0 22 (nI n)) 0 1 0) 0 16 0) 0 17 (-1)) 0 29 0) 0 30 0) 0 31 0) 0 23 0 = M1
      have fM : fr (fun r k => r = 0 ∧ (k = 1 ∨ k = 2 ∨ k = 16 ∨ k = 17 ∨ 22 ≤ k ∧ k ≤ 31)) M M1 := by
        rw [← hM1]
        exact ((((((((fr.rf.pu (by omega)).pu (by omega)).pu (by omega)).pu (by omega)).pu (by omega)).pu (by omega)).pu (by omega)).pu (by omega)).pu (by omega)
      have m23 : M1.1 0 23 = nI 0 := by rw [← hM1, q_gS]; rfl
      have m31 : M1.1 0 31 = nI 0 := by rw [← hM1, q_gK _ _ _ _ _ _ (by omega), q_gS]; rfl
      have m30 : M1.1 0 30 = nI 0 := by rw [← hM1, q_gK _ _ _ _ _ _ (by omega), q_gK _ _ _ _ _ _ (by omega), q_gS]; rfl
      have m29 : M1.1 0 29 = nI 0 := by rw [← hM1, q_gK _ _ _ _ _ _ (by omega), q_gK _ _ _ _ _ _ (by omega), q_gK _ _ _ _ _ _ (by omega), q_gS]; rfl
      have m17 : M1.1 0 17 = -1 := by rw [← hM1, q_gK _ _ _ _ _ _ (by omega), q_gK _ _ _ _ _ _ (by omega), q_gK _ _ _ _ _ _ (by omega), q_gK _ _ _ _ _ _ (by omega), q_gS]
      have m16 : M1.1 0 16 = 0 := by rw [← hM1, q_gK _ _ _ _ _ _ (by omega), q_gK _ _ _ _ _ _ (by omega), q_gK _ _ _ _ _ _ (by omega), q_gK _ _ _ _ _ _ (by omega), q_gK _ _ _ _ _ _ (by omega), q_gS]
      have m1 : M1.1 0 1 = nI 0 := by rw [← hM1, q_gK _ _ _ _ _ _ (by omega), q_gK _ _ _ _ _ _ (by omega), q_gK _ _ _ _ _ _ (by omega), q_gK _ _ _ _ _ _ (by omega), q_gK _ _ _ _ _ _ (by omega), q_gK _ _ _ _ _ _ (by omega), q_gS]; rfl
      have m22 : M1.1 0 22 = nI n := by rw [← hM1, q_gK _ _ _ _ _ _ (by omega), q_gK _ _ _ _ _ _ (by omega), q_gK _ _ _ _ _ _ (by omega), q_gK _ _ _ _ _ _ (by omega), q_gK _ _ _ _ _ _ (by omega), q_gK _ _ _ _ _ _ (by omega), q_gK _ _ _ _ _ _ (by omega), q_gS]
      have hB : mB (cb C) n M1 := ⟨fun k hk => ⟨(fM.2 _ _ (by omega)).trans (hby k hk), (cb_e C k).2⟩, m22, by omega, fun k hk => (fM.2 _ _ (by omega)).trans (h.2.1.2.2 k hk)⟩
      obtain ⟨M2, b1, b2, b3⟩ := mtake hN hB (p := 0) (by omega) m23
      have b2' : TkS (cb C) n (sk (cb C) n 0) M2 := b2
      have hsl := sk_le (b := cb C) (n := n) (p := 0) (by omega)
      rw [skip10 hN ht1, q_bd, b1, q_bd, hcb]
      simp only [q_jp]
      have fc := cat_fr C1 (sk (cb C) n 0)
      have hZc : Zc (cb C) n (sk (cb C) n 0) (cat C1 (sk (cb C) n 0)) := by
        refine ⟨ht1.cat hsl, (frcb fc).trans hcb, ?_, (fc.2 _ _ (by unfold PF; omega)).trans c35⟩
        unfold KW
        rw [fc.1, f1.1, hf.1]
        exact h.2.1.1
      have hZr : Zr 0 0 0 (cat C1 (sk (cb C) n 0)) M2 := by
        refine ⟨⟨(fc.2 _ _ (by unfold PF; omega)).trans c9, (fc.2 _ _ (by unfold PF; omega)).trans c10, by omega, by omega, fun i hi => by omega, fun i hi => by omega, fun i j hi => by omega⟩, ⟨(fc.2 _ _ (by unfold PF; omega)).trans c11, by omega, fun i hi => by omega, fun i j hi hj => by omega⟩, (b3.2 _ _ (by unfold PT; omega)).trans m29, (b3.2 _ _ (by unfold PT; omega)).trans m30, (b3.2 _ _ (by unfold PT; omega)).trans m31⟩
      obtain ⟨C', M', z1, z2, z3, z4⟩ := read_loop hN (fun k _ => (cb_e C k).2) (j_X11_rules_80 N) 2000 (sk (cb C) n 0) 0 N N 0 0 0 _ _ (by omega) (by omega) (by omega) (by omega) (sk_idem (by omega)) hZc (hB.pt b3) b2' hZr
      have e0' : (0 : Int32) = nI 0 := rfl
      rw [show lp (fun _ _ => none) (b_X5_read_22 N) N 0 (cat C1 (sk (cb C) n 0)) = some C' from z1, q_bd]
      have hk1 : ∀ r k, ¬ PKw r k → ¬ (r = 1 ∧ 1 ≤ k ∧ k ≤ 3) → C'.1 r k = C.1 r k := by
        intro r k a1 a2
        unfold PKw PK at a1
        rw [z2.1 r k (by unfold PKw PK; omega), fc.2 _ _ (by unfold PF; omega), f1.2 _ _ (by omega), hf.2 _ _ (by omega)]
      have hKp : Kp C C' M M' := by
        refine ⟨fun r k a1 a2 a3 => hk1 r k (by unfold FCf at a1; unfold PKw PK; omega) (by unfold FCf at a1; omega), fun r k a => by rw [z2.2 r a, fc.1, f1.1, hf.1], ?_, ⟨0, by omega, ?_, ?_⟩, fun k hk => ?_⟩
        · exact (fM.mo (fun r k w => by unfold FMf; omega)).tr ((b3.mo (fun r k w => by unfold PT at w; unfold FMf; omega)).tr (z3.mo (fun r k w => by unfold PYw PY at w; unfold FMf; omega)))
        · rw [z2.1 _ _ (by unfold PKw PK; omega), fc.2 _ _ (by unfold PF; omega), f1.2 _ _ (by omega)]
          exact hC11
        · rw [z3.2 _ _ (by unfold PYw PY; omega), b3.2 _ _ (by unfold PT; omega)]
          exact m1
        · rw [z3.2 _ _ (by unfold PYw PY; omega), b3.2 _ _ (by unfold PT; omega), fM.2 _ _ (by omega), hby k hk]
          show nI (cb C k) = nI ((C'.1 2 k &&& 255).toNatClampNeg)
          rw [hk1 _ _ (by unfold PKw PK; omega) (by omega)]
          rfl
      rcases z4 with ⟨w1, w2, w3, ⟨P', R', B', w4⟩, w5⟩ | ⟨w1, w2, w3, w4⟩
      · rw [if_pos w1, w5]
        have hfl : rFl C' M' := by
          unfold rFl
          rw [w1, w2, fc.2 _ _ (by unfold PF; omega), c36, w3.2 _ _ (by unfold PY; omega), w3.2 _ _ (by unfold PY; omega), b3.2 _ _ (by unfold PT; omega), b3.2 _ _ (by unfold PT; omega), m16, m17]
          exact ⟨rfl, rfl⟩
        obtain ⟨r, C'', M'', y1, y2, y3⟩ := R_good hN h hKp w4 hfl
        exact ⟨r, C'', M'', y1, y2, ⟨P', R', B', y3.1⟩, y3.2⟩
      · rw [if_neg w1, w4]
        exact ⟨_, C', M', rfl, rfl, ⟨P, R, B, h.rd hKp.1 hKp.2.1 hKp.2.2.1 hKp.2.2.2 ⟨w2, w3⟩⟩, ph_k (hk1 _ _ (by unfold PKw PK; omega) (by omega)) (hk1 _ _ (by unfold PKw PK; omega) (by omega))⟩
    · rw [open_n l2 (Or.inr e1), q_bd2, if_pos rfl, if_neg e1]
      exact ⟨_, C, _, rfl, rfl, ⟨P, R, B, h2⟩, Nat.le_refl _⟩
end RULb
