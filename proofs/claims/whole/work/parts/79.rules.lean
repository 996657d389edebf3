/-! pure part: rules -/
theorem WN.mv {sz lt sz' lt' : Nat → Int32} {idx idx' : Nat} {w : Int64} (h : WN sz lt idx w) (h1 : sz' idx' = sz idx) (h2 : ∀ k, k < 12 → lt' (12 * idx' + k) = lt (12 * idx + k)) : WN sz' lt' idx' w := by
  obtain ⟨s, l, a1, a2, a3, a4, a5⟩ := h
  exact ⟨s, l, a1, a2, h1.trans a3, fun k hk => ⟨(a4 k hk).1, (h2 k (by omega)).trans (a4 k hk).2⟩, a5⟩
theorem orJ_0 {mem : Nat → Nat} : ∀ k, orJ mem 0 k = 0
  | 0 => rfl
  | k + 1 => by
    unfold orJ
    rw [orJ_0 k, Nat.zero_testBit, if_neg (by decide)]
    rfl
section RUL
variable {N P R B : Nat} {C M : St}
/-- the tape and the fault change -/
theorem RelP.rd {C' M' : St} (h : RelP P R B C M) (hC : ∀ r k, ¬ FCf r k → ¬ (r = 1 ∧ k = 1) → ¬ (r = 3 ∧ (k = 5 ∨ k = 6)) → C'.1 r k = C.1 r k) (hC2 : ∀ r k, (r < 38 ∨ 47 < r) → C'.2 r k = C.2 r k) (hM : fr (fun r k => FMf r k ∨ (r = 0 ∧ (k = 1 ∨ k = 16 ∨ k = 17))) M M') (hT : rT C' M') (hF : rFl C' M') : RelP P R B C' M' := by
  have hs : mSame M M' := by
    refine ⟨fun k hk => hM.2 _ _ (by unfold FMf; omega), fun k hk => ⟨hM.2 _ _ (by unfold FMf; omega), hM.2 _ _ (by unfold FMf; omega)⟩, fun r k hr hk => hM.2 _ _ (by unfold FMf; omega), fun k hk => hM.2 _ _ (by unfold FMf; omega), fun k => ⟨hM.2 _ _ (by unfold FMf; omega), hM.2 _ _ (by unfold FMf; omega)⟩, hM.2 _ _ (by unfold FMf; omega), hM.2 _ _ (by unfold FMf; omega), hM.2 _ _ (by unfold FMf; omega)⟩
  have hmb := h.mb
  have hmn := h.mn
  have hpr := h.pr
  obtain ⟨h1, h2, h3, h4, h5, h6, h7, h8⟩ := h
  have cc : ∀ r k, (r ≠ 1 ∧ r ≠ 3) → ¬ FCf r k → C'.1 r k = C.1 r k := fun r k a c => hC r k c (by omega) (by omega)
  refine ⟨hT, h2.go (fun k => hC2 _ _ (by omega)) (hC2 _ _ (by omega)) (fun k => hM.2 _ _ (by unfold FMf; omega)), hF, h4.sm hs (fun r k a c => cc _ _ (by omega) (by unfold FCf; omega)) (fun r k a c => hC2 _ _ (by omega)), h5.go hpr hs (cc _ _ (by omega) (by unfold FCf; omega)) (fun k => cc _ _ (by omega) (by unfold FCf; omega)) (fun k => cc _ _ (by omega) (by unfold FCf; omega)), h6.go (fun k => cc _ _ (by omega) (by unfold FCf; omega)) (fun k => cc _ _ (by omega) (by unfold FCf; omega)) (fun k => hM.2 _ _ (by unfold FMf; omega)), h7.go hmb hs (fun k _ => hM.2 _ _ (by unfold FMf; omega)) (cc _ _ (by omega) (by unfold FCf; omega)) (cc _ _ (by omega) (by unfold FCf; omega)) (fun r k a => cc _ _ (by omega) (by unfold FCf; omega)), ?_⟩
  obtain ⟨l, h26⟩ := h8.2.2
  exact h8.go hmn hs (fun k a c => hM.2 _ _ (by unfold FMf; omega)) (fun r k a c => hM.2 _ _ (by unfold FMf; omega)) (fun k a c => cc _ _ (by omega) (by unfold FCf; omega)) (fun k => cc _ _ (by omega) (by unfold FCf; omega)) (fun k => cc _ _ (by omega) (by unfold FCf; omega)) (fun k => cc _ _ (by omega) (by unfold FCf; omega)) ⟨l, h26.go (cc _ _ (by omega) (by unfold FCf; omega)) (cc _ _ (by omega) (by unfold FCf; omega)) (funext fun k => cc _ _ (by omega) (by unfold FCf; omega))⟩
def PR (r k : Nat) : Prop := (r = 5 ∧ k = 2) ∨ r = 6 ∨ r = 7 ∨ r = 49 ∨ r = 51 ∨ (r = 22 ∧ (k = 2 ∨ k = 3)) ∨ (r = 24 ∧ k = 1) ∨ (r = 0 ∧ k = 12)
/-- what the class does when the rules stand -/
theorem ctail {C : St} (hN : 6000 ≤ N) (hP : C.1 28 9 = nI P) (hR : C.1 28 10 = nI R) (hP6 : P ≤ 6) (hR5 : R ≤ 5) (h60 : C.1 6 0 = 0) (hm : ∀ i, i < R → ∃ m, 0 < m ∧ m < 64 ∧ C.1 31 i = nI m) :
    ok (bd (f_X3_join N C) fun S7 => bd (f_X7_clear N 48 S7) fun S8 => bd (f_X7_clear N 50 S8) fun S9 => bd (f_X9_clear N S9) fun S10 => nm (puI S10 0 12 0) fun S11 => some ((S11.1 28 11), S11)) fun x =>
      x.1 = C.1 28 11 ∧ fr PR C x.2 ∧ x.2.1 5 2 = nI (2 ^ (P + R)) ∧ (∀ s, s < 2 ^ (P + R) → x.2.1 6 s = nI (orJ (memC 28 P C) s (P + R))) ∧ (∀ k, k < 64 → x.2.1 7 k = 0) ∧ (∀ k, k < 432 → x.2.1 49 k = -100 ∧ x.2.1 51 k = -100) ∧ x.2.1 22 2 = 0 ∧ x.2.1 22 3 = 0 ∧ x.2.1 24 1 = 0 ∧ x.2.1 0 12 = 0 := by
  refine ok_bd (join_e hN hP hR hP6 hR5 h60 hm) ?_
  rintro C7 ⟨a1, a2, a3, a4⟩
  refine ok_bd (clear_e (rr := 48) hN) ?_
  rintro C8 ⟨b1, b2⟩
  refine ok_bd (clear_e (rr := 50) hN) ?_
  rintro C9 ⟨c1, c2⟩
  unfold f_X9_clear f_X6_clear
  simp only [q_nm, q_bd]
  have f9 : fr PR C C9 := ((a1.mo (fun r k w => by unfold PJ at w; unfold PR; omega)).tr (b1.mo (fun r k w => by unfold PR; omega))).tr (c1.mo (fun r k w => by unfold PR; omega))
  generalize hX : puI (puI (puI (puI C9 22 2 0) 22 3 0) 24 1 0) 0 12 0 = X
  have fX : fr (fun r k => (r = 22 ∧ (k = 2 ∨ k = 3)) ∨ (r = 24 ∧ k = 1) ∨ (r = 0 ∧ k = 12)) C9 X := by
    rw [← hX]
    exact (((fr.rf.pu (by omega)).pu (by omega)).pu (by omega)).pu (by omega)
  have fx : fr PR C X := f9.tr (fX.mo (fun r k w => by unfold PR; omega))
  refine ok_s ⟨fx.2 _ _ (by unfold PR; omega), fx, ?_, ?_, ?_, ?_, ?_, ?_, ?_, ?_⟩
  · show X.1 5 2 = _
    rw [fX.2 _ _ (by omega), c1.2 _ _ (by omega), b1.2 _ _ (by omega)]; exact a2
  · intro s hs
    show X.1 6 s = _
    rw [fX.2 _ _ (by omega), c1.2 _ _ (by omega), b1.2 _ _ (by omega)]; exact a3 s hs
  · intro s hs
    show X.1 7 s = _
    rw [fX.2 _ _ (by omega), c1.2 _ _ (by omega), b1.2 _ _ (by omega)]; exact a4 s hs
  · intro k hk
    show X.1 49 k = _ ∧ X.1 51 k = _
    rw [fX.2 _ _ (by omega), fX.2 _ _ (by omega), c1.2 _ _ (by omega)]
    exact ⟨b2 k hk, c2 k hk⟩
  · show X.1 22 2 = 0
    rw [← hX, q_gR _ _ _ _ _ _ (by omega), q_gR _ _ _ _ _ _ (by omega), q_gK _ _ _ _ _ _ (by omega), q_gS]
  · show X.1 22 3 = 0
    rw [← hX, q_gR _ _ _ _ _ _ (by omega), q_gR _ _ _ _ _ _ (by omega), q_gS]
  · show X.1 24 1 = 0
    rw [← hX, q_gR _ _ _ _ _ _ (by omega), q_gS]
  · show X.1 0 12 = 0
    rw [← hX, q_gS]
/-- the rules that were read are the rules now -/
theorem RR_new {C C' M M' : St} {mem : Nat → Nat} {r : Int32} (hz : Zr P R B C M) (hZ : RZ P R B mem M (r, M')) (c1 : ∀ k j, k < 10 → C'.1 (28 + k) j = C.1 (38 + k) j) (c2 : ∀ k j, k < 10 → C'.2 (28 + k) j = C.2 (38 + k) j) : RR P R B C' M' := by
  obtain ⟨⟨r1, r2, r3, r4, r5, r6, r7⟩, ⟨b1, b2, b3, b4⟩, -⟩ := hz
  obtain ⟨-, -, z3, z4, z8, -, -, -, zn, zb, -⟩ := hZ
  refine ⟨⟨(c1 0 9 (by omega)).trans r1, (c1 0 10 (by omega)).trans r2, r3, r4, fun i hi => ?_, fun i hi => ?_, fun i j hi hj => ?_⟩, ⟨(c1 0 11 (by omega)).trans b1, b2, fun i hi => ?_, fun i j hij hj => ?_⟩, z3, z4, z8⟩
  · obtain ⟨x1, x2, x3⟩ := zn i (by omega)
    have ef : fromK P i = 12 + i := by unfold fromK; rw [if_pos hi]
    rw [ef] at x1 x2 x3
    obtain ⟨y1, y2⟩ := r5 i hi
    rw [Nat.zero_add]
    rw [show C'.2 (28 + 1) i = C.2 (38 + 1) i from c2 1 i (by omega)]
    exact ⟨y1.mv x1 x3, x2.trans y2⟩
  · obtain ⟨x1, x2, x3⟩ := zn (P + i) (by omega)
    have ef : fromK P (P + i) = 18 + i := by unfold fromK; rw [if_neg (by omega)]; omega
    rw [ef] at x1 x2 x3
    obtain ⟨y1, m, m1, m2, m3, m4⟩ := r6 i hi
    rw [show C'.2 (28 + 2) i = C.2 (38 + 2) i from c2 2 i (by omega), show C'.1 (28 + 3) i = C.1 (38 + 3) i from c1 3 i (by omega)]
    exact ⟨y1.mv x1 x3, m, m1, m2, m3, x2.trans m4⟩
  · rw [show C'.2 (28 + 1) i = C.2 (38 + 1) i from c2 1 i (by omega), show C'.2 (28 + 2) j = C.2 (38 + 2) j from c2 2 j (by omega)]
    exact r7 i j hi hj
  · obtain ⟨x1, x2⟩ := zb i hi
    obtain ⟨w1, w2, w3, w4, w5, w6, w7, w8, w9, w10, w11, w12⟩ := b3 i hi
    unfold bOK
    rw [Nat.zero_add, show C'.2 (28 + 4) i = C.2 (38 + 4) i from c2 4 i (by omega), show C'.1 (28 + 5) i = C.1 (38 + 5) i from c1 5 i (by omega), show C'.1 (28 + 6) i = C.1 (38 + 6) i from c1 6 i (by omega), show C'.1 (28 + 7) i = C.1 (38 + 7) i from c1 7 i (by omega), show C'.1 (28 + 8) i = C.1 (38 + 8) i from c1 8 i (by omega), show C'.1 (28 + 9) i = C.1 (38 + 9) i from c1 9 i (by omega)]
    exact ⟨w1.mv (x1 11 (by omega)) x2, w2, (x1 5 (by omega)).trans w3, (x1 6 (by omega)).trans w4, (x1 7 (by omega)).trans w5, w6, w7, w8, w9, (x1 8 (by omega)).trans w10, w11, (x1 9 (by omega)).trans w12⟩
  · rw [show C'.1 (28 + 5) i = C.1 (38 + 5) i from c1 5 i (by omega), show C'.1 (28 + 6) i = C.1 (38 + 6) i from c1 6 i (by omega), show C'.1 (28 + 7) i = C.1 (38 + 7) i from c1 7 i (by omega), show C'.1 (28 + 5) j = C.1 (38 + 5) j from c1 5 j (by omega), show C'.1 (28 + 6) j = C.1 (38 + 6) j from c1 6 j (by omega), show C'.1 (28 + 7) j = C.1 (38 + 7) j from c1 7 j (by omega)]
    exact b4 i j hij hj
end RUL
