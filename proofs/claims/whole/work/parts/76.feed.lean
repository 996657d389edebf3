/-! pure part: feed, next (bp_b is out of kit/laws/BITS.to-paste) -/
theorem bp_b (x : Int32) : x.toInt8.toInt32 &&& 255 = x &&& 255 := by
  apply Int32.toBitVec_inj.mp
  rw [Int32.toBitVec_and, Int32.toBitVec_and, Int8.toBitVec_toInt32, Int32.toBitVec_toInt8]
  apply BitVec.eq_of_getLsbD_eq
  intro i hi
  rw [BitVec.getLsbD_and, BitVec.getLsbD_and]
  have hm : ∀ i < 32, 8 ≤ i → (255 : Int32).toBitVec.getLsbD i = false := by decide
  rcases Nat.lt_or_ge i 8 with z | z
  · rw [BitVec.getLsbD_signExtend, BitVec.getLsbD_signExtend, if_pos z, if_pos hi]
    simp only [z, hi, decide_true, Bool.true_and]
  · rw [hm i hi z]; simp
section C2
variable {N P R B : Nat} {C M : St}
theorem app_step {w : Int32} {K : Int32 → St → Option St} {sh L : Nat} {S : St} (h1 : S.1 1 1 = nI L) (hL : L < 1000) (hs : sh < 32) : b_X8_append_3 w K (nI sh) S = K (nI sh + (-8)) (puI (puI S 2 L (vp_nar .byte ((w >>> (nI sh &&& 31)).toInt8.toInt32))) 1 1 (nI (L + 1))) := by
  unfold b_X8_append_3 j_X8_append_42
  simp only [q_jp, q_nm]
  have e1 : (puI S 2 L (vp_nar .byte ((w >>> (nI sh &&& 31)).toInt8.toInt32))).1 1 1 = nI L := by rw [q_gR _ _ _ _ _ _ (by omega)]; exact h1
  rw [if_neg (nI_pos (by omega)), h1, if_neg (show ¬ (1000 : Int32) ≤ nI L from nI_ge (b := 1000) hL (by omega)), q_ck (by omega) (by omega), q_tn (by omega), e1, ← nI_succ]
theorem nar_b (x : Int32) : vp_nar .byte x.toInt8.toInt32 &&& 255 = x &&& 255 := by rw [vp_nar_byte, bp_b, bp_b]
theorem append_e {w : Int32} {L : Nat} (hN : 6000 ≤ N) (h1 : C.1 1 1 = nI L) (hL : L + 4 ≤ 1000) : ∃ C', f_X8_append N w C = some C' ∧ fr (fun r k => (r = 1 ∧ k = 1) ∨ (r = 2 ∧ L ≤ k ∧ k < L + 4)) C C' ∧ C'.1 1 1 = nI (L + 4) ∧ ∀ j, j < 4 → C'.1 2 (L + j) &&& 255 = (w >>> (nI (24 - 8 * j) &&& 31)) &&& 255 := by
  obtain ⟨N', rfl⟩ : ∃ k, N = k + 5 := ⟨N - 5, by omega⟩
  unfold f_X8_append
  have e24 : (24 : Int32) = nI 24 := rfl
  have d1 : nI 24 + (-8) = nI 16 := by decide
  have d2 : nI 16 + (-8) = nI 8 := by decide
  have d3 : nI 8 + (-8) = nI 0 := by decide
  rw [q_jp, e24, q_lp, app_step h1 (by omega) (by omega), d1]
  generalize hS1 : puI (puI C 2 L (vp_nar .byte ((w >>> (nI 24 &&& 31)).toInt8.toInt32))) 1 1 (nI (L + 1)) = S1
  have a1 : S1.1 1 1 = nI (L + 1) := by rw [← hS1, q_gS]
  rw [q_lp, app_step a1 (by omega) (by omega), d2]
  generalize hS2 : puI (puI S1 2 (L + 1) (vp_nar .byte ((w >>> (nI 16 &&& 31)).toInt8.toInt32))) 1 1 (nI (L + 1 + 1)) = S2
  have a2 : S2.1 1 1 = nI (L + 2) := by rw [← hS2, q_gS]
  rw [q_lp, app_step a2 (by omega) (by omega), d3]
  generalize hS3 : puI (puI S2 2 (L + 2) (vp_nar .byte ((w >>> (nI 8 &&& 31)).toInt8.toInt32))) 1 1 (nI (L + 2 + 1)) = S3
  have a3 : S3.1 1 1 = nI (L + 3) := by rw [← hS3, q_gS]
  rw [q_lp, app_step a3 (by omega) (by omega)]
  generalize hS4 : puI (puI S3 2 (L + 3) (vp_nar .byte ((w >>> (nI 0 &&& 31)).toInt8.toInt32))) 1 1 (nI (L + 3 + 1)) = S4
  have a4 : S4.1 1 1 = nI (L + 4) := by rw [← hS4, q_gS]
  refine ⟨S4, ?_, ?_, a4, ?_⟩
  · rw [q_lp]
    unfold b_X8_append_3
    rw [if_pos (by decide)]
  · rw [← hS4, ← hS3, ← hS2, ← hS1]
    exact (((((((fr.rf.pu (by omega)).pu (by omega)).pu (by omega)).pu (by omega)).pu (by omega)).pu (by omega)).pu (by omega)).pu (by omega)
  · intro j hj
    have hc : j = 0 ∨ j = 1 ∨ j = 2 ∨ j = 3 := by omega
    rcases hc with rfl | rfl | rfl | rfl
    · rw [← hS4, q_gR _ _ _ _ _ _ (by omega), q_gK _ _ _ _ _ _ (by omega), ← hS3, q_gR _ _ _ _ _ _ (by omega), q_gK _ _ _ _ _ _ (by omega), ← hS2, q_gR _ _ _ _ _ _ (by omega), q_gK _ _ _ _ _ _ (by omega), ← hS1, q_gR _ _ _ _ _ _ (by omega)]
      show (puI C 2 L _).1 2 L &&& 255 = _
      rw [q_gS, nar_b]
    · rw [← hS4, q_gR _ _ _ _ _ _ (by omega), q_gK _ _ _ _ _ _ (by omega), ← hS3, q_gR _ _ _ _ _ _ (by omega), q_gK _ _ _ _ _ _ (by omega), ← hS2, q_gR _ _ _ _ _ _ (by omega), q_gS, nar_b]
    · rw [← hS4, q_gR _ _ _ _ _ _ (by omega), q_gK _ _ _ _ _ _ (by omega), ← hS3, q_gR _ _ _ _ _ _ (by omega), q_gS, nar_b]
    · rw [← hS4, q_gR _ _ _ _ _ _ (by omega), q_gS, nar_b]
def fw (a b c d e : Int32) (i : Nat) : Int32 := if i = 0 then a else if i = 1 then b else if i = 2 then c else if i = 3 then d else e
theorem mfeed_e {a b c d e : Int32} {L : Nat} (hN : 6000 ≤ N) (h1 : M.1 0 1 = nI L) (hL : L + 20 ≤ 1000) : ok (lp (fun _ _ => none) (b_X11_feed_23 a b c d e j_X11_feed_113) N 0 M) fun r => r.1 = nI (L + 20) ∧ fr (fun r k => (r = 0 ∧ k = 1) ∨ (r = 1 ∧ L ≤ k ∧ k < L + 20)) M r.2 ∧ r.2.1 0 1 = nI (L + 20) ∧ ∀ j, j < 20 → r.2.1 1 (L + j) = (fw a b c d e (j / 4) >>> (nI (24 - 8 * (j % 4)) &&& 31)) &&& 255 := by
  refine ok_up0 (n := 20) (fun k S => fr (fun r k => r = 1 ∧ L ≤ k ∧ k < L + 20) M S ∧ ∀ j, j < k → S.1 1 (L + j) = (fw a b c d e (j / 4) >>> (nI (24 - 8 * (j % 4)) &&& 31)) &&& 255) ?_ ?_ (by omega) ⟨fr.rf, fun j hj => by omega⟩
  · rintro K S ⟨g1, g2⟩
    unfold b_X11_feed_23 j_X11_feed_113
    have e20 : nI L + 20 = nI (L + 20) := q_add L 20
    rw [if_pos (by decide), g1.2 0 1 (by omega), h1, e20, q_nm, q_gS]
    refine ok_s ⟨rfl, (g1.mo (fun r k w => by omega)).pu (by omega), q_gS _ _ _ _, fun j hj => ?_⟩
    rw [q_gR _ _ _ _ _ _ (by omega)]
    exact g2 j hj
  · rintro K k S hk ⟨g1, g2⟩ hK
    have h76 : ok (j_X11_feed_76 (nI k) S K (fw a b c d e (k / 4))) fun r => r.1 = nI (L + 20) ∧ fr (fun r k => (r = 0 ∧ k = 1) ∨ (r = 1 ∧ L ≤ k ∧ k < L + 20)) M r.2 ∧ r.2.1 0 1 = nI (L + 20) ∧ ∀ j, j < 20 → r.2.1 1 (L + j) = (fw a b c d e (j / 4) >>> (nI (24 - 8 * (j % 4)) &&& 31)) &&& 255 := by
      unfold j_X11_feed_76
      have e5 : nI k - nI k / 4 * 4 = nI (k % 4) := pk_rem (a := k) (d := 4) (by omega) (by omega) (by omega)
      have e6 : (24 : Int32) - 8 * nI (k % 4) = nI (24 - 8 * (k % 4)) := by
        have : nI 24 - nI 8 * nI (k % 4) = nI (24 - 8 * (k % 4)) := by rw [q_mul, q_sub (by omega)]
        exact this
      rw [g1.2 0 1 (by omega), h1, q_add, q_ck (by omega) (by omega), q_tn (by omega), e5, e6, q_nm, q_nm, ← nI_succ]
      refine hK _ ⟨g1.pu (by omega), ?_⟩
      intro j hj
      rw [q_g]
      by_cases e : j = k
      · subst e
        rw [if_pos ⟨rfl, rfl⟩]
      · rw [if_neg (by omega)]
        exact g2 j (by omega)
    unfold b_X11_feed_23
    rw [if_neg (show ¬ (20 : Int32) ≤ nI k from nI_ge (b := 20) hk (by omega)), q_jp]
    have c4 : ((4 : Int32) ≤ nI k) = (4 ≤ k) := q_le (a := 4) (by omega) (by omega)
    have c8 : ((8 : Int32) ≤ nI k) = (8 ≤ k) := q_le (a := 8) (by omega) (by omega)
    have c12 : ((12 : Int32) ≤ nI k) = (12 ≤ k) := q_le (a := 12) (by omega) (by omega)
    have c16 : ((16 : Int32) ≤ nI k) = (16 ≤ k) := q_le (a := 16) (by omega) (by omega)
    unfold fw at h76
    by_cases k4 : 4 ≤ k
    · rw [if_pos (c4 ▸ k4)]
      rw [if_neg (show ¬ k / 4 = 0 by omega)] at h76
      by_cases k8 : 8 ≤ k
      · rw [if_pos (c8 ▸ k8)]
        rw [if_neg (show ¬ k / 4 = 1 by omega)] at h76
        by_cases k12 : 12 ≤ k
        · rw [if_pos (c12 ▸ k12)]
          rw [if_neg (show ¬ k / 4 = 2 by omega)] at h76
          by_cases k16 : 16 ≤ k
          · rw [if_pos (c16 ▸ k16)]
            rw [if_neg (show ¬ k / 4 = 3 by omega)] at h76
            exact h76
          · rw [if_neg (fun w => k16 (c16 ▸ w))]
            rw [if_pos (show k / 4 = 3 by omega)] at h76
            exact h76
        · rw [if_neg (fun w => k12 (c12 ▸ w))]
          rw [if_pos (show k / 4 = 2 by omega)] at h76
          exact h76
      · rw [if_neg (fun w => k8 (c8 ▸ w))]
        rw [if_pos (show k / 4 = 1 by omega)] at h76
        exact h76
    · rw [if_neg (fun w => k4 (c4 ▸ w))]
      rw [if_pos (show k / 4 = 0 by omega)] at h76
      exact h76
/-- only the tape changes -/
theorem RelP.tape {C' M' : St} (h : RelP P R B C M) (hC : ∀ r k, ¬ FCf r k → ¬ (r = 1 ∧ k = 1) → r ≠ 2 → C'.1 r k = C.1 r k) (hC2 : C'.2 = C.2) (hM : fr (fun r k => FMf r k ∨ (r = 0 ∧ k = 1) ∨ r = 1) M M') (hT : rT C' M') : RelP P R B C' M' := by
  have hs : mSame M M' := by
    refine ⟨fun k hk => hM.2 _ _ (by unfold FMf; omega), fun k hk => ⟨hM.2 _ _ (by unfold FMf; omega), hM.2 _ _ (by unfold FMf; omega)⟩, fun r k hr hk => hM.2 _ _ (by unfold FMf; omega), fun k hk => hM.2 _ _ (by unfold FMf; omega), fun k => ⟨hM.2 _ _ (by unfold FMf; omega), hM.2 _ _ (by unfold FMf; omega)⟩, hM.2 _ _ (by unfold FMf; omega), hM.2 _ _ (by unfold FMf; omega), hM.2 _ _ (by unfold FMf; omega)⟩
  have hmb := h.mb
  have hmn := h.mn
  have hpr := h.pr
  obtain ⟨h1, h2, h3, h4, h5, h6, h7, h8⟩ := h
  have cc : ∀ r k, (r ≠ 1 ∧ r ≠ 2) → ¬ FCf r k → C'.1 r k = C.1 r k := fun r k a c => hC r k c (by omega) a.2
  refine ⟨hT, h2.go (fun k => by rw [hC2]) (by rw [hC2]) (fun k => hM.2 _ _ (by unfold FMf; omega)), ?_, h4.sm hs (fun r k a c => cc _ _ (by omega) (by unfold FCf; omega)) (fun r k a c => by rw [hC2]), h5.go hpr hs (cc _ _ (by omega) (by unfold FCf; omega)) (fun k => cc _ _ (by omega) (by unfold FCf; omega)) (fun k => cc _ _ (by omega) (by unfold FCf; omega)), h6.go (fun k => cc _ _ (by omega) (by unfold FCf; omega)) (fun k => cc _ _ (by omega) (by unfold FCf; omega)) (fun k => hM.2 _ _ (by unfold FMf; omega)), h7.go hmb hs (fun k _ => hM.2 _ _ (by unfold FMf; omega)) (cc _ _ (by omega) (by unfold FCf; omega)) (cc _ _ (by omega) (by unfold FCf; omega)) (fun r k a => cc _ _ (by omega) (by unfold FCf; omega)), ?_⟩
  · unfold rFl
    rw [cc 3 5 (by omega) (by unfold FCf; omega), cc 3 6 (by omega) (by unfold FCf; omega), hM.2 0 16 (by unfold FMf; omega), hM.2 0 17 (by unfold FMf; omega)]
    exact h3
  · obtain ⟨l, h26⟩ := h8.2.2
    exact h8.go hmn hs (fun k a c => hM.2 _ _ (by unfold FMf; omega)) (fun r k a c => hM.2 _ _ (by unfold FMf; omega)) (fun k a c => cc _ _ (by omega) (by unfold FCf; omega)) (fun k => cc _ _ (by omega) (by unfold FCf; omega)) (fun k => cc _ _ (by omega) (by unfold FCf; omega)) (fun k => cc _ _ (by omega) (by unfold FCf; omega)) ⟨l, h26.go (cc _ _ (by omega) (by unfold FCf; omega)) (cc _ _ (by omega) (by unfold FCf; omega)) (funext fun k => cc _ _ (by omega) (by unfold FCf; omega))⟩
theorem R_feed {a b c d e : Int32} (hN : 6000 ≤ N) (h : RelP P R B C M) : ∃ r C' M', f_X10_feed N a b c d e C = some (r, C') ∧ f_X11_feed N a b c d e M = some (r, M') ∧ RelP P R B C' M' ∧ ph C ≤ ph C' := by
  obtain ⟨L, l1, l2, l3⟩ := h.1.1
  have hby := h.1.2
  unfold f_X10_feed f_X11_feed
  have e20 : nI L + 20 = nI (L + 20) := q_add L 20
  have g1 : (puI M 0 2 0).1 0 1 = nI L := by rw [q_gK _ _ _ _ _ _ (by omega)]; exact l3
  have c1 : (nI (L + 20) ≤ 1000) = (L + 20 ≤ 1000) := q_le (b := 1000) (by omega) (by omega)
  rw [q_nm, l2, g1, e20]
  by_cases hc : L + 20 ≤ 1000
  · rw [if_pos (c1 ▸ hc), if_pos (c1 ▸ hc), q_jp, q_jp]
    obtain ⟨C1, a1, a2, a3, a4⟩ := append_e (w := a) hN l2 (by omega)
    obtain ⟨C2, b1, b2, b3, b4⟩ := append_e (w := b) (L := L + 4) hN a3 (by omega)
    obtain ⟨C3, c1, c2, c3, c4⟩ := append_e (w := c) (L := L + 4 + 4) hN b3 (by omega)
    obtain ⟨C4, d1, d2, d3, d4⟩ := append_e (w := d) (L := L + 4 + 4 + 4) hN c3 (by omega)
    obtain ⟨C5, e1, e2, e3, e4⟩ := append_e (w := e) (L := L + 4 + 4 + 4 + 4) hN d3 (by omega)
    obtain ⟨⟨r, M'⟩, m1, m2, m3, m4, m5⟩ := mfeed_e (a := a) (b := b) (c := c) (d := d) (e := e) (M := puI M 0 2 0) hN g1 hc
    have m2' : r = nI (L + 20) := m2
    have e3' : C5.1 1 1 = nI (L + 20) := by rw [e3]
    rw [a1, q_bd, b1, q_bd, c1, q_bd, d1, q_bd, e1, q_bd, m1, e3', m2']
    refine ⟨_, C5, M', rfl, rfl, h.tape ?_ ?_ ?_ ⟨⟨L + 20, hc, e3', m4⟩, ?_⟩, ph_k (by rw [e2.2 _ _ (by omega), d2.2 _ _ (by omega), c2.2 _ _ (by omega), b2.2 _ _ (by omega), a2.2 _ _ (by omega)]) (by rw [e2.2 _ _ (by omega), d2.2 _ _ (by omega), c2.2 _ _ (by omega), b2.2 _ _ (by omega), a2.2 _ _ (by omega)])⟩
    · intro r k x1 x2 x3
      rw [e2.2 _ _ (by omega), d2.2 _ _ (by omega), c2.2 _ _ (by omega), b2.2 _ _ (by omega), a2.2 _ _ (by omega)]
    · rw [e2.1, d2.1, c2.1, b2.1, a2.1]
    · refine (fr.rf.pu (by unfold FMf; omega)).tr (m3.mo (fun r k w => by unfold FMf; omega))
    · intro k hk
      rw [← (cb_e C5 k).1]
      by_cases hin : L ≤ k ∧ k < L + 20
      · have hm := m5 (k - L) (by omega)
        rw [show L + (k - L) = k by omega] at hm
        have hm' : M'.1 1 k = _ := hm
        rw [hm']
        have hq : (k - L) / 4 = 0 ∨ (k - L) / 4 = 1 ∨ (k - L) / 4 = 2 ∨ (k - L) / 4 = 3 ∨ (k - L) / 4 = 4 := by omega
        unfold fw
        rcases hq with w | w | w | w | w
        · rw [w, if_pos rfl, e2.2 _ _ (by omega), d2.2 _ _ (by omega), c2.2 _ _ (by omega), b2.2 _ _ (by omega)]
          have := a4 ((k - L) % 4) (by omega)
          rw [show L + (k - L) % 4 = k by omega] at this
          exact this.symm
        · rw [w, if_neg (by omega), if_pos rfl, e2.2 _ _ (by omega), d2.2 _ _ (by omega), c2.2 _ _ (by omega)]
          have := b4 ((k - L) % 4) (by omega)
          rw [show L + 4 + (k - L) % 4 = k by omega] at this
          exact this.symm
        · rw [w, if_neg (by omega), if_neg (by omega), if_pos rfl, e2.2 _ _ (by omega), d2.2 _ _ (by omega)]
          have := c4 ((k - L) % 4) (by omega)
          rw [show L + 4 + 4 + (k - L) % 4 = k by omega] at this
          exact this.symm
        · rw [w, if_neg (by omega), if_neg (by omega), if_neg (by omega), if_pos rfl, e2.2 _ _ (by omega)]
          have := d4 ((k - L) % 4) (by omega)
          rw [show L + 4 + 4 + 4 + (k - L) % 4 = k by omega] at this
          exact this.symm
        · rw [w, if_neg (by omega), if_neg (by omega), if_neg (by omega), if_neg (by omega)]
          have := e4 ((k - L) % 4) (by omega)
          rw [show L + 4 + 4 + 4 + 4 + (k - L) % 4 = k by omega] at this
          exact this.symm
      · rw [m3.2 _ _ (by omega), q_gR _ _ _ _ _ _ (by omega), e2.2 _ _ (by omega), d2.2 _ _ (by omega), c2.2 _ _ (by omega), b2.2 _ _ (by omega), a2.2 _ _ (by omega), hby k hk, (cb_e C k).1]
  · rw [if_neg (fun w => hc (c1 ▸ w)), if_neg (fun w => hc (c1 ▸ w))]
    exact ⟨_, C, _, rfl, rfl, h.m2 0, Nat.le_refl _⟩
/-- the tables change, and which is which -/
theorem RelP.tab2 {C' M' : St} (h : RelP P R B C M) (hC : ∀ r k, ¬ (48 ≤ r ∧ r ≤ 51) → ¬ (r = 0 ∧ k = 12) → C'.1 r k = C.1 r k) (hC2 : C'.2 = C.2) (hM : fr (fun r k => r = 14 ∨ (r = 0 ∧ k = 2)) M M') (h12 : C'.1 0 12 = 0) (hb : rB P C' M') : RelP P R B C' M' := by
  have hs : mSame M M' := mSame.of hM (fun r k a => by omega)
  have hmb := h.mb
  have hmn := h.mn
  have hpr := h.pr
  obtain ⟨h1, h2, h3, h4, h5, h6, h7, h8⟩ := h
  refine ⟨h1.go (hC _ _ (by omega) (by omega)) (fun k => hC _ _ (by omega) (by omega)) (hM.2 _ _ (by omega)) (fun k => hM.2 _ _ (by omega)), h2.go (fun k => by rw [hC2]) (by rw [hC2]) (fun k => hM.2 _ _ (by omega)), ?_, h4.sm hs (fun r k a c => hC _ _ (by omega) (by omega)) (fun r k a c => by rw [hC2]), h5.go hpr hs (hC _ _ (by omega) (by omega)) (fun k => hC _ _ (by omega) (by omega)) (fun k => hC _ _ (by omega) (by omega)), hb, ⟨Or.inl h12, fun t ht => by rw [hC _ _ (by omega) (by omega)]; exact h7.2 t ht⟩, ?_⟩
  · unfold rFl
    rw [hC 3 5 (by omega) (by omega), hC 3 6 (by omega) (by omega), hM.2 0 16 (by omega), hM.2 0 17 (by omega)]
    exact h3
  · obtain ⟨l, h26⟩ := h8.2.2
    exact h8.go hmn hs (fun k a c => hM.2 _ _ (by omega)) (fun r k a c => hM.2 _ _ (by omega)) (fun k a c => hC _ _ (by omega) (by omega)) (fun k => hC _ _ (by omega) (by omega)) (fun k => hC _ _ (by omega) (by omega)) (fun k => hC _ _ (by omega) (by omega)) ⟨l, h26.go (hC _ _ (by omega) (by omega)) (hC _ _ (by omega) (by omega)) (funext fun k => hC _ _ (by omega) (by omega))⟩
theorem clear_e {rr : Nat} (hN : 6000 ≤ N) : ok (f_X7_clear N rr C) fun C' => fr (fun r k => r = rr + 1 ∧ k < 432) C C' ∧ ∀ k, k < 432 → C'.1 (rr + 1) k = -100 := by
  unfold f_X7_clear
  refine ok_bd (fill_e hN (by omega)) ?_
  intro C1 h1
  exact ok_s h1
theorem R_next (hN : 6000 ≤ N) (h : RelP P R B C M) : ∃ C' M', f_X10_next N C = some C' ∧ f_X11_next N M = some M' ∧ RelP P R B C' M' ∧ ph C ≤ ph C' := by
  have hB := h.2.2.2.2.2.1
  have hm : ok (f_X11_next N M) fun M' => fr (fun r k => r = 14 ∨ (r = 0 ∧ k = 2)) M M' ∧ ∀ k, k < 432 → M'.1 14 k = -100 ∧ M'.1 14 (432 + k) = M.1 14 k := by
    unfold f_X11_next
    rw [q_nm, q_jp]
    refine ok_up0 (n := 432) (fun i S => fr (fun r k => r = 14 ∨ (r = 0 ∧ k = 2)) M S ∧ (∀ k, k < i → S.1 14 k = -100 ∧ S.1 14 (432 + k) = M.1 14 k) ∧ ∀ k, i ≤ k → k < 432 → S.1 14 k = M.1 14 k) ?_ ?_ (by omega) ⟨fr.rf.pu (by omega), fun k hk => by omega, fun k _ _ => q_gR _ _ _ _ _ _ (by omega)⟩
    · rintro K S ⟨g1, g2, g3⟩
      unfold b_X11_next_7
      rw [if_pos (by decide)]
      exact ok_s ⟨g1, g2⟩
    · rintro K i S hi ⟨g1, g2, g3⟩ hK
      unfold b_X11_next_7
      have e1 : (432 : Int32) + nI i = nI (432 + i) := q_add 432 i
      simp only [q_nm]
      rw [if_neg (show ¬ (432 : Int32) ≤ nI i from nI_ge (b := 432) hi (by omega)), e1, q_ck (by omega) (by omega), q_ck (by omega) (by omega), q_ck (by omega) (by omega), q_tn (by omega), q_tn (by omega), g3 i (by omega) hi, ← nI_succ]
      refine hK _ ⟨(g1.pu (by omega)).pu (by omega), ?_, ?_⟩
      · intro k hk
        by_cases e : k = i
        · subst e
          rw [q_gS, q_gK _ _ _ _ _ _ (by omega), q_gS]
          exact ⟨rfl, rfl⟩
        · rw [q_gK _ _ _ _ _ _ e, q_gK _ _ _ _ _ _ (by omega), q_gK _ _ _ _ _ _ (by omega), q_gK _ _ _ _ _ _ (by omega)]
          exact g2 k (by omega)
      · intro k h1 h2
        rw [q_gK _ _ _ _ _ _ (by omega), q_gK _ _ _ _ _ _ (by omega)]
        exact g3 k (by omega) h2
  obtain ⟨M', m1, m2, m3⟩ := hm
  unfold f_X10_next
  rw [q_nm]
  obtain ⟨C1, c1, c2, c3⟩ := clear_e (N := N) (C := stS C) (rr := 48) hN
  rw [c1, q_bd, q_nm, m1]
  have st : ∀ r k, ¬ (48 ≤ r ∧ r ≤ 51) → (stS C).1 r k = C.1 r k := by
    intro r k a
    show (if 48 ≤ r ∧ r < 50 then C.1 (r + 2) else if 50 ≤ r ∧ r < 52 then C.1 (r - 2) else C.1 r) k = _
    rw [if_neg (by omega), if_neg (by omega)]
  have s51 : ∀ k, (stS C).1 51 k = C.1 49 k := fun k => rfl
  refine ⟨_, M', rfl, rfl, h.tab2 ?_ ?_ m2 (q_gS _ _ _ _) ⟨fun k hk => ?_, fun k hk => ?_, fun q p x a1 a2 a3 a4 => ?_⟩, ph_k (by rw [q_gR _ _ _ _ _ _ (by omega), c2.2 _ _ (by omega), st _ _ (by omega)]) (by rw [q_gR _ _ _ _ _ _ (by omega), c2.2 _ _ (by omega), st _ _ (by omega)])⟩
  · intro r k a b
    rw [q_g, if_neg (by omega), c2.2 _ _ (by omega), st r k a]
  · rw [q_g2, c2.1]
    rfl
  · obtain ⟨x1, x2⟩ := m3 k hk
    have y1 : C1.1 49 k = -100 := c3 k hk
    rw [q_gR _ _ _ _ _ _ (by omega), q_gR _ _ _ _ _ _ (by omega), y1, x1, x2, c2.2 _ _ (by omega), s51]
    exact ⟨rfl, (hB.1 k hk).1⟩
  · by_cases e : k < 432
    · rw [(m3 k e).1]; unfold tOK; decide
    · have := (m3 (k - 432) (by omega)).2
      rw [show 432 + (k - 432) = k by omega] at this
      rw [this]
      exact hB.2.1 _ (by omega)
  · obtain ⟨x1, x2⟩ := m3 (144 * q + 24 * p + x) (by omega)
    rw [x1, x2]
    exact ⟨rfl, (hB.2.2 q p x a1 a2 a3 a4).1⟩
end C2
