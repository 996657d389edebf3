/-! pure part: finding, count, tell -/
theorem mSame.rf {M : St} : mSame M M := ⟨fun _ _ => rfl, fun _ _ => ⟨rfl, rfl⟩, fun _ _ _ _ => rfl, fun _ _ => rfl, fun _ => ⟨rfl, rfl⟩, rfl, rfl, rfl⟩
def X2 (r k : Nat) : Prop := (r = 0 ∧ k = 12) ∨ (r = 8 ∧ k = 4) ∨ (9 ≤ r ∧ r ≤ 12) ∨ r = 14 ∨ r = 7 ∨ (22 ≤ r ∧ r ≤ 27)
section C3
variable {N P R B : Nat} {C M : St}
theorem RelP.upd {C' M' : St} (h : RelP P R B C M) (hC : ∀ r k, ¬ FCf r k → ¬ X2 r k → C'.1 r k = C.1 r k) (hC2 : C'.2 = C.2) (hM : fr (fun r k => FMf r k ∨ (r = 0 ∧ 37 ≤ k ∧ k ≤ 39) ∨ (20 ≤ r ∧ r ≤ 24)) M M') (hG : RG P R (memM M) C') (hW : rW P B C' M') (hX : rX P R B C' M') : RelP P R B C' M' := by
  have hs : mSame M M' := by
    refine ⟨fun k hk => hM.2 _ _ (by unfold FMf; omega), fun k hk => ⟨hM.2 _ _ (by unfold FMf; omega), hM.2 _ _ (by unfold FMf; omega)⟩, fun r k hr hk => hM.2 _ _ (by unfold FMf; omega), fun k hk => hM.2 _ _ (by unfold FMf; omega), fun k => ⟨hM.2 _ _ (by unfold FMf; omega), hM.2 _ _ (by unfold FMf; omega)⟩, hM.2 _ _ (by unfold FMf; omega), hM.2 _ _ (by unfold FMf; omega), hM.2 _ _ (by unfold FMf; omega)⟩
  have hpr := h.pr
  obtain ⟨h1, h2, h3, h4, h5, h6, h7, h8⟩ := h
  refine ⟨h1.go (hC _ _ (by unfold FCf; omega) (by unfold X2; omega)) (fun k => hC _ _ (by unfold FCf; omega) (by unfold X2; omega)) (hM.2 _ _ (by unfold FMf; omega)) (fun k => hM.2 _ _ (by unfold FMf; omega)), h2.go (fun k => by rw [hC2]) (by rw [hC2]) (fun k => hM.2 _ _ (by unfold FMf; omega)), ?_, h4.sm hs (fun r k a c => hC _ _ (by unfold FCf; omega) (by unfold X2; omega)) (fun r k a c => by rw [hC2]), ?_, h6.go (fun k => hC _ _ (by unfold FCf; omega) (by unfold X2; omega)) (fun k => hC _ _ (by unfold FCf; omega) (by unfold X2; omega)) (fun k => hM.2 _ _ (by unfold FMf; omega)), hW, hX⟩
  · unfold rFl
    rw [hC 3 5 (by unfold FCf; omega) (by unfold X2; omega), hC 3 6 (by unfold FCf; omega) (by unfold X2; omega), hM.2 0 16 (by unfold FMf; omega), hM.2 0 17 (by unfold FMf; omega)]
    exact h3
  · have hG' : rG P R C' M := ⟨hG, by rw [hC 6 0 (by unfold FCf; omega) (by unfold X2; omega)]; exact h5.2.1, h5.2.2⟩
    exact hG'.go hpr hs rfl (fun _ => rfl) (fun _ => rfl)
theorem RelP.cs (h : RelP P R B C M) {L : List F4} (hF : FC L C) : CS P R B L C M := ⟨h.cr, h.2.2.2.1.hw, hF⟩
theorem know_l (hN : 6000 ≤ N) (h : RelP P R B C M) : ∃ C1, f_X10_knowFindings N C = some C1 ∧ RelP P R B C1 M ∧ C1.1 0 12 = 1 ∧ FC (FBn (Sf (inn M) P) B) C1 := by
  have h0 := h
  obtain ⟨h1, h2, h3, h4, h5, h6, ⟨h7, h14⟩, h8⟩ := h
  unfold f_X10_knowFindings
  rcases h7 with w | ⟨w1, w2⟩
  · rw [if_pos w]
    obtain ⟨C1, c1, c2, c3, c4⟩ := cfind_e hN h0.mb h0.cr h14
    rw [c1, q_bd, q_nm]
    have k : ∀ r k, ¬ (r = 0 ∧ k = 12) → ¬ Pc r k → (puI C1 0 12 1).1 r k = C.1 r k := by
      intro r k a c
      rw [q_g, if_neg a]
      exact c2.2 r k c
    have hF : FC (FBn (Sf (inn M) P) B) (puI C1 0 12 1) := ⟨by rw [q_gR _ _ _ _ _ _ (by omega)]; exact c3.1, c3.2.go (fun r k a c _ => q_gR _ _ _ _ _ _ (by omega))⟩
    refine ⟨_, rfl, h0.upd ?_ c2.1 (fr.rf) ?_ ⟨Or.inr ⟨q_gS _ _ _ _, hF⟩, fun t ht => by rw [q_gR _ _ _ _ _ _ (by omega)]; exact c4 t ht⟩ ?_, q_gS _ _ _ _, hF⟩
    · intro r k' a c
      exact k r k' (fun w => c (by unfold X2; omega)) (fun w => by unfold Pc at w; unfold FCf at a; unfold X2 at c; omega)
    · exact h5.1.go (k _ _ (by omega) (by unfold Pc; omega)) (funext fun x => k _ _ (by omega) (by unfold Pc; omega)) (funext fun x => k _ _ (by omega) (by unfold Pc; omega))
    · obtain ⟨l, h26⟩ := h8.2.2
      exact h8.go h0.mn mSame.rf (fun _ _ _ => rfl) (fun _ _ _ _ => rfl) (fun x a c => k _ _ (by omega) (by unfold Pc; omega)) (fun x => k _ _ (by omega) (by unfold Pc; omega)) (fun x => k _ _ (by omega) (by unfold Pc; omega)) (fun x => k _ _ (by omega) (by unfold Pc; omega)) ⟨l, h26.go (k _ _ (by omega) (by unfold Pc; omega)) (k _ _ (by omega) (by unfold Pc; omega)) (funext fun x => k _ _ (by omega) (by unfold Pc; omega))⟩
  · rw [if_neg (by rw [w1]; decide)]
    exact ⟨C, rfl, h0, w1, w2⟩
/-- the reference finds; all stays -/
theorem mknow_l (hN : 6000 ≤ N) (h : RelP P R B C M) : ∃ M1, f_X11_find N (puI M 0 2 0) = some M1 ∧ RelP P R B C M1 ∧ fr Pt M M1 ∧ MC (FBn (Sf (inn M) P) B) M1 ∧ M1.1 0 2 = 0 := by
  have f0 : fr Pt M (puI M 0 2 0) := fr.rf.pu (by unfold Pt; omega)
  obtain ⟨M1, m1, m2, m3⟩ := mfind_e hN (h.mb.pt f0)
  rw [inn_pt f0] at m3
  refine ⟨M1, m1, h.go (fun _ _ _ => rfl) (fun _ _ _ => rfl) ((fr.rf.pu (by unfold FMf; omega)).tr (m2.mo (fun r k w => by unfold Pf at w; unfold FMf; omega))), f0.tr (m2.mo (fun r k w => by unfold Pf at w; unfold Pt; omega)), m3, ?_⟩
  rw [m2.2 _ _ (by unfold Pf; omega), q_gS]
theorem RelP.grp {C' : St} (h : RelP P R B C M) (hC : fr (fun r _ => r = 7 ∨ r = 26 ∨ r = 27) C C') (hG : RG P R (memM M) C') (h26 : ∃ l, SG 26 l C') : RelP P R B C' M := by
  refine h.upd ?_ hC.1 fr.rf hG ?_ ?_
  · intro r k a c
    exact hC.2 r k (fun w => c (by unfold X2; omega))
  · exact h.2.2.2.2.2.2.1.go h.mb mSame.rf (fun _ _ => rfl) (hC.2 _ _ (by omega)) (hC.2 _ _ (by omega)) (fun r k a => hC.2 _ _ (by omega))
  · exact h.2.2.2.2.2.2.2.go h.mn mSame.rf (fun _ _ _ => rfl) (fun _ _ _ _ => rfl) (fun x a c => hC.2 _ _ (by omega)) (fun x => hC.2 _ _ (by omega)) (fun x => hC.2 _ _ (by omega)) (fun x => hC.2 _ _ (by omega)) h26
theorem R_finding {k w : Int32} (hN : 6000 ≤ N) (h : RelP P R B C M) : ∃ (cd : Nat) (r b : Int32) (C' M' : St), f_X10_finding N k w C = some ((cd, r), C') ∧ f_X11_finding N k w M = some (b, M') ∧ M'.1 0 2 = nI cd ∧ cd ≤ 2 ∧ (cd = 0 → b = r) ∧ RelP P R B C' M' := by
  obtain ⟨C1, c1, hR1, c12, hF⟩ := know_l hN h
  obtain ⟨M1, m1, hR2, mf, hC, mz⟩ := mknow_l hN hR1
  have hl : (FBn (Sf (inn M) P) B).length ≤ 432 := (FL_le h.mb).2
  have hok := FB_ok (I := inn M) (P := P) (B := B) B (Nat.le_refl _)
  generalize hL : FBn (Sf (inn M) P) B = L at hF hC hl hok
  have hB24 := h.mb.2.2.2.2.2.1
  have hp6 := pw6 h.mb.2.2.2.1
  unfold f_X10_finding f_X11_finding j_X10_finding_19 j_X11_finding_21 f_X11_fails
  rw [c1, q_bd, q_nm, m1, q_bd, hF.1, hC.1]
  simp only [q_jp, q_nm, q_bd2]
  have bad : RelP P R B C1 (puI M1 0 2 1) := hR2.m2 1
  by_cases e0 : k < 0
  · rw [if_pos e0, if_pos e0]
    exact ⟨1, 0, 0, C1, _, rfl, rfl, q_gS _ _ _ _, by omega, fun w => by omega, bad⟩
  · rw [if_neg e0, if_neg e0]
    obtain ⟨f, hf1, rfl⟩ := q_of e0
    by_cases e1 : f < L.length
    · simp only [if_pos (show nI f < nI L.length by rw [q_lt (by omega) (by omega)]; exact e1)]
      have hx := hok _ (Lg_mem e1)
      obtain ⟨a1, a2, a3, a4⟩ := hF.2 f _ (Lg_at e1)
      obtain ⟨b1, b2, b3, b4⟩ := hC.2 f _ (Lg_at e1)
      have hS1 := hR1.cs hF
      have hxb := hx.1
      have hxs := hx.2.2.2.2
      simp only [q_ck (show f < 432 by omega) (show 432 < 2147483648 by omega), q_tn (show f < 2147483648 by omega), a1, a2, a3, a4, b1, b2, b3, b4]
      have fin : ∀ r : Int32, ∃ (cd : Nat) (r' b : Int32) (C' M' : St), (some (((0 : Nat), r), C1) : Option ((Nat × Int32) × St)) = some ((cd, r'), C') ∧ (some (r, M1) : Option (Int32 × St)) = some (b, M') ∧ M'.1 0 2 = nI cd ∧ cd ≤ 2 ∧ (cd = 0 → b = r') ∧ RelP P R B C' M' := fun r => ⟨0, r, r, C1, M1, rfl, rfl, mz, by omega, fun _ => rfl, hR2⟩
      by_cases w0 : w = 0
      · rw [if_pos w0, if_pos w0]; exact fin _
      · rw [if_neg w0, if_neg w0]
        by_cases w1 : w = 1
        · rw [if_pos w1, if_pos w1]; exact fin _
        · rw [if_neg w1, if_neg w1]
          by_cases w2 : w = 2
          · rw [if_pos w2, if_pos w2]; exact fin _
          · rw [if_neg w2, if_neg w2]
            by_cases w3 : w = 3
            · rw [if_pos w3, if_pos w3]; exact fin _
            · rw [if_neg w3, if_neg w3]
              by_cases w4 : w = 4
              · rw [if_pos w4, if_pos w4, cweight_e hR1.mb hR1.cr hF.2 hl hok e1, mweight_e hN hR2.mb hC.2 hl e1 hok, q_bd, q_bd]
                have : wtf M1 (Lg L f) = wtf M (Lg L f) := by unfold wtf; rw [mf.2 8 _ (by unfold Pt; omega)]
                rw [this]
                exact fin _
              · rw [if_neg w4, if_neg w4]
                by_cases w5 : w = 5
                · rw [if_pos w5, if_pos w5, cwarn_e hR1.mb hR1.cr hF.2 hl hok e1, q_bd, q_ck (by omega) (by omega), q_tn (by omega), mf.2 9 _ (by unfold Pt; omega)]
                  unfold Wnf
                  obtain ⟨-, -, -, -, -, ww, -⟩ := h.mb.2.2.2.2.2.2.1 (Lg L f).1 hxb
                  rcases ww with ww | ww
                  · rw [ww]; exact fin _
                  · rw [ww]; exact fin _
                · rw [if_neg w5, if_neg w5]
                  by_cases w6 : w = 6
                  · rw [if_pos w6, if_pos w6, clauseSize_e hN hR2.mn hx, q_bd, clM_pt mf]
                    obtain ⟨l, h26⟩ := hR1.2.2.2.2.2.2.2.2.2
                    obtain ⟨⟨v, C2⟩, x1, x2, x3, x4, x5⟩ := cl_e hN hR1.mn hS1 hR1.2.2.2.2.1.1 h26 hl hok e1
                    have x2' : v = nI (clM M (P + R) (Lg L f)).length := x2
                    rw [x1, q_bd2, x2']
                    have hG2 : RG P R (memM M1) C2 := by
                      have : memM M1 = memM M := memM_go (funext fun k => mf.2 _ _ (by unfold Pt; omega))
                      rw [this]; exact x4
                    exact ⟨0, _, _, C2, M1, rfl, rfl, mz, by omega, fun _ => rfl, hR2.grp x3 hG2 x5⟩
                  · rw [if_neg w6, if_neg w6]
                    have hm4 : memM M1 = memM M := memM_go (funext fun k => mf.2 _ _ (by unfold Pt; omega))
                    obtain ⟨l, h26⟩ := hR1.2.2.2.2.2.2.2.2.2
                    obtain ⟨y1, y2⟩ := hR2.2.2.2.2.1.2.2 _ hx.2.2.2.1 hx.2.2.2.2
                    rw [hm4] at y1 y2
                    by_cases w7 : w = 7
                    · obtain ⟨C2, x1, x2, x3⟩ := namesOf_e hN hR1.mn.2.2.2.2.2.2.2.1 hR1.2.2.2.2.1.1 hx.2.2.2.1 hx.2.2.2.2
                      rw [if_pos w7, if_pos w7, x1, q_bd2, q_ck (by omega) (by omega), q_tn (by omega), y1]
                      refine ⟨0, _, _, C2, M1, rfl, rfl, mz, by omega, fun _ => rfl, hR2.grp (x2.mo (fun r k w => Or.inl w)) (by rw [hm4]; exact x3) ⟨l, h26.go (x2.2 _ _ (by unfold P7; omega)) (x2.2 _ _ (by unfold P7; omega)) (funext fun k => x2.2 _ _ (by unfold P7; omega))⟩⟩
                    · rw [if_neg w7, if_neg w7]
                      by_cases w8 : w = 8
                      · obtain ⟨C2, x1, x2, x3⟩ := takenOut_e hN hR1.mn.2.2.2.2.2.2.2.1 hR1.2.2.2.2.1.1 hx.2.2.2.1 hx.2.2.2.2
                        rw [if_pos w8, if_pos w8, x1, q_bd2, q_ck (by omega) (by omega), q_tn (by omega), y2]
                        refine ⟨0, _, _, C2, M1, rfl, rfl, mz, by omega, fun _ => rfl, hR2.grp (x2.mo (fun r k w => Or.inl w)) (by rw [hm4]; exact x3) ⟨l, h26.go (x2.2 _ _ (by unfold P7; omega)) (x2.2 _ _ (by unfold P7; omega)) (funext fun k => x2.2 _ _ (by unfold P7; omega))⟩⟩
                      · rw [if_neg w8, if_neg w8]
                        exact ⟨2, 0, 0, C1, _, rfl, rfl, q_gS _ _ _ _, by omega, fun w => by omega, hR2.m2 2⟩
    · simp only [if_neg (show ¬ nI f < nI L.length by rw [q_lt (by omega) (by omega)]; exact e1)]
      exact ⟨1, 0, 0, C1, _, rfl, rfl, q_gS _ _ _ _, by omega, fun w => by omega, bad⟩
theorem R_count {w : Int32} (hN : 6000 ≤ N) (h : RelP P R B C M) : ∃ r C' M', f_X10_count N w C = some (r, C') ∧ f_X11_count N w M = some (r, M') ∧ RelP P R B C' M' ∧ ph C ≤ ph C' := by
  have h0 := h
  obtain ⟨C1, c1, hR1, c12, hF⟩ := know_l hN h
  obtain ⟨M1, m1, hR2, mf, hC, mz⟩ := mknow_l hN hR1
  have hl : (FBn (Sf (inn M) P) B).length ≤ 432 := (FL_le h.mb).2
  have hok := FB_ok (I := inn M) (P := P) (B := B) B (Nat.le_refl _)
  have hB24 := h.mb.2.2.2.2.2.1
  generalize hL : FBn (Sf (inn M) P) B = L at hF hC hl hok
  obtain ⟨⟨xs, x1, x2, x3, x4, x5, x6, x7, x8⟩, x9, -⟩ := h.2.2.2.2.2.2.2
  unfold f_X10_count f_X11_count
  simp only [q_nm]
  rw [c1, q_bd, q_bd, m1, q_bd, q_bd, q_gK _ _ _ _ _ _ (by omega), q_gK _ _ _ _ _ _ (by omega), q_gK _ _ _ _ _ _ (by omega), q_gK _ _ _ _ _ _ (by omega), q_gK _ _ _ _ _ _ (by omega), h.cr.1, h.cr.2.1, h.cr.2.2.1, h.mb.1, h.mb.2.1, h.mb.2.2.1, x2, x3, x9, hF.1, hC.1]
  by_cases w0 : w = 0
  · rw [if_pos w0, if_pos w0]; exact ⟨_, C, _, rfl, rfl, h.m2 0, Nat.le_refl _⟩
  · rw [if_neg w0, if_neg w0]
    by_cases w1 : w = 1
    · rw [if_pos w1, if_pos w1]; exact ⟨_, C, _, rfl, rfl, h.m2 0, Nat.le_refl _⟩
    · rw [if_neg w1, if_neg w1]
      by_cases w2 : w = 2
      · rw [if_pos w2, if_pos w2]; exact ⟨_, C, _, rfl, rfl, h.m2 0, Nat.le_refl _⟩
      · rw [if_neg w2, if_neg w2]
        by_cases w3 : w = 3
        · rw [if_pos w3, if_pos w3]; exact ⟨_, C1, M1, rfl, rfl, hR2, mo_X10_knowFindings c1⟩
        · rw [if_neg w3, if_neg w3]
          by_cases w4 : w = 4
          · rw [if_pos w4, if_pos w4, q_jp]
            have hc : ∀ d N' f, d < N' → f + d = L.length → lp (fun _ _ => none) (b_X10_warningsFound_4 N C1) N' (nI (wl (Wnf M L) f).length) (nI f) = some (nI (wl (Wnf M L) L.length).length) := by
              intro d
              induction d with
              | zero =>
                intro N' f hN' hf
                obtain ⟨N', rfl⟩ : ∃ j, N' = j + 1 := ⟨N' - 1, by omega⟩
                have : f = L.length := by omega
                subst this
                rw [q_lp]
                unfold b_X10_warningsFound_4
                rw [hF.1, if_pos (by rw [q_le (by omega) (by omega)]; omega)]
              | succ d ih =>
                intro N' f hN' hf
                obtain ⟨N', rfl⟩ : ∃ j, N' = j + 1 := ⟨N' - 1, by omega⟩
                have ih' := ih N' (f + 1) (by omega) (by omega)
                rw [q_lp]
                generalize lp (fun _ _ => none) (b_X10_warningsFound_4 N C1) N' = K at ih' ⊢
                unfold b_X10_warningsFound_4 j_X10_warningsFound_26
                rw [hF.1, if_neg (by rw [q_le (by omega) (by omega)]; omega), cwarn_e hR1.mb hR1.cr hF.2 hl hok (show f < L.length by omega), q_bd, q_jp]
                simp only [q_nm]
                rw [← nI_succ, ← nI_succ]
                rw [wl, List.length_append] at ih'
                by_cases e : Wnf M L f = true
                · rw [if_pos e] at ih' ⊢
                  rw [if_neg (show ¬ (1 : Int32) = 0 by decide)]
                  exact ih'
                · rw [if_neg e] at ih' ⊢
                  rw [if_pos (show (0 : Int32) = 0 from rfl)]
                  exact ih'
            have hm : ∀ d N' f, d < N' → f + d = L.length → lp (fun _ _ => none) (b_X11_count_82 M1) N' (nI (wl (Wnf M L) f).length) (nI f) = some (nI (wl (Wnf M L) L.length).length, M1) := by
              intro d
              induction d with
              | zero =>
                intro N' f hN' hf
                obtain ⟨N', rfl⟩ : ∃ j, N' = j + 1 := ⟨N' - 1, by omega⟩
                have : f = L.length := by omega
                subst this
                rw [q_lp]
                unfold b_X11_count_82
                rw [hC.1, if_pos (by rw [q_le (by omega) (by omega)]; omega)]
              | succ d ih =>
                intro N' f hN' hf
                obtain ⟨N', rfl⟩ : ∃ j, N' = j + 1 := ⟨N' - 1, by omega⟩
                have ih' := ih N' (f + 1) (by omega) (by omega)
                rw [q_lp]
                generalize lp (fun _ _ => none) (b_X11_count_82 M1) N' = K at ih' ⊢
                have e1 : f < L.length := by omega
                have hx := hok _ (Lg_mem e1)
                have hxb := hx.1
                unfold b_X11_count_82 j_X11_count_110
                rw [hC.1, if_neg (by rw [q_le (by omega) (by omega)]; omega), q_ck (by omega) (by omega), q_tn (by omega), (hC.2 f _ (Lg_at e1)).1, q_ck (by omega) (by omega), q_tn (by omega), mf.2 9 _ (by unfold Pt; omega), q_jp]
                simp only [q_nm]
                rw [← nI_succ f]
                rw [wl, List.length_append] at ih'
                unfold Wnf at ih' ⊢
                obtain ⟨-, -, -, -, -, ww, -⟩ := h0.mb.2.2.2.2.2.2.1 (Lg L f).1 hxb
                rcases ww with ww | ww
                · rw [ww, if_pos (show (0 : Int32) = 0 from rfl), Int32.add_zero]
                  rw [ww] at ih'
                  exact ih'
                · rw [ww, if_neg (show ¬ (1 : Int32) = 0 by decide), ← nI_succ]
                  rw [ww] at ih'
                  exact ih'
            have hc' : f_X10_warningsFound N C1 = some (nI (wl (Wnf M L) L.length).length) := hc L.length N 0 (by omega) (by omega)
            have hm' : lp (fun _ _ => none) (b_X11_count_82 M1) N 0 0 = some (nI (wl (Wnf M L) L.length).length, M1) := hm L.length N 0 (by omega) (by omega)
            rw [hc', hm', q_bd]
            exact ⟨_, C1, M1, rfl, rfl, hR2, mo_X10_knowFindings c1⟩
          · rw [if_neg w4, if_neg w4]
            by_cases w5 : w = 5
            · rw [if_pos w5, if_pos w5]; exact ⟨_, C, _, rfl, rfl, h.m2 0, Nat.le_refl _⟩
            · rw [if_neg w5, if_neg w5]
              by_cases w6 : w = 6
              · rw [if_pos w6, if_pos w6]; exact ⟨_, C, _, rfl, rfl, h.m2 0, Nat.le_refl _⟩
              · rw [if_neg w6, if_neg w6]; exact ⟨_, C, _, rfl, rfl, h.m2 0, Nat.le_refl _⟩
theorem R_tell {x : Int32} (hN : 6000 ≤ N) (h : RelP P R B C M) : ∃ r C' M', f_X10_tell N x C = some (r, C') ∧ f_X11_tell N x M = some (r, M') ∧ RelP P R B C' M' := by
  by_cases e0 : x < 0
  · unfold f_X10_tell f_X11_tell
    rw [q_nm, if_pos e0, if_pos e0]
    exact ⟨_, C, _, rfl, rfl, h.m2 0⟩
  · obtain ⟨room, hr1, rfl⟩ := q_of e0
    have c400 : (nI room ≤ 400) = (room ≤ 400) := q_le (b := 400) (by omega) (by omega)
    by_cases e1 : room ≤ 400
    · obtain ⟨C1, c1, hR1, c12, hF⟩ := know_l hN h
      have hl : (FBn (Sf (inn M) P) B).length ≤ 432 := (FL_le h.mb).2
      have hok := FB_ok (I := inn M) (P := P) (B := B) B (Nat.le_refl _)
      obtain ⟨⟨rm, M'⟩, m1, om, mo, m2, m3, m4, m5, m6⟩ := mtell_e hN h.mb h.mn e1 _ rfl
      obtain ⟨⟨xs, -, -, -, -, -, -, h24, -⟩, -, l, h26⟩ := hR1.2.2.2.2.2.2.2
      obtain ⟨⟨rc, C'⟩, t1, oc, co, t2, t3, t4, t5, t6, t7⟩ := ctell_e hN h.mb h.mn e1 rfl (hR1.cs hF) hR1.2.2.2.2.1.1 h24 h26
      generalize hL : FBn (Sf (inn M) P) B = L at hF hl hok mo m3 m6 co t3 t5 t7
      have hoo : oc = om := sort_uniq _ _ co.1 mo.1 (fun y => by rw [co.2 y, mo.2 y])
      subst hoo
      have t7' : rc = _ := t7
      have m6' : rm = _ := m6
      have hct : f_X10_tell N (nI room) C = some (rc, C') := by
        unfold f_X10_tell
        rw [if_neg e0, if_pos (show nI room ≤ 400 by rw [c400]; exact e1), c1, q_bd]
        exact t1
      rw [hct, m1, t7', m6']
      refine ⟨_, C', M', rfl, rfl, hR1.upd ?_ t2.1 (m2.mo (fun r k w => by unfold Pt at w; unfold FMf; omega)) t4 ?_ ?_⟩
      · intro r k a c
        exact t2.2 r k (fun w => by unfold PQc at w; unfold FCf at a; unfold X2 at c; omega)
      · refine hR1.2.2.2.2.2.2.1.go h.mb (mSame.of m2 (fun r k a => by unfold Pt; omega)) (fun k _ => m2.2 _ _ (by unfold Pt; omega)) (t2.2 _ _ (by unfold PQc; omega)) (t2.2 _ _ (by unfold PQc; omega)) (fun r k a => t2.2 _ _ (by unfold PQc; omega))
      · have hs : mSame M M' := mSame.of m2 (fun r k a => by unfold Pt; omega)
        have hCW : ∀ y ∈ CHf (Zf M (P + R) L) (Wf M L) (Wnf M L) L.length room, y < L.length ∧ Wnf M L y = false := by
          intro y hy
          unfold CHf at hy
          split at hy
          · cases hy
          · obtain ⟨z, z1, z2⟩ := chs_mem _ _ y hy
            rw [← z2]
            have := its_mem (Nat.le_refl _) z z1
            exact ⟨this.2.1, this.2.2.2.2⟩
        have hmem : ∀ i ∈ wl (Wnf M L) L.length ++ oc, i < L.length := by
          intro i hi
          rw [List.mem_append] at hi
          rcases hi with w | w
          · exact (wl_mem.mp w).1
          · exact (hCW i ((co.2 i).mp w)).1
        have hnd : (wl (Wnf M L) L.length ++ oc).Nodup := by
          rw [List.nodup_append]
          refine ⟨wl_nodup _, pw_nodup co.1, ?_⟩
          intro a ha b hb e
          rw [wl_mem] at ha
          have := (hCW b ((co.2 b).mp hb)).2
          rw [e, this] at ha
          exact absurd ha.2 (by decide)
        have hlen := nodup_len hnd hmem
        have hokx : ∀ y ∈ (wl (Wnf M L) L.length ++ oc).map (Lg L), okF P B y := by
          intro y hy
          rw [List.mem_map] at hy
          obtain ⟨i, hi, rfl⟩ := hy
          exact hok _ (Lg_mem (hmem i hi))
        refine ⟨⟨(wl (Wnf M L) L.length ++ oc).map (Lg L), by rw [List.length_map]; omega, by rw [List.length_map]; exact t3.1, by rw [List.length_map]; exact m3.1, ?_, m3.2.2.2, hokx, ?_, ?_⟩, ?_, t6⟩
        · intro k hk
          rw [List.length_map] at hk
          have hki := List.getElem?_eq_getElem hk
          exact (t3.2.2 k _ hki).trans (m3.2.2.1 k _ hki).symm
        · rw [TXT_sm h.mn hs hokx _ (Nat.le_refl _), List.length_map]
          exact t5
        · intro w
          have m4' : M'.1 0 37 = 1 := m4
          rw [m4'] at w
          exact absurd w (by decide)
        · exact t3.2.1.trans m3.2.1.symm
    · unfold f_X10_tell f_X11_tell
      rw [q_nm, if_neg e0, if_neg e0, if_neg (show ¬ nI room ≤ 400 by rw [c400]; exact e1), if_neg (show ¬ nI room ≤ 400 by rw [c400]; exact e1)]
      exact ⟨_, C, _, rfl, rfl, h.m2 0⟩
end C3
