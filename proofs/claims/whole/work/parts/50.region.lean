/-! pure part: a line of a region -/
theorem addRegion_e {N R : Nat} {w : Int64} {v : Int32} {C : St} (h : C.1 38 10 = nI R) (hR : R < 5) : f_X4_addRegion N 38 w v C = some (puI (puI (puL C 40 R w) 41 R v) 38 10 (nI (R + 1))) := by
  unfold f_X4_addRegion
  rw [h, if_neg (show ¬ (5 : Int32) ≤ nI R from nI_ge (b := 5) hR (by omega)), q_ck (by omega) (by omega), q_tn (by omega)]
  simp only [q_nm, q_L1]
  rw [h, q_ck (by omega) (by omega), q_tn (by omega)]
  have e1 : (puI (puL C 40 R w) 41 R v).1 38 10 = nI R := by simp (disch := omega) only [q_nm, q_jp, q_bd, q_bd2, q_zb0, q_zb1, q_zbn0, q_zbn1, q_z10, q_z11, q_z1n0, q_z1n1, q_lit, q_add, q_mul, q_lt, q_le, q_eq, q_tn, q_ck, q_nm1, q_n1e, q_gS, q_gR, q_gK, q_g2, if_true, if_false, q_L1, h]
  rw [e1, nI_succ]
theorem region_fin {N : Nat} {b : Nat → Nat} {n p p0 P R B m : Nat} {w : Int64} {C M : St} (hN : 6000 ≤ N) (hb : ∀ k, k < 1000 → b k < 256) (hp : p0 ≤ p) (hZ : Zc b n p C) (hM : mB b n M) (hT : TkS b n (sk b n p) M) (hr : Zr P R B C M) (hR : R < 5)
    (hW : WN (M.1 3) (M.1 2) (18 + R) w) (hw1 : ∀ i, i < P → C.2 39 i ≠ w) (h4 : M.1 4 (18 + R) = nI m) (hm0 : 0 < m) (hm : m < 2 ^ P) :
    ok (j_X5_readRegion_89 N w (nI m) C) fun C' => ok (j_X11_line_68 N 1 (puI M 0 30 (nI (R + 1)))) fun r => LO b n p0 C M C' r.2 r.1 := by
  have hn := hM.2.2.1
  generalize hM4 : puI M 0 30 (nI (R + 1)) = M4
  have m4 : ∀ r k, ¬ (r = 0 ∧ k = 30) → M4.1 r k = M.1 r k := by
    intro r k a
    rw [← hM4, q_g, if_neg a]
  have m430 : M4.1 0 30 = nI (R + 1) := by rw [← hM4, q_gS]
  have hPY : fr PY M M4 := by rw [← hM4]; exact fr.rf.pu (by unfold PY; omega)
  have hB4 : mB b n M4 := ⟨fun k hk => by rw [m4 1 k (by omega)]; exact hM.1 k hk, by rw [m4 0 22 (by omega)]; exact hM.2.1, hn, fun k hk => by rw [m4 15 k (by omega)]; exact hM.2.2.2 k hk⟩
  have hT4 : TkS b n (sk b n p) M4 := by
    unfold TkS
    rw [m4 0 26 (by omega), m4 0 24 (by omega), m4 0 25 (by omega), m4 0 23 (by omega), m4 0 27 (by omega)]
    exact hT
  unfold j_X5_readRegion_89 j_X11_line_68
  rw [if_neg (show ¬ (1 : Int32) = 0 by decide)]
  have hneed := need_l (c := 59) hN (by omega) hb hZ hB4 hT4
  have h59 : f_X11_need N 59 M4 = f_X11_need N (nI 59) M4 := rfl
  have h59' : f_X5_readSign N 59 C = f_X5_readSign N (nI 59) C := rfl
  rw [h59, h59']
  by_cases hs : sk b n p < n ∧ b (sk b n p) = 59
  · obtain ⟨s1, s2⟩ := hneed.1 hs
    obtain ⟨⟨v5, M5⟩, hM5, hv5, hT5, hf5⟩ := s2
    have hv5' : v5 = 1 := hv5
    subst hv5'
    rw [s1, q_bd, hM5, q_bd2, if_neg (show ¬ (1 : Int32) = 0 by decide)]
    have hC3 : (cat C (sk b n p + 1)).1 3 5 = 0 := by rw [cat_o _ _ _ _ (by omega)]; exact hZ.2.2.2
    have hC10 : (cat C (sk b n p + 1)).1 38 10 = nI R := by rw [cat_o _ _ _ _ (by omega)]; exact hr.1.2.1
    rw [if_pos hC3, addRegion_e hC10 hR, q_bd]
    have hge := sk_ge b n p
    have hfa2 := fa_cat hZ.1 (q := sk b n p + 1) (by omega)
    have hZ3 : Zc b n (sk b n p + 1) (cat C (sk b n p + 1)) := hZ.go hfa2.1 (hZ.1.cat (by omega))
    generalize hC4 : cat C (sk b n p + 1) = C4 at hC3 hC10 hfa2 hZ3
    apply ok_s
    apply ok_s
    have hfr5 : ∀ r k, ¬ (r = 0 ∧ k = 30) → ¬ PT r k → M5.1 r k = M.1 r k := by
      intro r k a2 a3
      rw [hf5.2 r k a3, m4 r k a2]
    have c1 : ∀ r k, ¬ (r = 38 ∧ k = 10) → ¬ (r = 41 ∧ k = R) → (puI (puI (puL C4 40 R w) 41 R (nI m)) 38 10 (nI (R + 1))).1 r k = C4.1 r k := by
      intro r k a a'
      rw [q_g, if_neg a, q_g, if_neg a', q_L1]
    have c2 : ∀ r k, ¬ (r = 40 ∧ k = R) → (puI (puI (puL C4 40 R w) 41 R (nI m)) 38 10 (nI (R + 1))).2 r k = C4.2 r k := by
      intro r k a
      rw [q_g2, q_g2, q_L, if_neg a]
    have cf : fr PF C C4 := hfa2.1
    refine LO_ok ?_ (hPY.tr (hf5.mo PT_PY)) ⟨sk b n p + 1, P, R + 1, B, by omega, ?_, ?_, hT5⟩
    · exact (((cf).K.pl (by omega)).pu (by unfold PK; omega)).pu (by unfold PK; omega)
    · obtain ⟨⟨a1, a2, a3, a4⟩, a5, a6, a7⟩ := hZ3
      refine ⟨⟨by rw [c1 1 2 (by omega) (by omega)]; exact a1, by rw [c1 1 3 (by omega) (by omega)]; exact a2, a3, a4⟩, ?_, ?_, by rw [c1 3 5 (by omega) (by omega)]; exact a7⟩
      · rw [← a5]
        funext k
        unfold cb
        rw [c1 2 k (by omega) (by omega)]
      · unfold KW
        rw [c2 3 0 (by omega), c2 3 1 (by omega), c2 3 2 (by omega), c2 3 3 (by omega), c2 3 4 (by omega)]
        exact a6
    · have hC4f : ∀ r k, 38 ≤ r → C4.1 r k = C.1 r k := fun r k hr => cf.2 r k (by unfold PF; omega)
      obtain ⟨⟨a1, a2, a3, a4, a5, a6, a7⟩, a8, a9, a10, a11⟩ := hr
      have c42 : C4.2 = C.2 := cf.1
      refine ⟨⟨?_, by rw [q_gS], a3, by omega, ?_, ?_, ?_⟩, ?_, ?_, ?_, ?_⟩
      · rw [c1 38 9 (by omega) (by omega), hC4f 38 9 (by omega)]; exact a1
      · intro i hi
        rw [c2 39 i (by omega), c42]
        obtain ⟨b1, b2⟩ := a5 i (by omega)
        refine ⟨b1.cg (hfr5 3 _ (by omega) (by unfold PT; omega)) (fun k hk => hfr5 2 _ (by omega) (by unfold PT; omega)), ?_⟩
        rw [hfr5 4 _ (by omega) (by unfold PT; omega)]; exact b2
      · intro i hi
        by_cases hiR : i = R
        · subst hiR
          rw [q_g2, q_g2, q_L, if_pos ⟨rfl, rfl⟩]
          refine ⟨hW.cg (hfr5 3 _ (by omega) (by unfold PT; omega)) (fun k hk => hfr5 2 _ (by omega) (by unfold PT; omega)), m, hm0, hm, ?_, ?_⟩
          · rw [q_gR _ _ _ _ _ _ (by omega), q_gS]
          · rw [hfr5 4 _ (by omega) (by unfold PT; omega)]; exact h4
        · obtain ⟨b1, m', b2, b3, b4, b5⟩ := a6 i (by omega)
          rw [c2 40 i (by omega), c42]
          refine ⟨b1.cg (hfr5 3 _ (by omega) (by unfold PT; omega)) (fun k hk => hfr5 2 _ (by omega) (by unfold PT; omega)), m', b2, b3, ?_, ?_⟩
          · rw [c1 41 i (by omega) (by omega), ← b4, hC4f 41 i (by omega)]
          · rw [hfr5 4 _ (by omega) (by unfold PT; omega)]; exact b5
      · intro i j hi hj
        rw [c2 39 i (by omega), c42]
        by_cases hjR : j = R
        · subst hjR
          rw [q_g2, q_g2, q_L, if_pos ⟨rfl, rfl⟩]
          exact hw1 i hi
        · rw [c2 40 j (by omega), c42]
          exact a7 i j hi (by omega)
      · refine a8.go ?_ ?_ ?_ ?_ ?_
        · rw [c1 38 11 (by omega) (by omega), hC4f 38 11 (by omega)]
        · intro i hi
          rw [c2 _ _ (by omega), c42]
        · intro r i r1 r2 hi
          rw [c1 _ _ (by omega) (by omega), hC4f _ _ (by omega)]
        · intro r i r1 hi
          exact hfr5 _ _ (by omega) (by unfold PT; omega)
        · intro i k hi hk
          exact hfr5 _ _ (by omega) (by unfold PT; omega)
      · rw [hfr5 0 29 (by omega) (by unfold PT; omega)]; exact a9
      · rw [hf5.2 0 30 (by unfold PT; omega)]; exact m430
      · rw [hfr5 0 31 (by omega) (by unfold PT; omega)]; exact a11
  · obtain ⟨s1, s2⟩ := hneed.2 hs
    rw [s1, q_bd, s2, q_bd2, if_pos (show (0 : Int32) = 0 from rfl)]
    have hle := sk_le (b := b) hZ.1.2.2.1
    have hfa2 := fa_cat hZ.1 (q := sk b n p) hle
    have h0 := hZ.z0 hfa2
    rw [if_neg (by rw [(failS_is h0 (by decide)).1]; decide)]
    apply ok_s
    apply ok_s
    exact LO_bad (by decide) h0 ((hfa2.1).K) ⟨fr.rf, sk b n p, failS_tp (hZ.1.cat hle)⟩ hPY
/-- moving the beginning of what was read -/
theorem LO.mv {b : Nat → Nat} {n p : Nat} {C M C1 M1 C' M' : St} {r : Int32} (h : LO b n p C1 M1 C' M' r) (hC : frK C C1) (hM : fr PY M M1) : LO b n p C M C' M' r := ⟨hC.w.tr h.1, (hM.mo PY_PYw).tr h.2.1, h.2.2.imp (fun w => ⟨w.1, w.2.1, hC.tr w.2.2.1, hM.tr w.2.2.2⟩) (fun w => w)⟩
theorem q_or64 {a c : Nat} (ha : a < 64) (hc : c < 64) : a ||| c < 64 := Nat.or_lt_two_pow (n := 6) ha hc
theorem q_orpos {a c : Nat} (hc : 0 < c) : 0 < a ||| c := by
  have := Nat.right_le_or (n := a) (m := c)
  omega
theorem region_loop {N : Nat} {b : Nat → Nat} {n p0 P R B : Nat} {w : Int64} (hN : 6000 ≤ N) (hb : ∀ k, k < 1000 → b k < 256) (hR : R < 5) :
    ∀ d p i m N1 N2 (C M : St), n - p < d → d < N1 → d < N2 → i < p → p0 ≤ p → Zc b n p C → mB b n M → TkS b n (sk b n p) M → Zr P R B C M → WN (M.1 3) (M.1 2) (18 + R) w → (∀ i, i < P → C.2 39 i ≠ w) → M.1 4 (18 + R) = nI m → m < 2 ^ P →
    ok (lp (fun _ _ _ _ => none) (b_X5_readRegion_38 N (j_X5_readRegion_89 N w)) N1 (nI m) 1 (nI i) C) fun C' => ok (bd2 (zb (lp (fun _ _ => none) (b_X11_regionLine_58 N (nI (18 + R)) (j_X11_regionLine_69 N) (j_X11_regionLine_96 N) j_X11_regionLine_159) N2 1 M)) (j_X11_line_68 N)) fun r => LO b n p0 C M C' r.2 r.1 := by
  intro d
  induction d with
  | zero => intro p i m N1 N2 C M h; omega
  | succ d ih =>
    intro p i m N1 N2 C M hd hN1 hN2 hip hp0 hZ hM hT hr hW hw1 h4 hm
    have hn := hM.2.2.1
    have hpn := hZ.1.2.2.1
    obtain ⟨N1, rfl⟩ : ∃ k, N1 = k + 1 := ⟨N1 - 1, by omega⟩
    obtain ⟨N2, rfl⟩ : ∃ k, N2 = k + 1 := ⟨N2 - 1, by omega⟩
    rw [q_lp, q_lp]
    have ih' := fun p' i' m' C' M' => ih p' i' m' N1 N2 C' M'
    have ihf : ∀ v m' i' (C : St), FdX n C → ok (lp (fun _ _ _ _ => none) (b_X5_readRegion_38 N (j_X5_readRegion_89 N w)) N1 v m' (nI i') C) fun C' => FA n C C' := by
      intro v m' i' C hF
      obtain ⟨N1', rfl⟩ : ∃ k, N1 = k + 1 := ⟨N1 - 1, by omega⟩
      rw [q_lp]
      exact regionLoop_fa hN hF
    have ih0 : ∀ v i' (C : St), lp (fun _ _ _ _ => none) (b_X5_readRegion_38 N (j_X5_readRegion_89 N w)) N1 v 0 (nI i') C = j_X5_readRegion_89 N w v C := by
      intro v i' C
      obtain ⟨N1', rfl⟩ : ∃ k, N1 = k + 1 := ⟨N1 - 1, by omega⟩
      rw [q_lp]
      unfold b_X5_readRegion_38
      split
      · rfl
      · rfl
    have ihm0 : ∀ (M : St), lp (fun _ _ => none) (b_X11_regionLine_58 N (nI (18 + R)) (j_X11_regionLine_69 N) (j_X11_regionLine_96 N) j_X11_regionLine_159) N2 0 M = j_X11_regionLine_159 M := by
      intro M
      obtain ⟨N2', rfl⟩ : ∃ k, N2 = k + 1 := ⟨N2 - 1, by omega⟩
      rw [q_lp]
      rfl
    generalize lp (fun _ _ _ _ => none) (b_X5_readRegion_38 N (j_X5_readRegion_89 N w)) N1 = KC at ih' ihf ih0 ⊢
    generalize lp (fun _ _ => none) (b_X11_regionLine_58 N (nI (18 + R)) (j_X11_regionLine_69 N) (j_X11_regionLine_96 N) j_X11_regionLine_159) N2 = KM at ih' ihm0 ⊢
    unfold b_X5_readRegion_38 b_X11_regionLine_58
    rw [if_neg (show ¬ (1000 : Int32) ≤ nI i from nI_ge (b := 1000) (by omega) (by omega)), if_neg (show ¬ (1 : Int32) = 0 by decide), if_pos hZ.2.2.2, if_neg (show ¬ (1 : Int32) = 0 by decide)]
    rcases told_l hN hZ hM hT hr with ⟨idx, m', e, g1, g2, g3, g4, g5, g6, g7, g8, g9, g10⟩ | ⟨k, v, e, g1, g2, g3, g4⟩
    · -- a told name
      have hqn := sk_le (b := b) hpn
      have hqge := sk_ge b n p
      have hfa1 : FA n C (fwS C (sk b n p) e) := fa_fw hZ.1 hqn g2
      have hZ1 : Zc b n e (fwS C (sk b n p) e) := hZ.go hfa1.1 (fwS_tp hZ.1 hqn g2)
      rw [g3, q_bd2, q_nm, q_or, skip10 hN hZ1.1, q_bd, hZ1.2.1, g4, q_bd, if_neg (show ¬ (1 : Int32) = 0 by decide), g5, q_bd, if_pos (nI_pos' (by omega)), q_ck (by omega) (by omega), q_ck (by omega) (by omega), q_ck (by omega) (by omega), q_tn (by omega), q_tn (by omega), h4, g7, q_or, q_nm]
      have hm2 : m ||| m' < 2 ^ P := Nat.or_lt_two_pow hm g9
      have hm3 : 0 < m ||| m' := q_orpos g8
      have hqe := sk_le (b := b) g2
      have hqge2 := sk_ge b n e
      have hfa2 : FA n (fwS C (sk b n p) e) (cat (fwS C (sk b n p) e) (sk b n e)) := fa_cat hZ1.1 hqe
      have hZ2 : Zc b n (sk b n e) (cat (fwS C (sk b n p) e) (sk b n e)) := hZ1.go hfa2.1 (hZ1.1.cat hqe)
      have hcf := hfa1.tr hfa2
      generalize hC2 : cat (fwS C (sk b n p) e) (sk b n e) = C2 at hfa2 hZ2 hcf ⊢
      -- the reference's members
      have hfM1 : fr (PX (18 + R) 1000) M (puI M 4 (18 + R) (nI (m ||| m'))) := fr.rf.pu (by unfold PX; omega)
      have hB1 := hM.px hfM1
      obtain ⟨M2, hM2, hT2, hf2⟩ := mtake hN hB1 (p := e) g2 (by simp (disch := omega) only [q_nm, q_jp, q_bd, q_bd2, q_zb0, q_zb1, q_zbn0, q_zbn1, q_z10, q_z11, q_z1n0, q_z1n1, q_lit, q_add, q_mul, q_lt, q_le, q_eq, q_tn, q_ck, q_nm1, q_n1e, q_gS, q_gR, q_gK, q_g2, if_true, if_false, g10])
      rw [hM2, q_bd, q_jp, q_jp]
      have hT2' : TkS b n (sk b n e) M2 := hT2
      have hfM2 : fr (PX (18 + R) 1000) M M2 := hfM1.tr (hf2.mo PT_PX)
      have hB2 := hM.px hfM2
      have hr2 : Zr P R B C2 M2 := hr.go (at_ := 18 + R) (bt := 1000) hcf.1 hfM2 (fun i hi => by have := hr.1.2.2.1; omega) (fun i hi => by omega) (fun i hi => by have := hr.2.1.2.1; omega)
      have hW2 : WN (M2.1 3) (M2.1 2) (18 + R) w := hW.cg (by rw [hf2.2 3 _ (by unfold PT; omega), q_gR _ _ _ _ _ _ (by omega)]) (fun k hk => by rw [hf2.2 2 _ (by unfold PT; omega), q_gR _ _ _ _ _ _ (by omega)])
      have h42 : M2.1 4 (18 + R) = nI (m ||| m') := by rw [hf2.2 4 _ (by unfold PT; omega), q_gS]
      have hw2 : ∀ i, i < P → C2.2 39 i ≠ w := by rw [hcf.1.1]; exact hw1
      have hK2 : frK C C2 := (hcf.1).K
      have hPY2 : fr PY M M2 := hfM2.mo (PX_PY (by omega) (by omega))
      have t := hT2'
      obtain ⟨t0, t26, t24, t25, t23, t27⟩ := t
      have hk := tkK_le b n (sk b n e)
      have k3 : (nI (tkK b n (sk b n e)) = 3) = (tkK b n (sk b n e) = 3) := q_eq (b := 3) (by omega) (by omega)
      have ht44 : f_X8_take N 44 C2 = some (if sk b n e < n ∧ b (sk b n e) = 44 then (1, cat C2 (sk b n e + 1)) else (0, C2)) := by
        have := take_e (N := N) (c := 44) (by omega) hZ2.1
        rw [hZ2.2.1] at this
        exact this
      rw [ht44]
      by_cases hs : sk b n e < n ∧ b (sk b n e) = 44
      · obtain ⟨e1, e2, e3⟩ := tk_sign (c := 44) (by omega) hs.1 hs.2
        rw [if_pos hs, q_bd2, q_nm, ← nI_succ, t24, if_pos (k3 ▸ e1), t25 hs.1, e2, if_pos (show nI 44 = 44 from rfl)]
        unfold j_X11_regionLine_147 j_X11_regionLine_156
        rw [q_jp, if_neg (show ¬ (1 : Int32) = 0 by decide)]
        obtain ⟨M3, hM3, hT3, hf3⟩ := mtake hN hB2 (p := sk b n e + 1) (by omega) (by rw [t23, e3])
        rw [hM3, q_bd]
        have hfa3 := fa_cat hZ2.1 (q := sk b n e + 1) (by omega)
        have hr3 : Zr P R B (cat C2 (sk b n e + 1)) M3 := hr2.go (at_ := 1000) (bt := 1000) hfa3.1 (hf3.mo PT_PX) (fun i hi => by have := hr.1.2.2.1; omega) (fun i hi => by omega) (fun i hi => by have := hr.2.1.2.1; omega)
        have hW3 : WN (M3.1 3) (M3.1 2) (18 + R) w := hW2.cg (hf3.2 3 _ (by unfold PT; omega)) (fun k hk => hf3.2 2 _ (by unfold PT; omega))
        refine ok_m (ih' (sk b n e + 1) (i + 1) (m ||| m') _ M3 (by omega) (by omega) (by omega) (by omega) (by omega) (hZ2.go hfa3.1 (hZ2.1.cat (by omega))) (hB2.pt hf3) hT3 hr3 hW3 (by rw [hfa3.1.1]; exact hw2) (by rw [hf3.2 4 _ (by unfold PT; omega)]; exact h42) hm2) ?_
        intro C' hC'
        refine ok_m hC' ?_
        intro r hr'
        exact hr'.mv (hK2.tr (hfa3.1).K) (hPY2.tr (hf3.mo PT_PY))
      · rw [if_neg hs, q_bd2, q_nm, ← nI_succ, ih0]
        have hz : (if M2.1 0 24 = 3 then if M2.1 0 25 = 44 then j_X11_regionLine_147 N KM M2 1 else j_X11_regionLine_146 (j_X11_regionLine_147 N KM M2) else j_X11_regionLine_146 (j_X11_regionLine_147 N KM M2)) = some (1, puI M2 0 30 (nI (R + 1))) := by
          have h0 : j_X11_regionLine_146 (j_X11_regionLine_147 N KM M2) = some (1, puI M2 0 30 (nI (R + 1))) := by
            unfold j_X11_regionLine_146 j_X11_regionLine_147 j_X11_regionLine_156
            rw [q_jp, if_pos rfl]
            show KM 0 M2 = _
            rw [ihm0]
            unfold j_X11_regionLine_159
            rw [hr2.2.2.2.1, q_nm, ← nI_succ]
          rw [h0, t24]
          by_cases e1 : tkK b n (sk b n e) = 3
          · obtain ⟨e2, e3⟩ := tk_sign' e1
            have hbq := hb (sk b n e) (by omega)
            rw [if_pos (k3 ▸ e1), t25 e2, e3, if_neg]
            have : ¬ nI (b (sk b n e)) = nI 44 := by rw [q_eq (by omega) (by omega)]; intro w'; exact hs ⟨e2, w'⟩
            exact this
          · rw [if_neg (fun w' => e1 (k3 ▸ w'))]
        rw [hz]
        have e1 : bd2 (zb (some (1, puI M2 0 30 (nI (R + 1))))) (j_X11_line_68 N) = j_X11_line_68 N 1 (puI M2 0 30 (nI (R + 1))) := rfl
        rw [e1]
        have hT2'' : TkS b n (sk b n (sk b n e)) M2 := by rw [sk_idem g2]; exact hT2'
        refine ok_m (region_fin (p0 := p0) hN hb (by omega) hZ2 hB2 hT2'' hr2 hR hW2 hw2 h42 hm3 hm2) ?_
        intro C' hC'
        refine ok_m hC' ?_
        intro r hr'
        exact hr'.mv hK2 hPY2
    · -- not one
      have hqn := sk_le (b := b) hpn
      have hk0 : k ≠ 0 := by rcases g1 with rfl | rfl <;> decide
      have hfa1 : FA n C (fwS C (sk b n p) e) := fa_fw hZ.1 hqn g2
      have hF := FdX_of (k := k) (pl := nI (sk b n p)) hk0 hZ hr hfa1
      obtain ⟨p1, hp1⟩ := hF.1
      have h1 := fa_cat hp1 (sk_le (b := cb (failS k (nI (sk b n p)) (fwS C (sk b n p) e))) hp1.2.2.1)
      rw [g3, q_bd2, q_nm, skip10 hN hp1, q_bd]
      have hF1 := hF.go h1
      obtain ⟨p2, hp2⟩ := hF1.1
      have ht44 := take_e (N := N) (c := 44) (by omega) hp2
      have ht44' : f_X8_take N 44 (cat (failS k (nI (sk b n p)) (fwS C (sk b n p) e)) (sk (cb (failS k (nI (sk b n p)) (fwS C (sk b n p) e))) n p1)) = _ := ht44
      rw [ht44']
      have hz : (bd (f_X11_isName N M) fun v23 => if v23 = 0 then j_X11_regionLine_69 N M else bd (f_X11_nameRead N (M.1 0 26) (M.1 0 27) M) fun v25 => if 0 ≤ v25 then ck (nI (18 + R)) 24 <| ck v25 24 <| ck (nI (18 + R)) 24 <| nm (puI M 4 (nI (18 + R)).toNatClampNeg ((M.1 4 (nI (18 + R)).toNatClampNeg) ||| (M.1 4 v25.toNatClampNeg))) fun S30 => bd (f_X11_take N S30) fun S31 => jp (j_X11_regionLine_147 N KM S31) fun k147 => jp (j_X11_regionLine_146 k147) fun k146 => if (S31.1 0 24) = 3 then if (S31.1 0 25) = 44 then k147 1 else k146 else k146 else j_X11_regionLine_96 N M) = some (0, wrongS k (nI (sk b n p)) M) := by
        rcases g4 with ⟨rfl, g5⟩ | ⟨rfl, g5, g6⟩
        · rw [g5, q_bd, if_pos rfl]
          unfold j_X11_regionLine_69
          rw [wrong_e, q_bd2, hT.2.1]
        · rw [g5, q_bd, if_neg (show ¬ (1 : Int32) = 0 by decide), g6, q_bd, if_neg (by decide)]
          unfold j_X11_regionLine_96
          rw [wrong_e, q_bd2, hT.2.1]
      rw [hz]
      have e1 : bd2 (zb (some (0, wrongS k (nI (sk b n p)) M))) (j_X11_line_68 N) = some (0, wrongS k (nI (sk b n p)) M) := rfl
      rw [e1]
      have fin : ∀ v' C3, FA n (failS k (nI (sk b n p)) (fwS C (sk b n p) e)) C3 → ∀ v'', ok (KC v' v'' (nI (i + 1)) C3) fun C' => ok (some ((0 : Int32), wrongS k (nI (sk b n p)) M)) fun r => LO b n p0 C M C' r.2 r.1 := by
        intro v' C3 h3 v''
        refine ok_m (ihf v' v'' (i + 1) C3 (hF.go h3)) ?_
        intro C4 h4'
        apply ok_s
        exact LO_bad hk0 (hZ.z0 hfa1) ((hfa1.1).K) (h3.tr h4') fr.rf
      split
      · rw [q_bd2, q_nm, ← nI_succ]
        exact fin _ _ (h1.tr (fa_cat hp2 (by omega))) _
      · rw [q_bd2, q_nm, ← nI_succ]
        exact fin _ _ h1 _
theorem region_l {N : Nat} {b : Nat → Nat} {n q0 e0 P R B : Nat} {C M : St} (hN : 6000 ≤ N) (hb : ∀ k, k < 1000 → b k < 256) (hZ : Zc b n e0 C) (hM : mB b n M) (hT : TkS b n q0 M) (hE : tkE b n q0 = e0) (he0 : 0 < e0) (hr : Zr P R B C M) :
    ok (f_X5_readRegion N (nI q0) C) fun C' => ok (bd2 (f_X11_regionLine N M) (j_X11_line_68 N)) fun r => LO b n e0 C M C' r.2 r.1 := by
  have hn := hM.2.2.1
  have hR5 := hr.1.2.2.2.1
  have hen := hZ.1.2.2.1
  obtain ⟨t0, t26, t24, t25, t23, t27⟩ := hT
  unfold f_X5_readRegion f_X11_regionLine
  rw [q_jp, hr.1.2.1, hr.2.2.2.1]
  by_cases h5 : R = 5
  · subst h5
    rw [if_neg (by decide), if_pos (by decide), fail_e, q_bd, wrong_e, q_bd2]
    have hF := FdX_of (k := 2) (pl := nI q0) (by decide) hZ hr ⟨fr.rf, _, hZ.1⟩
    refine ok_m (region14_fa hN hF) ?_
    intro C' hC'
    have e1 : bd2 (zb (some (0, wrongS 2 (M.1 0 26) M))) (j_X11_line_68 N) = some (0, wrongS 2 (M.1 0 26) M) := rfl
    rw [e1, t26]
    exact ok_s (LO_bad (by decide) hZ.2.2.2 frK.rf hC' fr.rf)
  · have h5' : R < 5 := by omega
    have c5 : (nI R < 5) = (R < 5) := q_lt (b := 5) (by omega) (by omega)
    have d5 : (nI R = 5) = (R = 5) := q_eq (b := 5) (by omega) (by omega)
    rw [if_pos (c5 ▸ h5'), if_neg (fun w => h5 (d5 ▸ w))]
    unfold j_X5_readRegion_14
    obtain ⟨M1, hM1, hT1, hf1⟩ := mtake hN hM (p := e0) hen (by rw [t23, hE])
    rw [hM1, q_bd]
    have hT1' : TkS b n (sk b n e0) M1 := hT1
    have hB1 := hM.pt hf1
    have hr1 : Zr P R B C M1 := hr.go (at_ := 1000) (bt := 1000) fr.rf (hf1.mo PT_PX) (fun i hi => by have := hr.1.2.2.1; omega) (fun i hi => by omega) (fun i hi => by have := hr.2.1.2.1; omega)
    have e18 : (18 : Int32) + nI R = nI (18 + R) := q_add 18 R
    rw [hr1.2.2.2.1, e18, q_nm]
    rcases newName_l hN hZ hB1 hT1' hr1 (at_ := 18 + R) (by omega) with ⟨w, e, g1, g2, g3, g4, g5, g6⟩ | ⟨k, w, e, g1, g2, g3, g4⟩
    · rw [g3, q_bd2]
      obtain ⟨⟨v, M2⟩, hM2, hv, hT2, hf2, hWN⟩ := g6
      have hv' : v = 1 := hv
      subst hv'
      have hge0 := sk_ge b n e0
      have hB2 := hB1.px hf2
      have hfa1 : FA n C (fwS C (sk b n e0) e) := fa_fw hZ.1 (by omega) g2
      have hZ2 : Zc b n e (fwS C (sk b n e0) e) := hZ.go hfa1.1 (fwS_tp hZ.1 (by omega) g2)
      have hr2 : Zr P R B (fwS C (sk b n e0) e) M2 := hr1.go (at_ := 18 + R) (bt := 1000) hfa1.1 hf2 (fun i hi => by have := hr.1.2.2.1; omega) (fun i hi => by omega) (fun i hi => by have := hr.2.1.2.1; omega)
      have hPY2 : fr PY M M2 := (hf1.mo PT_PY).tr (hf2.mo (PX_PY (by omega) (by omega)))
      rw [hM2, q_bd2, if_neg (show ¬ (1 : Int32) = 0 by decide)]
      have hneed := need_l (c := 61) hN (by omega) hb hZ2 hB2 hT2
      have h61 : f_X11_need N 61 M2 = f_X11_need N (nI 61) M2 := rfl
      have h61' : f_X5_readSign N 61 (fwS C (sk b n e0) e) = f_X5_readSign N (nI 61) (fwS C (sk b n e0) e) := rfl
      rw [h61, h61']
      by_cases hs : sk b n e < n ∧ b (sk b n e) = 61
      · obtain ⟨s1, s2⟩ := hneed.1 hs
        obtain ⟨⟨v5, M5⟩, hM5, hv5, hT5, hf5⟩ := s2
        have hv5' : v5 = 1 := hv5
        subst hv5'
        rw [s1, q_bd, hM5, q_bd2, if_neg (show ¬ (1 : Int32) = 0 by decide), q_ck (by omega) (by omega), q_tn (by omega), q_nm]
        simp only [q_jp]
        have hge := sk_ge b n e
        have hfa2 := fa_cat hZ2.1 (q := sk b n e + 1) (by omega)
        have hZ3 : Zc b n (sk b n e + 1) (cat (fwS C (sk b n e0) e) (sk b n e + 1)) := hZ2.go hfa2.1 (hZ2.1.cat (by omega))
        have hB5 := hB2.pt hf5
        have hr5 : Zr P R B (cat (fwS C (sk b n e0) e) (sk b n e + 1)) M5 := hr2.go (at_ := 1000) (bt := 1000) hfa2.1 (hf5.mo PT_PX) (fun i hi => by have := hr.1.2.2.1; omega) (fun i hi => by omega) (fun i hi => by have := hr.2.1.2.1; omega)
        have hW5 : WN (M5.1 3) (M5.1 2) (18 + R) w := hWN.cg (hf5.2 3 _ (by unfold PT; omega)) (fun k hk => hf5.2 2 _ (by unfold PT; omega))
        have hfM6 : fr (PX (18 + R) 1000) M5 (puI M5 4 (18 + R) 0) := fr.rf.pu (by unfold PX; omega)
        have hB6 := hB5.px hfM6
        have hr6 : Zr P R B (cat (fwS C (sk b n e0) e) (sk b n e + 1)) (puI M5 4 (18 + R) 0) := hr5.go (at_ := 18 + R) (bt := 1000) fr.rf hfM6 (fun i hi => by have := hr.1.2.2.1; omega) (fun i hi => by omega) (fun i hi => by have := hr.2.1.2.1; omega)
        have hT6 : TkS b n (sk b n (sk b n e + 1)) (puI M5 4 (18 + R) 0) := by
          unfold TkS
          rw [q_gR _ _ _ _ _ _ (by omega), q_gR _ _ _ _ _ _ (by omega), q_gR _ _ _ _ _ _ (by omega), q_gR _ _ _ _ _ _ (by omega), q_gR _ _ _ _ _ _ (by omega)]
          exact hT5
        have hW6 : WN ((puI M5 4 (18 + R) 0).1 3) ((puI M5 4 (18 + R) 0).1 2) (18 + R) w := hW5.cg (q_gR _ _ _ _ _ _ (by omega)) (fun k hk => q_gR _ _ _ _ _ _ (by omega))
        have hloop := region_loop (p0 := e0) (w := w) hN hb h5' 2000 (sk b n e + 1) 0 0 N N _ _ (by omega) (by omega) (by omega) (by omega) (by omega) hZ3 hB6 hT6 hr6 hW6 (by rw [hfa2.1.1, hfa1.1.1]; exact g4) (q_gS _ _ _ _) (Nat.two_pow_pos _)
        refine ok_m hloop ?_
        intro C' hC'
        refine ok_m hC' ?_
        intro r hr'
        exact hr'.mv (((hfa1.tr hfa2).1).K) ((hPY2.tr (hf5.mo PT_PY)).tr (hfM6.mo (PX_PY (by omega) (by omega))))
      · obtain ⟨s1, s2⟩ := hneed.2 hs
        rw [s1, q_bd, s2, q_bd2, if_pos (show (0 : Int32) = 0 from rfl), q_jp, q_jp]
        have hfa2 := fa_cat hZ2.1 (q := sk b n e) (sk_le g2)
        have h0 := hZ2.z0 hfa2
        have hF := FdX_of (k := 1) (pl := nI (sk b n e)) (by decide) hZ2 hr2 hfa2
        obtain ⟨N', rfl⟩ : ∃ k, N = k + 1 := ⟨N - 1, by omega⟩
        rw [q_lp]
        refine ok_m (regionLoop_fa (i := 0) hN hF) ?_
        intro C' hC'
        have e1 : bd2 (zb (some (0, wrongS 1 (nI (sk b n e)) M2))) (j_X11_line_68 (N' + 1)) = some (0, wrongS 1 (nI (sk b n e)) M2) := rfl
        rw [e1]
        apply ok_s
        exact LO_bad (by decide) h0 (((hfa1.tr hfa2).1).K) hC' hPY2
    · rw [g3, q_bd2, g4, q_bd2, if_pos (show (0 : Int32) = 0 from rfl)]
      have hk0 : k ≠ 0 := by rcases g1 with rfl | rfl <;> decide
      have hfa1 : FA n C (fwS C (sk b n e0) e) := fa_fw hZ.1 (sk_le hen) g2
      have hF := FdX_of (k := k) (pl := nI (sk b n e0)) hk0 hZ hr hfa1
      refine ok_bd (readSign_fa (c := 61) hN (by omega) hF) ?_
      intro C2 h2
      have hF2 := hF.go h2
      rw [q_jp, q_jp]
      obtain ⟨N', rfl⟩ : ∃ k, N = k + 1 := ⟨N - 1, by omega⟩
      rw [q_lp]
      refine ok_m (regionLoop_fa (i := 0) hN hF2) ?_
      intro C' hC'
      have e1 : bd2 (zb (some (0, wrongS k (nI (sk b n e0)) M1))) (j_X11_line_68 (N' + 1)) = some (0, wrongS k (nI (sk b n e0)) M1) := rfl
      rw [e1]
      exact ok_s (LO_bad hk0 (hZ.z0 hfa1) ((hfa1.1).K) (h2.tr hC') (hf1.mo PT_PY))
