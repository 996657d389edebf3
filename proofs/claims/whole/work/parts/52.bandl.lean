/-! pure part: a line of a band, both sides together -/
def BS (b : Nat → Nat) (n p P R B : Nat) (C M : St) : Prop := Zc b n p C ∧ mB b n M ∧ TkS b n (sk b n p) M ∧ Zr P R B C M
theorem BS.go {b : Nat → Nat} {n p p' P R B : Nat} {C M C' M' : St} (h : BS b n p P R B C M) (hC : fr PF C C') (ht : tp C' p' n) (hM : fr (PX 1000 (24 + B)) M M') (hT : TkS b n (sk b n p') M') : BS b n p' P R B C' M' :=
  ⟨h.1.go hC ht, h.2.1.px hM, hT, h.2.2.2.go hC hM (fun i hi => by have := h.2.2.2.1.2.2.1; omega) (fun i hi => by have := h.2.2.2.1.2.2.2.1; omega) (fun i hi => by omega)⟩
theorem TkS.go {b : Nat → Nat} {n q r k : Nat} {M : St} {v : Int32} (h : TkS b n q M) (hr : r ≠ 0 ∨ k = 28) : TkS b n q (puI M r k v) := by
  unfold TkS
  rw [q_g, if_neg (by omega), q_g, if_neg (by omega), q_g, if_neg (by omega), q_g, if_neg (by omega), q_g, if_neg (by omega)]
  exact h
theorem q_bool {v : Int32} (h : v = 0 ∨ v = 1) : vp_nar .boolean v = v := by rcases h with rfl | rfl <;> decide
theorem bandFin {N : Nat} {b : Nat → Nat} {n p p0 P R B : Nat} {w4 : Int64} {v2 v8 v10 v13 v15 : Int32} {C M : St} (hN : 6000 ≤ N) (hb : ∀ k, k < 1000 → b k < 256) (hp : p0 ≤ p) (hS : BS b n p P R B C M) (hB : B < 24)
    (hW : WN (M.1 11) (M.1 10) (24 + B) w4) (h5 : M.1 5 (24 + B) = v2) (h2 : ∃ q, q < 3 ∧ v2 = nI q) (h6 : M.1 6 (24 + B) = v8) (h7 : M.1 7 (24 + B) = v10) (hlo : -99 ≤ v8.toInt) (hlh : v8.toInt < v10.toInt) (hhi : v10.toInt ≤ 999) (h8 : M.1 8 (24 + B) = v13) (hg : ∃ g, 1 ≤ g ∧ g ≤ 9 ∧ v13 = nI g) (h9 : M.1 9 (24 + B) = v15) (h15 : v15 = 0 ∨ v15 = 1)
    (hdis : ∀ i, i < B → C.1 43 i = v2 → (C.1 45 i).toInt ≤ v8.toInt ∨ v10.toInt ≤ (C.1 44 i).toInt) :
    ok (rF N v2 w4 v8 v10 v13 v15 C) fun C' => ok (j_X11_line_68 N 1 (puI M 0 31 (nI (B + 1)))) fun r => LO b n p0 C M C' r.2 r.1 := by
  obtain ⟨hZ, hM, hT, hr⟩ := hS
  have hn := hM.2.2.1
  generalize hM4 : puI M 0 31 (nI (B + 1)) = M4
  have m4 : ∀ r k, ¬ (r = 0 ∧ k = 31) → M4.1 r k = M.1 r k := by
    intro r k a
    rw [← hM4, q_g, if_neg a]
  have m431 : M4.1 0 31 = nI (B + 1) := by rw [← hM4, q_gS]
  have hPY : fr PY M M4 := by rw [← hM4]; exact fr.rf.pu (by unfold PY; omega)
  have hB4 : mB b n M4 := ⟨fun k hk => by rw [m4 1 k (by omega)]; exact hM.1 k hk, by rw [m4 0 22 (by omega)]; exact hM.2.1, hn, fun k hk => by rw [m4 15 k (by omega)]; exact hM.2.2.2 k hk⟩
  have hT4 : TkS b n (sk b n p) M4 := by
    unfold TkS
    rw [m4 0 26 (by omega), m4 0 24 (by omega), m4 0 25 (by omega), m4 0 23 (by omega), m4 0 27 (by omega)]
    exact hT
  unfold rF j_X11_line_68
  rw [if_neg (show ¬ (1 : Int32) = 0 by decide)]
  have hneed := need_l (c := 59) hN (by omega) hb hZ hB4 hT4
  have h59 : f_X11_need N 59 M4 = f_X11_need N (nI 59) M4 := rfl
  have h59' : f_X5_readSign N 59 C = f_X5_readSign N (nI 59) C := rfl
  rw [h59, h59']
  by_cases hs : sk b n p < n ∧ b (sk b n p) = 59
  · obtain ⟨s1, s2⟩ := hneed.1 hs
    obtain ⟨⟨v5, M5⟩, hM5, hv5, hT5, hf5⟩ := s2
    have hv5' : v5 = 1 := hv5
    subst hv5'
    rw [s1, q_bd, hM5, q_bd2, if_neg (show ¬ (1 : Int32) = 0 by decide)]
    have hC3 : (cat C (sk b n p + 1)).1 3 5 = 0 := by rw [cat_o _ _ _ _ (by omega)]; exact hZ.2.2.2
    have hC11 : (cat C (sk b n p + 1)).1 38 11 = nI B := by rw [cat_o _ _ _ _ (by omega)]; exact hr.2.1.1
    rw [if_pos hC3, addBand_e hC11 hB, q_bd, q_bool h15]
    have hge := sk_ge b n p
    have hfa2 := fa_cat hZ.1 (q := sk b n p + 1) (by omega)
    have hZ3 : Zc b n (sk b n p + 1) (cat C (sk b n p + 1)) := hZ.go hfa2.1 (hZ.1.cat (by omega))
    generalize hC4 : cat C (sk b n p + 1) = C4 at hC3 hC11 hfa2 hZ3
    apply ok_s
    apply ok_s
    have hfr5 : ∀ r k, ¬ (r = 0 ∧ k = 31) → ¬ PT r k → M5.1 r k = M.1 r k := by
      intro r k a2 a3
      rw [hf5.2 r k a3, m4 r k a2]
    generalize hC5 : puI (puI (puI (puI (puI (puL (puI C4 43 B v2) 42 B w4) 44 B v8) 45 B v10) 46 B v13) 47 B v15) 38 11 (nI (B + 1)) = C5
    have c1 : ∀ r k, ¬ (r = 38 ∧ k = 11) → ¬ (43 ≤ r ∧ r ≤ 47 ∧ k = B) → C5.1 r k = C4.1 r k := by
      intro r k a a'
      rw [← hC5, q_g, if_neg a, q_g, if_neg (by omega), q_g, if_neg (by omega), q_g, if_neg (by omega), q_g, if_neg (by omega), q_L1, q_g, if_neg (by omega)]
    have c2 : ∀ r k, ¬ (r = 42 ∧ k = B) → C5.2 r k = C4.2 r k := by
      intro r k a
      rw [← hC5, q_g2, q_g2, q_g2, q_g2, q_g2, q_L, if_neg a, q_g2]
    have d42 : C5.2 42 B = w4 := by rw [← hC5, q_g2, q_g2, q_g2, q_g2, q_g2, q_L, if_pos ⟨rfl, rfl⟩]
    have d43 : C5.1 43 B = v2 := by rw [← hC5]; simp (disch := omega) only [q_nm, q_jp, q_bd, q_bd2, q_zb0, q_zb1, q_zbn0, q_zbn1, q_z10, q_z11, q_z1n0, q_z1n1, q_lit, q_add, q_mul, q_lt, q_le, q_eq, q_tn, q_ck, q_nm1, q_n1e, q_gS, q_gR, q_gK, q_g2, if_true, if_false, q_L1]
    have d44 : C5.1 44 B = v8 := by rw [← hC5]; simp (disch := omega) only [q_nm, q_jp, q_bd, q_bd2, q_zb0, q_zb1, q_zbn0, q_zbn1, q_z10, q_z11, q_z1n0, q_z1n1, q_lit, q_add, q_mul, q_lt, q_le, q_eq, q_tn, q_ck, q_nm1, q_n1e, q_gS, q_gR, q_gK, q_g2, if_true, if_false, q_L1]
    have d45 : C5.1 45 B = v10 := by rw [← hC5]; simp (disch := omega) only [q_nm, q_jp, q_bd, q_bd2, q_zb0, q_zb1, q_zbn0, q_zbn1, q_z10, q_z11, q_z1n0, q_z1n1, q_lit, q_add, q_mul, q_lt, q_le, q_eq, q_tn, q_ck, q_nm1, q_n1e, q_gS, q_gR, q_gK, q_g2, if_true, if_false, q_L1]
    have d46 : C5.1 46 B = v13 := by rw [← hC5]; simp (disch := omega) only [q_nm, q_jp, q_bd, q_bd2, q_zb0, q_zb1, q_zbn0, q_zbn1, q_z10, q_z11, q_z1n0, q_z1n1, q_lit, q_add, q_mul, q_lt, q_le, q_eq, q_tn, q_ck, q_nm1, q_n1e, q_gS, q_gR, q_gK, q_g2, if_true, if_false, q_L1]
    have d47 : C5.1 47 B = v15 := by rw [← hC5]; simp (disch := omega) only [q_nm, q_jp, q_bd, q_bd2, q_zb0, q_zb1, q_zbn0, q_zbn1, q_z10, q_z11, q_z1n0, q_z1n1, q_lit, q_add, q_mul, q_lt, q_le, q_eq, q_tn, q_ck, q_nm1, q_n1e, q_gS, q_gR, q_gK, q_g2, if_true, if_false, q_L1]
    have d3811 : C5.1 38 11 = nI (B + 1) := by rw [← hC5, q_gS]
    have cf : fr PF C C4 := hfa2.1
    have cfK : frK C C5 := by
      rw [← hC5]
      exact ((((((((cf).K.pu (by unfold PK; omega)).pl (by omega)).pu (by unfold PK; omega)).pu (by unfold PK; omega)).pu (by unfold PK; omega)).pu (by unfold PK; omega))).pu (by unfold PK; omega)
    have hC4f : ∀ r k, 38 ≤ r → C4.1 r k = C.1 r k := fun r k hr => cf.2 r k (by unfold PF; omega)
    have c42 : C4.2 = C.2 := cf.1
    refine LO_ok cfK (hPY.tr (hf5.mo PT_PY)) ⟨sk b n p + 1, P, R, B + 1, by omega, ?_, ?_, hT5⟩
    · obtain ⟨⟨a1, a2, a3, a4⟩, a5, a6, a7⟩ := hZ3
      refine ⟨⟨by rw [c1 1 2 (by omega) (by omega)]; exact a1, by rw [c1 1 3 (by omega) (by omega)]; exact a2, a3, a4⟩, ?_, ?_, by rw [c1 3 5 (by omega) (by omega)]; exact a7⟩
      · rw [← a5]
        funext k
        unfold cb
        rw [c1 2 k (by omega) (by omega)]
      · unfold KW
        rw [c2 3 0 (by omega), c2 3 1 (by omega), c2 3 2 (by omega), c2 3 3 (by omega), c2 3 4 (by omega)]
        exact a6
    · obtain ⟨a0, ⟨e1, e2, e3, e4⟩, a9, a10, a11⟩ := hr
      refine ⟨?_, ⟨d3811, by omega, ?_, ?_⟩, ?_, ?_, ?_⟩
      · refine a0.go ?_ ?_ ?_ ?_ ?_ ?_ ?_
        · rw [c1 38 9 (by omega) (by omega), hC4f 38 9 (by omega)]
        · rw [c1 38 10 (by omega) (by omega), hC4f 38 10 (by omega)]
        · intro i hi
          rw [c2 _ _ (by omega), c42]
        · intro i hi
          rw [c2 _ _ (by omega), c42]
        · intro i hi
          rw [c1 _ _ (by omega) (by omega), hC4f _ _ (by omega)]
        · intro i hi
          exact ⟨hfr5 _ _ (by omega) (by unfold PT; omega), hfr5 _ _ (by omega) (by unfold PT; omega), fun k hk => hfr5 _ _ (by omega) (by unfold PT; omega)⟩
        · intro i hi
          exact ⟨hfr5 _ _ (by omega) (by unfold PT; omega), hfr5 _ _ (by omega) (by unfold PT; omega), fun k hk => hfr5 _ _ (by omega) (by unfold PT; omega)⟩
      · intro i hi
        by_cases hiB : i = B
        · subst hiB
          show WN (M5.1 11) (M5.1 10) (24 + i) (C5.2 42 i) ∧ (∃ q, q < 3 ∧ C5.1 43 i = nI q) ∧ M5.1 5 (24 + i) = C5.1 43 i ∧ M5.1 6 (24 + i) = C5.1 44 i ∧ M5.1 7 (24 + i) = C5.1 45 i ∧ -99 ≤ (C5.1 44 i).toInt ∧ (C5.1 44 i).toInt < (C5.1 45 i).toInt ∧ (C5.1 45 i).toInt ≤ 999 ∧ (∃ g, 1 ≤ g ∧ g ≤ 9 ∧ C5.1 46 i = nI g) ∧ M5.1 8 (24 + i) = C5.1 46 i ∧ (C5.1 47 i = 0 ∨ C5.1 47 i = 1) ∧ M5.1 9 (24 + i) = C5.1 47 i
          rw [d42, d43, d44, d45, d46, d47, hfr5 5 _ (by omega) (by unfold PT; omega), hfr5 6 _ (by omega) (by unfold PT; omega), hfr5 7 _ (by omega) (by unfold PT; omega), hfr5 8 _ (by omega) (by unfold PT; omega), hfr5 9 _ (by omega) (by unfold PT; omega)]
          exact ⟨hW.cg (hfr5 _ _ (by omega) (by unfold PT; omega)) (fun k hk => hfr5 _ _ (by omega) (by unfold PT; omega)), h2, h5, h6, h7, hlo, hlh, hhi, hg, h8, h15, h9⟩
        · refine (e3 i (by omega)).go ?_ ?_ ?_ ?_
          · rw [c2 _ _ (by omega), c42]
          · intro r r1 r2
            rw [c1 _ _ (by omega) (by omega), hC4f _ _ (by omega)]
          · intro r r1
            exact hfr5 _ _ (by omega) (by unfold PT; omega)
          · intro k hk
            exact hfr5 _ _ (by omega) (by unfold PT; omega)
      · intro i j hij hj
        show C5.1 43 i = C5.1 43 j → (C5.1 45 i).toInt ≤ (C5.1 44 j).toInt ∨ (C5.1 45 j).toInt ≤ (C5.1 44 i).toInt
        have x : ∀ r, 43 ≤ r → r ≤ 47 → C5.1 r i = C.1 r i := fun r r1 r2 => by rw [c1 _ _ (by omega) (by omega), hC4f _ _ (by omega)]
        by_cases hjB : j = B
        · subst hjB
          rw [d43, d44, d45, x 43 (by omega) (by omega), x 44 (by omega) (by omega), x 45 (by omega) (by omega)]
          exact hdis i hij
        · have y : ∀ r, 43 ≤ r → r ≤ 47 → C5.1 r j = C.1 r j := fun r r1 r2 => by rw [c1 _ _ (by omega) (by omega), hC4f _ _ (by omega)]
          rw [x 43 (by omega) (by omega), x 44 (by omega) (by omega), x 45 (by omega) (by omega), y 43 (by omega) (by omega), y 44 (by omega) (by omega), y 45 (by omega) (by omega)]
          exact e4 i j hij (by omega)
      · rw [hfr5 0 29 (by omega) (by unfold PT; omega)]; exact a9
      · rw [hfr5 0 30 (by omega) (by unfold PT; omega)]; exact a10
      · rw [hf5.2 0 31 (by unfold PT; omega)]; exact m431
  · obtain ⟨s1, s2⟩ := hneed.2 hs
    rw [s1, q_bd, s2, q_bd2, if_pos (show (0 : Int32) = 0 from rfl)]
    have hle := sk_le (b := b) hZ.1.2.2.1
    have hfa2 := fa_cat hZ.1 (q := sk b n p) hle
    have h0 := hZ.z0 hfa2
    rw [if_neg (by rw [(failS_is h0 (by decide)).1]; decide)]
    apply ok_s
    apply ok_s
    exact LO_bad (by decide) h0 ((hfa2.1).K) ⟨fr.rf, sk b n p, failS_tp (hZ.1.cat hle)⟩ hPY
theorem bdl_0 {N : Nat} {S : St} : bd2 (zb (some (0, S))) (j_X11_line_68 N) = some (0, S) := rfl
theorem bdl_1 {N : Nat} {S : St} : bd2 (zb (some (1, S))) (j_X11_line_68 N) = j_X11_line_68 N 1 S := rfl
/-- from the grade on -/
theorem band95_l {N : Nat} {b : Nat → Nat} {n p p0 P R B : Nat} {w4 : Int64} {v2 v8 v10 : Int32} {C M : St} (hN : 6000 ≤ N) (hb : ∀ k, k < 1000 → b k < 256) (hp : p0 ≤ p) (hS : BS b n p P R B C M) (hB : B < 24)
    (hW : WN (M.1 11) (M.1 10) (24 + B) w4) (h5 : M.1 5 (24 + B) = v2) (h2 : ∃ q, q < 3 ∧ v2 = nI q) (h6 : M.1 6 (24 + B) = v8) (h7 : M.1 7 (24 + B) = v10) (hlo : -99 ≤ v8.toInt) (hlh : v8.toInt < v10.toInt) (hhi : v10.toInt ≤ 999)
    (hdis : ∀ i, i < B → C.1 43 i = v2 → (C.1 45 i).toInt ≤ v8.toInt ∨ v10.toInt ≤ (C.1 44 i).toInt) :
    ok (j_X5_readBand_95 N v2 w4 v8 v10 C) fun C' => ok (bd2 (zb (j_X11_bandLine_380 N (nI (24 + B)) M)) (j_X11_line_68 N)) fun r => LO b n p0 C M C' r.2 r.1 := by
  rw [band95_eq]
  unfold j_X11_bandLine_380
  have hn := hS.2.1.2.2.1
  have hpn := hS.1.1.2.2.1
  have hge := sk_ge b n p
  rcases numeral_l (lo := 1) (hi := 9) hN (by decide) (by decide) hS.1 hS.2.1 hS.2.2.1 with ⟨v, e, g1, g2, g3, g4, g5, g6⟩ | ⟨k, v, e, g1, g2, g3, g4⟩
  · obtain ⟨⟨o, M1⟩, hM1, ho, h28, hT1, hf1⟩ := g6
    have ho' : o = 1 := ho
    subst ho'
    have hg : ∃ g, 1 ≤ g ∧ g ≤ 9 ∧ v = nI g := by
      have l1 : (1 : Int32).toInt = 1 := by decide
      have l9 : (9 : Int32).toInt = 9 := by decide
      refine ⟨v.toInt.toNat, by omega, by omega, ?_⟩
      apply Int32.toInt_inj.mp
      rw [nI_toInt (by omega)]
      omega
    have h28' : M1.1 0 28 = v := h28
    rw [g5, q_bd2, hM1, q_bd2, if_neg (show ¬ (1 : Int32) = 0 by decide), q_ck (by omega) (by omega), q_tn (by omega), q_nm, h28']
    have hf2 : fr (PX 1000 (24 + B)) M (puI M1 8 (24 + B) v) := (hf1.mo PT8_PX).pu (by unfold PX; omega)
    have hfa1 := fa_cat hS.1.1 (q := e) g4
    have hS2 : BS b n e P R B (cat C e) (puI M1 8 (24 + B) v) := hS.go hfa1.1 (hS.1.1.cat g4) hf2 (TkS.go hT1 (by omega))
    have w2 : WN ((puI M1 8 (24 + B) v).1 11) ((puI M1 8 (24 + B) v).1 10) (24 + B) w4 := hW.cg (by rw [q_gR _ _ _ _ _ _ (by omega), hf1.2 _ _ (by unfold PT8; omega)]) (fun k hk => by rw [q_gR _ _ _ _ _ _ (by omega), hf1.2 _ _ (by unfold PT8; omega)])
    have x5 : (puI M1 8 (24 + B) v).1 5 (24 + B) = v2 := by rw [q_gR _ _ _ _ _ _ (by omega), hf1.2 _ _ (by unfold PT8; omega)]; exact h5
    have x6 : (puI M1 8 (24 + B) v).1 6 (24 + B) = v8 := by rw [q_gR _ _ _ _ _ _ (by omega), hf1.2 _ _ (by unfold PT8; omega)]; exact h6
    have x7 : (puI M1 8 (24 + B) v).1 7 (24 + B) = v10 := by rw [q_gR _ _ _ _ _ _ (by omega), hf1.2 _ _ (by unfold PT8; omega)]; exact h7
    have x8 : (puI M1 8 (24 + B) v).1 8 (24 + B) = v := q_gS _ _ _ _
    generalize puI M1 8 (24 + B) v = M2 at hf2 hS2 w2 x5 x6 x7 x8 ⊢
    have d2 : ∀ i, i < B → (cat C e).1 43 i = v2 → ((cat C e).1 45 i).toInt ≤ v8.toInt ∨ v10.toInt ≤ ((cat C e).1 44 i).toInt := by
      intro i hi
      rw [cat_o _ _ _ _ (by omega), cat_o _ _ _ _ (by omega), cat_o _ _ _ _ (by omega)]
      exact hdis i hi
    have hK1 : frK C (cat C e) := (hfa1.1).K
    have hPY2 : fr PY M M2 := hf2.mo (PX_PY (by omega) (by omega))
    generalize cat C e = C2 at hfa1 hS2 d2 hK1 ⊢
    simp only [q_jp]
    obtain ⟨hZ2, hB2, hT2, hr2⟩ := hS2
    obtain ⟨z1, z2, z3, z4⟩ := hZ2
    have hwarn := readWarn_e (q := sk (cb C2) n e) hN z1 rfl
    unfold rE
    rw [hwarn, z2]
    have hqn := sk_le (b := b) g4
    have hqge := sk_ge b n e
    generalize hq : sk b n e = q at hqn hqge hT2 ⊢
    have t := hT2
    obtain ⟨t0, t26, t24, t25, t23, t27⟩ := t
    have hk := tkK_le b n q
    have k1 : (nI (tkK b n q) = 1) = (tkK b n q = 1) := q_eq (b := 1) (by omega) (by omega)
    -- the reference, behind the flag
    have m428 : ∀ f : Int32, f = 0 ∨ f = 1 → j_X11_bandLine_428 N (nI (24 + B)) M2 (nI (24 + B)) f = if f = 0 then some (1, puI (puI M2 9 (24 + B) f) 0 31 (nI (B + 1))) else bd (f_X11_take N (puI M2 9 (24 + B) f)) fun S47 => some (1, puI S47 0 31 (S47.1 0 31 + 1)) := by
      intro f hf
      unfold j_X11_bandLine_428 j_X11_bandLine_442
      rw [q_ck (by omega) (by omega), q_tn (by omega), q_bool hf, q_nm, q_ck (by omega) (by omega), q_jp, q_gS]
      have e31 : (puI M2 9 (24 + B) f).1 0 31 = nI B := by rw [q_gR _ _ _ _ _ _ (by omega)]; exact hr2.2.2.2.2
      rcases hf with rfl | rfl
      · rw [if_pos rfl, if_pos rfl]
        show some ((1 : Int32), puI (puI M2 9 (24 + B) 0) 0 31 ((puI M2 9 (24 + B) 0).1 0 31 + 1)) = _
        rw [e31, ← nI_succ]
      · rw [if_neg (by decide), if_neg (by decide)]
        rfl
    have hM3 : ∀ f : Int32, fr (PX 1000 (24 + B)) M2 (puI M2 9 (24 + B) f) := fun f => fr.rf.pu (by unfold PX; omega)
    by_cases hl : q < n ∧ letP b q = true
    · rw [if_pos hl]
      by_cases hwn : tw b n q = C2.2 3 3
      · -- warn
        rw [if_pos hwn, q_bd2]
        have h1 := (letP_wE hl.1).mp hl.2
        have h12 : wE b n q - q ≤ 12 := by
          apply Decidable.byContradiction
          intro w
          have := tw_zero (b := b) (n := n) (p := q) (by omega)
          rw [this, z3.2.2.2.1] at hwn
          exact absurd hwn (by decide)
        have hx : enc b q (wE b n q - q) = enc Wd 18 4 := by
          have := (tw_pos h1 h12).1
          rw [this, z3.2.2.2.1, kw_eq wE_in h12 (by omega) (by decide)] at hwn
          exact hwn
        have hK : tkK b n q = 1 := by unfold tkK; rw [if_neg (by omega), if_pos hl.2, if_pos h12]
        have hWk : tkW b n q = 4 := by
          unfold tkW
          rw [if_pos hl.2, hx]
          decide
        have hEk : tkE b n q = wE b n q := by unfold tkE; rw [if_neg (by omega), if_pos hl.2]
        rw [t24, if_pos (k1 ▸ hK), t25 hl.1, hWk, if_pos rfl, m428 1 (Or.inr rfl), if_neg (by decide)]
        have hwle := wE_le (b := b) hqn
        have hB3 := hB2.px (hM3 1)
        obtain ⟨M4, hM4, hT4, hf4⟩ := mtake hN hB3 (p := wE b n q) hwle (by rw [q_gR _ _ _ _ _ _ (by omega), t23, hEk])
        rw [hM4, q_bd, bdl_1]
        have hf24 : fr (PX 1000 (24 + B)) M2 M4 := (hM3 1).tr (hf4.mo PT_PX)
        have hfa2 := fa_cat z1 (q := wE b n q) hwle
        have hS4 : BS b n (wE b n q) P R B (cat C2 (wE b n q)) M4 := BS.go (p := e) ⟨⟨z1, z2, z3, z4⟩, hB2, by rw [hq]; exact hT2, hr2⟩ hfa2.1 (z1.cat hwle) hf24 hT4
        have e31 : M4.1 0 31 = nI B := hS4.2.2.2.2.2.2.2
        rw [e31, ← nI_succ]
        have y : ∀ r, 5 ≤ r → r ≤ 8 → M4.1 r (24 + B) = M2.1 r (24 + B) := fun r r1 r2 => by rw [hf4.2 _ _ (by unfold PT; omega), q_gR _ _ _ _ _ _ (by omega)]
        refine ok_m (bandFin (p0 := p0) hN hb (by omega) hS4 hB (w2.cg (by rw [hf4.2 _ _ (by unfold PT; omega), q_gR _ _ _ _ _ _ (by omega)]) (fun k hk => by rw [hf4.2 _ _ (by unfold PT; omega), q_gR _ _ _ _ _ _ (by omega)])) ((y 5 (by omega) (by omega)).trans x5) h2 ((y 6 (by omega) (by omega)).trans x6) ((y 7 (by omega) (by omega)).trans x7) hlo hlh hhi ((y 8 (by omega) (by omega)).trans x8) hg (by rw [hf4.2 _ _ (by unfold PT; omega), q_gS]) (Or.inr rfl) ?_) ?_
        · intro i hi
          rw [cat_o _ _ _ _ (by omega), cat_o _ _ _ _ (by omega), cat_o _ _ _ _ (by omega)]
          exact d2 i hi
        · intro C' hC'
          refine ok_m hC' ?_
          intro r hr'
          exact hr'.mv (hK1.tr (hfa2.1).K) (hPY2.tr (hf24.mo (PX_PY (by omega) (by omega))))
      · -- another word
        rw [if_neg hwn, q_bd2]
        have h1 := (letP_wE hl.1).mp hl.2
        have hwle := wE_le (b := b) hqn
        have hno4 : ¬ (tkK b n q = 1 ∧ tkW b n q = 4) := by
          rintro ⟨a1, a2⟩
          have h12 : wE b n q - q ≤ 12 := by
            apply Decidable.byContradiction
            intro w
            unfold tkK at a1
            rw [if_neg (by omega), if_pos hl.2, if_neg w] at a1
            omega
          unfold tkW at a2
          rw [if_pos hl.2] at a2
          have hwa : wa (enc b q (wE b n q - q)) = 4 := by
            have hlt : wa (enc b q (wE b n q - q)) < 6 := by unfold wa; repeat' split
                                                             all_goals omega
            have : (nI (wa (enc b q (wE b n q - q))) = nI 4) = (wa (enc b q (wE b n q - q)) = 4) := q_eq (by omega) (by omega)
            exact this ▸ a2
          have hx : enc b q (wE b n q - q) = enc Wd 18 4 := by
            unfold wa at hwa
            split at hwa
            · omega
            · split at hwa
              · omega
              · split at hwa
                · omega
                · split at hwa
                  · assumption
                  · split at hwa <;> omega
          apply hwn
          rw [(tw_pos h1 h12).1, z3.2.2.2.1, hx]
        have hm : (if M2.1 0 24 = 1 then if M2.1 0 25 = 4 then j_X11_bandLine_428 N (nI (24 + B)) M2 (nI (24 + B)) 1 else j_X11_bandLine_427 (j_X11_bandLine_428 N (nI (24 + B)) M2) (nI (24 + B)) else j_X11_bandLine_427 (j_X11_bandLine_428 N (nI (24 + B)) M2) (nI (24 + B))) = some (1, puI (puI M2 9 (24 + B) 0) 0 31 (nI (B + 1))) := by
          have h427 : j_X11_bandLine_427 (j_X11_bandLine_428 N (nI (24 + B)) M2) (nI (24 + B)) = some (1, puI (puI M2 9 (24 + B) 0) 0 31 (nI (B + 1))) := by
            unfold j_X11_bandLine_427
            rw [m428 0 (Or.inl rfl), if_pos rfl]
          rw [h427, t24, t25 hl.1]
          by_cases a1 : tkK b n q = 1
          · rw [if_pos (k1 ▸ a1), if_neg (fun a2 => hno4 ⟨a1, a2⟩)]
          · rw [if_neg (fun w => a1 (k1 ▸ w))]
        rw [hm, bdl_1]
        have hfa2 := fa_cat z1 (q := wE b n q) hwle
        have hZ2 : Zc b n e C2 := ⟨z1, z2, z3, z4⟩
        have hF := FdX_of (k := 1) (pl := nI q) (by decide) hZ2 hr2 hfa2
        refine ok_m (rF_fa hN hF) ?_
        intro C' hC'
        have hB4 : mB b n (puI (puI M2 9 (24 + B) 0) 0 31 (nI (B + 1))) := by
          refine ⟨fun k hk => ?_, ?_, hn, fun k hk => ?_⟩
          · rw [q_gR _ _ _ _ _ _ (by omega), q_gR _ _ _ _ _ _ (by omega)]; exact hB2.1 k hk
          · rw [q_gK _ _ _ _ _ _ (by omega), q_gR _ _ _ _ _ _ (by omega)]; exact hB2.2.1
          · rw [q_gR _ _ _ _ _ _ (by omega), q_gR _ _ _ _ _ _ (by omega)]; exact hB2.2.2.2 k hk
        have hT4 : TkS b n (sk b n e) (puI (puI M2 9 (24 + B) 0) 0 31 (nI (B + 1))) := by
          unfold TkS
          rw [hq]
          refine ⟨t0, ?_, ?_, ?_, ?_, ?_⟩
          · rw [q_gK _ _ _ _ _ _ (by omega), q_gR _ _ _ _ _ _ (by omega)]; exact t26
          · rw [q_gK _ _ _ _ _ _ (by omega), q_gR _ _ _ _ _ _ (by omega)]; exact t24
          · rw [q_gK _ _ _ _ _ _ (by omega), q_gR _ _ _ _ _ _ (by omega)]; exact t25
          · rw [q_gK _ _ _ _ _ _ (by omega), q_gR _ _ _ _ _ _ (by omega)]; exact t23
          · rw [q_gK _ _ _ _ _ _ (by omega), q_gR _ _ _ _ _ _ (by omega)]; exact t27
        have hneed := (need_l (c := 59) hN (by omega) hb hZ2 hB4 hT4).2 (by rw [hq]; have := letP_b hl.2; omega)
        unfold j_X11_line_68
        have h59 : f_X11_need N 59 (puI (puI M2 9 (24 + B) 0) 0 31 (nI (B + 1))) = some (0, wrongS 1 (nI q) (puI (puI M2 9 (24 + B) 0) 0 31 (nI (B + 1)))) := by rw [← hq]; exact hneed.2
        rw [if_neg (show ¬ (1 : Int32) = 0 by decide), h59, q_bd2, if_pos rfl]
        apply ok_s
        exact LO_bad (by decide) (hZ2.z0 hfa2) (hK1.tr (hfa2.1).K) hC' ((hPY2.pu (by unfold PY; omega)).pu (by unfold PY; omega))
    · -- no word
      rw [if_neg hl, q_bd2]
      have hno : ¬ tkK b n q = 1 := by
        intro a1
        unfold tkK at a1
        split at a1
        · omega
        · next h0 =>
          split at a1
          · next h3 => exact hl ⟨by omega, h3⟩
          · split at a1
            · omega
            · split at a1 <;> omega
      rw [t24, if_neg (fun w => hno (k1 ▸ w))]
      unfold j_X11_bandLine_427
      rw [m428 0 (Or.inl rfl), if_pos rfl, bdl_1]
      have hfa2 := fa_cat z1 (q := q) hqn
      have hsk2 : sk b n q = q := by rw [← hq]; exact sk_idem g4
      have hS4 : BS b n q P R B (cat C2 q) (puI M2 9 (24 + B) 0) := BS.go (p := e) ⟨⟨z1, z2, z3, z4⟩, hB2, by rw [hq]; exact hT2, hr2⟩ hfa2.1 (z1.cat hqn) (hM3 0) (by rw [hsk2]; exact TkS.go hT2 (by omega))
      refine ok_m (bandFin (p0 := p0) hN hb (by omega) hS4 hB (w2.cg (q_gR _ _ _ _ _ _ (by omega)) (fun k hk => q_gR _ _ _ _ _ _ (by omega))) ((q_gR _ _ _ _ _ _ (by omega)).trans x5) h2 ((q_gR _ _ _ _ _ _ (by omega)).trans x6) ((q_gR _ _ _ _ _ _ (by omega)).trans x7) hlo hlh hhi ((q_gR _ _ _ _ _ _ (by omega)).trans x8) hg (q_gS _ _ _ _) (Or.inl rfl) ?_) ?_
      · intro i hi
        rw [cat_o _ _ _ _ (by omega), cat_o _ _ _ _ (by omega), cat_o _ _ _ _ (by omega)]
        exact d2 i hi
      · intro C' hC'
        refine ok_m hC' ?_
        intro r hr'
        exact hr'.mv (hK1.tr (hfa2.1).K) (hPY2.tr ((hM3 0).mo (PX_PY (by omega) (by omega))))
  · rw [g3, q_bd2, g4, q_bd2, if_pos (show (0 : Int32) = 0 from rfl), bdl_0]
    have hk0 : k ≠ 0 := by rcases g1 with rfl | rfl <;> decide
    have hfa1 := fa_cat hS.1.1 (q := e) g2
    have hF := FdX_of (k := k) (pl := nI (sk b n p)) hk0 hS.1 hS.2.2.2 hfa1
    refine ok_m (rE_fa hN hF) ?_
    intro C' hC'
    exact ok_s (LO_bad hk0 (hS.1.z0 hfa1) ((hfa1.1).K) hC' fr.rf)
