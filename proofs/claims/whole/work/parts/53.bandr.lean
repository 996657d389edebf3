/-! pure part: a line of a band, from its beginning -/
def mD (N : Nat) (v3 v18 : Int32) (S28 : St) : Option (Int32 × St) := if (S28.1 6 v3.toNatClampNeg) < (S28.1 7 v3.toNatClampNeg) then jp (j_X11_bandLine_367 N v18 S28) fun k367 => jp (j_X11_bandLine_380 N v3 S28) fun k380 => jp (lp (fun _ => none) (b_X11_bandLine_317 v3 S28 k367 k380) N) fun k317 => k317 24 else bd2 (f_X11_wrong N 5 v18 S28) fun v63 S64 => some (v63, S64)
def mC (N : Nat) (v3 v18 : Int32) (S23 : St) : Option (Int32 × St) := bd2 (f_X11_numeral N (-99) 999 S23) fun v24 S25 => if v24 = 0 then some (0, S25) else ck v3 48 <| nm (puI S25 7 v3.toNatClampNeg (S25.1 0 28)) fun S28 => ck v3 48 <| ck v3 48 <| mD N v3 v18 S28
def mBb (N : Nat) (v3 v18 : Int32) (S17 : St) : Option (Int32 × St) := bd2 (f_X11_numeral N (-99) 999 S17) fun v19 S20 => if v19 = 0 then some (0, S20) else ck v3 48 <| nm (puI S20 6 v3.toNatClampNeg (S20.1 0 28)) fun S23 => mC N v3 v18 S23
theorem m235_eq (N : Nat) (v3 : Int32) (S16 : St) : j_X11_bandLine_235 N v3 S16 = bd (f_X11_take N S16) fun S17 => nm (S17.1 0 26) fun v18 => mBb N v3 v18 S17 := rfl
def mA (N : Nat) (v3 : Int32) (S8 : St) : Option (Int32 × St) := bd (f_X11_isName N S8) fun v9 => if v9 = 0 then bd2 (f_X11_wrong N 1 (S8.1 0 26) S8) fun v90 S91 => some (v90, S91) else jp (j_X11_bandLine_163 N S8) fun k163 => jp (j_X11_bandLine_179 N v3 S8) fun k179 => jp (lp (fun _ => none) (b_X11_bandLine_72 N v3 S8 k163 k179) N) fun k72 => k72 24
theorem bandLine_eq (N : Nat) (S : St) : f_X11_bandLine N S = zb (if (S.1 0 31) = 24 then bd2 (f_X11_wrong N 2 (S.1 0 26) S) fun v92 S93 => some (v92, S93) else bd (f_X11_take N S) fun S2 => nm (24 + (S2.1 0 31)) fun v3 => bd2 (f_X11_numeral N 0 2 S2) fun v4 S5 => if v4 = 0 then some (0, S5) else ck v3 48 <| nm (puI S5 5 v3.toNatClampNeg (S5.1 0 28)) fun S8 => mA N v3 S8) := rfl
theorem FA.rf {b : Nat → Nat} {n p : Nat} {C : St} (hZ : Zc b n p C) : FA n C C := ⟨fr.rf, p, hZ.1⟩
/-- the copying loop ends in one state -/
theorem bandCopyE {N : Nat} {b : Nat → Nat} {n q e bt : Nat} {M S : St} {k235 : St → Option (Int32 × St)} (hN : 6000 ≤ N) (hM : mB b n M) (hqe : q ≤ e) (hen : e ≤ n) (h12 : e - q ≤ 12) (hbt : bt < 48) (hS : fr (PX 1000 bt) M S) (h26 : S.1 0 26 = nI q) (h27 : S.1 0 27 = nI e) :
    ∃ S', lp (fun _ _ => none) (b_X11_bandLine_199 (nI bt) k235) N (nI q) S = k235 S' ∧ fr (PX 1000 bt) M S' ∧ (∀ r k, r ≠ 10 → S'.1 r k = S.1 r k) ∧ (∀ k, k < e - q → S'.1 10 (12 * bt + k) = nI (b (q + k))) := by
  have hn := hM.2.2.1
  have key : ∀ d N' j (S' : St), d < N' → q + j + d = e → fr (PX 1000 bt) M S' → (∀ r k, r ≠ 10 → S'.1 r k = S.1 r k) → (∀ k, k < j → S'.1 10 (12 * bt + k) = nI (b (q + k))) → ∃ S'', lp (fun _ _ => none) (b_X11_bandLine_199 (nI bt) k235) N' (nI (q + j)) S' = k235 S'' ∧ fr (PX 1000 bt) M S'' ∧ (∀ r k, r ≠ 10 → S''.1 r k = S.1 r k) ∧ (∀ k, k < e - q → S''.1 10 (12 * bt + k) = nI (b (q + k))) := by
    intro d
    induction d with
    | zero =>
      intro N' j S' hN' hj gf gs gl
      obtain ⟨N', rfl⟩ : ∃ k, N' = k + 1 := ⟨N' - 1, by omega⟩
      refine ⟨S', ?_, gf, gs, fun k hk => gl k (by omega)⟩
      rw [q_lp]
      generalize lp (fun _ _ => none) (b_X11_bandLine_199 (nI bt) k235) N' = K
      unfold b_X11_bandLine_199
      rw [gs 0 27 (by omega), h27, if_pos (by rw [q_le (by omega) (by omega)]; omega)]
    | succ d ih =>
      intro N' j S' hN' hj gf gs gl
      obtain ⟨N', rfl⟩ : ∃ k, N' = k + 1 := ⟨N' - 1, by omega⟩
      obtain ⟨t1, t2⟩ := (hM.px gf).1 (q + j) (by omega)
      have e1 : (12 : Int32) * nI bt + nI (q + j) - nI q = nI (12 * bt + j) := by
        have : nI 12 * nI bt + nI (q + j) - nI q = nI (12 * bt + j) := by
          rw [q_mul, q_add, q_sub (by omega)]
          congr 1
          omega
        exact this
      have ih' := ih N' (j + 1) (puI S' 10 (12 * bt + j) (nI (b (q + j)))) (by omega) (by omega) (gf.pu (by unfold PX; omega)) (fun r k hr => by rw [q_gR _ _ _ _ _ _ hr]; exact gs r k hr) (by
        intro k' hk'
        rw [q_g]
        by_cases e2 : 12 * bt + k' = 12 * bt + j
        · have : k' = j := by omega
          subst this
          rw [if_pos ⟨rfl, rfl⟩]
        · rw [if_neg (fun w => e2 w.2)]
          exact gl k' (by omega))
      rw [q_lp]
      generalize lp (fun _ _ => none) (b_X11_bandLine_199 (nI bt) k235) N' = K at ih' ⊢
      unfold b_X11_bandLine_199
      rw [gs 0 27 (by omega), gs 0 26 (by omega), h27, h26, if_neg (by rw [q_le (by omega) (by omega)]; omega), q_ck (by omega) (by omega), e1, q_ck (by omega) (by omega), q_tn (by omega), q_tn (by omega), t1, q_nm, q_nm, ← nI_succ]
      exact ih'
  have := key (e - q) N 0 S (by omega) (by omega) hS (fun _ _ _ => rfl) (fun k hk => by omega)
  exact this
section BR
variable {N : Nat} {b : Nat → Nat} {n p p0 P R B : Nat} {C M : St}
theorem bandD_l {w4 : Int64} {v2 v7 v8 v10 : Int32} (hN : 6000 ≤ N) (hb : ∀ k, k < 1000 → b k < 256) (hp : p0 ≤ p) (hS : BS b n p P R B C M) (hB : B < 24)
    (hW : WN (M.1 11) (M.1 10) (24 + B) w4) (h5 : M.1 5 (24 + B) = v2) (h2 : ∃ q, q < 3 ∧ v2 = nI q) (h6 : M.1 6 (24 + B) = v8) (h7 : M.1 7 (24 + B) = v10) (hlo : -99 ≤ v8.toInt) (hhi : v10.toInt ≤ 999) :
    ok (rD N v2 w4 v7 v8 v10 C) fun C' => ok (bd2 (zb (mD N (nI (24 + B)) v7 M)) (j_X11_line_68 N)) fun r => LO b n p0 C M C' r.2 r.1 := by
  have hbad : ok (j_X5_readBand_88 N v7 C (j_X5_readBand_95 N v2 w4 v8 v10)) fun C' => ok (some ((0 : Int32), wrongS 5 v7 M)) fun r => LO b n p0 C M C' r.2 r.1 := by
    unfold j_X5_readBand_88
    rw [fail_e, q_bd]
    have hF := FdX_of (k := 5) (pl := v7) (by decide) hS.1 hS.2.2.2 (FA.rf hS.1)
    refine ok_m (band95_fa hN hF) ?_
    intro C' hC'
    exact ok_s (LO_bad (by decide) hS.1.2.2.2 frK.rf hC' fr.rf)
  unfold rD mD
  rw [q_jp, q_jp, q_tn (by omega), h6, h7]
  by_cases hlh : v8 < v10
  · rw [if_neg (show ¬ v10 ≤ v8 by rw [Int32.lt_iff_toInt_lt] at hlh; rw [Int32.le_iff_toInt_le]; omega), if_pos hlh]
    have hlh' := Int32.lt_iff_toInt_lt.mp hlh
    simp only [q_jp]
    rw [overlaps_e hN hS.2.2.2.2.1.1 hS.2.2.2.2.1.2.1, q_bd, mOver_e hN hB h5 h6 h7]
    have hcg : fst1 (fun i => decide (M.1 5 (24 + i) = v2 ∧ v8.toInt < (M.1 7 (24 + i)).toInt ∧ (M.1 6 (24 + i)).toInt < v10.toInt)) B = fst1 (fun i => decide (C.1 43 i = v2 ∧ v8.toInt < (C.1 45 i).toInt ∧ (C.1 44 i).toInt < v10.toInt)) B := by
      apply fst1_cong
      intro i hi
      obtain ⟨-, -, a5, a6, a7, -⟩ := hS.2.2.2.2.1.2.2.1 i hi
      have a5' : M.1 5 (24 + i) = C.1 43 i := a5
      have a6' : M.1 6 (24 + i) = C.1 44 i := a6
      have a7' : M.1 7 (24 + i) = C.1 45 i := a7
      rw [a5', a6', a7']
    rw [hcg]
    by_cases hf : fst1 (fun i => decide (C.1 43 i = v2 ∧ v8.toInt < (C.1 45 i).toInt ∧ (C.1 44 i).toInt < v10.toInt)) B < B
    · rw [if_pos hf, if_pos hf, if_neg (show ¬ (1 : Int32) = 0 by decide)]
      unfold j_X11_bandLine_367
      rw [wrong_e, q_bd2, bdl_0]
      exact hbad
    · rw [if_neg hf, if_neg hf, if_pos rfl]
      refine band95_l hN hb hp hS hB hW h5 h2 h6 h7 hlo hlh' hhi ?_
      intro i hi e
      have := fst1_no (E := fun i => decide (C.1 43 i = v2 ∧ v8.toInt < (C.1 45 i).toInt ∧ (C.1 44 i).toInt < v10.toInt)) (n := B) (i := i) (by omega)
      rw [decide_eq_false_iff_not] at this
      apply Decidable.byContradiction
      intro w
      exact this ⟨e, by omega, by omega⟩
  · rw [if_pos (show v10 ≤ v8 by rw [Int32.lt_iff_toInt_lt] at hlh; rw [Int32.le_iff_toInt_le]; omega), if_neg hlh, wrong_e, q_bd2, bdl_0]
    exact hbad
theorem bandC_l {w4 : Int64} {v2 v7 v8 : Int32} (hN : 6000 ≤ N) (hb : ∀ k, k < 1000 → b k < 256) (hp : p0 ≤ p) (hS : BS b n p P R B C M) (hB : B < 24)
    (hW : WN (M.1 11) (M.1 10) (24 + B) w4) (h5 : M.1 5 (24 + B) = v2) (h2 : ∃ q, q < 3 ∧ v2 = nI q) (h6 : M.1 6 (24 + B) = v8) (hlo : -99 ≤ v8.toInt) :
    ok (rC N v2 w4 v7 v8 C) fun C' => ok (bd2 (zb (mC N (nI (24 + B)) v7 M)) (j_X11_line_68 N)) fun r => LO b n p0 C M C' r.2 r.1 := by
  unfold rC mC
  have hge := sk_ge b n p
  rcases numeral_l (lo := -99) (hi := 999) hN (by decide) (by decide) hS.1 hS.2.1 hS.2.2.1 with ⟨v, e, g1, g2, g3, g4, g5, g6⟩ | ⟨k, v, e, g1, g2, g3, g4⟩
  · obtain ⟨⟨o, M1⟩, hM1, ho, h28, hT1, hf1⟩ := g6
    have ho' : o = 1 := ho
    subst ho'
    have h28' : M1.1 0 28 = v := h28
    rw [g5, q_bd2, hM1, q_bd2, if_neg (show ¬ (1 : Int32) = 0 by decide), q_ck (by omega) (by omega), q_tn (by omega), q_nm, h28', q_ck (by omega) (by omega), q_ck (by omega) (by omega)]
    have hf2 : fr (PX 1000 (24 + B)) M (puI M1 7 (24 + B) v) := (hf1.mo PT8_PX).pu (by unfold PX; omega)
    have hfa1 := fa_cat hS.1.1 (q := e) g4
    have hS2 : BS b n e P R B (cat C e) (puI M1 7 (24 + B) v) := hS.go hfa1.1 (hS.1.1.cat g4) hf2 (TkS.go hT1 (by omega))
    refine ok_m (bandD_l (p0 := p0) (v7 := v7) (v10 := v) hN hb (by omega) hS2 hB (hW.cg (by rw [q_gR _ _ _ _ _ _ (by omega), hf1.2 _ _ (by unfold PT8; omega)]) (fun k hk => by rw [q_gR _ _ _ _ _ _ (by omega), hf1.2 _ _ (by unfold PT8; omega)])) ?_ h2 ?_ (q_gS _ _ _ _) hlo ?_) ?_
    · rw [q_gR _ _ _ _ _ _ (by omega), hf1.2 _ _ (by unfold PT8; omega)]; exact h5
    · rw [q_gR _ _ _ _ _ _ (by omega), hf1.2 _ _ (by unfold PT8; omega)]; exact h6
    · have : (999 : Int32).toInt = 999 := by decide
      omega
    · intro C' hC'
      refine ok_m hC' ?_
      intro r hr'
      exact hr'.mv ((hfa1.1).K) (hf2.mo (PX_PY (by omega) (by omega)))
  · rw [g3, q_bd2, g4, q_bd2, if_pos (show (0 : Int32) = 0 from rfl), bdl_0]
    have hk0 : k ≠ 0 := by rcases g1 with rfl | rfl <;> decide
    have hfa1 := fa_cat hS.1.1 (q := e) g2
    have hF := FdX_of (k := k) (pl := nI (sk b n p)) hk0 hS.1 hS.2.2.2 hfa1
    refine ok_m (rD_fa hN hF) ?_
    intro C' hC'
    exact ok_s (LO_bad hk0 (hS.1.z0 hfa1) ((hfa1.1).K) hC' fr.rf)
theorem bandB_l {w4 : Int64} {v2 : Int32} (hN : 6000 ≤ N) (hb : ∀ k, k < 1000 → b k < 256) (hp : p0 ≤ p) (hS : BS b n p P R B C M) (hB : B < 24)
    (hW : WN (M.1 11) (M.1 10) (24 + B) w4) (h5 : M.1 5 (24 + B) = v2) (h2 : ∃ q, q < 3 ∧ v2 = nI q) :
    ok (rBb N v2 w4 C) fun C' => ok (bd2 (zb (mBb N (nI (24 + B)) (M.1 0 26) M)) (j_X11_line_68 N)) fun r => LO b n p0 C M C' r.2 r.1 := by
  unfold rBb mBb
  have hge := sk_ge b n p
  have hpn := hS.1.1.2.2.1
  have hqn := sk_le (b := b) hpn
  rw [skip10 hN hS.1.1, q_bd, q_nm, cat_at, hS.1.2.1, hS.2.2.1.2.1]
  have hfa0 := fa_cat hS.1.1 (q := sk b n p) hqn
  have hS0 : BS b n (sk b n p) P R B (cat C (sk b n p)) M := hS.go hfa0.1 (hS.1.1.cat hqn) fr.rf (by rw [sk_idem hpn]; exact hS.2.2.1)
  rcases numeral_l (lo := -99) (hi := 999) hN (by decide) (by decide) hS0.1 hS0.2.1 hS0.2.2.1 with ⟨v, e, g1, g2, g3, g4, g5, g6⟩ | ⟨k, v, e, g1, g2, g3, g4⟩
  · obtain ⟨⟨o, M1⟩, hM1, ho, h28, hT1, hf1⟩ := g6
    have ho' : o = 1 := ho
    subst ho'
    have h28' : M1.1 0 28 = v := h28
    rw [sk_idem hpn] at g3
    rw [g5, q_bd2, hM1, q_bd2, if_neg (show ¬ (1 : Int32) = 0 by decide), q_ck (by omega) (by omega), q_tn (by omega), q_nm, h28']
    have hf2 : fr (PX 1000 (24 + B)) M (puI M1 6 (24 + B) v) := (hf1.mo PT8_PX).pu (by unfold PX; omega)
    have hfa1 := fa_cat hS0.1.1 (q := e) g4
    have hS2 : BS b n e P R B (cat (cat C (sk b n p)) e) (puI M1 6 (24 + B) v) := hS0.go hfa1.1 (hS0.1.1.cat g4) hf2 (TkS.go hT1 (by omega))
    refine ok_m (bandC_l (p0 := p0) (v8 := v) hN hb (by omega) hS2 hB (hW.cg (by rw [q_gR _ _ _ _ _ _ (by omega), hf1.2 _ _ (by unfold PT8; omega)]) (fun k hk => by rw [q_gR _ _ _ _ _ _ (by omega), hf1.2 _ _ (by unfold PT8; omega)])) ?_ h2 (q_gS _ _ _ _) ?_) ?_
    · rw [q_gR _ _ _ _ _ _ (by omega), hf1.2 _ _ (by unfold PT8; omega)]; exact h5
    · have : (-99 : Int32).toInt = -99 := by decide
      omega
    · intro C' hC'
      refine ok_m hC' ?_
      intro r hr'
      exact hr'.mv (((hfa0.tr hfa1).1).K) (hf2.mo (PX_PY (by omega) (by omega)))
  · rw [g3, q_bd2, g4, q_bd2, if_pos (show (0 : Int32) = 0 from rfl), bdl_0]
    have hk0 : k ≠ 0 := by rcases g1 with rfl | rfl <;> decide
    have hfa1 := fa_cat hS0.1.1 (q := e) g2
    have hF := FdX_of (k := k) (pl := nI (sk b n (sk b n p))) hk0 hS0.1 hS0.2.2.2 hfa1
    refine ok_m (rC_fa hN hF) ?_
    intro C' hC'
    exact ok_s (LO_bad hk0 (hS0.1.z0 hfa1) (((hfa0.tr hfa1).1).K) hC' fr.rf)
theorem bandA_l {v2 : Int32} (hN : 6000 ≤ N) (hb : ∀ k, k < 1000 → b k < 256) (hp : p0 ≤ p) (hS : BS b n p P R B C M) (hB : B < 24)
    (h5 : M.1 5 (24 + B) = v2) (h2 : ∃ q, q < 3 ∧ v2 = nI q) :
    ok (rA N v2 C) fun C' => ok (bd2 (zb (mA N (nI (24 + B)) M)) (j_X11_line_68 N)) fun r => LO b n p0 C M C' r.2 r.1 := by
  have hS0 := hS
  obtain ⟨hZ, hM, hT, hr⟩ := hS
  obtain ⟨z1, rfl, z3, z4⟩ := hZ
  have hn := z1.2.2.2
  have hsk := sk_le (b := cb C) z1.2.2.1
  have hskg := sk_ge (cb C) n p
  have hrf := readFreeWord_e hN z3 z1
  have hbad := fun x => (bad_word hN z3 hr.cnt z1 x).2.2
  have hnm := isName_e (N := N) hT
  unfold rA mA
  generalize hq : sk (cb C) n p = q at hsk hskg hT hrf hbad hnm ⊢
  have hT' := hT
  obtain ⟨t0, t26, t24, t25, t23, t27⟩ := hT'
  by_cases hf : freeW (cb C) n q
  · obtain ⟨hE, hqn⟩ := freeW_tk hsk hf
    have hwle := wE_le (b := cb C) hsk
    obtain ⟨f1, f2, f3⟩ := hf
    have hre := hrf.1 ⟨f1, f2, f3⟩
    obtain ⟨tw1, tw2⟩ := tw_pos f1 f2
    have hnm1 := hnm.1 ⟨f1, f2, f3⟩
    have hlet : ∀ i, i < wE (cb C) n q - q → letP (cb C) (q + i) = true := wE_in
    generalize he : wE (cb C) n q = e at hE hwle f1 f2 f3 hre tw1 hlet
    have hfr := fwS_fr C q e
    have hfa1 : FA n C (fwS C q e) := fa_fw z1 hsk hwle
    have hbn := bandNamed_e (rr := 38) (w := tw (cb C) n q) (C := fwS C q e) hN (by rw [hfr.2 _ _ (by unfold PF; omega)]; exact hr.2.1.1) hr.2.1.2.1
    rw [hfr.1] at hbn
    have hW : ∀ i, i < B → WN (M.1 11) (M.1 10) (24 + i) (C.2 42 i) := fun i hi => (hr.2.1.2.2.1 i hi).1
    rw [hnm1, q_bd, if_neg (show ¬ (1 : Int32) = 0 by decide)]
    simp only [q_jp]
    rw [bandDup_e (C := C) hN hM (q := q) (e := e) (by omega) hwle f2 hlet t26 (by rw [t27, hE]) (by omega) hW, ← tw1]
    have hnw : f_X5_readNewWord N C = if fst1 (fun i => decide (C.2 42 i = tw (cb C) n q)) B < B then some (tw (cb C) n q, failS 3 (nI q) (fwS C q e)) else some (tw (cb C) n q, fwS C q e) := by
      unfold f_X5_readNewWord
      rw [hre, q_bd2, hbn, q_bd]
      by_cases hd : fst1 (fun i => decide (C.2 42 i = tw (cb C) n q)) B < B
      · rw [if_pos hd, if_pos hd, if_neg (show ¬ nI (fst1 (fun i => decide (C.2 42 i = tw (cb C) n q)) B) = -1 by rw [q_m1 (by have := hr.2.1.2.1; omega)]; exact fun w => w), f37, fail_e, q_bd]
      · rw [if_neg hd, if_neg hd, if_pos rfl]
    rw [hnw]
    by_cases hd : fst1 (fun i => decide (C.2 42 i = tw (cb C) n q)) B < B
    · rw [if_pos hd, if_pos hd, q_bd2]
      unfold j_X11_bandLine_163
      rw [wrong_e, q_bd2, bdl_0, t26]
      have hF := FdX_of (k := 3) (pl := nI q) (by decide) hS0.1 hr hfa1
      refine ok_m (rBb_fa hN hF) ?_
      intro C' hC'
      exact ok_s (LO_bad (by decide) (hS0.1.z0 hfa1) ((hfa1.1).K) hC' fr.rf)
    · rw [if_neg hd, if_neg hd, q_bd2]
      unfold j_X11_bandLine_179
      rw [q_ck (by omega) (by omega), q_tn (by omega), q_nm, q_nm, q_jp, q_jp, t27, t26, hE, q_sub (by omega)]
      have hf1 : fr (PX 1000 (24 + B)) M (puI M 11 (24 + B) (nI (e - q))) := fr.rf.pu (by unfold PX; omega)
      have g26 : (puI M 11 (24 + B) (nI (e - q))).1 0 26 = nI q := by rw [q_gR _ _ _ _ _ _ (by omega)]; exact t26
      have g27 : (puI M 11 (24 + B) (nI (e - q))).1 0 27 = nI e := by rw [q_gR _ _ _ _ _ _ (by omega), t27, hE]
      have g23 : (puI M 11 (24 + B) (nI (e - q))).1 0 23 = nI e := by rw [q_gR _ _ _ _ _ _ (by omega), t23, hE]
      have g11 : (puI M 11 (24 + B) (nI (e - q))).1 11 (24 + B) = nI (e - q) := q_gS _ _ _ _
      have g5 : (puI M 11 (24 + B) (nI (e - q))).1 5 (24 + B) = v2 := by rw [q_gR _ _ _ _ _ _ (by omega)]; exact h5
      rw [g26]
      generalize puI M 11 (24 + B) (nI (e - q)) = S14 at hf1 g26 g27 g23 g11 g5 ⊢
      have hone : ∀ S', fr (PX 1000 (24 + B)) M S' → (∀ r k, r ≠ 10 → S'.1 r k = S14.1 r k) → (∀ k, k < e - q → S'.1 10 (12 * (24 + B) + k) = nI (cb C (q + k))) → ok (rBb N v2 (tw (cb C) n q) (fwS C q e)) fun C' => ok (bd2 (zb (j_X11_bandLine_235 N (nI (24 + B)) S')) (j_X11_line_68 N)) fun r => LO (cb C) n p0 C M C' r.2 r.1 := by
        intro S' hfS hS1 hSl
        have hB2 := hM.px hfS
        obtain ⟨M2, hM2, hT2, hf2⟩ := mtake hN hB2 (p := e) hwle (by rw [hS1 0 23 (by omega)]; exact g23)
        rw [m235_eq, hM2, q_bd, q_nm]
        have hf12 : fr (PX 1000 (24 + B)) M M2 := hfS.tr (hf2.mo PT_PX)
        have hS2 : BS (cb C) n e P R B (fwS C q e) M2 := hS0.go hfa1.1 (fwS_tp z1 hsk hwle) hf12 hT2
        have hWN : WN (M2.1 11) (M2.1 10) (24 + B) (tw (cb C) n q) := by
          refine ⟨e - q, fun k => cb C (q + k), f1, f2, ?_, ?_, ?_⟩
          · rw [hf2.2 _ _ (by unfold PT; omega), hS1 11 _ (by omega)]; exact g11
          · intro k hk
            refine ⟨hlet k hk, ?_⟩
            rw [hf2.2 _ _ (by unfold PT; omega)]
            exact hSl k hk
          · rw [tw1]
            congr 1
            have hle : ∀ i, i < e - q → letP (fun k => cb C (q + k)) (0 + i) = true := by
              intro i hi
              rw [Nat.zero_add]
              exact hlet i hi
            exact (enc_inj hlet hle).mpr ⟨rfl, fun i hi => by rw [Nat.zero_add]⟩
        refine ok_m (bandB_l (p0 := p0) hN hb (by omega) hS2 hB hWN ?_ h2) ?_
        · rw [hf2.2 _ _ (by unfold PT; omega), hS1 5 _ (by omega)]; exact g5
        · intro C' hC'
          refine ok_m hC' ?_
          intro r hr'
          exact hr'.mv ((hfa1.1).K) (hf12.mo (PX_PY (by omega) (by omega)))
      -- the copying loop ends in one state
      obtain ⟨S', hS', e1, e2, e3⟩ : ∃ S', lp (fun _ _ => none) (b_X11_bandLine_199 (nI (24 + B)) (j_X11_bandLine_235 N (nI (24 + B)))) N (nI q) S14 = j_X11_bandLine_235 N (nI (24 + B)) S' ∧ fr (PX 1000 (24 + B)) M S' ∧ (∀ r k, r ≠ 10 → S'.1 r k = S14.1 r k) ∧ (∀ k, k < e - q → S'.1 10 (12 * (24 + B) + k) = nI (cb C (q + k))) := by
        have := bandCopyE (k235 := j_X11_bandLine_235 N (nI (24 + B))) hN hM (q := q) (e := e) (bt := 24 + B) (by omega) hwle f2 (by omega) hf1 g26 g27
        exact this
      rw [hS']
      exact hone S' e1 e2 e3
  · obtain ⟨w, hw⟩ := hbad hf
    rw [hw, q_bd2, hnm.2 hf, q_bd, if_pos rfl, wrong_e, q_bd2, bdl_0, t26]
    have hfa1 : FA n C (fwS C q (wE (cb C) n q)) := fa_fw z1 hsk (wE_le hsk)
    have hF := FdX_of (k := 1) (pl := nI q) (by decide) hS0.1 hr hfa1
    refine ok_m (rBb_fa hN hF) ?_
    intro C' hC'
    exact ok_s (LO_bad (by decide) (hS0.1.z0 hfa1) ((hfa1.1).K) hC' fr.rf)
theorem band_l {q0 e0 : Nat} (hN : 6000 ≤ N) (hb : ∀ k, k < 1000 → b k < 256) (hZ : Zc b n e0 C) (hM : mB b n M) (hT : TkS b n q0 M) (hE : tkE b n q0 = e0) (hr : Zr P R B C M) :
    ok (f_X5_readBand N (nI q0) C) fun C' => ok (bd2 (f_X11_bandLine N M) (j_X11_line_68 N)) fun r => LO b n e0 C M C' r.2 r.1 := by
  have hn := hM.2.2.1
  have hB24 := hr.2.1.2.1
  have hen := hZ.1.2.2.1
  obtain ⟨t0, t26, t24, t25, t23, t27⟩ := hT
  unfold f_X5_readBand
  rw [bandLine_eq, q_jp, hr.2.1.1, hr.2.2.2.2]
  by_cases h24 : B = 24
  · subst h24
    rw [if_neg (by decide), if_pos (by decide), fail_e, q_bd, wrong_e, q_bd2]
    have hF := FdX_of (k := 2) (pl := nI q0) (by decide) hZ hr ⟨fr.rf, _, hZ.1⟩
    refine ok_m (band15_fa hN hF) ?_
    intro C' hC'
    rw [bdl_0, t26]
    exact ok_s (LO_bad (by decide) hZ.2.2.2 frK.rf hC' fr.rf)
  · have h24' : B < 24 := by omega
    have c6 : (nI B < 24) = (B < 24) := q_lt (b := 24) (by omega) (by omega)
    have d6 : (nI B = 24) = (B = 24) := q_eq (b := 24) (by omega) (by omega)
    rw [if_pos (c6 ▸ h24'), if_neg (fun w => h24 (d6 ▸ w)), band15_eq]
    obtain ⟨M1, hM1, hT1, hf1⟩ := mtake hN hM (p := e0) hen (by rw [t23, hE])
    rw [hM1, q_bd, q_nm]
    have hT1' : TkS b n (sk b n e0) M1 := hT1
    have hf1X : fr (PX 1000 (24 + B)) M M1 := hf1.mo PT_PX
    have hS1 : BS b n e0 P R B C M1 := BS.go (p := e0) (M := M1) ⟨hZ, hM.pt hf1, hT1', hr.go (at_ := 1000) (bt := 1000) fr.rf (hf1.mo PT_PX) (fun i hi => by have := hr.1.2.2.1; omega) (fun i hi => by have := hr.1.2.2.2.1; omega) (fun i hi => by omega)⟩ fr.rf hZ.1 fr.rf hT1'
    have e24 : (24 : Int32) + nI B = nI (24 + B) := q_add 24 B
    rw [hS1.2.2.2.2.2.2.2, e24]
    have hge := sk_ge b n e0
    rcases numeral_l (lo := 0) (hi := 2) hN (by decide) (by decide) hS1.1 hS1.2.1 hS1.2.2.1 with ⟨v, e, g1, g2, g3, g4, g5, g6⟩ | ⟨k, v, e, g1, g2, g3, g4⟩
    · obtain ⟨⟨o, M2⟩, hM2, ho, h28, hT2, hf2⟩ := g6
      have ho' : o = 1 := ho
      subst ho'
      have h28' : M2.1 0 28 = v := h28
      rw [g5, q_bd2, hM2, q_bd2, if_neg (show ¬ (1 : Int32) = 0 by decide), q_ck (by omega) (by omega), q_tn (by omega), q_nm, h28']
      have hf3 : fr (PX 1000 (24 + B)) M1 (puI M2 5 (24 + B) v) := (hf2.mo PT8_PX).pu (by unfold PX; omega)
      have hfa1 := fa_cat hS1.1.1 (q := e) g4
      have hS2 : BS b n e P R B (cat C e) (puI M2 5 (24 + B) v) := hS1.go hfa1.1 (hS1.1.1.cat g4) hf3 (TkS.go hT2 (by omega))
      have h2 : ∃ q, q < 3 ∧ v = nI q := by
        have l1 : (0 : Int32).toInt = 0 := by decide
        have l9 : (2 : Int32).toInt = 2 := by decide
        refine ⟨v.toInt.toNat, by omega, ?_⟩
        apply Int32.toInt_inj.mp
        rw [nI_toInt (by omega)]
        omega
      refine ok_m (bandA_l (p0 := e0) hN hb (by omega) hS2 h24' (q_gS _ _ _ _) h2) ?_
      intro C' hC'
      refine ok_m hC' ?_
      intro r hr'
      exact hr'.mv ((hfa1.1).K) ((hf1.mo PT_PY).tr (hf3.mo (PX_PY (by omega) (by omega))))
    · rw [g3, q_bd2, g4, q_bd2, if_pos (show (0 : Int32) = 0 from rfl), bdl_0]
      have hk0 : k ≠ 0 := by rcases g1 with rfl | rfl <;> decide
      have hfa1 := fa_cat hS1.1.1 (q := e) g2
      have hF := FdX_of (k := k) (pl := nI (sk b n e0)) hk0 hS1.1 hS1.2.2.2 hfa1
      refine ok_m (rA_fa hN hF) ?_
      intro C' hC'
      exact ok_s (LO_bad hk0 (hS1.1.z0 hfa1) ((hfa1.1).K) hC' (hf1.mo PT_PY))
end BR
