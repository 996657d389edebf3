/-! pure part: names that are new, names that were told, words of bands -/
theorem tp_fail {a pl : Int32} {C : St} {p n : Nat} (h : tp C p n) : tp (failS a pl C) p n := failS_tp h
def PFF (r k : Nat) : Prop := (r = 1 ∧ k = 2) ∨ (r = 3 ∧ 5 ≤ k ∧ k ≤ 7)
theorem failS_fr (a pl : Int32) (C : St) : fr PFF C (failS a pl C) := by
  unfold failS
  split
  · exact (fr.rf.pu (by unfold PFF; omega)).pu (by unfold PFF; omega)
  · exact fr.rf
theorem PF_PFF : ∀ r k, PF r k → PFF r k := by
  intro r k h
  unfold PF at h
  unfold PFF
  omega
theorem frcb2 {C C' : St} (h : fr PFF C C') : cb C' = cb C := by
  funext k
  unfold cb
  rw [h.2 2 k (by unfold PFF; omega)]
theorem failS_is {a pl : Int32} {C : St} (h : C.1 3 5 = 0) (ha : a ≠ 0) : (failS a pl C).1 3 5 = a ∧ (failS a pl C).1 3 6 = pl := by
  unfold failS
  rw [if_pos h]
  constructor <;> simp (disch := omega) only [q_nm, q_jp, q_bd, q_bd2, q_zb0, q_zb1, q_zbn0, q_zbn1, q_z10, q_z11, q_z1n0, q_z1n1, q_lit, q_add, q_mul, q_lt, q_le, q_eq, q_tn, q_ck, q_nm1, q_n1e, q_gS, q_gR, q_gK, q_g2, if_true, if_false]
/-- a faulted state: its fault stays -/
theorem failS_two {a pl a' pl' : Int32} {C : St} (ha : a ≠ 0) : failS a' pl' (failS a pl C) = failS a pl C := by
  by_cases h : C.1 3 5 = 0
  · exact failS_f (by rw [(failS_is h ha).1]; exact ha)
  · rw [failS_f h, failS_f h]
def cnt (C : St) : Prop := ∃ P R B, C.1 38 9 = nI P ∧ P ≤ 6 ∧ C.1 38 10 = nI R ∧ R ≤ 5 ∧ C.1 38 11 = nI B ∧ B ≤ 24
theorem cnt.go {C C' : St} (h : cnt C) (hf : fr PFF C C') : cnt C' := by
  obtain ⟨P, R, B, h1, h2, h3, h4, h5, h6⟩ := h
  refine ⟨P, R, B, ?_, h2, ?_, h4, ?_, h6⟩
  · rw [hf.2 38 9 (by unfold PFF; omega)]; exact h1
  · rw [hf.2 38 10 (by unfold PFF; omega)]; exact h3
  · rw [hf.2 38 11 (by unfold PFF; omega)]; exact h5
theorem Zr.cnt {P R B : Nat} {C M : St} (h : Zr P R B C M) : cnt C := ⟨P, R, B, h.1.1, h.1.2.2.1, h.1.2.1, h.1.2.2.2.1, h.2.1.1, h.2.1.2.1⟩
theorem placesNamed_t {N : Nat} {w : Int64} {C : St} (hN : 6000 ≤ N) (h : cnt C) : ∃ v, f_X4_placesNamed N 38 w C = some v := by
  obtain ⟨P, R, B, h1, h2, h3, h4, h5, h6⟩ := h
  exact ⟨_, placesNamed_e hN h1 h2 h3 h4⟩
theorem bandNamed_t {N : Nat} {w : Int64} {C : St} (hN : 6000 ≤ N) (h : cnt C) : ∃ v, f_X4_bandNamed N 38 w C = some v := by
  obtain ⟨P, R, B, h1, h2, h3, h4, h5, h6⟩ := h
  exact ⟨_, bandNamed_e hN h5 h6⟩
theorem f37 (C : St) (q e : Nat) : (fwS C q e).1 3 7 = nI q := by
  unfold fwS
  rw [cat_o _ _ _ _ (by omega), q_gS]
theorem f37f (a pl : Int32) (C : St) (q e : Nat) : (failS a pl (fwS C q e)).1 3 7 = nI q := by
  unfold failS
  split
  · simp (disch := omega) only [q_nm, q_jp, q_bd, q_bd2, q_zb0, q_zb1, q_zbn0, q_zbn1, q_z10, q_z11, q_z1n0, q_z1n1, q_lit, q_add, q_mul, q_lt, q_le, q_eq, q_tn, q_ck, q_nm1, q_n1e, q_gS, q_gR, q_gK, q_g2, if_true, if_false, f37]
  · exact f37 C q e
/-- where the word isn't free, the three readers of words fault alike -/
theorem bad_word {N : Nat} {C : St} {p n : Nat} (hN : 6000 ≤ N) (hK : KW C) (hc : cnt C) (h : tp C p n) (hb : ¬ freeW (cb C) n (sk (cb C) n p)) :
    (∃ w, f_X5_readNewName N C = some (w, failS 1 (nI (sk (cb C) n p)) (fwS C (sk (cb C) n p) (wE (cb C) n (sk (cb C) n p))))) ∧
    (∃ w, f_X5_readToldName N C = some (w, failS 1 (nI (sk (cb C) n p)) (fwS C (sk (cb C) n p) (wE (cb C) n (sk (cb C) n p))))) ∧
    (∃ w, f_X5_readNewWord N C = some (w, failS 1 (nI (sk (cb C) n p)) (fwS C (sk (cb C) n p) (wE (cb C) n (sk (cb C) n p))))) := by
  have hr := (readFreeWord_e hN hK h).2 hb
  have hc2 : cnt (failS 1 (nI (sk (cb C) n p)) (fwS C (sk (cb C) n p) (wE (cb C) n (sk (cb C) n p)))) := hc.go (((fwS_fr C _ _).mo PF_PFF).tr (failS_fr _ _ _))
  have h1 : (1 : Int32) ≠ 0 := by decide
  refine ⟨?_, ?_, ?_⟩
  · unfold f_X5_readNewName
    obtain ⟨v, hv⟩ := placesNamed_t (w := tw (cb C) n (sk (cb C) n p)) hN hc2
    rw [hr, q_bd2, hv, q_bd]
    refine ⟨tw (cb C) n (sk (cb C) n p), ?_⟩
    split
    · rfl
    · rw [fail_e, q_bd, failS_two h1]
  · unfold f_X5_readToldName
    obtain ⟨v, hv⟩ := placesNamed_t (w := tw (cb C) n (sk (cb C) n p)) hN hc2
    rw [hr, q_bd2, hv, q_bd]
    refine ⟨v, ?_⟩
    split
    · rw [fail_e, q_bd, failS_two h1]
    · rfl
  · unfold f_X5_readNewWord
    obtain ⟨v, hv⟩ := bandNamed_t (w := tw (cb C) n (sk (cb C) n p)) hN hc2
    rw [hr, q_bd2, hv, q_bd]
    refine ⟨tw (cb C) n (sk (cb C) n p), ?_⟩
    split
    · rfl
    · rw [fail_e, q_bd, failS_two h1]
/-- the reference copies a word's letters -/
theorem newName_copy {N : Nat} {b : Nat → Nat} {n q e at_ : Nat} {M S : St} (hN : 6000 ≤ N) (hM : mB b n M) (hqe : q ≤ e) (hen : e ≤ n) (h12 : e - q ≤ 12) (hat : at_ < 24) (hS : fr (PX at_ 1000) M S) (h26 : S.1 0 26 = nI q) (h27 : S.1 0 27 = nI e) (h23 : S.1 0 23 = nI e) (h3 : S.1 3 at_ = nI (e - q)) :
    ok (lp (fun _ _ => none) (b_X11_newName_62 (nI at_) (j_X11_newName_98 N)) N (nI q) S) fun r => r.1 = 1 ∧ TkS b n (sk b n e) r.2 ∧ fr (PX at_ 1000) M r.2 ∧ r.2.1 3 at_ = nI (e - q) ∧ ∀ k, k < e - q → r.2.1 2 (12 * at_ + k) = nI (b (q + k)) := by
  have hn := hM.2.2.1
  refine ok_l2 (fun m v S => ∃ j, v = nI (q + j) ∧ q + j ≤ e ∧ e - (q + j) = m ∧ fr (PX at_ 1000) M S ∧ S.1 0 26 = nI q ∧ S.1 0 27 = nI e ∧ S.1 0 23 = nI e ∧ S.1 3 at_ = nI (e - q) ∧ ∀ k, k < j → S.1 2 (12 * at_ + k) = nI (b (q + k))) ?_ N (e - q) (nI q) S (by omega) ⟨0, rfl, by omega, rfl, hS, h26, h27, h23, h3, fun k hk => by omega⟩
  rintro k m v S ⟨j, rfl, g1, g2, gf, g26, g27, g23, g3, g2l⟩ hk
  unfold b_X11_newName_62
  rw [g27, g26]
  by_cases hj : q + j < e
  · obtain ⟨t1, t2⟩ := (hM.px gf).1 (q + j) (by omega)
    have e1 : (12 : Int32) * nI at_ + nI (q + j) - nI q = nI (12 * at_ + j) := by
      have : nI 12 * nI at_ + nI (q + j) - nI q = nI (12 * at_ + j) := by
        rw [q_mul, q_add, q_sub (by omega)]
        congr 1
        omega
      exact this
    rw [if_neg (by rw [q_le (by omega) (by omega)]; omega), q_ck (by omega) (by omega), e1, q_ck (by omega) (by omega), q_tn (by omega), q_tn (by omega), t1, q_nm, q_nm, ← nI_succ]
    refine hk _ _ _ ?_ ⟨j + 1, rfl, by omega, rfl, gf.pu (by unfold PX; omega), ?_, ?_, ?_, ?_, ?_⟩
    · omega
    · simp (disch := omega) only [q_nm, q_jp, q_bd, q_bd2, q_zb0, q_zb1, q_zbn0, q_zbn1, q_z10, q_z11, q_z1n0, q_z1n1, q_lit, q_add, q_mul, q_lt, q_le, q_eq, q_tn, q_ck, q_nm1, q_n1e, q_gS, q_gR, q_gK, q_g2, if_true, if_false, g26]
    · simp (disch := omega) only [q_nm, q_jp, q_bd, q_bd2, q_zb0, q_zb1, q_zbn0, q_zbn1, q_z10, q_z11, q_z1n0, q_z1n1, q_lit, q_add, q_mul, q_lt, q_le, q_eq, q_tn, q_ck, q_nm1, q_n1e, q_gS, q_gR, q_gK, q_g2, if_true, if_false, g27]
    · simp (disch := omega) only [q_nm, q_jp, q_bd, q_bd2, q_zb0, q_zb1, q_zbn0, q_zbn1, q_z10, q_z11, q_z1n0, q_z1n1, q_lit, q_add, q_mul, q_lt, q_le, q_eq, q_tn, q_ck, q_nm1, q_n1e, q_gS, q_gR, q_gK, q_g2, if_true, if_false, g23]
    · simp (disch := omega) only [q_nm, q_jp, q_bd, q_bd2, q_zb0, q_zb1, q_zbn0, q_zbn1, q_z10, q_z11, q_z1n0, q_z1n1, q_lit, q_add, q_mul, q_lt, q_le, q_eq, q_tn, q_ck, q_nm1, q_n1e, q_gS, q_gR, q_gK, q_g2, if_true, if_false, g3]
    · intro k' hk'
      rw [q_g]
      by_cases e2 : 12 * at_ + k' = 12 * at_ + j
      · have : k' = j := by omega
        subst this
        rw [if_pos ⟨rfl, rfl⟩]
      · rw [if_neg (fun w => e2 w.2)]
        exact g2l k' (by omega)
  · have hje : j = e - q := by omega
    rw [if_pos (by rw [q_le (by omega) (by omega)]; omega)]
    unfold j_X11_newName_98
    refine ok_bd (mtake hN (hM.px gf) hen g23) ?_
    rintro M' ⟨w1, w2⟩
    refine ok_s ⟨rfl, w1, gf.tr (w2.mo PT_PX), ?_, ?_⟩
    · rw [w2.2 3 at_ (by unfold PT; omega)]; exact g3
    · intro k' hk'
      rw [w2.2 2 _ (by unfold PT; omega)]
      exact g2l k' (by omega)
/-- a new name -/
theorem newName_l {N : Nat} {b : Nat → Nat} {n p P R B at_ : Nat} {C M : St} (hN : 6000 ≤ N) (hZ : Zc b n p C) (hM : mB b n M) (hT : TkS b n (sk b n p) M) (hr : Zr P R B C M) (hat : at_ < 24) :
    (∃ w e, sk b n p < e ∧ e ≤ n ∧ f_X5_readNewName N C = some (w, fwS C (sk b n p) e) ∧ (∀ i, i < P → C.2 39 i ≠ w) ∧ (∀ i, i < R → C.2 40 i ≠ w) ∧ ok (f_X11_newName N (nI at_) M) fun r => r.1 = 1 ∧ TkS b n (sk b n e) r.2 ∧ fr (PX at_ 1000) M r.2 ∧ WN (r.2.1 3) (r.2.1 2) at_ w) ∨
    (∃ k w e, (k = 1 ∨ k = 3) ∧ e ≤ n ∧ f_X5_readNewName N C = some (w, failS k (nI (sk b n p)) (fwS C (sk b n p) e)) ∧ f_X11_newName N (nI at_) M = some (0, wrongS k (nI (sk b n p)) M)) := by
  obtain ⟨z1, rfl, z3, z4⟩ := hZ
  have hn := z1.2.2.2
  have hp6 := pw6 hr.1.2.2.1
  have hsk := sk_le (b := cb C) z1.2.2.1
  have hrf := readFreeWord_e hN z3 z1
  have hbad := fun x => bad_word hN z3 hr.cnt z1 x
  have hnm := isName_e (N := N) hT
  generalize hq : sk (cb C) n p = q at hsk hT hrf hbad hnm ⊢
  have hT' := hT
  obtain ⟨t0, t26, t24, t25, t23, t27⟩ := hT'
  by_cases hf : freeW (cb C) n q
  · obtain ⟨hE, hqn⟩ := freeW_tk hsk hf
    have hwle := wE_le (b := cb C) hsk
    obtain ⟨f1, f2, f3⟩ := hf
    have hre := hrf.1 ⟨f1, f2, f3⟩
    obtain ⟨tw1, tw2⟩ := tw_pos f1 f2
    generalize he : wE (cb C) n q = e at hE hwle f1 f2 f3 hre tw1
    have hlet : ∀ i, i < e - q → letP (cb C) (q + i) = true := by rw [← he]; exact wE_in
    have hfr := fwS_fr C q e
    have hr2 : RN 38 12 18 P R (fwS C q e) M := hr.1.go (hfr.2 _ _ (by unfold PF; omega)) (hfr.2 _ _ (by unfold PF; omega)) (fun i _ => by rw [hfr.1]) (fun i _ => by rw [hfr.1]) (fun i _ => hfr.2 _ _ (by unfold PF; omega)) (fun i _ => ⟨rfl, rfl, fun _ _ => rfl⟩) (fun i _ => ⟨rfl, rfl, fun _ _ => rfl⟩)
    have hread := nameRead_e (C := fwS C q e) hN hM (p := q) (e := e) (by omega) hwle f2 hlet hr2 hr.2.2.1 hr.2.2.2.1
    rw [← tw1, hfr.1] at hread
    rcases hread with ⟨r1, r2, r3, r4⟩ | ⟨idx, m, r1, r2, r3, r4, r5, r6⟩
    · left
      refine ⟨tw (cb C) n q, e, by omega, hwle, ?_, r3, r4, ?_⟩
      · unfold f_X5_readNewName
        rw [hre, q_bd2, r2, q_bd, if_pos rfl]
      · unfold f_X11_newName
        apply ok_zb
        rw [hnm.1 ⟨by rw [he]; exact f1, by rw [he]; exact f2, by rw [he]; exact f3⟩, q_bd, if_neg (by decide), t26, t27, hE, r1, q_bd, if_pos (by decide), q_ck (by omega) (by omega), q_tn (by omega), q_sub (by omega), q_nm, q_nm, q_jp, q_jp]
        have g26 : (puI M 3 at_ (nI (e - q))).1 0 26 = nI q := by simp (disch := omega) only [q_nm, q_jp, q_bd, q_bd2, q_zb0, q_zb1, q_zbn0, q_zbn1, q_z10, q_z11, q_z1n0, q_z1n1, q_lit, q_add, q_mul, q_lt, q_le, q_eq, q_tn, q_ck, q_nm1, q_n1e, q_gS, q_gR, q_gK, q_g2, if_true, if_false, t26]
        rw [g26]
        refine ok_m (newName_copy hN hM (by omega) hwle f2 hat (fr.rf.pu (by unfold PX; omega)) g26 (by simp (disch := omega) only [q_nm, q_jp, q_bd, q_bd2, q_zb0, q_zb1, q_zbn0, q_zbn1, q_z10, q_z11, q_z1n0, q_z1n1, q_lit, q_add, q_mul, q_lt, q_le, q_eq, q_tn, q_ck, q_nm1, q_n1e, q_gS, q_gR, q_gK, q_g2, if_true, if_false, t27, hE]) (by simp (disch := omega) only [q_nm, q_jp, q_bd, q_bd2, q_zb0, q_zb1, q_zbn0, q_zbn1, q_z10, q_z11, q_z1n0, q_z1n1, q_lit, q_add, q_mul, q_lt, q_le, q_eq, q_tn, q_ck, q_nm1, q_n1e, q_gS, q_gR, q_gK, q_g2, if_true, if_false, t23, hE]) (by simp (disch := omega) only [q_nm, q_jp, q_bd, q_bd2, q_zb0, q_zb1, q_zbn0, q_zbn1, q_z10, q_z11, q_z1n0, q_z1n1, q_lit, q_add, q_mul, q_lt, q_le, q_eq, q_tn, q_ck, q_nm1, q_n1e, q_gS, q_gR, q_gK, q_g2, if_true, if_false])) ?_
        rintro ⟨v, M'⟩ ⟨w1, w2, w3, w4, w5⟩
        refine ⟨Or.inr w1, w1, w2, w3, e - q, fun k => cb C (q + k), f1, f2, w4, ?_, ?_⟩
        · intro k hk
          exact ⟨hlet k hk, w5 k hk⟩
        · rw [tw1]
          congr 1
          have hle : ∀ i, i < e - q → letP (fun k => cb C (q + k)) (0 + i) = true := by
            intro i hi
            rw [Nat.zero_add]
            exact hlet i hi
          exact (enc_inj hlet hle).mpr ⟨rfl, fun i hi => by rw [Nat.zero_add]⟩
    · right
      refine ⟨3, tw (cb C) n q, e, Or.inr rfl, hwle, ?_, ?_⟩
      · unfold f_X5_readNewName
        rw [hre, q_bd2, r6, q_bd, if_neg (nI_ne0 r3 (by omega)), f37, fail_e, q_bd]
      · unfold f_X11_newName
        rw [hnm.1 ⟨by rw [he]; exact f1, by rw [he]; exact f2, by rw [he]; exact f3⟩, q_bd, if_neg (by decide), t26, t27, hE, r1, q_bd, if_neg (nI_pos (by omega)), wrong_e, q_bd2]
        rfl
  · right
    obtain ⟨⟨w, hw⟩, -, -⟩ := hbad hf
    refine ⟨1, w, wE (cb C) n q, Or.inl rfl, wE_le hsk, hw, ?_⟩
    unfold f_X11_newName
    rw [hnm.2 hf, q_bd, if_pos rfl, wrong_e, q_bd2, t26]
    rfl
/-- a name that was told -/
theorem told_l {N : Nat} {b : Nat → Nat} {n p P R B : Nat} {C M : St} (hN : 6000 ≤ N) (hZ : Zc b n p C) (hM : mB b n M) (hT : TkS b n (sk b n p) M) (hr : Zr P R B C M) :
    (∃ idx m e, sk b n p < e ∧ e ≤ n ∧ f_X5_readToldName N C = some (nI m, fwS C (sk b n p) e) ∧ f_X11_isName N M = some 1 ∧ f_X11_nameRead N (M.1 0 26) (M.1 0 27) M = some (nI idx) ∧ idx < 24 ∧ M.1 4 idx = nI m ∧ 0 < m ∧ m < 2 ^ P ∧ M.1 0 23 = nI e) ∨
    (∃ k v e, (k = 1 ∨ k = 4) ∧ e ≤ n ∧ f_X5_readToldName N C = some (v, failS k (nI (sk b n p)) (fwS C (sk b n p) e)) ∧ ((k = 1 ∧ f_X11_isName N M = some 0) ∨ (k = 4 ∧ f_X11_isName N M = some 1 ∧ f_X11_nameRead N (M.1 0 26) (M.1 0 27) M = some (-1)))) := by
  obtain ⟨z1, rfl, z3, z4⟩ := hZ
  have hn := z1.2.2.2
  have hp6 := pw6 hr.1.2.2.1
  have hsk := sk_le (b := cb C) z1.2.2.1
  have hrf := readFreeWord_e hN z3 z1
  have hbad := fun x => bad_word hN z3 hr.cnt z1 x
  have hnm := isName_e (N := N) hT
  generalize hq : sk (cb C) n p = q at hsk hT hrf hbad hnm ⊢
  have hT' := hT
  obtain ⟨t0, t26, t24, t25, t23, t27⟩ := hT'
  by_cases hf : freeW (cb C) n q
  · obtain ⟨hE, hqn⟩ := freeW_tk hsk hf
    have hwle := wE_le (b := cb C) hsk
    have hn1 := hnm.1 hf
    obtain ⟨f1, f2, f3⟩ := hf
    have hre := hrf.1 ⟨f1, f2, f3⟩
    obtain ⟨tw1, tw2⟩ := tw_pos f1 f2
    generalize he : wE (cb C) n q = e at hE hwle f1 f2 f3 hre tw1
    have hlet : ∀ i, i < e - q → letP (cb C) (q + i) = true := by rw [← he]; exact wE_in
    have hfr := fwS_fr C q e
    have hr2 : RN 38 12 18 P R (fwS C q e) M := hr.1.go (hfr.2 _ _ (by unfold PF; omega)) (hfr.2 _ _ (by unfold PF; omega)) (fun i _ => by rw [hfr.1]) (fun i _ => by rw [hfr.1]) (fun i _ => hfr.2 _ _ (by unfold PF; omega)) (fun i _ => ⟨rfl, rfl, fun _ _ => rfl⟩) (fun i _ => ⟨rfl, rfl, fun _ _ => rfl⟩)
    have hread := nameRead_e (C := fwS C q e) hN hM (p := q) (e := e) (by omega) hwle f2 hlet hr2 hr.2.2.1 hr.2.2.2.1
    rw [← tw1, hfr.1] at hread
    rw [t26, t27, hE]
    rcases hread with ⟨r1, r2, r3, r4⟩ | ⟨idx, m, r1, r2, r3, r4, r5, r6⟩
    · right
      refine ⟨4, 0, e, Or.inr rfl, hwle, ?_, Or.inr ⟨rfl, hn1, r1⟩⟩
      unfold f_X5_readToldName
      rw [hre, q_bd2, r2, q_bd, if_pos rfl, f37, fail_e, q_bd]
    · left
      refine ⟨idx, m, e, by omega, hwle, ?_, hn1, r1, r2, r5, r3, r4, by rw [t23, hE]⟩
      unfold f_X5_readToldName
      rw [hre, q_bd2, r6, q_bd, if_neg (nI_ne0 r3 (by omega))]
  · right
    obtain ⟨-, ⟨w, hw⟩, -⟩ := hbad hf
    exact ⟨1, w, wE (cb C) n q, Or.inl rfl, wE_le hsk, hw, Or.inl ⟨rfl, hnm.2 hf⟩⟩
