/-! pure part: held, whole -/
section RRs
variable {P R B : Nat} {C M : St}
theorem RR.b (h : RR P R B C M) {i : Nat} (hi : i < B) : WN (M.1 11) (M.1 10) i (C.2 32 i) ∧ (∃ q, q < 3 ∧ C.1 33 i = nI q) ∧ M.1 5 i = C.1 33 i ∧ M.1 6 i = C.1 34 i ∧ M.1 7 i = C.1 35 i ∧ -99 ≤ (C.1 34 i).toInt ∧ (C.1 34 i).toInt < (C.1 35 i).toInt ∧ (C.1 35 i).toInt ≤ 999 ∧ (∃ g, 1 ≤ g ∧ g ≤ 9 ∧ C.1 36 i = nI g) ∧ M.1 8 i = C.1 36 i ∧ (C.1 37 i = 0 ∨ C.1 37 i = 1) ∧ M.1 9 i = C.1 37 i := by
  have := h.2.1.2.2.1 i hi
  unfold bOK at this
  rw [Nat.zero_add] at this
  exact this
theorem RR.mb (h : RR P R B C M) : MB P R B M := by
  have h0 := h
  obtain ⟨⟨r1, r2, r3, r4, r5, r6, r7⟩, ⟨b1, b2, b3, b4⟩, x3, x4, x8⟩ := h
  refine ⟨x3, x4, x8, r3, r4, b2, ?_, ?_⟩
  · intro i hi
    obtain ⟨a1, a2, a3, a4, a5, a6, a7, a8, a9, a10, a11, a12⟩ := h0.b hi
    obtain ⟨s, l, s1, s2, s3, -⟩ := a1.l
    rw [a3, a4, a5, a10, a12]
    exact ⟨a2, a6, a7, a8, a9, a11, s, s1, s2, s3⟩
  · intro i j hij hj
    obtain ⟨-, -, c3, c4, c5, -⟩ := h0.b (show i < B by omega)
    obtain ⟨-, -, d3, d4, d5, -⟩ := h0.b hj
    rw [c3, c4, c5, d3, d4, d5]
    exact b4 i j hij hj
theorem RR.cr (h : RR P R B C M) (ht : ∀ k, k < 432 → C.1 49 k = M.1 14 k) : CR P R B C M := by
  refine ⟨h.1.1, h.1.2.1, h.2.1.1, ?_, ht⟩
  intro i hi
  obtain ⟨-, -, c3, c4, c5, -, -, -, -, c10, -, c12⟩ := h.b hi
  exact ⟨c3.symm, c4.symm, c5.symm, c10.symm, c12.symm⟩
theorem RR.hw (h : RR P R B C M) : HW P R B C M := ⟨h.1.1, h.1.2.1, h.1.2.2.1, h.1.2.2.2.1, fun n hn => h.w hn, fun i hi => (h.b hi).1⟩
theorem RR.mem (h : RR P R B C M) : memOK P R (memM M) ∧ ∀ i, i < P + R → M.1 4 i = nI (memM M i) := by
  obtain ⟨⟨r1, r2, r3, r4, r5, r6, r7⟩, -⟩ := h
  have hp6 := pw6 r3
  have hm : ∀ i, i < P + R → ∃ m, m < 2 ^ P ∧ M.1 4 i = nI m ∧ (i < P → m = 2 ^ i) := by
    intro i hi
    by_cases e : i < P
    · have := (r5 i e).2
      rw [Nat.zero_add] at this
      exact ⟨2 ^ i, Nat.pow_lt_pow_right (by decide) e, this, fun _ => rfl⟩
    · obtain ⟨m, m1, m2, m3, m4⟩ := (r6 (i - P) (by omega)).2
      rw [show P + (i - P) = i by omega] at m4
      exact ⟨m, m2, m4, fun w => absurd w e⟩
  have hmm : ∀ i, i < P + R → memM M i < 2 ^ P ∧ M.1 4 i = nI (memM M i) ∧ (i < P → memM M i = 2 ^ i) := by
    intro i hi
    obtain ⟨m, m1, m2, m3⟩ := hm i hi
    have : memM M i = m := by unfold memM; rw [m2, q_tn (by omega)]
    rw [this]
    exact ⟨m1, m2, m3⟩
  exact ⟨⟨r3, r4, fun i hi => (hmm i (by omega)).2.2 hi, fun i hi => (hmm i hi).1⟩, fun i hi => (hmm i hi).2.1⟩
theorem RR.mn (h : RR P R B C M) (hg : ∀ s, 0 < s → s < 2 ^ P → M.1 12 s = nI (Gn (memM M) (P + R) s) ∧ M.1 13 s = nI (Go (memM M) (P + R) s)) : MN P R B M := ⟨h.2.2.1, h.2.2.2.1, h.1.2.2.1, h.1.2.2.2.1, h.2.1.2.1, fun n hn => (h.w hn).l, fun b hb => (h.b hb).1.l, h.mem.1, hg⟩
end RRs
def finT (N : Nat) (v6 v14 v20 v27 : Int32) (S29 : St) : Option (Int32 × St) := if v27 < v20 then some (0, S29) else if 23 < v27 then some (0, S29) else if v6 = 0 then some (0, S29) else jp (lp (fun _ => none) (b_X11_isTrue_345 N v6 v14 v20 v27 S29) N) fun k345 => k345 0
def hrl (d h : Nat) : Prop := d ≤ 100000 ∧ h ≤ 999 ∧ (h ≤ 99 → d = h) ∧ (99 < h → 99 < d)
section HI
variable {N P R B : Nat} {b : Nat → Nat} {n p : Nat} {C M : St}
theorem dE_digs {s : Nat} : ∀ i, i < dE b n s - s → digP b (s + i) = true := fun i hi => dE_in i hi
theorem hours_l {v6 : Int32} {bi : Nat} (hN : 6000 ≤ N) (h : HS P R B b n p C M) :
    (∃ C', f_X1_readHours N C = some (0, C') ∧ fr PHc C C' ∧ ok (j_X11_isTrue_269 N v6 M (nI bi) 1) fun r => r.1 = 0 ∧ fr PH M r.2) ∨
    (∃ f1 t1 f2 t2 p' C' M', f_X1_readHours N C = some (1, C') ∧ C'.1 4 3 = nI f1 ∧ C'.1 4 4 = nI t1 ∧ C'.1 4 1 = C.1 4 1 ∧ C'.1 4 2 = C.1 4 2 ∧ j_X11_isTrue_269 N v6 M (nI bi) 1 = finT N v6 (nI bi) (nI f2) (nI t2) M' ∧ hrl f1 f2 ∧ hrl t1 t2 ∧ HS P R B b n p' C' M' ∧ p ≤ p' ∧ fr PHc C C' ∧ fr PH M M') := by
  have hn := h.1.2.2.2
  obtain ⟨M1, d1, d2, d3, d4, d5, d6⟩ := digits_l hN h
  have hbk := bk_ge b n p
  have hdg := dE_ge b n (bk b n p)
  have hhd := hv_dv (b := b) (s := bk b n p) (j := dE b n (bk b n p) - bk b n p) dE_digs
  have hdl := dv_le b (bk b n p) (dE b n (bk b n p) - bk b n p)
  unfold f_X1_readHours j_X11_isTrue_269
  rw [d5, q_bd, d6, q_bd2, q_nm, q_gS, if_neg (show ¬ (1 : Int32) = 0 by decide), d1, q_bd2]
  generalize hq : bk b n p = q at d1 d3 d4 d5 d6 hbk hdg hhd hdl ⊢
  generalize he : dE b n q = e at d1 d3 d4 d6 hdg hhd hdl ⊢
  by_cases hqe : q < e
  · have htd : td b n q = nI (dv b q (e - q)) := by unfold td; rw [he, if_neg (by omega)]
    rw [if_pos hqe, if_neg (show ¬ (1 : Int32) = 0 by decide), htd, if_neg (by rw [q_m1 (by omega)]; exact fun w => w), q_nm, d4]
    generalize hf1 : dv b q (e - q) = f1 at hhd hdl ⊢
    generalize hf2 : hv b q (e - q) = f2 at hhd d4 ⊢
    have hr1 : hrl f1 f2 := ⟨hdl, hhd.1, hhd.2.1, hhd.2.2⟩
    have fC1 : fr PHc (cat C e) (puI (cat C e) 4 3 (nI f1)) := fr.rf.pu (by unfold PHc; omega)
    have ht1 : tp (puI (cat C e) 4 3 (nI f1)) e n := by
      obtain ⟨a1, a2, a3, a4⟩ := d3.1
      exact ⟨by rw [q_gR _ _ _ _ _ _ (by omega)]; exact a1, by rw [q_gR _ _ _ _ _ _ (by omega)]; exact a2, a3, a4⟩
    have h1 : HS P R B b n e (puI (cat C e) 4 3 (nI f1)) M1 := d3.go fC1 fr.rf ht1 d3.2.2.2.1
    have c43 : (puI (cat C e) 4 3 (nI f1)).1 4 3 = nI f1 := q_gS _ _ _ _
    have c41 : (puI (cat C e) 4 3 (nI f1)).1 4 1 = C.1 4 1 := by rw [q_gK _ _ _ _ _ _ (by omega), cat_o _ _ _ _ (by omega)]
    have c42 : (puI (cat C e) 4 3 (nI f1)).1 4 2 = C.1 4 2 := by rw [q_gK _ _ _ _ _ _ (by omega), cat_o _ _ _ _ (by omega)]
    have fCC : fr PHc C (puI (cat C e) 4 3 (nI f1)) := (cat_frH C e).tr fC1
    generalize puI (cat C e) 4 3 (nI f1) = C1 at fC1 ht1 h1 c43 c41 c42 fCC ⊢
    obtain ⟨v, p2, M2, s1, s2, s3, s4, -, s5⟩ := sign_l (c := 45) hN (by omega) h1
    have s1' : f_X11_isSign N 45 M1 = some (v, M2) := s1
    have s2' : f_X1_readSign N 45 C1 = some (v, cat C1 p2) := s2
    rw [s1', s2', q_bd2, q_bd2]
    have fC2 : fr PHc C (cat C1 p2) := fCC.tr (cat_frH _ _)
    have fM2 : fr PH M M2 := d2.tr s3
    have hb2 := bk_ge b n e
    rcases s5 with ⟨rfl, s6, s7, s8⟩ | ⟨rfl, s6, s8⟩
    · rw [if_neg (show ¬ (1 : Int32) = 0 by decide), if_neg (show ¬ (1 : Int32) = 0 by decide)]
      obtain ⟨M3, e1, e2, e3, e4, e5, e6⟩ := digits_l hN s4
      have gbk := bk_ge b n p2
      have gdg := dE_ge b n (bk b n p2)
      have ghd := hv_dv (b := b) (s := bk b n p2) (j := dE b n (bk b n p2) - bk b n p2) dE_digs
      have gdl := dv_le b (bk b n p2) (dE b n (bk b n p2) - bk b n p2)
      rw [e5, q_bd, e6, q_bd2, q_nm, q_gS, e1, q_bd2]
      generalize gq : bk b n p2 = q2 at e1 e3 e4 e5 e6 gbk gdg ghd gdl ⊢
      generalize ge : dE b n q2 = e2' at e1 e3 e4 e6 gdg ghd gdl ⊢
      have k43 : ∀ x, (cat (cat C1 p2) x).1 4 3 = nI f1 := fun x => by rw [cat_o _ _ _ _ (by omega), cat_o _ _ _ _ (by omega)]; exact c43
      have k41 : ∀ x, (cat (cat C1 p2) x).1 4 1 = C.1 4 1 := fun x => by rw [cat_o _ _ _ _ (by omega), cat_o _ _ _ _ (by omega)]; exact c41
      have k42 : ∀ x, (cat (cat C1 p2) x).1 4 2 = C.1 4 2 := fun x => by rw [cat_o _ _ _ _ (by omega), cat_o _ _ _ _ (by omega)]; exact c42
      by_cases hqe2 : q2 < e2'
      · have htd2 : td b n q2 = nI (dv b q2 (e2' - q2)) := by unfold td; rw [ge, if_neg (by omega)]
        rw [if_pos hqe2, if_neg (show ¬ (1 : Int32) = 0 by decide), htd2, if_neg (by rw [q_m1 (by omega)]; exact fun w => w), q_nm, e4]
        generalize hg1 : dv b q2 (e2' - q2) = t1 at ghd gdl ⊢
        generalize hg2 : hv b q2 (e2' - q2) = t2 at ghd e4 ⊢
        have hr2 : hrl t1 t2 := ⟨gdl, ghd.1, ghd.2.1, ghd.2.2⟩
        have fC3 : fr PHc (cat (cat C1 p2) e2') (puI (cat (cat C1 p2) e2') 4 4 (nI t1)) := fr.rf.pu (by unfold PHc; omega)
        have ht3 : tp (puI (cat (cat C1 p2) e2') 4 4 (nI t1)) e2' n := by
          obtain ⟨a1, a2, a3, a4⟩ := e3.1
          exact ⟨by rw [q_gR _ _ _ _ _ _ (by omega)]; exact a1, by rw [q_gR _ _ _ _ _ _ (by omega)]; exact a2, a3, a4⟩
        have h3 : HS P R B b n e2' (puI (cat (cat C1 p2) e2') 4 4 (nI t1)) M3 := e3.go fC3 fr.rf ht3 e3.2.2.2.1
        have l44 : (puI (cat (cat C1 p2) e2') 4 4 (nI t1)).1 4 4 = nI t1 := q_gS _ _ _ _
        have l43 : (puI (cat (cat C1 p2) e2') 4 4 (nI t1)).1 4 3 = nI f1 := by rw [q_gK _ _ _ _ _ _ (by omega)]; exact k43 _
        have l41 : (puI (cat (cat C1 p2) e2') 4 4 (nI t1)).1 4 1 = C.1 4 1 := by rw [q_gK _ _ _ _ _ _ (by omega)]; exact k41 _
        have l42 : (puI (cat (cat C1 p2) e2') 4 4 (nI t1)).1 4 2 = C.1 4 2 := by rw [q_gK _ _ _ _ _ _ (by omega)]; exact k42 _
        have fC4 : fr PHc C (puI (cat (cat C1 p2) e2') 4 4 (nI t1)) := (fC2.tr (cat_frH _ _)).tr fC3
        generalize puI (cat (cat C1 p2) e2') 4 4 (nI t1) = C4 at fC3 ht3 h3 l44 l43 l41 l42 fC4 ⊢
        obtain ⟨v', p5, M5, y1, y2, y3, y4, -, y5⟩ := sign_l (c := 46) hN (by omega) h3
        have y1' : f_X11_isSign N 46 M3 = some (v', M5) := y1
        have y2' : f_X1_readSign N 46 C4 = some (v', cat C4 p5) := y2
        rw [y1', y2', q_bd2, q_bd2]
        have fC5 : fr PHc C (cat C4 p5) := fC4.tr (cat_frH _ _)
        have fM5 : fr PH M M5 := (fM2.tr e2).tr y3
        have hb5 := bk_ge b n e2'
        rcases y5 with ⟨rfl, y6, y7, y8⟩ | ⟨rfl, y6, y8⟩
        · right
          rw [if_neg (show ¬ (1 : Int32) = 0 by decide), if_neg (show ¬ (1 : Int32) = 0 by decide)]
          refine ⟨f1, t1, f2, t2, p5, _, M5, rfl, ?_, ?_, ?_, ?_, rfl, hr1, hr2, y4, by omega, fC5, fM5⟩
          · rw [cat_o _ _ _ _ (by omega)]; exact l43
          · rw [cat_o _ _ _ _ (by omega)]; exact l44
          · rw [cat_o _ _ _ _ (by omega)]; exact l41
          · rw [cat_o _ _ _ _ (by omega)]; exact l42
        · left
          rw [if_pos (show (0 : Int32) = 0 from rfl), if_pos (show (0 : Int32) = 0 from rfl)]
          exact ⟨_, rfl, fC5, ok_s ⟨rfl, fM5⟩⟩
      · left
        have htd2 : td b n q2 = -1 := by unfold td; rw [ge, if_pos (by omega)]
        rw [if_neg hqe2, if_pos (show (0 : Int32) = 0 from rfl), htd2, if_pos rfl]
        exact ⟨_, rfl, (fC2.tr (cat_frH _ _)).pu (by unfold PHc; omega), ok_s ⟨rfl, fM2.tr e2⟩⟩
    · left
      rw [if_pos (show (0 : Int32) = 0 from rfl), if_pos (show (0 : Int32) = 0 from rfl)]
      exact ⟨_, rfl, fC2, ok_s ⟨rfl, fM2⟩⟩
  · left
    have htd : td b n q = -1 := by unfold td; rw [he, if_pos (by omega)]
    rw [if_neg hqe, if_pos (show (0 : Int32) = 0 from rfl), htd, if_pos rfl]
    exact ⟨_, rfl, (cat_frH C e).pu (by unfold PHc; omega), ok_s ⟨rfl, d2⟩⟩
/-- whether the clause is true, in both -/
theorem truth_l {s bi f1 t1 f2 t2 : Nat} (hN : 6000 ≤ N) (hB : MB P R B M) (hC : CR P R B C M) (hs : s < 2 ^ P) (hb : bi < B) (c41 : C.1 4 1 = nI s) (c42 : C.1 4 2 = nI bi) (c43 : C.1 4 3 = nI f1) (c44 : C.1 4 4 = nI t1) (hf : hrl f1 f2) (ht : hrl t1 t2) :
    ∃ v : Int32, (v = 0 ∨ v = 1) ∧ f_X10_isTrue N C = some v ∧ finT N (nI s) (nI bi) (nI f2) (nI t2) M = some (v, M) := by
  have hP6 := hB.2.2.2.1
  have hp6 := pw6 hP6
  have hB24 := hB.2.2.2.2.2.1
  obtain ⟨a1, a2, a3, a4⟩ := hf
  obtain ⟨b1, b2, b3, b4⟩ := ht
  unfold f_X10_isTrue finT
  rw [c41, c43, c44]
  have s0 : (nI s = 0) = (s = 0) := q_eq (b := 0) (by omega) (by omega)
  have x24 : (nI t1 < 24) = (t1 < 24) := q_lt (b := 24) (by omega) (by omega)
  have x23 : ((23 : Int32) < nI t2) = (23 < t2) := q_lt (a := 23) (by omega) (by omega)
  by_cases hc : s ≠ 0 ∧ f2 ≤ t2 ∧ t2 ≤ 23
  · obtain ⟨k1, k2, k3⟩ := hc
    have e1 : t1 = t2 := b3 (by omega)
    have e2 : f1 = f2 := a3 (by omega)
    subst e1 e2
    rw [if_neg (show ¬ nI s = 0 from fun w => k1 (s0 ▸ w)), if_neg (show ¬ nI t1 < nI f1 by rw [q_lt (by omega) (by omega)]; omega), if_neg (show ¬ nI t1 < nI f1 by rw [q_lt (by omega) (by omega)]; omega), if_pos (show nI t1 < 24 by rw [x24]; omega), if_neg (show ¬ (23 : Int32) < nI t1 by rw [x23]; omega), if_neg (show ¬ nI s = 0 from fun w => k1 (s0 ▸ w)), q_jp, q_jp]
    -- a place in the class
    have hcp : ∀ p, p < P → f_X10_isInBand N (nI p) C = some (if (∀ h, h < t1 + 1 → f1 ≤ h → inn M bi p h = true) then 1 else 0) := by
      intro p hp
      unfold f_X10_isInBand
      rw [c43, q_nm, q_jp]
      have hsk := seek1 (body := b_X10_isInBand_5 N (nI p) C) (E := fun i => !inn M bi p (f1 + i)) (X := some 1) (Y := fun _ => some 0) (n := t1 + 1 - f1) (a := f1) ?_ ?_ (N := N) (by omega)
      · rw [hsk]
        by_cases hall : ∀ h, h < t1 + 1 → f1 ≤ h → inn M bi p h = true
        · rw [if_pos hall, if_neg]
          · rfl
          · intro w
            have y := fst1_yes w
            rw [hall _ (by omega) (by omega)] at y
            cases y
        · rw [if_neg hall, if_pos]
          · rfl
          · apply Decidable.byContradiction
            intro w
            apply hall
            intro h h1 h2
            have hle := fst1_le (fun i => !inn M bi p (f1 + i)) (t1 + 1 - f1)
            have := fst1_no (E := fun i => !inn M bi p (f1 + i)) (n := t1 + 1 - f1) (i := h - f1) (by omega)
            rw [show f1 + (h - f1) = h by omega, Bool.not_eq_false'] at this
            exact this
      · intro k
        unfold b_X10_isInBand_5
        rw [c44, if_pos (by rw [q_lt (by omega) (by omega)]; omega)]
      · intro k i hi
        unfold b_X10_isInBand_5
        obtain ⟨w, w1, w2⟩ := cIn_e (N := N) (p := p) (h := f1 + i) hB hC hb (by omega) (by omega)
        rw [c44, c42, if_neg (by rw [q_lt (by omega) (by omega)]; omega), q_ck (by omega) (by omega), q_tn (by omega), w1, q_bd, w2, q_bd, q_nm, ← nI_succ]
        by_cases e : inn M bi p (f1 + i) = true
        · rw [if_pos e, if_neg (show ¬ (1 : Int32) = 0 by decide), e, if_neg (by decide)]
        · rw [if_neg e, if_pos (show (0 : Int32) = 0 from rfl), eq_false_of_ne_true e, if_pos (by decide)]
    have hsc := seek1 (body := b_X10_isTrue_31 N C) (E := fun p => decide (s.testBit p = true ∧ ¬ ∀ h, h < t1 + 1 → f1 ≤ h → inn M bi p h = true)) (X := some 1) (Y := fun _ => some 0) (n := P) (a := 0) ?_ ?_ (N := N) (by omega)
    · have hsm := seek1 (body := b_X11_isTrue_345 N (nI s) (nI bi) (nI f1) (nI t1) M) (E := fun p => decide (s.testBit p = true ∧ ¬ ∀ h, h < t1 + 1 → f1 ≤ h → inn M bi p h = true)) (X := some (1, M)) (Y := fun _ => some (0, M)) (n := P) (a := 0) ?_ ?_ (N := N) (by omega)
      · have hsc' : lp (fun _ => none) (b_X10_isTrue_31 N C) N 0 = _ := hsc
        have hsm' : lp (fun _ => none) (b_X11_isTrue_345 N (nI s) (nI bi) (nI f1) (nI t1) M) N 0 = _ := hsm
        rw [hsc', hsm']
        by_cases w : fst1 (fun p => decide (s.testBit p = true ∧ ¬ ∀ h, h < t1 + 1 → f1 ≤ h → inn M bi p h = true)) P < P
        · rw [if_pos w, if_pos w]
          exact ⟨0, Or.inl rfl, rfl, rfl⟩
        · rw [if_neg w, if_neg w]
          exact ⟨1, Or.inr rfl, rfl, rfl⟩
      · intro k
        unfold b_X11_isTrue_345
        rw [hB.1, if_pos (by rw [q_le (by omega) (by omega)]; omega)]
      · intro k i hi
        unfold b_X11_isTrue_345 j_X11_isTrue_396
        rw [Nat.zero_add, hB.1, if_neg (by rw [q_le (by omega) (by omega)]; omega), q_jp, q_jp, q_nm, ← nI_succ]
        simp only [decide_eq_true_eq]
        by_cases eb : s.testBit i = true
        · have hs2 := seek1 (body := b_X11_isTrue_358 N (nI s) (nI bi) (nI t1) M (nI i) (k (nI (i + 1)))) (E := fun j => !inn M bi i (f1 + j)) (X := k (nI (i + 1))) (Y := fun _ => some (0, M)) (n := t1 + 1 - f1) (a := f1) ?_ ?_ (N := N) (by omega)
          · rw [hs2]
            by_cases hall : ∀ h, h < t1 + 1 → f1 ≤ h → inn M bi i h = true
            · rw [if_neg (show ¬ (s.testBit i = true ∧ ¬ ∀ h, h < t1 + 1 → f1 ≤ h → inn M bi i h = true) from fun w => w.2 hall), if_neg]
              intro w
              have y := fst1_yes w
              rw [hall _ (by omega) (by omega)] at y
              cases y
            · rw [if_pos (show s.testBit i = true ∧ ¬ ∀ h, h < t1 + 1 → f1 ≤ h → inn M bi i h = true from ⟨eb, hall⟩), if_pos]
              apply Decidable.byContradiction
              intro w
              apply hall
              intro h h1 h2
              have hle := fst1_le (fun j => !inn M bi i (f1 + j)) (t1 + 1 - f1)
              have := fst1_no (E := fun j => !inn M bi i (f1 + j)) (n := t1 + 1 - f1) (i := h - f1) (by omega)
              rw [show f1 + (h - f1) = h by omega, Bool.not_eq_false'] at this
              exact this
          · intro k2
            unfold b_X11_isTrue_358
            rw [if_pos (by rw [q_lt (by omega) (by omega)]; omega)]
          · intro k2 j hj
            unfold b_X11_isTrue_358
            rw [if_neg (by rw [q_lt (by omega) (by omega)]; omega), q_bitN (by omega), if_pos eb, if_pos (show (1 : Int32) = 1 from rfl), misIn_e hB hb (by omega) (by omega), q_bd, q_nm, ← nI_succ]
            by_cases e : inn M bi i (f1 + j) = true
            · rw [if_pos e, if_neg (show ¬ (1 : Int32) = 0 by decide), e, if_neg (by decide)]
            · rw [if_neg e, if_pos (show (0 : Int32) = 0 from rfl), eq_false_of_ne_true e, if_pos (by decide)]
        · rw [if_neg (show ¬ (s.testBit i = true ∧ ¬ ∀ h, h < t1 + 1 → f1 ≤ h → inn M bi i h = true) from fun w => eb w.1)]
          obtain ⟨N', rfl⟩ : ∃ j, N = j + 1 := ⟨N - 1, by omega⟩
          rw [q_lp]
          generalize lp (fun _ => none) (b_X11_isTrue_358 (N' + 1) (nI s) (nI bi) (nI t1) M (nI i) (k (nI (i + 1)))) N' = K
          unfold b_X11_isTrue_358
          rw [if_neg (by rw [q_lt (by omega) (by omega)]; omega), q_bitN (by omega), if_neg eb, if_neg (show ¬ (0 : Int32) = 1 by decide)]
    · intro k
      unfold b_X10_isTrue_31
      rw [hC.1, if_pos (by rw [q_le (by omega) (by omega)]; omega)]
    · intro k i hi
      unfold b_X10_isTrue_31 j_X10_isTrue_64
      rw [Nat.zero_add, hC.1, if_neg (by rw [q_le (by omega) (by omega)]; omega), c41, hasBit_e N _ (by omega), bt_nI (by omega), q_bd, q_jp, q_nm, ← nI_succ, hcp i hi, q_bd]
      simp only [decide_eq_true_eq]
      by_cases eb : s.testBit i = true
      · rw [if_pos eb, if_neg (show ¬ (1 : Int32) = 0 by decide)]
        by_cases hall : ∀ h, h < t1 + 1 → f1 ≤ h → inn M bi i h = true
        · rw [if_pos hall, if_neg (show ¬ (1 : Int32) = 0 by decide), if_neg (show ¬ (s.testBit i = true ∧ ¬ ∀ h, h < t1 + 1 → f1 ≤ h → inn M bi i h = true) from fun w => w.2 hall)]
        · rw [if_neg hall, if_pos (show (0 : Int32) = 0 from rfl), if_pos (show s.testBit i = true ∧ ¬ ∀ h, h < t1 + 1 → f1 ≤ h → inn M bi i h = true from ⟨eb, hall⟩)]
      · rw [if_neg eb, if_pos (show (0 : Int32) = 0 from rfl), if_neg (show ¬ (s.testBit i = true ∧ ¬ ∀ h, h < t1 + 1 → f1 ≤ h → inn M bi i h = true) from fun w => eb w.1)]
  · refine ⟨0, Or.inl rfl, ?_, ?_⟩
    · by_cases k1 : s = 0
      · rw [if_pos (show nI s = 0 from s0 ▸ k1)]; rfl
      · rw [if_neg (show ¬ nI s = 0 from fun w => k1 (s0 ▸ w))]
        by_cases k2 : t1 < f1
        · rw [if_pos (by rw [q_lt (by omega) (by omega)]; exact k2)]; rfl
        · rw [if_neg (by rw [q_lt (by omega) (by omega)]; exact k2)]
          rw [if_neg (show ¬ nI t1 < 24 by rw [x24]; omega)]; rfl
    · by_cases k2 : t2 < f2
      · rw [if_pos (by rw [q_lt (by omega) (by omega)]; exact k2)]
      · rw [if_neg (by rw [q_lt (by omega) (by omega)]; exact k2)]
        by_cases k3 : 23 < t2
        · rw [if_pos (show (23 : Int32) < nI t2 by rw [x23]; exact k3)]
        · rw [if_neg (show ¬ (23 : Int32) < nI t2 by rw [x23]; exact k3), if_pos (show nI s = 0 by rw [s0]; omega)]
def clC (N : Nat) (C : St) : Option (Int32 × St) := bd2 (f_X1_read N C) fun v11 S12 => if v11 = 0 then some (0, S12) else bd (f_X10_isTrue N S12) fun v14 => some (v14, S12)
theorem clause_l (hN : 6000 ≤ N) (h : HS P R B b n p C M) (ht : ∀ k, k < 432 → C.1 49 k = M.1 14 k) :
    (∃ C' M', clC N C = some (0, C') ∧ f_X11_isTrue N M = some (0, M') ∧ fr PHc C C' ∧ fr PH M M') ∨
    (∃ p' C' M', p < p' ∧ clC N C = some (1, C') ∧ f_X11_isTrue N M = some (1, M') ∧ HS P R B b n p' C' M' ∧ fr PHc C C' ∧ fr PH M M') := by
  have bad : ∀ {x : Option (Int32 × St)}, (ok x fun r => r.1 = 0 ∧ fr PH M r.2) → ∃ M', zb x = some (0, M') ∧ fr PH M M' := by
    rintro x ⟨⟨v, M'⟩, rfl, e1, e2⟩
    have e1' : v = 0 := e1
    subst e1'
    exact ⟨M', rfl, e2⟩
  rw [mIs_eq]
  unfold clC f_X1_read
  rcases places_l hN h with ⟨C', x1, x2, x3⟩ | ⟨s, p1, C1, M1, x1, x2, x3, x4, x5, x6, x7, x8⟩
  · obtain ⟨M', m1, m2⟩ := bad x3
    left
    rw [x1, q_bd2, if_pos rfl, m1]
    exact ⟨C', M', rfl, rfl, x2, m2⟩
  · rw [x3, q_bd2, if_neg (show ¬ (1 : Int32) = 0 by decide), x5]
    rcases band2_l (v6 := nI s) hN x6 with ⟨C', y1, y2, y3⟩ | ⟨bi, p2, C2, M2, y1, y2, y3, y4, y5, y6, y7, y8, y9⟩
    · obtain ⟨M', m1, m2⟩ := bad (ok_m y3 (fun r hr => ⟨hr.1, x8.tr hr.2⟩))
      left
      rw [y1, q_bd2, if_pos rfl, m1]
      exact ⟨C', M', rfl, rfl, x7.tr y2, m2⟩
    · rw [y3, q_bd2, if_neg (show ¬ (1 : Int32) = 0 by decide), y6]
      rcases hours_l (v6 := nI s) (bi := bi) hN y7 with ⟨C', z1, z2, z3⟩ | ⟨f1, t1, f2, t2, p3, C3, M3, z1, z2, z3, z4, z5, z6, z7, z8, z9, z10, z11, z12⟩
      · obtain ⟨M', m1, m2⟩ := bad (ok_m z3 (fun r hr => ⟨hr.1, (x8.tr y9).tr hr.2⟩))
        left
        rw [z1, q_bd2, if_pos rfl, m1]
        exact ⟨C', M', rfl, rfl, (x7.tr y8).tr z2, m2⟩
      · have fC : fr PHc C C3 := (x7.tr y8).tr z11
        have fM : fr PH M M3 := (x8.tr y9).tr z12
        have ht3 : ∀ k, k < 432 → C3.1 49 k = M3.1 14 k := fun k hk => by rw [fC.2 _ _ (by unfold PHc; omega), fM.2 _ _ (by unfold PH; omega)]; exact ht k hk
        have hR3 := z9.2.2.2.2.1
        obtain ⟨v, v1, v2, v3⟩ := truth_l (N := N) (s := s) (bi := bi) hN hR3.mb (hR3.cr ht3) x1 y1 (by rw [z4, y5]; exact x4) (by rw [z5]; exact y4) z2 z3 z7 z8
        have ez : zb (some ((1 : Int32), C3)) = some (1, C3) := rfl
        rw [z1, q_bd2, if_neg (show ¬ (1 : Int32) = 0 by decide), ez, q_bd2, if_neg (show ¬ (1 : Int32) = 0 by decide), v2, q_bd, z6, v3]
        rcases v1 with rfl | rfl
        · exact Or.inl ⟨C3, M3, rfl, rfl, fC, fM⟩
        · exact Or.inr ⟨p3, C3, M3, by omega, rfl, rfl, z9, fC, fM⟩
theorem held26_eq (hN : 6000 ≤ N) (K : Int32 → St → Option (Int32 × St)) {i : Nat} (hi : i < 1000) (hpn : p < n) (h : tp C p n) : b_X10_held_26 N K (nI i) C = bd2 (clC N C) fun v S12 => if v = 0 then some (((-1) - nI p), S12) else nm (nI i + 1) fun v16 => bd (f_X8_skip N 32 S12) fun S17 => K v16 S17 := by
  have hn := h.2.2.2
  unfold b_X10_held_26 clC f_X8_isAtEnd
  rw [if_neg (show ¬ (1000 : Int32) ≤ nI i from nI_ge (b := 1000) hi (by omega)), h.1, h.2.1, if_pos (by rw [q_lt (by omega) (by omega)]; exact hpn)]
  simp only [q_z10, q_bd, q_nm]
  rw [if_pos trivial]
  cases f_X1_read N C with
  | none => rfl
  | some x =>
    obtain ⟨v, S⟩ := x
    simp only [q_bd2]
    by_cases e : v = 0
    · rw [if_pos e, if_pos e]
      rfl
    · rw [if_neg e, if_neg e]
      cases f_X10_isTrue N S with
      | none => rfl
      | some v14 => rfl
theorem held_loop (hN : 6000 ≤ N) : ∀ d p i N1 N2 (C M : St), n - p < d → d < N1 → d < N2 → i ≤ p → bk b n p = p → HS P R B b n p C M → (∀ k, k < 432 → C.1 49 k = M.1 14 k) →
    ∃ v C' M', lp (fun _ _ => none) (b_X10_held_26 N) N1 (nI i) C = some (v, C') ∧ lp (fun _ _ => none) (b_X11_held_42 N) N2 (nI i) M = some (v, M') ∧ fr PHc C C' ∧ fr PH M M' := by
  intro d
  induction d with
  | zero => intro p i N1 N2 C M h; omega
  | succ d ih =>
    intro p i N1 N2 C M hd h1 h2 hi hbk hH ht
    obtain ⟨N1, rfl⟩ : ∃ k, N1 = k + 1 := ⟨N1 - 1, by omega⟩
    obtain ⟨N2, rfl⟩ : ∃ k, N2 = k + 1 := ⟨N2 - 1, by omega⟩
    have hn := hH.1.2.2.2
    have hpn' := hH.1.2.2.1
    rw [q_lp, q_lp]
    by_cases hpn : p < n
    · rw [held26_eq hN _ (by omega) hpn hH.1]
      have ihd := fun p' C' M' a1 a2 a3 a4 a5 => ih p' (i + 1) N1 N2 C' M' a1 (by omega) (by omega) a2 a3 a4 a5
      generalize lp (fun _ _ => none) (b_X10_held_26 N) N1 = KC at ihd ⊢
      generalize lp (fun _ _ => none) (b_X11_held_42 N) N2 = KM at ihd ⊢
      unfold b_X11_held_42
      rw [hH.2.2.1.2.1, hH.2.2.2.1, if_neg (by rw [q_le (by omega) (by omega)]; omega), q_nm]
      rcases clause_l hN hH ht with ⟨C', M', x1, x2, x3, x4⟩ | ⟨p', C', M', x0, x1, x2, x3, x4, x5⟩
      · rw [x1, x2, q_bd2, q_bd2, if_pos rfl, if_pos rfl]
        exact ⟨_, C', M', rfl, rfl, x3, x4⟩
      · rw [x1, x2, q_bd2, q_bd2, if_neg (show ¬ (1 : Int32) = 0 by decide), if_neg (show ¬ (1 : Int32) = 0 by decide), q_nm, q_nm, ← nI_succ, skip32 hN x3.1, x3.2.1, q_bd]
        have hle := x3.1.2.2.1
        have hb := bk_le (b := b) hle
        have hbg := bk_ge b n p'
        obtain ⟨M2, m1, m2, m3, -⟩ := blanks_e hN x3.2.2.1 hle x3.2.2.2.1
        rw [m1, q_bd]
        have hH2 := x3.go (cat_frH C' _) m2 (x3.1.cat hb) m3
        have ht2 : ∀ k, k < 432 → (cat C' (bk b n p')).1 49 k = M2.1 14 k := fun k hk => by rw [cat_o _ _ _ _ (by omega), x4.2 _ _ (by unfold PHc; omega), m2.2 _ _ (by unfold PH; omega), x5.2 _ _ (by unfold PH; omega)]; exact ht k hk
        obtain ⟨v, C3, M3, y1, y2, y3, y4⟩ := ihd (bk b n p') _ M2 (by omega) (by omega) (bk_idem hle) hH2 ht2
        exact ⟨v, C3, M3, y1, y2, (x4.tr (cat_frH _ _)).tr y3, (x5.tr m2).tr y4⟩
    · have hpe : p = n := by omega
      subst hpe
      refine ⟨nI i, C, M, ?_, ?_, fr.rf, fr.rf⟩
      · unfold b_X10_held_26 f_X8_isAtEnd
        rw [hH.1.1, hH.1.2.1, if_neg (show ¬ nI p < nI p by rw [q_lt (by omega) (by omega)]; omega), q_z11, q_bd, if_neg (show ¬ (1 : Int32) = 0 by decide)]
        split <;> rfl
      · unfold b_X11_held_42
        rw [hH.2.2.1.2.1, hH.2.2.2.1, if_pos (by rw [q_le (by omega) (by omega)]; omega)]
end HI
