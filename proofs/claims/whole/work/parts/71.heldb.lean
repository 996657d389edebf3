/-! pure part: a clause that is held -/
def wnf (P : Nat) (C : St) (i : Nat) : Int64 := if i < P then C.2 29 i else C.2 30 (i - P)
def PHa (r k : Nat) : Prop := r = 1 ∧ k = 2
theorem PHa_c : ∀ r k, PHa r k → PHc r k := fun _ _ h => Or.inl h
theorem cat_frA (C : St) (q : Nat) : fr PHa C (cat C q) := fr.rf.pu ⟨rfl, rfl⟩
section HE
variable {N P R B : Nat} {b : Nat → Nat} {n p : Nat} {C M : St}
theorem RR.w (h : RR P R B C M) {i : Nat} (hi : i < P + R) : WN (M.1 3) (M.1 2) i (wnf P C i) := by
  obtain ⟨⟨r1, r2, r3, r4, r5, r6, r7⟩, -⟩ := h
  unfold wnf
  by_cases e : i < P
  · rw [if_pos e]
    have := (r5 i e).1
    rw [Nat.zero_add] at this
    exact this
  · rw [if_neg e]
    have := (r6 (i - P) (by omega)).1
    rw [show P + (i - P) = i by omega] at this
    exact this
theorem taken_l {w : Int64} (hN : 6000 ≤ N) (h : RR P R B C M) :
    (fst1 (fun i => decide (wnf P C i = w)) (P + R) < P + R → ∃ m, 0 < m ∧ m < 2 ^ P ∧ M.1 4 (fst1 (fun i => decide (wnf P C i = w)) (P + R)) = nI m ∧ f_X4_placesNamed N 28 w C = some (nI m)) ∧
    (¬ fst1 (fun i => decide (wnf P C i = w)) (P + R) < P + R → f_X4_placesNamed N 28 w C = some 0) := by
  obtain ⟨⟨r1, r2, r3, r4, r5, r6, r7⟩, -⟩ := h
  have hpn := placesNamed_e (w := w) hN r1 r3 r2 r4
  have hpn' : f_X4_placesNamed N 28 w C = some (if fst1 (fun i => decide (C.2 30 i = w)) R < R then C.1 31 (fst1 (fun i => decide (C.2 30 i = w)) R) else if fst1 (fun i => decide (C.2 29 i = w)) P < P then nI (2 ^ fst1 (fun i => decide (C.2 29 i = w)) P) else 0) := hpn
  rw [hpn']
  constructor
  · intro hlt
    have y := fst1_yes hlt
    have hno := fun j => fst1_no (E := fun i => decide (wnf P C i = w)) (n := P + R) (i := j)
    generalize fst1 (fun i => decide (wnf P C i = w)) (P + R) = idx at hlt y hno ⊢
    rw [decide_eq_true_eq] at y
    unfold wnf at y
    by_cases e : idx < P
    · rw [if_pos e] at y
      have hp : fst1 (fun i => decide (C.2 29 i = w)) P = idx := by
        apply fst1_is e (decide_eq_true y)
        intro j hj
        have := hno j hj
        rw [decide_eq_false_iff_not] at this ⊢
        unfold wnf at this
        rw [if_pos (by omega)] at this
        exact this
      have hr : ¬ fst1 (fun i => decide (C.2 30 i = w)) R < R := by
        intro q
        have z := fst1_yes q
        rw [decide_eq_true_eq] at z
        exact r7 _ _ e q (y.trans z.symm)
      have hm := (r5 idx e).2
      rw [Nat.zero_add] at hm
      exact ⟨2 ^ idx, Nat.two_pow_pos _, Nat.pow_lt_pow_right (by decide) e, hm, by rw [if_neg hr, hp, if_pos e]⟩
    · rw [if_neg e] at y
      have hr : fst1 (fun i => decide (C.2 30 i = w)) R = idx - P := by
        apply fst1_is (by omega) (decide_eq_true y)
        intro j hj
        have := hno (P + j) (by omega)
        rw [decide_eq_false_iff_not] at this ⊢
        unfold wnf at this
        rw [if_neg (by omega), Nat.add_sub_cancel_left] at this
        exact this
      obtain ⟨m, m1, m2, m3, m4⟩ := (r6 (idx - P) (by omega)).2
      rw [show P + (idx - P) = idx by omega] at m4
      have m3' : C.1 31 (idx - P) = nI m := m3
      exact ⟨m, m1, m2, m4, by rw [hr, if_pos (by omega), m3']⟩
  · intro hge
    have hle := fst1_le (fun i => decide (wnf P C i = w)) (P + R)
    have hall : ∀ j, j < P + R → wnf P C j ≠ w := by
      intro j hj q
      have := fst1_no (E := fun i => decide (wnf P C i = w)) (n := P + R) (i := j) (by omega)
      rw [decide_eq_false_iff_not] at this
      exact this q
    have hr : ¬ fst1 (fun i => decide (C.2 30 i = w)) R < R := by
      intro q
      have z := fst1_yes q
      rw [decide_eq_true_eq] at z
      have := hall (P + fst1 (fun i => decide (C.2 30 i = w)) R) (by omega)
      unfold wnf at this
      rw [if_neg (by omega), Nat.add_sub_cancel_left] at this
      exact this z
    have hp : ¬ fst1 (fun i => decide (C.2 29 i = w)) P < P := by
      intro q
      have z := fst1_yes q
      rw [decide_eq_true_eq] at z
      have := hall (fst1 (fun i => decide (C.2 29 i = w)) P) (by omega)
      unfold wnf at this
      rw [if_pos q] at this
      exact this z
    rw [if_neg hr, if_neg hp]
/-- a word in both: where it stands and what it is -/
theorem word_l (hN : 6000 ≤ N) (h : HS P R B b n p C M) :
    ∃ M1, (f_X11_word N M = some (if bk b n p < wE b n (bk b n p) then 1 else 0, M1)) ∧ fr PH M M1 ∧ HS P R B b n (wE b n (bk b n p)) (cat C (wE b n (bk b n p))) M1 ∧ M1.1 0 48 = nI (bk b n p) ∧ f_X8_skip N 32 C = some (cat C (bk b n p)) ∧ f_X8_takeWord N (cat C (bk b n p)) = some (tw b n (bk b n p), cat C (wE b n (bk b n p))) ∧ wE b n (bk b n p) ≤ n ∧ p ≤ bk b n p ∧ bk b n p ≤ n := by
  have h0 := h
  obtain ⟨h1, h2, h3, h4, h5, h6⟩ := h
  have hp := h1.2.2.1
  have hq := bk_le (b := b) hp
  have he := wE_le (b := b) hq
  obtain ⟨⟨v, M1⟩, e1, e2, e3, e4, e5⟩ := word_e hN h3 hp h4
  have e2' : v = _ := e2
  subst e2'
  refine ⟨M1, e1, e3, h0.go (cat_frH C _) e3 (h1.cat he) e4, e5, ?_, ?_, he, bk_ge b n p, hq⟩
  · rw [skip32 hN h1, h2]
  · have := takeWord_e hN (h1.cat hq)
    rw [cat_cb, h2, cat_cat] at this
    exact this
theorem sign_l {c : Nat} (hN : 6000 ≤ N) (hc : c < 256) (h : HS P R B b n p C M) :
    ∃ v p' M1, f_X11_isSign N (nI c) M = some (v, M1) ∧ f_X1_readSign N (nI c) C = some (v, cat C p') ∧ fr PH M M1 ∧ HS P R B b n p' (cat C p') M1 ∧ M1.1 0 49 = M.1 0 49 ∧ ((v = 1 ∧ bk b n p < n ∧ b (bk b n p) = c ∧ p' = bk b n p + 1) ∨ (v = 0 ∧ ¬ (bk b n p < n ∧ b (bk b n p) = c) ∧ p' = bk b n p)) := by
  have h0 := h
  obtain ⟨h1, h2, h3, h4, h5, h6⟩ := h
  have hp := h1.2.2.1
  have hq := bk_le (b := b) hp
  obtain ⟨⟨v, M1⟩, e1, e2, e3, e4⟩ := isSign_e hN hc h3 hp h4
  have hcs := csign_e hN hc h1
  rw [h2] at hcs
  rcases e3 with ⟨a1, a2, a3, a4⟩ | ⟨a1, a2, a3⟩
  · have a3' : v = 1 := a3
    subst a3'
    rw [if_pos ⟨a1, a2⟩] at hcs
    exact ⟨1, bk b n p + 1, M1, e1, hcs, e2, h0.go (cat_frH C _) e2 (h1.cat (by omega)) a4, e4, Or.inl ⟨rfl, a1, a2, rfl⟩⟩
  · have a2' : v = 0 := a2
    subst a2'
    rw [if_neg a1] at hcs
    exact ⟨0, bk b n p, M1, e1, hcs, e2, h0.go (cat_frH C _) e2 (h1.cat hq) a3, e4, Or.inr ⟨rfl, a1, rfl⟩⟩
/-- names with commas, regions too -/
theorem names_l (hN : 6000 ≤ N) (k56 : Int32 → St → Option (Int32 × St)) :
    ∀ d p i m N1 N2 (C M : St), n - p < d → d < N1 → d < N2 → 2 * i ≤ p → m < 2 ^ P → HS P R B b n p C M →
    (∃ C', lp (fun _ _ _ _ => none) (b_X1_readNames_9 N 1) N1 (nI m) 1 (nI i) C = some (0, C') ∧ fr PHa C C' ∧ ok (lp (fun _ _ _ => none) (b_X11_isTrue_4 N k56) N2 (nI m) 1 M) fun r => r.1 = 0 ∧ fr PH M r.2) ∨
    (∃ m' p' C' M', 0 < m' ∧ m' < 2 ^ P ∧ p < p' ∧ lp (fun _ _ _ _ => none) (b_X1_readNames_9 N 1) N1 (nI m) 1 (nI i) C = some (nI m', C') ∧ lp (fun _ _ _ => none) (b_X11_isTrue_4 N k56) N2 (nI m) 1 M = k56 (nI m') M' ∧ HS P R B b n p' C' M' ∧ fr PHa C C' ∧ fr PH M M') := by
  intro d
  induction d with
  | zero => intro p i m N1 N2 C M h; omega
  | succ d ih =>
    intro p i m N1 N2 C M hd h1 h2 hi hm hH
    obtain ⟨N1, rfl⟩ : ∃ k, N1 = k + 1 := ⟨N1 - 1, by omega⟩
    obtain ⟨N2, rfl⟩ : ∃ k, N2 = k + 1 := ⟨N2 - 1, by omega⟩
    have hn := hH.1.2.2.2
    have hpn := hH.1.2.2.1
    obtain ⟨M1, w1, w2, w3, w4, w5, w6, w7, w8, w9⟩ := word_l hN hH
    have ih' := ih
    rw [q_lp, q_lp]
    -- what becomes of no more
    have hc0 : ∀ v x (S : St), lp (fun _ _ _ _ => none) (b_X1_readNames_9 N 1) N1 v 0 x S = some (v, S) := by
      intro v x S
      obtain ⟨N1', rfl⟩ : ∃ k, N1 = k + 1 := ⟨N1 - 1, by omega⟩
      rw [q_lp]
      unfold b_X1_readNames_9
      split
      · rfl
      · rw [if_pos rfl]
    have hm0 : ∀ v (S : St), lp (fun _ _ _ => none) (b_X11_isTrue_4 N k56) N2 v 0 S = k56 v S := by
      intro v S
      obtain ⟨N2', rfl⟩ : ∃ k, N2 = k + 1 := ⟨N2 - 1, by omega⟩
      rw [q_lp]
      unfold b_X11_isTrue_4
      rw [if_pos rfl]
    have ihd := fun p' m' C' M' a1 a2 a3 a4 => ih p' (i + 1) m' N1 N2 C' M' a1 (by omega) (by omega) a2 a3 a4
    generalize lp (fun _ _ _ _ => none) (b_X1_readNames_9 N 1) N1 = KC at hc0 ihd ⊢
    generalize lp (fun _ _ _ => none) (b_X11_isTrue_4 N k56) N2 = KM at hm0 ihd ⊢
    unfold b_X1_readNames_9 b_X11_isTrue_4
    rw [if_neg (show ¬ (1000 : Int32) ≤ nI i from nI_ge (b := 1000) (by omega) (by omega)), if_neg (show ¬ (1 : Int32) = 0 by decide), if_neg (show ¬ (1 : Int32) = 0 by decide), w5, q_bd, w6, q_bd2, w1, q_bd2, q_jp, if_neg (show ¬ (1 : Int32) = 0 by decide)]
    generalize hq : bk b n p = q at w1 w3 w4 w5 w6 w7 w8 w9 ⊢
    generalize he : wE b n q = e at w1 w3 w6 w7 ⊢
    have hge := wE_ge b n q
    rw [he] at hge
    have htk := taken_l (w := tw b n q) hN w3.2.2.2.2.1
    unfold j_X1_readNames_53
    by_cases hqe : q < e
    · rw [if_pos hqe, if_neg (show ¬ (1 : Int32) = 0 by decide), w3.2.2.2.2.1.2.2.1, w3.2.2.2.2.1.2.2.2.1, q_add]
      have hP6 := hH.2.2.2.2.1.1.2.2.1
      have hR5 := hH.2.2.2.2.1.1.2.2.2.1
      have hp6 := pw6 hP6
      have hnt := nameTaken_e (many := P + R) (wn := wnf P (cat C e)) (tw0 := tw b n q) hN w3.2.2.1 hqe w7 (by rw [← he]; exact wE_in) (by omega) w3.2.2.2.1 w4 (fun i hi => w3.2.2.2.2.1.w hi) (by unfold tw; rw [he])
      rw [hnt, q_bd]
      by_cases hf : fst1 (fun i => decide (wnf P (cat C e) i = tw b n q)) (P + R) < P + R
      · obtain ⟨m2, t1, t2, t3, t4⟩ := htk.1 hf
        rw [if_pos hf, t4, q_bd, if_neg (nI_ne0 t1 (by omega)), q_nm, q_or, if_pos (nI_pos' (by omega)), q_ck (by omega) (by omega), q_tn (by omega), t3, q_or, q_nm]
        have hm3 : m ||| m2 < 2 ^ P := Nat.or_lt_two_pow hm t2
        have hm4 : 0 < m ||| m2 := q_orpos t1
        obtain ⟨v, p', M2, s1, s2, s3, s4, -, s5⟩ := sign_l (c := 44) hN (by omega) w3
        have s1' : f_X11_isSign N 44 M1 = some (v, M2) := s1
        have s2' : f_X1_readSign N 44 (cat C e) = some (v, cat (cat C e) p') := s2
        rw [s1', s2', q_bd2, q_bd2, q_nm, ← nI_succ]
        have fC : fr PHa C (cat (cat C e) p') := (cat_frA C e).tr (cat_frA _ _)
        have hbg := bk_ge b n e
        rcases s5 with ⟨rfl, s6, s7, rfl⟩ | ⟨rfl, s6, rfl⟩
        · have z0 : p < e := Nat.lt_of_le_of_lt w8 hqe
          have z1 : n - (bk b n e + 1) < d := by clear htk hnt t3 t4 t1 t2 hm3 hm4 hm; omega
          have z2 : 2 * (i + 1) ≤ bk b n e + 1 := by clear htk hnt t3 t4 t1 t2 hm3 hm4 hm; omega
          rcases ihd (bk b n e + 1) (m ||| m2) _ M2 z1 z2 hm3 s4 with ⟨C', x1, x2, x3⟩ | ⟨m', p', C', M', x1, x2, x3, x4, x5, x6, x7, x8⟩
          · exact Or.inl ⟨C', x1, fC.tr x2, ok_m x3 (fun r hr => ⟨hr.1, (w2.tr s3).tr hr.2⟩)⟩
          · exact Or.inr ⟨m', p', C', M', x1, x2, by omega, x4, x5, x6, fC.tr x7, (w2.tr s3).tr x8⟩
        · rw [hc0, hm0]
          exact Or.inr ⟨m ||| m2, bk b n e, _, M2, hm4, hm3, by omega, rfl, rfl, s4, fC, w2.tr s3⟩
      · rw [if_neg hf, htk.2 hf, q_bd, if_pos rfl, if_neg (show ¬ (0 : Int32) ≤ -1 by decide)]
        exact Or.inl ⟨_, rfl, cat_frA C e, ok_s ⟨rfl, w2⟩⟩
    · have htw : tw b n q = 0 := tw_zero (Or.inl (by omega))
      rw [if_neg hqe, if_pos rfl]
      have hno : ¬ fst1 (fun i => decide (wnf P (cat C e) i = tw b n q)) (P + R) < P + R := by
        intro w
        have y := fst1_yes w
        rw [decide_eq_true_eq] at y
        exact (w3.2.2.2.2.1.w w).pos (y.trans htw)
      rw [htk.2 hno, q_bd, if_pos rfl]
      exact Or.inl ⟨_, rfl, cat_frA C e, ok_s ⟨rfl, w2⟩⟩
theorem andn_or (s t u : Nat) : andn (andn s t) u = andn s (t ||| u) := by
  apply Nat.eq_of_testBit_eq
  intro i
  rw [andn_t, andn_t, andn_t, Nat.testBit_or]
  cases s.testBit i <;> cases t.testBit i <;> cases u.testBit i <;> rfl
/-- places taken out -/
theorem outs_l (hN : 6000 ≤ N) (s : Nat) (k133 : Int32 → St → Option (Int32 × St)) :
    ∀ d p i m N1 N2 (C M : St), n - p < d → d < N1 → d < N2 → 2 * i ≤ p → m < 2 ^ P → HS P R B b n p C M →
    (∃ C', lp (fun _ _ _ _ => none) (b_X1_readNames_9 N 0) N1 (nI m) 1 (nI i) C = some (0, C') ∧ fr PHa C C' ∧ ok (lp (fun _ _ _ => none) (b_X11_isTrue_79 N k133) N2 (nI (andn s m)) 1 M) fun r => r.1 = 0 ∧ fr PH M r.2) ∨
    (∃ m' p' C' M', 0 < m' ∧ m' < 2 ^ P ∧ p < p' ∧ lp (fun _ _ _ _ => none) (b_X1_readNames_9 N 0) N1 (nI m) 1 (nI i) C = some (nI m', C') ∧ lp (fun _ _ _ => none) (b_X11_isTrue_79 N k133) N2 (nI (andn s m)) 1 M = k133 (nI (andn s m')) M' ∧ HS P R B b n p' C' M' ∧ fr PHa C C' ∧ fr PH M M') := by
  intro d
  induction d with
  | zero => intro p i m N1 N2 C M h; omega
  | succ d ih =>
    intro p i m N1 N2 C M hd h1 h2 hi hm hH
    obtain ⟨N1, rfl⟩ : ∃ k, N1 = k + 1 := ⟨N1 - 1, by omega⟩
    obtain ⟨N2, rfl⟩ : ∃ k, N2 = k + 1 := ⟨N2 - 1, by omega⟩
    have hn := hH.1.2.2.2
    have hpn := hH.1.2.2.1
    obtain ⟨M1, w1, w2, w3, w4, w5, w6, w7, w8, w9⟩ := word_l hN hH
    rw [q_lp, q_lp]
    have hc0 : ∀ v x (S : St), lp (fun _ _ _ _ => none) (b_X1_readNames_9 N 0) N1 v 0 x S = some (v, S) := by
      intro v x S
      obtain ⟨N1', rfl⟩ : ∃ k, N1 = k + 1 := ⟨N1 - 1, by omega⟩
      rw [q_lp]
      unfold b_X1_readNames_9
      split
      · rfl
      · rw [if_pos rfl]
    have hm0 : ∀ v (S : St), lp (fun _ _ _ => none) (b_X11_isTrue_79 N k133) N2 v 0 S = k133 v S := by
      intro v S
      obtain ⟨N2', rfl⟩ : ∃ k, N2 = k + 1 := ⟨N2 - 1, by omega⟩
      rw [q_lp]
      unfold b_X11_isTrue_79
      rw [if_pos rfl]
    have ihd := fun p' m' C' M' a1 a2 a3 a4 => ih p' (i + 1) m' N1 N2 C' M' a1 (by omega) (by omega) a2 a3 a4
    generalize lp (fun _ _ _ _ => none) (b_X1_readNames_9 N 0) N1 = KC at hc0 ihd ⊢
    generalize lp (fun _ _ _ => none) (b_X11_isTrue_79 N k133) N2 = KM at hm0 ihd ⊢
    unfold b_X1_readNames_9 b_X11_isTrue_79
    rw [if_neg (show ¬ (1000 : Int32) ≤ nI i from nI_ge (b := 1000) (by omega) (by omega)), if_neg (show ¬ (1 : Int32) = 0 by decide), if_neg (show ¬ (1 : Int32) = 0 by decide), w5, q_bd, w6, q_bd2, w1, q_bd2, q_jp, if_pos (show (0 : Int32) = 0 from rfl)]
    generalize hq : bk b n p = q at w1 w3 w4 w5 w6 w7 w8 w9 ⊢
    generalize he : wE b n q = e at w1 w3 w6 w7 ⊢
    have hge := wE_ge b n q
    rw [he] at hge
    have hR := w3.2.2.2.2.1
    have hP6 := hH.2.2.2.2.1.1.2.2.1
    have hp6 := pw6 hP6
    have hpn1 := placeNamed_e (w := tw b n q) hN hR.1.1 hP6
    have hpn2 : f_X4_placeNamed N 28 (tw b n q) (cat C e) = some (if fst1 (fun i => decide ((cat C e).2 29 i = tw b n q)) P < P then nI (2 ^ fst1 (fun i => decide ((cat C e).2 29 i = tw b n q)) P) else 0) := hpn1
    have hcg : fst1 (fun i => decide (wnf P (cat C e) i = tw b n q)) P = fst1 (fun i => decide ((cat C e).2 29 i = tw b n q)) P := by
      apply fst1_cong
      intro i hi
      unfold wnf
      rw [if_pos hi]
    unfold j_X1_readNames_53
    by_cases hqe : q < e
    · rw [if_pos hqe, if_neg (show ¬ (1 : Int32) = 0 by decide), hR.2.2.1]
      have hnt := nameTaken_e (many := P) (wn := wnf P (cat C e)) (tw0 := tw b n q) hN w3.2.2.1 hqe w7 (by rw [← he]; exact wE_in) (by omega) w3.2.2.2.1 w4 (fun i hi => hR.w (by omega)) (by unfold tw; rw [he])
      rw [hnt, q_bd, hpn2, q_bd, hcg]
      by_cases hf : fst1 (fun i => decide ((cat C e).2 29 i = tw b n q)) P < P
      · generalize fst1 (fun i => decide ((cat C e).2 29 i = tw b n q)) P = x at hf ⊢
        have t1 : 0 < 2 ^ x := Nat.two_pow_pos _
        have t2 : 2 ^ x < 2 ^ P := Nat.pow_lt_pow_right (by decide) hf
        rw [if_pos hf, if_pos hf, if_neg (nI_ne0 t1 (by omega)), q_nm, q_or, if_pos (nI_pos' (by omega)), q_shl x (by omega), q_andn, andn_or, q_nm]
        have hm3 : m ||| 2 ^ x < 2 ^ P := Nat.or_lt_two_pow hm t2
        have hm4 : 0 < m ||| 2 ^ x := q_orpos t1
        obtain ⟨v, p', M2, s1, s2, s3, s4, -, s5⟩ := sign_l (c := 44) hN (by omega) w3
        have s1' : f_X11_isSign N 44 M1 = some (v, M2) := s1
        have s2' : f_X1_readSign N 44 (cat C e) = some (v, cat (cat C e) p') := s2
        rw [s1', s2', q_bd2, q_bd2, q_nm, ← nI_succ]
        have fC : fr PHa C (cat (cat C e) p') := (cat_frA C e).tr (cat_frA _ _)
        have hbg := bk_ge b n e
        rcases s5 with ⟨rfl, s6, s7, rfl⟩ | ⟨rfl, s6, rfl⟩
        · rcases ihd (bk b n e + 1) (m ||| 2 ^ x) _ M2 (by omega) (by omega) hm3 s4 with ⟨C', x1, x2, x3⟩ | ⟨m', p', C', M', x1, x2, x3, x4, x5, x6, x7, x8⟩
          · exact Or.inl ⟨C', x1, fC.tr x2, ok_m x3 (fun r hr => ⟨hr.1, (w2.tr s3).tr hr.2⟩)⟩
          · exact Or.inr ⟨m', p', C', M', x1, x2, by omega, x4, x5, x6, fC.tr x7, (w2.tr s3).tr x8⟩
        · rw [hc0, hm0]
          exact Or.inr ⟨m ||| 2 ^ x, bk b n e, _, M2, hm4, hm3, by omega, rfl, rfl, s4, fC, w2.tr s3⟩
      · rw [if_neg hf, if_neg hf, if_pos rfl, if_neg (show ¬ (0 : Int32) ≤ -1 by decide)]
        exact Or.inl ⟨_, rfl, cat_frA C e, ok_s ⟨rfl, w2⟩⟩
    · have htw : tw b n q = 0 := tw_zero (Or.inl (by omega))
      rw [if_neg hqe, if_pos rfl]
      have hno : ¬ fst1 (fun i => decide ((cat C e).2 29 i = tw b n q)) P < P := by
        intro w
        have y := fst1_yes w
        rw [decide_eq_true_eq] at y
        have hw := hR.w (i := fst1 (fun i => decide ((cat C e).2 29 i = tw b n q)) P) (by omega)
        unfold wnf at hw
        rw [if_pos w] at hw
        exact hw.pos (y.trans htw)
      rw [hpn2, if_neg hno, q_bd, if_pos rfl]
      exact Or.inl ⟨_, rfl, cat_frA C e, ok_s ⟨rfl, w2⟩⟩
end HE
