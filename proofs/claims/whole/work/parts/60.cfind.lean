/-! pure part: the class finds -/
theorem cellOf_in {N q p h : Nat} (hq : q < 3) (hp : p < 6) (hh : h < 24) : f_X7_cellOf N (nI q) (nI p) (nI h) = some (nI (144 * q + 24 * p + h)) := by
  unfold f_X7_cellOf
  have w1 : f_X10_isWithin N (nI q) 0 2 = _ := within_e N (v := q) (a := 0) (b := 2) (by omega) (by omega) (by omega)
  have w2 : f_X10_isWithin N (nI p) 0 5 = _ := within_e N (v := p) (a := 0) (b := 5) (by omega) (by omega) (by omega)
  have w3 : f_X10_isWithin N (nI h) 0 23 = _ := within_e N (v := h) (a := 0) (b := 23) (by omega) (by omega) (by omega)
  rw [w1, w2, w3, if_pos (by omega), if_pos (by omega), if_pos (by omega), q_bd, q_bd, q_bd, if_neg (by decide), if_neg (by decide), if_neg (by decide)]
  have : (nI q * nI 6 + nI p) * nI 24 + nI h = nI (144 * q + 24 * p + h) := by
    rw [q_mul, q_add, q_mul, q_add]
    congr 1
    omega
  exact congrArg some this
theorem at_in {N rr q p h : Nat} {C : St} (hq : q < 3) (hp : p < 6) (hh : h < 24) : f_X7_at N rr (nI q) (nI p) (nI h) C = some (C.1 (rr + 1) (144 * q + 24 * p + h)) := by
  unfold f_X7_at
  rw [cellOf_in hq hp hh, q_bd, if_neg (by rw [q_m1 (by omega)]; exact fun w => w), q_ck (by omega) (by omega), q_tn (by omega)]
/-- the class' rules and table beside the reference's -/
def CR (P R B : Nat) (C M : St) : Prop := C.1 28 9 = nI P ∧ C.1 28 10 = nI R ∧ C.1 28 11 = nI B ∧ (∀ i, i < B → C.1 33 i = M.1 5 i ∧ C.1 34 i = M.1 6 i ∧ C.1 35 i = M.1 7 i ∧ C.1 36 i = M.1 8 i ∧ C.1 37 i = M.1 9 i) ∧ ∀ k, k < 432 → C.1 49 k = M.1 14 k
theorem CR.go {P R B : Nat} {C C' M : St} (h : CR P R B C M) (h28 : ∀ k, C'.1 28 k = C.1 28 k) (hr : ∀ r k, 33 ≤ r → r ≤ 37 → C'.1 r k = C.1 r k) (h49 : ∀ k, C'.1 49 k = C.1 49 k) : CR P R B C' M := by
  obtain ⟨h1, h2, h3, h4, h5⟩ := h
  refine ⟨(h28 9).trans h1, (h28 10).trans h2, (h28 11).trans h3, ?_, fun k hk => (h49 k).trans (h5 k hk)⟩
  intro i hi
  rw [hr 33 i (by omega) (by omega), hr 34 i (by omega) (by omega), hr 35 i (by omega) (by omega), hr 36 i (by omega) (by omega), hr 37 i (by omega) (by omega)]
  exact h4 i hi
section CF
variable {N P R B b p : Nat} {C M : St}
theorem cIn_e {h : Nat} (hB : MB P R B M) (hC : CR P R B C M) (hb : b < B) (hp : p < 6) (hh : h < 24) :
    ∃ v, f_X7_at N 48 (C.1 33 b) (nI p) (nI h) C = some v ∧ f_X4_isIn N 28 (nI b) v C = some (if inn M b p h = true then 1 else 0) := by
  have hB24 := hB.2.2.2.2.2.1
  obtain ⟨⟨q, hq, e5⟩, b6, b67, b7, -⟩ := hB.2.2.2.2.2.2.1 b hb
  obtain ⟨c1, c2, c3, -, -⟩ := hC.2.2.2.1 b hb
  have c2' : C.1 (28 + 6) b = M.1 6 b := c2
  have c3' : C.1 (28 + 7) b = M.1 7 b := c3
  refine ⟨M.1 14 (144 * q + 24 * p + h), ?_, ?_⟩
  · rw [c1, e5, at_in hq hp hh]
    exact congrArg some (hC.2.2.2.2 _ (by omega))
  · unfold f_X4_isIn inn
    rw [e5, q_tn (by omega), q_ck (by omega) (by omega), q_ck (by omega) (by omega), q_tn (by omega), c2', c3']
    generalize M.1 14 (144 * q + 24 * p + h) = v
    simp only [Int32.lt_iff_toInt_lt, Int32.le_iff_toInt_le, decide_eq_true_eq, hh, true_and]
    by_cases c1 : v.toInt < (M.1 6 b).toInt
    · rw [if_pos c1, if_neg (by omega)]; rfl
    · rw [if_neg c1]
      by_cases c2 : (M.1 7 b).toInt ≤ v.toInt
      · rw [if_pos c2, if_neg (by omega)]; rfl
      · rw [if_neg c2, if_pos (by omega)]; rfl
theorem bt_pow {h i : Nat} (hh : h < 31) (hi : i < 32) : bt ((1 : Int32) <<< (nI h &&& 31)) i = decide (i = h) := by
  rw [q_shl h hh, bt_nI hi, Nat.testBit_two_pow]
  by_cases e : i = h
  · rw [e]
  · rw [decide_eq_false e, decide_eq_false (fun w => e w.symm)]
theorem seekHours_e (hN : 6000 ≤ N) (hB : MB P R B M) (hC : CR P R B C M) (hb : b < B) (hp : p < 6) :
    ok (f_X2_seekHours N (nI b) (nI p) C) fun v => ∀ i, i < 32 → bt v i = inn M b p i := by
  have hB24 := hB.2.2.2.2.2.1
  unfold f_X2_seekHours
  rw [q_jp]
  refine ok_l2 (fun m v x => ∃ h, x = nI h ∧ h ≤ 24 ∧ 24 - h = m ∧ ∀ i, i < 32 → bt v i = (decide (i < h) && inn M b p i)) ?_ N 24 0 0 (by omega) ⟨0, rfl, by omega, rfl, fun i hi => by rw [b_0]; simp⟩
  rintro K m v x ⟨h, rfl, h1, h2, h3⟩ hK
  unfold b_X2_seekHours_6 j_X2_seekHours_43
  by_cases hh : h < 24
  · obtain ⟨w, w1, w2⟩ := cIn_e (N := N) (p := p) (h := h) hB hC hb hp hh
    rw [if_neg (show ¬ (24 : Int32) ≤ nI h from nI_ge (b := 24) hh (by omega)), q_ck (by omega) (by omega), q_tn (by omega), w1, q_bd, w2, q_bd, q_jp]
    simp only [q_nm]
    rw [← nI_succ]
    by_cases e : inn M b p h = true
    · rw [if_pos e, if_neg (by decide)]
      refine hK _ _ _ ?_ ⟨h + 1, rfl, by omega, rfl, ?_⟩
      · omega
      · intro i hi
        rw [b_or, h3 i hi, bt_pow (by omega) hi]
        by_cases e2 : i = h
        · subst e2
          simp [e]
        · have : (i < h + 1) = (i < h) := by apply propext; omega
          simp [e2, this]
    · rw [if_neg e, if_pos rfl]
      refine hK _ _ _ ?_ ⟨h + 1, rfl, by omega, rfl, ?_⟩
      · omega
      · intro i hi
        rw [h3 i hi]
        by_cases e2 : i = h
        · subst e2
          simp [e]
        · have : (i < h + 1) = (i < h) := by apply propext; omega
          simp [this]
  · have : h = 24 := by omega
    subst this
    rw [if_pos (by decide)]
    apply ok_s
    intro i hi
    rw [h3 i hi]
    by_cases e : i < 24
    · rw [decide_eq_true e, Bool.true_and]
    · rw [decide_eq_false e, inn_24 (by omega)]; rfl
theorem endOf_e {I : Nat → Bool} {v : Int32} {f : Nat} (hN : 6000 ≤ N) (hv : ∀ i, i < 32 → bt v i = I i) (h24 : I 24 = false) (hf : f < 24) (hI : I f = true) :
    ∃ t, f_X2_endOf N v (nI f) = some (nI t) ∧ f ≤ t ∧ t < 24 ∧ I (t + 1) = false ∧ ∀ h, h < t + 1 → f ≤ h → I h = true := by
  have : ok (f_X2_endOf N v (nI f)) fun x => ∃ t, x = nI t ∧ f ≤ t ∧ t < 24 ∧ I (t + 1) = false ∧ ∀ h, h < t + 1 → f ≤ h → I h = true := by
    unfold f_X2_endOf
    rw [q_jp]
    have hone : ∀ h, h < f + 1 → f ≤ h → I h = true := by
      intro h a c
      have : h = f := by omega
      rw [this]; exact hI
    refine ok_l1 (fun m x => ∃ t, x = nI t ∧ f ≤ t ∧ t < 24 ∧ 24 - t = m ∧ ∀ h, h < t + 1 → f ≤ h → I h = true) ?_ N (24 - f) (nI f) (by omega) ⟨f, rfl, by omega, hf, rfl, hone⟩
    rintro K m x ⟨t, rfl, h1, h2, h3, h4⟩ hK
    unfold b_X2_endOf_2
    rw [← nI_succ]
    by_cases ht : t + 1 < 24
    · rw [if_neg (show ¬ (24 : Int32) ≤ nI (t + 1) from nI_ge (b := 24) ht (by omega)), hasBit_e N v (by omega), hv _ (by omega), q_bd]
      by_cases e : I (t + 1) = true
      · rw [if_pos e, if_neg (by decide), q_nm]
        refine hK _ _ ?_ ⟨t + 1, rfl, by omega, ht, rfl, ?_⟩
        · omega
        · intro h a c
          by_cases e2 : h = t + 1
          · rw [e2]; exact e
          · exact h4 h (by omega) c
      · rw [if_neg e, if_pos rfl]
        exact ok_s ⟨t, rfl, h1, h2, eq_false_of_ne_true e, h4⟩
    · have : t = 23 := by omega
      subst this
      rw [if_pos (by decide)]
      exact ok_s ⟨23, rfl, h1, h2, h24, h4⟩
  obtain ⟨x, hx, t, rfl, h⟩ := this
  exact ⟨t, hx, h⟩
def Pc (r k : Nat) : Prop := (r = 8 ∧ k = 4) ∨ (9 ≤ r ∧ r ≤ 14)
def FC (l : List F4) (C : St) : Prop := C.1 8 4 = nI l.length ∧ AL 9 C l
theorem cappend_e {b f t s : Nat} {l : List F4} (hl : l.length < 432) (h : FC l C) : ∃ C', f_X2_append N (nI b) (nI f) (nI t) (nI s) C = some C' ∧ fr (fun r k => (r = 8 ∧ k = 4) ∨ (9 ≤ r ∧ r ≤ 12)) C C' ∧ FC (l ++ [(b, f, t, s)]) C' := by
  unfold f_X2_append
  have h4 := h.1
  have x1 : (puI C 9 l.length (nI b)).1 8 4 = nI l.length := by rw [q_gR _ _ _ _ _ _ (by omega)]; exact h4
  have x2 : (puI (puI C 9 l.length (nI b)) 10 l.length (nI f)).1 8 4 = nI l.length := by rw [q_gR _ _ _ _ _ _ (by omega)]; exact x1
  have x3 : (puI (puI (puI C 9 l.length (nI b)) 10 l.length (nI f)) 11 l.length (nI t)).1 8 4 = nI l.length := by rw [q_gR _ _ _ _ _ _ (by omega)]; exact x2
  have x4 : (puI (puI (puI (puI C 9 l.length (nI b)) 10 l.length (nI f)) 11 l.length (nI t)) 12 l.length (nI s)).1 8 4 = nI l.length := by rw [q_gR _ _ _ _ _ _ (by omega)]; exact x3
  simp only [q_nm]
  rw [h4, if_neg (show ¬ (432 : Int32) ≤ nI l.length from nI_ge (b := 432) hl (by omega)), q_ck (by omega) (by omega), q_tn (by omega), x1, q_ck (by omega) (by omega), q_tn (by omega), x2, q_ck (by omega) (by omega), q_tn (by omega), x3, q_ck (by omega) (by omega), q_tn (by omega), x4, ← nI_succ]
  refine ⟨_, rfl, ((((fr.rf.pu (by omega)).pu (by omega)).pu (by omega)).pu (by omega)).pu (by omega), ?_, h.2.add ?_ ?_ ?_ ?_ ?_⟩
  · rw [q_gS, List.length_append]; rfl
  · intro r k h1 h2 h3
    rw [q_gR _ _ _ _ _ _ (by omega), q_gK _ _ _ _ _ _ (by omega), q_gK _ _ _ _ _ _ (by omega), q_gK _ _ _ _ _ _ (by omega), q_gK _ _ _ _ _ _ (by omega)]
  · rw [q_gR _ _ _ _ _ _ (by omega), q_gR _ _ _ _ _ _ (by omega), q_gR _ _ _ _ _ _ (by omega), q_gR _ _ _ _ _ _ (by omega), q_gS]
  · rw [q_gR _ _ _ _ _ _ (by omega), q_gR _ _ _ _ _ _ (by omega), q_gR _ _ _ _ _ _ (by omega), q_gS]
  · rw [q_gR _ _ _ _ _ _ (by omega), q_gR _ _ _ _ _ _ (by omega), q_gS]
  · rw [q_gR _ _ _ _ _ _ (by omega), q_gS]
theorem fset_S {E : Nat → Bool} {k : Nat} : fset E (k + 1) = fset E k ||| (if E k = true then 2 ^ k else 0) := rfl
/-- the findings that begin at an hour -/
theorem findFrom_e {f : Nat} {l : List F4} {I : Nat → Nat → Bool} (hN : 6000 ≤ N) (hP : P ≤ 6) (hf : f < 24) (hI : ∀ p, p < P → I p 24 = false) (h13 : ∀ p, p < P → ∀ i, i < 32 → bt (C.1 13 p) i = I p i) (h14 : ∀ t, t < 24 → C.1 14 t = 0) (hFC : FC l C)
    (hlen : ∀ t, t < 24 → (l ++ FT (fun t => fset (fun p => runsP (I p) f t) P) b f (t + 1)).length ≤ 432) :
    ok (f_X2_findFrom N (nI P) (nI b) (nI f) C) fun C' => fr (fun r k => (r = 8 ∧ k = 4) ∨ (9 ≤ r ∧ r ≤ 12) ∨ r = 14) C C' ∧ FC (l ++ FT (fun t => fset (fun p => runsP (I p) f t) P) b f 24) C' ∧ ∀ t, t < 24 → C'.1 14 t = 0 := by
  have hp6 := pow_le (a := P) (b := 6) hP
  unfold f_X2_findFrom
  rw [q_jp, q_jp]
  refine ok_l3 (fun m v x S => ∃ p, x = nI p ∧ p ≤ P ∧ P - p = m ∧ fr (fun r _ => r = 14) C S ∧ (∀ t, t < 24 → S.1 14 t = nI (fset (fun p => runsP (I p) f t) p)) ∧ (v = 0 → ∀ t, t < 24 → fset (fun p => runsP (I p) f t) p = 0)) ?_ N P 0 0 C (by omega) ⟨0, rfl, by omega, rfl, fr.rf, h14, fun _ t _ => rfl⟩
  rintro K m v x S ⟨p, rfl, h1, h2, h3, h4, h5⟩ hK
  unfold b_X2_findFrom_6 j_X2_findFrom_68
  by_cases hp : p < P
  · rw [if_neg (by rw [q_le (by omega) (by omega)]; omega), q_ck (by omega) (by omega), q_ck (by omega) (by omega), q_tn (by omega), h3.2 13 p (by omega)]
    simp only [q_nm, q_jp]
    rw [← nI_succ]
    have hv := h13 p hp
    have e1 : (1 : Int32) &&& 31 = nI 1 &&& 31 := rfl
    have hbeg : bt ((C.1 13 p) &&& (((C.1 13 p) <<< ((1 : Int32) &&& 31)) ^^^ (-1))) f = (I p f && (decide (f = 0) || !I p (f - 1))) := by
      rw [e1, b_and, b_xor, b_m1 f (by omega), b_shl 1 (by omega) _ (by omega), hv f (by omega), hv (f - 1) (by omega)]
      by_cases h0 : f = 0
      · subst h0
        simp
      · have : 1 ≤ f := by omega
        simp [h0, this]
    rw [hasBit_e N _ (by omega), hbeg, q_bd]
    by_cases hb : (I p f && (decide (f = 0) || !I p (f - 1))) = true
    · rw [if_pos hb, if_neg (by decide), q_ck (by omega) (by omega)]
      rw [Bool.and_eq_true, Bool.or_eq_true, decide_eq_true_eq, Bool.not_eq_true'] at hb
      obtain ⟨t, t1, t2, t3, t4, t5⟩ := endOf_e hN hv (hI p hp) hf hb.1
      rw [t1, q_bd, q_ck (by omega) (by omega), q_ck (by omega) (by omega), q_tn (by omega), h4 t t3, q_shl p (by omega), q_or]
      have hr : ∀ t', runsP (I p) f t' = decide (t' = t) := by
        intro t'
        by_cases e : t' = t
        · rw [decide_eq_true e, e]
          unfold runsP
          rw [decide_eq_true_eq]
          exact ⟨t2, hb.2, t4, t5⟩
        · rw [decide_eq_false e]
          apply eq_false_of_ne_true
          intro w
          have w2 : runsP (I p) f t = true := by unfold runsP; rw [decide_eq_true_eq]; exact ⟨t2, hb.2, t4, t5⟩
          rcases Nat.lt_or_gt_of_ne e with q | q
          · exact runsP_uniq q w w2
          · exact runsP_uniq q w2 w
      refine hK _ _ _ _ ?_ ⟨p + 1, rfl, by omega, rfl, h3.pu rfl, ?_, ?_⟩
      · omega
      · intro t' ht'
        rw [q_g, fset_S, hr]
        by_cases e : t' = t
        · subst e
          rw [if_pos ⟨rfl, rfl⟩, decide_eq_true rfl, if_pos rfl]
        · rw [if_neg (fun w => e w.2), decide_eq_false e, if_neg (by decide), Nat.or_zero]
          exact h4 t' ht'
      · intro w
        exact absurd w (by decide)
    · rw [if_neg hb, if_pos rfl]
      have hr : ∀ t', runsP (I p) f t' = false := by
        intro t'
        apply eq_false_of_ne_true
        intro w
        apply hb
        have w1 := runsP_in w
        unfold runsP at w
        rw [decide_eq_true_eq] at w
        rw [Bool.and_eq_true, Bool.or_eq_true, decide_eq_true_eq, Bool.not_eq_true']
        exact ⟨w1, w.2.1⟩
      have hs : ∀ t', fset (fun p => runsP (I p) f t') (p + 1) = fset (fun p => runsP (I p) f t') p := by
        intro t'
        rw [fset_S, hr, if_neg (by decide), Nat.or_zero]
      refine hK _ _ _ _ ?_ ⟨p + 1, rfl, by omega, rfl, h3, ?_, ?_⟩
      · omega
      · intro t' ht'
        rw [hs]
        exact h4 t' ht'
      · intro w t' ht'
        rw [hs]
        exact h5 w t' ht'
  · have hpP : p = P := by omega
    subst hpP
    rw [if_pos (by rw [q_le (by omega) (by omega)]; omega)]
    unfold j_X2_findFrom_74
    rw [q_jp]
    have hF0 : FC l S := ⟨by rw [h3.2 8 4 (by omega)]; exact hFC.1, hFC.2.go (fun r k a c _ => h3.2 r k (by omega))⟩
    have hz : ∀ k, k ≤ f → FT (fun t => fset (fun p => runsP (I p) f t) p) b f k = [] := by
      intro k
      induction k with
      | zero => intro _; rfl
      | succ k ih =>
        intro hk
        unfold FT
        have : fset (fun p => runsP (I p) f k) p = 0 := Sf_lo (I := fun _ => I) (b := 0) (show k < f by omega)
        rw [ih (by omega), this]
        rfl
    have hlo : ∀ t, t < f → fset (fun p => runsP (I p) f t) p = 0 := fun t ht => Sf_lo (I := fun _ => I) (b := 0) ht
    by_cases hv0 : v = 0
    · have hz2 : ∀ k, k ≤ 24 → FT (fun t => fset (fun p => runsP (I p) f t) p) b f k = [] := by
        intro k
        induction k with
        | zero => intro _; rfl
        | succ k ih =>
          intro hk
          unfold FT
          rw [ih (by omega), h5 hv0 k (by omega)]
          rfl
      obtain ⟨N', rfl⟩ : ∃ j, N = j + 1 := ⟨N - 1, by omega⟩
      rw [q_lp]
      unfold b_X2_findFrom_77
      rw [if_neg (show ¬ (24 : Int32) ≤ nI f from nI_ge (b := 24) hf (by omega)), if_pos hv0]
      refine ok_s ⟨h3.mo (fun r k w => by omega), ?_, fun t ht => ?_⟩
      · rw [hz2 24 (Nat.le_refl _), List.append_nil]; exact hF0
      · rw [h4 t ht, h5 hv0 t ht]; rfl
    · refine ok_up (n := 24 - f) f (fun j S' => fr (fun r k => (r = 8 ∧ k = 4) ∨ (9 ≤ r ∧ r ≤ 12) ∨ r = 14) C S' ∧ FC (l ++ FT (fun t => fset (fun p => runsP (I p) f t) p) b f (f + j)) S' ∧ (∀ t, t < f + j → S'.1 14 t = 0) ∧ ∀ t, f + j ≤ t → t < 24 → S'.1 14 t = nI (fset (fun p => runsP (I p) f t) p)) ?_ ?_ (by omega) ⟨h3.mo (fun r k w => by omega), ?_, ?_, ?_⟩
      · rintro K2 S' ⟨c1, c2, c3, c4⟩
        have e : f + (24 - f) = 24 := by omega
        rw [e] at c2 c3 ⊢
        unfold b_X2_findFrom_77
        rw [if_pos (by decide)]
        exact ok_s ⟨c1, c2, c3⟩
      · rintro K2 j S' hj ⟨c1, c2, c3, c4⟩ hK2
        unfold b_X2_findFrom_77 j_X2_findFrom_122
        have hs := fset_lt (fun p => runsP (I p) f (f + j)) p
        have hzz : (nI (fset (fun p => runsP (I p) f (f + j)) p) = 0) = (fset (fun p => runsP (I p) f (f + j)) p = 0) := q_eq (b := 0) (by omega) (by omega)
        rw [if_neg (show ¬ (24 : Int32) ≤ nI (f + j) from nI_ge (b := 24) (by omega) (by omega)), if_neg hv0, q_ck (by omega) (by omega), q_jp, q_tn (by omega), c4 _ (by omega) (by omega)]
        simp only [q_nm]
        rw [← nI_succ]
        have eT : FT (fun t => fset (fun p => runsP (I p) f t) p) b f (f + (j + 1)) = FT (fun t => fset (fun p => runsP (I p) f t) p) b f (f + j) ++ (if fset (fun p => runsP (I p) f (f + j)) p ≠ 0 then [(b, f, f + j, fset (fun p => runsP (I p) f (f + j)) p)] else []) := rfl
        by_cases h0 : fset (fun p => runsP (I p) f (f + j)) p = 0
        · rw [if_pos (hzz ▸ h0)]
          refine hK2 _ ⟨c1, ?_, ?_, ?_⟩
          · rw [eT, if_neg (fun w => w h0), List.append_nil]; exact c2
          · intro t ht
            by_cases e : t = f + j
            · rw [e, c4 _ (by omega) (by omega), h0]; rfl
            · exact c3 t (by omega)
          · intro t ht ht2
            exact c4 t (by omega) ht2
        · rw [if_neg (fun w => h0 (hzz ▸ w)), q_ck (by omega) (by omega)]
          have hl1 := hlen (f + j) (by omega)
          have eT2 : FT (fun t => fset (fun p => runsP (I p) f t) p) b f (f + j + 1) = FT (fun t => fset (fun p => runsP (I p) f t) p) b f (f + j) ++ [(b, f, f + j, fset (fun p => runsP (I p) f (f + j)) p)] := by
            rw [show f + j + 1 = f + (j + 1) by omega, eT, if_pos h0]
          rw [eT2, ← List.append_assoc, List.length_append] at hl1
          have e1 : [(b, f, f + j, fset (fun p => runsP (I p) f (f + j)) p)].length = 1 := rfl
          obtain ⟨S2, a1, a2, a3⟩ := cappend_e (N := N) (b := b) (f := f) (t := f + j) (s := fset (fun p => runsP (I p) f (f + j)) p) (by omega) c2
          rw [a1, q_bd, q_ck (by omega) (by omega)]
          refine hK2 _ ⟨(c1.tr (a2.mo (fun r k w => by omega))).pu (by omega), ?_, ?_, ?_⟩
          · rw [eT, if_pos h0, ← List.append_assoc]
            exact ⟨by rw [q_gR _ _ _ _ _ _ (by omega)]; exact a3.1, a3.2.go (fun r k x1 x2 _ => q_gR _ _ _ _ _ _ (by omega))⟩
          · intro t ht
            rw [q_g]
            by_cases e : t = f + j
            · rw [if_pos ⟨rfl, e⟩]
            · rw [if_neg (fun w => e w.2), a2.2 _ _ (by omega)]
              exact c3 t (by omega)
          · intro t ht ht2
            rw [q_g, if_neg (by omega), a2.2 _ _ (by omega)]
            exact c4 t (by omega) ht2
      · rw [Nat.add_zero, hz f (Nat.le_refl _), List.append_nil]; exact hF0
      · intro t ht
        rw [h4 t (by omega), hlo t (by omega)]; rfl
      · intro t ht ht2
        exact h4 t ht2
theorem CR.pc {S : St} (hC : CR P R B C M) (hf : fr Pc C S) : CR P R B S M := hC.go (fun k => hf.2 _ _ (by unfold Pc; omega)) (fun r k h1 h2 => hf.2 _ _ (by unfold Pc; omega)) (fun k => hf.2 _ _ (by unfold Pc; omega))
theorem cfind_e (hN : 6000 ≤ N) (hB : MB P R B M) (hC : CR P R B C M) (h14 : ∀ t, t < 24 → C.1 14 t = 0) : ok (f_X2_find N C) fun C' => fr Pc C C' ∧ FC (FBn (Sf (inn M) P) B) C' ∧ ∀ t, t < 24 → C'.1 14 t = 0 := by
  have hB24 := hB.2.2.2.2.2.1
  have hP6 := hB.2.2.2.1
  have hL := (FL_le hB).2
  unfold f_X2_find
  rw [q_nm, q_jp]
  refine ok_up0 (n := B) (fun b S => fr Pc C S ∧ FC (FBn (Sf (inn M) P) b) S ∧ ∀ t, t < 24 → S.1 14 t = 0) ?_ ?_ (by omega) ⟨fr.rf.pu (by unfold Pc; omega), ⟨q_gS _ _ _ _, AL.nil⟩, fun t ht => by rw [q_gR _ _ _ _ _ _ (by omega)]; exact h14 t ht⟩
  · rintro K S ⟨g1, g2, g3⟩
    unfold b_X2_find_7
    rw [(hC.pc g1).2.2.1, if_pos (by rw [q_le (by omega) (by omega)]; omega)]
    exact ok_s ⟨g1, g2, g3⟩
  · rintro K b S hb ⟨g1, g2, g3⟩ hK
    unfold b_X2_find_7
    rw [(hC.pc g1).2.2.1, if_neg (by rw [q_le (by omega) (by omega)]; omega), q_jp, q_jp]
    refine ok_up0 (n := P) (fun p S => fr Pc C S ∧ FC (FBn (Sf (inn M) P) b) S ∧ (∀ t, t < 24 → S.1 14 t = 0) ∧ ∀ x, x < p → ∀ i, i < 32 → bt (S.1 13 x) i = inn M b x i) ?_ ?_ (by omega) ⟨g1, g2, g3, fun x hx => by omega⟩
    · rintro K2 S2 ⟨b1, b2, b3, b4⟩
      unfold b_X2_find_18 j_X2_find_48
      rw [(hC.pc b1).1, if_pos (by rw [q_le (by omega) (by omega)]; omega), q_jp, q_jp]
      refine ok_up0 (n := 24) (fun f S => fr Pc C S ∧ FC (FBn (Sf (inn M) P) b ++ FF (Sf (inn M) P b) b f) S ∧ (∀ t, t < 24 → S.1 14 t = 0) ∧ ∀ x, x < P → ∀ i, i < 32 → bt (S.1 13 x) i = inn M b x i) ?_ ?_ (by omega) ⟨b1, by rw [FF, List.append_nil]; exact b2, b3, b4⟩
      · rintro K3 S3 ⟨c1, c2, c3, c4⟩
        unfold b_X2_find_51 j_X2_find_75
        rw [if_pos (by decide), q_nm, ← nI_succ]
        exact hK _ ⟨c1, c2, c3⟩
      · rintro K3 f S3 hf ⟨c1, c2, c3, c4⟩ hK3
        unfold b_X2_find_51
        rw [if_neg (show ¬ (24 : Int32) ≤ nI f from nI_ge (b := 24) hf (by omega)), (hC.pc c1).1]
        refine ok_bd (findFrom_e (I := inn M b) hN hP6 hf (fun p _ => inn_24 (by omega)) c4 c3 c2 ?_) ?_
        · intro t ht
          have := way_le (S := Sf (inn M) P) (b := b) (f := f) (t := t) (B := B) hb hf ht
          exact Nat.le_trans this hL
        · rintro S4 ⟨d1, d2, d3⟩
          rw [q_nm, ← nI_succ]
          refine hK3 _ ⟨c1.tr (d1.mo (fun r k w => by unfold Pc; omega)), ?_, d3, ?_⟩
          · rw [FF, ← List.append_assoc]
            exact d2
          · intro x hx i hi
            rw [d1.2 13 x (by omega)]
            exact c4 x hx i hi
    · rintro K2 p S2 hp ⟨b1, b2, b3, b4⟩ hK2
      unfold b_X2_find_18
      rw [(hC.pc b1).1, if_neg (by rw [q_le (by omega) (by omega)]; omega)]
      refine ok_bd (seekHours_e hN hB (hC.pc b1) hb (by omega)) ?_
      intro v hv
      rw [q_ck (by omega) (by omega), q_tn (by omega), q_nm, q_nm, ← nI_succ]
      refine hK2 _ ⟨b1.pu (by unfold Pc; omega), ⟨by rw [q_gR _ _ _ _ _ _ (by omega)]; exact b2.1, b2.2.go (fun r k x1 x2 _ => q_gR _ _ _ _ _ _ (by omega))⟩, fun t ht => by rw [q_gR _ _ _ _ _ _ (by omega)]; exact b3 t ht, ?_⟩
      intro x hx i hi
      rw [q_g]
      by_cases e : x = p
      · subst e
        rw [if_pos ⟨rfl, rfl⟩]
        exact hv i hi
      · rw [if_neg (fun w => e w.2)]
        exact b4 x (by omega) i hi
end CF
