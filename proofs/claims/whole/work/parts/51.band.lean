/-! pure part: a line of a band -/
def rF (N : Nat) (v2 : Int32) (w4 : Int64) (v8 v10 v13 v15 : Int32) (S16 : St) : Option St := bd (f_X5_readSign N 59 S16) fun S17 => if (S17.1 3 5) = 0 then bd (f_X4_addBand N 38 v2 w4 v8 v10 v13 v15 S17) fun S19 => some S19 else some S17
def rE (N : Nat) (v2 : Int32) (w4 : Int64) (v8 v10 v13 : Int32) (S14 : St) : Option St := bd2 (f_X5_readWarn N S14) fun v15 S16 => rF N v2 w4 v8 v10 v13 v15 S16
def rD (N : Nat) (v2 : Int32) (w4 : Int64) (v7 v8 v10 : Int32) (S11 : St) : Option St := jp (j_X5_readBand_95 N v2 w4 v8 v10) fun k95 => jp (j_X5_readBand_88 N v7 S11 k95) fun k88 => if v10 ≤ v8 then k88 else bd (f_X4_overlaps N 38 v2 v8 v10 S11) fun v22 => if v22 = 0 then k95 S11 else k88
def rC (N : Nat) (v2 : Int32) (w4 : Int64) (v7 v8 : Int32) (S9 : St) : Option St := bd2 (f_X5_readNumber N (-99) 999 S9) fun v10 S11 => rD N v2 w4 v7 v8 v10 S11
def rBb (N : Nat) (v2 : Int32) (w4 : Int64) (S5 : St) : Option St := bd (f_X8_skip N 10 S5) fun S6 => nm (S6.1 1 2) fun v7 => bd2 (f_X5_readNumber N (-99) 999 S6) fun v8 S9 => rC N v2 w4 v7 v8 S9
def rA (N : Nat) (v2 : Int32) (S3 : St) : Option St := bd2 (f_X5_readNewWord N S3) fun w4 S5 => rBb N v2 w4 S5
theorem band15_eq (N : Nat) (S : St) : j_X5_readBand_15 N S = bd2 (f_X5_readNumber N 0 2 S) fun v2 S3 => rA N v2 S3 := rfl
theorem band95_eq (N : Nat) (v2 : Int32) (w4 : Int64) (v8 v10 : Int32) (S : St) : j_X5_readBand_95 N v2 w4 v8 v10 S = bd2 (f_X5_readNumber N 1 9 S) fun v13 S14 => rE N v2 w4 v8 v10 v13 S14 := rfl
section BF
variable {N n : Nat} {v2 v7 v8 v10 v13 v15 : Int32} {w4 : Int64} {C : St}
theorem rF_fa (hN : 6000 ≤ N) (h : FdX n C) : ok (rF N v2 w4 v8 v10 v13 v15 C) fun C' => FA n C C' := by
  unfold rF
  refine ok_bd (readSign_fa (c := 59) hN (by omega) h) ?_
  intro C3 h3
  rw [if_neg (h.go h3).2.2.2]
  exact ok_s h3
theorem rE_fa (hN : 6000 ≤ N) (h : FdX n C) : ok (rE N v2 w4 v8 v10 v13 C) fun C' => FA n C C' := by
  unfold rE
  refine ok_bd2 (readWarn_fa hN h) ?_
  intro v C2 h2
  exact ok_m (rF_fa hN (h.go h2)) (fun C' h' => h2.tr h')
theorem rD_fa (hN : 6000 ≤ N) (h : FdX n C) : ok (rD N v2 w4 v7 v8 v10 C) fun C' => FA n C C' := by
  unfold rD j_X5_readBand_88
  rw [q_jp, q_jp, fail_e, q_bd, failS_f h.2.2.2]
  split
  · exact band95_fa hN h
  · obtain ⟨v, hv⟩ := overlaps_t hN h.2.2.1 v2 v8 v10
    rw [hv, q_bd]
    split
    · exact band95_fa hN h
    · exact band95_fa hN h
theorem rC_fa (hN : 6000 ≤ N) (h : FdX n C) : ok (rC N v2 w4 v7 v8 C) fun C' => FA n C C' := by
  unfold rC
  refine ok_bd2 (readNumber_fa hN h) ?_
  intro v C2 h2
  exact ok_m (rD_fa hN (h.go h2)) (fun C' h' => h2.tr h')
theorem rBb_fa (hN : 6000 ≤ N) (h : FdX n C) : ok (rBb N v2 w4 C) fun C' => FA n C C' := by
  unfold rBb
  obtain ⟨p, hp⟩ := h.1
  have h1 := fa_cat hp (sk_le (b := cb C) hp.2.2.1)
  rw [skip10 hN hp, q_bd, q_nm]
  refine ok_bd2 (readNumber_fa hN (h.go h1)) ?_
  intro v C2 h2
  exact ok_m (rC_fa hN ((h.go h1).go h2)) (fun C' h' => (h1.tr h2).tr h')
theorem rA_fa (hN : 6000 ≤ N) (h : FdX n C) : ok (rA N v2 C) fun C' => FA n C C' := by
  unfold rA
  refine ok_bd2 (readNewWord_fa hN h) ?_
  intro v C2 h2
  exact ok_m (rBb_fa hN (h.go h2)) (fun C' h' => h2.tr h')
end BF
/-- the reference seeks the word among the bands' -/
theorem bandDup_e {N : Nat} {b : Nat → Nat} {n q e B : Nat} {C M : St} {k163 k179 : Option (Int32 × St)} (hN : 6000 ≤ N) (hM : mB b n M) (hqe : q ≤ e) (hen : e ≤ n) (h12 : e - q ≤ 12) (hl : ∀ i, i < e - q → letP b (q + i) = true) (h26 : M.1 0 26 = nI q) (h27 : M.1 0 27 = nI e) (hB : B ≤ 24)
    (hW : ∀ i, i < B → WN (M.1 11) (M.1 10) (24 + i) (C.2 42 i)) :
    lp (fun _ => none) (b_X11_bandLine_72 N (nI (24 + B)) M k163 k179) N 24 = if fst1 (fun i => decide (C.2 42 i = lN (enc b q (e - q)))) B < B then k163 else k179 := by
  have hn := hM.2.2.1
  refine seek1 (a := 24) (Y := fun _ => k163) ?_ ?_ (by omega)
  · intro k
    unfold b_X11_bandLine_72
    rw [if_pos (by rw [q_le (by omega) (by omega)]; omega)]
  · intro k i hi
    obtain ⟨s, l, a1, a2, a3, a4, a5⟩ := (hW i hi).m hl h12
    unfold b_X11_bandLine_72 j_X11_bandLine_100
    rw [if_neg (by rw [q_le (by omega) (by omega)]; omega), q_ck (by omega) (by omega), q_tn (by omega), a3, h26, h27, q_sub hqe]
    simp only [q_jp, q_nm]
    have fin1 : ∀ v, v = 1 → j_X11_bandLine_159 k163 (nI (24 + i)) k v = k163 := by
      intro v hv
      unfold j_X11_bandLine_159
      rw [hv, if_neg (by decide)]
    have fin0 : ∀ v, v = 0 → j_X11_bandLine_159 k163 (nI (24 + i)) k v = k (nI (24 + i + 1)) := by
      intro v hv
      unfold j_X11_bandLine_159
      rw [hv, if_pos rfl, nI_succ]; rfl
    have hend : ∀ kk v, b_X11_bandLine_107 M (nI (24 + i)) (j_X11_bandLine_159 k163 (nI (24 + i)) k) kk v (nI (q + (e - q))) = j_X11_bandLine_159 k163 (nI (24 + i)) k v := by
      intro kk v
      unfold b_X11_bandLine_107
      rw [h27, if_pos (by rw [q_le (by omega) (by omega)]; omega)]
    have hz : ∀ kk j, j < e - q → b_X11_bandLine_107 M (nI (24 + i)) (j_X11_bandLine_159 k163 (nI (24 + i)) k) kk 0 (nI (q + j)) = j_X11_bandLine_159 k163 (nI (24 + i)) k 0 := by
      intro kk j hj
      unfold b_X11_bandLine_107
      rw [h27, if_neg (by rw [q_le (by omega) (by omega)]; omega), if_pos rfl]
    simp only [decide_eq_true_eq]
    by_cases es : s = e - q
    · rw [if_pos (by rw [es])]
      have hc := cmpA1 (E := fun j => l j = b (q + j)) (m := e - q) (a := q) hend hz ?_ (N := N) (by omega)
      · rw [hc]
        by_cases e2 : ∀ j, j < e - q → l j = b (q + j)
        · rw [if_pos e2, fin1 _ rfl, if_pos (a5.mpr ⟨es, fun j hj => e2 j (by omega)⟩)]
        · rw [if_neg e2, fin0 _ rfl, if_neg]
          intro w
          exact e2 (fun j hj => (a5.mp w).2 j (by omega))
      · intro kk j hj
        unfold b_X11_bandLine_107 j_X11_bandLine_152
        obtain ⟨c1, c2⟩ := a4 j (by omega)
        obtain ⟨c3, c4⟩ := hM.1 (q + j) (by omega)
        have c5 := letP_b c1
        have e1 : (12 : Int32) * nI (24 + i) + nI (q + j) - nI q = nI (12 * (24 + i) + j) := by
          have : nI 12 * nI (24 + i) + nI (q + j) - nI q = nI (12 * (24 + i) + j) := by
            rw [q_mul, q_add, q_sub (by omega)]
            congr 1
            omega
          exact this
        rw [h27, h26, if_neg (by rw [q_le (by omega) (by omega)]; omega), if_neg (by decide), e1, q_ck (by omega) (by omega), q_ck (by omega) (by omega), q_tn (by omega), q_tn (by omega), c2, c3]
        simp only [q_jp, q_nm]
        rw [← nI_succ]
        by_cases e3 : l j = b (q + j)
        · rw [if_pos e3, if_pos (by rw [e3])]
        · rw [if_neg e3, if_neg (by rw [q_eq (by omega) (by omega)]; exact e3)]
    · rw [if_neg (by rw [q_eq (by omega) (by omega)]; exact es)]
      rw [cmpA0 (m := e - q) (a := q) hend hz (by omega), fin0 _ rfl, if_neg]
      intro w
      exact es (a5.mp w).1
/-- the reference copies the band's word -/
theorem bandCopy {N : Nat} {b : Nat → Nat} {n q e bt : Nat} {M S : St} {k235 : St → Option (Int32 × St)} {Q : Int32 × St → Prop} (hN : 6000 ≤ N) (hM : mB b n M) (hqe : q ≤ e) (hen : e ≤ n) (h12 : e - q ≤ 12) (hbt : bt < 48) (hS : fr (PX 1000 bt) M S) (h26 : S.1 0 26 = nI q) (h27 : S.1 0 27 = nI e)
    (hk : ∀ S', fr (PX 1000 bt) M S' → (∀ r k, r ≠ 10 → S'.1 r k = S.1 r k) → (∀ k, k < e - q → S'.1 10 (12 * bt + k) = nI (b (q + k))) → ok (k235 S') Q) :
    ok (lp (fun _ _ => none) (b_X11_bandLine_199 (nI bt) k235) N (nI q) S) Q := by
  have hn := hM.2.2.1
  refine ok_l2 (fun m v S' => ∃ j, v = nI (q + j) ∧ q + j ≤ e ∧ e - (q + j) = m ∧ fr (PX 1000 bt) M S' ∧ (∀ r k, r ≠ 10 → S'.1 r k = S.1 r k) ∧ ∀ k, k < j → S'.1 10 (12 * bt + k) = nI (b (q + k))) ?_ N (e - q) (nI q) S (by omega) ⟨0, rfl, by omega, rfl, hS, fun _ _ _ => rfl, fun k hk => by omega⟩
  rintro k m v S' ⟨j, rfl, g1, g2, gf, gs, gl⟩ hkk
  unfold b_X11_bandLine_199
  rw [gs 0 27 (by omega), gs 0 26 (by omega), h27, h26]
  by_cases hj : q + j < e
  · obtain ⟨t1, t2⟩ := (hM.px gf).1 (q + j) (by omega)
    have e1 : (12 : Int32) * nI bt + nI (q + j) - nI q = nI (12 * bt + j) := by
      have : nI 12 * nI bt + nI (q + j) - nI q = nI (12 * bt + j) := by
        rw [q_mul, q_add, q_sub (by omega)]
        congr 1
        omega
      exact this
    rw [if_neg (by rw [q_le (by omega) (by omega)]; omega), q_ck (by omega) (by omega), e1, q_ck (by omega) (by omega), q_tn (by omega), q_tn (by omega), t1, q_nm, q_nm, ← nI_succ]
    refine hkk _ _ _ ?_ ⟨j + 1, rfl, by omega, rfl, gf.pu (by unfold PX; omega), ?_, ?_⟩
    · omega
    · intro r k' hr
      rw [q_gR _ _ _ _ _ _ hr]
      exact gs r k' hr
    · intro k' hk'
      rw [q_g]
      by_cases e2 : 12 * bt + k' = 12 * bt + j
      · have : k' = j := by omega
        subst this
        rw [if_pos ⟨rfl, rfl⟩]
      · rw [if_neg (fun w => e2 w.2)]
        exact gl k' (by omega)
  · rw [if_pos (by rw [q_le (by omega) (by omega)]; omega)]
    have : j = e - q := by omega
    subst this
    exact hk S' gf gs gl
theorem addBand_e {N B : Nat} {w : Int64} {v2 v8 v10 v13 v15 : Int32} {C : St} (h : C.1 38 11 = nI B) (hB : B < 24) : f_X4_addBand N 38 v2 w v8 v10 v13 v15 C = some (puI (puI (puI (puI (puI (puL (puI C 43 B v2) 42 B w) 44 B v8) 45 B v10) 46 B v13) 47 B (vp_nar .boolean v15)) 38 11 (nI (B + 1))) := by
  unfold f_X4_addBand
  rw [h, if_neg (show ¬ (24 : Int32) ≤ nI B from nI_ge (b := 24) hB (by omega)), q_ck (by omega) (by omega), q_tn (by omega)]
  simp only [q_nm]
  have e1 : (puI C 43 B v2).1 38 11 = nI B := by simp (disch := omega) only [q_nm, q_jp, q_bd, q_bd2, q_zb0, q_zb1, q_zbn0, q_zbn1, q_z10, q_z11, q_z1n0, q_z1n1, q_lit, q_add, q_mul, q_lt, q_le, q_eq, q_tn, q_ck, q_nm1, q_n1e, q_gS, q_gR, q_gK, q_g2, if_true, if_false, h]
  rw [e1, q_ck (by omega) (by omega), q_tn (by omega)]
  have e2 : (puL (puI C 43 B v2) 42 B w).1 38 11 = nI B := e1
  rw [e2, q_ck (by omega) (by omega), q_tn (by omega)]
  have e3 : (puI (puL (puI C 43 B v2) 42 B w) 44 B v8).1 38 11 = nI B := by rw [q_gR _ _ _ _ _ _ (by omega)]; exact e2
  rw [e3, q_ck (by omega) (by omega), q_tn (by omega)]
  have e4 : (puI (puI (puL (puI C 43 B v2) 42 B w) 44 B v8) 45 B v10).1 38 11 = nI B := by rw [q_gR _ _ _ _ _ _ (by omega)]; exact e3
  rw [e4, q_ck (by omega) (by omega), q_tn (by omega)]
  have e5 : (puI (puI (puI (puL (puI C 43 B v2) 42 B w) 44 B v8) 45 B v10) 46 B v13).1 38 11 = nI B := by rw [q_gR _ _ _ _ _ _ (by omega)]; exact e4
  rw [e5, q_ck (by omega) (by omega), q_tn (by omega)]
  have e6 : (puI (puI (puI (puI (puL (puI C 43 B v2) 42 B w) 44 B v8) 45 B v10) 46 B v13) 47 B (vp_nar .boolean v15)).1 38 11 = nI B := by rw [q_gR _ _ _ _ _ _ (by omega)]; exact e5
  rw [e6, nI_succ]
/-- the overlap, in both -/
theorem overlaps_e {N B : Nat} {a l u : Int32} {C : St} (hN : 6000 ≤ N) (h5 : C.1 38 11 = nI B) (h6 : B ≤ 24) :
    f_X4_overlaps N 38 a l u C = some (if fst1 (fun i => decide (C.1 43 i = a ∧ l.toInt < (C.1 45 i).toInt ∧ (C.1 44 i).toInt < u.toInt)) B < B then 1 else 0) := by
  have hs := seek1 (body := b_X4_overlaps_3 38 a l u C) (E := fun i => decide (C.1 43 i = a ∧ l.toInt < (C.1 45 i).toInt ∧ (C.1 44 i).toInt < u.toInt)) (X := some 0) (Y := fun _ => some 1) (n := B) (a := 0) ?_ ?_ (N := N) (by omega)
  · unfold f_X4_overlaps
    rw [q_jp]
    have hs' : lp (fun _ => none) (b_X4_overlaps_3 38 a l u C) N 0 = _ := hs
    rw [hs']
    split <;> rfl
  · intro k
    unfold b_X4_overlaps_3
    rw [h5, if_pos (by rw [q_le (by omega) (by omega)]; omega)]
  · intro k i hi
    unfold b_X4_overlaps_3 j_X4_overlaps_47
    simp only [Nat.zero_add, q_jp, q_nm, decide_eq_true_eq]
    rw [h5, if_neg (by rw [q_le (by omega) (by omega)]; omega), q_ck (by omega) (by omega), q_ck (by omega) (by omega), q_ck (by omega) (by omega), q_tn (by omega), ← nI_succ]
    simp only [Int32.le_iff_toInt_le]
    by_cases e1 : C.1 43 i = a
    · rw [if_pos e1]
      by_cases e2 : (C.1 45 i).toInt ≤ l.toInt
      · rw [if_pos e2, if_neg (by omega)]
      · rw [if_neg e2]
        by_cases e3 : u.toInt ≤ (C.1 44 i).toInt
        · rw [if_pos e3, if_neg (by omega)]
        · rw [if_neg e3, if_pos ⟨e1, by omega, by omega⟩]
    · rw [if_neg e1, if_neg (fun w => e1 w.1)]
theorem mOver_e {N B : Nat} {M : St} {a l u : Int32} {k367 k380 : Option (Int32 × St)} (hN : 6000 ≤ N) (h6 : B < 24) (ha : M.1 5 (24 + B) = a) (hl : M.1 6 (24 + B) = l) (hu : M.1 7 (24 + B) = u) :
    lp (fun _ => none) (b_X11_bandLine_317 (nI (24 + B)) M k367 k380) N 24 = if fst1 (fun i => decide (M.1 5 (24 + i) = a ∧ l.toInt < (M.1 7 (24 + i)).toInt ∧ (M.1 6 (24 + i)).toInt < u.toInt)) B < B then k367 else k380 := by
  refine seek1 (a := 24) (Y := fun _ => k367) ?_ ?_ (by omega)
  · intro k
    unfold b_X11_bandLine_317
    rw [if_pos (by rw [q_le (by omega) (by omega)]; omega)]
  · intro k i hi
    unfold b_X11_bandLine_317 j_X11_bandLine_374
    simp only [q_jp, q_nm, decide_eq_true_eq]
    rw [if_neg (by rw [q_le (by omega) (by omega)]; omega), q_ck (by omega) (by omega), q_ck (by omega) (by omega), q_ck (by omega) (by omega), q_ck (by omega) (by omega), q_ck (by omega) (by omega), q_ck (by omega) (by omega), q_tn (by omega), q_tn (by omega), ha, hl, hu, ← nI_succ]
    simp only [Int32.le_iff_toInt_le]
    by_cases e1 : M.1 5 (24 + i) = a
    · rw [if_pos e1]
      by_cases e2 : u.toInt ≤ (M.1 6 (24 + i)).toInt
      · rw [if_pos e2, if_neg (by omega)]
      · rw [if_neg e2]
        by_cases e3 : (M.1 7 (24 + i)).toInt ≤ l.toInt
        · rw [if_pos e3, if_neg (by omega)]
        · rw [if_neg e3, if_pos ⟨e1, by omega, by omega⟩]
    · rw [if_neg e1, if_neg (fun w => e1 w.1)]
