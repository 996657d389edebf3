/-! pure part: behind a fault the class' reader changes nothing that counts -/
def FdX (n : Nat) (C : St) : Prop := (∃ p, tp C p n) ∧ KW C ∧ cnt C ∧ C.1 3 5 ≠ 0
def FA (n : Nat) (C C' : St) : Prop := fr PF C C' ∧ ∃ q, tp C' q n
theorem FA.tr {n : Nat} {A B C : St} (h : FA n A B) (h2 : FA n B C) : FA n A C := ⟨h.1.tr h2.1, h2.2⟩
theorem FdX.go {n : Nat} {C C' : St} (h : FdX n C) (hf : FA n C C') : FdX n C' := by
  obtain ⟨h1, h2, h3, h4⟩ := h
  refine ⟨hf.2, ?_, h3.go (hf.1.mo PF_PFF), ?_⟩
  · unfold KW
    rw [hf.1.1]
    exact h2
  · rw [hf.1.2 3 5 (by unfold PF; omega)]
    exact h4
theorem fa_cat {n p q : Nat} {C : St} (h : tp C p n) (hq : q ≤ n) : FA n C (cat C q) := ⟨cat_fr C q, q, h.cat hq⟩
theorem fa_fw {n p q e : Nat} {C : St} (h : tp C p n) (hq : q ≤ n) (he : e ≤ n) : FA n C (fwS C q e) := ⟨fwS_fr C q e, e, fwS_tp h hq he⟩
theorem readSign_fa {N c n : Nat} {C : St} (hN : 6000 ≤ N) (hc : c < 256) (h : FdX n C) : ok (f_X5_readSign N (nI c) C) fun C' => FA n C C' := by
  obtain ⟨⟨p, hp⟩, -, -, h5⟩ := h
  have hq := sk_le (b := cb C) hp.2.2.1
  rw [readSign_e hN hc hp]
  apply ok_s
  split
  · exact fa_cat hp (by omega)
  · rw [failS_f]
    · exact fa_cat hp hq
    · rw [cat_o _ _ _ _ (by omega)]; exact h5
theorem readNumber_fa {N n : Nat} {lo hi : Int32} {C : St} (hN : 6000 ≤ N) (h : FdX n C) : ok (f_X5_readNumber N lo hi C) fun r => FA n C r.2 := by
  obtain ⟨⟨p, hp⟩, -, -, h5⟩ := h
  have hq := sk_le (b := cb C) hp.2.2.1
  rw [readNumber_e hN hp _ _ rfl rfl]
  have hs : (if sk (cb C) n p < n ∧ cb C (sk (cb C) n p) = 45 then sk (cb C) n p + 1 else sk (cb C) n p) ≤ n := by split <;> omega
  generalize (if sk (cb C) n p < n ∧ cb C (sk (cb C) n p) = 45 then sk (cb C) n p + 1 else sk (cb C) n p) = s at hs ⊢
  have hd := dE_le (b := cb C) hs
  have h5' : (cat C (dE (cb C) n s)).1 3 5 ≠ 0 := by rw [cat_o _ _ _ _ (by omega)]; exact h5
  generalize (if sk (cb C) n p < n ∧ cb C (sk (cb C) n p) = 45 then - td (cb C) n s else td (cb C) n s) = cv
  unfold j_X5_readNumber_39
  split
  · rw [fail_e, q_bd, failS_f h5']
    exact ok_s (fa_cat hp hd)
  · rw [within_i, q_bd]
    generalize (if lo.toInt ≤ cv.toInt ∧ cv.toInt ≤ hi.toInt then (1 : Int32) else 0) = z
    split
    · rw [fail_e, q_bd, failS_f h5']
      exact ok_s (fa_cat hp hd)
    · exact ok_s (fa_cat hp hd)
theorem readFreeWord_fa {N n : Nat} {C : St} (hN : 6000 ≤ N) (h : FdX n C) : ok (f_X5_readFreeWord N C) fun r => FA n C r.2 := by
  obtain ⟨⟨p, hp⟩, hK, -, h5⟩ := h
  have hq := sk_le (b := cb C) hp.2.2.1
  have hw := wE_le (b := cb C) hq
  have hr := readFreeWord_e hN hK hp
  by_cases hf : freeW (cb C) n (sk (cb C) n p)
  · rw [hr.1 hf]
    exact ok_s (fa_fw hp hq hw)
  · rw [hr.2 hf, failS_f (by rw [(fwS_fr C _ _).2 3 5 (by unfold PF; omega)]; exact h5)]
    exact ok_s (fa_fw hp hq hw)
theorem readNewName_fa {N n : Nat} {C : St} (hN : 6000 ≤ N) (h : FdX n C) : ok (f_X5_readNewName N C) fun r => FA n C r.2 := by
  unfold f_X5_readNewName
  refine ok_bd2 (readFreeWord_fa hN h) ?_
  intro w C' hC'
  have h2 := h.go hC'
  obtain ⟨v, hv⟩ := placesNamed_t (w := w) hN h2.2.2.1
  rw [hv, q_bd]
  split
  · exact ok_s hC'
  · rw [fail_e, q_bd, failS_f h2.2.2.2]
    exact ok_s hC'
theorem readToldName_fa {N n : Nat} {C : St} (hN : 6000 ≤ N) (h : FdX n C) : ok (f_X5_readToldName N C) fun r => FA n C r.2 := by
  unfold f_X5_readToldName
  refine ok_bd2 (readFreeWord_fa hN h) ?_
  intro w C' hC'
  have h2 := h.go hC'
  obtain ⟨v, hv⟩ := placesNamed_t (w := w) hN h2.2.2.1
  rw [hv, q_bd]
  split
  · rw [fail_e, q_bd, failS_f h2.2.2.2]
    exact ok_s hC'
  · exact ok_s hC'
theorem readNewWord_fa {N n : Nat} {C : St} (hN : 6000 ≤ N) (h : FdX n C) : ok (f_X5_readNewWord N C) fun r => FA n C r.2 := by
  unfold f_X5_readNewWord
  refine ok_bd2 (readFreeWord_fa hN h) ?_
  intro w C' hC'
  have h2 := h.go hC'
  obtain ⟨v, hv⟩ := bandNamed_t (w := w) hN h2.2.2.1
  rw [hv, q_bd]
  split
  · exact ok_s hC'
  · rw [fail_e, q_bd, failS_f h2.2.2.2]
    exact ok_s hC'
/-- the class' reading of 'warn' -/
theorem readWarn_e {N : Nat} {C : St} {p n q : Nat} (hN : 6000 ≤ N) (h : tp C p n) (hq : sk (cb C) n p = q) :
    f_X5_readWarn N C = if q < n ∧ letP (cb C) q = true then (if tw (cb C) n q = C.2 3 3 then some (1, cat C (wE (cb C) n q)) else some (1, failS 1 (nI q) (cat C (wE (cb C) n q)))) else some (0, cat C q) := by
  have hqn := sk_le (b := cb C) h.2.2.1
  rw [hq] at hqn
  have hcb := (cb_e C q).2
  unfold f_X5_readWarn
  rw [skip10 hN h, q_bd, hq, look_e (h.cat hqn), q_bd, cat_cb]
  by_cases hp : q < n
  · rw [if_pos hp]
    have hw : f_X10_isWithin N (nI (cb C q)) 97 122 = _ := within_e N (v := cb C q) (a := 97) (b := 122) (by omega) (by omega) (by omega)
    rw [hw, q_bd]
    by_cases e : 97 ≤ cb C q ∧ cb C q ≤ 122
    · have e' : letP (cb C) q = true := by unfold letP; rw [decide_eq_true_eq]; exact e
      rw [if_pos e, if_neg (by decide), if_pos ⟨hp, e'⟩, q_nm, cat_at, takeWord_e hN (h.cat hqn), cat_cb, cat_cat, q_bd2]
      have e2 : (cat C (wE (cb C) n q)).2 = C.2 := rfl
      rw [e2, fail_e, q_bd]
      simp only [lg_cmp_eq]
      split <;> rfl
    · have e' : ¬ letP (cb C) q = true := by unfold letP; rw [decide_eq_true_eq]; exact e
      rw [if_neg e, if_pos rfl, if_neg (fun w => e' w.2)]; rfl
  · rw [if_neg hp, if_neg (fun w => hp w.1), within_i, q_bd, if_pos (by decide)]; rfl
theorem readWarn_fa {N n : Nat} {C : St} (hN : 6000 ≤ N) (h : FdX n C) : ok (f_X5_readWarn N C) fun r => FA n C r.2 := by
  obtain ⟨⟨p, hp⟩, -, -, h5⟩ := h
  have hq := sk_le (b := cb C) hp.2.2.1
  have hw := wE_le (b := cb C) hq
  rw [readWarn_e hN hp rfl]
  split
  · split
    · exact ok_s (fa_cat hp hw)
    · rw [failS_f (by rw [cat_o _ _ _ _ (by omega)]; exact h5)]
      exact ok_s (fa_cat hp hw)
  · exact ok_s (fa_cat hp hq)
theorem place15_fa {N n : Nat} {C : St} (hN : 6000 ≤ N) (h : FdX n C) : ok (j_X5_readPlace_15 N C) fun C' => FA n C C' := by
  unfold j_X5_readPlace_15
  refine ok_bd2 (readNewName_fa hN h) ?_
  intro w C1 h1
  refine ok_bd (readSign_fa (c := 59) hN (by omega) (h.go h1)) ?_
  intro C2 h2
  have hf := (h.go h1).go h2
  rw [if_neg hf.2.2.2]
  exact ok_s (h1.tr h2)
theorem region89_fa {N n : Nat} {w : Int64} {v : Int32} {C : St} (hN : 6000 ≤ N) (h : FdX n C) : ok (j_X5_readRegion_89 N w v C) fun C' => FA n C C' := by
  unfold j_X5_readRegion_89
  refine ok_bd (readSign_fa (c := 59) hN (by omega) h) ?_
  intro C2 h2
  have hf := h.go h2
  rw [if_neg hf.2.2.2]
  exact ok_s h2
theorem regionLoop_fa {N n : Nat} {w : Int64} {v m : Int32} {i : Nat} {K : Int32 → Int32 → Int32 → St → Option St} {C : St} (hN : 6000 ≤ N) (h : FdX n C) : ok (b_X5_readRegion_38 N (j_X5_readRegion_89 N w) K v m (nI i) C) fun C' => FA n C C' := by
  unfold b_X5_readRegion_38
  rw [if_neg h.2.2.2]
  split
  · exact region89_fa hN h
  · split
    · exact region89_fa hN h
    · exact region89_fa hN h
theorem region14_fa {N n : Nat} {C : St} (hN : 6000 ≤ N) (h : FdX n C) : ok (j_X5_readRegion_14 N C) fun C' => FA n C C' := by
  unfold j_X5_readRegion_14
  refine ok_bd2 (readNewName_fa hN h) ?_
  intro w C1 h1
  refine ok_bd (readSign_fa (c := 61) hN (by omega) (h.go h1)) ?_
  intro C2 h2
  have hf := (h.go h1).go h2
  rw [q_jp, q_jp]
  obtain ⟨N', rfl⟩ : ∃ k, N = k + 1 := ⟨N - 1, by omega⟩
  rw [q_lp]
  exact ok_m (regionLoop_fa (i := 0) hN hf) (fun C3 h3 => (h1.tr h2).tr h3)
theorem overlaps_t {N : Nat} {C : St} (hN : 6000 ≤ N) (h : cnt C) (a l u : Int32) : ∃ v, f_X4_overlaps N 38 a l u C = some v := by
  obtain ⟨P, R, B, -, -, -, -, h5, h6⟩ := h
  have : ok (f_X4_overlaps N 38 a l u C) fun _ => True := by
    unfold f_X4_overlaps
    apply ok_z1
    rw [q_jp]
    refine ok_l1 (fun m v => ∃ i, v = nI i ∧ i ≤ B ∧ B - i = m) ?_ N B 0 (by omega) ⟨0, rfl, by omega, rfl⟩
    rintro k m v ⟨i, rfl, g1, g2⟩ hk
    unfold b_X4_overlaps_3 j_X4_overlaps_47
    rw [h5]
    by_cases hi : i < B
    · rw [if_neg (by rw [q_le (by omega) (by omega)]; omega)]
      simp only [q_jp, q_nm]
      rw [← nI_succ, q_ck (by omega) (by omega), q_ck (by omega) (by omega), q_ck (by omega) (by omega)]
      have hg := hk (B - (i + 1)) (nI (i + 1)) (by omega) ⟨i + 1, rfl, by omega, rfl⟩
      split
      · split
        · exact hg
        · split
          · exact hg
          · exact ok_s ⟨Or.inr rfl, trivial⟩
      · exact hg
    · rw [if_pos (by rw [q_le (by omega) (by omega)]; omega)]
      exact ok_s ⟨Or.inl rfl, trivial⟩
  obtain ⟨v, hv, -⟩ := this
  exact ⟨v, hv⟩
theorem band95_fa {N n : Nat} {v2 v8 v10 : Int32} {w4 : Int64} {C : St} (hN : 6000 ≤ N) (h : FdX n C) : ok (j_X5_readBand_95 N v2 w4 v8 v10 C) fun C' => FA n C C' := by
  unfold j_X5_readBand_95
  refine ok_bd2 (readNumber_fa hN h) ?_
  intro v13 C1 h1
  refine ok_bd2 (readWarn_fa hN (h.go h1)) ?_
  intro v15 C2 h2
  refine ok_bd (readSign_fa (c := 59) hN (by omega) ((h.go h1).go h2)) ?_
  intro C3 h3
  have hf := ((h.go h1).go h2).go h3
  rw [if_neg hf.2.2.2]
  exact ok_s ((h1.tr h2).tr h3)
theorem band15_fa {N n : Nat} {C : St} (hN : 6000 ≤ N) (h : FdX n C) : ok (j_X5_readBand_15 N C) fun C' => FA n C C' := by
  unfold j_X5_readBand_15
  refine ok_bd2 (readNumber_fa hN h) ?_
  intro v2 C1 h1
  have g1 := h.go h1
  refine ok_bd2 (readNewWord_fa hN g1) ?_
  intro w4 C2 h2
  have g2 := g1.go h2
  obtain ⟨p, hp⟩ := g2.1
  have h3 := fa_cat hp (sk_le (b := cb C2) hp.2.2.1)
  rw [skip10 hN hp, q_bd, q_nm]
  have g3 := g2.go h3
  refine ok_bd2 (readNumber_fa hN g3) ?_
  intro v8 C4 h4
  have g4 := g3.go h4
  refine ok_bd2 (readNumber_fa hN g4) ?_
  intro v10 C5 h5
  have g5 := g4.go h5
  have all := (((h1.tr h2).tr h3).tr h4).tr h5
  have fin : ∀ v7, ok (j_X5_readBand_88 N v7 C5 (j_X5_readBand_95 N v2 w4 v8 v10)) fun C' => FA n C C' := by
    intro v7
    unfold j_X5_readBand_88
    rw [fail_e, q_bd, failS_f g5.2.2.2]
    exact ok_m (band95_fa hN g5) (fun C' h' => all.tr h')
  rw [q_jp, q_jp]
  split
  · exact fin _
  · obtain ⟨v, hv⟩ := overlaps_t hN g5.2.2.1 v2 v8 v10
    rw [hv, q_bd]
    split
    · exact ok_m (band95_fa hN g5) (fun C' h' => all.tr h')
    · exact fin _
