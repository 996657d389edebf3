/-! pure part: the class' reader of rules, step by step, and the reference's -/
def sk (b : Nat → Nat) (n p : Nat) : Nat := scan (skP b 10) (n - p) p
theorem sk_ge (b : Nat → Nat) (n p : Nat) : p ≤ sk b n p := scan_ge _ _ _
theorem sk_le {b : Nat → Nat} {n p : Nat} (h : p ≤ n) : sk b n p ≤ n := by have := scan_le (skP b 10) (n - p) p; unfold sk; omega
theorem sk_idem {b : Nat → Nat} {n p : Nat} (h : p ≤ n) : sk b n (sk b n p) = sk b n p := by
  have h1 := sk_le (b := b) h
  by_cases h2 : sk b n p < n
  · have h3 := scan_end (skP b 10) (n - p) p (by unfold sk at h2; omega)
    have h4 : sk b n (sk b n p) = scan (skP b 10) (n - sk b n p) (sk b n p) := rfl
    rw [h4, scan_st h2, if_neg]
    unfold sk
    rw [h3]
    decide
  · have h4 : sk b n (sk b n p) = scan (skP b 10) (n - sk b n p) (sk b n p) := rfl
    rw [h4, scan_z (by omega)]
def PF (r k : Nat) : Prop := (r = 1 ∧ k = 2) ∨ (r = 3 ∧ k = 7)
def failS (a pl : Int32) (C : St) : St := if C.1 3 5 = 0 then puI (puI C 3 5 a) 3 6 pl else C
theorem fail_e {N : Nat} {a pl : Int32} {C : St} : f_X5_fail N a pl C = some (failS a pl C) := by
  unfold f_X5_fail failS
  split <;> rfl
theorem failS_f {a pl : Int32} {C : St} (h : C.1 3 5 ≠ 0) : failS a pl C = C := if_neg h
theorem failS_tp {a pl : Int32} {C : St} {p n : Nat} (h : tp C p n) : tp (failS a pl C) p n := by
  unfold failS
  split
  · obtain ⟨h1, h2, h3, h4⟩ := h
    refine ⟨?_, ?_, h3, h4⟩ <;> simp (disch := omega) only [q_nm, q_jp, q_bd, q_bd2, q_zb0, q_zb1, q_zbn0, q_zbn1, q_z10, q_z11, q_z1n0, q_z1n1, q_lit, q_add, q_mul, q_lt, q_le, q_eq, q_tn, q_ck, q_nm1, q_n1e, q_gS, q_gR, q_gK, q_g2, if_true, if_false, h1, h2]
  · exact h
theorem cat_fr (C : St) (q : Nat) : fr PF C (cat C q) := fr.rf.pu (Or.inl ⟨rfl, rfl⟩)
theorem frcb {C C' : St} (h : fr PF C C') : cb C' = cb C := by
  funext k
  unfold cb
  rw [h.2 2 k (by unfold PF; omega)]
def fwS (C : St) (q e : Nat) : St := cat (puI (cat C q) 3 7 (nI q)) e
theorem fwS_fr (C : St) (q e : Nat) : fr PF C (fwS C q e) := ((cat_fr C q).pu (Or.inr ⟨rfl, rfl⟩)).tr (cat_fr _ e)
theorem fwS_tp {C : St} {p n q e : Nat} (h : tp C p n) (hq : q ≤ n) (he : e ≤ n) : tp (fwS C q e) e n := by
  have h1 := h.cat hq
  have h2 : tp (puI (cat C q) 3 7 (nI q)) q n := by
    obtain ⟨a1, a2, a3, a4⟩ := h1
    refine ⟨?_, ?_, a3, a4⟩ <;> simp (disch := omega) only [q_nm, q_jp, q_bd, q_bd2, q_zb0, q_zb1, q_zbn0, q_zbn1, q_z10, q_z11, q_z1n0, q_z1n1, q_lit, q_add, q_mul, q_lt, q_le, q_eq, q_tn, q_ck, q_nm1, q_n1e, q_gS, q_gR, q_gK, q_g2, if_true, if_false, a1, a2]
  exact h2.cat he
def KW (C : St) : Prop := C.2 3 0 = lN (enc Wd 0 5) ∧ C.2 3 1 = lN (enc Wd 6 6) ∧ C.2 3 2 = lN (enc Wd 13 4) ∧ C.2 3 3 = lN (enc Wd 18 4) ∧ C.2 3 4 = lN (enc Wd 23 3)
theorem skip10 {N : Nat} {C : St} {p n : Nat} (hN : 6000 ≤ N) (h : tp C p n) : f_X8_skip N 10 C = some (cat C (sk (cb C) n p)) := skip_e (c := 10) hN (by omega) h
theorem readSign_e {N c : Nat} {C : St} {p n : Nat} (hN : 6000 ≤ N) (hc : c < 256) (h : tp C p n) :
    f_X5_readSign N (nI c) C = some (if sk (cb C) n p < n ∧ cb C (sk (cb C) n p) = c then cat C (sk (cb C) n p + 1) else failS 1 (nI (sk (cb C) n p)) (cat C (sk (cb C) n p))) := by
  have hq := sk_le (b := cb C) h.2.2.1
  unfold f_X5_readSign
  rw [skip10 hN h, q_bd, take_e hc (h.cat hq), cat_cb]
  by_cases e : sk (cb C) n p < n ∧ cb C (sk (cb C) n p) = c
  · rw [if_pos e, q_bd2, if_neg (by decide), if_pos e, cat_cat]
  · rw [if_neg e, q_bd2, if_pos rfl, if_neg e, cat_at, fail_e, q_bd]
/-- the word's number where there is one -/
theorem tw_pos {b : Nat → Nat} {n p : Nat} (h1 : 1 ≤ wE b n p - p) (h2 : wE b n p - p ≤ 12) : tw b n p = lN (enc b p (wE b n p - p)) ∧ tw b n p ≠ 0 := by
  have e : tw b n p = lN (enc b p (wE b n p - p)) := by unfold tw; rw [if_pos h2]
  refine ⟨e, ?_⟩
  rw [e]
  have := enc_pos (b := b) (p := p) wE_in h1
  have e2 : (lN (enc b p (wE b n p - p)) = lN 0) = (enc b p (wE b n p - p) = 0) := q_lN (enc_b wE_in h2) (by omega)
  intro q
  have q2 : lN (enc b p (wE b n p - p)) = lN 0 := q
  rw [e2] at q2
  omega
theorem tw_zero {b : Nat → Nat} {n p : Nat} (h : wE b n p - p = 0 ∨ 12 < wE b n p - p) : tw b n p = 0 := by
  unfold tw
  rcases h with h | h
  · rw [h, if_pos (by omega)]; rfl
  · rw [if_neg (by omega)]
theorem letP_wE {b : Nat → Nat} {n q : Nat} (h : q < n) : letP b q = true ↔ 1 ≤ wE b n q - q := by
  constructor
  · intro e
    have : wE b n q = scan (letP b) (n - q) q := rfl
    rw [scan_st h, if_pos e] at this
    have := scan_ge (letP b) (n - (q + 1)) (q + 1)
    omega
  · intro e
    have := wE_in (b := b) (n := n) (p := q) 0 (by omega)
    simpa using this
theorem kw_eq {b : Nat → Nat} {p j a m : Nat} (hl : ∀ i, i < j → letP b (p + i) = true) (hj : j ≤ 12) (hm : m ≤ 12) (hW : ∀ i, i < m → letP Wd (a + i) = true) : (lN (enc b p j) = lN (enc Wd a m)) = (enc b p j = enc Wd a m) := q_lN (enc_b hl hj) (enc_b hW hm)
/-- is the word one that isn't kept -/
def freeW (b : Nat → Nat) (n q : Nat) : Prop := 1 ≤ wE b n q - q ∧ wE b n q - q ≤ 12 ∧ wa (enc b q (wE b n q - q)) = 0
theorem wa0 {x : Nat} : wa x = 0 ↔ x ≠ enc Wd 0 5 ∧ x ≠ enc Wd 6 6 ∧ x ≠ enc Wd 13 4 ∧ x ≠ enc Wd 18 4 ∧ x ≠ enc Wd 23 3 := by
  unfold wa
  constructor
  · intro h
    refine ⟨?_, ?_, ?_, ?_, ?_⟩ <;> (intro q; subst q; revert h; decide)
  · rintro ⟨h1, h2, h3, h4, h5⟩
    rw [if_neg h1, if_neg h2, if_neg h3, if_neg h4, if_neg h5]
theorem readFreeWord_e {N : Nat} {C : St} {p n : Nat} (hN : 6000 ≤ N) (hK : KW C) (h : tp C p n) :
    (freeW (cb C) n (sk (cb C) n p) → f_X5_readFreeWord N C = some (tw (cb C) n (sk (cb C) n p), fwS C (sk (cb C) n p) (wE (cb C) n (sk (cb C) n p)))) ∧
    (¬ freeW (cb C) n (sk (cb C) n p) → f_X5_readFreeWord N C = some (tw (cb C) n (sk (cb C) n p), failS 1 (nI (sk (cb C) n p)) (fwS C (sk (cb C) n p) (wE (cb C) n (sk (cb C) n p))))) := by
  have hq := sk_le (b := cb C) h.2.2.1
  generalize hqe : sk (cb C) n p = q at hq
  have h2 : tp (puI (cat C q) 3 7 (nI q)) q n := by
    obtain ⟨a1, a2, a3, a4⟩ := h.cat hq
    refine ⟨?_, ?_, a3, a4⟩ <;> simp (disch := omega) only [q_nm, q_jp, q_bd, q_bd2, q_zb0, q_zb1, q_zbn0, q_zbn1, q_z10, q_z11, q_z1n0, q_z1n1, q_lit, q_add, q_mul, q_lt, q_le, q_eq, q_tn, q_ck, q_nm1, q_n1e, q_gS, q_gR, q_gK, q_g2, if_true, if_false, a1, a2]
  have hcb : cb (puI (cat C q) 3 7 (nI q)) = cb C := frcb ((cat_fr C q).pu (Or.inr ⟨rfl, rfl⟩))
  have hw := takeWord_e hN h2
  rw [hcb] at hw
  have hf : f_X5_readFreeWord N C = (jp (j_X5_readFreeWord_70 N (tw (cb C) n q) (fwS C q (wE (cb C) n q))) fun k70 =>
      if (lg_cmp (tw (cb C) n q) 0) = 0 then k70 else
      if (lg_cmp (tw (cb C) n q) ((fwS C q (wE (cb C) n q)).2 3 0)) = 0 then k70 else
      if (lg_cmp (tw (cb C) n q) ((fwS C q (wE (cb C) n q)).2 3 1)) = 0 then k70 else
      if (lg_cmp (tw (cb C) n q) ((fwS C q (wE (cb C) n q)).2 3 2)) = 0 then k70 else
      if (lg_cmp (tw (cb C) n q) ((fwS C q (wE (cb C) n q)).2 3 3)) = 0 then k70 else
      if (lg_cmp (tw (cb C) n q) ((fwS C q (wE (cb C) n q)).2 3 4)) = 0 then k70 else some (tw (cb C) n q, fwS C q (wE (cb C) n q))) := by
    unfold f_X5_readFreeWord
    rw [skip10 hN h, q_bd, hqe, q_nm, cat_at, hw, q_bd2]
    rfl
  rw [hf, q_jp]
  have h37 : (fwS C q (wE (cb C) n q)).1 3 7 = nI q := by
    unfold fwS
    rw [cat_o _ _ _ _ (by omega), q_gS]
  have hk : j_X5_readFreeWord_70 N (tw (cb C) n q) (fwS C q (wE (cb C) n q)) = some (tw (cb C) n q, failS 1 (nI q) (fwS C q (wE (cb C) n q))) := by
    unfold j_X5_readFreeWord_70
    rw [h37, fail_e, q_bd]
  rw [hk]
  have h22 : (fwS C q (wE (cb C) n q)).2 = C.2 := (fwS_fr C q _).1
  rw [h22]
  obtain ⟨k0, k1, k2, k3, k4⟩ := hK
  rw [k0, k1, k2, k3, k4]
  simp only [lg_cmp_eq]
  constructor
  · rintro ⟨f1, f2, f3⟩
    obtain ⟨t1, t2⟩ := tw_pos f1 f2
    rw [if_neg t2, t1]
    have hb := enc_b (wE_in (b := cb C) (n := n) (p := q)) f2
    obtain ⟨w1, w2, w3, w4, w5⟩ := wa0.mp f3
    rw [if_neg (by rw [kw_eq wE_in f2 (by omega) (by decide)]; exact w1), if_neg (by rw [kw_eq wE_in f2 (by omega) (by decide)]; exact w2), if_neg (by rw [kw_eq wE_in f2 (by omega) (by decide)]; exact w3), if_neg (by rw [kw_eq wE_in f2 (by omega) (by decide)]; exact w4), if_neg (by rw [kw_eq wE_in f2 (by omega) (by decide)]; exact w5)]
  · intro hn
    by_cases e0 : tw (cb C) n q = 0
    · rw [if_pos e0]
    · rw [if_neg e0]
      have f1 : 1 ≤ wE (cb C) n q - q ∧ wE (cb C) n q - q ≤ 12 := by
        apply Decidable.byContradiction
        intro w
        exact e0 (tw_zero (by omega))
      obtain ⟨t1, t2⟩ := tw_pos f1.1 f1.2
      have f3 : ¬ wa (enc (cb C) q (wE (cb C) n q - q)) = 0 := fun w => hn ⟨f1.1, f1.2, w⟩
      have g : tw (cb C) n q = lN (enc Wd 0 5) ∨ tw (cb C) n q = lN (enc Wd 6 6) ∨ tw (cb C) n q = lN (enc Wd 13 4) ∨ tw (cb C) n q = lN (enc Wd 18 4) ∨ tw (cb C) n q = lN (enc Wd 23 3) := by
        rw [t1]
        apply Decidable.byContradiction
        intro w
        apply f3
        rw [wa0]
        refine ⟨?_, ?_, ?_, ?_, ?_⟩
        · intro x; exact w (Or.inl (by rw [x]))
        · intro x; exact w (Or.inr (Or.inl (by rw [x])))
        · intro x; exact w (Or.inr (Or.inr (Or.inl (by rw [x]))))
        · intro x; exact w (Or.inr (Or.inr (Or.inr (Or.inl (by rw [x])))))
        · intro x; exact w (Or.inr (Or.inr (Or.inr (Or.inr (by rw [x])))))
      repeat' split
      all_goals first | rfl | skip
      next n1 n2 n3 n4 n5 =>
        rcases g with g | g | g | g | g
        · exact absurd g n1
        · exact absurd g n2
        · exact absurd g n3
        · exact absurd g n4
        · exact absurd g n5
/-- the reference's isName -/
theorem isName_e {N : Nat} {b : Nat → Nat} {n q : Nat} {M : St} (h : TkS b n q M) : (freeW b n q → f_X11_isName N M = some 1) ∧ (¬ freeW b n q → f_X11_isName N M = some 0) := by
  obtain ⟨hq, h26, h24, h25, h23, h27⟩ := h
  unfold f_X11_isName
  rw [h24]
  unfold tkK
  by_cases h0 : n ≤ q
  · rw [if_pos h0, if_neg (by decide)]
    refine ⟨?_, fun _ => rfl⟩
    rintro ⟨f1, -, -⟩
    have := wE_le (b := b) hq
    omega
  · rw [if_neg h0, h25 (by omega)]
    unfold tkW
    by_cases hl : letP b q = true
    · have h1 := (letP_wE (b := b) (show q < n by omega)).mp hl
      simp only [if_pos hl]
      by_cases h12 : wE b n q - q ≤ 12
      · rw [if_pos h12, if_pos (show nI 1 = 1 from rfl)]
        have hwa : wa (enc b q (wE b n q - q)) < 6 := by unfold wa; repeat' split
                                                         all_goals omega
        have e0 : (nI (wa (enc b q (wE b n q - q))) = 0) = (wa (enc b q (wE b n q - q)) = 0) := q_eq (b := 0) (by omega) (by omega)
        by_cases e : wa (enc b q (wE b n q - q)) = 0
        · rw [if_pos (e0 ▸ e)]
          exact ⟨fun _ => rfl, fun w => absurd ⟨h1, h12, e⟩ w⟩
        · rw [if_neg (fun w => e (e0 ▸ w))]
          exact ⟨fun w => absurd w.2.2 e, fun _ => rfl⟩
      · rw [if_neg h12, if_neg (by decide)]
        exact ⟨fun w => absurd w.2.1 h12, fun _ => rfl⟩
    · have h1 : ¬ 1 ≤ wE b n q - q := fun w => hl ((letP_wE (b := b) (show q < n by omega)).mpr w)
      simp only [if_neg hl]
      refine ⟨fun w => absurd w.1 h1, fun _ => ?_⟩
      split
      · rw [if_neg (by decide)]; rfl
      · split
        · rw [if_neg (by decide)]; rfl
        · rw [if_neg (by decide)]; rfl
theorem freeW_tk {b : Nat → Nat} {n q : Nat} (hq : q ≤ n) (h : freeW b n q) : tkE b n q = wE b n q ∧ q < n := by
  have h2 := wE_le (b := b) hq
  have h1 := h.1
  have h3 : q < n := by omega
  unfold tkE
  rw [if_neg (by omega), if_pos ((letP_wE h3).mpr h1)]
  exact ⟨rfl, h3⟩
def wrongS (a pl : Int32) (M : St) : St := puI (puI M 0 16 a) 0 17 pl
theorem wrong_e {N : Nat} {a pl : Int32} {M : St} : f_X11_wrong N a pl M = some (0, wrongS a pl M) := rfl
