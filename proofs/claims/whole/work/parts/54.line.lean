/-! pure part: a line of rules, and all lines -/
def lineC (N : Nat) (v11 : Int32) (w12 : Int64) (S13 : St) : Option St := if (lg_cmp w12 (S13.2 3 0)) = 0 then f_X5_readPlace N v11 S13 else if (lg_cmp w12 (S13.2 3 1)) = 0 then f_X5_readRegion N v11 S13 else if (lg_cmp w12 (S13.2 3 2)) = 0 then f_X5_readBand N v11 S13 else f_X5_fail N 1 v11 S13
theorem LO.le {b : Nat → Nat} {n p p' : Nat} {C M C' M' : St} {r : Int32} (h : LO b n p C M C' M' r) (hp : p' ≤ p) : LO b n p' C M C' M' r := by
  refine ⟨h.1, h.2.1, h.2.2.imp ?_ (fun w => w)⟩
  rintro ⟨h1, ⟨p2, P, R, B, h2, h3⟩, h4⟩
  exact ⟨h1, ⟨p2, P, R, B, by omega, h3⟩, h4⟩
theorem LO.z {b : Nat → Nat} {n p : Nat} {C M C' M' : St} {r : Int32} (h : LO b n p C M C' M' r) : r = 0 ∨ r = 1 := by
  rcases h.2.2 with w | w
  · exact Or.inr w.1
  · exact Or.inl w.1
theorem kw_ne {b : Nat → Nat} {n p : Nat} {x : Int64} (h : tw b n p = x) (hx : x ≠ 0) : 1 ≤ wE b n p - p ∧ wE b n p - p ≤ 12 := by
  apply Decidable.byContradiction
  intro w
  apply hx
  rw [← h]
  exact tw_zero (by omega)
theorem wa_1 {x : Nat} (h : x = enc Wd 0 5) : wa x = 1 := by subst h; decide
theorem wa_2 {x : Nat} (h : x = enc Wd 6 6) : wa x = 2 := by subst h; decide
theorem wa_3 {x : Nat} (h : x = enc Wd 13 4) : wa x = 3 := by subst h; decide
theorem wa_o {x : Nat} (h1 : x ≠ enc Wd 0 5) (h2 : x ≠ enc Wd 6 6) (h3 : x ≠ enc Wd 13 4) : wa x = 0 ∨ wa x = 4 ∨ wa x = 5 := by
  unfold wa
  rw [if_neg h1, if_neg h2, if_neg h3]
  repeat' split
  all_goals omega
section LN
variable {N : Nat} {b : Nat → Nat} {n p P R B : Nat} {C M : St}
theorem line_l (hN : 6000 ≤ N) (hb : ∀ k, k < 1000 → b k < 256) (hpn : p < n) (hZ : Zc b n p C) (hM : mB b n M) (hT : TkS b n p M) (hr : Zr P R B C M) :
    ok (lineC N (nI p) (tw b n p) (cat C (wE b n p))) fun C' => ok (f_X11_line N M) fun r => LO b n p C M C' r.2 r.1 := by
  have hn := hM.2.2.1
  have hwle := wE_le (b := b) (n := n) (p := p) (by omega)
  have hwge := wE_ge b n p
  have hfa1 := fa_cat hZ.1 (q := wE b n p) hwle
  have hZ1 : Zc b n (wE b n p) (cat C (wE b n p)) := hZ.go hfa1.1 (hZ.1.cat hwle)
  have hr1 : Zr P R B (cat C (wE b n p)) M := hr.go (at_ := 1000) (bt := 1000) hfa1.1 fr.rf (fun i hi => by have := hr.1.2.2.1; omega) (fun i hi => by have := hr.1.2.2.2.1; omega) (fun i hi => by have := hr.2.1.2.1; omega)
  obtain ⟨t0, t26, t24, t25, t23, t27⟩ := hT
  have hbad : ok (f_X5_fail N 1 (nI p) (cat C (wE b n p))) fun C' => ok (zb (j_X11_line_24 N M)) fun r => LO b n p C M C' r.2 r.1 := by
    rw [fail_e]
    apply ok_s
    unfold j_X11_line_24
    rw [wrong_e, q_bd2, t26]
    have e1 : zb (some ((0 : Int32), wrongS 1 (nI p) M)) = some (0, wrongS 1 (nI p) M) := rfl
    rw [e1]
    apply ok_s
    exact LO_bad (by decide) hZ1.2.2.2 (hfa1.1).K ⟨fr.rf, wE b n p, failS_tp hZ1.1⟩ fr.rf
  obtain ⟨k0, k1, k2, k3, k4⟩ := hZ1.2.2.1
  unfold lineC f_X11_line
  simp only [lg_cmp_eq, q_jp]
  rw [k0, k1, k2, t24, t25 hpn]
  have hk := tkK_le b n p
  have k1' : (nI (tkK b n p) = 1) = (tkK b n p = 1) := q_eq (b := 1) (by omega) (by omega)
  by_cases hl : letP b p = true ∧ wE b n p - p ≤ 12
  · have h1 := (letP_wE hpn).mp hl.1
    obtain ⟨tw1, tw2⟩ := tw_pos h1 hl.2
    have hK : tkK b n p = 1 := by unfold tkK; rw [if_neg (by omega), if_pos hl.1, if_pos hl.2]
    have hW : tkW b n p = nI (wa (enc b p (wE b n p - p))) := by unfold tkW; rw [if_pos hl.1]
    have hEk : tkE b n p = wE b n p := by unfold tkE; rw [if_neg (by omega), if_pos hl.1]
    have hTk : TkS b n p M := ⟨t0, t26, t24, t25, t23, t27⟩
    rw [if_pos (show nI (tkK b n p) = 1 from k1' ▸ hK), hW, tw1]
    have y0 := kw_eq (b := b) (p := p) (a := 0) (m := 5) wE_in hl.2 (by omega) (by decide)
    have y1 := kw_eq (b := b) (p := p) (a := 6) (m := 6) wE_in hl.2 (by omega) (by decide)
    have y2 := kw_eq (b := b) (p := p) (a := 13) (m := 4) wE_in hl.2 (by omega) (by decide)
    simp only [y0, y1, y2]
    by_cases c1 : enc b p (wE b n p - p) = enc Wd 0 5
    · rw [if_pos c1, wa_1 c1, if_neg (show ¬ nI 1 < 1 by decide), if_pos (show nI 1 ≤ 3 by decide), if_pos (show nI 1 = 1 from rfl)]
      refine ok_m (place_l hN hb hZ1 hM hTk hEk hr1) ?_
      intro C' hC'
      apply ok_zb
      refine ok_m hC' ?_
      intro r hr'
      exact ⟨hr'.z, (hr'.le hwge).mv (hfa1.1).K fr.rf⟩
    · rw [if_neg c1]
      by_cases c2 : enc b p (wE b n p - p) = enc Wd 6 6
      · rw [if_pos c2, wa_2 c2, if_neg (show ¬ nI 2 < 1 by decide), if_pos (show nI 2 ≤ 3 by decide), if_neg (show ¬ nI 2 = 1 by decide), if_pos (show nI 2 = 2 from rfl)]
        refine ok_m (region_l hN hb hZ1 hM hTk hEk (by omega) hr1) ?_
        intro C' hC'
        apply ok_zb
        refine ok_m hC' ?_
        intro r hr'
        exact ⟨hr'.z, (hr'.le hwge).mv (hfa1.1).K fr.rf⟩
      · rw [if_neg c2]
        by_cases c3 : enc b p (wE b n p - p) = enc Wd 13 4
        · rw [if_pos c3, wa_3 c3, if_neg (show ¬ nI 3 < 1 by decide), if_pos (show nI 3 ≤ 3 by decide), if_neg (show ¬ nI 3 = 1 by decide), if_neg (show ¬ nI 3 = 2 by decide)]
          refine ok_m (band_l hN hb hZ1 hM hTk hEk hr1) ?_
          intro C' hC'
          apply ok_zb
          refine ok_m hC' ?_
          intro r hr'
          exact ⟨hr'.z, (hr'.le hwge).mv (hfa1.1).K fr.rf⟩
        · rw [if_neg c3]
          rcases wa_o c1 c2 c3 with w | w | w
          · rw [w, if_pos (show nI 0 < 1 by decide)]; exact hbad
          · rw [w, if_neg (show ¬ nI 4 < 1 by decide), if_neg (show ¬ nI 4 ≤ 3 by decide)]; exact hbad
          · rw [w, if_neg (show ¬ nI 5 < 1 by decide), if_neg (show ¬ nI 5 ≤ 3 by decide)]; exact hbad
  · have hz : tw b n p = 0 := by
      apply tw_zero
      apply Decidable.byContradiction
      intro w
      exact hl ⟨(letP_wE hpn).mpr (by omega), by omega⟩
    have hK : ¬ tkK b n p = 1 := by
      intro a1
      unfold tkK at a1
      rw [if_neg (by omega)] at a1
      split at a1
      · next h3 =>
        split at a1
        · next h4 => exact hl ⟨h3, h4⟩
        · omega
      · split at a1
        · omega
        · split at a1 <;> omega
    rw [hz, if_neg (by decide), if_neg (by decide), if_neg (by decide), if_neg (show ¬ nI (tkK b n p) = 1 from fun w => hK (k1' ▸ w))]
    exact hbad
theorem read22_eq (hN : 6000 ≤ N) (K : Int32 → St → Option St) {i : Nat} (hi : i < 1000) (hpn : p < n) (hZ : Zc b n p C) : b_X5_read_22 N K (nI i) C = bd (lineC N (nI p) (tw b n p) (cat C (wE b n p))) (j_X5_read_125 N (nI i) K) := by
  unfold b_X5_read_22 lineC f_X8_isAtEnd
  have hn := hZ.1.2.2.2
  rw [if_neg (show ¬ (1000 : Int32) ≤ nI i from nI_ge (b := 1000) hi (by omega)), if_pos hZ.2.2.2, hZ.1.1, hZ.1.2.1, if_pos (by rw [q_lt (by omega) (by omega)]; exact hpn), takeWord_e hN hZ.1, hZ.2.1]
  simp only [q_z10, q_bd, q_bd2, q_nm, q_jp]
  rw [if_pos trivial]
  repeat' split
  all_goals rfl
theorem TkS.end {b : Nat → Nat} {n : Nat} {M : St} (h : TkS b n n M) : M.1 0 24 = 0 := by
  rw [h.2.2.1]
  unfold tkK
  rw [if_pos (by omega)]
  rfl
theorem TkS.ne {b : Nat → Nat} {n p : Nat} {M : St} (h : TkS b n p M) (hp : p < n) : M.1 0 24 ≠ 0 := by
  rw [h.2.2.1]
  have hk := tkK_le b n p
  have : (nI (tkK b n p) = 0) = (tkK b n p = 0) := q_eq (b := 0) (by omega) (by omega)
  rw [ne_eq, this]
  unfold tkK
  rw [if_neg (by omega)]
  repeat' split
  all_goals omega
theorem mB.py {b : Nat → Nat} {n : Nat} {M M' : St} (h : mB b n M) (hf : fr PY M M') : mB b n M' := h.go hf (fun k q => by unfold PY at q; omega) (fun q => by unfold PY at q; omega) (fun k q => by unfold PY at q; omega)
theorem read_loop (hN : 6000 ≤ N) (hb : ∀ k, k < 1000 → b k < 256) (k80 : St → Option (Int32 × St)) :
    ∀ d p i N1 N2 P R B (C M : St), n - p < d → d < N1 → d < N2 → i ≤ p → sk b n p = p → Zc b n p C → mB b n M → TkS b n p M → Zr P R B C M →
    ∃ C' M', lp (fun _ _ => none) (b_X5_read_22 N) N1 (nI i) C = some C' ∧ frKw C C' ∧ fr PYw M M' ∧
      ((C'.1 3 5 = 0 ∧ C'.1 3 6 = C.1 3 6 ∧ fr PY M M' ∧ (∃ P R B, Zr P R B C' M') ∧ lp (fun _ => none) (b_X11_rules_64 N k80) N2 M = k80 M') ∨
       (C'.1 3 5 ≠ 0 ∧ C'.1 3 5 = M'.1 0 16 ∧ C'.1 3 6 = M'.1 0 17 ∧ lp (fun _ => none) (b_X11_rules_64 N k80) N2 M = some (-1, M'))) := by
  intro d
  induction d with
  | zero => intro p i N1 N2 P R B C M h; omega
  | succ d ih =>
    intro p i N1 N2 P R B C M hd h1 h2 hi hsk hZ hM hT hr
    have hn := hM.2.2.1
    obtain ⟨N1, rfl⟩ : ∃ k, N1 = k + 1 := ⟨N1 - 1, by omega⟩
    obtain ⟨N2, rfl⟩ : ∃ k, N2 = k + 1 := ⟨N2 - 1, by omega⟩
    rw [q_lp, q_lp]
    have ih' := ih
    by_cases hpn : p < n
    · rw [read22_eq hN _ (by omega) hpn hZ]
      obtain ⟨C1, hC1, ⟨⟨r, M1⟩, hM1, hLO⟩⟩ := line_l hN hb hpn hZ hM hT hr
      rw [hC1, q_bd]
      unfold b_X11_rules_64 j_X5_read_125
      rw [if_neg (hT.ne hpn), hM1, q_bd2]
      obtain ⟨hKw, hYw, ⟨hr1, ⟨p', P', R', B', hp', hZ', hr', hT'⟩, hK, hY⟩ | ⟨hr0, e1, e2, e3, q, hq⟩⟩ := hLO
      · have hr1' : r = 1 := hr1
        subst hr1'
        rw [if_neg (show ¬ (1 : Int32) = 0 by decide), skip10 hN hZ'.1, q_bd, q_nm, hZ'.2.1, ← nI_succ]
        have hpn' := hZ'.1.2.2.1
        have hge := sk_ge b n p'
        have hle := sk_le (b := b) hpn'
        have hfa := fa_cat hZ'.1 (q := sk b n p') hle
        have hrr : Zr P' R' B' (cat C1 (sk b n p')) M1 := hr'.go (at_ := 1000) (bt := 1000) hfa.1 fr.rf (fun i hi => by have := hr'.1.2.2.1; omega) (fun i hi => by have := hr'.1.2.2.2.1; omega) (fun i hi => by have := hr'.2.1.2.1; omega)
        obtain ⟨C2, M2, g1, g2, g3, g4⟩ := ih (sk b n p') (i + 1) N1 N2 P' R' B' (cat C1 (sk b n p')) M1 (by omega) (by omega) (by omega) (by omega) (sk_idem hpn') (hZ'.go hfa.1 (hZ'.1.cat hle)) (hM.py hY) hT' hrr
        refine ⟨C2, M2, g1, (hKw.tr (hfa.1).K.w).tr g2, hYw.tr g3, ?_⟩
        rcases g4 with ⟨a1, a2, a3, a4, a5⟩ | ⟨a1, a2, a3, a4⟩
        · refine Or.inl ⟨a1, ?_, hY.tr a3, a4, a5⟩
          rw [a2, cat_o _ _ _ _ (by omega)]
          exact hK.1 3 6 (by unfold PK; omega)
        · exact Or.inr ⟨a1, a2, a3, a4⟩
      · have hr0' : r = 0 := hr0
        subst hr0'
        rw [if_pos rfl, skip10 hN hq, q_bd, q_nm, ← nI_succ]
        obtain ⟨N1, rfl⟩ : ∃ k, N1 = k + 1 := ⟨N1 - 1, by omega⟩
        have h5 : (cat C1 (sk (cb C1) n q)).1 3 5 = C1.1 3 5 := cat_o _ _ _ _ (by omega)
        have h6 : (cat C1 (sk (cb C1) n q)).1 3 6 = C1.1 3 6 := cat_o _ _ _ _ (by omega)
        refine ⟨cat C1 (sk (cb C1) n q), M1, ?_, hKw.tr (cat_fr _ _).K.w, hYw, Or.inr ⟨by rw [h5]; exact e2, by rw [h5]; exact e1, by rw [h6]; exact e3, rfl⟩⟩
        rw [q_lp]
        unfold b_X5_read_22
        rw [if_neg (show ¬ (cat C1 (sk (cb C1) n q)).1 3 5 = 0 by rw [h5]; exact e2)]
        split <;> rfl
    · have hpe : p = n := by have := hZ.1.2.2.1; omega
      subst hpe
      refine ⟨C, M, ?_, ⟨fun _ _ _ => rfl, fun _ _ => rfl⟩, fr.rf, Or.inl ⟨hZ.2.2.2, rfl, fr.rf, ⟨P, R, B, hr⟩, ?_⟩⟩
      · unfold b_X5_read_22 f_X8_isAtEnd
        rw [if_pos hZ.2.2.2, hZ.1.1, hZ.1.2.1, if_neg (show ¬ nI p < nI p by rw [q_lt (by omega) (by omega)]; omega), q_z11, q_bd, if_neg (show ¬ (1 : Int32) = 0 by decide)]
        split <;> rfl
      · unfold b_X11_rules_64
        rw [if_pos hT.end]
end LN
