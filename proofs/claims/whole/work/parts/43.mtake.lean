/-! pure part: the reference's take -/
def mv (b : Nat → Nat) (s : Nat) : Nat → Nat
  | 0 => 0
  | j + 1 => if mv b s j ≤ 99999 then 10 * mv b s j + (b (s + j) - 48) else mv b s j
theorem mv_le {b : Nat → Nat} {s : Nat} : ∀ {j : Nat}, (∀ i, i < j → digP b (s + i) = true) → mv b s j ≤ 999999 ∧ dv b s j = min 100000 (mv b s j)
  | 0, _ => by unfold mv dv; omega
  | j + 1, h => by
    have ih := mv_le (b := b) (s := s) (j := j) (fun i hi => h i (by omega))
    have a := h j (by omega)
    unfold digP at a
    rw [decide_eq_true_eq] at a
    unfold mv dv
    split <;> omega
def nsP (b : Nat → Nat) (n q : Nat) : Prop := digP b q = true ∨ (b q = 45 ∧ q + 1 < n ∧ digP b (q + 1) = true)
def nst (b : Nat → Nat) (q : Nat) : Nat := if b q = 45 then q + 1 else q
noncomputable def tkK (b : Nat → Nat) (n q : Nat) : Nat := if n ≤ q then 0 else if letP b q = true then (if wE b n q - q ≤ 12 then 1 else 4) else if (digP b q = true ∨ (b q = 45 ∧ q + 1 < n ∧ digP b (q + 1) = true)) then 2 else if (b q = 61 ∨ b q = 44 ∨ b q = 59) then 3 else 4
noncomputable def tkE (b : Nat → Nat) (n q : Nat) : Nat := if n ≤ q then q else if letP b q = true then wE b n q else if (digP b q = true ∨ (b q = 45 ∧ q + 1 < n ∧ digP b (q + 1) = true)) then dE b n (nst b q) else q + 1
noncomputable def tkW (b : Nat → Nat) (n q : Nat) : Int32 := if letP b q = true then nI (wa (enc b q (wE b n q - q))) else if (digP b q = true ∨ (b q = 45 ∧ q + 1 < n ∧ digP b (q + 1) = true)) then (if b q = 45 then - nI (mv b (nst b q) (dE b n (nst b q) - nst b q)) else nI (mv b (nst b q) (dE b n (nst b q) - nst b q))) else nI (b q)
def PT (r k : Nat) : Prop := r = 0 ∧ 23 ≤ k ∧ k ≤ 27
/-- the token that begins at q is at hand -/
def TkS (b : Nat → Nat) (n q : Nat) (M : St) : Prop := q ≤ n ∧ M.1 0 26 = nI q ∧ M.1 0 24 = nI (tkK b n q) ∧ (q < n → M.1 0 25 = tkW b n q) ∧ M.1 0 23 = nI (tkE b n q) ∧ M.1 0 27 = nI (tkE b n q)
theorem mB.pt {b : Nat → Nat} {n : Nat} {M M' : St} (h : mB b n M) (hf : fr PT M M') : mB b n M' := h.go hf (fun k q => by unfold PT at q; omega) (fun q => by unfold PT at q; omega) (fun k q => by unfold PT at q; omega)
theorem wE_ge (b : Nat → Nat) (n p : Nat) : p ≤ wE b n p := scan_ge _ _ _
theorem wE_le {b : Nat → Nat} {n p : Nat} (h : p ≤ n) : wE b n p ≤ n := by have := scan_le (letP b) (n - p) p; unfold wE; omega
theorem dE_ge (b : Nat → Nat) (n p : Nat) : p ≤ dE b n p := scan_ge _ _ _
theorem dE_le {b : Nat → Nat} {n p : Nat} (h : p ≤ n) : dE b n p ≤ n := by have := scan_le (digP b) (n - p) p; unfold dE; omega
theorem wE_in {b : Nat → Nat} {n p : Nat} : ∀ i, i < wE b n p - p → letP b (p + i) = true := fun i hi => scan_in (letP b) (n - p) p (p + i) (by omega) (by unfold wE at hi; omega)
theorem dE_in {b : Nat → Nat} {n p : Nat} : ∀ i, i < dE b n p - p → digP b (p + i) = true := fun i hi => scan_in (digP b) (n - p) p (p + i) (by omega) (by unfold dE at hi; omega)
theorem tkE_le {b : Nat → Nat} {n q : Nat} (h : q ≤ n) : tkE b n q ≤ n := by
  unfold tkE
  split
  · omega
  · split
    · exact wE_le h
    · split
      · apply dE_le
        unfold nst
        split <;> omega
      · omega
theorem take384 {S : St} : j_X11_take_384 S = some (puI S 0 27 (S.1 0 23)) := rfl
/-- the last step of take -/
theorem take_fin {b : Nat → Nat} {n q e : Nat} {M S : St} (hq : q ≤ n) (hf : fr PT M S) (h26 : S.1 0 26 = nI q) (h24 : S.1 0 24 = nI (tkK b n q)) (h25 : q < n → S.1 0 25 = tkW b n q) (h23 : S.1 0 23 = nI e) (he : e = tkE b n q) :
    ok (j_X11_take_384 S) fun M' => TkS b n q M' ∧ fr PT M M' := by
  subst he
  rw [take384]
  refine ok_s ⟨⟨hq, ?_, ?_, ?_, ?_, ?_⟩, hf.pu ⟨rfl, by omega, by omega⟩⟩
  · simp (disch := omega) only [q_nm, q_jp, q_bd, q_bd2, q_zb0, q_zb1, q_zbn0, q_zbn1, q_z10, q_z11, q_z1n0, q_z1n1, q_lit, q_add, q_mul, q_lt, q_le, q_eq, q_tn, q_ck, q_nm1, q_n1e, q_gS, q_gR, q_gK, q_g2, if_true, if_false, h26]
  · simp (disch := omega) only [q_nm, q_jp, q_bd, q_bd2, q_zb0, q_zb1, q_zbn0, q_zbn1, q_z10, q_z11, q_z1n0, q_z1n1, q_lit, q_add, q_mul, q_lt, q_le, q_eq, q_tn, q_ck, q_nm1, q_n1e, q_gS, q_gR, q_gK, q_g2, if_true, if_false, h24]
  · intro h; simp (disch := omega) only [q_nm, q_jp, q_bd, q_bd2, q_zb0, q_zb1, q_zbn0, q_zbn1, q_z10, q_z11, q_z1n0, q_z1n1, q_lit, q_add, q_mul, q_lt, q_le, q_eq, q_tn, q_ck, q_nm1, q_n1e, q_gS, q_gR, q_gK, q_g2, if_true, if_false, h25 h]
  · simp (disch := omega) only [q_nm, q_jp, q_bd, q_bd2, q_zb0, q_zb1, q_zbn0, q_zbn1, q_z10, q_z11, q_z1n0, q_z1n1, q_lit, q_add, q_mul, q_lt, q_le, q_eq, q_tn, q_ck, q_nm1, q_n1e, q_gS, q_gR, q_gK, q_g2, if_true, if_false, h23]
  · simp (disch := omega) only [q_nm, q_jp, q_bd, q_bd2, q_zb0, q_zb1, q_zbn0, q_zbn1, q_z10, q_z11, q_z1n0, q_z1n1, q_lit, q_add, q_mul, q_lt, q_le, q_eq, q_tn, q_ck, q_nm1, q_n1e, q_gS, q_gR, q_gK, q_g2, if_true, if_false, h23]
theorem take_w {N : Nat} {b : Nat → Nat} {n q : Nat} {M S : St} (hN : 6000 ≤ N) (hM : mB b n M) (hq : q < n) (hlet : letP b q = true) (hf : fr PT M S) (h26 : S.1 0 26 = nI q) (h23 : S.1 0 23 = nI q) :
    ok (lp (fun _ => none) (b_X11_take_90 N (j_X11_take_114 N j_X11_take_384)) N S) fun M' => TkS b n q M' ∧ fr PT M M' := by
  have hn := hM.2.2.1
  refine ok_l1 (fun m S => ∃ p, fr PT M S ∧ S.1 0 26 = nI q ∧ S.1 0 23 = nI p ∧ q ≤ p ∧ p ≤ n ∧ n - p = m ∧ scan (letP b) (n - p) p = wE b n q) ?_ N (n - q) S (by omega) ⟨q, hf, h26, h23, by omega, by omega, rfl, rfl⟩
  rintro k m S ⟨p, hf, h26, h23, h1, h2, h3, h4⟩ hk
  unfold b_X11_take_90
  rw [h23, isSmall_e (hM.pt hf) (by omega)]
  have hex : wE b n q = p → ok (j_X11_take_114 N j_X11_take_384 S) fun M' => TkS b n q M' ∧ fr PT M M' := by
    intro e
    unfold j_X11_take_114 j_X11_take_150
    have hw := wordAt_e hN (hM.pt hf) (p := q) (e := p) h1 (by omega) (by rw [← e]; exact wE_in)
    rw [h26, h23, hw]
    simp only [q_bd, q_nm, q_jp]
    have e1 : (puI S 0 25 (nI (wa (enc b q (p - q))))).1 0 23 = nI p := by simp (disch := omega) only [q_nm, q_jp, q_bd, q_bd2, q_zb0, q_zb1, q_zbn0, q_zbn1, q_z10, q_z11, q_z1n0, q_z1n1, q_lit, q_add, q_mul, q_lt, q_le, q_eq, q_tn, q_ck, q_nm1, q_n1e, q_gS, q_gR, q_gK, q_g2, if_true, if_false, h23]
    have e2 : (puI S 0 25 (nI (wa (enc b q (p - q))))).1 0 26 = nI q := by simp (disch := omega) only [q_nm, q_jp, q_bd, q_bd2, q_zb0, q_zb1, q_zbn0, q_zbn1, q_z10, q_z11, q_z1n0, q_z1n1, q_lit, q_add, q_mul, q_lt, q_le, q_eq, q_tn, q_ck, q_nm1, q_n1e, q_gS, q_gR, q_gK, q_g2, if_true, if_false, h26]
    rw [e1, e2, q_sub h1]
    have e3 : (nI (p - q) ≤ 12) = (p - q ≤ 12) := q_le (b := 12) (by omega) (by omega)
    have hg : ∀ v, v = nI (if p - q ≤ 12 then 1 else 4) → ok (j_X11_take_384 (puI (puI S 0 25 (nI (wa (enc b q (p - q))))) 0 24 v)) fun M' => TkS b n q M' ∧ fr PT M M' := by
      intro v hv
      refine take_fin (e := p) (by omega) ((hf.pu ⟨rfl, by omega, by omega⟩).pu ⟨rfl, by omega, by omega⟩) ?_ ?_ ?_ ?_ ?_
      · simp (disch := omega) only [q_nm, q_jp, q_bd, q_bd2, q_zb0, q_zb1, q_zbn0, q_zbn1, q_z10, q_z11, q_z1n0, q_z1n1, q_lit, q_add, q_mul, q_lt, q_le, q_eq, q_tn, q_ck, q_nm1, q_n1e, q_gS, q_gR, q_gK, q_g2, if_true, if_false, h26]
      · simp (disch := omega) only [q_nm, q_jp, q_bd, q_bd2, q_zb0, q_zb1, q_zbn0, q_zbn1, q_z10, q_z11, q_z1n0, q_z1n1, q_lit, q_add, q_mul, q_lt, q_le, q_eq, q_tn, q_ck, q_nm1, q_n1e, q_gS, q_gR, q_gK, q_g2, if_true, if_false]
        rw [hv]
        unfold tkK
        rw [if_neg (show ¬ n ≤ q by omega), if_pos hlet, e]
      · intro _
        simp (disch := omega) only [q_nm, q_jp, q_bd, q_bd2, q_zb0, q_zb1, q_zbn0, q_zbn1, q_z10, q_z11, q_z1n0, q_z1n1, q_lit, q_add, q_mul, q_lt, q_le, q_eq, q_tn, q_ck, q_nm1, q_n1e, q_gS, q_gR, q_gK, q_g2, if_true, if_false]
        unfold tkW
        rw [if_pos hlet, e]
      · simp (disch := omega) only [q_nm, q_jp, q_bd, q_bd2, q_zb0, q_zb1, q_zbn0, q_zbn1, q_z10, q_z11, q_z1n0, q_z1n1, q_lit, q_add, q_mul, q_lt, q_le, q_eq, q_tn, q_ck, q_nm1, q_n1e, q_gS, q_gR, q_gK, q_g2, if_true, if_false, h23]
      · unfold tkE
        rw [if_neg (show ¬ n ≤ q by omega), if_pos hlet, e]
    by_cases e4 : p - q ≤ 12
    · rw [if_pos (e3 ▸ e4)]
      exact hg _ (by rw [if_pos e4]; rfl)
    · rw [if_neg (fun w => e4 (e3 ▸ w))]
      exact hg _ (by rw [if_neg e4]; rfl)
  by_cases hp : p < n
  · rw [scan_st hp] at h4
    by_cases e : letP b p = true
    · rw [if_pos e] at h4
      rw [if_pos ⟨hp, e⟩]
      simp only [q_bd, q_nm]
      rw [if_neg (by decide)]
      refine hk _ _ (by omega) ⟨p + 1, hf.pu ⟨rfl, by omega, by omega⟩, ?_, ?_, by omega, by omega, rfl, h4⟩
      · simp (disch := omega) only [q_nm, q_jp, q_bd, q_bd2, q_zb0, q_zb1, q_zbn0, q_zbn1, q_z10, q_z11, q_z1n0, q_z1n1, q_lit, q_add, q_mul, q_lt, q_le, q_eq, q_tn, q_ck, q_nm1, q_n1e, q_gS, q_gR, q_gK, q_g2, if_true, if_false, h26]
      · simp (disch := omega) only [q_nm, q_jp, q_bd, q_bd2, q_zb0, q_zb1, q_zbn0, q_zbn1, q_z10, q_z11, q_z1n0, q_z1n1, q_lit, q_add, q_mul, q_lt, q_le, q_eq, q_tn, q_ck, q_nm1, q_n1e, q_gS, q_gR, q_gK, q_g2, if_true, if_false, h23]
    · rw [if_neg e] at h4
      rw [if_neg (fun w => e w.2)]
      rw [q_bd, if_pos rfl]
      exact hex h4.symm
  · rw [scan_z (by omega)] at h4
    rw [if_neg (fun w => hp w.1)]
    rw [q_bd, if_pos rfl]
    exact hex h4.symm
theorem take_d {N : Nat} {b : Nat → Nat} {n q : Nat} {M S : St} {v20 : Int32} (hN : 6000 ≤ N) (hM : mB b n M) (hq : q < n) (hlet : ¬ letP b q = true) (hdig : digP b q = true ∨ (b q = 45 ∧ q + 1 < n ∧ digP b (q + 1) = true)) (hv : v20 = if b q = 45 then 1 else 0) (hf : fr PT M S) (h26 : S.1 0 26 = nI q) (h23 : S.1 0 23 = nI (nst b q)) :
    ok (j_X11_take_228 N j_X11_take_384 v20 S) fun M' => TkS b n q M' ∧ fr PT M M' := by
  have hn := hM.2.2.1
  have hns : nst b q ≤ n ∧ q ≤ nst b q := by unfold nst; split <;> omega
  unfold j_X11_take_228
  simp only [q_nm, q_jp]
  refine ok_l1 (fun m S => ∃ j, fr PT M S ∧ S.1 0 26 = nI q ∧ S.1 0 24 = nI 2 ∧ S.1 0 23 = nI (nst b q + j) ∧ S.1 0 25 = nI (mv b (nst b q) j) ∧ (∀ i, i < j → digP b (nst b q + i) = true) ∧ nst b q + j ≤ n ∧ n - (nst b q + j) = m ∧ scan (digP b) (n - (nst b q + j)) (nst b q + j) = dE b n (nst b q)) ?_ N (n - nst b q) _ (by omega) ⟨0, ?_, ?_, ?_, ?_, ?_, ?_, ?_, ?_, ?_⟩
  · rintro k m S ⟨j, hf, h26, h24, h23, h25, hdj, h2, h3, h4⟩ hk
    have hmv := (mv_le hdj).1
    unfold b_X11_take_238
    rw [h23, isDigit_e (hM.pt hf) (by omega)]
    have hex : dE b n (nst b q) = nst b q + j → ok (j_X11_take_302 j_X11_take_384 v20 S) fun M' => TkS b n q M' ∧ fr PT M M' := by
      intro e
      unfold j_X11_take_302 j_X11_take_319
      simp only [q_nm, q_jp]
      have ej : dE b n (nst b q) - nst b q = j := by omega
      have hg : ∀ v, v = tkW b n q → ok (j_X11_take_384 (puI S 0 25 v)) fun M' => TkS b n q M' ∧ fr PT M M' := by
        intro v hv2
        refine take_fin (e := nst b q + j) (by omega) (hf.pu ⟨rfl, by omega, by omega⟩) ?_ ?_ ?_ ?_ ?_
        · simp (disch := omega) only [q_nm, q_jp, q_bd, q_bd2, q_zb0, q_zb1, q_zbn0, q_zbn1, q_z10, q_z11, q_z1n0, q_z1n1, q_lit, q_add, q_mul, q_lt, q_le, q_eq, q_tn, q_ck, q_nm1, q_n1e, q_gS, q_gR, q_gK, q_g2, if_true, if_false, h26]
        · simp (disch := omega) only [q_nm, q_jp, q_bd, q_bd2, q_zb0, q_zb1, q_zbn0, q_zbn1, q_z10, q_z11, q_z1n0, q_z1n1, q_lit, q_add, q_mul, q_lt, q_le, q_eq, q_tn, q_ck, q_nm1, q_n1e, q_gS, q_gR, q_gK, q_g2, if_true, if_false, h24]
          unfold tkK
          rw [if_neg (show ¬ n ≤ q by omega), if_neg hlet, if_pos hdig]
        · intro _
          simp (disch := omega) only [q_nm, q_jp, q_bd, q_bd2, q_zb0, q_zb1, q_zbn0, q_zbn1, q_z10, q_z11, q_z1n0, q_z1n1, q_lit, q_add, q_mul, q_lt, q_le, q_eq, q_tn, q_ck, q_nm1, q_n1e, q_gS, q_gR, q_gK, q_g2, if_true, if_false]
          exact hv2
        · simp (disch := omega) only [q_nm, q_jp, q_bd, q_bd2, q_zb0, q_zb1, q_zbn0, q_zbn1, q_z10, q_z11, q_z1n0, q_z1n1, q_lit, q_add, q_mul, q_lt, q_le, q_eq, q_tn, q_ck, q_nm1, q_n1e, q_gS, q_gR, q_gK, q_g2, if_true, if_false, h23]
        · unfold tkE
          rw [if_neg (show ¬ n ≤ q by omega), if_neg hlet, if_pos hdig, e]
      have hW : tkW b n q = if b q = 45 then - nI (mv b (nst b q) j) else nI (mv b (nst b q) j) := by
        unfold tkW
        rw [if_neg hlet, if_pos hdig, ej]
      by_cases e45 : b q = 45
      · rw [if_pos e45] at hW hv
        rw [hv, if_neg (by decide), h25]
        exact hg _ hW.symm
      · rw [if_neg e45] at hW hv
        rw [hv, if_pos rfl, h25]
        exact hg _ hW.symm
    by_cases hp : nst b q + j < n
    · rw [scan_st hp] at h4
      by_cases e : digP b (nst b q + j) = true
      · rw [if_pos e] at h4
        rw [if_pos ⟨hp, e⟩]
        obtain ⟨t1, t2⟩ := (hM.pt hf).1 (nst b q + j) (by omega)
        have e' := e
        unfold digP at e'
        rw [decide_eq_true_eq] at e'
        simp only [q_bd]
        rw [if_neg (by decide)]
        unfold j_X11_take_286
        simp only [q_nm, q_jp]
        rw [h25, q_tn (by omega), t1, q_ck (by omega) (by omega)]
        have e5 : (nI (mv b (nst b q) j) ≤ 99999) = (mv b (nst b q) j ≤ 99999) := q_le (b := 99999) (by omega) (by omega)
        have hg : ∀ v, v = nI (mv b (nst b q) (j + 1)) → ok (k (puI (puI S 0 25 v) 0 23 ((puI S 0 25 v).1 0 23 + 1))) fun M' => TkS b n q M' ∧ fr PT M M' := by
          intro v hv2
          refine hk _ _ ?_ ⟨j + 1, (hf.pu ⟨rfl, by omega, by omega⟩).pu ⟨rfl, by omega, by omega⟩, ?_, ?_, ?_, ?_, ?_, ?_, rfl, h4⟩
          · omega
          · simp (disch := omega) only [q_nm, q_jp, q_bd, q_bd2, q_zb0, q_zb1, q_zbn0, q_zbn1, q_z10, q_z11, q_z1n0, q_z1n1, q_lit, q_add, q_mul, q_lt, q_le, q_eq, q_tn, q_ck, q_nm1, q_n1e, q_gS, q_gR, q_gK, q_g2, if_true, if_false, h26]
          · simp (disch := omega) only [q_nm, q_jp, q_bd, q_bd2, q_zb0, q_zb1, q_zbn0, q_zbn1, q_z10, q_z11, q_z1n0, q_z1n1, q_lit, q_add, q_mul, q_lt, q_le, q_eq, q_tn, q_ck, q_nm1, q_n1e, q_gS, q_gR, q_gK, q_g2, if_true, if_false, h24]
          · simp (disch := omega) only [q_nm, q_jp, q_bd, q_bd2, q_zb0, q_zb1, q_zbn0, q_zbn1, q_z10, q_z11, q_z1n0, q_z1n1, q_lit, q_add, q_mul, q_lt, q_le, q_eq, q_tn, q_ck, q_nm1, q_n1e, q_gS, q_gR, q_gK, q_g2, if_true, if_false, h23, Nat.add_assoc]
          · simp (disch := omega) only [q_nm, q_jp, q_bd, q_bd2, q_zb0, q_zb1, q_zbn0, q_zbn1, q_z10, q_z11, q_z1n0, q_z1n1, q_lit, q_add, q_mul, q_lt, q_le, q_eq, q_tn, q_ck, q_nm1, q_n1e, q_gS, q_gR, q_gK, q_g2, if_true, if_false, hv2]
          · intro i hi
            by_cases hij : i < j
            · exact hdj i hij
            · have : i = j := by omega
              rw [this]; exact e
          · omega
        by_cases e6 : mv b (nst b q) j ≤ 99999
        · rw [if_pos (e5 ▸ e6)]
          refine hg _ ?_
          rw [mv, if_pos e6]
          have : ((nI 10 * nI (mv b (nst b q) j) + nI (b (nst b q + j))) - nI 48) = nI (10 * mv b (nst b q) j + (b (nst b q + j) - 48)) := by
            rw [q_mul, q_add, q_sub (by omega)]
            congr 1
            omega
          exact this
        · rw [if_neg (fun w => e6 (e5 ▸ w))]
          refine hg _ ?_
          rw [mv, if_neg e6]
      · rw [if_neg e] at h4
        rw [if_neg (fun w => e w.2)]
        rw [q_bd, if_pos rfl]
        exact hex h4.symm
    · rw [scan_z (by omega)] at h4
      rw [if_neg (fun w => hp w.1)]
      rw [q_bd, if_pos rfl]
      exact hex h4.symm
  · exact (hf.pu ⟨rfl, by omega, by omega⟩).pu ⟨rfl, by omega, by omega⟩
  · simp (disch := omega) only [q_nm, q_jp, q_bd, q_bd2, q_zb0, q_zb1, q_zbn0, q_zbn1, q_z10, q_z11, q_z1n0, q_z1n1, q_lit, q_add, q_mul, q_lt, q_le, q_eq, q_tn, q_ck, q_nm1, q_n1e, q_gS, q_gR, q_gK, q_g2, if_true, if_false, h26]
  · simp (disch := omega) only [q_nm, q_jp, q_bd, q_bd2, q_zb0, q_zb1, q_zbn0, q_zbn1, q_z10, q_z11, q_z1n0, q_z1n1, q_lit, q_add, q_mul, q_lt, q_le, q_eq, q_tn, q_ck, q_nm1, q_n1e, q_gS, q_gR, q_gK, q_g2, if_true, if_false]
  · simp (disch := omega) only [q_nm, q_jp, q_bd, q_bd2, q_zb0, q_zb1, q_zbn0, q_zbn1, q_z10, q_z11, q_z1n0, q_z1n1, q_lit, q_add, q_mul, q_lt, q_le, q_eq, q_tn, q_ck, q_nm1, q_n1e, q_gS, q_gR, q_gK, q_g2, if_true, if_false, h23, Nat.add_zero]
  · simp (disch := omega) only [q_nm, q_jp, q_bd, q_bd2, q_zb0, q_zb1, q_zbn0, q_zbn1, q_z10, q_z11, q_z1n0, q_z1n1, q_lit, q_add, q_mul, q_lt, q_le, q_eq, q_tn, q_ck, q_nm1, q_n1e, q_gS, q_gR, q_gK, q_g2, if_true, if_false]; rfl
  · intro i hi; omega
  · omega
  · rfl
  · rfl
theorem take_52 {N : Nat} {b : Nat → Nat} {n q : Nat} {M S : St} (hN : 6000 ≤ N) (hM : mB b n M) (hq : q ≤ n) (hf : fr PT M S) (h23 : S.1 0 23 = nI q) :
    ok (j_X11_take_52 N S) fun M' => TkS b n q M' ∧ fr PT M M' := by
  have hn := hM.2.2.1
  unfold j_X11_take_52
  simp only [q_nm, q_jp]
  have hf2 : fr PT M (puI S 0 26 (S.1 0 23)) := hf.pu ⟨rfl, by omega, by omega⟩
  have g26 : (puI S 0 26 (S.1 0 23)).1 0 26 = nI q := by simp (disch := omega) only [q_nm, q_jp, q_bd, q_bd2, q_zb0, q_zb1, q_zbn0, q_zbn1, q_z10, q_z11, q_z1n0, q_z1n1, q_lit, q_add, q_mul, q_lt, q_le, q_eq, q_tn, q_ck, q_nm1, q_n1e, q_gS, q_gR, q_gK, q_g2, if_true, if_false, h23]
  have g23 : (puI S 0 26 (S.1 0 23)).1 0 23 = nI q := by simp (disch := omega) only [q_nm, q_jp, q_bd, q_bd2, q_zb0, q_zb1, q_zbn0, q_zbn1, q_z10, q_z11, q_z1n0, q_z1n1, q_lit, q_add, q_mul, q_lt, q_le, q_eq, q_tn, q_ck, q_nm1, q_n1e, q_gS, q_gR, q_gK, q_g2, if_true, if_false, h23]
  generalize puI S 0 26 (S.1 0 23) = T at hf2 g26 g23 ⊢
  have hT := hM.pt hf2
  rw [g23, hT.2.1]
  by_cases h0 : q = n
  · rw [if_pos (by rw [h0])]
    refine take_fin (e := q) hq (hf2.pu ⟨rfl, by omega, by omega⟩) ?_ ?_ ?_ ?_ ?_
    · simp (disch := omega) only [q_nm, q_jp, q_bd, q_bd2, q_zb0, q_zb1, q_zbn0, q_zbn1, q_z10, q_z11, q_z1n0, q_z1n1, q_lit, q_add, q_mul, q_lt, q_le, q_eq, q_tn, q_ck, q_nm1, q_n1e, q_gS, q_gR, q_gK, q_g2, if_true, if_false, g26]
    · simp (disch := omega) only [q_nm, q_jp, q_bd, q_bd2, q_zb0, q_zb1, q_zbn0, q_zbn1, q_z10, q_z11, q_z1n0, q_z1n1, q_lit, q_add, q_mul, q_lt, q_le, q_eq, q_tn, q_ck, q_nm1, q_n1e, q_gS, q_gR, q_gK, q_g2, if_true, if_false]
      unfold tkK
      rw [if_pos (by omega)]
    · intro; omega
    · simp (disch := omega) only [q_nm, q_jp, q_bd, q_bd2, q_zb0, q_zb1, q_zbn0, q_zbn1, q_z10, q_z11, q_z1n0, q_z1n1, q_lit, q_add, q_mul, q_lt, q_le, q_eq, q_tn, q_ck, q_nm1, q_n1e, q_gS, q_gR, q_gK, q_g2, if_true, if_false, g23]
    · unfold tkE
      rw [if_pos (by omega)]
  · have hqn : q < n := by omega
    obtain ⟨t1, t2⟩ := hT.1 q (by omega)
    have hD1 : f_X11_isDigit N (nI q + 1) T = some (if q + 1 < n ∧ digP b (q + 1) = true then 1 else 0) := by rw [← nI_succ]; exact isDigit_e hT (by omega)
    rw [if_neg (by rw [q_eq (by omega) (by omega)]; exact h0), isSmall_e hT (by omega), isDigit_e hT (by omega), hD1]
    simp only [q_bd]
    by_cases hlet : letP b q = true
    · rw [if_pos (show q < n ∧ letP b q = true from ⟨hqn, hlet⟩), if_neg (by decide)]
      exact take_w hN hM hqn hlet hf2 g26 g23
    · rw [if_neg (show ¬ (q < n ∧ letP b q = true) from fun w => hlet w.2), if_pos rfl]
      have hD : (digP b q = true ∨ (b q = 45 ∧ q + 1 < n ∧ digP b (q + 1) = true)) → ok (j_X11_take_194 N T j_X11_take_384) fun M' => TkS b n q M' ∧ fr PT M M' := by
        intro hdig
        unfold j_X11_take_194 j_X11_take_213
        simp only [q_nm, q_jp]
        rw [g23, q_ck (by omega) (by omega), q_tn (by omega), t1]
        by_cases e45 : b q = 45
        · rw [if_pos (by rw [e45]; rfl), if_neg (by decide)]
          refine take_d hN hM hqn hlet hdig (by rw [if_pos e45]) (hf2.pu ⟨rfl, by omega, by omega⟩) ?_ ?_
          · simp (disch := omega) only [q_nm, q_jp, q_bd, q_bd2, q_zb0, q_zb1, q_zbn0, q_zbn1, q_z10, q_z11, q_z1n0, q_z1n1, q_lit, q_add, q_mul, q_lt, q_le, q_eq, q_tn, q_ck, q_nm1, q_n1e, q_gS, q_gR, q_gK, q_g2, if_true, if_false, g26]
          · unfold nst
            rw [if_pos e45]
            simp (disch := omega) only [q_nm, q_jp, q_bd, q_bd2, q_zb0, q_zb1, q_zbn0, q_zbn1, q_z10, q_z11, q_z1n0, q_z1n1, q_lit, q_add, q_mul, q_lt, q_le, q_eq, q_tn, q_ck, q_nm1, q_n1e, q_gS, q_gR, q_gK, q_g2, if_true, if_false]
        · have e45' : ¬ nI (b q) = 45 := by
            have : ¬ nI (b q) = nI 45 := by rw [q_eq (by omega) (by omega)]; exact e45
            exact this
          rw [if_neg e45', if_pos trivial]
          refine take_d hN hM hqn hlet hdig (by rw [if_neg e45]) hf2 g26 ?_
          unfold nst
          rw [if_neg e45]
          exact g23
      have hX : ¬ (digP b q = true ∨ (b q = 45 ∧ q + 1 < n ∧ digP b (q + 1) = true)) → ok (j_X11_take_325 T j_X11_take_384) fun M' => TkS b n q M' ∧ fr PT M M' := by
        intro hdig
        unfold j_X11_take_325 j_X11_take_381 j_X11_take_376
        simp only [q_nm, q_jp]
        rw [g23, q_ck (by omega) (by omega), q_tn (by omega), t1]
        have hg : ∀ v, v = nI (if (b q = 61 ∨ b q = 44 ∨ b q = 59) then 3 else 4) → ok (j_X11_take_384 (puI (puI (puI T 0 25 (nI (b q))) 0 23 ((puI T 0 25 (nI (b q))).1 0 23 + 1)) 0 24 v)) fun M' => TkS b n q M' ∧ fr PT M M' := by
          intro v hv
          refine take_fin (e := q + 1) (by omega) (((hf2.pu ⟨rfl, by omega, by omega⟩).pu ⟨rfl, by omega, by omega⟩).pu ⟨rfl, by omega, by omega⟩) ?_ ?_ ?_ ?_ ?_
          · simp (disch := omega) only [q_nm, q_jp, q_bd, q_bd2, q_zb0, q_zb1, q_zbn0, q_zbn1, q_z10, q_z11, q_z1n0, q_z1n1, q_lit, q_add, q_mul, q_lt, q_le, q_eq, q_tn, q_ck, q_nm1, q_n1e, q_gS, q_gR, q_gK, q_g2, if_true, if_false, g26]
          · simp (disch := omega) only [q_nm, q_jp, q_bd, q_bd2, q_zb0, q_zb1, q_zbn0, q_zbn1, q_z10, q_z11, q_z1n0, q_z1n1, q_lit, q_add, q_mul, q_lt, q_le, q_eq, q_tn, q_ck, q_nm1, q_n1e, q_gS, q_gR, q_gK, q_g2, if_true, if_false, hv]
            unfold tkK
            rw [if_neg (show ¬ n ≤ q by omega), if_neg hlet, if_neg hdig]
          · intro _
            simp (disch := omega) only [q_nm, q_jp, q_bd, q_bd2, q_zb0, q_zb1, q_zbn0, q_zbn1, q_z10, q_z11, q_z1n0, q_z1n1, q_lit, q_add, q_mul, q_lt, q_le, q_eq, q_tn, q_ck, q_nm1, q_n1e, q_gS, q_gR, q_gK, q_g2, if_true, if_false]
            unfold tkW
            rw [if_neg hlet, if_neg hdig]
          · simp (disch := omega) only [q_nm, q_jp, q_bd, q_bd2, q_zb0, q_zb1, q_zbn0, q_zbn1, q_z10, q_z11, q_z1n0, q_z1n1, q_lit, q_add, q_mul, q_lt, q_le, q_eq, q_tn, q_ck, q_nm1, q_n1e, q_gS, q_gR, q_gK, q_g2, if_true, if_false, g23]
          · unfold tkE
            rw [if_neg (show ¬ n ≤ q by omega), if_neg hlet, if_neg hdig]
        have e25 : (puI (puI T 0 25 (nI (b q))) 0 23 ((puI T 0 25 (nI (b q))).1 0 23 + 1)).1 0 25 = nI (b q) := by simp (disch := omega) only [q_nm, q_jp, q_bd, q_bd2, q_zb0, q_zb1, q_zbn0, q_zbn1, q_z10, q_z11, q_z1n0, q_z1n1, q_lit, q_add, q_mul, q_lt, q_le, q_eq, q_tn, q_ck, q_nm1, q_n1e, q_gS, q_gR, q_gK, q_g2, if_true, if_false]
        rw [e25]
        have c1 : ∀ x, x < 256 → (nI (b q) = nI x) = (b q = x) := fun x hx => q_eq (by omega) (by omega)
        have c61 : (nI (b q) = 61) = (b q = 61) := c1 61 (by omega)
        have c44 : (nI (b q) = 44) = (b q = 44) := c1 44 (by omega)
        have c59 : (nI (b q) = 59) = (b q = 59) := c1 59 (by omega)
        by_cases d1 : b q = 61
        · rw [if_pos (c61 ▸ d1)]; exact hg _ (by rw [if_pos (Or.inl d1)]; rfl)
        · rw [if_neg (fun w => d1 (c61 ▸ w))]
          by_cases d2 : b q = 44
          · rw [if_pos (c44 ▸ d2)]; exact hg _ (by rw [if_pos (Or.inr (Or.inl d2))]; rfl)
          · rw [if_neg (fun w => d2 (c44 ▸ w))]
            by_cases d3 : b q = 59
            · rw [if_pos (c59 ▸ d3)]; exact hg _ (by rw [if_pos (Or.inr (Or.inr d3))]; rfl)
            · rw [if_neg (fun w => d3 (c59 ▸ w))]; exact hg _ (by rw [if_neg (by omega)]; rfl)
      by_cases hd : digP b q = true
      · rw [if_pos (show q < n ∧ digP b q = true from ⟨hqn, hd⟩), if_neg (by decide)]
        exact hD (Or.inl hd)
      · rw [if_neg (show ¬ (q < n ∧ digP b q = true) from fun w => hd w.2), if_pos rfl, q_ck (by omega) (by omega), q_tn (by omega), t1]
        by_cases e45 : b q = 45
        · rw [if_pos (by rw [e45]; rfl)]
          by_cases hd2 : q + 1 < n ∧ digP b (q + 1) = true
          · rw [if_pos hd2, if_neg (by decide)]
            exact hD (Or.inr ⟨e45, hd2⟩)
          · rw [if_neg hd2, if_pos rfl]
            exact hX (by rintro (w | w); exact hd w; exact hd2 w.2)
        · have e45' : ¬ nI (b q) = 45 := by
            have : ¬ nI (b q) = nI 45 := by rw [q_eq (by omega) (by omega)]; exact e45
            exact this
          rw [if_neg e45']
          exact hX (by rintro (w | w); exact hd w; exact e45 w.1)
theorem mtake {N : Nat} {b : Nat → Nat} {n p : Nat} {M : St} (hN : 6000 ≤ N) (hM : mB b n M) (hp : p ≤ n) (h23 : M.1 0 23 = nI p) :
    ok (f_X11_take N M) fun M' => TkS b n (scan (skP b 10) (n - p) p) M' ∧ fr PT M M' := by
  have hn := hM.2.2.1
  unfold f_X11_take
  refine ok_jp (ok_jp (ok_l1 (fun m S => ∃ p', fr PT M S ∧ S.1 0 23 = nI p' ∧ p' ≤ n ∧ n - p' = m ∧ scan (skP b 10) (n - p') p' = scan (skP b 10) (n - p) p) ?_ N (n - p) M (by omega) ⟨p, fr.rf, h23, hp, rfl, rfl⟩))
  rintro k m S ⟨p', hf, h23, h1, h2, h3⟩ hk
  have hT := hM.pt hf
  unfold b_X11_take_0 j_X11_take_39
  simp only [q_nm, q_jp]
  rw [h23, hT.2.1]
  by_cases hp' : p' < n
  · obtain ⟨t1, t2⟩ := hT.1 p' (by omega)
    rw [if_neg (by rw [q_le (by omega) (by omega)]; omega), q_ck (by omega) (by omega), q_ck (by omega) (by omega), q_tn (by omega), t1]
    have c1 : ∀ x, x < 256 → (nI (b p') = nI x) = (b p' = x) := fun x hx => q_eq (by omega) (by omega)
    have c10 : (nI (b p') = 10) = (b p' = 10) := c1 10 (by omega)
    have c32 : (nI (b p') = 32) = (b p' = 32) := c1 32 (by omega)
    rw [scan_st hp'] at h3
    have hg : skP b 10 p' = true → ok (k (puI S 0 23 (nI p' + 1))) fun M' => TkS b n (scan (skP b 10) (n - p) p) M' ∧ fr PT M M' := by
      intro e
      rw [if_pos e] at h3
      refine hk _ _ ?_ ⟨p' + 1, hf.pu ⟨rfl, by omega, by omega⟩, ?_, by omega, rfl, h3⟩
      · omega
      · simp (disch := omega) only [q_nm, q_jp, q_bd, q_bd2, q_zb0, q_zb1, q_zbn0, q_zbn1, q_z10, q_z11, q_z1n0, q_z1n1, q_lit, q_add, q_mul, q_lt, q_le, q_eq, q_tn, q_ck, q_nm1, q_n1e, q_gS, q_gR, q_gK, q_g2, if_true, if_false]
    by_cases d1 : b p' = 10
    · rw [if_pos (c10 ▸ d1)]; exact hg (by unfold skP; rw [decide_eq_true_eq]; exact Or.inr d1)
    · rw [if_neg (fun w => d1 (c10 ▸ w))]
      by_cases d2 : b p' = 32
      · rw [if_pos (c32 ▸ d2)]; exact hg (by unfold skP; rw [decide_eq_true_eq]; exact Or.inl d2)
      · rw [if_neg (fun w => d2 (c32 ▸ w))]
        rw [if_neg (by unfold skP; rw [decide_eq_true_eq]; omega)] at h3
        rw [← h3]
        exact take_52 hN hM h1 hf h23
  · rw [if_pos (by rw [q_le (by omega) (by omega)]; omega)]
    rw [scan_z (by omega)] at h3
    rw [← h3]
    exact take_52 hN hM h1 hf h23
