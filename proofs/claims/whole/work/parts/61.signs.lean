/-! pure part: signs in a row -/
def SG (rr : Nat) (l : List Nat) (C : St) : Prop := ∃ cap, C.1 rr 2 = nI cap ∧ 1 ≤ cap ∧ cap ≤ 40000 ∧ l.length ≤ cap ∧ C.1 rr 1 = nI l.length ∧ (∀ j, j < cap → fits .byte (.int (C.1 (rr + 1) j)) = true) ∧ ∀ i x, l[i]? = some x → x < 128 ∧ C.1 (rr + 1) i = nI x
def PS (rr r k : Nat) : Prop := (r = rr ∧ (k = 1 ∨ k = 2)) ∨ r = rr + 1
theorem SG.go {rr : Nat} {l : List Nat} {C C' : St} (h : SG rr l C) (h1 : C'.1 rr 1 = C.1 rr 1) (h2 : C'.1 rr 2 = C.1 rr 2) (h3 : C'.1 (rr + 1) = C.1 (rr + 1)) : SG rr l C' := by
  unfold SG
  rw [h1, h2, h3]
  exact h
theorem SG.fr {rr : Nat} {l : List Nat} {C C' : St} {P : Nat → Nat → Prop} (h : SG rr l C) (hf : fr P C C') (h1 : ¬ P rr 1) (h2 : ¬ P rr 2) (h3 : ∀ k, ¬ P (rr + 1) k) : SG rr l C' := h.go (hf.2 _ _ h1) (hf.2 _ _ h2) (funext fun k => hf.2 _ _ (h3 k))
theorem sg_b : ∀ c, c < 128 → vp_nar .byte (nI c).toInt8.toInt32 = nI c ∧ fits .byte (.int (nI c)) = true := by decide +kernel
theorem sg_put {rr c : Nat} {l : List Nat} {C : St} {cap : Nat} (h2 : C.1 rr 2 = nI cap) (hc1 : 1 ≤ cap) (hc2 : cap ≤ 40000) (hl : l.length < cap) (h1 : C.1 rr 1 = nI l.length) (hf : ∀ j, j < cap → fits .byte (.int (C.1 (rr + 1) j)) = true) (hv : ∀ i x, l[i]? = some x → x < 128 ∧ C.1 (rr + 1) i = nI x) (hc : c < 128) :
    ∃ C', j_X6_add_40 rr (nI c) C = some C' ∧ SG rr (l ++ [c]) C' ∧ fr (PS rr) C C' := by
  obtain ⟨b1, b2⟩ := sg_b c hc
  unfold j_X6_add_40
  simp only [q_nm]
  have e1 : (puI C (rr + 1) l.length (nI c)).1 rr 1 = nI l.length := by rw [q_gR _ _ _ _ _ _ (by omega)]; exact h1
  rw [h1, h2, q_tn (by omega), q_tn (by omega), q_ck (by omega) (by omega), b1, e1, ← nI_succ]
  refine ⟨_, rfl, ⟨cap, ?_, hc1, hc2, ?_, ?_, ?_, ?_⟩, (fr.rf.pu (by unfold PS; omega)).pu (by unfold PS; omega)⟩
  · rw [q_gK _ _ _ _ _ _ (by omega), q_gR _ _ _ _ _ _ (by omega)]; exact h2
  · rw [List.length_append]; show l.length + 1 ≤ cap; omega
  · rw [q_gS, List.length_append]; rfl
  · intro j hj
    rw [q_gR _ _ _ _ _ _ (by omega), q_g]
    by_cases e : j = l.length
    · rw [if_pos ⟨rfl, e⟩]; exact b2
    · rw [if_neg (fun w => e w.2)]; exact hf j hj
  · intro i x hx
    rw [q_gR _ _ _ _ _ _ (by omega), q_g]
    by_cases hi : i < l.length
    · rw [List.getElem?_append_left hi] at hx
      rw [if_neg (by omega)]
      exact hv i x hx
    · rw [List.getElem?_append_right (by omega)] at hx
      by_cases e : i = l.length
      · subst e
        rw [Nat.sub_self] at hx
        simp at hx
        subst hx
        rw [if_pos ⟨rfl, rfl⟩]
        exact ⟨hc, rfl⟩
      · obtain ⟨j, hj⟩ : ∃ j, i - l.length = j + 1 := ⟨i - l.length - 1, by omega⟩
        rw [hj] at hx
        simp at hx
theorem add_e {N rr c : Nat} {l : List Nat} {C : St} (h : SG rr l C) (hl : l.length < 20000) (hc : c < 128) : ∃ C', f_X6_add N rr (nI c) C = some C' ∧ SG rr (l ++ [c]) C' ∧ fr (PS rr) C C' := by
  obtain ⟨cap, h2, h3, h4, h5, h1, hf, hv⟩ := h
  unfold f_X6_add
  have ec : Int32.ofNat (C.1 rr 2).toNatClampNeg = nI cap := by rw [h2, q_tn (by omega)]; rfl
  rw [h1, if_pos (show nI l.length < 20000 from nI_lt (b := 20000) hl (by omega)), q_jp, ec]
  by_cases hlt : l.length < cap
  · rw [if_pos (by rw [q_lt (by omega) (by omega)]; exact hlt)]
    exact sg_put h2 h3 h4 hlt h1 hf hv hc
  · have hle : l.length = cap := by omega
    have e2 : (2 : Int32) * nI l.length = nI (2 * cap) := by
      have : nI 2 * nI l.length = nI (2 * cap) := by rw [q_mul, hle]
      exact this
    have hg : gok C rr (2 * nI l.length) := by
      rw [e2]
      refine ⟨nI_pos (by omega), ?_, ?_, ?_, ?_⟩
      · rw [h2, q_tn (by omega), q_tn (by omega)]; omega
      · rw [q_tn (by omega)]; omega
      · rw [h2, q_tn (by omega), q_tn (by omega)]; omega
      · rw [h2, q_tn (by omega)]; exact hf
    rw [if_neg (by rw [q_lt (by omega) (by omega)]; exact hlt), if_pos hg, q_nm, e2]
    generalize hG : groS C rr (nI (2 * cap)) = G
    have g1 : G.1 rr 1 = nI l.length := by
      rw [← hG]
      show (if rr = rr then upd (C.1 rr) 2 (nI (2 * cap)) else _) 1 = _
      rw [if_pos rfl]
      exact h1
    have g2 : G.1 rr 2 = nI (2 * cap) := by
      rw [← hG]
      show (if rr = rr then upd (C.1 rr) 2 (nI (2 * cap)) else _) 2 = _
      rw [if_pos rfl]
      rfl
    have g3 : G.1 (rr + 1) = va_cpy (C.1 (rr + 1)) (fun _ => 0) 0 0 cap := by
      rw [← hG]
      show (if rr + 1 = rr then _ else if rr + 1 = rr + 1 then va_cpy (C.1 (rr + 1)) (fun _ => 0) 0 0 (C.1 rr 2).toNatClampNeg else _) = _
      rw [if_neg (by omega), if_pos rfl, h2, q_tn (by omega)]
    have g4 : _root_.Jvm.Pilot.CWeatherTellerLaw_law_r9751_c06451.fr (PS rr) C G := by
      rw [← hG]
      refine ⟨rfl, fun r k q => ?_⟩
      unfold PS at q
      show (if r = rr then upd (C.1 rr) 2 (nI (2 * cap)) else if r = rr + 1 then va_cpy (C.1 (rr + 1)) (fun _ => 0) 0 0 (C.1 rr 2).toNatClampNeg else C.1 r) k = C.1 r k
      by_cases e : r = rr
      · rw [if_pos e, e]
        unfold upd
        rw [if_neg (by omega)]
      · rw [if_neg e, if_neg (by omega)]
    have gin : ∀ j, j < cap → G.1 (rr + 1) j = C.1 (rr + 1) j := by
      intro j hj
      rw [g3, pk_cpy_in (by omega) (by omega), Nat.sub_zero, Nat.zero_add]
    have f1 : ∀ j, j < 2 * cap → fits .byte (.int (G.1 (rr + 1) j)) = true := by
      intro j hj
      by_cases hj2 : j < cap
      · rw [gin j hj2]; exact hf j hj2
      · rw [g3, pk_cpy_out (by omega)]; decide
    have f2 : ∀ i x, l[i]? = some x → x < 128 ∧ G.1 (rr + 1) i = nI x := by
      intro i x hx
      have hi := (List.getElem?_eq_some_iff.mp hx).1
      rw [gin i (by omega)]
      exact hv i x hx
    obtain ⟨C', a1, a2, a3⟩ := sg_put (C := G) (cap := 2 * cap) (c := c) (l := l) g2 (by omega) (by omega) (by omega) g1 f1 f2 hc
    exact ⟨C', a1, a2, g4.tr a3⟩
/-- a row of signs is added: what is to be shown of each -/
def Ad (N rr : Nat) (l : List Nat) (x : Option St) (C : St) (l' : List Nat) : Prop := ok x fun C' => SG rr (l ++ l') C' ∧ fr (PS rr) C C'
theorem addAll_e {N rr i : Nat} {l s : List Nat} {C : St} (hN : 6000 ≤ N) (h : SG rr l C) (hs : zlen.getD i 0 = s.length) (hz : ∀ j, j < s.length → zch i j = nI (s.getD j 0) ∧ s.getD j 0 < 128) (hl : l.length + s.length ≤ 20000) (h20 : s.length ≤ 20) :
    ok (f_X6_addAll N rr i C) fun C' => SG rr (l ++ s) C' ∧ fr (PS rr) C C' := by
  unfold f_X6_addAll
  rw [q_jp]
  refine ok_up0 (n := s.length) (fun j S => SG rr (l ++ s.take j) S ∧ fr (PS rr) C S) ?_ ?_ (by omega) ⟨by rw [List.take_zero, List.append_nil]; exact h, fr.rf⟩
  · rintro K S ⟨g1, g2⟩
    unfold b_X6_addAll_2
    have e : Int32.ofNat (zlen.getD i 0) = nI s.length := by rw [hs]; rfl
    rw [e, if_pos (by rw [q_le (by omega) (by omega)]; omega)]
    rw [List.take_length] at g1
    exact ok_s ⟨g1, g2⟩
  · rintro K j S hj ⟨g1, g2⟩ hK
    unfold b_X6_addAll_2
    have e : Int32.ofNat (zlen.getD i 0) = nI s.length := by rw [hs]; rfl
    obtain ⟨z1, z2⟩ := hz j hj
    obtain ⟨S', a1, a2, a3⟩ := add_e (N := N) g1 (by rw [List.length_append, List.length_take]; omega) z2
    rw [e, if_neg (by rw [q_le (by omega) (by omega)]; omega), hs, q_ck (by omega) (by omega), q_tn (by omega), z1, a1, q_bd, q_nm, ← nI_succ]
    refine hK _ ⟨?_, g2.tr a3⟩
    rw [List.append_assoc] at a2
    have e2 : s.take (j + 1) = s.take j ++ [s.getD j 0] := by
      rw [List.take_add_one]
      congr 1
      rw [List.getElem?_eq_getElem hj, List.getD_eq_getElem?_getD, List.getElem?_eq_getElem hj]
      rfl
    rw [e2]
    exact a2
/-- the letters of a word -/
def wd (sz lt : Nat → Int32) (idx : Nat) : List Nat := (List.range (sz idx).toNatClampNeg).map (fun k => (lt (12 * idx + k)).toNatClampNeg)
def WL (sz lt : Nat → Int32) (idx : Nat) : Prop := ∃ (s : Nat) (l : Nat → Nat), 1 ≤ s ∧ s ≤ 12 ∧ sz idx = nI s ∧ ∀ k, k < s → letP l k = true ∧ lt (12 * idx + k) = nI (l k)
theorem WN.l {sz lt : Nat → Int32} {idx : Nat} {w : Int64} (h : WN sz lt idx w) : WL sz lt idx := by
  obtain ⟨s, l, h1, h2, h3, h4, -⟩ := h
  exact ⟨s, l, h1, h2, h3, h4⟩
theorem wd_e {sz lt : Nat → Int32} {idx s : Nat} {l : Nat → Nat} (h3 : sz idx = nI s) (hs : s ≤ 12) (h4 : ∀ k, k < s → letP l k = true ∧ lt (12 * idx + k) = nI (l k)) : wd sz lt idx = (List.range s).map l := by
  unfold wd
  rw [h3, q_tn (by omega)]
  apply List.map_congr_left
  intro k hk
  rw [List.mem_range] at hk
  obtain ⟨a, c⟩ := h4 k hk
  have := letP_b a
  rw [c, q_tn (by omega)]
theorem wd_len {sz lt : Nat → Int32} {idx : Nat} (h : WL sz lt idx) : 1 ≤ (wd sz lt idx).length ∧ (wd sz lt idx).length ≤ 12 := by
  obtain ⟨s, l, h1, h2, h3, h4⟩ := h
  rw [wd_e h3 h2 h4, List.length_map, List.length_range]
  exact ⟨h1, h2⟩
theorem enc_dig {l : Nat → Nat} : ∀ {s j : Nat}, (∀ i, i < s → letP l i = true) → enc l 0 s / 32 ^ j % 32 = if j < s then l (s - 1 - j) - 96 else 0
  | 0, j, _ => by
    rw [enc, Nat.zero_div, if_neg (by omega)]
  | s + 1, 0, h => by
    have := letP_b (h s (by omega))
    rw [enc, Nat.pow_zero, Nat.div_one, if_pos (by omega), Nat.zero_add]
    have e : s + 1 - 1 - 0 = s := by omega
    rw [e]
    omega
  | s + 1, j + 1, h => by
    have ih := enc_dig (l := l) (s := s) (j := j) (fun i hi => h i (by omega))
    have := letP_b (h s (by omega))
    rw [enc, Nat.zero_add, Nat.pow_succ, Nat.mul_comm (32 ^ j) 32, ← Nat.div_div_eq_div_mul]
    have e : (enc l 0 s * 32 + (l s - 96)) / 32 = enc l 0 s := by omega
    rw [e, ih]
    by_cases hj : j < s
    · rw [if_pos hj, if_pos (by omega)]
      congr 2
      omega
    · rw [if_neg hj, if_neg (by omega)]
theorem sh64 : ∀ j, j < 12 → (((nI (5 * j)).toInt64 &&& 63).toBitVec.smod 64).toNat = 5 * j := by decide +kernel
theorem addWord_e {N rr idx : Nat} {sz lt : Nat → Int32} {w : Int64} {l : List Nat} {C : St} (hN : 6000 ≤ N) (h : SG rr l C) (hW : WN sz lt idx w) (hl : l.length + 12 ≤ 20000) :
    ok (f_X6_addWord N rr w C) fun C' => SG rr (l ++ wd sz lt idx) C' ∧ fr (PS rr) C C' := by
  obtain ⟨s, x, h1, h2, h3, h4, h5⟩ := hW
  have hx : ∀ i, i < s → letP x i = true := fun i hi => (h4 i hi).1
  have a1 : ∀ i, i < s → letP x (0 + i) = true := fun i hi => by rw [Nat.zero_add]; exact hx i hi
  have hlt := enc_lt a1
  have hp := q_p12 h2
  rw [wd_e h3 h2 h4]
  unfold f_X6_addWord
  rw [q_jp]
  have e55 : (55 : Int32) = nI (5 * 11) := rfl
  rw [e55]
  have fin : ∀ (N' : Nat) (S : St), 0 < N' → SG rr (l ++ (List.range s).map x) S → fr (PS rr) C S → ok (lp (fun _ _ => none) (b_X6_addWord_3 rr N w) N' (-5) S) fun C' => SG rr (l ++ (List.range s).map x) C' ∧ fr (PS rr) C C' := by
    intro N' S hN' g1 g2
    obtain ⟨N', rfl⟩ : ∃ k, N' = k + 1 := ⟨N' - 1, by omega⟩
    rw [q_lp]
    unfold b_X6_addWord_3
    rw [if_pos (by decide)]
    exact ok_s ⟨g1, g2⟩
  have key : ∀ j N' (S : St), j < 12 → j + 1 < N' → SG rr (l ++ (List.range (s - (j + 1))).map x) S → fr (PS rr) C S → ok (lp (fun _ _ => none) (b_X6_addWord_3 rr N w) N' (nI (5 * j)) S) fun C' => SG rr (l ++ (List.range s).map x) C' ∧ fr (PS rr) C C' := by
    intro j
    induction j with
    | zero =>
      intro N' S hj hN' g1 g2
      obtain ⟨N', rfl⟩ : ∃ k, N' = k + 1 := ⟨N' - 1, by omega⟩
      have fin' := fun S => fin N' S (by omega)
      rw [q_lp]
      generalize lp (fun _ _ => none) (b_X6_addWord_3 rr N w) N' = K at fin' ⊢
      unfold b_X6_addWord_3 j_X6_addWord_30
      have e1 : (lN (enc x 0 s) >>> ((nI (5 * 0)).toInt64 &&& 63)).toInt32 &&& 31 = nI (x (s - 1) - 96) := by
        rw [pf_shr (sh64 0 (by omega)) (by omega), lN_i]
        have : nI (enc x 0 s / 2 ^ (5 * 0)) &&& nI 31 = nI (x (s - 1) - 96) := by
          rw [q_and]
          congr 1
          have e := Nat.and_two_pow_sub_one_eq_mod (enc x 0 s / 2 ^ (5 * 0)) 5
          have e' : enc x 0 s / 2 ^ (5 * 0) &&& 31 = enc x 0 s / 2 ^ (5 * 0) % 32 := e
          rw [e']
          have := enc_dig (j := 0) hx
          rw [if_pos (by omega)] at this
          exact this
        exact this
      have hc := letP_b (hx (s - 1) (by omega))
      have e2 : nI (x (s - 1) - 96) + 96 = nI (x (s - 1)) := by
        have : nI (x (s - 1) - 96) + nI 96 = nI (x (s - 1)) := by
          rw [q_add]
          congr 1
          omega
        exact this
      rw [if_neg (by decide), h5, e1]
      simp only [q_nm, q_jp]
      obtain ⟨S', b1, b2, b3⟩ := add_e (N := N) g1 (by rw [List.length_append, List.length_map, List.length_range]; omega) (show x (s - 1) < 128 by omega)
      rw [if_neg (nI_ne0 (by omega) (by omega)), e2, b1, q_bd]
      have e5 : nI (5 * 0) + -5 = -5 := by decide
      rw [e5]
      refine fin' S' ?_ (g2.tr b3)
      rw [List.append_assoc] at b2
      have e3 : (List.range s).map x = (List.range (s - (0 + 1))).map x ++ [x (s - 1)] := by
        obtain ⟨s', rfl⟩ : ∃ k, s = k + 1 := ⟨s - 1, by omega⟩
        rw [List.range_succ, List.map_append]
        rfl
      rw [e3]
      exact b2
    | succ j ih =>
      intro N' S hj hN' g1 g2
      obtain ⟨N', rfl⟩ : ∃ k, N' = k + 1 := ⟨N' - 1, by omega⟩
      have ih' := fun S => ih N' S (by omega) (by omega)
      rw [q_lp]
      generalize lp (fun _ _ => none) (b_X6_addWord_3 rr N w) N' = K at ih' ⊢
      unfold b_X6_addWord_3 j_X6_addWord_30
      have hpw : 2 ^ (5 * (j + 1)) = 32 ^ (j + 1) := by rw [Nat.pow_mul]
      have e1 : (lN (enc x 0 s) >>> ((nI (5 * (j + 1))).toInt64 &&& 63)).toInt32 &&& 31 = nI (if j + 1 < s then x (s - 1 - (j + 1)) - 96 else 0) := by
        rw [pf_shr (sh64 (j + 1) (by omega)) (by omega), lN_i, hpw]
        have : nI (enc x 0 s / 32 ^ (j + 1)) &&& nI 31 = nI (if j + 1 < s then x (s - 1 - (j + 1)) - 96 else 0) := by
          rw [q_and]
          congr 1
          have e := Nat.and_two_pow_sub_one_eq_mod (enc x 0 s / 32 ^ (j + 1)) 5
          have e' : enc x 0 s / 32 ^ (j + 1) &&& 31 = enc x 0 s / 32 ^ (j + 1) % 32 := e
          rw [e']
          exact enc_dig hx
        exact this
      have e5 : nI (5 * (j + 1)) + -5 = nI (5 * j) := by
        have : nI (5 * (j + 1)) - nI 5 = nI (5 * j) := by
          rw [q_sub (by omega)]
          congr 1
        rw [← this, Int32.sub_eq_add_neg]
        rfl
      rw [if_neg (nI_pos (by omega)), h5, e1]
      simp only [q_nm, q_jp]
      rw [e5]
      by_cases hs : j + 1 < s
      · rw [if_pos hs]
        have hc := letP_b (hx (s - 1 - (j + 1)) (by omega))
        have e2 : nI (x (s - 1 - (j + 1)) - 96) + 96 = nI (x (s - 1 - (j + 1))) := by
          have : nI (x (s - 1 - (j + 1)) - 96) + nI 96 = nI (x (s - 1 - (j + 1))) := by
            rw [q_add]
            congr 1
            omega
          exact this
        obtain ⟨S', b1, b2, b3⟩ := add_e (N := N) g1 (by rw [List.length_append, List.length_map, List.length_range]; omega) (show x (s - 1 - (j + 1)) < 128 by omega)
        rw [if_neg (nI_ne0 (by omega) (by omega)), e2, b1, q_bd]
        refine ih' S' ?_ (g2.tr b3)
        rw [List.append_assoc] at b2
        have e3 : (List.range (s - (j + 1))).map x = (List.range (s - (j + 1 + 1))).map x ++ [x (s - 1 - (j + 1))] := by
          have e4 : s - (j + 1) = (s - (j + 1 + 1)) + 1 := by omega
          rw [e4, List.range_succ, List.map_append]
          congr 2
          simp
          congr 1
          omega
        rw [e3]
        exact b2
      · rw [if_neg hs, if_pos (show nI 0 = 0 from rfl)]
        refine ih' S ?_ g2
        have e3 : s - (j + 1) = s - (j + 1 + 1) := by omega
        rw [e3]
        exact g1
  refine key 11 N C (by omega) (by omega) ?_ fr.rf
  have : s - (11 + 1) = 0 := by omega
  rw [this, List.range_zero, List.map_nil, List.append_nil]
  exact h
def hl (h : Nat) : List Nat := if h < 10 then [48 + h] else [48 + h / 10, 48 + h % 10]
theorem hl_len (h : Nat) : (hl h).length ≤ 2 := by unfold hl; split <;> simp
theorem addHour_e {N rr h : Nat} {l : List Nat} {C : St} (hS : SG rr l C) (hh : h < 24) (hlen : l.length + 2 ≤ 20000) : ok (f_X6_addHour N rr (nI h) C) fun C' => SG rr (l ++ hl h) C' ∧ fr (PS rr) C C' := by
  unfold f_X6_addHour j_X6_addHour_17 hl
  have e1 : nI h / 10 = nI (h / 10) := pk_div (a := h) (d := 10) (by omega) (by omega) (by omega)
  have e2 : nI h - nI h / 10 * 10 = nI (h % 10) := pk_rem (a := h) (d := 10) (by omega) (by omega) (by omega)
  have e3 : (48 : Int32) + nI (h % 10) = nI (48 + h % 10) := q_add 48 (h % 10)
  have e4 : (48 : Int32) + nI (h / 10) = nI (48 + h / 10) := q_add 48 (h / 10)
  rw [q_jp, e2, e1, e3, e4]
  have c10 : (nI h < 10) = (h < 10) := q_lt (b := 10) (by omega) (by omega)
  by_cases h10 : h < 10
  · rw [if_pos (c10 ▸ h10), if_pos h10]
    obtain ⟨S', b1, b2, b3⟩ := add_e (N := N) hS (by omega) (show 48 + h % 10 < 128 by omega)
    have e5 : h % 10 = h := by omega
    show ok (bd (f_X6_add N rr (nI (48 + h % 10)) C) fun S2 => some S2) _
    rw [b1, q_bd]
    rw [e5] at b2
    exact ok_s ⟨b2, b3⟩
  · rw [if_neg (fun w => h10 (c10 ▸ w)), if_neg h10]
    obtain ⟨S1, b1, b2, b3⟩ := add_e (N := N) hS (by omega) (show 48 + h / 10 < 128 by omega)
    obtain ⟨S2, d1, d2, d3⟩ := add_e (N := N) b2 (by rw [List.length_append]; show l.length + 1 < 20000; omega) (show 48 + h % 10 < 128 by omega)
    rw [b1, q_bd]
    show ok (bd (f_X6_add N rr (nI (48 + h % 10)) S1) fun S2 => some S2) _
    rw [d1, q_bd]
    rw [List.append_assoc] at d2
    exact ok_s ⟨d2, b3.tr d3⟩
