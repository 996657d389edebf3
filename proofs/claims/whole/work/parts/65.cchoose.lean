/-! pure part: the class chooses -/
def selr (fl : Nat → Bool) : List I3 → Nat → List Nat
  | [], _ => []
  | x :: l, j => if fl j = true then x.1 :: selr fl l (j + 1) else selr fl l (j + 1)
theorem selr_app (fl : Nat → Bool) : ∀ (l l' : List I3) (j : Nat), selr fl (l ++ l') j = selr fl l j ++ selr fl l' (j + l.length)
  | [], l', j => rfl
  | x :: l, l', j => by
    show (if fl j = true then x.1 :: selr fl (l ++ l') (j + 1) else selr fl (l ++ l') (j + 1)) = (if fl j = true then x.1 :: selr fl l (j + 1) else selr fl l (j + 1)) ++ selr fl l' (j + (l.length + 1))
    rw [selr_app fl l l' (j + 1)]
    have e : j + 1 + l.length = j + (l.length + 1) := by omega
    rw [e]
    split <;> rfl
theorem selr_cg {fl fl' : Nat → Bool} : ∀ (l : List I3) (j : Nat), (∀ i, i < l.length → fl (j + i) = fl' (j + i)) → selr fl l j = selr fl' l j
  | [], _, _ => rfl
  | x :: l, j, h => by
    have h0 := h 0 (by show 0 < l.length + 1; omega)
    rw [Nat.add_zero] at h0
    unfold selr
    have h1 : ∀ i, i < l.length → fl (j + 1 + i) = fl' (j + 1 + i) := by
      intro i hi
      have h2 := h (i + 1) (Nat.succ_lt_succ hi)
      have e : j + 1 + i = j + (i + 1) := by omega
      rw [e]
      exact h2
    rw [h0, selr_cg l (j + 1) h1]
theorem drop_x {l : List I3} {j : Nat} {x : I3} (h : l[j]? = some x) : l.drop j = x :: l.drop (j + 1) := by
  obtain ⟨h1, h2⟩ := List.getElem?_eq_some_iff.mp h
  rw [← h2]
  exact List.drop_eq_getElem_cons h1
theorem take_x {l : List I3} {j : Nat} {x : I3} (h : l[j]? = some x) : l.take (j + 1) = l.take j ++ [x] := by
  rw [List.take_add_one, h]
  rfl
/-- the items that were offered -/
def IA (l : List I3) (C : St) : Prop := C.1 15 3 = nI l.length ∧ ∀ j x, l[j]? = some x → C.1 16 j = nI x.1 ∧ C.1 19 j = nI x.2.1 ∧ C.1 17 j = nI x.2.2
def PC (r _k : Nat) : Prop := r = 18 ∨ r = 20 ∨ r = 21
theorem IA.go {l : List I3} {C C' : St} (h : IA l C) (hf : fr PC C C') : IA l C' := by
  refine ⟨by rw [hf.2 _ _ (by unfold PC; omega)]; exact h.1, fun j x hx => ?_⟩
  rw [hf.2 _ _ (by unfold PC; omega), hf.2 _ _ (by unfold PC; omega), hf.2 _ _ (by unfold PC; omega)]
  exact h.2 j x hx
theorem q_shl31 : ∀ i, i < 32 → ∀ k, k < 32 → bt ((1 : Int32) <<< (nI i &&& 31)) k = decide (k = i) := by decide +kernel
theorem bt_pow' {h i : Nat} (hh : h < 32) (hi : i < 32) : bt ((1 : Int32) <<< (nI h &&& 31)) i = decide (i = h) := q_shl31 h hh i hi
section CC
variable {N room : Nat} {IT : List I3} {C : St}
theorem weigh_e {j : Nat} {x : I3} {l : List I3} (hN : 6000 ≤ N) (hI : IA IT C) (hr : room ≤ 400) (hj : j < 432) (hx : IT[j]? = some x) (ho : itOK x) (hk : ∀ r, kn l r ≤ 286654464) (hb : ∀ r, r ≤ room → C.1 20 r = nI (kn l r)) (h0 : ∀ r, r ≤ 400 → bt (C.1 21 (13 * j + r / 32)) (r % 32) = false) :
    ok (f_X0_weigh N (nI j) (nI room) C) fun C' => fr (fun r k => r = 20 ∨ (r = 21 ∧ 13 * j ≤ k ∧ k < 13 * j + 13)) C C' ∧ (∀ r, r ≤ room → C'.1 20 r = nI (kn (x :: l) r)) ∧ ∀ r, r ≤ room → bt (C'.1 21 (13 * j + r / 32)) (r % 32) = kc x l r := by
  obtain ⟨i1, i2, i3⟩ := hI.2 j x hx
  obtain ⟨o1, o2, o3, o4⟩ := ho
  unfold f_X0_weigh
  have e1 : nI x.2.2 * 512 - nI x.2.1 = nI (512 * x.2.2 - x.2.1) := by
    have : nI x.2.2 * nI 512 - nI x.2.1 = nI (512 * x.2.2 - x.2.1) := by
      rw [q_mul, q_sub (by omega)]
      congr 1
      omega
    exact this
  simp only [q_nm, q_jp]
  rw [q_ck (by omega) (by omega), q_ck (by omega) (by omega), q_tn (by omega), i2, i3, e1]
  -- at r: those above are done
  refine ok_l2 (fun m v S => ∃ r, v = nI r ∧ r ≤ room ∧ r + 1 = m ∧ fr (fun r k => r = 20 ∨ (r = 21 ∧ 13 * j ≤ k ∧ k < 13 * j + 13)) C S ∧ (∀ y, y ≤ r → S.1 20 y = nI (kn l y)) ∧ (∀ y, r < y → y ≤ room → S.1 20 y = nI (kn (x :: l) y)) ∧ (∀ y, y ≤ r → bt (S.1 21 (13 * j + y / 32)) (y % 32) = false) ∧ ∀ y, r < y → y ≤ room → bt (S.1 21 (13 * j + y / 32)) (y % 32) = kc x l y) ?_ N (room + 1) (nI room) C (by omega) ⟨room, rfl, Nat.le_refl _, rfl, fr.rf, hb, fun y h1 h2 => by omega, fun y hy => h0 y (by omega), fun y h1 h2 => by omega⟩
  · rintro K m v S ⟨r, rfl, g1, g2, g4, g5, g6, g7, g8⟩ hK
    unfold b_X0_weigh_24 j_X0_weigh_90
    by_cases hz : x.2.1 ≤ r
    · have k1 := hk r
      have k2 := hk (r - x.2.1)
      have e2 : nI r - nI x.2.1 = nI (r - x.2.1) := q_sub hz
      have e3 : nI (kn l (r - x.2.1)) + nI (512 * x.2.2 - x.2.1) = nI ((512 * x.2.2 - x.2.1) + kn l (r - x.2.1)) := by rw [q_add, Nat.add_comm]
      have e4 : nI r / 32 = nI (r / 32) := pk_div (a := r) (d := 32) (by omega) (by omega) (by omega)
      have e5 : nI r - nI r / 32 * 32 = nI (r % 32) := pk_rem (a := r) (d := 32) (by omega) (by omega) (by omega)
      have e6 : nI j * 13 + nI (r / 32) = nI (13 * j + r / 32) := by
        have : nI j * nI 13 + nI (r / 32) = nI (13 * j + r / 32) := by
          rw [q_mul, q_add, Nat.mul_comm]
        exact this
      rw [if_neg (by rw [q_lt (by omega) (by omega)]; omega), e2, q_ck (by omega) (by omega), q_tn (by omega), g5 (r - x.2.1) (by omega), e3, e5, e4, e6]
      simp only [q_nm, q_jp]
      rw [q_ck (by omega) (by omega), q_tn (by omega), g5 r (by omega), q_ck (by omega) (by omega), q_ck (by omega) (by omega), q_ck (by omega) (by omega), q_tn (by omega), sub1 (by omega)]
      have hkc : kc x l r = decide (kn l r ≤ (512 * x.2.2 - x.2.1) + kn l (r - x.2.1)) := by
        unfold kc
        simp only [hz, true_and]
      by_cases ec : kn l r ≤ (512 * x.2.2 - x.2.1) + kn l (r - x.2.1)
      · rw [decide_eq_true ec] at hkc
        rw [if_neg (by rw [q_lt (by omega) (by omega)]; omega)]
        refine hK (r - 1 + 1) _ _ ?_ ⟨r - 1, rfl, by omega, rfl, (g4.pu (by omega)).pu (by omega), ?_, ?_, ?_, ?_⟩
        · omega
        · intro y hy
          rw [q_gR _ _ _ _ _ _ (by omega), q_gK _ _ _ _ _ _ (by omega)]
          exact g5 y (by omega)
        · intro y hy1 hy2
          rw [q_gR _ _ _ _ _ _ (by omega), q_g]
          by_cases e : y = r
          · subst e
            rw [if_pos ⟨rfl, rfl⟩, kn_c, hkc, if_pos rfl]
          · rw [if_neg (fun w => e w.2)]
            exact g6 y (by omega) hy2
        · intro y hy
          rw [q_g]
          by_cases e : 13 * j + y / 32 = 13 * j + r / 32
          · rw [if_pos ⟨rfl, e⟩, b_or, q_gR _ _ _ _ _ _ (by omega), ← e, g7 y (by omega), bt_pow' (by omega) (by omega), decide_eq_false (by omega)]
            rfl
          · rw [if_neg (fun w => e w.2), q_gR _ _ _ _ _ _ (by omega)]
            exact g7 y (by omega)
        · intro y hy1 hy2
          rw [q_g]
          by_cases e : 13 * j + y / 32 = 13 * j + r / 32
          · rw [if_pos ⟨rfl, e⟩, b_or, q_gR _ _ _ _ _ _ (by omega), ← e]
            by_cases e7 : y = r
            · subst e7
              rw [bt_pow' (by omega) (by omega), decide_eq_true rfl, hkc, Bool.or_true]
            · rw [g8 y (by omega) hy2, bt_pow' (by omega) (by omega), decide_eq_false (by omega), Bool.or_false]
          · rw [if_neg (fun w => e w.2), q_gR _ _ _ _ _ _ (by omega)]
            exact g8 y (by omega) hy2
      · rw [decide_eq_false ec] at hkc
        rw [if_pos (by rw [q_lt (by omega) (by omega)]; omega)]
        refine hK (r - 1 + 1) _ _ ?_ ⟨r - 1, rfl, by omega, rfl, g4, fun y hy => g5 y (by omega), ?_, fun y hy => g7 y (by omega), ?_⟩
        · omega
        · intro y hy1 hy2
          by_cases e : y = r
          · subst e
            rw [kn_c, hkc, if_neg (by decide)]
            exact g5 y (Nat.le_refl _)
          · exact g6 y (by omega) hy2
        · intro y hy1 hy2
          by_cases e : y = r
          · subst e
            rw [hkc]
            exact g7 y (Nat.le_refl _)
          · exact g8 y (by omega) hy2
    · rw [if_pos (by rw [q_lt (by omega) (by omega)]; omega)]
      refine ok_s ⟨g4, ?_, ?_⟩
      · intro y hy
        by_cases e : y ≤ r
        · rw [(kn_lo (show y < x.2.1 by omega)).2]
          exact g5 y e
        · exact g6 y (by omega) hy
      · intro y hy
        by_cases e : y ≤ r
        · rw [(kn_lo (show y < x.2.1 by omega)).1]
          exact g7 y e
        · exact g8 y (by omega) hy
theorem cchoose_e (hN : 6000 ≤ N) (hI : IA IT C) (hm : IT.length ≤ 432) (ho : ∀ x ∈ IT, itOK x) (hr : room ≤ 400) :
    ok (f_X0_choose N (nI room) C) fun C' => fr PC C C' ∧ ∃ fl : Nat → Bool, (∀ j, j < IT.length → C'.1 18 j = if fl j = true then 1 else 0) ∧ chs IT room = selr fl IT 0 := by
  have hk : ∀ j r, kn (IT.drop j) r ≤ 286654464 := by
    intro j r
    have h1 := kn_le (IT.drop j) r (fun x hx => ho x (List.mem_of_mem_drop hx))
    have h2 : (IT.drop j).length ≤ 432 := by rw [List.length_drop]; omega
    have h3 : 663552 * (IT.drop j).length ≤ 663552 * 432 := Nat.mul_le_mul_left _ h2
    omega
  unfold f_X0_choose
  rw [if_neg (nI_pos (by omega)), if_pos (show nI room ≤ 400 from nI_le (b := 400) hr (by omega))]
  refine ok_bd (fill_e hN (by omega)) ?_
  rintro C1 ⟨f1, f2⟩
  refine ok_bd (fill_e hN (by omega)) ?_
  rintro C2 ⟨f3, f4⟩
  have hf2 : fr PC C C2 := (f1.mo (fun r k w => by unfold PC; omega)).tr (f3.mo (fun r k w => by unfold PC; omega))
  have h20 : ∀ k, k < 401 → C2.1 20 k = 0 := fun k hk => by rw [f3.2 _ _ (by omega)]; exact f2 k hk
  rw [(hI.go hf2).1, q_nm, q_jp, q_jp]
  refine ok_dn (n := IT.length) (fun j S => fr PC C S ∧ (∀ r, r ≤ room → S.1 20 r = nI (kn (IT.drop j) r)) ∧ (∀ i r, i < j → r ≤ 400 → bt (S.1 21 (13 * i + r / 32)) (r % 32) = false) ∧ ∀ i x r, j ≤ i → IT[i]? = some x → r ≤ room → bt (S.1 21 (13 * i + r / 32)) (r % 32) = kc x (IT.drop (i + 1)) r) ?_ ?_ (by omega) ⟨hf2, ?_, ?_, ?_⟩
  · rintro K S ⟨g1, g2, g3, g4⟩
    unfold b_X0_choose_35 j_X0_choose_51
    rw [if_pos (by decide), q_jp]
    refine ok_l3 (fun m v x S' => ∃ j left fl, x = nI j ∧ v = nI left ∧ j ≤ IT.length ∧ IT.length - j = m ∧ left ≤ room ∧ fr PC C S' ∧ S'.1 21 = S.1 21 ∧ (∀ y, y < j → S'.1 18 y = if fl y = true then 1 else 0) ∧ chs IT room = selr fl (IT.take j) 0 ++ chs (IT.drop j) left) ?_ N IT.length (nI room) 0 S (by omega) ⟨0, room, fun _ => false, rfl, rfl, by omega, rfl, Nat.le_refl _, g1, rfl, fun y hy => by omega, rfl⟩
    rintro K2 m v x S' ⟨j, left, fl, rfl, rfl, c1, c2, c3, c4, c5, c6, c7⟩ hK2
    unfold b_X0_choose_55
    have hIS := hI.go c4
    rw [hIS.1]
    by_cases hj : j < IT.length
    · have hx := List.getElem?_eq_getElem hj
      generalize IT[j] = x at hx
      obtain ⟨i1, i2, i3⟩ := hIS.2 j x hx
      have hb := g4 j x left (by omega) hx c3
      have e4 : nI left / 32 = nI (left / 32) := pk_div (a := left) (d := 32) (by omega) (by omega) (by omega)
      have e5 : nI left - nI left / 32 * 32 = nI (left % 32) := pk_rem (a := left) (d := 32) (by omega) (by omega) (by omega)
      have e6 : nI j * 13 + nI (left / 32) = nI (13 * j + left / 32) := by
        have : nI j * nI 13 + nI (left / 32) = nI (13 * j + left / 32) := by
          rw [q_mul, q_add, Nat.mul_comm]
        exact this
      have hT : f_X0_isTaken N (nI j) (nI left) S' = some (if kc x (IT.drop (j + 1)) left = true then 1 else 0) := by
        unfold f_X0_isTaken
        rw [if_neg (nI_pos (by omega)), if_neg (show ¬ (400 : Int32) < nI left by
          have : ¬ nI 400 < nI left := by rw [q_lt (by omega) (by omega)]; omega
          exact this), e5, e4, e6, q_ck (by omega) (by omega), q_tn (by omega), c5, hasBit_e N _ (by omega), hb, q_bd]
        by_cases e : kc x (IT.drop (j + 1)) left = true
        · rw [if_pos e, if_neg (by decide)]; rfl
        · rw [if_neg e, if_pos rfl]; rfl
      rw [if_neg (by rw [q_le (by omega) (by omega)]; omega), hT, q_bd]
      unfold j_X0_choose_93
      generalize hc : kc x (IT.drop (j + 1)) left = c
      have hbz : vp_nar .boolean (if c = true then 1 else 0) = if c = true then (1 : Int32) else 0 := q_bool (by cases c <;> decide)
      rw [q_ck (by omega) (by omega), q_tn (by omega), hbz, q_nm, q_ck (by omega) (by omega), q_jp, q_gS, q_gR _ _ _ _ _ _ (by omega), i2]
      simp only [q_nm]
      rw [← nI_succ, q_ck (by omega) (by omega)]
      have hgo : ∀ left', left' = (if c = true then left - x.2.1 else left) → ok (K2 (nI left') (nI (j + 1)) (puI S' 18 j (if c = true then 1 else 0))) fun C' => fr PC C C' ∧ ∃ fl : Nat → Bool, (∀ j, j < IT.length → C'.1 18 j = if fl j = true then 1 else 0) ∧ chs IT room = selr fl IT 0 := by
        intro left' hl
        refine hK2 _ _ _ _ ?_ ⟨j + 1, left', fun y => if y = j then c else fl y, rfl, rfl, by omega, rfl, ?_, c4.pu (by unfold PC; omega), ?_, ?_, ?_⟩
        · omega
        · rw [hl]; split <;> omega
        · rw [← c5]
          exact q_gRf _ _ _ _ _ (by omega)
        · intro y hy
          rw [q_g]
          show _ = if (if y = j then c else fl y) = true then 1 else 0
          by_cases e : y = j
          · rw [if_pos ⟨rfl, e⟩, if_pos e]
          · rw [if_neg (fun w => e w.2), if_neg e]
            exact c6 y (by omega)
        · rw [c7, take_x hx, selr_app, drop_x hx, List.append_assoc]
          have e7 : selr (fun y => if y = j then c else fl y) (IT.take j) 0 = selr fl (IT.take j) 0 := by
            apply selr_cg
            intro i hi
            rw [List.length_take] at hi
            show (if 0 + i = j then c else fl (0 + i)) = _
            rw [if_neg (by omega)]
          rw [e7]
          congr 1
          have e8 : 0 + (IT.take j).length = j := by rw [List.length_take]; omega
          rw [e8, chs, hc, hl]
          unfold selr
          show _ = (if (if j = j then c else fl j) = true then _ else _) ++ _
          rw [if_pos rfl]
          cases c with
          | false => rfl
          | true => rfl
      cases c with
      | false =>
        rw [if_neg (show ¬ false = true by decide)] at hgo ⊢
        rw [if_pos (show (0 : Int32) = 0 from rfl)]
        exact hgo left rfl
      | true =>
        have hz : x.2.1 ≤ left := by
          unfold kc at hc
          rw [decide_eq_true_eq] at hc
          exact hc.1
        rw [if_pos (show true = true from rfl)] at hgo ⊢
        rw [if_neg (show ¬ (1 : Int32) = 0 by decide), q_sub hz]
        exact hgo _ rfl
    · have : j = IT.length := by omega
      subst this
      rw [if_pos (by rw [q_le (by omega) (by omega)]; omega)]
      refine ok_s ⟨c4, fl, c6, ?_⟩
      rw [c7, List.take_length, List.drop_length]
      show _ ++ [] = _
      rw [List.append_nil]
  · rintro K j S hj ⟨g1, g2, g3, g4⟩ hK
    have hx := List.getElem?_eq_getElem hj
    have hmem : IT[j] ∈ IT := List.getElem_mem hj
    generalize IT[j] = x at hx hmem
    unfold b_X0_choose_35
    rw [if_neg (nI_pos (by omega))]
    refine ok_bd (weigh_e (l := IT.drop (j + 1)) hN (hI.go g1) hr (by omega) hx (ho x hmem) (hk (j + 1)) g2 (fun r hr' => g3 j r (by omega) hr')) ?_
    rintro S' ⟨d1, d2, d3⟩
    rw [q_nm]
    refine hK _ ⟨g1.tr (d1.mo (fun r k w => by unfold PC; omega)), ?_, ?_, ?_⟩
    · rw [drop_x hx]; exact d2
    · intro i r hi hr'
      rw [d1.2 _ _ (by omega)]
      exact g3 i r (by omega) hr'
    · intro i y r hi hy hr'
      by_cases e : i = j
      · subst e
        rw [hx] at hy
        cases hy
        exact d3 r hr'
      · rw [d1.2 _ _ (by omega)]
        exact g4 i y r (by omega) hy hr'
  · intro r hr'
    rw [h20 r (by omega), List.drop_length]
    rfl
  · intro i r hi hr'
    rw [f4 _ (by omega), b_0]
  · intro i x r hi hx
    have := (List.getElem?_eq_some_iff.mp hx).1
    omega
end CC
