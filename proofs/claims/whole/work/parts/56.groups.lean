/-! pure part: groups of names -/
theorem fill_e {N rr nn : Nat} {v : Int32} {C : St} (hN : 6000 ≤ N) (hn : nn < 6000) : ok (f_J7_fill_53178 N rr nn v C) fun C' => fr (fun r k => r = rr ∧ k < nn) C C' ∧ ∀ k, k < nn → C'.1 rr k = v := by
  unfold f_J7_fill_53178
  rw [q_nm, q_jp]
  refine ok_l2 (fun m x C' => ∃ j, x = nI j ∧ j ≤ nn ∧ nn - j = m ∧ fr (fun r k => r = rr ∧ k < nn) C C' ∧ ∀ k, k < j → C'.1 rr k = v) ?_ N nn 0 C (by omega) ⟨0, rfl, by omega, rfl, fr.rf, fun k hk => by omega⟩
  rintro K m x C' ⟨j, rfl, h1, h2, h3, h4⟩ hK
  have e : Int32.ofNat nn = nI nn := rfl
  unfold b_J7_fill_53178_5
  rw [e]
  by_cases hj : j < nn
  · rw [if_neg (by rw [q_le (by omega) (by omega)]; omega), q_ck (by omega) (by omega), q_tn (by omega), q_nm, q_nm, ← nI_succ]
    refine hK _ _ _ ?_ ⟨j + 1, rfl, by omega, rfl, h3.pu ⟨rfl, by omega⟩, ?_⟩
    · omega
    · intro k hk
      rw [q_g]
      by_cases e : k = j
      · rw [if_pos ⟨rfl, e⟩]
      · rw [if_neg (fun w => e w.2)]
        exact h4 k (by omega)
  · rw [if_pos (by rw [q_le (by omega) (by omega)]; omega)]
    exact ok_s ⟨h3, fun k hk => h4 k (by omega)⟩
/-- the members of the names, as the class and the reference keep them -/
def memC (rr P : Nat) (C : St) (k : Nat) : Nat := if k < P then 2 ^ k else (C.1 (rr + 3) (k - P)).toNatClampNeg
theorem placesOfName_e {N P R k : Nat} {C : St} (hP : C.1 28 9 = nI P) (hR : C.1 28 10 = nI R) (hP6 : P ≤ 6) (hR5 : R ≤ 5) (hk : k < P + R) (hm : ∀ i, i < R → ∃ m, 0 < m ∧ m < 64 ∧ C.1 31 i = nI m) : f_X4_placesOfName N 28 (nI k) C = some (nI (memC 28 P C k)) := by
  unfold f_X4_placesOfName memC
  rw [hP, hR, if_neg (nI_pos (by omega)), q_add, if_pos (by rw [q_lt (by omega) (by omega)]; exact hk)]
  by_cases h : k < P
  · rw [if_neg (by rw [q_le (by omega) (by omega)]; omega), if_pos h, q_shl k (by omega)]
  · obtain ⟨m, h1, h2, h3⟩ := hm (k - P) (by omega)
    have h3' : C.1 (28 + 3) (k - P) = nI m := h3
    rw [if_pos (by rw [q_le (by omega) (by omega)]; omega), if_neg h, q_sub (by omega), q_ck (by omega) (by omega), q_tn (by omega), h3', q_tn (by omega)]
def PJ (r k : Nat) : Prop := (r = 5 ∧ k = 2) ∨ r = 6 ∨ r = 7
theorem pow_le {a b : Nat} (h : a ≤ b) : 2 ^ a ≤ 2 ^ b := Nat.pow_le_pow_right (by decide) h
theorem join_e {N P R : Nat} {C : St} (hN : 6000 ≤ N) (hP : C.1 28 9 = nI P) (hR : C.1 28 10 = nI R) (hP6 : P ≤ 6) (hR5 : R ≤ 5) (h60 : C.1 6 0 = 0) (hm : ∀ i, i < R → ∃ m, 0 < m ∧ m < 64 ∧ C.1 31 i = nI m) :
    ok (f_X3_join N C) fun C' => fr PJ C C' ∧ C'.1 5 2 = nI (2 ^ (P + R)) ∧ (∀ s, s < 2 ^ (P + R) → C'.1 6 s = nI (orJ (memC 28 P C) s (P + R))) ∧ ∀ k, k < 64 → C'.1 7 k = 0 := by
  unfold f_X3_join
  rw [q_nm, q_jp, q_jp]
  have hg : ∀ S, fr (fun r k => (r = 5 ∧ k = 2) ∨ r = 6) C S → S.1 28 9 = nI P ∧ S.1 28 10 = nI R ∧ (∀ i, i < R → ∃ m, 0 < m ∧ m < 64 ∧ S.1 31 i = nI m) ∧ memC 28 P S = memC 28 P C := by
    intro S hS
    refine ⟨by rw [hS.2 _ _ (by omega)]; exact hP, by rw [hS.2 _ _ (by omega)]; exact hR, fun i hi => by rw [hS.2 _ _ (by omega)]; exact hm i hi, ?_⟩
    funext k
    unfold memC
    rw [hS.2 _ _ (by omega)]
  refine ok_l2 (fun m x S => ∃ j, x = nI j ∧ j ≤ P + R ∧ P + R - j = m ∧ fr (fun r k => (r = 5 ∧ k = 2) ∨ r = 6) C S ∧ S.1 5 2 = nI (2 ^ j) ∧ ∀ s, s < 2 ^ j → S.1 6 s = nI (orJ (memC 28 P C) s j)) ?_ N (P + R) 0 (puI C 5 2 1) (by omega) ⟨0, rfl, by omega, rfl, fr.rf.pu (by omega), q_gS _ _ _ _, ?_⟩
  · rintro K m x S ⟨j, rfl, g1, g2, g3, g4, g5⟩ hK
    obtain ⟨a1, a2, a3, a4⟩ := hg S g3
    have hp11 := pow_le (a := j) (b := 11) (by omega)
    unfold b_X3_join_7
    rw [a1, a2, q_add]
    by_cases hj : j < P + R
    · have hp10 := pow_le (a := j) (b := 10) (by omega)
      rw [if_neg (by rw [q_le (by omega) (by omega)]; omega), placesOfName_e a1 a2 hP6 hR5 hj a3, q_bd, q_jp, q_jp, a4]
      refine ok_l2 (fun m x S' => ∃ i, x = nI i ∧ i ≤ 2 ^ j ∧ 2 ^ j - i = m ∧ fr (fun r k => (r = 5 ∧ k = 2) ∨ r = 6) C S' ∧ S'.1 5 2 = nI (2 ^ j) ∧ (∀ s, s < 2 ^ j → S'.1 6 s = nI (orJ (memC 28 P C) s j)) ∧ ∀ s, s < i → S'.1 6 (2 ^ j + s) = nI (orJ (memC 28 P C) s j ||| memC 28 P C j)) ?_ N (2 ^ j) 0 S (by omega) ⟨0, rfl, Nat.zero_le _, rfl, g3, g4, g5, fun s hs => by omega⟩
      rintro K2 m2 x2 S' ⟨i, rfl, b1, b2, b3, b4, b5, b6⟩ hK2
      unfold b_X3_join_29
      rw [b4]
      by_cases hi : i < 2 ^ j
      · rw [if_neg (by rw [q_le (by omega) (by omega)]; omega), q_add, if_neg (show ¬ (2048 : Int32) ≤ nI (2 ^ j + i) from nI_ge (b := 2048) (by omega) (by omega)), q_ck (by omega) (by omega), q_ck (by omega) (by omega), q_tn (by omega), q_tn (by omega), b5 i hi, q_or, q_nm, q_nm, ← nI_succ]
        refine hK2 _ _ _ ?_ ⟨i + 1, rfl, by omega, rfl, b3.pu (by omega), ?_, ?_, ?_⟩
        · omega
        · rw [q_gR _ _ _ _ _ _ (by omega)]; exact b4
        · intro s hs
          rw [q_gK _ _ _ _ _ _ (by omega)]; exact b5 s hs
        · intro s hs
          rw [q_g]
          by_cases e : s = i
          · subst e
            rw [if_pos ⟨rfl, rfl⟩]
          · rw [if_neg (by omega)]
            exact b6 s (by omega)
      · have hi' : i = 2 ^ j := by omega
        rw [if_pos (by rw [q_le (by omega) (by omega)]; omega)]
        unfold j_X3_join_80
        rw [b4, q_nm, q_nm, ← nI_succ]
        have e2 : nI (2 ^ j) * 2 = nI (2 ^ (j + 1)) := by
          have : nI (2 ^ j) * nI 2 = nI (2 ^ (j + 1)) := by rw [q_mul, Nat.pow_succ]
          exact this
        have hp := pow_le (a := j + 1) (b := 11) (by omega)
        rw [e2, if_neg (show ¬ (2048 : Int32) < nI (2 ^ (j + 1)) by
          have : ¬ nI 2048 < nI (2 ^ (j + 1)) := by rw [q_lt (by omega) (by omega)]; omega
          exact this)]
        refine hK _ _ _ ?_ ⟨j + 1, rfl, by omega, rfl, b3.pu (by omega), q_gS _ _ _ _, ?_⟩
        · omega
        · intro s hs
          rw [q_gR _ _ _ _ _ _ (by omega), orJ]
          rw [Nat.pow_succ] at hs
          by_cases hs2 : s < 2 ^ j
          · have : s.testBit j = false := Nat.testBit_lt_two_pow hs2
            rw [this, b5 s hs2, if_neg (by decide), Nat.or_zero]
          · have e3 : s = 2 ^ j + (s - 2 ^ j) := by omega
            have h1 := b6 (s - 2 ^ j) (by omega)
            rw [← e3] at h1
            have ht : s.testBit j = true := by
              rw [e3, Nat.testBit_two_pow_add_eq, Nat.testBit_lt_two_pow (by omega)]
              rfl
            rw [h1, ht, if_pos rfl]
            congr 2
            apply orJ_cg
            intro i' hi'
            refine ⟨rfl, ?_⟩
            have := Nat.testBit_two_pow_add_gt hi' (s - 2 ^ j)
            rw [← e3] at this
            exact this.symm
    · have hj' : j = P + R := by omega
      subst hj'
      rw [if_pos (by rw [q_le (by omega) (by omega)]; omega)]
      unfold j_X3_join_104
      refine ok_bd (fill_e hN (by omega)) ?_
      rintro C' ⟨f1, f2⟩
      refine ok_s ⟨(g3.mo (fun r k w => by unfold PJ; omega)).tr (f1.mo (fun r k w => by unfold PJ; omega)), ?_, ?_, f2⟩
      · rw [f1.2 _ _ (by omega)]; exact g4
      · intro s hs
        rw [f1.2 _ _ (by omega)]; exact g5 s hs
  · intro s hs
    have : s = 0 := by simp at hs; exact hs
    subst this
    rw [q_gR _ _ _ _ _ _ (by omega), h60]
    rfl
/-- the groups of the class -/
def Jn (mem : Nat → Nat) (K : Nat) (s : Nat) : Nat := orJ mem s K
def Gn (mem : Nat → Nat) (K : Nat) (s : Nat) : Nat := (gX (Jn mem K) s 99 (2 ^ K - 1)).1
def Go (mem : Nat → Nat) (K : Nat) (s : Nat) : Nat := andn (Jn mem K (Gn mem K s)) s
def RG (P R : Nat) (mem : Nat → Nat) (C : St) : Prop := C.1 5 2 = nI (2 ^ (P + R)) ∧ (∀ s, s < 2 ^ (P + R) → C.1 6 s = nI (Jn mem (P + R) s)) ∧ ∀ s, 0 < s → s < 2 ^ P → C.1 7 s = 0 ∨ C.1 7 s = nI (Gn mem (P + R) s)
def memOK (P R : Nat) (mem : Nat → Nat) : Prop := P ≤ 6 ∧ R ≤ 5 ∧ (∀ i, i < P → mem i = 2 ^ i) ∧ ∀ i, i < P + R → mem i < 2 ^ P
theorem Jn_lt {P R : Nat} {mem : Nat → Nat} (h : memOK P R mem) (s : Nat) : Jn mem (P + R) s < 64 := orJ_lt (fun i hi => Nat.lt_of_lt_of_le (h.2.2.2 i hi) (pw6 h.1))
theorem orJ_ltP {mem : Nat → Nat} {set P : Nat} : ∀ {k : Nat}, (∀ i, i < k → mem i < 2 ^ P) → orJ mem set k < 2 ^ P
  | 0, _ => by unfold orJ; exact Nat.two_pow_pos _
  | k + 1, h => by
    unfold orJ
    refine Nat.or_lt_two_pow (orJ_ltP (fun i hi => h i (by omega))) ?_
    split
    · exact h k (by omega)
    · exact Nat.two_pow_pos _
theorem Gn_ok {P R s : Nat} {mem : Nat → Nat} (h : memOK P R mem) (h0 : 0 < s) (hs : s < 2 ^ P) : 0 < Gn mem (P + R) s ∧ Gn mem (P + R) s < 2 ^ (P + R) ∧ andn s (Jn mem (P + R) (Gn mem (P + R) s)) = 0 ∧ pc (Gn mem (P + R) s) + pc (Go mem (P + R) s) ≤ pc s := by
  have hp := pow_le (a := P) (b := 6) h.1
  have hpp := pow_le (a := P) (b := P + R) (by omega)
  obtain ⟨h1, h2, h3⟩ := gX_ok (J := Jn mem (P + R)) (s := s) (Jn_lt h) h0 (orJ_self h.2.2.1 hs (by omega)) (by omega) (2 ^ (P + R) - 1)
  have hk : ¬ 2 ^ (P + R) - 1 < s := by omega
  rcases h1 with h1 | ⟨h1, h4⟩
  · exact absurd h1 hk
  · obtain ⟨h5, h6⟩ := h3 h1
    refine ⟨h1, ?_, h5, ?_⟩
    · show (gX (Jn mem (P + R)) s 99 (2 ^ (P + R) - 1)).1 < _
      omega
    · have : pc (Gn mem (P + R) s) + pc (Go mem (P + R) s) = (gX (Jn mem (P + R)) s 99 (2 ^ (P + R) - 1)).2 := h6.symm
      omega
theorem seek_e {N P R s : Nat} {mem : Nat → Nat} {C : St} (hN : 6000 ≤ N) (hm : memOK P R mem) (h : RG P R mem C) (hs : s < 2 ^ P) : f_X3_seek N (nI s) C = some (nI (Gn mem (P + R) s)) := by
  have hp11 := pow_le (a := P + R) (b := 11) (by have := hm.1; have := hm.2.1; omega)
  have hp6 := pow_le (a := P) (b := 6) hm.1
  have hpos : 0 < 2 ^ (P + R) := Nat.two_pow_pos _
  obtain ⟨r1, r2, r3⟩ := h
  have hJ := Jn_lt hm
  have hl : Gn mem (P + R) s = (gX (Jn mem (P + R)) s 18 (2 ^ (P + R) - 1)).1 := (gX_1 hJ (by omega)).symm
  rw [hl]
  unfold f_X3_seek
  rw [q_jp]
  have key : ∀ d N' k, d < N' → k + d = 2 ^ (P + R) - 1 → lp (fun _ _ _ => none) (b_X3_seek_8 N (nI s) C) N' (nI (gX (Jn mem (P + R)) s 18 k).1) (nI (gX (Jn mem (P + R)) s 18 k).2) (nI (k + 1)) = some (nI (gX (Jn mem (P + R)) s 18 (2 ^ (P + R) - 1)).1) := by
    intro d
    induction d with
    | zero =>
      intro N' k hN' hk
      obtain ⟨N', rfl⟩ : ∃ j, N' = j + 1 := ⟨N' - 1, by omega⟩
      have : k = 2 ^ (P + R) - 1 := by omega
      rw [q_lp]
      unfold b_X3_seek_8
      rw [r1, if_pos (by rw [q_le (by omega) (by omega)]; omega), this]
    | succ d ih =>
      intro N' k hN' hk
      obtain ⟨N', rfl⟩ : ∃ j, N' = j + 1 := ⟨N' - 1, by omega⟩
      have ih' := ih N' (k + 1) (by omega) (by omega)
      rw [q_lp]
      generalize lp (fun _ _ _ => none) (b_X3_seek_8 N (nI s) C) N' = K at ih' ⊢
      unfold b_X3_seek_8 j_X3_seek_64
      have hj := hJ (k + 1)
      have hj2 := Nat.lt_of_le_of_lt (andn_le (Jn mem (P + R) (k + 1)) s) hj
      have h1 := pc_le (x := k + 1) 11 (by omega) (by omega)
      have h2 := pc_le (x := andn (Jn mem (P + R) (k + 1)) s) 6 (by omega) hj2
      have hl18 : ∀ k, (gX (Jn mem (P + R)) s 18 k).2 ≤ 18 := by
        intro k
        induction k with
        | zero => exact Nat.le_refl _
        | succ k ih =>
          unfold gX
          split
          · next c => have := c.2; show pc (k + 1) + pc (andn (Jn mem (P + R) (k + 1)) s) ≤ 18; omega
          · exact ih
      have hl18 := hl18 k
      rw [gX] at ih'
      have hand : (nI (Jn mem (P + R) (k + 1) &&& s) = nI s) = (andn s (Jn mem (P + R) (k + 1)) = 0) := by
        have := Nat.and_le_right (n := Jn mem (P + R) (k + 1)) (m := s)
        rw [q_eq (by omega) (by omega), andn_0]
      rw [r1, if_neg (by rw [q_le (by omega) (by omega)]; omega), q_ck (by omega) (by omega), q_tn (by omega), r2 _ (by omega), q_and, q_andn, q_jp]
      simp only [q_nm, hand]
      rw [← nI_succ (k + 1)]
      by_cases c1 : andn s (Jn mem (P + R) (k + 1)) = 0
      · rw [if_pos c1, bitCount_e N (by omega), q_bd, q_ck (by omega) (by omega), bitCount_e N (by omega), q_bd, q_add]
        by_cases c2 : pc (k + 1) + pc (andn (Jn mem (P + R) (k + 1)) s) < (gX (Jn mem (P + R)) s 18 k).2
        · rw [if_pos ⟨c1, c2⟩] at ih'
          rw [if_neg (by rw [q_le (by omega) (by omega)]; omega)]
          exact ih'
        · rw [if_neg (fun w => c2 w.2)] at ih'
          rw [if_pos (by rw [q_le (by omega) (by omega)]; omega)]
          exact ih'
      · rw [if_neg (fun w => c1 w.1)] at ih'
        rw [if_neg c1]
        exact ih'
  exact key (2 ^ (P + R) - 1) N 0 (by omega) (by omega)
def P7 (r _k : Nat) : Prop := r = 7
theorem RG.go {P R : Nat} {mem : Nat → Nat} {C C' : St} (h : RG P R mem C) (h5 : C'.1 5 2 = C.1 5 2) (h6 : C'.1 6 = C.1 6) (h7 : C'.1 7 = C.1 7) : RG P R mem C' := by
  unfold RG
  rw [h5, h6, h7]
  exact h
theorem namesOf_e {N P R s : Nat} {mem : Nat → Nat} {C : St} (hN : 6000 ≤ N) (hm : memOK P R mem) (h : RG P R mem C) (h0 : 0 < s) (hs : s < 2 ^ P) :
    ∃ C', f_X3_namesOf N (nI s) C = some (nI (Gn mem (P + R) s), C') ∧ fr P7 C C' ∧ RG P R mem C' := by
  have hp6 := pow_le (a := P) (b := 6) hm.1
  obtain ⟨g1, g2, -⟩ := Gn_ok hm h0 hs
  have hp11 := pow_le (a := P + R) (b := 11) (by have := hm.1; have := hm.2.1; omega)
  unfold f_X3_namesOf j_X3_namesOf_35
  rw [if_neg (nI_nle h0 (by omega)), if_pos (show nI s < 64 from nI_lt (b := 64) (by omega) (by omega)), q_ck (by omega) (by omega), q_jp, q_tn (by omega)]
  have e0 : ∀ C' : St, (ck (nI s) 64 <| some ((C'.1 7 s), C')) = some (C'.1 7 s, C') := fun C' => q_ck (by omega) (by omega)
  by_cases h7 : C.1 7 s = 0
  · rw [if_pos h7, seek_e hN hm h hs, q_bd, q_ck (by omega) (by omega), q_nm]
    refine ⟨puI C 7 s (nI (Gn mem (P + R) s)), ?_, fr.rf.pu rfl, ?_⟩
    · exact (e0 _).trans (by rw [q_gS])
    · obtain ⟨r1, r2, r3⟩ := h
      refine ⟨by rw [q_gR _ _ _ _ _ _ (by omega)]; exact r1, fun t ht => by rw [q_gR _ _ _ _ _ _ (by omega)]; exact r2 t ht, fun t ht1 ht2 => ?_⟩
      rw [q_g]
      by_cases e : t = s
      · subst e
        rw [if_pos ⟨rfl, rfl⟩]
        exact Or.inr rfl
      · rw [if_neg (fun w => e w.2)]
        exact r3 t ht1 ht2
  · rw [if_neg h7]
    refine ⟨C, ?_, fr.rf, h⟩
    refine (e0 _).trans ?_
    rcases h.2.2 s h0 hs with w | w
    · exact absurd w h7
    · rw [w]
theorem takenOut_e {N P R s : Nat} {mem : Nat → Nat} {C : St} (hN : 6000 ≤ N) (hm : memOK P R mem) (h : RG P R mem C) (h0 : 0 < s) (hs : s < 2 ^ P) :
    ∃ C', f_X3_takenOutOf N (nI s) C = some (nI (Go mem (P + R) s), C') ∧ fr P7 C C' ∧ RG P R mem C' := by
  obtain ⟨g1, g2, -⟩ := Gn_ok hm h0 hs
  have hp11 := pow_le (a := P + R) (b := 11) (by have := hm.1; have := hm.2.1; omega)
  obtain ⟨C', h1, h2, h3⟩ := namesOf_e hN hm h h0 hs
  refine ⟨C', ?_, h2, h3⟩
  unfold f_X3_takenOutOf
  rw [h1, q_bd2, q_ck (by omega) (by omega), q_tn (by omega), h3.2.1 _ g2, q_andn]
  rfl
