/-! pure part: a clause, and how the class writes it -/
def nml (nw : Nat → List Nat) (names : Nat) : Nat → Bool × List Nat
  | 0 => (true, [])
  | k + 1 => if names.testBit k = true then (false, (nml nw names k).2 ++ ((if (nml nw names k).1 = true then [] else [44, 32]) ++ nw k)) else nml nw names k
def cll (nw : Nat → List Nat) (bw : List Nat) (names out K f t : Nat) : List Nat := (nml nw names K).2 ++ ((if out ≠ 0 then [32, 98, 117, 116, 32] ++ (nml nw out K).2 else []) ++ ([58, 32] ++ (bw ++ ([32] ++ (hl f ++ ([45] ++ (hl t ++ [46])))))))
theorem nml_len {nw : Nat → List Nat} {names : Nat} : ∀ {k : Nat}, (∀ n, n < k → (nw n).length ≤ 12) → ((nml nw names k).1 = true → (nml nw names k).2 = [] ∧ pcn names k = 0) ∧ ((nml nw names k).1 = false → (nml nw names k).2.length + 2 ≤ 14 * pcn names k)
  | 0, _ => ⟨fun _ => ⟨rfl, rfl⟩, fun h => by cases h⟩
  | k + 1, h => by
    obtain ⟨h1, h2⟩ := nml_len (nw := nw) (names := names) (k := k) (fun n hn => h n (by omega))
    have h3 := h k (by omega)
    unfold nml pcn
    by_cases e : names.testBit k = true
    · rw [if_pos e, if_pos e]
      refine ⟨fun w => (by cases w), fun _ => ?_⟩
      show ((nml nw names k).2 ++ _).length + 2 ≤ _
      rw [List.length_append, List.length_append]
      by_cases e2 : (nml nw names k).1 = true
      · obtain ⟨a1, a2⟩ := h1 e2
        rw [if_pos e2, a1]
        show 0 + (0 + (nw k).length) + 2 ≤ _
        omega
      · have := h2 (eq_false_of_ne_true e2)
        rw [if_neg e2]
        show (nml nw names k).2.length + (2 + (nw k).length) + 2 ≤ _
        omega
    · rw [if_neg e, if_neg e]
      exact ⟨h1, h2⟩
theorem nml_first {nw : Nat → List Nat} {names : Nat} : ∀ {k : Nat}, (nml nw names k).1 = true ↔ ∀ i, i < k → names.testBit i = false
  | 0 => ⟨fun _ i hi => by omega, fun _ => rfl⟩
  | k + 1 => by
    unfold nml
    by_cases e : names.testBit k = true
    · rw [if_pos e]
      constructor
      · intro h; cases h
      · intro h
        have := h k (by omega)
        rw [e] at this
        cases this
    · rw [if_neg e, nml_first]
      constructor
      · intro h i hi
        by_cases e2 : i = k
        · rw [e2]; exact eq_false_of_ne_true e
        · exact h i (by omega)
      · intro h i hi
        exact h i (by omega)
theorem nml_nz {nw : Nat → List Nat} {names k : Nat} (h0 : 0 < names) (h : names < 2 ^ k) : (nml nw names k).1 = false := by
  apply eq_false_of_ne_true
  intro w
  rw [nml_first] at w
  have : names = 0 := by
    apply Nat.eq_of_testBit_eq
    intro i
    rw [Nat.zero_testBit]
    by_cases hi : i < k
    · exact w i hi
    · exact Nat.testBit_lt_two_pow (Nat.lt_of_lt_of_le h (pow_le (by omega)))
  omega
theorem pcn_pc {x k : Nat} (hk : k ≤ 12) (h : x < 2 ^ k) : pcn x k = pc x := by
  have : pc x = pcn x (k + (12 - k)) := by unfold pc; rw [Nat.add_sub_cancel' hk]
  rw [this, pcn_ext h]
theorem cll_len {nw : Nat → List Nat} {bw : List Nat} {names out K f t : Nat} (hw : ∀ n, n < K → (nw n).length ≤ 12) (hb : bw.length ≤ 12) (hK : K ≤ 11) (h0 : 0 < names) (h1 : names < 2 ^ K) (h2 : out < 2 ^ K) : (cll nw bw names out K f t).length ≤ 14 * (pc names + pc out) + 22 := by
  have a1 := (nml_len (names := names) hw).2 (nml_nz h0 h1)
  rw [pcn_pc (by omega) h1] at a1
  have a2 : (if out ≠ 0 then [32, 98, 117, 116, 32] ++ (nml nw out K).2 else []).length ≤ 14 * pc out + 3 := by
    by_cases e : out ≠ 0
    · rw [if_pos e, List.length_append]
      have a3 := (nml_len (names := out) hw).2 (nml_nz (by omega) h2)
      rw [pcn_pc (by omega) h2] at a3
      show 5 + _ ≤ _
      omega
    · rw [if_neg e]
      exact Nat.zero_le _
  have a4 := hl_len f
  have a5 := hl_len t
  unfold cll
  simp only [List.length_append, List.length_cons, List.length_nil]
  omega
def NWf (M : St) (n : Nat) : List Nat := wd (M.1 3) (M.1 2) n
def BWf (M : St) (b : Nat) : List Nat := wd (M.1 11) (M.1 10) b
def clM (M : St) (K : Nat) (x : F4) : List Nat := cll (NWf M) (BWf M x.1) (Gn (memM M) K x.2.2.2) (Go (memM M) K x.2.2.2) K x.2.1 x.2.2.1
theorem Go_lt {P R s : Nat} {mem : Nat → Nat} (h : memOK P R mem) (h0 : 0 < s) (hs : s < 2 ^ P) : Go mem (P + R) s < 2 ^ P := Nat.lt_of_le_of_lt (andn_le _ _) (orJ_ltP h.2.2.2)
/-- the class' names beside the reference's -/
def HW (P R B : Nat) (C M : St) : Prop := C.1 28 9 = nI P ∧ C.1 28 10 = nI R ∧ P ≤ 6 ∧ R ≤ 5 ∧ (∀ n, n < P + R → WN (M.1 3) (M.1 2) n (if n < P then C.2 29 n else C.2 30 (n - P))) ∧ ∀ i, i < B → WN (M.1 11) (M.1 10) i (C.2 32 i)
theorem HW.go {P R B : Nat} {C C' M : St} (h : HW P R B C M) (h9 : C'.1 28 9 = C.1 28 9) (h10 : C'.1 28 10 = C.1 28 10) (h2 : C'.2 = C.2) : HW P R B C' M := by
  unfold HW
  rw [h9, h10, h2]
  exact h
theorem HW.ps {P R B rr : Nat} {C C' M : St} (h : HW P R B C M) (hf : fr (PS rr) C C') (hr : rr = 24 ∨ rr = 26) : HW P R B C' M := h.go (hf.2 _ _ (by unfold PS; omega)) (hf.2 _ _ (by unfold PS; omega)) hf.1
section CL
variable {N P R B rr : Nat} {C M : St}
theorem wordOfName_e {n : Nat} (h : HW P R B C M) (hn : n < P + R) : ∃ w, f_X4_wordOfName N 28 (nI n) C = some w ∧ WN (M.1 3) (M.1 2) n w := by
  obtain ⟨h1, h2, h3, h4, h5, -⟩ := h
  refine ⟨_, ?_, h5 n hn⟩
  unfold f_X4_wordOfName
  rw [h1, h2, if_neg (nI_pos (by omega)), q_add, if_pos (by rw [q_lt (by omega) (by omega)]; exact hn)]
  by_cases e : n < P
  · rw [if_neg (by rw [q_le (by omega) (by omega)]; omega), if_pos e, q_ck (by omega) (by omega), q_tn (by omega)]
  · rw [if_pos (by rw [q_le (by omega) (by omega)]; omega), if_neg e, q_sub (by omega), q_ck (by omega) (by omega), q_tn (by omega)]
theorem aa7 {l : List Nat} (hN : 6000 ≤ N) (h : SG rr l C) (hl : l.length + 2 ≤ 20000) : ok (f_X6_addAll N rr 7 C) fun C' => SG rr (l ++ [44, 32]) C' ∧ fr (PS rr) C C' := addAll_e (s := [44, 32]) hN h rfl (by decide +kernel) hl (by decide)
theorem aa6 {l : List Nat} (hN : 6000 ≤ N) (h : SG rr l C) (hl : l.length + 2 ≤ 20000) : ok (f_X6_addAll N rr 6 C) fun C' => SG rr (l ++ [58, 32]) C' ∧ fr (PS rr) C C' := addAll_e (s := [58, 32]) hN h rfl (by decide +kernel) hl (by decide)
theorem aa5 {l : List Nat} (hN : 6000 ≤ N) (h : SG rr l C) (hl : l.length + 5 ≤ 20000) : ok (f_X6_addAll N rr 5 C) fun C' => SG rr (l ++ [32, 98, 117, 116, 32]) C' ∧ fr (PS rr) C C' := addAll_e (s := [32, 98, 117, 116, 32]) hN h rfl (by decide +kernel) hl (by decide)
theorem writeNames_e {names : Nat} {l : List Nat} (hN : 6000 ≤ N) (hr : rr = 24 ∨ rr = 26) (h : SG rr l C) (hW : HW P R B C M) (hn : names < 2 ^ (P + R)) (hl : l.length + 14 * pc names ≤ 20000) :
    ok (f_X10_writeNames N rr (nI names) C) fun C' => SG rr (l ++ (nml (NWf M) names (P + R)).2) C' ∧ fr (PS rr) C C' := by
  have hP6 := hW.2.2.1
  have hR5 := hW.2.2.2.1
  have hwl : ∀ k, k < P + R → (NWf M k).length ≤ 12 := fun k hk => (wd_len (hW.2.2.2.2.1 k hk).l).2
  have hpc : ∀ k, k ≤ P + R → pcn names k ≤ pc names := by
    intro k hk
    rw [← pcn_pc (x := names) (k := P + R) (by omega) hn]
    have : ∀ d, pcn names k ≤ pcn names (k + d) := by
      intro d
      induction d with
      | zero => exact Nat.le_refl _
      | succ d ih =>
        show _ ≤ pcn names (k + d) + _
        omega
    have := this (P + R - k)
    rw [Nat.add_sub_cancel' hk] at this
    exact this
  unfold f_X10_writeNames
  rw [q_jp]
  refine ok_l3 (fun m v x S => ∃ k, x = nI k ∧ k ≤ P + R ∧ P + R - k = m ∧ v = (if (nml (NWf M) names k).1 = true then 1 else 0) ∧ SG rr (l ++ (nml (NWf M) names k).2) S ∧ fr (PS rr) C S) ?_ N (P + R) 1 0 C (by omega) ⟨0, rfl, by omega, rfl, rfl, by rw [nml, List.append_nil]; exact h, fr.rf⟩
  rintro K m v x S ⟨k, rfl, h1, h2, h3, h4, h5⟩ hK
  have hS := hW.ps h5 hr
  unfold b_X10_writeNames_5 j_X10_writeNames_60
  rw [hS.1, hS.2.1, q_add]
  by_cases hk : k < P + R
  · rw [if_neg (by rw [q_le (by omega) (by omega)]; omega), hasBit_e N _ (by omega), bt_nI (by omega), q_bd]
    simp only [q_jp, q_nm]
    rw [← nI_succ]
    by_cases e : names.testBit k = true
    · rw [if_pos e, if_neg (show ¬ (1 : Int32) = 0 by decide)]
      have hnl := nml_len (names := names) (k := k) (fun n hn => hwl n (by omega))
      have hpk : pcn names (k + 1) = pcn names k + 1 := by rw [pcn, if_pos e]
      have hpk2 := hpc (k + 1) (by omega)
      -- the word
      have hword : ∀ (l2 : List Nat) (S2 : St), SG rr l2 S2 → fr (PS rr) C S2 → l2.length + 12 ≤ 20000 → l2 ++ NWf M k = l ++ (nml (NWf M) names (k + 1)).2 → ok (j_X10_writeNames_45 rr N (nI k) (fun v6 S7 => K v6 (nI (k + 1)) S7) S2) fun C' => SG rr (l ++ (nml (NWf M) names (P + R)).2) C' ∧ fr (PS rr) C C' := by
        intro l2 S2 g1 g2 g3 g4
        obtain ⟨w, w1, w2⟩ := wordOfName_e (N := N) (hW.ps g2 hr) hk
        unfold j_X10_writeNames_45
        rw [w1, q_bd]
        refine ok_bd (addWord_e hN g1 w2 g3) ?_
        rintro S3 ⟨d1, d2⟩
        refine hK _ _ _ _ ?_ ⟨k + 1, rfl, by omega, rfl, ?_, ?_, g2.tr d2⟩
        · omega
        · have : (nml (NWf M) names (k + 1)).1 = false := by unfold nml; rw [if_pos e]
          rw [this]; rfl
        · rw [← g4]; exact d1
      have eS : (nml (NWf M) names (k + 1)).2 = (nml (NWf M) names k).2 ++ ((if (nml (NWf M) names k).1 = true then [] else [44, 32]) ++ NWf M k) := by
        show (if names.testBit k = true then _ else _ : Bool × List Nat).2 = _
        rw [if_pos e]
      by_cases e2 : (nml (NWf M) names k).1 = true
      · rw [if_pos e2] at h3
        obtain ⟨c1, c2⟩ := hnl.1 e2
        rw [h3, if_neg (show ¬ (1 : Int32) = 0 by decide)]
        refine hword _ S h4 h5 ?_ ?_
        · rw [List.length_append, c1]; show l.length + 0 + 12 ≤ _; omega
        · rw [eS, if_pos e2, List.nil_append, List.append_assoc]
      · rw [if_neg e2] at h3
        have c2 := hnl.2 (eq_false_of_ne_true e2)
        rw [h3, if_pos (show (0 : Int32) = 0 from rfl)]
        refine ok_bd (aa7 hN h4 (by rw [List.length_append]; omega)) ?_
        rintro S3 ⟨d1, d2⟩
        refine hword _ S3 d1 (h5.tr d2) ?_ ?_
        · rw [List.length_append, List.length_append]; show l.length + (nml (NWf M) names k).2.length + 2 + 12 ≤ _; omega
        · rw [eS, if_neg e2, List.append_assoc, List.append_assoc]
    · rw [if_neg e, if_pos (show (0 : Int32) = 0 from rfl)]
      have eS : nml (NWf M) names (k + 1) = nml (NWf M) names k := by
        show (if names.testBit k = true then _ else _ : Bool × List Nat) = _
        rw [if_neg e]
      refine hK _ _ _ _ ?_ ⟨k + 1, rfl, by omega, rfl, ?_, ?_, h5⟩
      · omega
      · rw [eS]; exact h3
      · rw [eS]; exact h4
  · have : k = P + R := by omega
    subst this
    rw [if_pos (by rw [q_le (by omega) (by omega)]; omega)]
    exact ok_s ⟨h4, h5⟩
def PW (rr r k : Nat) : Prop := PS rr r k ∨ r = 7
/-- the class writes a finding's clause -/
theorem writeClause_e {i : Nat} {x : F4} {l : List Nat} (hN : 6000 ≤ N) (hr : rr = 24 ∨ rr = 26) (h : SG rr l C) (hW : HW P R B C M) (hm : memOK P R (memM M)) (hG : RG P R (memM M) C) (hi : i < 432) (hB : B ≤ 24) (hx : okF P B x) (h9 : C.1 9 i = nI x.1) (h10 : C.1 10 i = nI x.2.1) (h11 : C.1 11 i = nI x.2.2.1) (h12 : C.1 12 i = nI x.2.2.2) (hle : l.length + 14 * pc x.2.2.2 + 22 ≤ 20000) :
    ok (f_X10_writeClause N rr (nI i) C) fun C' => SG rr (l ++ clM M (P + R) x) C' ∧ fr (PW rr) C C' ∧ RG P R (memM M) C' := by
  obtain ⟨b, f, t, s⟩ := x
  obtain ⟨x1, x2, x3, x4, x5⟩ := hx
  have x1 : b < B := x1
  have x2 : f ≤ t := x2
  have x3 : t < 24 := x3
  have x4 : 0 < s := x4
  have x5 : s < 2 ^ P := x5
  have h9 : C.1 9 i = nI b := h9
  have h10 : C.1 10 i = nI f := h10
  have h11 : C.1 11 i = nI t := h11
  have h12 : C.1 12 i = nI s := h12
  have hle : l.length + 14 * pc s + 22 ≤ 20000 := hle
  have hP6 := hW.2.2.1
  have hR5 := hW.2.2.2.1
  have hpp := pow_le (a := P) (b := P + R) (by omega)
  have hp11 := pow_le (a := P + R) (b := 11) (by omega)
  obtain ⟨n1, n2, -, n4⟩ := Gn_ok hm x4 x5
  have hO := Go_lt hm x4 x5
  have hwl : ∀ k, k < P + R → (NWf M k).length ≤ 12 := fun k hk => (wd_len (hW.2.2.2.2.1 k hk).l).2
  have hN1 := (nml_len (names := Gn (memM M) (P + R) s) hwl).2 (nml_nz n1 n2)
  rw [pcn_pc (by omega) n2] at hN1
  unfold f_X10_writeClause
  rw [q_ck (by omega) (by omega), q_tn (by omega), h12, q_nm]
  obtain ⟨C1, a1, a2, a3⟩ := namesOf_e hN hm hG x4 x5
  rw [a1, q_bd2]
  have s1 : SG rr l C1 := h.fr a2 (by unfold P7; omega) (by unfold P7; omega) (fun k => by unfold P7; omega)
  have w1 : HW P R B C1 M := hW.go (a2.2 _ _ (by unfold P7; omega)) (a2.2 _ _ (by unfold P7; omega)) a2.1
  refine ok_bd (writeNames_e hN hr s1 w1 n2 (by omega)) ?_
  rintro C2 ⟨b1, b2⟩
  have g2 : RG P R (memM M) C2 := a3.go (b2.2 _ _ (by unfold PS; omega)) (funext fun k => b2.2 _ _ (by unfold PS; omega)) (funext fun k => b2.2 _ _ (by unfold PS; omega))
  obtain ⟨C3, d1, d2, d3⟩ := takenOut_e hN hm g2 x4 x5
  rw [d1, q_bd2, q_jp]
  have s3 : SG rr (l ++ (nml (NWf M) (Gn (memM M) (P + R) s) (P + R)).2) C3 := b1.fr d2 (by unfold P7; omega) (by unfold P7; omega) (fun k => by unfold P7; omega)
  have f3 : fr (PW rr) C C3 := ((a2.mo (fun r k w => Or.inr w)).tr (b2.mo (fun r k w => Or.inl w))).tr (d2.mo (fun r k w => Or.inr w))
  have hz : (nI (Go (memM M) (P + R) s) = 0) = (Go (memM M) (P + R) s = 0) := q_eq (b := 0) (by omega) (by omega)
  -- what comes behind the names
  have tail : ∀ (l2 : List Nat) (S : St), SG rr l2 S → fr (PW rr) C S → RG P R (memM M) S → l2.length + 21 ≤ 20000 → ok (j_X10_writeClause_52 rr N (nI i) S) fun C' => SG rr (l2 ++ ([58, 32] ++ (BWf M b ++ ([32] ++ (hl f ++ ([45] ++ (hl t ++ [46]))))))) C' ∧ fr (PW rr) C C' ∧ RG P R (memM M) C' := by
    intro l2 S g1 g2 g3 g4
    have keep : ∀ {A B' : St}, fr (PS rr) A B' → RG P R (memM M) A → RG P R (memM M) B' := fun hf hg => hg.go (hf.2 _ _ (by unfold PS; omega)) (funext fun k => hf.2 _ _ (by unfold PS; omega)) (funext fun k => hf.2 _ _ (by unfold PS; omega))
    have h32 : (32 : Int32) = nI 32 := rfl
    have h45 : (45 : Int32) = nI 45 := rfl
    have h46 : (46 : Int32) = nI 46 := rfl
    unfold j_X10_writeClause_52
    refine ok_bd (aa6 hN g1 (by omega)) ?_
    rintro S1 ⟨y1, y2⟩
    have f1 := g2.tr (y2.mo (fun r k w => Or.inl w))
    have c9 : S1.1 9 i = nI b := by rw [f1.2 _ _ (by unfold PW PS; omega)]; exact h9
    have c32 : S1.2 = C.2 := f1.1
    rw [q_ck (by omega) (by omega), q_tn (by omega), c9, q_ck (by omega) (by omega), q_tn (by omega), c32]
    refine ok_bd (addWord_e hN y1 (hW.2.2.2.2.2 b x1) (by rw [List.length_append]; show l2.length + 2 + 12 ≤ _; omega)) ?_
    rintro S2 ⟨y3, y4⟩
    have f2 := f1.tr (y4.mo (fun r k w => Or.inl w))
    have hbl := (wd_len (hW.2.2.2.2.2 b x1).l).2
    obtain ⟨S3, y5, y6, y7⟩ := add_e (N := N) (c := 32) y3 (by rw [List.length_append, List.length_append]; show l2.length + 2 + _ < _; omega) (by omega)
    rw [h32, y5, q_bd]
    have f3 := f2.tr (y7.mo (fun r k w => Or.inl w))
    have c10 : S3.1 10 i = nI f := by rw [f3.2 _ _ (by unfold PW PS; omega)]; exact h10
    rw [q_ck (by omega) (by omega), c10]
    refine ok_bd (addHour_e y6 (by omega) (by rw [List.length_append, List.length_append, List.length_append]; show l2.length + 2 + _ + 1 + 2 ≤ _; omega)) ?_
    rintro S4 ⟨y8, y9⟩
    have f4 := f3.tr (y9.mo (fun r k w => Or.inl w))
    have hh1 := hl_len f
    obtain ⟨S5, z1, z2, z3⟩ := add_e (N := N) (c := 45) y8 (by rw [List.length_append, List.length_append, List.length_append, List.length_append]; show l2.length + 2 + _ + 1 + _ < _; omega) (by omega)
    rw [h45, z1, q_bd]
    have f5 := f4.tr (z3.mo (fun r k w => Or.inl w))
    have c11 : S5.1 11 i = nI t := by rw [f5.2 _ _ (by unfold PW PS; omega)]; exact h11
    rw [q_ck (by omega) (by omega), c11]
    refine ok_bd (addHour_e z2 x3 (by rw [List.length_append, List.length_append, List.length_append, List.length_append, List.length_append]; show l2.length + 2 + _ + 1 + _ + 1 + 2 ≤ _; omega)) ?_
    rintro S6 ⟨z4, z5⟩
    have f6 := f5.tr (z5.mo (fun r k w => Or.inl w))
    have hh2 := hl_len t
    obtain ⟨S7, z6, z7, z8⟩ := add_e (N := N) (c := 46) z4 (by rw [List.length_append, List.length_append, List.length_append, List.length_append, List.length_append, List.length_append]; show l2.length + 2 + _ + 1 + _ + 1 + _ < _; omega) (by omega)
    rw [h46, z6, q_bd]
    refine ok_s ⟨?_, f6.tr (z8.mo (fun r k w => Or.inl w)), keep z8 (keep z5 (keep z3 (keep y9 (keep y7 (keep y4 (keep y2 g3))))))⟩
    simp only [List.append_assoc] at z7 ⊢
    exact z7
  have eC : clM M (P + R) (b, f, t, s) = (nml (NWf M) (Gn (memM M) (P + R) s) (P + R)).2 ++ ((if Go (memM M) (P + R) s ≠ 0 then [32, 98, 117, 116, 32] ++ (nml (NWf M) (Go (memM M) (P + R) s) (P + R)).2 else []) ++ ([58, 32] ++ (BWf M b ++ ([32] ++ (hl f ++ ([45] ++ (hl t ++ [46]))))))) := rfl
  by_cases e : Go (memM M) (P + R) s = 0
  · rw [if_pos (hz ▸ e)]
    refine ok_m (tail _ C3 s3 f3 d3 (by rw [List.length_append]; omega)) ?_
    rintro C' ⟨o1, o2, o3⟩
    refine ⟨?_, o2, o3⟩
    rw [eC, if_neg (fun w => w e), List.nil_append, ← List.append_assoc]
    exact o1
  · rw [if_neg (fun w => e (hz ▸ w))]
    refine ok_bd (aa5 hN s3 (by rw [List.length_append]; omega)) ?_
    rintro C4 ⟨y1, y2⟩
    have f4 := f3.tr (y2.mo (fun r k w => Or.inl w))
    have w4 : HW P R B C4 M := hW.go (f4.2 _ _ (by unfold PW PS; omega)) (f4.2 _ _ (by unfold PW PS; omega)) f4.1
    have hN2 := (nml_len (names := Go (memM M) (P + R) s) hwl).2 (nml_nz (by omega) (by omega))
    rw [pcn_pc (by omega) (by omega)] at hN2
    refine ok_bd (writeNames_e hN hr y1 w4 (by omega) (by rw [List.length_append, List.length_append]; show l.length + _ + 5 + _ ≤ _; omega)) ?_
    rintro C5 ⟨y3, y4⟩
    have g5 : RG P R (memM M) C5 := (d3.go (y2.2 _ _ (by unfold PS; omega)) (funext fun k => y2.2 _ _ (by unfold PS; omega)) (funext fun k => y2.2 _ _ (by unfold PS; omega))).go (y4.2 _ _ (by unfold PS; omega)) (funext fun k => y4.2 _ _ (by unfold PS; omega)) (funext fun k => y4.2 _ _ (by unfold PS; omega))
    refine ok_m (tail _ C5 y3 (f4.tr (y4.mo (fun r k w => Or.inl w))) g5 (by rw [List.length_append, List.length_append, List.length_append]; show l.length + _ + 5 + _ + 21 ≤ _; omega)) ?_
    rintro C' ⟨o1, o2, o3⟩
    refine ⟨?_, o2, o3⟩
    rw [eC, if_pos e]
    simp only [List.append_assoc] at o1 ⊢
    exact o1
end CL
