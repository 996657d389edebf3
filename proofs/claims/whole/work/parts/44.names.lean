/-! pure part: names and words, kept as numbers by the class and as letters by the reference -/
def fst1 (E : Nat → Bool) (n : Nat) : Nat := scan (fun i => !E i) n 0
theorem fst1_le (E : Nat → Bool) (n : Nat) : fst1 E n ≤ n := by have := scan_le (fun i => !E i) n 0; unfold fst1; omega
theorem fst1_no {E : Nat → Bool} {n i : Nat} (h : i < fst1 E n) : E i = false := by
  have := scan_in (fun i => !E i) n 0 i (by omega) h
  simpa using this
theorem fst1_yes {E : Nat → Bool} {n : Nat} (h : fst1 E n < n) : E (fst1 E n) = true := by
  have := scan_end (fun i => !E i) n 0 (by unfold fst1 at h; omega)
  simpa [fst1] using this
theorem fst1_is {E : Nat → Bool} {n i : Nat} (h : i < n) (hE : E i = true) (hb : ∀ j, j < i → E j = false) : fst1 E n = i := by
  have h1 : fst1 E n ≤ i := by
    apply Decidable.byContradiction
    intro q
    have := fst1_no (E := E) (n := n) (i := i) (by omega)
    rw [hE] at this
    cases this
  by_cases h2 : fst1 E n = i
  · exact h2
  · have h3 := fst1_yes (E := E) (n := n) (by omega)
    rw [hb _ (by omega)] at h3
    cases h3
theorem fst1_cong {E F : Nat → Bool} {n : Nat} (h : ∀ i, i < n → E i = F i) : fst1 E n = fst1 F n := by
  by_cases h1 : fst1 F n < n
  · exact fst1_is h1 (by rw [h _ h1]; exact fst1_yes h1) (fun j hj => by rw [h _ (by omega)]; exact fst1_no hj)
  · have h2 := fst1_le F n
    by_cases h3 : fst1 E n < n
    · have := fst1_yes h3
      rw [h _ h3, fst1_no (E := F) (n := n) (i := fst1 E n) (by omega)] at this
      cases this
    · have := fst1_le E n
      omega
/-- a loop that seeks -/
theorem seek1 {β : Type} {body : (Int32 → Option β) → Int32 → Option β} {E : Nat → Bool} {X : Option β} {Y : Nat → Option β} {n a : Nat}
    (hend : ∀ k, body k (nI (a + n)) = X) (hs : ∀ k i, i < n → body k (nI (a + i)) = if E i = true then Y i else k (nI (a + i + 1))) {N : Nat} (hN : n < N) :
    lp (fun _ => none) body N (nI a) = if fst1 E n < n then Y (fst1 E n) else X := by
  have key : ∀ d N' i, d < N' → i + d = n → (∀ x, x < i → E x = false) → lp (fun _ => none) body N' (nI (a + i)) = if fst1 E n < n then Y (fst1 E n) else X := by
    intro d
    induction d with
    | zero =>
      intro N' i hN' hi hx
      obtain ⟨N', rfl⟩ : ∃ k, N' = k + 1 := ⟨N' - 1, by omega⟩
      have : i = n := by omega
      subst this
      rw [q_lp, hend, if_neg]
      intro q
      have := fst1_yes q
      rw [hx _ q] at this
      cases this
    | succ d ih =>
      intro N' i hN' hi hx
      obtain ⟨N', rfl⟩ : ∃ k, N' = k + 1 := ⟨N' - 1, by omega⟩
      rw [q_lp, hs _ i (by omega)]
      by_cases e : E i = true
      · have := fst1_is (n := n) (by omega) e hx
        rw [if_pos e, this, if_pos (by omega)]
      · rw [if_neg e]
        refine ih N' (i + 1) (by omega) (by omega) ?_
        intro x hx2
        by_cases hxi : x < i
        · exact hx x hxi
        · have : x = i := by omega
          rw [this]; exact eq_false_of_ne_true e
  exact key n N 0 hN (by omega) (fun x hx => by omega)
theorem q_lN {a b : Nat} (ha : a < 9223372036854775808) (hb : b < 9223372036854775808) : (lN a = lN b) = (a = b) := by
  have e : ∀ {n : Nat}, n < 9223372036854775808 → (lN n).toInt = (n : Int) := fun h => lg_ofNat_toInt (by omega)
  rw [← Int64.toInt_inj, e ha, e hb]; exact propext Int.ofNat_inj
theorem q_shl : ∀ i, i < 31 → (1 : Int32) <<< (nI i &&& 31) = nI (2 ^ i) := by decide +kernel
/-- a word of the reference's rows, and its number in the class -/
def WN (sz lt : Nat → Int32) (idx : Nat) (w : Int64) : Prop := ∃ (s : Nat) (l : Nat → Nat), 1 ≤ s ∧ s ≤ 12 ∧ sz idx = nI s ∧ (∀ k, k < s → letP l k = true ∧ lt (12 * idx + k) = nI (l k)) ∧ w = lN (enc l 0 s)
theorem letP_b {b : Nat → Nat} {k : Nat} (h : letP b k = true) : 97 ≤ b k ∧ b k ≤ 122 := by unfold letP at h; rw [decide_eq_true_eq] at h; exact h
theorem enc_b {b : Nat → Nat} {p j : Nat} (h : ∀ i, i < j → letP b (p + i) = true) (hj : j ≤ 12) : enc b p j < 9223372036854775808 := by
  have := enc_lt h
  have := q_p12 hj
  omega
theorem enc_pos {b : Nat → Nat} {p j : Nat} (h : ∀ i, i < j → letP b (p + i) = true) (hj : 1 ≤ j) : 0 < enc b p j := by
  obtain ⟨j, rfl⟩ : ∃ k, j = k + 1 := ⟨j - 1, by omega⟩
  have := letP_b (h j (by omega))
  rw [enc]
  omega
theorem WN.m {sz lt : Nat → Int32} {idx : Nat} {w : Int64} (h : WN sz lt idx w) {b : Nat → Nat} {p j : Nat} (hl : ∀ i, i < j → letP b (p + i) = true) (hj : j ≤ 12) :
    ∃ (s : Nat) (l : Nat → Nat), 1 ≤ s ∧ s ≤ 12 ∧ sz idx = nI s ∧ (∀ k, k < s → letP l k = true ∧ lt (12 * idx + k) = nI (l k)) ∧ (w = lN (enc b p j) ↔ s = j ∧ ∀ i, i < s → l i = b (p + i)) := by
  obtain ⟨s, l, h1, h2, h3, h4, h5⟩ := h
  refine ⟨s, l, h1, h2, h3, h4, ?_⟩
  have a1 : ∀ i, i < s → letP l (0 + i) = true := fun i hi => by rw [Nat.zero_add]; exact (h4 i hi).1
  rw [h5, q_lN (enc_b a1 h2) (enc_b hl hj), enc_inj a1 hl]
  simp only [Nat.zero_add]
theorem WN.pos {sz lt : Nat → Int32} {idx : Nat} {w : Int64} (h : WN sz lt idx w) : w ≠ 0 := by
  obtain ⟨s, l, h1, h2, h3, h4, h5⟩ := h
  have a1 : ∀ i, i < s → letP l (0 + i) = true := fun i hi => by rw [Nat.zero_add]; exact (h4 i hi).1
  have e : (lN (enc l 0 s) = lN 0) = (enc l 0 s = 0) := q_lN (enc_b a1 h2) (by omega)
  have := enc_pos a1 h1
  intro q
  rw [h5] at q
  have q2 : lN (enc l 0 s) = lN 0 := q
  rw [e] at q2
  omega
theorem WN.cg {sz lt sz' lt' : Nat → Int32} {idx idx' : Nat} {w : Int64} (h : WN sz lt idx w) (h1 : sz' idx' = sz idx) (h2 : ∀ k, k < 12 → lt' (12 * idx' + k) = lt (12 * idx + k)) : WN sz' lt' idx' w := by
  obtain ⟨s, l, a1, a2, a3, a4, a5⟩ := h
  exact ⟨s, l, a1, a2, h1.trans a3, fun k hk => ⟨(a4 k hk).1, (h2 k (by omega)).trans (a4 k hk).2⟩, a5⟩
theorem pw6 {P : Nat} (h : P ≤ 6) : 2 ^ P ≤ 64 := Nat.pow_le_pow_right (n := 2) (by decide) h
/-- rules: the class' at rr, the reference's from pi, ri, bi on -/
def RN (rr pi ri P R : Nat) (C M : St) : Prop :=
  C.1 rr 9 = nI P ∧ C.1 rr 10 = nI R ∧ P ≤ 6 ∧ R ≤ 5 ∧
  (∀ i, i < P → WN (M.1 3) (M.1 2) (pi + i) (C.2 (rr + 1) i) ∧ M.1 4 (pi + i) = nI (2 ^ i)) ∧
  (∀ i, i < R → WN (M.1 3) (M.1 2) (ri + i) (C.2 (rr + 2) i) ∧ ∃ m, 0 < m ∧ m < 2 ^ P ∧ C.1 (rr + 3) i = nI m ∧ M.1 4 (ri + i) = nI m) ∧
  (∀ i j, i < P → j < R → C.2 (rr + 1) i ≠ C.2 (rr + 2) j)
def bOK (rr bi : Nat) (C M : St) (i : Nat) : Prop :=
  WN (M.1 11) (M.1 10) (bi + i) (C.2 (rr + 4) i) ∧ (∃ q, q < 3 ∧ C.1 (rr + 5) i = nI q) ∧ M.1 5 (bi + i) = C.1 (rr + 5) i ∧ M.1 6 (bi + i) = C.1 (rr + 6) i ∧ M.1 7 (bi + i) = C.1 (rr + 7) i ∧
  -99 ≤ (C.1 (rr + 6) i).toInt ∧ (C.1 (rr + 6) i).toInt < (C.1 (rr + 7) i).toInt ∧ (C.1 (rr + 7) i).toInt ≤ 999 ∧ (∃ g, 1 ≤ g ∧ g ≤ 9 ∧ C.1 (rr + 8) i = nI g) ∧ M.1 8 (bi + i) = C.1 (rr + 8) i ∧ (C.1 (rr + 9) i = 0 ∨ C.1 (rr + 9) i = 1) ∧ M.1 9 (bi + i) = C.1 (rr + 9) i
def RB (rr bi B : Nat) (C M : St) : Prop :=
  C.1 rr 11 = nI B ∧ B ≤ 24 ∧ (∀ i, i < B → bOK rr bi C M i) ∧
  (∀ i j, i < j → j < B → C.1 (rr + 5) i = C.1 (rr + 5) j → (C.1 (rr + 7) i).toInt ≤ (C.1 (rr + 6) j).toInt ∨ (C.1 (rr + 7) j).toInt ≤ (C.1 (rr + 6) i).toInt)
theorem placeNamed_e {N rr P : Nat} {w : Int64} {C : St} (hN : 6000 ≤ N) (h1 : C.1 rr 9 = nI P) (h2 : P ≤ 6) :
    f_X4_placeNamed N rr w C = some (if fst1 (fun i => decide (C.2 (rr + 1) i = w)) P < P then nI (2 ^ fst1 (fun i => decide (C.2 (rr + 1) i = w)) P) else 0) := by
  unfold f_X4_placeNamed
  have := seek1 (body := b_X4_placeNamed_2 rr w C) (E := fun i => decide (C.2 (rr + 1) i = w)) (X := some 0) (Y := fun i => some (nI (2 ^ i))) (n := P) (a := 0) ?_ ?_ (N := N) (by omega)
  · rw [q_jp, q_lit, this]
    split <;> rfl
  · intro k
    unfold b_X4_placeNamed_2
    rw [h1, if_pos (by rw [q_le (by omega) (by omega)]; omega)]
  · intro k i hi
    unfold b_X4_placeNamed_2
    simp only [Nat.zero_add]
    rw [h1, if_neg (by rw [q_le (by omega) (by omega)]; omega), q_ck (by omega) (by omega), q_tn (by omega), q_shl i (by omega), q_nm, ← nI_succ]
    simp only [lg_cmp_eq, decide_eq_true_eq]
theorem placesNamed_e {N rr P R : Nat} {w : Int64} {C : St} (hN : 6000 ≤ N) (h1 : C.1 rr 9 = nI P) (h2 : P ≤ 6) (h3 : C.1 rr 10 = nI R) (h4 : R ≤ 5) :
    f_X4_placesNamed N rr w C = some (if fst1 (fun i => decide (C.2 (rr + 2) i = w)) R < R then C.1 (rr + 3) (fst1 (fun i => decide (C.2 (rr + 2) i = w)) R) else if fst1 (fun i => decide (C.2 (rr + 1) i = w)) P < P then nI (2 ^ fst1 (fun i => decide (C.2 (rr + 1) i = w)) P) else 0) := by
  unfold f_X4_placesNamed j_X4_placesNamed_34
  rw [placeNamed_e hN h1 h2]
  have := seek1 (body := b_X4_placesNamed_2 rr w C (j_X4_placesNamed_21 rr C) (some (if fst1 (fun i => decide (C.2 (rr + 1) i = w)) P < P then nI (2 ^ fst1 (fun i => decide (C.2 (rr + 1) i = w)) P) else 0))) (E := fun i => decide (C.2 (rr + 2) i = w)) (X := some (if fst1 (fun i => decide (C.2 (rr + 1) i = w)) P < P then nI (2 ^ fst1 (fun i => decide (C.2 (rr + 1) i = w)) P) else 0)) (Y := fun i => j_X4_placesNamed_21 rr C (nI i)) (n := R) (a := 0) ?_ ?_ (N := N) (by omega)
  · simp only [q_jp, q_bd]
    refine Eq.trans this ?_
    by_cases h : fst1 (fun i => decide (C.2 (rr + 2) i = w)) R < R
    · rw [if_pos h, if_pos h]
      unfold j_X4_placesNamed_21
      rw [q_ck (by omega) (by omega), q_tn (by omega)]
    · rw [if_neg h, if_neg h]
  · intro k
    unfold b_X4_placesNamed_2
    rw [h3, if_pos (by rw [q_le (by omega) (by omega)]; omega)]
  · intro k i hi
    unfold b_X4_placesNamed_2
    simp only [Nat.zero_add]
    rw [h3, if_neg (by rw [q_le (by omega) (by omega)]; omega), q_ck (by omega) (by omega), q_tn (by omega), q_nm, ← nI_succ]
    simp only [lg_cmp_eq, decide_eq_true_eq]
theorem bandNamed_e {N rr B : Nat} {w : Int64} {C : St} (hN : 6000 ≤ N) (h1 : C.1 rr 11 = nI B) (h2 : B ≤ 24) :
    f_X4_bandNamed N rr w C = some (if fst1 (fun i => decide (C.2 (rr + 4) i = w)) B < B then nI (fst1 (fun i => decide (C.2 (rr + 4) i = w)) B) else -1) := by
  unfold f_X4_bandNamed
  have := seek1 (body := b_X4_bandNamed_2 rr w C) (E := fun i => decide (C.2 (rr + 4) i = w)) (X := some (-1)) (Y := fun i => some (nI i)) (n := B) (a := 0) ?_ ?_ (N := N) (by omega)
  · rw [q_jp, q_lit, this]
    split <;> rfl
  · intro k
    unfold b_X4_bandNamed_2
    rw [h1, if_pos (by rw [q_le (by omega) (by omega)]; omega)]
  · intro k i hi
    unfold b_X4_bandNamed_2
    simp only [Nat.zero_add]
    rw [h1, if_neg (by rw [q_le (by omega) (by omega)]; omega), q_ck (by omega) (by omega), q_tn (by omega), q_nm, ← nI_succ]
    simp only [lg_cmp_eq, decide_eq_true_eq]
/-- a name of the reference's against the letters from p to e -/
theorem nameRead_it {N : Nat} {b : Nat → Nat} {n p e idx : Nat} {M : St} {w : Int64} (hN : 6000 ≤ N) (hM : mB b n M) (hpe : p ≤ e) (he : e ≤ n) (h12 : e - p ≤ 12) (hl : ∀ i, i < e - p → letP b (p + i) = true) (hi : idx < 24)
    (hW : WN (M.1 3) (M.1 2) idx w) (k3 : Int32 → Option Int32) : j_X11_nameRead_50 N (nI p) (nI e) M (nI idx) k3 1 = if w = lN (enc b p (e - p)) then some (nI idx) else k3 (nI (idx + 1)) := by
  have hn := hM.2.2.1
  obtain ⟨s, l, a1, a2, a3, a4, a5⟩ := hW.m hl h12
  unfold j_X11_nameRead_50 j_X11_nameRead_73 j_X11_nameRead_74
  simp only [q_jp]
  rw [if_neg (by decide), q_ck (by omega) (by omega), q_tn (by omega), a3, q_sub hpe]
  have fin1 : ∀ v, v = 1 → j_X11_nameRead_129 (nI idx) k3 v = some (nI idx) := by
    intro v hv
    unfold j_X11_nameRead_129
    rw [hv, if_neg (by decide)]
  have fin0 : ∀ v, v = 0 → j_X11_nameRead_129 (nI idx) k3 v = k3 (nI (idx + 1)) := by
    intro v hv
    unfold j_X11_nameRead_129
    rw [hv, if_pos rfl, nI_succ]; rfl
  have hend : ∀ k v, b_X11_nameRead_79 (nI p) (nI e) M (nI idx) (j_X11_nameRead_129 (nI idx) k3) k v (nI (e - p)) = j_X11_nameRead_129 (nI idx) k3 v := by
    intro k v
    unfold b_X11_nameRead_79
    rw [q_sub hpe, if_pos (by rw [q_le (by omega) (by omega)]; omega)]
  have hz : ∀ k i, i < e - p → b_X11_nameRead_79 (nI p) (nI e) M (nI idx) (j_X11_nameRead_129 (nI idx) k3) k 0 (nI i) = j_X11_nameRead_129 (nI idx) k3 0 := by
    intro k i hi
    unfold b_X11_nameRead_79
    rw [q_sub hpe, if_neg (by rw [q_le (by omega) (by omega)]; omega), if_pos rfl]
  by_cases es : s = e - p
  · rw [if_pos (by rw [es])]
    have hc := cmp1 (E := fun i => l i = b (p + i)) (m := e - p) hend hz ?_ (N := N) (by omega)
    · rw [hc]
      by_cases e2 : ∀ i, i < e - p → l i = b (p + i)
      · rw [if_pos e2, fin1 _ rfl, if_pos (a5.mpr ⟨es, fun i hi => e2 i (by omega)⟩)]
      · rw [if_neg e2, fin0 _ rfl, if_neg]
        intro q
        exact e2 (fun i hi => (a5.mp q).2 i (by omega))
    · intro k i hi
      unfold b_X11_nameRead_79 j_X11_nameRead_121
      obtain ⟨c1, c2⟩ := a4 i (by omega)
      obtain ⟨c3, c4⟩ := hM.1 (p + i) (by omega)
      have c5 := letP_b c1
      rw [q_sub hpe, if_neg (by rw [q_le (by omega) (by omega)]; omega), if_neg (by decide)]
      simp (disch := omega) only [q_nm, q_jp, q_bd, q_bd2, q_zb0, q_zb1, q_zbn0, q_zbn1, q_z10, q_z11, q_z1n0, q_z1n1, q_lit, q_add, q_mul, q_lt, q_le, q_eq, q_tn, q_ck, q_nm1, q_n1e, q_gS, q_gR, q_gK, q_g2, if_true, if_false, c2, c3]
      by_cases e3 : l i = b (p + i)
      · rw [if_pos e3, if_pos e3]
      · rw [if_neg e3, if_neg e3]
  · rw [if_neg (by rw [q_eq (by omega) (by omega)]; exact es)]
    rw [cmp0 (m := e - p) hend hz (by omega), fin0 _ rfl, if_neg]
    intro q
    exact es (a5.mp q).1
theorem nameRead_no {N : Nat} {p e idx n : Nat} {M : St} (hN : 6000 ≤ N) (hpe : p ≤ e) (he : e ≤ n) (hn : n ≤ 1000) (k3 : Int32 → Option Int32) : j_X11_nameRead_50 N (nI p) (nI e) M (nI idx) k3 0 = k3 (nI (idx + 1)) := by
  unfold j_X11_nameRead_50 j_X11_nameRead_73 j_X11_nameRead_74
  simp only [q_jp]
  rw [if_pos trivial]
  rw [cmp0 (m := e - p) (exit := j_X11_nameRead_129 (nI idx) k3) ?_ ?_ (by omega)]
  · unfold j_X11_nameRead_129
    rw [if_pos rfl, nI_succ]; rfl
  · intro k v
    unfold b_X11_nameRead_79
    rw [q_sub hpe, if_pos (by rw [q_le (by omega) (by omega)]; omega)]
  · intro k i hi
    unfold b_X11_nameRead_79
    rw [q_sub hpe, if_neg (by rw [q_le (by omega) (by omega)]; omega), if_pos rfl]
/-- what the word from p to e names, in the class and in the reference -/
theorem nameRead_e {N : Nat} {b : Nat → Nat} {n p e P R : Nat} {C M : St} (hN : 6000 ≤ N) (hM : mB b n M) (hpe : p ≤ e) (he : e ≤ n) (h12 : e - p ≤ 12) (hl : ∀ i, i < e - p → letP b (p + i) = true)
    (hR : RN 38 12 18 P R C M) (hP2 : M.1 0 29 = nI P) (hR2 : M.1 0 30 = nI R) :
    (f_X11_nameRead N (nI p) (nI e) M = some (-1) ∧ f_X4_placesNamed N 38 (lN (enc b p (e - p))) C = some 0 ∧ (∀ i, i < P → C.2 39 i ≠ lN (enc b p (e - p))) ∧ (∀ i, i < R → C.2 40 i ≠ lN (enc b p (e - p)))) ∨
    (∃ idx m, f_X11_nameRead N (nI p) (nI e) M = some (nI idx) ∧ idx < 24 ∧ 0 < m ∧ m < 2 ^ P ∧ M.1 4 idx = nI m ∧ f_X4_placesNamed N 38 (lN (enc b p (e - p))) C = some (nI m)) := by
  have hn := hM.2.2.1
  obtain ⟨r1, r2, r3, r4, r5, r6, r7⟩ := hR
  generalize hw : lN (enc b p (e - p)) = w
  have hpn := placesNamed_e (w := w) hN r1 r3 r2 r4
  have hE := seek1 (body := b_X11_nameRead_3 N (nI p) (nI e) M) (E := fun i => if i < 6 then decide (i < P ∧ C.2 39 i = w) else decide (i - 6 < R ∧ C.2 40 (i - 6) = w)) (X := some (-1)) (Y := fun i => some (nI (12 + i))) (n := 12) (a := 12) ?_ ?_ (N := N) (by omega)
  · have hf : f_X11_nameRead N (nI p) (nI e) M = lp (fun _ => none) (b_X11_nameRead_3 N (nI p) (nI e) M) N (nI 12) := rfl
    rw [hf, hE, hpn]
    by_cases hp : fst1 (fun i => decide (C.2 39 i = w)) P < P
    · have y := fst1_yes hp
      rw [decide_eq_true_eq] at y
      have hno : ¬ fst1 (fun i => decide (C.2 40 i = w)) R < R := by
        intro q
        have z := fst1_yes q
        rw [decide_eq_true_eq] at z
        exact r7 _ _ hp q (y.trans z.symm)
      have hf1 : fst1 (fun i => if i < 6 then decide (i < P ∧ C.2 39 i = w) else decide (i - 6 < R ∧ C.2 40 (i - 6) = w)) 12 = fst1 (fun i => decide (C.2 39 i = w)) P := by
        apply fst1_is (by omega)
        · rw [if_pos (by omega), decide_eq_true_eq]; exact ⟨hp, y⟩
        · intro j hj
          rw [if_pos (by omega), decide_eq_false_iff_not]
          rintro ⟨-, q⟩
          have := fst1_no hj
          rw [decide_eq_false_iff_not] at this
          exact this q
      right
      refine ⟨12 + fst1 (fun i => decide (C.2 39 i = w)) P, 2 ^ fst1 (fun i => decide (C.2 39 i = w)) P, ?_, by omega, Nat.two_pow_pos _, ?_, (r5 _ hp).2, ?_⟩
      · rw [hf1, if_pos (by omega)]
      · exact Nat.pow_lt_pow_right (by decide) hp
      · rw [if_neg hno, if_pos hp]
    · have hnp : ∀ i, i < P → C.2 39 i ≠ w := by
        intro i hi q
        have h1 := fst1_le (fun i => decide (C.2 39 i = w)) P
        have := fst1_no (E := fun i => decide (C.2 39 i = w)) (n := P) (i := i) (by omega)
        rw [decide_eq_false_iff_not] at this
        exact this q
      by_cases hr : fst1 (fun i => decide (C.2 40 i = w)) R < R
      · have y := fst1_yes hr
        rw [decide_eq_true_eq] at y
        have hf1 : fst1 (fun i => if i < 6 then decide (i < P ∧ C.2 39 i = w) else decide (i - 6 < R ∧ C.2 40 (i - 6) = w)) 12 = 6 + fst1 (fun i => decide (C.2 40 i = w)) R := by
          apply fst1_is (by omega)
          · rw [if_neg (by omega), decide_eq_true_eq, Nat.add_sub_cancel_left]; exact ⟨hr, y⟩
          · intro j hj
            by_cases hj6 : j < 6
            · rw [if_pos hj6, decide_eq_false_iff_not]
              rintro ⟨q1, q⟩
              exact hnp j q1 q
            · rw [if_neg hj6, decide_eq_false_iff_not]
              rintro ⟨-, q⟩
              have := fst1_no (E := fun i => decide (C.2 40 i = w)) (n := R) (i := j - 6) (by omega)
              rw [decide_eq_false_iff_not] at this
              exact this q
        obtain ⟨m, m1, m2, m3, m4⟩ := (r6 _ hr).2
        right
        refine ⟨18 + fst1 (fun i => decide (C.2 40 i = w)) R, m, ?_, by omega, m1, m2, m4, ?_⟩
        · rw [hf1, if_pos (by omega)]
          congr 2
          omega
        · rw [if_pos hr, m3]
      · have hnr : ∀ i, i < R → C.2 40 i ≠ w := by
          intro i hi q
          have h1 := fst1_le (fun i => decide (C.2 40 i = w)) R
          have := fst1_no (E := fun i => decide (C.2 40 i = w)) (n := R) (i := i) (by omega)
          rw [decide_eq_false_iff_not] at this
          exact this q
        left
        refine ⟨?_, ?_, hnp, hnr⟩
        · rw [if_neg]
          intro q
          have y := fst1_yes q
          generalize fst1 (fun i => if i < 6 then decide (i < P ∧ C.2 39 i = w) else decide (i - 6 < R ∧ C.2 40 (i - 6) = w)) 12 = j at y q
          by_cases hj6 : j < 6
          · rw [if_pos hj6, decide_eq_true_eq] at y
            exact hnp j y.1 y.2
          · rw [if_neg hj6, decide_eq_true_eq] at y
            exact hnr _ y.1 y.2
        · rw [if_neg hr, if_neg hp]
  · intro k
    unfold b_X11_nameRead_3
    rw [if_pos (by decide)]
  · intro k i hi
    unfold b_X11_nameRead_3
    simp only [q_jp]
    have h24 : ¬ (24 : Int32) ≤ nI (12 + i) := by
      have : ¬ nI 24 ≤ nI (12 + i) := by rw [q_le (by omega) (by omega)]; omega
      exact this
    have h18 : ((18 : Int32) ≤ nI (12 + i)) = (18 ≤ 12 + i) := q_le (a := 18) (by omega) (by omega)
    rw [if_neg h24]
    by_cases h6 : i < 6
    · rw [if_neg (show ¬ (18 : Int32) ≤ nI (12 + i) by rw [h18]; omega), hP2]
      have e1 : nI (12 + i) - 12 = nI i := by
        have : nI (12 + i) - nI 12 = nI (12 + i - 12) := q_sub (by omega)
        rw [Nat.add_sub_cancel_left] at this
        exact this
      rw [e1]
      simp only [if_pos h6, decide_eq_true_eq]
      by_cases h7 : i < P
      · rw [if_neg (by rw [q_le (by omega) (by omega)]; omega), nameRead_it hN hM hpe he h12 hl (by omega) (r5 i h7).1, hw]
        simp only [h7, true_and]
      · rw [if_pos (by rw [q_le (by omega) (by omega)]; omega), nameRead_no hN hpe he hn, if_neg (fun q => h7 q.1)]
    · rw [if_pos (show (18 : Int32) ≤ nI (12 + i) by rw [h18]; omega), hR2]
      have e1 : nI (12 + i) - 18 = nI (i - 6) := by
        have : nI (12 + i) - nI 18 = nI (12 + i - 18) := q_sub (by omega)
        rw [show 12 + i - 18 = i - 6 by omega] at this
        exact this
      rw [e1]
      simp only [if_neg h6, decide_eq_true_eq]
      by_cases h7 : i - 6 < R
      · have h8 := (r6 (i - 6) h7).1
        rw [show 18 + (i - 6) = 12 + i by omega] at h8
        rw [if_neg (by rw [q_le (by omega) (by omega)]; omega), nameRead_it hN hM hpe he h12 hl (by omega) h8, hw]
        simp only [h7, true_and]
      · rw [if_pos (by rw [q_le (by omega) (by omega)]; omega), nameRead_no hN hpe he hn, if_neg (fun q => h7 q.1)]
