/-! pure part: the reference takes the draft over -/
theorem ok_up {β : Type} {z : Int32 → St → Option β} {body : (Int32 → St → Option β) → Int32 → St → Option β} {Q : β → Prop} {n N : Nat} {S : St} (a : Nat) (I : Nat → St → Prop)
    (hend : ∀ K S, I n S → ok (body K (nI (a + n)) S) Q) (hs : ∀ K i S, i < n → I i S → (∀ S', I (i + 1) S' → ok (K (nI (a + i + 1)) S') Q) → ok (body K (nI (a + i)) S) Q) (hN : n < N) (h0 : I 0 S) : ok (lp z body N (nI a) S) Q := by
  have key : ∀ d N' i S, d < N' → i + d = n → I i S → ok (lp z body N' (nI (a + i)) S) Q := by
    intro d
    induction d with
    | zero =>
      intro N' i S hN' hi hI
      obtain ⟨N', rfl⟩ : ∃ j, N' = j + 1 := ⟨N' - 1, by omega⟩
      have : i = n := by omega
      subst this
      exact hend _ S hI
    | succ d ih =>
      intro N' i S hN' hi hI
      obtain ⟨N', rfl⟩ : ∃ j, N' = j + 1 := ⟨N' - 1, by omega⟩
      exact hs _ i S (by omega) hI (fun S' hS' => ih N' (i + 1) S' (by omega) (by omega) hS')
  exact key n N 0 S hN (by omega) h0
theorem ok_up0 {β : Type} {z : Int32 → St → Option β} {body : (Int32 → St → Option β) → Int32 → St → Option β} {Q : β → Prop} {n N : Nat} {S : St} (I : Nat → St → Prop)
    (hend : ∀ K S, I n S → ok (body K (nI n) S) Q) (hs : ∀ K i S, i < n → I i S → (∀ S', I (i + 1) S' → ok (K (nI (i + 1)) S') Q) → ok (body K (nI i) S) Q) (hN : n < N) (h0 : I 0 S) : ok (lp z body N 0 S) Q := by
  have := ok_up (z := z) (body := body) (Q := Q) (n := n) (N := N) (S := S) 0 I (by simpa using hend) (by simpa using hs) hN h0
  exact this
def memM (M : St) (k : Nat) : Nat := (M.1 4 k).toNatClampNeg
/-- the reference joins the members -/
theorem group26_e {N P R n : Nat} {M : St} {mem : Nat → Nat} {k72 : Int32 → Option St} (hN : 6000 ≤ N) (hP : M.1 0 3 = nI P) (hR : M.1 0 4 = nI R) (hP6 : P ≤ 6) (hR5 : R ≤ 5) (hm : ∀ i, i < P + R → M.1 4 i = nI (mem i)) :
    lp (fun _ _ => none) (b_X11_group_26 (nI n) M k72) N 0 0 = k72 (nI (Jn mem (P + R) n)) := by
  have key : ∀ d N' k, d < N' → k + d = P + R → lp (fun _ _ => none) (b_X11_group_26 (nI n) M k72) N' (nI (orJ mem n k)) (nI k) = k72 (nI (Jn mem (P + R) n)) := by
    intro d
    induction d with
    | zero =>
      intro N' k hN' hk
      obtain ⟨N', rfl⟩ : ∃ j, N' = j + 1 := ⟨N' - 1, by omega⟩
      have : k = P + R := by omega
      subst this
      rw [q_lp]
      unfold b_X11_group_26
      rw [hP, hR, q_add, if_pos (by rw [q_le (by omega) (by omega)]; omega)]
      rfl
    | succ d ih =>
      intro N' k hN' hk
      obtain ⟨N', rfl⟩ : ∃ j, N' = j + 1 := ⟨N' - 1, by omega⟩
      have ih' := ih N' (k + 1) (by omega) (by omega)
      rw [q_lp]
      generalize lp (fun _ _ => none) (b_X11_group_26 (nI n) M k72) N' = K at ih' ⊢
      unfold b_X11_group_26 j_X11_group_63
      rw [orJ] at ih'
      rw [hP, hR, q_add, if_neg (by rw [q_le (by omega) (by omega)]; omega), q_jp, q_bitN (by omega), q_ck (by omega) (by omega), q_tn (by omega), hm k (by omega)]
      simp only [q_nm]
      rw [← nI_succ, q_or]
      by_cases h : n.testBit k = true
      · rw [if_pos h] at ih'
        rw [if_pos h, if_pos rfl]
        exact ih'
      · rw [if_neg h] at ih'
        rw [if_neg h, if_neg (by decide)]
        have e0 : nI (orJ mem n k) ||| 0 = nI (orJ mem n k ||| 0) := q_or _ 0
        rw [e0]
        exact ih'
  exact key (P + R) N 0 (by omega) (by omega)
def PG (s r k : Nat) : Prop := (r = 12 ∨ r = 13) ∧ k = s
theorem group_e {N P R s : Nat} {M : St} {mem : Nat → Nat} (hN : 6000 ≤ N) (hP : M.1 0 3 = nI P) (hR : M.1 0 4 = nI R) (hm : ∀ i, i < P + R → M.1 4 i = nI (mem i)) (hk : memOK P R mem) (h0 : 0 < s) (hs : s < 2 ^ P) :
    ok (f_X11_group N (nI s) M) fun M' => fr (PG s) M M' ∧ M'.1 12 s = nI (Gn mem (P + R) s) ∧ M'.1 13 s = nI (Go mem (P + R) s) := by
  have hp11 := pow_le (a := P + R) (b := 11) (by have := hk.1; have := hk.2.1; omega)
  have hp6 := pow_le (a := P) (b := 6) hk.1
  have hpos : 0 < 2 ^ (P + R) := Nat.two_pow_pos _
  have hJ := Jn_lt hk
  have hg0 := (Gn_ok hk h0 hs).1
  unfold f_X11_group
  rw [q_jp]
  have key : ∀ d N' k (S : St), d < N' → k + d = 2 ^ (P + R) - 1 → fr (PG s) M S → (0 < (gX (Jn mem (P + R)) s 99 k).1 → S.1 12 s = nI (gX (Jn mem (P + R)) s 99 k).1 ∧ S.1 13 s = nI (andn (Jn mem (P + R) (gX (Jn mem (P + R)) s 99 k).1) s)) →
      ok (lp (fun _ _ _ => none) (b_X11_group_5 N (nI s)) N' (nI (gX (Jn mem (P + R)) s 99 k).2) (nI (k + 1)) S) fun M' => fr (PG s) M M' ∧ M'.1 12 s = nI (Gn mem (P + R) s) ∧ M'.1 13 s = nI (Go mem (P + R) s) := by
    intro d
    induction d with
    | zero =>
      intro N' k S hN' hk' hf hv
      obtain ⟨N', rfl⟩ : ∃ j, N' = j + 1 := ⟨N' - 1, by omega⟩
      have : k = 2 ^ (P + R) - 1 := by omega
      subst this
      rw [q_lp]
      unfold b_X11_group_5
      rw [hf.2 0 3 (by unfold PG; omega), hf.2 0 4 (by unfold PG; omega), hP, hR, q_add, q_shl (P + R) (by have := hk.1; have := hk.2.1; omega), if_pos (by rw [q_le (by omega) (by omega)]; omega)]
      obtain ⟨a1, a2⟩ := hv hg0
      exact ok_s ⟨hf, a1, a2⟩
    | succ d ih =>
      intro N' k S hN' hk' hf hv
      obtain ⟨N', rfl⟩ : ∃ j, N' = j + 1 := ⟨N' - 1, by omega⟩
      have ih' := fun S' => ih N' (k + 1) S' (by omega) (by omega)
      rw [q_lp]
      generalize lp (fun _ _ _ => none) (b_X11_group_5 N (nI s)) N' = K at ih' ⊢
      unfold b_X11_group_5
      have sP : S.1 0 3 = nI P := by rw [hf.2 0 3 (by unfold PG; omega)]; exact hP
      have sR : S.1 0 4 = nI R := by rw [hf.2 0 4 (by unfold PG; omega)]; exact hR
      have sm : ∀ i, i < P + R → S.1 4 i = nI (mem i) := fun i hi => by rw [hf.2 4 i (by unfold PG; omega)]; exact hm i hi
      rw [sP, sR, q_add, q_shl (P + R) (by have := hk.1; have := hk.2.1; omega), if_neg (by rw [q_le (by omega) (by omega)]; omega), q_jp, q_jp, group26_e hN sP sR hk.1 hk.2.1 sm]
      unfold j_X11_group_72 j_X11_group_131
      have hj := hJ (k + 1)
      have hj2 := Nat.lt_of_le_of_lt (andn_le (Jn mem (P + R) (k + 1)) s) hj
      have hj3 := andn_le s (Jn mem (P + R) (k + 1))
      have h1 := pc_le (x := k + 1) 11 (by omega) (by omega)
      have h2 := pc_le (x := andn (Jn mem (P + R) (k + 1)) s) 6 (by omega) hj2
      have hl99 : ∀ k, (gX (Jn mem (P + R)) s 99 k).2 ≤ 99 := by
        intro k
        induction k with
        | zero => exact Nat.le_refl _
        | succ k ih =>
          unfold gX
          split
          · next c => have := c.2; show pc (k + 1) + pc (andn (Jn mem (P + R) (k + 1)) s) ≤ 99; omega
          · exact ih
      have hl99 := hl99 k
      have hz : (nI (andn s (Jn mem (P + R) (k + 1))) = 0) = (andn s (Jn mem (P + R) (k + 1)) = 0) := q_eq (b := 0) (by omega) (by omega)
      rw [gX] at ih'
      simp only [q_jp, q_nm]
      rw [q_andn, q_andn, mbits_e hN, mbits_e hN, q_bd, q_bd, q_add, ← nI_succ (k + 1), q_ck (by omega) (by omega), q_ck (by omega) (by omega), q_tn (by omega)]
      by_cases c1 : andn s (Jn mem (P + R) (k + 1)) = 0
      · rw [if_pos (hz ▸ c1)]
        by_cases c2 : pc (k + 1) + pc (andn (Jn mem (P + R) (k + 1)) s) < (gX (Jn mem (P + R)) s 99 k).2
        · rw [if_pos (by rw [q_lt (by omega) (by omega)]; exact c2)]
          rw [if_pos ⟨c1, c2⟩] at ih'
          refine ih' _ ((hf.pu (by unfold PG; omega)).pu (by unfold PG; omega)) (fun _ => ⟨?_, ?_⟩)
          · rw [q_gR _ _ _ _ _ _ (by omega), q_gS]
          · rw [q_gS]
        · rw [if_neg (by rw [q_lt (by omega) (by omega)]; exact c2)]
          rw [if_neg (fun w => c2 w.2)] at ih'
          exact ih' S hf hv
      · rw [if_neg (fun w => c1 (hz ▸ w))]
        rw [if_neg (fun w => c1 w.1)] at ih'
        exact ih' S hf hv
  exact key (2 ^ (P + R) - 1) N 0 M (by omega) (by omega) fr.rf (fun h => absurd h (Nat.lt_irrefl 0))
def fromK (P k : Nat) : Nat := if k < P then 12 + k else 18 + (k - P)
def PZ (r k : Nat) : Prop := (r = 0 ∧ (k = 3 ∨ k = 4 ∨ k = 8 ∨ 37 ≤ k ∧ k ≤ 39)) ∨ (r = 2 ∧ k < 144) ∨ ((r = 3 ∨ r = 4) ∧ k < 12) ∨ ((5 ≤ r ∧ r ≤ 9 ∨ r = 11) ∧ k < 24) ∨ (r = 10 ∧ k < 288) ∨ (12 ≤ r ∧ r ≤ 14)
def RZ (P R B : Nat) (mem : Nat → Nat) (M : St) (x : Int32 × St) : Prop := x.1 = nI B ∧ fr PZ M x.2 ∧ x.2.1 0 3 = nI P ∧ x.2.1 0 4 = nI R ∧ x.2.1 0 8 = nI B ∧ x.2.1 0 37 = 0 ∧ x.2.1 0 38 = 0 ∧ x.2.1 0 39 = 0 ∧
  (∀ k, k < P + R → x.2.1 3 k = M.1 3 (fromK P k) ∧ x.2.1 4 k = M.1 4 (fromK P k) ∧ ∀ i, i < 12 → x.2.1 2 (12 * k + i) = M.1 2 (12 * fromK P k + i)) ∧
  (∀ j, j < B → (∀ q, (5 ≤ q ∧ q ≤ 9 ∨ q = 11) → x.2.1 q j = M.1 q (24 + j)) ∧ ∀ i, i < 12 → x.2.1 10 (12 * j + i) = M.1 10 (12 * (24 + j) + i)) ∧
  (∀ s, 0 < s → s < 2 ^ P → x.2.1 12 s = nI (Gn mem (P + R) s) ∧ x.2.1 13 s = nI (Go mem (P + R) s)) ∧ ∀ k, k < 864 → x.2.1 14 k = -100
section RZs
variable {N P R B : Nat} {M S : St} {mem : Nat → Nat}
/-- what the table's clearing leaves to be done -/
theorem rules383 (hN : 6000 ≤ N) (h : ∀ S', fr (fun r _ => r = 14) S S' → (∀ k, k < 864 → S'.1 14 k = -100) → ok (j_X11_rules_406 S') (RZ P R B mem M)) : ok (j_X11_rules_383 N S) (RZ P R B mem M) := by
  unfold j_X11_rules_383
  rw [q_jp, q_jp]
  refine ok_up0 (n := 864) (fun i S' => fr (fun r _ => r = 14) S S' ∧ ∀ k, k < i → S'.1 14 k = -100) ?_ ?_ (by omega) ⟨fr.rf, fun k hk => by omega⟩
  · rintro K S' ⟨g1, g2⟩
    unfold b_X11_rules_385
    rw [if_pos (by decide)]
    exact h S' g1 g2
  · rintro K i S' hi ⟨g1, g2⟩ hK
    unfold b_X11_rules_385
    rw [if_neg (show ¬ (864 : Int32) ≤ nI i from nI_ge (b := 864) hi (by omega)), q_ck (by omega) (by omega), q_tn (by omega), q_nm, q_nm, ← nI_succ]
    refine hK _ ⟨g1.pu rfl, ?_⟩
    intro k hk
    rw [q_g]
    by_cases e : k = i
    · rw [if_pos ⟨rfl, e⟩]
    · rw [if_neg (fun w => e w.2)]
      exact g2 k (by omega)
theorem rules360 (hN : 6000 ≤ N) (hP : S.1 0 3 = nI P) (hR : S.1 0 4 = nI R) (hm : ∀ i, i < P + R → S.1 4 i = nI (mem i)) (hk : memOK P R mem)
    (h : ∀ S', fr (fun r _ => r = 12 ∨ r = 13) S S' → (∀ s, 0 < s → s < 2 ^ P → S'.1 12 s = nI (Gn mem (P + R) s) ∧ S'.1 13 s = nI (Go mem (P + R) s)) → ok (j_X11_rules_383 N S') (RZ P R B mem M)) : ok (j_X11_rules_360 N S) (RZ P R B mem M) := by
  have hp6 := pow_le (a := P) (b := 6) hk.1
  have hpos : 0 < 2 ^ P := Nat.two_pow_pos _
  unfold j_X11_rules_360
  rw [q_jp, q_jp]
  refine ok_up (n := 2 ^ P - 1) 1 (fun i S' => fr (fun r _ => r = 12 ∨ r = 13) S S' ∧ ∀ s, 0 < s → s < 1 + i → S'.1 12 s = nI (Gn mem (P + R) s) ∧ S'.1 13 s = nI (Go mem (P + R) s)) ?_ ?_ (by omega) ⟨fr.rf, fun s h1 h2 => by omega⟩
  · rintro K S' ⟨g1, g2⟩
    unfold b_X11_rules_362
    rw [g1.2 0 3 (by omega), hP, q_shl P (by have := hk.1; omega), if_pos (by rw [q_le (by omega) (by omega)]; omega)]
    exact h S' g1 (fun s h1 h2 => g2 s h1 (by omega))
  · rintro K i S' hi ⟨g1, g2⟩ hK
    unfold b_X11_rules_362
    rw [g1.2 0 3 (by omega), hP, q_shl P (by have := hk.1; omega), if_neg (by rw [q_le (by omega) (by omega)]; omega)]
    refine ok_bd (group_e (R := R) (mem := mem) hN (by rw [g1.2 0 3 (by omega)]; exact hP) (by rw [g1.2 0 4 (by omega)]; exact hR) (fun i hi => by rw [g1.2 4 i (by omega)]; exact hm i hi) hk (by omega) (by omega)) ?_
    rintro S'' ⟨f1, f2, f3⟩
    rw [q_nm, ← nI_succ]
    refine hK _ ⟨g1.tr (f1.mo (fun r k w => by unfold PG at w; omega)), ?_⟩
    intro s h1 h2
    by_cases e : s = 1 + i
    · subst e
      exact ⟨f2, f3⟩
    · rw [f1.2 12 s (by unfold PG; omega), f1.2 13 s (by unfold PG; omega)]
      exact g2 s h1 (by omega)
def cp1 (q i : Nat) (S : St) : St := puI S q i (S.1 q (24 + i))
def cpz (q i : Nat) (S : St) : St := puI S q i (vp_nar .boolean (S.1 q (24 + i)))
def PB (r k : Nat) : Prop := ((5 ≤ r ∧ r ≤ 9 ∨ r = 11) ∧ k < 24) ∨ (r = 10 ∧ k < 288)
theorem rules214 (hN : 6000 ≤ N) (hB : S.1 0 8 = nI B) (hB24 : B ≤ 24) (hz : ∀ i, i < B → S.1 9 (24 + i) = 0 ∨ S.1 9 (24 + i) = 1)
    (h : ∀ S', fr PB S S' → (∀ j, j < B → (∀ q, (5 ≤ q ∧ q ≤ 9 ∨ q = 11) → S'.1 q j = S.1 q (24 + j)) ∧ ∀ i, i < 12 → S'.1 10 (12 * j + i) = S.1 10 (12 * (24 + j) + i)) → ok (j_X11_rules_360 N S') (RZ P R B mem M)) : ok (j_X11_rules_214 N S) (RZ P R B mem M) := by
  unfold j_X11_rules_214
  rw [q_jp, q_jp]
  refine ok_up0 (n := B) (fun i S' => fr PB S S' ∧ ∀ j, j < i → (∀ q, (5 ≤ q ∧ q ≤ 9 ∨ q = 11) → S'.1 q j = S.1 q (24 + j)) ∧ ∀ i, i < 12 → S'.1 10 (12 * j + i) = S.1 10 (12 * (24 + j) + i)) ?_ ?_ (by omega) ⟨fr.rf, fun j hj => by omega⟩
  · rintro K S' ⟨g1, g2⟩
    unfold b_X11_rules_216
    rw [g1.2 0 8 (by unfold PB; omega), hB, if_pos (by rw [q_le (by omega) (by omega)]; omega)]
    exact h S' g1 g2
  · rintro K i S' hi ⟨g1, g2⟩ hK
    unfold b_X11_rules_216
    have e24 : (24 : Int32) + nI i = nI (24 + i) := q_add 24 i
    rw [g1.2 0 8 (by unfold PB; omega), hB, if_neg (by rw [q_le (by omega) (by omega)]; omega), e24]
    simp only [q_nm]
    rw [q_ck (by omega) (by omega), q_ck (by omega) (by omega), q_ck (by omega) (by omega), q_ck (by omega) (by omega), q_ck (by omega) (by omega), q_ck (by omega) (by omega), q_ck (by omega) (by omega), q_ck (by omega) (by omega), q_ck (by omega) (by omega), q_ck (by omega) (by omega), q_ck (by omega) (by omega), q_ck (by omega) (by omega), q_tn (by omega), q_tn (by omega), q_jp, q_jp]
    have hsrc : ∀ q, S'.1 q (24 + i) = S.1 q (24 + i) ∨ q = 10 := by
      intro q
      by_cases e : q = 10
      · exact Or.inr e
      · exact Or.inl (g1.2 q _ (by unfold PB; omega))
    show ok (lp (fun _ _ => none) (b_X11_rules_316 (nI i) (j_X11_rules_354 (nI i) K)) N 0 (cp1 11 i (cpz 9 i (cp1 8 i (cp1 7 i (cp1 6 i (cp1 5 i S'))))))) _
    generalize hT : cp1 11 i (cpz 9 i (cp1 8 i (cp1 7 i (cp1 6 i (cp1 5 i S'))))) = T
    unfold cp1 cpz at hT
    have tT : ∀ r k, ¬ ((5 ≤ r ∧ r ≤ 9 ∨ r = 11) ∧ k = i) → T.1 r k = S'.1 r k := by
      intro r k a
      rw [← hT, q_g, if_neg (by omega), q_g, if_neg (by omega), q_g, if_neg (by omega), q_g, if_neg (by omega), q_g, if_neg (by omega), q_g, if_neg (by omega)]
    have t2 : T.2 = S'.2 := by rw [← hT]; rfl
    have tv : ∀ q, (5 ≤ q ∧ q ≤ 9 ∨ q = 11) → T.1 q i = S.1 q (24 + i) := by
      intro q hq
      have s5 : S'.1 5 (24 + i) = S.1 5 (24 + i) := g1.2 _ _ (by unfold PB; omega)
      have s6 : S'.1 6 (24 + i) = S.1 6 (24 + i) := g1.2 _ _ (by unfold PB; omega)
      have s7 : S'.1 7 (24 + i) = S.1 7 (24 + i) := g1.2 _ _ (by unfold PB; omega)
      have s8 : S'.1 8 (24 + i) = S.1 8 (24 + i) := g1.2 _ _ (by unfold PB; omega)
      have s9 : S'.1 9 (24 + i) = S.1 9 (24 + i) := g1.2 _ _ (by unfold PB; omega)
      have s11 : S'.1 11 (24 + i) = S.1 11 (24 + i) := g1.2 _ _ (by unfold PB; omega)
      have hq' : q = 5 ∨ q = 6 ∨ q = 7 ∨ q = 8 ∨ q = 9 ∨ q = 11 := by omega
      rw [← hT]
      rcases hq' with rfl | rfl | rfl | rfl | rfl | rfl
      · simp (disch := omega) only [q_nm, q_jp, q_bd, q_bd2, q_zb0, q_zb1, q_zbn0, q_zbn1, q_z10, q_z11, q_z1n0, q_z1n1, q_lit, q_add, q_mul, q_lt, q_le, q_eq, q_tn, q_ck, q_nm1, q_n1e, q_gS, q_gR, q_gK, q_g2, if_true, if_false, s5]
      · simp (disch := omega) only [q_nm, q_jp, q_bd, q_bd2, q_zb0, q_zb1, q_zbn0, q_zbn1, q_z10, q_z11, q_z1n0, q_z1n1, q_lit, q_add, q_mul, q_lt, q_le, q_eq, q_tn, q_ck, q_nm1, q_n1e, q_gS, q_gR, q_gK, q_g2, if_true, if_false, s6]
      · simp (disch := omega) only [q_nm, q_jp, q_bd, q_bd2, q_zb0, q_zb1, q_zbn0, q_zbn1, q_z10, q_z11, q_z1n0, q_z1n1, q_lit, q_add, q_mul, q_lt, q_le, q_eq, q_tn, q_ck, q_nm1, q_n1e, q_gS, q_gR, q_gK, q_g2, if_true, if_false, s7]
      · simp (disch := omega) only [q_nm, q_jp, q_bd, q_bd2, q_zb0, q_zb1, q_zbn0, q_zbn1, q_z10, q_z11, q_z1n0, q_z1n1, q_lit, q_add, q_mul, q_lt, q_le, q_eq, q_tn, q_ck, q_nm1, q_n1e, q_gS, q_gR, q_gK, q_g2, if_true, if_false, s8]
      · simp (disch := omega) only [q_nm, q_jp, q_bd, q_bd2, q_zb0, q_zb1, q_zbn0, q_zbn1, q_z10, q_z11, q_z1n0, q_z1n1, q_lit, q_add, q_mul, q_lt, q_le, q_eq, q_tn, q_ck, q_nm1, q_n1e, q_gS, q_gR, q_gK, q_g2, if_true, if_false, s9]
        exact q_bool (hz i hi)
      · simp (disch := omega) only [q_nm, q_jp, q_bd, q_bd2, q_zb0, q_zb1, q_zbn0, q_zbn1, q_z10, q_z11, q_z1n0, q_z1n1, q_lit, q_add, q_mul, q_lt, q_le, q_eq, q_tn, q_ck, q_nm1, q_n1e, q_gS, q_gR, q_gK, q_g2, if_true, if_false, s11]
    have gT : fr PB S T := ⟨t2.trans g1.1, fun r k a => by rw [tT r k (by unfold PB at a; omega)]; exact g1.2 r k a⟩
    refine ok_up0 (n := 12) (fun m S'' => fr PB S S'' ∧ (∀ r k, ¬ (r = 10 ∧ 12 * i ≤ k ∧ k < 12 * i + 12) → S''.1 r k = T.1 r k) ∧ ∀ j, j < m → S''.1 10 (12 * i + j) = S.1 10 (12 * (24 + i) + j)) ?_ ?_ (by omega) ⟨gT, fun _ _ _ => rfl, fun j hj => by omega⟩
    · rintro K2 S'' ⟨b1, b2, b3⟩
      unfold b_X11_rules_316 j_X11_rules_354
      rw [if_pos (by decide), q_nm, ← nI_succ]
      refine hK _ ⟨b1, ?_⟩
      intro j hj
      by_cases e : j = i
      · subst e
        exact ⟨fun q hq => by rw [b2 q j (by omega)]; exact tv q hq, b3⟩
      · obtain ⟨c1, c2⟩ := g2 j (by omega)
        refine ⟨fun q hq => ?_, fun m hm => ?_⟩
        · rw [b2 q j (by omega), tT q j (by omega)]; exact c1 q hq
        · rw [b2 _ _ (by omega), tT _ _ (by omega)]; exact c2 m hm
    · rintro K2 m S'' hm ⟨b1, b2, b3⟩ hK2
      unfold b_X11_rules_316
      have e1 : (288 : Int32) + 12 * nI i + nI m = nI (12 * (24 + i) + m) := by
        have : nI 288 + nI 12 * nI i + nI m = nI (12 * (24 + i) + m) := by
          rw [q_mul, q_add, q_add]
          congr 1
          omega
        exact this
      have e2 : (12 : Int32) * nI i + nI m = nI (12 * i + m) := by
        have : nI 12 * nI i + nI m = nI (12 * i + m) := by rw [q_mul, q_add]
        exact this
      rw [if_neg (show ¬ (12 : Int32) ≤ nI m from nI_ge (b := 12) hm (by omega)), e1, e2, q_ck (by omega) (by omega), q_ck (by omega) (by omega), q_tn (by omega), q_tn (by omega), q_nm, q_nm, ← nI_succ]
      refine hK2 _ ⟨b1.pu (by unfold PB; omega), ?_, ?_⟩
      · intro r k a
        rw [q_g, if_neg (by omega)]
        exact b2 r k a
      · intro j hj
        rw [q_g]
        by_cases e : j = m
        · subst e
          rw [if_pos ⟨rfl, rfl⟩, b1.2 _ _ (by unfold PB; omega)]
        · rw [if_neg (by omega)]
          exact b3 j (by omega)
def PN (r k : Nat) : Prop := (r = 2 ∧ k < 144) ∨ ((r = 3 ∨ r = 4) ∧ k < 12)
theorem rules106 (hN : 6000 ≤ N) (hP : S.1 0 3 = nI P) (hR : S.1 0 4 = nI R) (hP6 : P ≤ 6) (hR5 : R ≤ 5)
    (h : ∀ S', fr PN S S' → (∀ k, k < P + R → S'.1 3 k = S.1 3 (fromK P k) ∧ S'.1 4 k = S.1 4 (fromK P k) ∧ ∀ i, i < 12 → S'.1 2 (12 * k + i) = S.1 2 (12 * fromK P k + i)) → ok (j_X11_rules_214 N S') (RZ P R B mem M)) : ok (lp (fun _ _ => none) (b_X11_rules_106 N (j_X11_rules_214 N)) N 0 S) (RZ P R B mem M) := by
  refine ok_up0 (n := P + R) (fun i S' => fr PN S S' ∧ ∀ k, k < i → S'.1 3 k = S.1 3 (fromK P k) ∧ S'.1 4 k = S.1 4 (fromK P k) ∧ ∀ i, i < 12 → S'.1 2 (12 * k + i) = S.1 2 (12 * fromK P k + i)) ?_ ?_ (by omega) ⟨fr.rf, fun j hj => by omega⟩
  · rintro K S' ⟨g1, g2⟩
    unfold b_X11_rules_106
    rw [g1.2 0 3 (by unfold PN; omega), g1.2 0 4 (by unfold PN; omega), hP, hR, q_add, if_pos (by rw [q_le (by omega) (by omega)]; omega)]
    exact h S' g1 g2
  · rintro K i S' hi ⟨g1, g2⟩ hK
    have hfk : 12 ≤ fromK P i ∧ fromK P i < 24 := by unfold fromK; split <;> omega
    have hgo : ok (j_X11_rules_143 N (nI i) S' K (nI (fromK P i))) (RZ P R B mem M) := by
      unfold j_X11_rules_143
      simp only [q_nm]
      rw [q_ck (by omega) (by omega), q_ck (by omega) (by omega), q_ck (by omega) (by omega), q_ck (by omega) (by omega), q_tn (by omega), q_tn (by omega), q_jp, q_jp]
      generalize hT : puI (puI S' 3 i (S'.1 3 (fromK P i))) 4 i ((puI S' 3 i (S'.1 3 (fromK P i))).1 4 (fromK P i)) = T
      have tT : ∀ r k, ¬ ((r = 3 ∨ r = 4) ∧ k = i) → T.1 r k = S'.1 r k := by
        intro r k a
        rw [← hT, q_g, if_neg (by omega), q_g, if_neg (by omega)]
      have t2 : T.2 = S'.2 := by rw [← hT]; rfl
      have t3 : T.1 3 i = S.1 3 (fromK P i) := by rw [← hT, q_gR _ _ _ _ _ _ (by omega), q_gS]; exact g1.2 _ _ (by unfold PN; omega)
      have t4 : T.1 4 i = S.1 4 (fromK P i) := by rw [← hT, q_gS, q_gR _ _ _ _ _ _ (by omega)]; exact g1.2 _ _ (by unfold PN; omega)
      have gT : fr PN S T := ⟨t2.trans g1.1, fun r k a => by rw [tT r k (by unfold PN at a; omega)]; exact g1.2 r k a⟩
      refine ok_up0 (n := 12) (fun m S'' => fr PN S S'' ∧ (∀ r k, ¬ (r = 2 ∧ 12 * i ≤ k ∧ k < 12 * i + 12) → S''.1 r k = T.1 r k) ∧ ∀ j, j < m → S''.1 2 (12 * i + j) = S.1 2 (12 * fromK P i + j)) ?_ ?_ (by omega) ⟨gT, fun _ _ _ => rfl, fun j hj => by omega⟩
      · rintro K2 S'' ⟨b1, b2, b3⟩
        unfold b_X11_rules_171 j_X11_rules_208
        rw [if_pos (by decide), q_nm, ← nI_succ]
        refine hK _ ⟨b1, ?_⟩
        intro j hj
        by_cases e : j = i
        · subst e
          exact ⟨by rw [b2 3 j (by omega)]; exact t3, by rw [b2 4 j (by omega)]; exact t4, b3⟩
        · obtain ⟨c1, c2, c3⟩ := g2 j (by omega)
          refine ⟨?_, ?_, fun m hm => ?_⟩
          · rw [b2 3 j (by omega), tT 3 j (by omega)]; exact c1
          · rw [b2 4 j (by omega), tT 4 j (by omega)]; exact c2
          · rw [b2 _ _ (by omega), tT _ _ (by omega)]; exact c3 m hm
      · rintro K2 m S'' hm ⟨b1, b2, b3⟩ hK2
        unfold b_X11_rules_171
        have e1 : (12 : Int32) * nI (fromK P i) + nI m = nI (12 * fromK P i + m) := by
          have : nI 12 * nI (fromK P i) + nI m = nI (12 * fromK P i + m) := by rw [q_mul, q_add]
          exact this
        have e2 : (12 : Int32) * nI i + nI m = nI (12 * i + m) := by
          have : nI 12 * nI i + nI m = nI (12 * i + m) := by rw [q_mul, q_add]
          exact this
        rw [if_neg (show ¬ (12 : Int32) ≤ nI m from nI_ge (b := 12) hm (by omega)), e1, e2, q_ck (by omega) (by omega), q_ck (by omega) (by omega), q_tn (by omega), q_tn (by omega), q_nm, q_nm, ← nI_succ]
        refine hK2 _ ⟨b1.pu (by unfold PN; omega), ?_, ?_⟩
        · intro r k a
          rw [q_g, if_neg (by omega)]
          exact b2 r k a
        · intro j hj
          rw [q_g]
          by_cases e : j = m
          · subst e
            rw [if_pos ⟨rfl, rfl⟩, b1.2 _ _ (by unfold PN; omega)]
          · rw [if_neg (by omega)]
            exact b3 j (by omega)
    unfold b_X11_rules_106
    rw [g1.2 0 3 (by unfold PN; omega), g1.2 0 4 (by unfold PN; omega), hP, hR, q_add, if_neg (by rw [q_le (by omega) (by omega)]; omega), q_jp]
    by_cases c : i < P
    · rw [if_neg (by rw [q_le (by omega) (by omega)]; omega)]
      have e1 : (12 : Int32) + nI i = nI (fromK P i) := by
        have : nI 12 + nI i = nI (fromK P i) := by unfold fromK; rw [q_add, if_pos c]
        exact this
      rw [e1]
      exact hgo
    · rw [if_pos (by rw [q_le (by omega) (by omega)]; omega)]
      have e1 : (18 : Int32) + nI i - nI P = nI (fromK P i) := by
        have : nI 18 + nI i - nI P = nI (fromK P i) := by
          unfold fromK
          rw [q_add, q_sub (by omega), if_neg c]
          congr 1
          omega
        exact this
      rw [e1]
      exact hgo
theorem rules80 (hN : 6000 ≤ N) (hP : M.1 0 29 = nI P) (hR : M.1 0 30 = nI R) (hB : M.1 0 31 = nI B) (hk : memOK P R mem) (hm : ∀ i, i < P + R → M.1 4 (fromK P i) = nI (mem i)) (hB24 : B ≤ 24) (hz : ∀ i, i < B → M.1 9 (24 + i) = 0 ∨ M.1 9 (24 + i) = 1) :
    ok (j_X11_rules_80 N M) (RZ P R B mem M) := by
  unfold j_X11_rules_80
  simp only [q_nm]
  rw [q_jp, q_jp]
  generalize hS : puI (puI (puI M 0 3 (M.1 0 29)) 0 4 ((puI M 0 3 (M.1 0 29)).1 0 30)) 0 8 ((puI (puI M 0 3 (M.1 0 29)) 0 4 ((puI M 0 3 (M.1 0 29)).1 0 30)).1 0 31) = S
  have sS : ∀ r k, ¬ (r = 0 ∧ (k = 3 ∨ k = 4 ∨ k = 8)) → S.1 r k = M.1 r k := by
    intro r k a
    rw [← hS, q_g, if_neg (by omega), q_g, if_neg (by omega), q_g, if_neg (by omega)]
  have s2 : S.2 = M.2 := by rw [← hS]; rfl
  have s3 : S.1 0 3 = nI P := by rw [← hS]; simp (disch := omega) only [q_nm, q_jp, q_bd, q_bd2, q_zb0, q_zb1, q_zbn0, q_zbn1, q_z10, q_z11, q_z1n0, q_z1n1, q_lit, q_add, q_mul, q_lt, q_le, q_eq, q_tn, q_ck, q_nm1, q_n1e, q_gS, q_gR, q_gK, q_g2, if_true, if_false, hP]
  have s4 : S.1 0 4 = nI R := by rw [← hS]; simp (disch := omega) only [q_nm, q_jp, q_bd, q_bd2, q_zb0, q_zb1, q_zbn0, q_zbn1, q_z10, q_z11, q_z1n0, q_z1n1, q_lit, q_add, q_mul, q_lt, q_le, q_eq, q_tn, q_ck, q_nm1, q_n1e, q_gS, q_gR, q_gK, q_g2, if_true, if_false, hR]
  have s8 : S.1 0 8 = nI B := by rw [← hS]; simp (disch := omega) only [q_nm, q_jp, q_bd, q_bd2, q_zb0, q_zb1, q_zbn0, q_zbn1, q_z10, q_z11, q_z1n0, q_z1n1, q_lit, q_add, q_mul, q_lt, q_le, q_eq, q_tn, q_ck, q_nm1, q_n1e, q_gS, q_gR, q_gK, q_g2, if_true, if_false, hB]
  refine rules106 hN s3 s4 hk.1 hk.2.1 ?_
  intro S1 f1 g1
  refine rules214 hN (by rw [f1.2 _ _ (by unfold PN; omega)]; exact s8) hB24 (fun i hi => by rw [f1.2 _ _ (by unfold PN; omega), sS _ _ (by omega)]; exact hz i hi) ?_
  intro S2 f2 g2
  refine rules360 (mem := mem) hN (by rw [f2.2 _ _ (by unfold PB; omega), f1.2 _ _ (by unfold PN; omega)]; exact s3) (by rw [f2.2 _ _ (by unfold PB; omega), f1.2 _ _ (by unfold PN; omega)]; exact s4) ?_ hk ?_
  · intro i hi
    rw [f2.2 _ _ (by unfold PB; omega), (g1 i hi).2.1, sS _ _ (by omega)]
    exact hm i hi
  · intro S3 f3 g3
    refine rules383 hN ?_
    intro S4 f4 g4
    unfold j_X11_rules_406
    simp only [q_nm]
    apply ok_s
    have h8 : ∀ v w x, (puI (puI (puI S4 0 38 v) 0 37 w) 0 39 x).1 0 8 = nI B := by
      intro v w x
      rw [q_gK _ _ _ _ _ _ (by omega), q_gK _ _ _ _ _ _ (by omega), q_gK _ _ _ _ _ _ (by omega), f4.2 _ _ (by omega), f3.2 _ _ (by omega), f2.2 _ _ (by unfold PB; omega), f1.2 _ _ (by unfold PN; omega)]
      exact s8
    have hg : ∀ r k, r ≠ 0 → (puI (puI (puI S4 0 38 0) 0 37 0) 0 39 0).1 r k = S4.1 r k := by
      intro r k hr
      rw [q_gR _ _ _ _ _ _ hr, q_gR _ _ _ _ _ _ hr, q_gR _ _ _ _ _ _ hr]
    have hf : fr PZ M (puI (puI (puI S4 0 38 0) 0 37 0) 0 39 0) := by
      refine fr.pu (fr.pu (fr.pu ?_ (by unfold PZ; omega)) (by unfold PZ; omega)) (by unfold PZ; omega)
      refine ⟨(((f4.1.trans f3.1).trans f2.1).trans f1.1).trans s2, ?_⟩
      intro r k a
      unfold PZ at a
      rw [f4.2 _ _ (by omega), f3.2 _ _ (by omega), f2.2 _ _ (by unfold PB; omega), f1.2 _ _ (by unfold PN; omega), sS _ _ (by omega)]
    refine ⟨h8 0 0 0, hf, ?_, ?_, h8 0 0 0, ?_, ?_, ?_, ?_, ?_, ?_, ?_⟩
    · rw [q_gK _ _ _ _ _ _ (by omega), q_gK _ _ _ _ _ _ (by omega), q_gK _ _ _ _ _ _ (by omega), f4.2 _ _ (by omega), f3.2 _ _ (by omega), f2.2 _ _ (by unfold PB; omega), f1.2 _ _ (by unfold PN; omega)]
      exact s3
    · rw [q_gK _ _ _ _ _ _ (by omega), q_gK _ _ _ _ _ _ (by omega), q_gK _ _ _ _ _ _ (by omega), f4.2 _ _ (by omega), f3.2 _ _ (by omega), f2.2 _ _ (by unfold PB; omega), f1.2 _ _ (by unfold PN; omega)]
      exact s4
    · rw [q_gK _ _ _ _ _ _ (by omega), q_gS]
    · rw [q_gK _ _ _ _ _ _ (by omega), q_gK _ _ _ _ _ _ (by omega), q_gS]
    · rw [q_gS]
    · intro k hk'
      obtain ⟨a1, a2, a3⟩ := g1 k hk'
      have hP6 := hk.1
      have hR5 := hk.2.1
      refine ⟨?_, ?_, fun i hi => ?_⟩
      · rw [hg _ _ (by omega), f4.2 _ _ (by omega), f3.2 _ _ (by omega), f2.2 _ _ (by unfold PB; omega), a1, sS _ _ (by omega)]
      · rw [hg _ _ (by omega), f4.2 _ _ (by omega), f3.2 _ _ (by omega), f2.2 _ _ (by unfold PB; omega), a2, sS _ _ (by omega)]
      · rw [hg _ _ (by omega), f4.2 _ _ (by omega), f3.2 _ _ (by omega), f2.2 _ _ (by unfold PB; omega), a3 i hi, sS _ _ (by omega)]
    · intro j hj
      obtain ⟨a1, a2⟩ := g2 j hj
      refine ⟨fun q hq => ?_, fun i hi => ?_⟩
      · rw [hg _ _ (by omega), f4.2 _ _ (by omega), f3.2 _ _ (by omega), a1 q hq, f1.2 _ _ (by unfold PN; omega), sS _ _ (by omega)]
      · rw [hg _ _ (by omega), f4.2 _ _ (by omega), f3.2 _ _ (by omega), a2 i hi, f1.2 _ _ (by unfold PN; omega), sS _ _ (by omega)]
    · intro s h1 h2
      obtain ⟨a1, a2⟩ := g3 s h1 h2
      rw [hg _ _ (by omega), hg _ _ (by omega), f4.2 _ _ (by omega), f4.2 _ _ (by omega)]
      exact ⟨a1, a2⟩
    · intro k hk'
      rw [hg _ _ (by omega)]
      exact g4 k hk'
end RZs
