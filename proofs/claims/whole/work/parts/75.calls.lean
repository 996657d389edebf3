/-! pure part: the simple calls -/
theorem i2n {x : Int32} (h : 0 ≤ x.toInt) : ∃ k : Nat, x = nI k ∧ (k : Int) = x.toInt ∧ k < 2147483648 := by
  have hlt : x.toInt < 2147483648 := Int32.toInt_lt x
  refine ⟨x.toInt.toNat, ?_, by omega, by omega⟩
  apply Int32.toInt_inj.mp
  rw [nI_toInt (by omega)]
  omega
theorem ph_k {C C' : St} (h1 : C'.1 24 2 = C.1 24 2) (h2 : C'.1 26 2 = C.1 26 2) : ph C ≤ ph C' := by
  unfold ph
  rw [h1, h2]
  exact Nat.le_refl _
theorem toInt_0 : (0 : Int32).toInt = 0 := by decide
section CLs
variable {N P R B : Nat} {C M : St}
theorem R_fault {x : Int32} (h : RelP P R B C M) : ∃ r M', f_X10_fault N x C = some r ∧ f_X11_fault N x M = some (r, M') ∧ RelP P R B C M' := by
  have h3 := h.2.2.1
  unfold f_X10_fault f_X11_fault
  rw [q_nm, q_gK _ _ _ _ _ _ (by omega), q_gK _ _ _ _ _ _ (by omega), h3.1, h3.2]
  by_cases e0 : x = 0
  · rw [if_pos e0, if_pos e0]; exact ⟨_, _, rfl, rfl, h.m2 0⟩
  · rw [if_neg e0, if_neg e0]
    by_cases e1 : x = 1
    · rw [if_pos e1, if_pos e1]; exact ⟨_, _, rfl, rfl, h.m2 0⟩
    · rw [if_neg e1, if_neg e1]; exact ⟨_, _, rfl, rfl, h.m2 0⟩
def hrs (P : Nat) (q p f t : Int32) : Prop := 0 ≤ q.toInt ∧ q.toInt < 3 ∧ 0 ≤ p.toInt ∧ p.toInt < P ∧ 0 ≤ f.toInt ∧ f.toInt ≤ t.toInt ∧ t.toInt < 24
theorem areHours_e {q p f t : Int32} (h3 : M.1 0 3 = nI P) (hP : P ≤ 6) : (hrs P q p f t → f_X11_areHours N q p f t M = some 1) ∧ (¬ hrs P q p f t → f_X11_areHours N q p f t M = some 0) := by
  unfold f_X11_areHours hrs
  have l3 : (3 : Int32).toInt = 3 := by decide
  have l24 : (24 : Int32).toInt = 24 := by decide
  rw [h3]
  simp only [Int32.lt_iff_toInt_lt, Int32.le_iff_toInt_le, toInt_0, l3, l24, nI_toInt (show P < 2147483648 by omega)]
  constructor
  · rintro ⟨a1, a2, a3, a4, a5, a6, a7⟩
    rw [if_neg (by omega), if_neg (by omega), if_neg (by omega), if_neg (by omega), if_neg (by omega), if_neg (by omega), if_neg (by omega)]
    rfl
  · intro hn
    repeat' split
    all_goals first | rfl | (exfalso; apply hn; omega)
theorem hasHours_e {q p f t : Int32} (h9 : C.1 28 9 = nI P) (hP : P ≤ 6) : (hrs P q p f t → f_X10_hasHours N q p f t C = some 1) ∧ (¬ hrs P q p f t → f_X10_hasHours N q p f t C = some 0) := by
  unfold f_X10_hasHours hrs
  have l2 : (2 : Int32).toInt = 2 := by decide
  have l24 : (24 : Int32).toInt = 24 := by decide
  have lP : (nI P - 1).toInt = (P : Int) - 1 := by
    have l1 : (1 : Int32).toInt = 1 := by decide
    rw [Int32.toInt_sub, nI_toInt (by omega), l1, Int.bmod_eq_of_le (by omega) (by omega)]
  rw [h9, within_i, within_i, lP]
  simp only [Int32.lt_iff_toInt_lt, Int32.le_iff_toInt_le, toInt_0, l2, l24, q_bd]
  constructor
  · rintro ⟨a1, a2, a3, a4, a5, a6, a7⟩
    rw [if_pos (show 0 ≤ q.toInt ∧ q.toInt ≤ 2 by omega), if_neg (show ¬ (1 : Int32) = 0 by decide), if_pos (show 0 ≤ p.toInt ∧ p.toInt ≤ (P : Int) - 1 by omega), if_neg (show ¬ (1 : Int32) = 0 by decide), if_neg (by omega), if_neg (by omega), if_neg (by omega)]
    rfl
  · intro hn
    by_cases c1 : 0 ≤ q.toInt ∧ q.toInt ≤ 2
    · rw [if_pos c1, if_neg (show ¬ (1 : Int32) = 0 by decide)]
      by_cases c2 : 0 ≤ p.toInt ∧ p.toInt ≤ (P : Int) - 1
      · rw [if_pos c2, if_neg (show ¬ (1 : Int32) = 0 by decide)]
        repeat' split
        all_goals first | rfl | (exfalso; apply hn; omega)
      · rw [if_neg c2, if_pos (show (0 : Int32) = 0 from rfl)]; rfl
    · rw [if_neg c1, if_pos (show (0 : Int32) = 0 from rfl)]; rfl
theorem at_gen {rr : Nat} {q p h : Int32} : (∃ q' p' h', q' < 3 ∧ p' < 6 ∧ h' < 24 ∧ q = nI q' ∧ p = nI p' ∧ h = nI h' ∧ f_X7_at N rr q p h C = some (C.1 (rr + 1) (144 * q' + 24 * p' + h'))) ∨ (¬ (0 ≤ q.toInt ∧ q.toInt < 3 ∧ 0 ≤ p.toInt ∧ p.toInt < 6 ∧ 0 ≤ h.toInt ∧ h.toInt < 24) ∧ f_X7_at N rr q p h C = some (-100)) := by
  by_cases c : 0 ≤ q.toInt ∧ q.toInt < 3 ∧ 0 ≤ p.toInt ∧ p.toInt < 6 ∧ 0 ≤ h.toInt ∧ h.toInt < 24
  · left
    obtain ⟨q', e1, e2, -⟩ := i2n c.1
    obtain ⟨p', e3, e4, -⟩ := i2n c.2.2.1
    obtain ⟨h', e5, e6, -⟩ := i2n c.2.2.2.2.1
    refine ⟨q', p', h', by omega, by omega, by omega, e1, e3, e5, ?_⟩
    rw [e1, e3, e5]
    exact at_in (by omega) (by omega) (by omega)
  · right
    refine ⟨c, ?_⟩
    have l2 : (2 : Int32).toInt = 2 := by decide
    have l5 : (5 : Int32).toInt = 5 := by decide
    have l23 : (23 : Int32).toInt = 23 := by decide
    unfold f_X7_at f_X7_cellOf
    rw [within_i, within_i, within_i, toInt_0, l2, l5, l23, q_bd, q_bd, q_bd]
    by_cases c1 : 0 ≤ q.toInt ∧ q.toInt ≤ 2
    · rw [if_pos c1, if_neg (show ¬ (1 : Int32) = 0 by decide)]
      by_cases c2 : 0 ≤ p.toInt ∧ p.toInt ≤ 5
      · rw [if_pos c2, if_neg (show ¬ (1 : Int32) = 0 by decide)]
        rw [if_neg (show ¬ (0 ≤ h.toInt ∧ h.toInt ≤ 23) by omega), if_pos (show (0 : Int32) = 0 from rfl)]
        rfl
      · rw [if_neg c2, if_pos (show (0 : Int32) = 0 from rfl)]; rfl
    · rw [if_neg c1, if_pos (show (0 : Int32) = 0 from rfl)]; rfl
theorem midx {q p h : Nat} : (144 : Int32) * nI q + 24 * nI p + nI h = nI (144 * q + 24 * p + h) := by
  have : nI 144 * nI q + nI 24 * nI p + nI h = nI (144 * q + 24 * p + h) := by rw [q_mul, q_mul, q_add, q_add]
  exact this
theorem R_number {q p h : Int32} (hR : RelP P R B C M) : ∃ r M', f_X10_number N q p h C = some r ∧ f_X11_number N q p h M = some (r, M') ∧ RelP P R B C M' := by
  have hP := hR.mb.2.2.2.1
  have h3 : (puI M 0 2 0).1 0 3 = nI P := by rw [q_gK _ _ _ _ _ _ (by omega)]; exact hR.mb.1
  have hB := hR.2.2.2.2.2.1
  unfold f_X10_number f_X11_number
  rw [q_nm]
  have ha := areHours_e (N := N) (q := q) (p := p) (f := h) (t := h) h3 hP
  rcases at_gen (N := N) (C := C) (rr := 48) (q := q) (p := p) (h := h) with ⟨q', p', h', a1, a2, a3, rfl, rfl, rfl, a4⟩ | ⟨a1, a2⟩
  · rw [a4, q_bd]
    have e49 : C.1 (48 + 1) (144 * q' + 24 * p' + h') = M.1 14 (144 * q' + 24 * p' + h') := (hB.1 _ (by omega)).1
    rw [e49]
    by_cases hc : hrs P (nI q') (nI p') (nI h') (nI h')
    · rw [ha.1 hc, q_bd, if_neg (show ¬ (1 : Int32) = 0 by decide), midx, q_ck (by omega) (by omega), q_tn (by omega), q_gR _ _ _ _ _ _ (by omega)]
      exact ⟨_, _, rfl, rfl, hR.m2 0⟩
    · rw [ha.2 hc, q_bd, if_pos (show (0 : Int32) = 0 from rfl)]
      have hpp : P ≤ p' := by
        apply Decidable.byContradiction
        intro w
        apply hc
        unfold hrs
        rw [nI_toInt (by omega), nI_toInt (by omega), nI_toInt (by omega)]
        omega
      rw [(hB.2.2 q' p' h' a1 a2 hpp a3).1]
      exact ⟨_, _, rfl, rfl, hR.m2 0⟩
  · rw [a2, q_bd]
    have hc : ¬ hrs P q p h h := by
      rintro ⟨c1, c2, c3, c4, c5, c6, c7⟩
      exact a1 ⟨c1, c2, c3, by omega, c5, c7⟩
    rw [ha.2 hc, q_bd, if_pos (show (0 : Int32) = 0 from rfl)]
    exact ⟨_, _, rfl, rfl, hR.m2 0⟩
/-- the table changes -/
theorem RelP.tab {C' M' : St} (h : RelP P R B C M) (hC : fr (fun r k => r = 49 ∨ (r = 0 ∧ k = 12)) C C') (hM : fr (fun r k => r = 14 ∨ (r = 0 ∧ k = 2)) M M') (h12 : C'.1 0 12 = 0) (hb : rB P C' M') : RelP P R B C' M' := by
  have hs : mSame M M' := mSame.of hM (fun r k a => by omega)
  have hmb := h.mb
  have hmn := h.mn
  have hpr := h.pr
  obtain ⟨h1, h2, h3, h4, h5, h6, h7, h8⟩ := h
  refine ⟨h1.go (hC.2 _ _ (by omega)) (fun k => hC.2 _ _ (by omega)) (hM.2 _ _ (by omega)) (fun k => hM.2 _ _ (by omega)), h2.go (fun k => by rw [hC.1]) (by rw [hC.1]) (fun k => hM.2 _ _ (by omega)), ?_, h4.sm hs (fun r k a c => hC.2 _ _ (by omega)) (fun r k a c => by rw [hC.1]), h5.go hpr hs (hC.2 _ _ (by omega)) (fun k => hC.2 _ _ (by omega)) (fun k => hC.2 _ _ (by omega)), hb, ⟨Or.inl h12, fun t ht => by rw [hC.2 _ _ (by omega)]; exact h7.2 t ht⟩, ?_⟩
  · unfold rFl
    rw [hC.2 3 5 (by omega), hC.2 3 6 (by omega), hM.2 0 16 (by omega), hM.2 0 17 (by omega)]
    exact h3
  · obtain ⟨l, h26⟩ := h8.2.2
    exact h8.go hmn hs (fun k a c => hM.2 _ _ (by omega)) (fun r k a c => hM.2 _ _ (by omega)) (fun k a c => hC.2 _ _ (by omega)) (fun k => hC.2 _ _ (by omega)) (fun k => hC.2 _ _ (by omega)) (fun k => hC.2 _ _ (by omega)) ⟨l, h26.go (hC.2 _ _ (by omega)) (hC.2 _ _ (by omega)) (funext fun k => hC.2 _ _ (by omega))⟩
theorem set_in {q p h : Nat} {v : Int32} (hq : q < 3) (hp : p < 6) (hh : h < 24) : f_X7_set N 48 (nI q) (nI p) (nI h) v C = some (puI C 49 (144 * q + 24 * p + h) v) := by
  unfold f_X7_set
  rw [cellOf_in hq hp hh, q_bd, if_neg (by rw [q_m1 (by omega)]; exact fun w => w), q_ck (by omega) (by omega), q_tn (by omega), q_nm]
/-- hours are set in both tables -/
theorem tabs_l {q p f t : Nat} {V : Nat → Int32} {KC : (Int32 → St → Option (Int32 × St)) → Int32 → St → Option (Int32 × St)} {KM : (Int32 → St → Option (Int32 × St)) → Int32 → St → Option (Int32 × St)} {M1 : St} (hN : 6000 ≤ N) (h : RelP P R B C M) (hM1 : M1 = puI M 0 2 0) (hq : q < 3) (hp : p < P) (hft : f ≤ t) (ht : t < 24) (hV : ∀ x, f ≤ x → x ≤ t → tOK (V x))
    (hCe : ∀ K S, KC K (nI (t + 1)) S = some (1, puI S 0 12 0)) (hCs : ∀ K x S, f ≤ x → x ≤ t → KC K (nI x) S = K (nI (x + 1)) (puI S 49 (144 * q + 24 * p + x) (V x)))
    (hMe : ∀ K S, KM K (nI (t + 1)) S = some (1, S)) (hMs : ∀ K x S, f ≤ x → x ≤ t → KM K (nI x) S = K (nI (x + 1)) (puI S 14 (144 * q + 24 * p + x) (V x))) :
    ∃ C' M', lp (fun _ _ => none) KC N (nI f) C = some (1, C') ∧ lp (fun _ _ => none) KM N (nI f) M1 = some (1, M') ∧ RelP P R B C' M' ∧ ph C ≤ ph C' := by
  have hP6 := h.mb.2.2.2.1
  have key : ∀ d N' x (S T : St), d < N' → x + d = t + 1 → f ≤ x → fr (fun r k => r = 49 ∨ (r = 0 ∧ k = 12)) C S → fr (fun r k => r = 14 ∨ (r = 0 ∧ k = 2)) M T → rB P S T → ∃ C' M', lp (fun _ _ => none) KC N' (nI x) S = some (1, C') ∧ lp (fun _ _ => none) KM N' (nI x) T = some (1, M') ∧ RelP P R B C' M' ∧ ph C ≤ ph C' := by
    intro d
    induction d with
    | zero =>
      intro N' x S T hN' hx hfx f1 f2 f3
      obtain ⟨N', rfl⟩ : ∃ j, N' = j + 1 := ⟨N' - 1, by omega⟩
      have : x = t + 1 := by omega
      subst this
      rw [q_lp, q_lp, hCe, hMe]
      refine ⟨_, _, rfl, rfl, h.tab (f1.pu (by omega)) f2 (q_gS _ _ _ _) ?_, ph_k (by rw [q_gR _ _ _ _ _ _ (by omega), f1.2 _ _ (by omega)]) (by rw [q_gR _ _ _ _ _ _ (by omega), f1.2 _ _ (by omega)])⟩
      exact f3.go (fun k => q_gR _ _ _ _ _ _ (by omega)) (fun k => q_gR _ _ _ _ _ _ (by omega)) (fun _ => rfl)
    | succ d ih =>
      intro N' x S T hN' hx hfx f1 f2 f3
      obtain ⟨N', rfl⟩ : ∃ j, N' = j + 1 := ⟨N' - 1, by omega⟩
      rw [q_lp, q_lp, hCs _ x _ hfx (by omega), hMs _ x _ hfx (by omega)]
      refine ih N' (x + 1) _ _ (by omega) (by omega) (by omega) (f1.pu (by omega)) (f2.pu (by omega)) ?_
      refine ⟨fun k hk => ?_, fun k hk => ?_, fun a b c a1 a2 a3 a4 => ?_⟩
      · obtain ⟨g1, g2⟩ := f3.1 k hk
        rw [q_gR _ _ _ _ _ _ (show (51 : Nat) ≠ 49 by omega), q_gK _ _ _ _ _ _ (show 432 + k ≠ 144 * q + 24 * p + x by omega)]
        refine ⟨?_, g2⟩
        rw [q_g, q_g]
        by_cases e : k = 144 * q + 24 * p + x
        · rw [if_pos ⟨rfl, e⟩, if_pos ⟨rfl, e⟩]
        · rw [if_neg (fun w => e w.2), if_neg (fun w => e w.2)]; exact g1
      · rw [q_g]
        by_cases e : k = 144 * q + 24 * p + x
        · rw [if_pos ⟨rfl, e⟩]; exact hV x hfx (by omega)
        · rw [if_neg (fun w => e w.2)]; exact f3.2.1 k hk
      · rw [q_gK _ _ _ _ _ _ (by omega), q_gK _ _ _ _ _ _ (by omega)]
        exact f3.2.2 a b c a1 a2 a3 a4
  rw [hM1]
  exact key (t + 1 - f) N f C (puI M 0 2 0) (by omega) (by omega) (Nat.le_refl _) fr.rf (fr.rf.pu (by omega)) (h.2.2.2.2.2.1.go (fun _ => rfl) (fun _ => rfl) (fun k => q_gR _ _ _ _ _ _ (by omega)))
theorem R_miss {q p f t : Int32} (hN : 6000 ≤ N) (h : RelP P R B C M) : ∃ r C' M', f_X10_miss N q p f t C = some (r, C') ∧ f_X11_miss N q p f t M = some (r, M') ∧ RelP P R B C' M' ∧ ph C ≤ ph C' := by
  have hP := h.mb.2.2.2.1
  have h3 : (puI M 0 2 0).1 0 3 = nI P := by rw [q_gK _ _ _ _ _ _ (by omega)]; exact h.mb.1
  have ha := areHours_e (N := N) (q := q) (p := p) (f := f) (t := t) h3 hP
  have hb := hasHours_e (N := N) (q := q) (p := p) (f := f) (t := t) h.cr.1 hP
  unfold f_X10_miss f_X11_miss
  rw [q_nm]
  by_cases hc : hrs P q p f t
  · rw [ha.1 hc, hb.1 hc, q_bd, q_bd, if_neg (show ¬ (1 : Int32) = 0 by decide), if_neg (show ¬ (1 : Int32) = 0 by decide), q_jp, q_jp, q_jp]
    obtain ⟨c1, c2, c3, c4, c5, c6, c7⟩ := hc
    obtain ⟨q', e1, e2, -⟩ := i2n c1
    obtain ⟨p', e3, e4, -⟩ := i2n c3
    obtain ⟨f', e5, e6, -⟩ := i2n c5
    obtain ⟨t', e7, e8, -⟩ := i2n (show 0 ≤ t.toInt by omega)
    subst e1 e3 e5 e7
    have hT : ∃ C' M', lp (fun _ _ => none) (b_X10_miss_17 N (nI q') (nI p') (nI t') j_X10_miss_43) N (nI f') C = some (1, C') ∧ lp (fun _ _ => none) (b_X11_miss_22 (nI q') (nI p') (nI t')) N (nI f') (puI M 0 2 0) = some (1, M') ∧ RelP P R B C' M' ∧ ph C ≤ ph C' := by
      refine tabs_l (f := f') (t := t') (q := q') (p := p') (V := fun _ => -100) hN h rfl (by omega) (by omega) (by omega) (by omega) (fun x _ _ => by unfold tOK; decide) ?_ ?_ ?_ ?_
      · intro K S
        unfold b_X10_miss_17 j_X10_miss_43
        rw [if_pos (by rw [q_lt (by omega) (by omega)]; omega), q_nm]
      · intro K x S a1 a2
        unfold b_X10_miss_17
        rw [if_neg (by rw [q_lt (by omega) (by omega)]; omega), set_in (by omega) (by omega) (by omega), q_bd, q_nm, ← nI_succ]
      · intro K S
        unfold b_X11_miss_22
        rw [if_pos (by rw [q_lt (by omega) (by omega)]; omega)]
      · intro K x S a1 a2
        unfold b_X11_miss_22
        rw [if_neg (by rw [q_lt (by omega) (by omega)]; omega), midx, q_ck (by omega) (by omega), q_tn (by omega), q_nm, q_nm, ← nI_succ]
    obtain ⟨C', M', x1, x2, x3⟩ := hT
    rw [x1, x2]
    exact ⟨1, C', M', rfl, rfl, x3⟩
  · rw [ha.2 hc, hb.2 hc, q_bd, q_bd, if_pos (show (0 : Int32) = 0 from rfl), if_pos (show (0 : Int32) = 0 from rfl)]
    exact ⟨0, C, _, rfl, rfl, h.m2 0, Nat.le_refl _⟩
theorem lin_b {v s : Int} {k K : Nat} (hk : k ≤ K) (h1 : -99 ≤ v) (h2 : v ≤ 999) (h3 : -99 ≤ v + K * s) (h4 : v + K * s ≤ 999) : -99 ≤ v + k * s ∧ v + k * s ≤ 999 := by
  obtain ⟨d, rfl⟩ : ∃ d, K = k + d := ⟨K - k, by omega⟩
  have e : ((k + d : Nat) : Int) * s = k * s + d * s := by rw [Int.natCast_add, Int.add_mul]
  rw [e] at h3 h4
  by_cases hs : 0 ≤ s
  · have a1 : 0 ≤ (k : Int) * s := Int.mul_nonneg (by omega) hs
    have a2 : 0 ≤ (d : Int) * s := Int.mul_nonneg (by omega) hs
    omega
  · have a1 : (k : Int) * s ≤ 0 := Int.mul_nonpos_of_nonneg_of_nonpos (by omega) (by omega)
    have a2 : (d : Int) * s ≤ 0 := Int.mul_nonpos_of_nonneg_of_nonpos (by omega) (by omega)
    omega
theorem val_i {v s : Int32} {k : Nat} (hk : k < 24) (hv : -99 ≤ v.toInt ∧ v.toInt ≤ 999) (hs : -99 ≤ s.toInt ∧ s.toInt ≤ 99) : (v + nI k * s).toInt = v.toInt + k * s.toInt := by
  have hb : -2277 ≤ (k : Int) * s.toInt ∧ (k : Int) * s.toInt ≤ 2277 := by
    have := lin_b (v := 0) (s := s.toInt) (k := k) (K := k) (Nat.le_refl _)
    have h1 : (k : Int) * s.toInt ≤ k * 99 := Int.mul_le_mul_of_nonneg_left hs.2 (by omega)
    have h2 : (k : Int) * (-99) ≤ k * s.toInt := Int.mul_le_mul_of_nonneg_left hs.1 (by omega)
    omega
  rw [Int32.toInt_add, Int32.toInt_mul, nI_toInt (by omega), Int.bmod_eq_of_le (n := (k : Int) * s.toInt) (by omega) (by omega), Int.bmod_eq_of_le (by omega) (by omega)]
theorem R_put {q p f t v s : Int32} (hN : 6000 ≤ N) (h : RelP P R B C M) : ∃ r C' M', f_X10_put N q p f t v s C = some (r, C') ∧ f_X11_put N q p f t v s M = some (r, M') ∧ RelP P R B C' M' ∧ ph C ≤ ph C' := by
  have hP := h.mb.2.2.2.1
  have h3 : (puI M 0 2 0).1 0 3 = nI P := by rw [q_gK _ _ _ _ _ _ (by omega)]; exact h.mb.1
  have ha := areHours_e (N := N) (q := q) (p := p) (f := f) (t := t) h3 hP
  have hb := hasHours_e (N := N) (q := q) (p := p) (f := f) (t := t) h.cr.1 hP
  have ln99 : (-99 : Int32).toInt = -99 := by decide
  have l99 : (99 : Int32).toInt = 99 := by decide
  have l999 : (999 : Int32).toInt = 999 := by decide
  unfold f_X10_put f_X11_put f_X10_staysInSpan
  rw [q_nm]
  by_cases hc : hrs P q p f t
  · rw [ha.1 hc, hb.1 hc, q_bd, q_bd, if_neg (show ¬ (1 : Int32) = 0 by decide), if_neg (show ¬ (1 : Int32) = 0 by decide), within_i, within_i, within_i, ln99, l99, l999]
    simp only [Int32.lt_iff_toInt_lt, Int32.le_iff_toInt_le, ln99, l99, l999, q_bd, q_nm]
    by_cases k1 : -99 ≤ s.toInt ∧ s.toInt ≤ 99
    · rw [if_pos k1, if_neg (show ¬ (1 : Int32) = 0 by decide), if_neg (show ¬ s.toInt < -99 by omega), if_neg (show ¬ 99 < s.toInt by omega)]
      by_cases k2 : -99 ≤ v.toInt ∧ v.toInt ≤ 999
      · rw [if_pos k2, if_neg (show ¬ (1 : Int32) = 0 by decide), if_neg (show ¬ v.toInt < -99 by omega), if_pos k2.2]
        by_cases k3 : -99 ≤ (v + (t - f) * s).toInt ∧ (v + (t - f) * s).toInt ≤ 999
        · rw [if_pos k3, if_neg (show ¬ (1 : Int32) = 0 by decide), if_neg (show ¬ (v + (t - f) * s).toInt < -99 by omega), if_pos k3.2]
          have ez : z1 (some (1 : Int32)) = some 1 := rfl
          rw [ez, q_bd, if_neg (show ¬ (1 : Int32) = 0 by decide), q_jp, q_jp, q_jp]
          obtain ⟨c1, c2, c3, c4, c5, c6, c7⟩ := hc
          obtain ⟨q', e1, e2, -⟩ := i2n c1
          obtain ⟨p', e3, e4, -⟩ := i2n c3
          obtain ⟨f', e5, e6, -⟩ := i2n c5
          obtain ⟨t', e7, e8, -⟩ := i2n (show 0 ≤ t.toInt by omega)
          subst e1 e3 e5 e7
          rw [q_sub (show f' ≤ t' by omega), val_i (by omega) k2 k1] at k3
          have hT : ∃ C' M', lp (fun _ _ => none) (b_X10_put_31 N (nI q') (nI p') (nI f') (nI t') v s j_X10_put_65) N (nI f') C = some (1, C') ∧ lp (fun _ _ => none) (b_X11_put_80 (nI q') (nI p') (nI f') (nI t') v s) N (nI f') (puI M 0 2 0) = some (1, M') ∧ RelP P R B C' M' ∧ ph C ≤ ph C' := by
            refine tabs_l (f := f') (t := t') (q := q') (p := p') (V := fun x => v + (nI x - nI f') * s) hN h rfl (by omega) (by omega) (by omega) (by omega) ?_ ?_ ?_ ?_ ?_
            · intro x a1 a2
              show tOK (v + (nI x - nI f') * s)
              have := lin_b (v := v.toInt) (s := s.toInt) (k := x - f') (K := t' - f') (by omega) k2.1 k2.2 k3.1 k3.2
              unfold tOK
              rw [q_sub a1, val_i (by omega) k2 k1]
              omega
            · intro K S
              unfold b_X10_put_31 j_X10_put_65
              rw [if_pos (by rw [q_lt (by omega) (by omega)]; omega), q_nm]
            · intro K x S a1 a2
              unfold b_X10_put_31
              rw [if_neg (by rw [q_lt (by omega) (by omega)]; omega), set_in (by omega) (by omega) (by omega), q_bd, q_nm, ← nI_succ]
            · intro K S
              unfold b_X11_put_80
              rw [if_pos (by rw [q_lt (by omega) (by omega)]; omega)]
            · intro K x S a1 a2
              unfold b_X11_put_80
              rw [if_neg (by rw [q_lt (by omega) (by omega)]; omega), midx, q_ck (by omega) (by omega), q_tn (by omega), q_nm, q_nm, ← nI_succ]
          obtain ⟨C', M', x1, x2, x3⟩ := hT
          rw [x1, x2]
          exact ⟨1, C', M', rfl, rfl, x3⟩
        · rw [if_neg k3, if_pos (show (0 : Int32) = 0 from rfl)]
          have ez : z1 (some (0 : Int32)) = some 0 := rfl
          rw [ez, q_bd, if_pos (show (0 : Int32) = 0 from rfl)]
          refine ⟨0, C, puI M 0 2 0, rfl, ?_, h.m2 0, Nat.le_refl _⟩
          by_cases k4 : (v + (t - f) * s).toInt < -99
          · rw [if_pos k4]; rfl
          · rw [if_neg k4, if_neg (by omega)]; rfl
      · rw [if_neg k2, if_pos (show (0 : Int32) = 0 from rfl)]
        have ez : z1 (some (0 : Int32)) = some 0 := rfl
        rw [ez, q_bd, if_pos (show (0 : Int32) = 0 from rfl)]
        refine ⟨0, C, puI M 0 2 0, rfl, ?_, h.m2 0, Nat.le_refl _⟩
        by_cases k4 : v.toInt < -99
        · rw [if_pos k4]; rfl
        · rw [if_neg k4, if_neg (by omega)]; rfl
    · rw [if_neg k1, if_pos (show (0 : Int32) = 0 from rfl)]
      have ez : z1 (some (0 : Int32)) = some 0 := rfl
      rw [ez, q_bd, if_pos (show (0 : Int32) = 0 from rfl)]
      refine ⟨0, C, puI M 0 2 0, rfl, ?_, h.m2 0, Nat.le_refl _⟩
      by_cases k4 : s.toInt < -99
      · rw [if_pos k4]; rfl
      · rw [if_neg k4, if_pos (by omega)]; rfl
  · rw [ha.2 hc, hb.2 hc, q_bd, q_bd, if_pos (show (0 : Int32) = 0 from rfl), if_pos (show (0 : Int32) = 0 from rfl)]
    exact ⟨0, C, _, rfl, rfl, h.m2 0, Nat.le_refl _⟩
theorem R_told {x : Int32} (h : RelP P R B C M) : ∃ r M', f_X10_told N x C = some r ∧ f_X11_told N x M = some (r, M') ∧ RelP P R B C M' := by
  obtain ⟨⟨xs, x1, x2, x3, x4, x5, x6, x7, x8⟩, x9, -⟩ := h.2.2.2.2.2.2.2
  unfold f_X10_told f_X11_told
  rw [q_nm, q_gK _ _ _ _ _ _ (by omega), x2, x3]
  by_cases e0 : x < 0
  · rw [if_pos e0, if_pos e0]; exact ⟨_, _, rfl, rfl, h.m2 0⟩
  · rw [if_neg e0, if_neg e0]
    obtain ⟨k, hk, rfl⟩ := q_of e0
    by_cases e1 : k < xs.length
    · rw [if_pos (by rw [q_lt (by omega) (by omega)]; exact e1), if_pos (by rw [q_lt (by omega) (by omega)]; exact e1), q_ck (by omega) (by omega), q_ck (by omega) (by omega), q_tn (by omega), q_gR _ _ _ _ _ _ (by omega), x4 k e1]
      exact ⟨_, _, rfl, rfl, h.m2 0⟩
    · rw [if_neg (by rw [q_lt (by omega) (by omega)]; exact e1), if_neg (by rw [q_lt (by omega) (by omega)]; exact e1)]
      exact ⟨_, _, rfl, rfl, h.m2 0⟩
theorem R_sign {x : Int32} (hN : 6000 ≤ N) (h : RelP P R B C M) : ∃ r M', f_X10_sign N x C = some r ∧ f_X11_sign N x M = some (r, M') ∧ RelP P R B C M' := by
  have hmn := h.mn
  obtain ⟨⟨xs, x1, x2, x3, x4, x5, x6, ⟨cap, s2, s3, s4, s5, s1, sf, sv⟩, x8⟩, x9, -⟩ := h.2.2.2.2.2.2.2
  unfold f_X10_sign f_X6_at
  rw [s1, s2]
  by_cases e0 : x < 0
  · have e0' : ¬ 0 ≤ x := by rw [Int32.lt_iff_toInt_lt] at e0; rw [Int32.le_iff_toInt_le]; omega
    rw [if_pos e0, q_bd]
    unfold f_X11_sign
    rw [q_nm]
    by_cases e37 : (puI M 0 2 0).1 0 37 = 0
    · rw [if_pos e37]; exact ⟨_, _, rfl, rfl, h.m2 0⟩
    · rw [if_neg e37, if_neg e0']; exact ⟨_, _, rfl, rfl, h.m2 0⟩
  · rw [if_neg e0]
    obtain ⟨k, hk, rfl⟩ := q_of e0
    by_cases e37 : M.1 0 37 = 0
    · have hx := x8 e37
      subst hx
      have : ¬ nI k < nI (TXT M (P + R) ([] : List F4) ([] : List F4).length).length := by
        show ¬ nI k < nI 0
        rw [q_lt (by omega) (by omega)]
        omega
      rw [if_neg this, q_bd]
      unfold f_X11_sign
      rw [q_nm, q_gK _ _ _ _ _ _ (by omega), if_pos e37]
      exact ⟨_, _, rfl, rfl, h.m2 0⟩
    · rcases msign_e (k := k) hN hmn x3 e37 x5 x1 x6 hk with ⟨c, c1, c2, c3⟩ | ⟨c1, c3⟩
      · have hlt := (List.getElem?_eq_some_iff.mp c1).1
        rw [if_pos (by rw [q_lt (by omega) (by omega)]; exact hlt), q_tn (by omega), q_ck (by omega) (by omega), q_tn (by omega), (sv k c c1).2, q_bd, c3]
        exact ⟨_, _, rfl, rfl, h.m2 0⟩
      · rw [if_neg (by rw [q_lt (by omega) (by omega)]; omega), q_bd, c3]
        exact ⟨_, _, rfl, rfl, h.m2 0⟩
end CLs
