/-! pure part: changed -/
section CHG
variable {N P R B : Nat} {C M : St}
/-- at this hour both days know, and they differ by more -/
def Df (M : St) (q : Nat) (w : Int32) (p h : Nat) : Bool := decide (M.1 14 (144 * q + 24 * p + h) ≠ -100 ∧ M.1 14 (432 + (144 * q + 24 * p + h)) ≠ -100 ∧ ¬ (if M.1 14 (432 + (144 * q + 24 * p + h)) ≤ M.1 14 (144 * q + 24 * p + h) then M.1 14 (144 * q + 24 * p + h) - M.1 14 (432 + (144 * q + 24 * p + h)) else M.1 14 (432 + (144 * q + 24 * p + h)) - M.1 14 (144 * q + 24 * p + h)) ≤ w)
def Dn (M : St) (q : Nat) (w : Int32) (p k : Nat) : Bool := decide (∃ h, h < k ∧ Df M q w p h = true)
theorem Dn_S {q : Nat} {w : Int32} {p k : Nat} : Dn M q w p (k + 1) = (Dn M q w p k || Df M q w p k) := by
  unfold Dn
  by_cases e : Df M q w p k = true
  · rw [e, Bool.or_true]
    exact decide_eq_true ⟨k, by omega, e⟩
  · rw [Bool.not_eq_true] at e
    rw [e, Bool.or_false]
    apply decide_eq_decide.2
    constructor
    · rintro ⟨h, h1, h2⟩
      refine ⟨h, ?_, h2⟩
      by_cases x : h = k
      · subst x; rw [e] at h2; cases h2
      · omega
    · rintro ⟨h, h1, h2⟩
      exact ⟨h, by omega, h2⟩
theorem Dn_0 {q : Nat} {w : Int32} {p : Nat} : Dn M q w p 0 = false := by
  unfold Dn
  exact decide_eq_false (by rintro ⟨h, h1, -⟩; omega)
theorem ab_e {a b : Int32} (ha : tOK a) (hb : tOK b) : (if 0 ≤ b - a then b - a else 0 - (b - a)) = (if b ≤ a then a - b else b - a) := by
  unfold tOK at ha hb
  have e1 : (b - a).toInt = b.toInt - a.toInt := by rw [Int32.toInt_sub, Int.bmod_eq_of_le (by omega) (by omega)]
  have e2 : (a - b).toInt = a.toInt - b.toInt := by rw [Int32.toInt_sub, Int.bmod_eq_of_le (by omega) (by omega)]
  have e3 : ((0 : Int32) - (b - a)).toInt = a.toInt - b.toInt := by rw [Int32.toInt_sub, e1, toInt_0, Int.bmod_eq_of_le (by omega) (by omega)]; omega
  simp only [Int32.le_iff_toInt_le, toInt_0, e1]
  apply Int32.toInt_inj.mp
  by_cases c1 : 0 ≤ b.toInt - a.toInt
  · rw [if_pos c1]
    by_cases c2 : b.toInt ≤ a.toInt
    · rw [if_pos c2, e1, e2]; omega
    · rw [if_neg c2]
  · rw [if_neg c1, if_pos (by omega), e3, e2]
theorem cdiff_e {q p : Nat} {w : Int32} (hN : 6000 ≤ N) (hB : rB P C M) (hq : q < 3) (hp : p < 6) : f_X10_differs N (nI q) (nI p) w C = some (if Dn M q w p 24 = true then 1 else 0) := by
  have key : ∀ d N' h, d < N' → h + d = 24 → Dn M q w p h = false → lp (fun _ => none) (b_X10_differs_3 N (nI q) (nI p) w C) N' (nI h) = some (if Dn M q w p 24 = true then 1 else 0) := by
    intro d
    induction d with
    | zero =>
      intro N' h hN' hh h0
      obtain ⟨N', rfl⟩ : ∃ j, N' = j + 1 := ⟨N' - 1, by omega⟩
      have : h = 24 := by omega
      subst this
      rw [q_lp]
      unfold b_X10_differs_3
      rw [if_pos (by decide), h0]
      rfl
    | succ d ih =>
      intro N' h hN' hh h0
      obtain ⟨N', rfl⟩ : ∃ j, N' = j + 1 := ⟨N' - 1, by omega⟩
      have ih' := ih N' (h + 1) (by omega) (by omega)
      rw [q_lp]
      generalize lp (fun _ => none) (b_X10_differs_3 N (nI q) (nI p) w C) N' = K at ih' ⊢
      unfold b_X10_differs_3 j_X10_differs_64
      obtain ⟨x1, x2⟩ := hB.1 (144 * q + 24 * p + h) (by omega)
      rw [if_neg (show ¬ (24 : Int32) ≤ nI h from nI_ge (b := 24) (by omega) (by omega)), at_in hq hp (by omega), at_in hq hp (by omega), q_bd, q_bd, q_jp, q_nm, ← nI_succ]
      simp only [Nat.reduceAdd]
      rw [x1, x2, ab_e (hB.2.1 _ (by omega)) (hB.2.1 _ (by omega))]
      rw [Dn_S, h0, Bool.false_or] at ih'
      by_cases y1 : M.1 14 (432 + (144 * q + 24 * p + h)) = -100
      · rw [if_pos y1]
        exact ih' (decide_eq_false fun z => z.2.1 y1)
      · rw [if_neg y1]
        by_cases y2 : M.1 14 (144 * q + 24 * p + h) = -100
        · rw [if_pos y2]
          exact ih' (decide_eq_false fun z => z.1 y2)
        · rw [if_neg y2]
          by_cases y3 : (if M.1 14 (432 + (144 * q + 24 * p + h)) ≤ M.1 14 (144 * q + 24 * p + h) then M.1 14 (144 * q + 24 * p + h) - M.1 14 (432 + (144 * q + 24 * p + h)) else M.1 14 (432 + (144 * q + 24 * p + h)) - M.1 14 (144 * q + 24 * p + h)) ≤ w
          · rw [if_pos y3]
            exact ih' (decide_eq_false fun z => z.2.2 y3)
          · rw [if_neg y3]
            have : Dn M q w p 24 = true := decide_eq_true ⟨h, by omega, decide_eq_true ⟨y2, y1, y3⟩⟩
            rw [if_pos this]
  unfold f_X10_differs
  rw [q_jp]
  have := key 24 N 0 (by omega) (by omega) Dn_0
  have e0 : (0 : Int32) = nI 0 := rfl
  rw [show lp (fun _ => none) (b_X10_differs_3 N (nI q) (nI p) w C) N 0 = _ from this]
  by_cases e : Dn M q w p 24 = true
  · rw [if_pos e]; rfl
  · rw [if_neg e]; rfl
theorem mdiff_e {q p x : Nat} {w : Int32} {K : Int32 → Option (Int32 × St)} {M1 : St} (hN : 6000 ≤ N) (h14 : M1.1 14 = M.1 14) (hq : q < 3) (hp : p < 6) : lp (fun _ _ => none) (b_X11_changed_37 (nI q) w M1 (nI p) K) N (nI x) 0 = K (nI (x ||| (if Dn M q w p 24 = true then 2 ^ p else 0))) := by
  have key : ∀ d N' h, d < N' → h + d = 24 → lp (fun _ _ => none) (b_X11_changed_37 (nI q) w M1 (nI p) K) N' (nI (x ||| (if Dn M q w p h = true then 2 ^ p else 0))) (nI h) = K (nI (x ||| (if Dn M q w p 24 = true then 2 ^ p else 0))) := by
    intro d
    induction d with
    | zero =>
      intro N' h hN' hh
      obtain ⟨N', rfl⟩ : ∃ j, N' = j + 1 := ⟨N' - 1, by omega⟩
      have : h = 24 := by omega
      subst this
      rw [q_lp]
      unfold b_X11_changed_37
      rw [if_pos (by decide)]
    | succ d ih =>
      intro N' h hN' hh
      obtain ⟨N', rfl⟩ : ∃ j, N' = j + 1 := ⟨N' - 1, by omega⟩
      have ih' := ih N' (h + 1) (by omega) (by omega)
      rw [q_lp]
      generalize lp (fun _ _ => none) (b_X11_changed_37 (nI q) w M1 (nI p) K) N' = L at ih' ⊢
      unfold b_X11_changed_37 j_X11_changed_110 j_X11_changed_139
      have e1 : ((144 : Int32) * nI q) + (24 * nI p) + nI h = nI (144 * q + 24 * p + h) := by
        have : nI 144 * nI q + nI 24 * nI p + nI h = nI (144 * q + 24 * p + h) := by rw [q_mul, q_mul, q_add, q_add]
        exact this
      have e2 : ((432 : Int32) + (144 * nI q)) + (24 * nI p) + nI h = nI (432 + (144 * q + 24 * p + h)) := by
        have : nI 432 + nI 144 * nI q + nI 24 * nI p + nI h = nI (432 + (144 * q + 24 * p + h)) := by
          rw [q_mul, q_mul, q_add, q_add, q_add]
          congr 1
          omega
        exact this
      simp only [q_nm, q_jp]
      rw [if_neg (show ¬ (24 : Int32) ≤ nI h from nI_ge (b := 24) (by omega) (by omega)), e1, e2, q_ck (by omega) (by omega), q_ck (by omega) (by omega), q_tn (by omega), q_tn (by omega), h14, ← nI_succ, q_shl p (by omega), q_or]
      rw [Dn_S] at ih'
      generalize hD : Df M q w p h = D at ih'
      unfold Df at hD
      generalize M.1 14 (144 * q + 24 * p + h) = va at hD ⊢
      generalize M.1 14 (432 + (144 * q + 24 * p + h)) = vb at hD ⊢
      have go : ∀ v : Int32, decide (va ≠ -100 ∧ vb ≠ -100 ∧ ¬ v ≤ w) = D → (if va = -100 then L (nI (x ||| (if Dn M q w p h = true then 2 ^ p else 0))) (nI (h + 1)) else if vb = -100 then L (nI (x ||| (if Dn M q w p h = true then 2 ^ p else 0))) (nI (h + 1)) else if v ≤ w then L (nI (x ||| (if Dn M q w p h = true then 2 ^ p else 0))) (nI (h + 1)) else L (nI ((x ||| (if Dn M q w p h = true then 2 ^ p else 0)) ||| 2 ^ p)) (nI (h + 1))) = K (nI (x ||| (if Dn M q w p 24 = true then 2 ^ p else 0))) := by
        intro v hv
        by_cases y1 : va = -100
        · rw [if_pos y1]
          have : D = false := by rw [← hv]; exact decide_eq_false fun z => z.1 y1
          rw [this, Bool.or_false] at ih'
          exact ih'
        · rw [if_neg y1]
          by_cases y2 : vb = -100
          · rw [if_pos y2]
            have : D = false := by rw [← hv]; exact decide_eq_false fun z => z.2.1 y2
            rw [this, Bool.or_false] at ih'
            exact ih'
          · rw [if_neg y2]
            by_cases y3 : v ≤ w
            · rw [if_pos y3]
              have : D = false := by rw [← hv]; exact decide_eq_false fun z => z.2.2 y3
              rw [this, Bool.or_false] at ih'
              exact ih'
            · rw [if_neg y3]
              have : D = true := by rw [← hv]; exact decide_eq_true ⟨y1, y2, y3⟩
              rw [this, Bool.or_true, if_pos rfl] at ih'
              have eo : (x ||| (if Dn M q w p h = true then 2 ^ p else 0)) ||| 2 ^ p = x ||| 2 ^ p := by
                by_cases z : Dn M q w p h = true
                · rw [if_pos z, Nat.or_assoc, Nat.or_self]
                · rw [if_neg z, Nat.or_zero]
              rw [eo]
              exact ih'
      by_cases c : vb ≤ va
      · rw [if_pos c]
        rw [if_pos c] at hD
        exact go _ hD
      · rw [if_neg c]
        rw [if_neg c] at hD
        exact go _ hD
  have := key 24 N 0 (by omega) (by omega)
  rw [Dn_0] at this
  rw [if_neg (by decide), Nat.or_zero] at this
  exact this
theorem R_changed {q w : Int32} (hN : 6000 ≤ N) (h : RelP P R B C M) : ∃ r M', f_X10_changed N q w C = some r ∧ f_X11_changed N q w M = some (r, M') ∧ RelP P R B C M' := by
  have hB := h.2.2.2.2.2.1
  have hP6 := h.mb.2.2.2.1
  have h2 := h.m2 0
  unfold f_X10_changed f_X11_changed
  rw [q_nm]
  by_cases e0 : q < 0
  · rw [if_pos e0, if_pos e0]
    exact ⟨_, _, rfl, rfl, h2⟩
  · rw [if_neg e0, if_neg e0]
    obtain ⟨q', hq', rfl⟩ := q_of e0
    have c3 : ((3 : Int32) ≤ nI q') = (3 ≤ q') := q_le (a := 3) (by omega) (by omega)
    have c2 : ((2 : Int32) < nI q') = (2 < q') := q_lt (a := 2) (by omega) (by omega)
    by_cases e1 : 3 ≤ q'
    · rw [if_pos (show (3 : Int32) ≤ nI q' by rw [c3]; exact e1), if_pos (show (2 : Int32) < nI q' by rw [c2]; omega)]
      exact ⟨_, _, rfl, rfl, h2⟩
    · rw [if_neg (show ¬ (3 : Int32) ≤ nI q' by rw [c3]; exact e1), if_neg (show ¬ (2 : Int32) < nI q' by rw [c2]; omega)]
      by_cases e2 : 0 ≤ w
      · rw [if_pos e2, if_pos e2, q_jp, q_jp]
        have hc : ∀ d N' p, d < N' → p + d = P → lp (fun _ _ => none) (b_X10_changed_20 N (nI q') w C) N' (nI (fset (fun p => Dn M q' w p 24) p)) (nI p) = some (nI (fset (fun p => Dn M q' w p 24) P)) := by
          intro d
          induction d with
          | zero =>
            intro N' p hN' hp
            obtain ⟨N', rfl⟩ : ∃ j, N' = j + 1 := ⟨N' - 1, by omega⟩
            have : p = P := by omega
            subst this
            rw [q_lp]
            unfold b_X10_changed_20
            rw [h.cr.1, if_pos (by rw [q_le (by omega) (by omega)]; omega)]
          | succ d ih =>
            intro N' p hN' hp
            obtain ⟨N', rfl⟩ : ∃ j, N' = j + 1 := ⟨N' - 1, by omega⟩
            have ih' := ih N' (p + 1) (by omega) (by omega)
            rw [q_lp]
            generalize lp (fun _ _ => none) (b_X10_changed_20 N (nI q') w C) N' = K at ih' ⊢
            unfold b_X10_changed_20 j_X10_changed_50
            rw [h.cr.1, if_neg (by rw [q_le (by omega) (by omega)]; omega), cdiff_e hN hB (by omega) (by omega), q_bd, q_jp]
            simp only [q_nm]
            rw [← nI_succ, q_shl p (by omega), q_or]
            rw [fset_S] at ih'
            by_cases e : Dn M q' w p 24 = true
            · rw [if_pos e] at ih' ⊢
              rw [if_neg (show ¬ (1 : Int32) = 0 by decide)]
              exact ih'
            · rw [if_neg e, Nat.or_zero] at ih'
              rw [if_neg e, if_pos (show (0 : Int32) = 0 from rfl)]
              exact ih'
        have hm : ∀ d N' p, d < N' → p + d = P → lp (fun _ _ => none) (b_X11_changed_25 N (nI q') w (puI M 0 2 0)) N' (nI (fset (fun p => Dn M q' w p 24) p)) (nI p) = some (nI (fset (fun p => Dn M q' w p 24) P), puI M 0 2 0) := by
          intro d
          induction d with
          | zero =>
            intro N' p hN' hp
            obtain ⟨N', rfl⟩ : ∃ j, N' = j + 1 := ⟨N' - 1, by omega⟩
            have : p = P := by omega
            subst this
            rw [q_lp]
            unfold b_X11_changed_25
            rw [h2.mb.1, if_pos (by rw [q_le (by omega) (by omega)]; omega)]
          | succ d ih =>
            intro N' p hN' hp
            obtain ⟨N', rfl⟩ : ∃ j, N' = j + 1 := ⟨N' - 1, by omega⟩
            have ih' := ih N' (p + 1) (by omega) (by omega)
            rw [q_lp]
            generalize lp (fun _ _ => none) (b_X11_changed_25 N (nI q') w (puI M 0 2 0)) N' = K at ih' ⊢
            unfold b_X11_changed_25
            rw [h2.mb.1, if_neg (by rw [q_le (by omega) (by omega)]; omega), q_jp, q_jp, mdiff_e hN (q_gRf _ _ _ _ _ (by omega)) (by omega) (by omega)]
            unfold j_X11_changed_145
            rw [q_nm, ← nI_succ]
            rw [fset_S] at ih'
            exact ih'
        have c0 := hc P N 0 (by omega) (by omega)
        have m0 := hm P N 0 (by omega) (by omega)
        exact ⟨_, _, c0, m0, h2⟩
      · rw [if_neg e2, if_neg e2]
        exact ⟨_, _, rfl, rfl, h2⟩
end CHG
