/-! pure part: one step of the class' reader beside one of the reference's -/
theorem cmpA1 {β : Type} {body : (Int32 → Int32 → Option β) → Int32 → Int32 → Option β} {exit : Int32 → Option β} {E : Nat → Prop} [DecidablePred E] {m a : Nat} [Decidable (∀ i, i < m → E i)]
    (hend : ∀ k v, body k v (nI (a + m)) = exit v) (hz : ∀ k i, i < m → body k 0 (nI (a + i)) = exit 0) (hs : ∀ k i, i < m → body k 1 (nI (a + i)) = k (if E i then 1 else 0) (nI (a + i + 1))) {N : Nat} (hN : m < N) :
    lp (fun _ _ => none) body N 1 (nI a) = exit (if (∀ i, i < m → E i) then 1 else 0) := by
  have key : ∀ d N' i, d < N' → i + d = m → (∀ x, x < i → E x) → lp (fun _ _ => none) body N' 1 (nI (a + i)) = exit (if (∀ i, i < m → E i) then 1 else 0) := by
    intro d
    induction d with
    | zero =>
      intro N' i hN' hi hx
      obtain ⟨N', rfl⟩ : ∃ k, N' = k + 1 := ⟨N' - 1, by omega⟩
      have : i = m := by omega
      subst this
      rw [q_lp, hend, if_pos hx]
    | succ d ih =>
      intro N' i hN' hi hx
      obtain ⟨N', rfl⟩ : ∃ k, N' = k + 1 := ⟨N' - 1, by omega⟩
      rw [q_lp, hs _ i (by omega)]
      by_cases e : E i
      · rw [if_pos e]
        refine ih N' (i + 1) (by omega) (by omega) ?_
        intro x hx2
        by_cases hxi : x < i
        · exact hx x hxi
        · have : x = i := by omega
          rw [this]; exact e
      · rw [if_neg e, if_neg (fun q => e (q i (by omega)))]
        obtain ⟨N', rfl⟩ : ∃ k, N' = k + 1 := ⟨N' - 1, by omega⟩
        rw [q_lp]
        by_cases hm : i + 1 < m
        · have := hz (lp (fun _ _ => none) body N') (i + 1) hm
          exact this
        · have e2 : a + i + 1 = a + m := by omega
          rw [e2, hend]
  exact key m N 0 hN (by omega) (fun x hx => by omega)
theorem cmpA0 {β : Type} {body : (Int32 → Int32 → Option β) → Int32 → Int32 → Option β} {exit : Int32 → Option β} {m a : Nat}
    (hend : ∀ k v, body k v (nI (a + m)) = exit v) (hz : ∀ k i, i < m → body k 0 (nI (a + i)) = exit 0) {N : Nat} (hN : 0 < N) :
    lp (fun _ _ => none) body N 0 (nI a) = exit 0 := by
  obtain ⟨N', rfl⟩ : ∃ k, N = k + 1 := ⟨N - 1, by omega⟩
  rw [q_lp]
  by_cases hm : 0 < m
  · exact hz _ 0 hm
  · have : m = 0 := by omega
    subst this
    exact hend _ _
def PX (at_ bt r k : Nat) : Prop := (r = 0 ∧ 23 ≤ k ∧ k ≤ 28) ∨ (r = 3 ∧ k = at_) ∨ (r = 2 ∧ 12 * at_ ≤ k ∧ k < 12 * at_ + 12) ∨ (r = 4 ∧ k = at_) ∨ ((5 ≤ r ∧ r ≤ 9 ∨ r = 11) ∧ k = bt) ∨ (r = 10 ∧ 12 * bt ≤ k ∧ k < 12 * bt + 12)
theorem PT_PX {at_ bt : Nat} : ∀ r k, PT r k → PX at_ bt r k := by
  intro r k h
  unfold PT at h
  unfold PX
  omega
theorem mB.px {b : Nat → Nat} {n : Nat} {M M' : St} {at_ bt : Nat} (h : mB b n M) (hf : fr (PX at_ bt) M M') : mB b n M' := h.go hf (fun k q => by unfold PX at q; omega) (fun q => by unfold PX at q; omega) (fun k q => by unfold PX at q; omega)
theorem RN.go {rr pi ri P R : Nat} {C M C' M' : St} (h : RN rr pi ri P R C M) (c9 : C'.1 rr 9 = C.1 rr 9) (c10 : C'.1 rr 10 = C.1 rr 10) (c1 : ∀ i, i < P → C'.2 (rr + 1) i = C.2 (rr + 1) i) (c2 : ∀ i, i < R → C'.2 (rr + 2) i = C.2 (rr + 2) i) (c3 : ∀ i, i < R → C'.1 (rr + 3) i = C.1 (rr + 3) i)
    (mp : ∀ i, i < P → M'.1 3 (pi + i) = M.1 3 (pi + i) ∧ M'.1 4 (pi + i) = M.1 4 (pi + i) ∧ ∀ k, k < 12 → M'.1 2 (12 * (pi + i) + k) = M.1 2 (12 * (pi + i) + k))
    (mr : ∀ i, i < R → M'.1 3 (ri + i) = M.1 3 (ri + i) ∧ M'.1 4 (ri + i) = M.1 4 (ri + i) ∧ ∀ k, k < 12 → M'.1 2 (12 * (ri + i) + k) = M.1 2 (12 * (ri + i) + k)) : RN rr pi ri P R C' M' := by
  obtain ⟨h1, h2, h3, h4, h5, h6, h7⟩ := h
  refine ⟨c9.trans h1, c10.trans h2, h3, h4, ?_, ?_, ?_⟩
  · intro i hi
    obtain ⟨a1, a2, a3⟩ := mp i hi
    obtain ⟨b1, b2⟩ := h5 i hi
    rw [c1 i hi]
    exact ⟨b1.cg a1 a3, a2.trans b2⟩
  · intro i hi
    obtain ⟨a1, a2, a3⟩ := mr i hi
    obtain ⟨b1, m, b2, b3, b4, b5⟩ := h6 i hi
    rw [c2 i hi]
    exact ⟨b1.cg a1 a3, m, b2, b3, (c3 i hi).trans b4, a2.trans b5⟩
  · intro i j hi hj
    rw [c1 i hi, c2 j hj]
    exact h7 i j hi hj
theorem bOK.go {rr bi : Nat} {C M C' M' : St} {i : Nat} (h : bOK rr bi C M i) (c4 : C'.2 (rr + 4) i = C.2 (rr + 4) i) (c : ∀ r, 5 ≤ r → r ≤ 9 → C'.1 (rr + r) i = C.1 (rr + r) i)
    (m : ∀ r, (5 ≤ r ∧ r ≤ 9 ∨ r = 11) → M'.1 r (bi + i) = M.1 r (bi + i)) (ml : ∀ k, k < 12 → M'.1 10 (12 * (bi + i) + k) = M.1 10 (12 * (bi + i) + k)) : bOK rr bi C' M' i := by
  unfold bOK at h ⊢
  rw [c4, c 5 (by omega) (by omega), c 6 (by omega) (by omega), c 7 (by omega) (by omega), c 8 (by omega) (by omega), c 9 (by omega) (by omega), m 5 (by omega), m 6 (by omega), m 7 (by omega), m 8 (by omega), m 9 (by omega)]
  exact ⟨h.1.cg (m 11 (by omega)) ml, h.2⟩
theorem RB.go {rr bi B : Nat} {C M C' M' : St} (h : RB rr bi B C M) (c11 : C'.1 rr 11 = C.1 rr 11) (c4 : ∀ i, i < B → C'.2 (rr + 4) i = C.2 (rr + 4) i) (c : ∀ r i, 5 ≤ r → r ≤ 9 → i < B → C'.1 (rr + r) i = C.1 (rr + r) i)
    (m : ∀ r i, (5 ≤ r ∧ r ≤ 9 ∨ r = 11) → i < B → M'.1 r (bi + i) = M.1 r (bi + i)) (ml : ∀ i k, i < B → k < 12 → M'.1 10 (12 * (bi + i) + k) = M.1 10 (12 * (bi + i) + k)) : RB rr bi B C' M' := by
  obtain ⟨h1, h2, h3, h4⟩ := h
  refine ⟨c11.trans h1, h2, fun i hi => (h3 i hi).go (c4 i hi) (fun r a1 a2 => c r i a1 a2 hi) (fun r a => m r i a hi) (fun k hk => ml i k hi hk), ?_⟩
  intro i j hij hj
  rw [c 5 i (by omega) (by omega) (by omega), c 5 j (by omega) (by omega) (by omega), c 6 i (by omega) (by omega) (by omega), c 6 j (by omega) (by omega) (by omega), c 7 i (by omega) (by omega) (by omega), c 7 j (by omega) (by omega) (by omega)]
  exact h4 i j hij hj
/-- the drafts agree -/
def Zr (P R B : Nat) (C M : St) : Prop := RN 38 12 18 P R C M ∧ RB 38 24 B C M ∧ M.1 0 29 = nI P ∧ M.1 0 30 = nI R ∧ M.1 0 31 = nI B
theorem Zr.go {P R B at_ bt : Nat} {C M C' M' : St} (h : Zr P R B C M) (hC : fr PF C C') (hM : fr (PX at_ bt) M M') (ha : ∀ i, i < P → at_ ≠ 12 + i) (ha2 : ∀ i, i < R → at_ ≠ 18 + i) (hb : ∀ i, i < B → bt ≠ 24 + i) : Zr P R B C' M' := by
  obtain ⟨h1, h2, h3, h4, h5⟩ := h
  have c : ∀ r k, 38 ≤ r → C'.1 r k = C.1 r k := fun r k hr => hC.2 r k (by unfold PF; omega)
  refine ⟨?_, ?_, ?_, ?_, ?_⟩
  · refine h1.go (c _ _ (by omega)) (c _ _ (by omega)) (fun i _ => by rw [hC.1]) (fun i _ => by rw [hC.1]) (fun i _ => c _ _ (by omega)) ?_ ?_
    · intro i hi
      have := ha i hi
      refine ⟨hM.2 _ _ (by unfold PX; omega), hM.2 _ _ (by unfold PX; omega), fun k hk => hM.2 _ _ (by unfold PX; omega)⟩
    · intro i hi
      have := ha2 i hi
      refine ⟨hM.2 _ _ (by unfold PX; omega), hM.2 _ _ (by unfold PX; omega), fun k hk => hM.2 _ _ (by unfold PX; omega)⟩
  · refine h2.go (c _ _ (by omega)) (fun i _ => by rw [hC.1]) (fun r i _ _ _ => c _ _ (by omega)) ?_ ?_
    · intro r i hr hi
      have := hb i hi
      exact hM.2 _ _ (by unfold PX; omega)
    · intro i k hi hk
      have := hb i hi
      exact hM.2 _ _ (by unfold PX; omega)
  · rw [hM.2 _ _ (by unfold PX; omega)]; exact h3
  · rw [hM.2 _ _ (by unfold PX; omega)]; exact h4
  · rw [hM.2 _ _ (by unfold PX; omega)]; exact h5
/-- the class reads at p, without a fault -/
def Zc (b : Nat → Nat) (n p : Nat) (C : St) : Prop := tp C p n ∧ cb C = b ∧ KW C ∧ C.1 3 5 = 0
theorem Zc.go {b : Nat → Nat} {n p p' : Nat} {C C' : St} (h : Zc b n p C) (hf : fr PF C C') (ht : tp C' p' n) : Zc b n p' C' := by
  obtain ⟨h1, h2, h3, h4⟩ := h
  refine ⟨ht, (frcb hf).trans h2, ?_, ?_⟩
  · unfold KW
    rw [hf.1]
    exact h3
  · rw [hf.2 3 5 (by unfold PF; omega)]
    exact h4
theorem tk_sign {b : Nat → Nat} {n q c : Nat} (hc : c = 61 ∨ c = 44 ∨ c = 59) (hq : q < n) (hb : b q = c) : tkK b n q = 3 ∧ tkW b n q = nI c ∧ tkE b n q = q + 1 := by
  have hl : ¬ letP b q = true := by unfold letP; rw [decide_eq_true_eq]; omega
  have hd : ¬ (digP b q = true ∨ (b q = 45 ∧ q + 1 < n ∧ digP b (q + 1) = true)) := by unfold digP; rw [decide_eq_true_eq]; omega
  unfold tkK tkW tkE
  rw [if_neg (by omega), if_neg hl, if_neg hd, if_pos (by omega), if_neg hl, if_neg hd, if_neg (by omega), if_neg hl, if_neg hd, hb]
  exact ⟨rfl, rfl, rfl⟩
theorem tk_sign' {b : Nat → Nat} {n q : Nat} (h : tkK b n q = 3) : q < n ∧ tkW b n q = nI (b q) := by
  unfold tkK at h
  unfold tkW
  split at h
  · omega
  · next h0 =>
    refine ⟨by omega, ?_⟩
    split at h
    · split at h <;> omega
    · next h1 =>
      rw [if_neg h1]
      split at h
      · omega
      · next h2 => rw [if_neg h2]
theorem tkK_le (b : Nat → Nat) (n q : Nat) : tkK b n q ≤ 4 := by
  unfold tkK
  repeat' split
  all_goals omega
theorem need_l {N : Nat} {b : Nat → Nat} {n p c : Nat} {C M : St} (hN : 6000 ≤ N) (hc : c = 61 ∨ c = 44 ∨ c = 59) (hb : ∀ k, k < 1000 → b k < 256) (hZ : Zc b n p C) (hM : mB b n M) (hT : TkS b n (sk b n p) M) :
    (sk b n p < n ∧ b (sk b n p) = c → f_X5_readSign N (nI c) C = some (cat C (sk b n p + 1)) ∧ ok (f_X11_need N (nI c) M) fun r => r.1 = 1 ∧ TkS b n (sk b n (sk b n p + 1)) r.2 ∧ fr PT M r.2) ∧
    (¬ (sk b n p < n ∧ b (sk b n p) = c) → f_X5_readSign N (nI c) C = some (failS 1 (nI (sk b n p)) (cat C (sk b n p))) ∧ f_X11_need N (nI c) M = some (0, wrongS 1 (nI (sk b n p)) M)) := by
  obtain ⟨z1, rfl, z3, z4⟩ := hZ
  have hs := readSign_e (c := c) hN (by omega) z1
  have hn := z1.2.2.2
  generalize hq : sk (cb C) n p = q at hs hT ⊢
  obtain ⟨t0, t26, t24, t25, t23, t27⟩ := hT
  have hk := tkK_le (cb C) n q
  have k3 : (nI (tkK (cb C) n q) = 3) = (tkK (cb C) n q = 3) := q_eq (b := 3) (by omega) (by omega)
  constructor
  · intro h
    obtain ⟨e1, e2, e3⟩ := tk_sign hc h.1 h.2
    rw [hs, if_pos h]
    refine ⟨rfl, ?_⟩
    unfold f_X11_need
    apply ok_zb
    rw [q_jp, t24, t25 h.1, if_pos (k3 ▸ e1), e2, if_pos rfl]
    refine ok_bd (mtake hN hM (p := q + 1) (by omega) (by rw [t23, e3])) ?_
    intro M' hM'
    exact ok_s ⟨Or.inr rfl, rfl, hM'.1, hM'.2⟩
  · intro h
    rw [hs, if_neg h]
    refine ⟨rfl, ?_⟩
    unfold f_X11_need j_X11_need_16
    rw [q_jp, t24, t26, wrong_e, q_bd2]
    by_cases e1 : tkK (cb C) n q = 3
    · obtain ⟨e2, e3⟩ := tk_sign' e1
      have hbq := hb q (by omega)
      rw [if_pos (k3 ▸ e1), t25 e2, e3, if_neg (by rw [q_eq (by omega) (by omega)]; intro w; exact h ⟨e2, w⟩)]
      rfl
    · rw [if_neg (fun w => e1 (k3 ▸ w))]
      rfl
theorem within_i (N : Nat) (v lo hi : Int32) : f_X10_isWithin N v lo hi = some (if lo.toInt ≤ v.toInt ∧ v.toInt ≤ hi.toInt then 1 else 0) := by
  unfold f_X10_isWithin
  simp only [Int32.lt_iff_toInt_lt]
  by_cases h1 : v.toInt < lo.toInt
  · rw [if_pos h1, if_neg (by omega)]; rfl
  · rw [if_neg h1]
    by_cases h2 : hi.toInt < v.toInt
    · rw [if_pos h2, if_neg (by omega)]; rfl
    · rw [if_neg h2, if_pos (by omega)]; rfl
theorem q_neg {a : Nat} (h : a < 2147483648) : (- nI a).toInt = -(a : Int) := by
  have e := nI_toInt h
  rw [Int32.toInt_neg, e, Int.bmod_eq_of_le (by omega) (by omega)]
def PT8 (r k : Nat) : Prop := r = 0 ∧ 23 ≤ k ∧ k ≤ 28
def numP (b : Nat → Nat) (n q : Nat) : Prop := q < n ∧ (digP b q = true ∨ (b q = 45 ∧ q + 1 < n ∧ digP b (q + 1) = true))
theorem numP_not {b : Nat → Nat} {n q : Nat} (h : numP b n q) : ¬ letP b q = true := by
  unfold numP digP at h
  unfold letP
  rw [decide_eq_true_eq] at h ⊢
  omega
theorem tk_num {b : Nat → Nat} {n q : Nat} : tkK b n q = 2 ↔ numP b n q := by
  constructor
  · intro h
    unfold tkK at h
    split at h
    · omega
    · next h0 =>
      split at h
      · split at h <;> omega
      · split at h
        · next h2 => exact ⟨by omega, h2⟩
        · split at h <;> omega
  · intro h
    unfold tkK
    rw [if_neg (by have := h.1; omega), if_neg (numP_not h), if_pos h.2]
/-- the class' reading of a number -/
theorem readNumber_e {N : Nat} {lo hi : Int32} {C : St} {p n : Nat} (hN : 6000 ≤ N) (h : tp C p n) (q s : Nat) (hq : sk (cb C) n p = q) (hs : s = if q < n ∧ cb C q = 45 then q + 1 else q) :
    f_X5_readNumber N lo hi C = j_X5_readNumber_39 N lo hi (nI q) (td (cb C) n s) (cat C (dE (cb C) n s)) (if q < n ∧ cb C q = 45 then - td (cb C) n s else td (cb C) n s) := by
  have hqn := sk_le (b := cb C) h.2.2.1
  rw [hq] at hqn
  unfold f_X5_readNumber
  have ht := take_e (N := N) (c := 45) (by omega) (h.cat hqn)
  have ht' : f_X8_take N 45 (cat C q) = _ := ht
  rw [skip10 hN h, q_bd, hq, q_nm, cat_at, ht', cat_cb, cat_cat]
  by_cases e : q < n ∧ cb C q = 45
  · rw [if_pos e] at hs
    subst hs
    rw [if_pos e, q_bd2, takeDigits_e hN (h.cat (by omega)), cat_cb, cat_cat, q_bd2, q_jp, if_neg (by decide), if_pos e]
  · rw [if_neg e] at hs
    subst hs
    rw [if_neg e, q_bd2, takeDigits_e hN (h.cat hqn), cat_cb, cat_cat, q_bd2, q_jp, if_pos rfl, if_neg e]
theorem dE_pos {b : Nat → Nat} {n s : Nat} : dE b n s ≠ s ↔ s < n ∧ digP b s = true := by
  constructor
  · intro h
    by_cases h1 : s < n
    · refine ⟨h1, ?_⟩
      apply Decidable.byContradiction
      intro h2
      apply h
      unfold dE
      rw [scan_st h1, if_neg h2]
    · exact absurd (by unfold dE; rw [scan_z (by omega)]) h
  · rintro ⟨h1, h2⟩ h3
    have h4 : dE b n s = scan (digP b) (n - s) s := rfl
    rw [scan_st h1, if_pos h2] at h4
    have := scan_ge (digP b) (n - (s + 1)) (s + 1)
    omega
theorem numeral_l {N : Nat} {b : Nat → Nat} {n p : Nat} {lo hi : Int32} {C M : St} (hN : 6000 ≤ N) (hlo : -99 ≤ lo.toInt) (hhi : hi.toInt ≤ 999) (hZ : Zc b n p C) (hM : mB b n M) (hT : TkS b n (sk b n p) M) :
    (∃ v e, lo.toInt ≤ v.toInt ∧ v.toInt ≤ hi.toInt ∧ sk b n p < e ∧ e ≤ n ∧ f_X5_readNumber N lo hi C = some (v, cat C e) ∧ ok (f_X11_numeral N lo hi M) fun r => r.1 = 1 ∧ r.2.1 0 28 = v ∧ TkS b n (sk b n e) r.2 ∧ fr PT8 M r.2) ∨
    (∃ k v e, (k = 1 ∨ k = 2) ∧ e ≤ n ∧ f_X5_readNumber N lo hi C = some (v, failS k (nI (sk b n p)) (cat C e)) ∧ f_X11_numeral N lo hi M = some (0, wrongS k (nI (sk b n p)) M)) := by
  obtain ⟨z1, rfl, z3, z4⟩ := hZ
  have hn := z1.2.2.2
  have hre := readNumber_e (lo := lo) (hi := hi) hN z1 (sk (cb C) n p) _ rfl rfl
  have hsk := sk_le (b := cb C) z1.2.2.1
  generalize hq : sk (cb C) n p = q at hre hT hsk ⊢
  obtain ⟨t0, t26, t24, t25, t23, t27⟩ := hT
  have hk := tkK_le (cb C) n q
  have k2 : (nI (tkK (cb C) n q) = 2) = (tkK (cb C) n q = 2) := q_eq (b := 2) (by omega) (by omega)
  by_cases hnum : numP (cb C) n q
  · -- a number
    have hns : (if q < n ∧ cb C q = 45 then q + 1 else q) = nst (cb C) q := by
      unfold nst
      by_cases e : cb C q = 45
      · rw [if_pos ⟨hnum.1, e⟩, if_pos e]
      · rw [if_neg (fun w => e w.2), if_neg e]
    rw [hns] at hre
    have hs : nst (cb C) q < n ∧ digP (cb C) (nst (cb C) q) = true := by
      unfold nst
      rcases hnum with ⟨h1, h2 | h2⟩
      · have : ¬ cb C q = 45 := by unfold digP at h2; rw [decide_eq_true_eq] at h2; omega
        rw [if_neg this]; exact ⟨h1, h2⟩
      · rw [if_pos h2.1]; exact h2.2
    have hqs : q ≤ nst (cb C) q := by unfold nst; split <;> omega
    generalize hse : nst (cb C) q = s at hre hs hqs
    have hd := dE_pos.mpr hs
    have hge := dE_ge (cb C) n s
    have hle := dE_le (b := cb C) (n := n) (p := s) (by omega)
    obtain ⟨m1, m2⟩ := mv_le (b := cb C) (s := s) (j := dE (cb C) n s - s) dE_in
    have htd : td (cb C) n s = nI (dv (cb C) s (dE (cb C) n s - s)) := by unfold td; rw [if_neg hd]
    have hW : tkW (cb C) n q = if cb C q = 45 then - nI (mv (cb C) s (dE (cb C) n s - s)) else nI (mv (cb C) s (dE (cb C) n s - s)) := by
      unfold tkW
      rw [if_neg (numP_not hnum), if_pos hnum.2, hse]
    have hE : tkE (cb C) n q = dE (cb C) n s := by
      unfold tkE
      rw [if_neg (by omega), if_neg (numP_not hnum), if_pos hnum.2, hse]
    have hdv := dv_le (cb C) s (dE (cb C) n s - s)
    -- the class' value
    generalize hcv : (if q < n ∧ cb C q = 45 then - td (cb C) n s else td (cb C) n s) = cv at hre
    have hcv' : cv.toInt = (if cb C q = 45 then -(dv (cb C) s (dE (cb C) n s - s) : Int) else (dv (cb C) s (dE (cb C) n s - s) : Int)) := by
      rw [← hcv, htd]
      by_cases e : cb C q = 45
      · rw [if_pos ⟨hnum.1, e⟩, if_pos e, q_neg (by omega)]
      · rw [if_neg (fun w => e w.2), if_neg e, nI_toInt (by omega)]
    have hmv' : (tkW (cb C) n q).toInt = (if cb C q = 45 then -(mv (cb C) s (dE (cb C) n s - s) : Int) else (mv (cb C) s (dE (cb C) n s - s) : Int)) := by
      rw [hW]
      by_cases e : cb C q = 45
      · rw [if_pos e, if_pos e, q_neg (by omega)]
      · rw [if_neg e, if_neg e, nI_toInt (by omega)]
    have hiff : (lo.toInt ≤ cv.toInt ∧ cv.toInt ≤ hi.toInt ↔ lo.toInt ≤ (tkW (cb C) n q).toInt ∧ (tkW (cb C) n q).toInt ≤ hi.toInt) ∧ (lo.toInt ≤ cv.toInt ∧ cv.toInt ≤ hi.toInt → cv = tkW (cb C) n q) := by
      have hc : mv (cb C) s (dE (cb C) n s - s) ≤ 100000 ∨ 100000 < mv (cb C) s (dE (cb C) n s - s) := by omega
      rw [← Int32.toInt_inj, hcv', hmv', m2]
      split <;> omega
    have hj : j_X5_readNumber_39 N lo hi (nI q) (td (cb C) n s) (cat C (dE (cb C) n s)) cv = if lo.toInt ≤ cv.toInt ∧ cv.toInt ≤ hi.toInt then some (cv, cat C (dE (cb C) n s)) else some (cv, failS 2 (nI q) (cat C (dE (cb C) n s))) := by
      unfold j_X5_readNumber_39
      rw [htd, if_neg (by rw [q_m1 (by omega)]; exact fun w => w), within_i, q_bd, fail_e]
      by_cases e : lo.toInt ≤ cv.toInt ∧ cv.toInt ≤ hi.toInt
      · rw [if_pos e, if_pos e, if_neg (by decide)]
      · rw [if_neg e, if_neg e, if_pos rfl]; rfl
    rw [hre, hj]
    by_cases e : lo.toInt ≤ cv.toInt ∧ cv.toInt ≤ hi.toInt
    · left
      refine ⟨cv, dE (cb C) n s, e.1, e.2, by omega, hle, by rw [if_pos e], ?_⟩
      have hve := hiff.2 e
      unfold f_X11_numeral j_X11_numeral_34
      apply ok_zb
      rw [t24, if_pos (k2 ▸ tk_num.mpr hnum), q_jp, t25 hnum.1, ← hve]
      simp only [Int32.lt_iff_toInt_lt, Int32.le_iff_toInt_le]
      rw [if_neg (by omega), if_pos e.2, q_nm]
      have hf : fr PT8 M (puI M 0 28 cv) := fr.rf.pu ⟨rfl, by omega, by omega⟩
      have hM2 : mB (cb C) n (puI M 0 28 cv) := hM.go hf (fun k q => by unfold PT8 at q; omega) (fun q => by unfold PT8 at q; omega) (fun k q => by unfold PT8 at q; omega)
      refine ok_bd (mtake hN hM2 (p := dE (cb C) n s) hle (by simp (disch := omega) only [q_nm, q_jp, q_bd, q_bd2, q_zb0, q_zb1, q_zbn0, q_zbn1, q_z10, q_z11, q_z1n0, q_z1n1, q_lit, q_add, q_mul, q_lt, q_le, q_eq, q_tn, q_ck, q_nm1, q_n1e, q_gS, q_gR, q_gK, q_g2, if_true, if_false, t23, hE])) ?_
      intro M' hM'
      refine ok_s ⟨Or.inr rfl, rfl, ?_, hM'.1, hf.tr (hM'.2.mo (fun r k w => by unfold PT at w; unfold PT8; omega))⟩
      rw [hM'.2.2 0 28 (by unfold PT; omega), q_gS]
    · right
      refine ⟨2, cv, dE (cb C) n s, Or.inr rfl, hle, by rw [if_neg e], ?_⟩
      have e' : ¬ (lo.toInt ≤ (tkW (cb C) n q).toInt ∧ (tkW (cb C) n q).toInt ≤ hi.toInt) := fun w => e (hiff.1.mpr w)
      unfold f_X11_numeral j_X11_numeral_34
      rw [t24, if_pos (k2 ▸ tk_num.mpr hnum), q_jp, t25 hnum.1, wrong_e, q_bd2, t26]
      simp only [Int32.lt_iff_toInt_lt, Int32.le_iff_toInt_le]
      by_cases e3 : (tkW (cb C) n q).toInt < lo.toInt
      · rw [if_pos e3]; rfl
      · rw [if_neg e3, if_neg (by omega)]; rfl
  · right
    have hd : ¬ dE (cb C) n (if q < n ∧ cb C q = 45 then q + 1 else q) ≠ (if q < n ∧ cb C q = 45 then q + 1 else q) := by
      rw [dE_pos]
      intro w
      apply hnum
      by_cases e : q < n ∧ cb C q = 45
      · rw [if_pos e] at w
        exact ⟨e.1, Or.inr ⟨e.2, w⟩⟩
      · rw [if_neg e] at w
        exact ⟨w.1, Or.inl w.2⟩
    have hsn : (if q < n ∧ cb C q = 45 then q + 1 else q) ≤ n := by split <;> omega
    generalize (if q < n ∧ cb C q = 45 then q + 1 else q) = s at hre hd hsn
    have hd' : dE (cb C) n s = s := Decidable.not_not.mp hd
    have htd : td (cb C) n s = -1 := by unfold td; rw [if_pos hd']
    have hj : ∀ cv, j_X5_readNumber_39 N lo hi (nI q) (td (cb C) n s) (cat C (dE (cb C) n s)) cv = some (cv, failS 1 (nI q) (cat C s)) := by
      intro cv
      unfold j_X5_readNumber_39
      rw [htd, if_pos rfl, fail_e, q_bd, hd']
    refine ⟨1, _, s, Or.inl rfl, hsn, by rw [hre, hj], ?_⟩
    unfold f_X11_numeral
    rw [t24, if_neg (fun w => hnum (tk_num.mp (k2 ▸ w))), wrong_e, q_bd2, t26]
    rfl
