/-! pure part: the class' tape -/
def scan (P : Nat → Bool) : Nat → Nat → Nat
  | 0, p => p
  | d + 1, p => if P p then scan P d (p + 1) else p
theorem scan_ge (P : Nat → Bool) : ∀ d p, p ≤ scan P d p
  | 0, p => Nat.le_refl p
  | d + 1, p => by
    unfold scan
    split
    · have := scan_ge P d (p + 1); omega
    · omega
theorem scan_le (P : Nat → Bool) : ∀ d p, scan P d p ≤ p + d
  | 0, p => Nat.le_refl p
  | d + 1, p => by
    unfold scan
    split
    · have := scan_le P d (p + 1); omega
    · omega
theorem scan_in (P : Nat → Bool) : ∀ d p k, p ≤ k → k < scan P d p → P k = true
  | 0, p, k => fun h1 h2 => by unfold scan at h2; omega
  | d + 1, p, k => fun h1 h2 => by
    unfold scan at h2
    split at h2
    · next h =>
      by_cases e : k = p
      · rw [e]; exact h
      · exact scan_in P d (p + 1) k (by omega) h2
    · omega
theorem scan_end (P : Nat → Bool) : ∀ d p, scan P d p < p + d → P (scan P d p) = false
  | 0, p => fun h => by unfold scan at h; omega
  | d + 1, p => fun h => by
    unfold scan at h ⊢
    split
    · next h1 =>
      rw [if_pos h1] at h
      exact scan_end P d (p + 1) (by omega)
    · next h1 => exact eq_false_of_ne_true h1
/-- a byte of the class' tape -/
def cb (C : St) (k : Nat) : Nat := ((C.1 2 k) &&& 255).toNatClampNeg
theorem cb_e (C : St) (k : Nat) : (C.1 2 k) &&& 255 = nI (cb C k) ∧ cb C k < 256 := by
  have h : ∃ n, n < 256 ∧ (C.1 2 k) &&& 255 = nI n := by
    refine ⟨(C.1 2 k).toBitVec.toNat &&& 255, ?_, ?_⟩
    · have := Nat.and_le_right (n := (C.1 2 k).toBitVec.toNat) (m := 255); omega
    · have e : C.1 2 k = nI (C.1 2 k).toBitVec.toNat := Int32.toBitVec_inj.mp (by show _ = BitVec.ofNat 32 _; simp)
      rw [← q_and, ← e]; rfl
  obtain ⟨n, h1, h2⟩ := h
  unfold cb
  rw [h2, q_tn (by omega)]
  exact ⟨rfl, h1⟩
def cat (C : St) (q : Nat) : St := puI C 1 2 (nI q)
theorem cat_s (C : St) (p : Nat) : puI C 1 2 (nI p + 1) = cat C (p + 1) := by unfold cat; rw [nI_succ]
theorem cat_cat (C : St) (p q : Nat) : cat (cat C p) q = cat C q := q_pp C 1 2 _ _
theorem cat_at (C : St) (q : Nat) : (cat C q).1 1 2 = nI q := q_gS C 1 2 _
theorem cat_self {C : St} {p : Nat} (h : C.1 1 2 = nI p) : cat C p = C := q_ps C 1 2 _ h
theorem cat_o (C : St) (q r k : Nat) (h : r ≠ 1 ∨ k ≠ 2) : (cat C q).1 r k = C.1 r k := by
  unfold cat
  rw [q_g, if_neg (by omega)]
theorem cat_cb (C : St) (q : Nat) : cb (cat C q) = cb C := by
  funext k
  unfold cb
  rw [cat_o C q 2 k (by omega)]
/-- the tape is open: it is read up to n, and stands at p -/
def tp (C : St) (p n : Nat) : Prop := C.1 1 2 = nI p ∧ C.1 1 3 = nI n ∧ p ≤ n ∧ n ≤ 1000
theorem tp.cat {C : St} {p n q : Nat} (h : tp C p n) (hq : q ≤ n) : tp (cat C q) q n := ⟨cat_at C q, (cat_o C q 1 3 (by omega)).trans h.2.1, hq, h.2.2.2⟩
theorem look_e {N : Nat} {C : St} {p n : Nat} (h : tp C p n) : f_X8_look N C = some (if p < n then nI (cb C p) else -1) := by
  obtain ⟨h1, h2, h3, h4⟩ := h
  unfold f_X8_look
  rw [h1, h2]
  by_cases hp : p < n
  · simp (disch := omega) only [q_nm, q_jp, q_bd, q_bd2, q_zb0, q_zb1, q_zbn0, q_zbn1, q_z10, q_z11, q_z1n0, q_z1n1, q_lit, q_add, q_mul, q_lt, q_le, q_eq, q_tn, q_ck, q_nm1, q_n1e, q_gS, q_gR, q_gK, q_g2, if_true, if_false, Nat.not_lt_zero]
    rw [if_neg (by omega), if_neg (by omega), if_pos hp]
    have := (cb_e C p).1
    exact congrArg some this
  · simp (disch := omega) only [q_nm, q_jp, q_bd, q_bd2, q_zb0, q_zb1, q_zbn0, q_zbn1, q_z10, q_z11, q_z1n0, q_z1n1, q_lit, q_add, q_mul, q_lt, q_le, q_eq, q_tn, q_ck, q_nm1, q_n1e, q_gS, q_gR, q_gK, q_g2, if_true, if_false, Nat.not_lt_zero]
    rw [if_pos (by omega), if_neg hp]
theorem within_e (N : Nat) {v a b : Nat} (hv : v < 2147483648) (ha : a < 2147483648) (hb : b < 2147483648) : f_X10_isWithin N (nI v) (nI a) (nI b) = some (if a ≤ v ∧ v ≤ b then 1 else 0) := by
  unfold f_X10_isWithin
  simp only [q_lt hv ha, q_lt hb hv]
  by_cases h1 : v < a
  · rw [if_pos h1, if_neg (by omega)]; rfl
  · rw [if_neg h1]
    by_cases h2 : b < v
    · rw [if_pos h2, if_neg (by omega)]; rfl
    · rw [if_neg h2, if_pos (by omega)]; rfl
def skP (b : Nat → Nat) (c : Nat) (k : Nat) : Bool := decide (b k = 32 ∨ b k = c)
theorem scan_st {P : Nat → Bool} {n p : Nat} (h : p < n) : scan P (n - p) p = if P p then scan P (n - (p + 1)) (p + 1) else p := by
  have : n - p = (n - (p + 1)) + 1 := by omega
  rw [this, scan]
theorem scan_z {P : Nat → Bool} {n p : Nat} (h : n ≤ p) : scan P (n - p) p = p := by
  have : n - p = 0 := by omega
  rw [this, scan]
theorem skip_b {N c : Nat} (hc : c < 256) {C : St} {p n : Nat} (h : tp C p n) (k : St → Option St) : b_X8_skip_0 N (nI c) k C = if p < n ∧ skP (cb C) c p = true then k (cat C (p + 1)) else some C := by
  have hcb := (cb_e C p).2
  have hl := look_e (N := N) h
  unfold b_X8_skip_0 j_X8_skip_28
  obtain ⟨h1, h2, h3, h4⟩ := h
  rw [h1, h2, hl]
  by_cases hp : p < n
  · rw [if_pos hp]
    simp (disch := omega) only [q_nm, q_jp, q_bd, q_bd2, q_zb0, q_zb1, q_zbn0, q_zbn1, q_z10, q_z11, q_z1n0, q_z1n1, q_lit, q_add, q_mul, q_lt, q_le, q_eq, q_tn, q_ck, q_nm1, q_n1e, q_gS, q_gR, q_gK, q_g2, if_true, if_false, skP, decide_eq_true_eq, hp, true_and]
    rw [if_neg (by omega)]
    by_cases e1 : cb C p = 32
    · rw [if_pos e1, if_pos (Or.inl e1)]; rfl
    · rw [if_neg e1]
      by_cases e2 : cb C p = c
      · rw [if_pos e2, if_pos (Or.inr e2)]; rfl
      · rw [if_neg e2, if_neg (by omega)]
  · simp (disch := omega) only [q_nm, q_jp, q_bd, q_bd2, q_zb0, q_zb1, q_zbn0, q_zbn1, q_z10, q_z11, q_z1n0, q_z1n1, q_lit, q_add, q_mul, q_lt, q_le, q_eq, q_tn, q_ck, q_nm1, q_n1e, q_gS, q_gR, q_gK, q_g2, if_true, if_false, hp, false_and]
    rw [if_pos (by omega)]
theorem skip_e {N c : Nat} {C : St} {p n : Nat} (hN : 6000 ≤ N) (hc : c < 256) (h : tp C p n) : f_X8_skip N (nI c) C = some (cat C (scan (skP (cb C) c) (n - p) p)) := by
  apply ok_q
  unfold f_X8_skip
  refine ok_jp (ok_l1 (fun m C' => ∃ p', C' = cat C p' ∧ p' ≤ n ∧ n - p' = m ∧ scan (skP (cb C) c) (n - p') p' = scan (skP (cb C) c) (n - p) p) ?_ N (n - p) C (by have := h.2.2.2; omega) ⟨p, (cat_self h.1).symm, h.2.2.1, rfl, rfl⟩)
  rintro k m C' ⟨p', rfl, h1, h2, h3⟩ hk
  rw [skip_b hc (h.cat h1), cat_cb, cat_cat]
  by_cases hp : p' < n
  · rw [scan_st hp] at h3
    by_cases e : skP (cb C) c p' = true
    · rw [if_pos ⟨hp, e⟩]
      rw [if_pos e] at h3
      exact hk _ _ (by omega) ⟨p' + 1, rfl, by omega, rfl, h3⟩
    · rw [if_neg (fun q => e q.2)]
      rw [if_neg e] at h3
      exact ok_s (by rw [h3])
  · rw [if_neg (fun q => hp q.1)]
    rw [scan_z (by omega)] at h3
    exact ok_s (by rw [h3])
theorem take_e {N c : Nat} {C : St} {p n : Nat} (hc : c < 256) (h : tp C p n) : f_X8_take N (nI c) C = some (if p < n ∧ cb C p = c then (1, cat C (p + 1)) else (0, C)) := by
  have hcb := (cb_e C p).2
  have hl := look_e (N := N) h
  unfold f_X8_take
  rw [hl]
  by_cases hp : p < n
  · rw [if_pos hp]
    simp (disch := omega) only [q_nm, q_jp, q_bd, q_bd2, q_zb0, q_zb1, q_zbn0, q_zbn1, q_z10, q_z11, q_z1n0, q_z1n1, q_lit, q_add, q_mul, q_lt, q_le, q_eq, q_tn, q_ck, q_nm1, q_n1e, q_gS, q_gR, q_gK, q_g2, if_true, if_false, hp, true_and]
    by_cases e : cb C p = c
    · rw [if_pos e, if_pos e, h.1, q_add]; rfl
    · rw [if_neg e, if_neg e]; rfl
  · rw [if_neg hp, if_neg (by omega)]
    simp (disch := omega) only [q_nm, q_jp, q_bd, q_bd2, q_zb0, q_zb1, q_zbn0, q_zbn1, q_z10, q_z11, q_z1n0, q_z1n1, q_lit, q_add, q_mul, q_lt, q_le, q_eq, q_tn, q_ck, q_nm1, q_n1e, q_gS, q_gR, q_gK, q_g2, if_true, if_false, q_1eq]
/-- the letters' number, as the class keeps it -/
def enc (b : Nat → Nat) (p : Nat) : Nat → Nat
  | 0 => 0
  | j + 1 => enc b p j * 32 + (b (p + j) - 96)
def letP (b : Nat → Nat) (k : Nat) : Bool := decide (97 ≤ b k ∧ b k ≤ 122)
def digP (b : Nat → Nat) (k : Nat) : Bool := decide (48 ≤ b k ∧ b k ≤ 57)
def wE (b : Nat → Nat) (n p : Nat) : Nat := scan (letP b) (n - p) p
def dE (b : Nat → Nat) (n p : Nat) : Nat := scan (digP b) (n - p) p
theorem enc_lt {b : Nat → Nat} {p : Nat} : ∀ {j : Nat}, (∀ i, i < j → letP b (p + i) = true) → enc b p j < 32 ^ j
  | 0, _ => by rw [enc]; decide
  | j + 1, h => by
    have h1 := enc_lt (b := b) (p := p) (j := j) (fun i hi => h i (by omega))
    have h2 := h j (by omega)
    unfold letP at h2
    rw [decide_eq_true_eq] at h2
    rw [enc, Nat.pow_succ]
    omega
theorem q_p12 {j : Nat} (h : j ≤ 12) : 32 ^ j ≤ 1152921504606846976 := by
  have : 32 ^ j ≤ 32 ^ 12 := Nat.pow_le_pow_right (by decide) h
  exact Nat.le_trans this (by decide)
theorem q_w5 {w d : Nat} (hw : w < 36028797018963968) (hd : d < 32) : (lN w <<< ((5 : Int32).toInt64 &&& 63)) ||| (nI d).toInt64 = lN (w * 32 + d) := by
  have e1 : lN w <<< ((5 : Int32).toInt64 &&& 63) = lN (w * 32) := by
    have hs : ((5 : Int32).toInt64 &&& 63).toBitVec.smod 64 = BitVec.ofNat 64 5 := by decide +kernel
    apply Int64.toBitVec_inj.mp
    show (lN w).toBitVec <<< (((5 : Int32).toInt64 &&& 63).toBitVec.smod 64) = _
    rw [hs]
    show (BitVec.ofNat 64 w) <<< (BitVec.ofNat 64 5) = BitVec.ofNat 64 (w * 32)
    apply BitVec.eq_of_toNat_eq
    rw [BitVec.shiftLeft_eq', BitVec.toNat_shiftLeft, BitVec.toNat_ofNat, BitVec.toNat_ofNat, BitVec.toNat_ofNat, Nat.mod_eq_of_lt (a := w) (by omega), Nat.shiftLeft_eq]
  have e2 : (nI d).toInt64 = lN d := nI_l (by omega)
  rw [e1, e2]
  have e3 : lN (w * 32) ||| lN d = lN (w * 32 ||| d) := by
    apply Int64.toBitVec_inj.mp
    show BitVec.ofNat 64 (w * 32) ||| BitVec.ofNat 64 d = BitVec.ofNat 64 (w * 32 ||| d)
    apply BitVec.eq_of_getLsbD_eq
    intro i hi
    simp [hi]
  rw [e3]
  have e4 : w * 32 ||| d = w * 32 + d := by
    have := Nat.two_pow_add_eq_or_of_lt (i := 5) (b := d) (by omega) w
    rw [Nat.mul_comm w 32]
    exact this.symm
  rw [e4]
def tw (b : Nat → Nat) (n p : Nat) : Int64 := if wE b n p - p ≤ 12 then lN (enc b p (wE b n p - p)) else 0
theorem takeWord_b {N : Nat} {C : St} {p n : Nat} (h : tp C p n) (k58 k4 : Int64 → Int32 → St → Option (Int64 × St)) (w : Int64) (j : Nat) : b_X8_takeWord_4 N k58 k4 w (nI j) C = if p < n ∧ letP (cb C) p = true then k4 ((w <<< ((5 : Int32).toInt64 &&& 63)) ||| (nI (cb C p - 96)).toInt64) (nI (j + 1)) (cat C (p + 1)) else k58 w (nI j) C := by
  have hcb := (cb_e C p).2
  have hl := look_e (N := N) h
  unfold b_X8_takeWord_4
  obtain ⟨h1, h2, h3, h4⟩ := h
  rw [h1, h2, hl]
  by_cases hp : p < n
  · rw [if_pos hp]
    have hw := within_e N (v := cb C p) (a := 97) (b := 122) (by omega) (by omega) (by omega)
    have hw' : f_X10_isWithin N (nI (cb C p)) 97 122 = _ := hw
    have h0 : ¬ n ≤ p := by omega
    simp only [q_bd, hw', q_le (a := n) (b := p) (by omega) (by omega), if_neg h0, letP, decide_eq_true_eq, hp, true_and, q_nm]
    by_cases e : 97 ≤ cb C p ∧ cb C p ≤ 122
    · rw [if_pos e, if_neg (by decide), if_pos e]
      have e2 : nI (cb C p) - 96 = nI (cb C p - 96) := q_sub (a := cb C p) (b := 96) (by omega)
      rw [e2, cat_s, nI_succ]
    · rw [if_neg e, if_pos rfl, if_neg e]
  · have h0 : n ≤ p := by omega
    simp only [q_le (a := n) (b := p) (by omega) (by omega), if_pos h0, hp, false_and, if_false]
theorem takeWord_e {N : Nat} {C : St} {p n : Nat} (hN : 6000 ≤ N) (h : tp C p n) : f_X8_takeWord N C = some (tw (cb C) n p, cat C (wE (cb C) n p)) := by
  apply ok_q
  unfold f_X8_takeWord
  refine ok_jp (ok_jp (ok_l3 (fun m w v C' => ∃ j, v = nI j ∧ C' = cat C (p + j) ∧ p + j ≤ n ∧ n - (p + j) = m ∧ (∀ i, i < j → letP (cb C) (p + i) = true) ∧ (j ≤ 12 → w = lN (enc (cb C) p j)) ∧ scan (letP (cb C)) (n - (p + j)) (p + j) = wE (cb C) n p) ?_ N (n - p) 0 0 C (by have := h.2.2.2; omega) ⟨0, rfl, (cat_self h.1).symm, h.2.2.1, rfl, fun i hi => by omega, fun _ => rfl, rfl⟩))
  rintro k m w v C' ⟨j, rfl, rfl, h1, h2, h3, h4, h5⟩ hk
  rw [takeWord_b (h.cat h1), cat_cb, cat_cat]
  have hex : wE (cb C) n p = p + j → ok (j_X8_takeWord_58 w (nI j) (cat C (p + j))) fun a => a = (tw (cb C) n p, cat C (wE (cb C) n p)) := by
    intro e
    unfold j_X8_takeWord_58 tw
    rw [e]
    have hj : j ≤ 1000 := by have := h.2.2.2; omega
    have e1 : p + j - p = j := by omega
    simp (disch := omega) only [q_nm, q_jp, q_bd, q_bd2, q_zb0, q_zb1, q_zbn0, q_zbn1, q_z10, q_z11, q_z1n0, q_z1n1, q_lit, q_add, q_mul, q_lt, q_le, q_eq, q_tn, q_ck, q_nm1, q_n1e, q_gS, q_gR, q_gK, q_g2, if_true, if_false, e1]
    by_cases hj2 : j ≤ 12
    · rw [if_pos hj2, if_pos hj2, h4 hj2]; exact ok_s rfl
    · rw [if_neg hj2, if_neg hj2]; exact ok_s rfl
  by_cases hp : p + j < n
  · rw [scan_st hp] at h5
    by_cases e : letP (cb C) (p + j) = true
    · rw [if_pos ⟨hp, e⟩]
      rw [if_pos e] at h5
      have hl : ∀ i, i < j + 1 → letP (cb C) (p + i) = true := by
        intro i hi
        by_cases hij : i < j
        · exact h3 i hij
        · have : i = j := by omega
          rw [this]; exact e
      refine hk _ _ _ _ (by omega) ⟨j + 1, rfl, rfl, by omega, rfl, hl, ?_, h5⟩
      intro hj
      rw [h4 (by omega)]
      have a1 := enc_lt h3
      have a2 : 32 ^ j ≤ 32 ^ 11 := Nat.pow_le_pow_right (by decide) (by omega)
      have a3 : (32 : Nat) ^ 11 = 36028797018963968 := by decide
      unfold letP at e
      rw [decide_eq_true_eq] at e
      rw [q_w5 (by omega) (by omega), enc]
    · rw [if_neg (fun q => e q.2)]
      rw [if_neg e] at h5
      exact hex h5.symm
  · rw [if_neg (fun q => hp q.1)]
    rw [scan_z (by omega)] at h5
    exact hex h5.symm
/-- the digits' number, as the class keeps it -/
def dv (b : Nat → Nat) (p : Nat) : Nat → Nat
  | 0 => 0
  | j + 1 => min 100000 (dv b p j * 10 + (b (p + j) - 48))
theorem dv_le (b : Nat → Nat) (p : Nat) : ∀ j, dv b p j ≤ 100000
  | 0 => by unfold dv; omega
  | j + 1 => by unfold dv; omega
def td (b : Nat → Nat) (n p : Nat) : Int32 := if dE b n p = p then -1 else nI (dv b p (dE b n p - p))
theorem takeDigits_b {N : Nat} {C : St} {p n : Nat} (h : tp C p n) (k2 : Int32 → St → Option (Int32 × St)) (v : Int32) : b_X8_takeDigits_2 N k2 v C = if p < n ∧ digP (cb C) p = true then k2 (if ((((if v < 0 then 0 else v) * 10) + nI (cb C p)) - 48) < 100000 then ((((if v < 0 then 0 else v) * 10) + nI (cb C p)) - 48) else 100000) (cat C (p + 1)) else some (v, C) := by
  have hcb := (cb_e C p).2
  have hl := look_e (N := N) h
  unfold b_X8_takeDigits_2
  obtain ⟨h1, h2, h3, h4⟩ := h
  rw [h1, h2, hl]
  by_cases hp : p < n
  · rw [if_pos hp]
    have hw := within_e N (v := cb C p) (a := 48) (b := 57) (by omega) (by omega) (by omega)
    have hw' : f_X10_isWithin N (nI (cb C p)) 48 57 = _ := hw
    have h0 : ¬ n ≤ p := by omega
    simp only [q_bd, hw', q_le (a := n) (b := p) (by omega) (by omega), if_neg h0, digP, decide_eq_true_eq, hp, true_and, q_nm]
    by_cases e : 48 ≤ cb C p ∧ cb C p ≤ 57
    · rw [if_pos e, if_neg (by decide), if_pos e, cat_s]
    · rw [if_neg e, if_pos rfl, if_neg e]
  · have h0 : n ≤ p := by omega
    simp only [q_le (a := n) (b := p) (by omega) (by omega), if_pos h0, hp, false_and, if_false]
theorem takeDigits_e {N : Nat} {C : St} {p n : Nat} (hN : 6000 ≤ N) (h : tp C p n) : f_X8_takeDigits N C = some (td (cb C) n p, cat C (dE (cb C) n p)) := by
  apply ok_q
  unfold f_X8_takeDigits
  refine ok_jp (ok_l2 (fun m v C' => ∃ j, v = (if j = 0 then -1 else nI (dv (cb C) p j)) ∧ C' = cat C (p + j) ∧ p + j ≤ n ∧ n - (p + j) = m ∧ scan (digP (cb C)) (n - (p + j)) (p + j) = dE (cb C) n p) ?_ N (n - p) (-1) C (by have := h.2.2.2; omega) ⟨0, rfl, (cat_self h.1).symm, h.2.2.1, rfl, rfl⟩)
  rintro k m v C' ⟨j, hv, rfl, h1, h2, h5⟩ hk
  rw [takeDigits_b (h.cat h1), cat_cb, cat_cat]
  have hex : dE (cb C) n p = p + j → ok (some (v, cat C (p + j))) fun a => a = (td (cb C) n p, cat C (dE (cb C) n p)) := by
    intro e
    apply ok_s
    unfold td
    rw [e, hv]
    have e1 : p + j - p = j := by omega
    have e2 : (p + j = p) = (j = 0) := by apply propext; omega
    simp only [e1, e2]
  by_cases hp : p + j < n
  · rw [scan_st hp] at h5
    by_cases e : digP (cb C) (p + j) = true
    · rw [if_pos ⟨hp, e⟩]
      rw [if_pos e] at h5
      refine hk _ _ _ (by omega) ⟨j + 1, ?_, rfl, by omega, rfl, h5⟩
      have hd := dv_le (cb C) p j
      have hm : (if v < 0 then 0 else v) = nI (dv (cb C) p j) := by
        rw [hv]
        by_cases hj : j = 0
        · subst hj; rfl
        · rw [if_neg hj, if_neg (nI_pos (by omega))]
      unfold digP at e
      rw [decide_eq_true_eq] at e
      rw [hm]
      have e3 : (((nI (dv (cb C) p j) * 10) + nI (cb C (p + j))) - 48) = nI (dv (cb C) p j * 10 + (cb C (p + j) - 48)) := by
        have : (((nI (dv (cb C) p j) * nI 10) + nI (cb C (p + j))) - nI 48) = nI (dv (cb C) p j * 10 + (cb C (p + j) - 48)) := by
          rw [q_mul, q_add, q_sub (by omega)]
          congr 1
          omega
        exact this
      rw [e3, if_neg (show ¬ (j + 1 = 0) by omega), dv]
      have e4 : (nI (dv (cb C) p j * 10 + (cb C (p + j) - 48)) < 100000) = (dv (cb C) p j * 10 + (cb C (p + j) - 48) < 100000) := q_lt (b := 100000) (by omega) (by omega)
      by_cases e5 : dv (cb C) p j * 10 + (cb C (p + j) - 48) < 100000
      · rw [if_pos (e4 ▸ e5), Nat.min_eq_right (by omega)]
      · rw [if_neg (fun q => e5 (e4 ▸ q)), Nat.min_eq_left (by omega)]; rfl
    · rw [if_neg (fun q => e q.2)]
      rw [if_neg e] at h5
      exact hex h5.symm
  · rw [if_neg (fun q => hp q.1)]
    rw [scan_z (by omega)] at h5
    exact hex h5.symm
