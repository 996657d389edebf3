/-! pure part: the reference's tokens -/
/-- same but for the cells of P -/
def fr (P : Nat → Nat → Prop) (M M' : St) : Prop := M'.2 = M.2 ∧ ∀ r k, ¬ P r k → M'.1 r k = M.1 r k
theorem fr.rf {P : Nat → Nat → Prop} {M : St} : fr P M M := ⟨rfl, fun _ _ _ => rfl⟩
theorem fr.tr {P : Nat → Nat → Prop} {A B C : St} (h : fr P A B) (h2 : fr P B C) : fr P A C := ⟨h2.1.trans h.1, fun r k q => (h2.2 r k q).trans (h.2 r k q)⟩
theorem fr.mo {P P' : Nat → Nat → Prop} {A B : St} (h : fr P A B) (hP : ∀ r k, P r k → P' r k) : fr P' A B := ⟨h.1, fun r k q => h.2 r k (fun w => q (hP r k w))⟩
theorem fr.pu {P : Nat → Nat → Prop} {A B : St} {r k : Nat} {v : Int32} (h : fr P A B) (hP : P r k) : fr P A (puI B r k v) := by
  refine ⟨h.1, fun r' k' q => ?_⟩
  rw [q_g, if_neg]
  · exact h.2 r' k' q
  · rintro ⟨rfl, rfl⟩
    exact q hP
theorem enc_inj {f g : Nat → Nat} {p q : Nat} : ∀ {s t : Nat}, (∀ i, i < s → letP f (p + i) = true) → (∀ i, i < t → letP g (q + i) = true) → (enc f p s = enc g q t ↔ s = t ∧ ∀ i, i < s → f (p + i) = g (q + i))
  | 0, 0, _, _ => by rw [enc, enc]; exact ⟨fun _ => ⟨rfl, fun i hi => by omega⟩, fun _ => rfl⟩
  | 0, t + 1, _, h2 => by
    have a := h2 t (by omega)
    unfold letP at a
    rw [decide_eq_true_eq] at a
    rw [enc, enc]
    constructor
    · intro h; omega
    · intro h; omega
  | s + 1, 0, h1, _ => by
    have a := h1 s (by omega)
    unfold letP at a
    rw [decide_eq_true_eq] at a
    rw [enc, enc]
    constructor
    · intro h; omega
    · intro h; omega
  | s + 1, t + 1, h1, h2 => by
    have a := h1 s (by omega)
    have c := h2 t (by omega)
    unfold letP at a c
    rw [decide_eq_true_eq] at a c
    have ih := enc_inj (f := f) (g := g) (p := p) (q := q) (s := s) (t := t) (fun i hi => h1 i (by omega)) (fun i hi => h2 i (by omega))
    rw [enc, enc]
    constructor
    · intro h
      have e1 : enc f p s = enc g q t := by omega
      have e2 : f (p + s) = g (q + t) := by omega
      obtain ⟨rfl, e3⟩ := ih.mp e1
      refine ⟨rfl, fun i hi => ?_⟩
      by_cases hs : i < s
      · exact e3 i hs
      · have : i = s := by omega
        rw [this]; exact e2
    · rintro ⟨e, e3⟩
      have e' : s = t := by omega
      subst e'
      have e1 := ih.mpr ⟨rfl, fun i hi => e3 i (by omega)⟩
      have e2 := e3 s (by omega)
      omega
def Wd (k : Nat) : Nat := [112,108,97,99,101,32,114,101,103,105,111,110,32,98,97,110,100,32,119,97,114,110,32,98,117,116,32].getD k 0
/-- the kept words' numbers -/
def wa (x : Nat) : Nat := if x = enc Wd 0 5 then 1 else if x = enc Wd 6 6 then 2 else if x = enc Wd 13 4 then 3 else if x = enc Wd 18 4 then 4 else if x = enc Wd 23 3 then 5 else 0
def mB (b : Nat → Nat) (n : Nat) (M : St) : Prop := (∀ k, k < 1000 → M.1 1 k = nI (b k) ∧ b k < 256) ∧ M.1 0 22 = nI n ∧ n ≤ 1000 ∧ (∀ k, k < 27 → M.1 15 k = nI (Wd k))
theorem mB.go {b : Nat → Nat} {n : Nat} {M M' : St} {P : Nat → Nat → Prop} (h : mB b n M) (hf : fr P M M') (h1 : ∀ k, ¬ P 1 k) (h2 : ¬ P 0 22) (h3 : ∀ k, ¬ P 15 k) : mB b n M' :=
  ⟨fun k hk => by rw [hf.2 1 k (h1 k)]; exact h.1 k hk, by rw [hf.2 0 22 h2]; exact h.2.1, h.2.2.1, fun k hk => by rw [hf.2 15 k (h3 k)]; exact h.2.2.2 k hk⟩
theorem isSmall_e {N : Nat} {b : Nat → Nat} {n k : Nat} {M : St} (h : mB b n M) (hk : k < 2147483648) : f_X11_isSmall N (nI k) M = some (if k < n ∧ letP b k = true then 1 else 0) := by
  obtain ⟨h1, h2, h3, -⟩ := h
  unfold f_X11_isSmall
  rw [h2]
  by_cases hp : k < n
  · obtain ⟨e1, e2⟩ := h1 k (by omega)
    simp (disch := omega) only [q_nm, q_jp, q_bd, q_bd2, q_zb0, q_zb1, q_zbn0, q_zbn1, q_z10, q_z11, q_z1n0, q_z1n1, q_lit, q_add, q_mul, q_lt, q_le, q_eq, q_tn, q_ck, q_nm1, q_n1e, q_gS, q_gR, q_gK, q_g2, if_true, if_false, e1, letP, decide_eq_true_eq]
    rw [if_neg (by omega)]
    by_cases a : b k < 97
    · rw [if_pos a, if_neg (by omega)]; rfl
    · rw [if_neg a]
      by_cases c : 122 < b k
      · rw [if_pos c, if_neg (by omega)]; rfl
      · rw [if_neg c, if_pos (by omega)]; rfl
  · simp (disch := omega) only [q_nm, q_jp, q_bd, q_bd2, q_zb0, q_zb1, q_zbn0, q_zbn1, q_z10, q_z11, q_z1n0, q_z1n1, q_lit, q_add, q_mul, q_lt, q_le, q_eq, q_tn, q_ck, q_nm1, q_n1e, q_gS, q_gR, q_gK, q_g2, if_true, if_false]
    rw [if_pos (by omega), if_neg (by omega)]; rfl
theorem isDigit_e {N : Nat} {b : Nat → Nat} {n k : Nat} {M : St} (h : mB b n M) (hk : k < 2147483648) : f_X11_isDigit N (nI k) M = some (if k < n ∧ digP b k = true then 1 else 0) := by
  obtain ⟨h1, h2, h3, -⟩ := h
  unfold f_X11_isDigit
  rw [h2]
  by_cases hp : k < n
  · obtain ⟨e1, e2⟩ := h1 k (by omega)
    simp (disch := omega) only [q_nm, q_jp, q_bd, q_bd2, q_zb0, q_zb1, q_zbn0, q_zbn1, q_z10, q_z11, q_z1n0, q_z1n1, q_lit, q_add, q_mul, q_lt, q_le, q_eq, q_tn, q_ck, q_nm1, q_n1e, q_gS, q_gR, q_gK, q_g2, if_true, if_false, e1, digP, decide_eq_true_eq]
    rw [if_neg (by omega)]
    by_cases a : b k < 48
    · rw [if_pos a, if_neg (by omega)]; rfl
    · rw [if_neg a]
      by_cases c : 57 < b k
      · rw [if_pos c, if_neg (by omega)]; rfl
      · rw [if_neg c, if_pos (by omega)]; rfl
  · simp (disch := omega) only [q_nm, q_jp, q_bd, q_bd2, q_zb0, q_zb1, q_zbn0, q_zbn1, q_z10, q_z11, q_z1n0, q_z1n1, q_lit, q_add, q_mul, q_lt, q_le, q_eq, q_tn, q_ck, q_nm1, q_n1e, q_gS, q_gR, q_gK, q_g2, if_true, if_false]
    rw [if_pos (by omega), if_neg (by omega)]; rfl
/-- a loop that compares while a flag stands -/
theorem cmp1 {β : Type} {body : (Int32 → Int32 → Option β) → Int32 → Int32 → Option β} {exit : Int32 → Option β} {E : Nat → Prop} [DecidablePred E] {m : Nat} [Decidable (∀ i, i < m → E i)]
    (hend : ∀ k v, body k v (nI m) = exit v) (hz : ∀ k i, i < m → body k 0 (nI i) = exit 0) (hs : ∀ k i, i < m → body k 1 (nI i) = k (if E i then 1 else 0) (nI (i + 1))) {N : Nat} (hN : m < N) :
    lp (fun _ _ => none) body N 1 0 = exit (if (∀ i, i < m → E i) then 1 else 0) := by
  have key : ∀ d N' i, d < N' → i + d = m → (∀ x, x < i → E x) → lp (fun _ _ => none) body N' 1 (nI i) = exit (if (∀ i, i < m → E i) then 1 else 0) := by
    intro d
    induction d with
    | zero =>
      intro N' i hN' hi hx
      obtain ⟨N', rfl⟩ : ∃ k, N' = k + 1 := ⟨N' - 1, by omega⟩
      have : i = m := by omega
      subst this
      rw [q_lp, hend, if_pos hx]
    | succ d ih =>
      intro N' i hN' hi hx
      obtain ⟨N', rfl⟩ : ∃ k, N' = k + 1 := ⟨N' - 1, by omega⟩
      rw [q_lp, hs _ i (by omega)]
      by_cases e : E i
      · rw [if_pos e]
        refine ih N' (i + 1) (by omega) (by omega) ?_
        intro x hx2
        by_cases hxi : x < i
        · exact hx x hxi
        · have : x = i := by omega
          rw [this]; exact e
      · rw [if_neg e, if_neg (fun q => e (q i (by omega)))]
        obtain ⟨N', rfl⟩ : ∃ k, N' = k + 1 := ⟨N' - 1, by omega⟩
        rw [q_lp]
        by_cases hm : i + 1 < m
        · rw [hz _ _ hm]
        · have : i + 1 = m := by omega
          rw [this, hend]
  exact key m N 0 hN (by omega) (fun x hx => by omega)
theorem cmp0 {β : Type} {body : (Int32 → Int32 → Option β) → Int32 → Int32 → Option β} {exit : Int32 → Option β} {m : Nat}
    (hend : ∀ k v, body k v (nI m) = exit v) (hz : ∀ k i, i < m → body k 0 (nI i) = exit 0) {N : Nat} (hN : 0 < N) :
    lp (fun _ _ => none) body N 0 0 = exit 0 := by
  obtain ⟨N', rfl⟩ : ∃ k, N = k + 1 := ⟨N - 1, by omega⟩
  rw [q_lp]
  by_cases hm : 0 < m
  · exact hz _ 0 hm
  · have : m = 0 := by omega
    subst this
    exact hend _ _
/-- one kept word -/
theorem wordAt_57 {N : Nat} {b : Nat → Nat} {n p a m : Nat} {M : St} (hN : 6000 ≤ N) (h : mB b n M) (hm : p + m ≤ n) (ham : a + m < 27) (k104 : Int32 → Option Int32) :
    lp (fun _ _ => none) (b_X11_wordAt_57 (nI p) M (nI a) (nI m) k104) N 1 0 = k104 (if (∀ i, i < m → Wd (a + i) = b (p + i)) then 1 else 0) := by
  obtain ⟨h1, h2, h3, h4⟩ := h
  refine cmp1 (E := fun i => Wd (a + i) = b (p + i)) ?_ ?_ ?_ (by omega)
  · intro k v
    unfold b_X11_wordAt_57
    rw [if_pos (by rw [q_le (by omega) (by omega)]; omega)]
  · intro k i hi
    unfold b_X11_wordAt_57
    rw [if_neg (by rw [q_le (by omega) (by omega)]; omega), if_pos rfl]
  · intro k i hi
    unfold b_X11_wordAt_57 j_X11_wordAt_96
    have e1 := h4 (a + i) (by omega)
    have e2 := h1 (p + i) (by omega)
    have e3 : Wd (a + i) < 256 := by
      have : ∀ k, k < 27 → Wd k < 256 := by decide
      exact this _ (by omega)
    rw [if_neg (by rw [q_le (by omega) (by omega)]; omega), if_neg (by decide)]
    simp (disch := omega) only [q_nm, q_jp, q_bd, q_bd2, q_zb0, q_zb1, q_zbn0, q_zbn1, q_z10, q_z11, q_z1n0, q_z1n1, q_lit, q_add, q_mul, q_lt, q_le, q_eq, q_tn, q_ck, q_nm1, q_n1e, q_gS, q_gR, q_gK, q_g2, if_true, if_false, e1, e2.1]
    by_cases e : Wd (a + i) = b (p + i)
    · rw [if_pos e, if_pos e]
    · rw [if_neg e, if_neg e]
theorem wordAt_18 {N : Nat} {b : Nat → Nat} {n a m : Nat} {M : St} (hN : 6000 ≤ N) (h : mB b n M) (ham : a + m < 27) (hW : ∀ i, i < m → Wd (a + i) ≠ 32) (hWm : Wd (a + m) = 32) (k39 : Int32 → Option Int32) :
    lp (fun _ => none) (b_X11_wordAt_18 M (nI a) k39) N 0 = k39 (nI m) := by
  obtain ⟨h1, h2, h3, h4⟩ := h
  have key : ∀ d N' i, d < N' → i + d = m → lp (fun _ => none) (b_X11_wordAt_18 M (nI a) k39) N' (nI i) = k39 (nI m) := by
    intro d
    have e3 : ∀ k, k < 27 → Wd k < 256 := by decide
    induction d with
    | zero =>
      intro N' i hN' hi
      obtain ⟨N', rfl⟩ : ∃ k, N' = k + 1 := ⟨N' - 1, by omega⟩
      have : i = m := by omega
      subst this
      rw [q_lp]
      generalize lp (fun _ => none) (b_X11_wordAt_18 M (nI a) k39) N' = K
      unfold b_X11_wordAt_18
      simp (disch := omega) only [q_nm, q_jp, q_bd, q_bd2, q_zb0, q_zb1, q_zbn0, q_zbn1, q_z10, q_z11, q_z1n0, q_z1n1, q_lit, q_add, q_mul, q_lt, q_le, q_eq, q_tn, q_ck, q_nm1, q_n1e, q_gS, q_gR, q_gK, q_g2, if_true, if_false, h4 (a + i) ham, hWm]
    | succ d ih =>
      intro N' i hN' hi
      obtain ⟨N', rfl⟩ : ∃ k, N' = k + 1 := ⟨N' - 1, by omega⟩
      have ih' := ih N' (i + 1) (by omega) (by omega)
      rw [q_lp]
      generalize lp (fun _ => none) (b_X11_wordAt_18 M (nI a) k39) N' = K at ih' ⊢
      unfold b_X11_wordAt_18
      have e4 := e3 (a + i) (by omega)
      simp (disch := omega) only [q_nm, q_jp, q_bd, q_bd2, q_zb0, q_zb1, q_zbn0, q_zbn1, q_z10, q_z11, q_z1n0, q_z1n1, q_lit, q_add, q_mul, q_lt, q_le, q_eq, q_tn, q_ck, q_nm1, q_n1e, q_gS, q_gR, q_gK, q_g2, if_true, if_false, h4 (a + i) (by omega)]
      rw [if_neg (hW i (by omega))]
      exact ih'
  exact key m N 0 (by omega) (by omega)
theorem wordAt_5 {N : Nat} {b : Nat → Nat} {n p e a m j : Nat} {M : St} (hN : 6000 ≤ N) (h : mB b n M) (hpe : p ≤ e) (he : e ≤ n) (hl : ∀ i, i < e - p → letP b (p + i) = true) (hj : j < 6) (ham : a + m < 27) (hW : ∀ i, i < m → letP Wd (a + i) = true) (hWm : Wd (a + m) = 32) (k5 : Int32 → Int32 → Option Int32) :
    b_X11_wordAt_5 N (nI p) (nI e) M k5 (nI j) (nI a) = if enc b p (e - p) = enc Wd a m then some (nI j) else k5 (nI (j + 1)) (nI (a + m + 1)) := by
  have hn := h.2.2.1
  unfold b_X11_wordAt_5
  have e0 : ¬ 27 ≤ a := by omega
  simp (disch := omega) only [q_nm, q_jp, q_bd, q_bd2, q_zb0, q_zb1, q_zbn0, q_zbn1, q_z10, q_z11, q_z1n0, q_z1n1, q_lit, q_add, q_mul, q_lt, q_le, q_eq, q_tn, q_ck, q_nm1, q_n1e, q_gS, q_gR, q_gK, q_g2, if_true, if_false]
  rw [if_neg e0]
  have h18 := fun k39 => wordAt_18 (m := m) hN h ham (fun i hi => by have := hW i hi; unfold letP at this; rw [decide_eq_true_eq] at this; omega) hWm k39
  have h18' : ∀ k39, lp (fun x => none) (b_X11_wordAt_18 M (nI a) k39) N (nI 0) = k39 (nI m) := h18
  rw [h18']
  unfold j_X11_wordAt_39 j_X11_wordAt_52
  rw [q_sub hpe]
  have hinj := enc_inj hl hW
  have fin1 : ∀ v, v = 1 → j_X11_wordAt_104 (nI j) (nI a) k5 (nI m) v = some (nI j) := by
    intro v hv
    unfold j_X11_wordAt_104
    rw [hv, if_neg (by decide)]
  have fin0 : ∀ v, v = 0 → j_X11_wordAt_104 (nI j) (nI a) k5 (nI m) v = k5 (nI (j + 1)) (nI (a + m + 1)) := by
    intro v hv
    unfold j_X11_wordAt_104
    rw [hv, if_pos rfl]
    simp (disch := omega) only [q_nm, q_jp, q_bd, q_bd2, q_zb0, q_zb1, q_zbn0, q_zbn1, q_z10, q_z11, q_z1n0, q_z1n1, q_lit, q_add, q_mul, q_lt, q_le, q_eq, q_tn, q_ck, q_nm1, q_n1e, q_gS, q_gR, q_gK, q_g2, if_true, if_false, Nat.add_assoc]
  by_cases e1 : m = e - p
  · have : nI m = nI (e - p) := by rw [e1]
    simp only [q_jp]
    rw [if_pos this]
    have h57 := wordAt_57 (p := p) (a := a) (m := m) hN h (by omega) ham (j_X11_wordAt_104 (nI j) (nI a) k5 (nI m))
    rw [h57]
    by_cases e2 : ∀ i, i < m → Wd (a + i) = b (p + i)
    · rw [if_pos e2, fin1 _ rfl, if_pos]
      rw [hinj]
      exact ⟨e1.symm, fun i hi => (e2 i (by omega)).symm⟩
    · rw [if_neg e2, fin0 _ rfl, if_neg]
      rw [hinj]
      rintro ⟨-, q⟩
      exact e2 (fun i hi => (q i (by omega)).symm)
  · have : ¬ nI m = nI (e - p) := by rw [q_eq (by omega) (by omega)]; exact e1
    simp only [q_jp]
    rw [if_neg this]
    rw [cmp0 (m := m) (exit := j_X11_wordAt_104 (nI j) (nI a) k5 (nI m)) ?_ ?_ (by omega), fin0 _ rfl, if_neg]
    · rw [hinj]
      rintro ⟨q, -⟩
      exact e1 q.symm
    · intro k v
      unfold b_X11_wordAt_57
      rw [if_pos (by rw [q_le (by omega) (by omega)]; omega)]
    · intro k i hi
      unfold b_X11_wordAt_57
      rw [if_neg (by rw [q_le (by omega) (by omega)]; omega), if_pos rfl]
theorem wordAt_e {N : Nat} {b : Nat → Nat} {n p e : Nat} {M : St} (hN : 6000 ≤ N) (h : mB b n M) (hpe : p ≤ e) (he : e ≤ n) (hl : ∀ i, i < e - p → letP b (p + i) = true) :
    f_X11_wordAt N (nI p) (nI e) M = some (nI (wa (enc b p (e - p)))) := by
  obtain ⟨N', rfl⟩ : ∃ k, N = k + 6 := ⟨N - 6, by omega⟩
  unfold f_X11_wordAt
  rw [q_jp, q_lp]
  have st := fun a m j k5 hj ham hW hWm => wordAt_5 (a := a) (m := m) (j := j) hN h hpe he hl hj ham hW hWm k5
  have s1 := fun k5 => st 0 5 1 k5 (by omega) (by omega) (by decide) (by decide)
  have s2 := fun k5 => st 6 6 2 k5 (by omega) (by omega) (by decide) (by decide)
  have s3 := fun k5 => st 13 4 3 k5 (by omega) (by omega) (by decide) (by decide)
  have s4 := fun k5 => st 18 4 4 k5 (by omega) (by omega) (by decide) (by decide)
  have s5 := fun k5 => st 23 3 5 k5 (by omega) (by omega) (by decide) (by decide)
  have s6 : ∀ k5, b_X11_wordAt_5 (N' + 6) (nI p) (nI e) M k5 (nI 6) (nI 27) = some (nI 0) := by
    intro k5
    unfold b_X11_wordAt_5
    rw [if_pos (by decide)]
    rfl
  unfold wa
  rw [q_lit, q_lit, s1]
  split
  · rfl
  · rw [q_lp, s2]
    split
    · rfl
    · rw [q_lp, s3]
      split
      · rfl
      · rw [q_lp, s4]
        split
        · rfl
        · rw [q_lp, s5]
          split
          · rfl
          · rw [q_lp, s6]
