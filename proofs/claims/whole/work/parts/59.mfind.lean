/-! pure part: the reference finds -/
/-- a place is in a band at an hour -/
def inn (M : St) (b p h : Nat) : Bool := decide (h < 24 ∧ (M.1 6 b).toInt ≤ (M.1 14 (144 * (M.1 5 b).toNatClampNeg + 24 * p + h)).toInt ∧ (M.1 14 (144 * (M.1 5 b).toNatClampNeg + 24 * p + h)).toInt < (M.1 7 b).toInt)
theorem inn_24 {M : St} {b p h : Nat} (h1 : 24 ≤ h) : inn M b p h = false := by unfold inn; rw [decide_eq_false_iff_not]; omega
/-- the reference's rules, as numbers -/
def MB (P R B : Nat) (M : St) : Prop := M.1 0 3 = nI P ∧ M.1 0 4 = nI R ∧ M.1 0 8 = nI B ∧ P ≤ 6 ∧ R ≤ 5 ∧ B ≤ 24 ∧
  (∀ i, i < B → (∃ q, q < 3 ∧ M.1 5 i = nI q) ∧ -99 ≤ (M.1 6 i).toInt ∧ (M.1 6 i).toInt < (M.1 7 i).toInt ∧ (M.1 7 i).toInt ≤ 999 ∧ (∃ g, 1 ≤ g ∧ g ≤ 9 ∧ M.1 8 i = nI g) ∧ (M.1 9 i = 0 ∨ M.1 9 i = 1) ∧ ∃ s, 1 ≤ s ∧ s ≤ 12 ∧ M.1 11 i = nI s) ∧
  (∀ i j, i < j → j < B → M.1 5 i = M.1 5 j → (M.1 7 i).toInt ≤ (M.1 6 j).toInt ∨ (M.1 7 j).toInt ≤ (M.1 6 i).toInt)
theorem MB.go {P R B : Nat} {M M' : St} (h : MB P R B M) (h3 : M'.1 0 3 = M.1 0 3) (h4 : M'.1 0 4 = M.1 0 4) (h8 : M'.1 0 8 = M.1 0 8) (hr : ∀ r, (5 ≤ r ∧ r ≤ 9 ∨ r = 11) → M'.1 r = M.1 r) : MB P R B M' := by
  unfold MB
  rw [h3, h4, h8, hr 5 (by omega), hr 6 (by omega), hr 7 (by omega), hr 8 (by omega), hr 9 (by omega), hr 11 (by omega)]
  exact h
theorem inn_go {M M' : St} (h5 : M'.1 5 = M.1 5) (h6 : M'.1 6 = M.1 6) (h7 : M'.1 7 = M.1 7) (h14 : ∀ k, k < 432 → M'.1 14 k = M.1 14 k) {P R B : Nat} (hB : MB P R B M) {b p h : Nat} (hb : b < B) (hp : p < 6) : inn M' b p h = inn M b p h := by
  obtain ⟨q, hq, e⟩ := (hB.2.2.2.2.2.2.1 b hb).1
  by_cases hh : h < 24
  · unfold inn
    rw [h5, h6, h7, e, q_tn (by omega), h14 _ (by omega)]
  · rw [inn_24 (by omega), inn_24 (by omega)]
theorem FL_le {P R B : Nat} {M : St} (h : MB P R B M) : psum (FBn (Sf (inn M) P) B) ≤ 432 ∧ (FBn (Sf (inn M) P) B).length ≤ 432 := by
  have h1 : psum (FBn (Sf (inn M) P) B) ≤ 432 := by
    refine psum_le h.2.2.2.1 (fun b => (M.1 5 b).toNatClampNeg) ?_ ?_
    · intro b hb
      obtain ⟨q, hq, e⟩ := (h.2.2.2.2.2.2.1 b hb).1
      show (M.1 5 b).toNatClampNeg < 3
      rw [e, q_tn (by omega)]
      exact hq
    · intro b b' p x hbb hb' hq a c
      obtain ⟨q, hq1, e⟩ := (h.2.2.2.2.2.2.1 b (by omega)).1
      obtain ⟨q', hq2, e'⟩ := (h.2.2.2.2.2.2.1 b' hb').1
      have hq' : (M.1 5 b).toNatClampNeg = (M.1 5 b').toNatClampNeg := hq
      rw [e, e', q_tn (by omega), q_tn (by omega)] at hq'
      subst hq'
      unfold inn at a c
      rw [decide_eq_true_eq, e, q_tn (by omega)] at a
      rw [decide_eq_true_eq, e', q_tn (by omega)] at c
      have := h.2.2.2.2.2.2.2 b b' hbb hb' (by rw [e, e'])
      omega
  refine ⟨h1, Nat.le_trans (len_psum (B := B) h.2.2.2.1 _ (FB_ok B (Nat.le_refl _))) h1⟩
section MF
variable {N P R B b p : Nat} {M : St}
theorem misIn_e {h : Nat} (hB : MB P R B M) (hb : b < B) (hp : p < 6) (hh : h < 100) : f_X11_isIn N (nI b) (nI p) (nI h) M = some (if inn M b p h = true then 1 else 0) := by
  have hB24 := hB.2.2.2.2.2.1
  obtain ⟨⟨q, hq, e5⟩, b6, b67, b7, -⟩ := hB.2.2.2.2.2.2.1 b hb
  unfold f_X11_isIn
  rw [if_neg (nI_pos (by omega))]
  have c23 : (nI h ≤ 23) = (h ≤ 23) := q_le (b := 23) (by omega) (by omega)
  by_cases h24 : h < 24
  · have e1 : (144 : Int32) * nI q + 24 * nI p + nI h = nI (144 * q + 24 * p + h) := by
      have : nI 144 * nI q + nI 24 * nI p + nI h = nI (144 * q + 24 * p + h) := by rw [q_mul, q_mul, q_add, q_add]
      exact this
    rw [if_pos (show nI h ≤ 23 by rw [c23]; omega), q_tn (by omega), e5, e1, q_ck (by omega) (by omega), q_ck (by omega) (by omega), q_tn (by omega), q_nm, q_ck (by omega) (by omega), q_ck (by omega) (by omega)]
    unfold inn
    rw [e5, q_tn (by omega)]
    generalize M.1 14 (144 * q + 24 * p + h) = v
    simp only [Int32.lt_iff_toInt_lt, Int32.le_iff_toInt_le, decide_eq_true_eq, h24, true_and]
    by_cases c0 : v = -100
    · have : v.toInt = -100 := by rw [c0]; decide
      rw [if_pos c0, if_neg (by omega)]; rfl
    · rw [if_neg c0]
      by_cases c1 : v.toInt < (M.1 6 b).toInt
      · rw [if_pos c1, if_neg (by omega)]; rfl
      · rw [if_neg c1]
        by_cases c2 : (M.1 7 b).toInt ≤ v.toInt
        · rw [if_pos c2, if_neg (by omega)]; rfl
        · rw [if_neg c2, if_pos (by omega)]; rfl
  · rw [if_neg (show ¬ nI h ≤ 23 by rw [c23]; omega), inn_24 (by omega)]; rfl
theorem misIn_n : f_X11_isIn N (nI b) (nI p) (-1) M = some 0 := rfl
theorem mruns_e {f t : Nat} (hN : 6000 ≤ N) (hB : MB P R B M) (hb : b < B) (hp : p < 6) (hft : f ≤ t) (ht : t < 24) : f_X11_runs N (nI b) (nI p) (nI f) (nI t) M = some (if runsP (inn M b p) f t = true then 1 else 0) := by
  unfold f_X11_runs
  have hI := fun h hh => misIn_e (N := N) (h := h) hB hb hp hh
  have e1 : nI t + 1 = nI (t + 1) := (nI_succ t).symm
  have hprev : f_X11_isIn N (nI b) (nI p) (nI f - 1) M = some (if f = 0 ∨ inn M b p (f - 1) = false then 0 else 1) := by
    by_cases h0 : f = 0
    · subst h0
      rw [if_pos (Or.inl rfl)]
      exact misIn_n
    · have e : nI f - 1 = nI (f - 1) := q_sub (a := f) (b := 1) (by omega)
      rw [e, hI _ (by omega)]
      by_cases h1 : inn M b p (f - 1) = true
      · rw [if_pos h1, if_neg]
        rintro (w | w)
        · exact h0 w
        · rw [h1] at w; cases w
      · rw [if_neg h1, if_pos (Or.inr (eq_false_of_ne_true h1))]
  rw [hI f (by omega), hprev, e1, hI (t + 1) (by omega)]
  simp only [q_bd]
  have hloop : (∀ h, h < f → f ≤ h → inn M b p h = true) → ∀ d N' h, d < N' → h + d = t + 1 → f ≤ h → (∀ x, x < h → f ≤ x → inn M b p x = true) → lp (fun _ => none) (b_X11_runs_40 N (nI b) (nI p) (nI t) M) N' (nI h) = some (if (∀ x, x < t + 1 → f ≤ x → inn M b p x = true) then 1 else 0) := by
    intro _ d
    induction d with
    | zero =>
      intro N' h hN' hh hfh hx
      obtain ⟨N', rfl⟩ : ∃ j, N' = j + 1 := ⟨N' - 1, by omega⟩
      rw [q_lp]
      unfold b_X11_runs_40
      have : h = t + 1 := by omega
      subst this
      rw [if_pos (by rw [q_lt (by omega) (by omega)]; omega), if_pos hx]
    | succ d ih =>
      intro N' h hN' hh hfh hx
      obtain ⟨N', rfl⟩ : ∃ j, N' = j + 1 := ⟨N' - 1, by omega⟩
      rw [q_lp]
      unfold b_X11_runs_40
      rw [if_neg (by rw [q_lt (by omega) (by omega)]; omega), hI h (by omega), q_bd]
      by_cases e : inn M b p h = true
      · rw [if_pos e, if_neg (by decide), q_nm, ← nI_succ]
        refine ih N' (h + 1) (by omega) (by omega) (by omega) ?_
        intro x h1 h2
        by_cases e2 : x = h
        · rw [e2]; exact e
        · exact hx x (by omega) h2
      · rw [if_neg e, if_pos rfl, if_neg]
        intro w
        exact e (w h (by omega) hfh)
  have hl := hloop (fun h h1 h2 => by omega) (t + 1 - f) N f (by omega) (by omega) (by omega) (fun x h1 h2 => by omega)
  rw [q_jp, hl]
  unfold runsP
  simp only [decide_eq_true_eq]
  by_cases a1 : inn M b p f = true
  · rw [if_pos a1, if_neg (show ¬ (1 : Int32) = 0 by decide)]
    by_cases a2 : f = 0 ∨ inn M b p (f - 1) = false
    · rw [if_pos a2, if_pos (show (0 : Int32) = 0 from rfl)]
      by_cases a3 : inn M b p (t + 1) = true
      · rw [if_pos a3, if_neg (show ¬ (1 : Int32) = 0 by decide), if_neg (by rintro ⟨-, -, w, -⟩; rw [a3] at w; cases w)]; rfl
      · rw [if_neg a3, if_pos (show (0 : Int32) = 0 from rfl)]
        by_cases a4 : ∀ x, x < t + 1 → f ≤ x → inn M b p x = true
        · rw [if_pos a4, if_pos ⟨hft, a2, eq_false_of_ne_true a3, a4⟩]; rfl
        · rw [if_neg a4, if_neg (fun w => a4 w.2.2.2)]; rfl
    · rw [if_neg a2, if_neg (show ¬ (1 : Int32) = 0 by decide), if_neg (fun w => a2 w.2.1)]; rfl
  · rw [if_neg a1, if_pos (show (0 : Int32) = 0 from rfl), if_neg (fun w => a1 (w.2.2.2 f (by omega) (by omega)))]; rfl
/-- a list in four arrays -/
def AL (r0 : Nat) (S : St) (l : List F4) : Prop := ∀ i x, l[i]? = some x → S.1 r0 i = nI x.1 ∧ S.1 (r0 + 1) i = nI x.2.1 ∧ S.1 (r0 + 2) i = nI x.2.2.1 ∧ S.1 (r0 + 3) i = nI x.2.2.2
theorem AL.nil {r0 : Nat} {S : St} : AL r0 S [] := fun i x h => by simp at h
theorem AL.go {r0 : Nat} {S S' : St} {l : List F4} (h : AL r0 S l) (hf : ∀ r k, r0 ≤ r → r ≤ r0 + 3 → k < l.length → S'.1 r k = S.1 r k) : AL r0 S' l := by
  intro i x hx
  have hi := (List.getElem?_eq_some_iff.mp hx).1
  rw [hf r0 i (by omega) (by omega) hi, hf _ i (by omega) (by omega) hi, hf _ i (by omega) (by omega) hi, hf _ i (by omega) (by omega) hi]
  exact h i x hx
theorem AL.add {r0 : Nat} {S S' : St} {l : List F4} {x : F4} (h : AL r0 S l) (hf : ∀ r k, r0 ≤ r → r ≤ r0 + 3 → k < l.length → S'.1 r k = S.1 r k) (h0 : S'.1 r0 l.length = nI x.1) (h1 : S'.1 (r0 + 1) l.length = nI x.2.1) (h2 : S'.1 (r0 + 2) l.length = nI x.2.2.1) (h3 : S'.1 (r0 + 3) l.length = nI x.2.2.2) : AL r0 S' (l ++ [x]) := by
  intro i y hy
  by_cases hi : i < l.length
  · rw [List.getElem?_append_left hi] at hy
    exact (h.go hf) i y hy
  · rw [List.getElem?_append_right (by omega)] at hy
    by_cases e : i = l.length
    · subst e
      rw [Nat.sub_self] at hy
      simp at hy
      subst hy
      exact ⟨h0, h1, h2, h3⟩
    · have : i - l.length ≠ 0 := by omega
      obtain ⟨j, hj⟩ : ∃ j, i - l.length = j + 1 := ⟨i - l.length - 1, by omega⟩
      rw [hj] at hy
      simp at hy
def Pf (r k : Nat) : Prop := (r = 0 ∧ k = 32) ∨ (16 ≤ r ∧ r ≤ 19)
def MC (l : List F4) (M : St) : Prop := M.1 0 32 = nI l.length ∧ AL 16 M l
theorem find77 {f t s : Nat} {l : List F4} {S : St} {K : Int32 → St → Option St} {Q : St → Prop} (hs : s < 64) (hl : l.length < 432) (h : MC l S) (hK : ∀ S', fr Pf S S' → MC (l ++ (if s ≠ 0 then [(b, f, t, s)] else [])) S' → ok (K (nI (t + 1)) S') Q) :
    ok (j_X11_find_77 (nI b) (nI f) (nI t) S K (nI s)) Q := by
  unfold j_X11_find_77 j_X11_find_136
  have hz : (nI s = 0) = (s = 0) := q_eq (b := 0) (by omega) (by omega)
  simp only [q_jp, q_nm]
  rw [← nI_succ]
  by_cases h0 : s = 0
  · rw [if_pos (hz ▸ h0)]
    refine hK S fr.rf ?_
    rw [if_neg (by omega), List.append_nil]
    exact h
  · rw [if_neg (fun w => h0 (hz ▸ w))]
    have h32 := h.1
    have x1 : (puI S 16 l.length (nI b)).1 0 32 = nI l.length := by rw [q_gR _ _ _ _ _ _ (by omega)]; exact h32
    have x2 : (puI (puI S 16 l.length (nI b)) 17 l.length (nI f)).1 0 32 = nI l.length := by rw [q_gR _ _ _ _ _ _ (by omega)]; exact x1
    have x3 : (puI (puI (puI S 16 l.length (nI b)) 17 l.length (nI f)) 18 l.length (nI t)).1 0 32 = nI l.length := by rw [q_gR _ _ _ _ _ _ (by omega)]; exact x2
    have x4 : (puI (puI (puI (puI S 16 l.length (nI b)) 17 l.length (nI f)) 18 l.length (nI t)) 19 l.length (nI s)).1 0 32 = nI l.length := by rw [q_gR _ _ _ _ _ _ (by omega)]; exact x3
    rw [h32, q_ck (by omega) (by omega), q_tn (by omega), x1, q_ck (by omega) (by omega), q_tn (by omega), x2, q_ck (by omega) (by omega), q_tn (by omega), x3, q_ck (by omega) (by omega), q_tn (by omega), x4, ← nI_succ]
    refine hK _ (((((fr.rf.pu (by unfold Pf; omega)).pu (by unfold Pf; omega)).pu (by unfold Pf; omega)).pu (by unfold Pf; omega)).pu (by unfold Pf; omega)) ?_
    rw [if_pos h0]
    refine ⟨?_, h.2.add ?_ ?_ ?_ ?_ ?_⟩
    · rw [q_gS, List.length_append]; rfl
    · intro r k h1 h2 h3
      rw [q_gR _ _ _ _ _ _ (by omega), q_gK _ _ _ _ _ _ (by omega), q_gK _ _ _ _ _ _ (by omega), q_gK _ _ _ _ _ _ (by omega), q_gK _ _ _ _ _ _ (by omega)]
    · rw [q_gR _ _ _ _ _ _ (by omega), q_gR _ _ _ _ _ _ (by omega), q_gR _ _ _ _ _ _ (by omega), q_gR _ _ _ _ _ _ (by omega), q_gS]
    · rw [q_gR _ _ _ _ _ _ (by omega), q_gR _ _ _ _ _ _ (by omega), q_gR _ _ _ _ _ _ (by omega), q_gS]
    · rw [q_gR _ _ _ _ _ _ (by omega), q_gR _ _ _ _ _ _ (by omega), q_gS]
    · rw [q_gR _ _ _ _ _ _ (by omega), q_gS]
theorem find37 {f t : Nat} {S : St} {k77 : Int32 → Option St} (hN : 6000 ≤ N) (hB : MB P R B S) (hb : b < B) (hft : f ≤ t) (ht : t < 24) :
    lp (fun _ _ => none) (b_X11_find_37 N (nI b) (nI f) (nI t) S k77) N 0 0 = k77 (nI (Sf (inn S) P b f t)) := by
  have hP6 := hB.2.2.2.1
  have key : ∀ d N' x, d < N' → x + d = P → lp (fun _ _ => none) (b_X11_find_37 N (nI b) (nI f) (nI t) S k77) N' (nI (fset (fun p => runsP (inn S b p) f t) x)) (nI x) = k77 (nI (Sf (inn S) P b f t)) := by
    intro d
    induction d with
    | zero =>
      intro N' x hN' hx
      obtain ⟨N', rfl⟩ : ∃ j, N' = j + 1 := ⟨N' - 1, by omega⟩
      have : x = P := by omega
      subst this
      rw [q_lp]
      unfold b_X11_find_37
      rw [hB.1, if_pos (by rw [q_le (by omega) (by omega)]; omega)]
      rfl
    | succ d ih =>
      intro N' x hN' hx
      obtain ⟨N', rfl⟩ : ∃ j, N' = j + 1 := ⟨N' - 1, by omega⟩
      have ih' := ih N' (x + 1) (by omega) (by omega)
      rw [q_lp]
      generalize lp (fun _ _ => none) (b_X11_find_37 N (nI b) (nI f) (nI t) S k77) N' = K at ih' ⊢
      unfold b_X11_find_37 j_X11_find_68
      rw [fset] at ih'
      rw [hB.1, if_neg (by rw [q_le (by omega) (by omega)]; omega), mruns_e hN hB hb (by omega) hft ht, q_bd, q_jp, q_shl x (by omega)]
      simp only [q_nm]
      rw [← nI_succ]
      by_cases e : runsP (inn S b x) f t = true
      · rw [if_pos e] at ih' ⊢
        rw [if_neg (by decide), q_or]
        exact ih'
      · rw [if_neg e] at ih' ⊢
        rw [if_pos rfl]
        have e0 : nI (fset (fun p => runsP (inn S b p) f t) x) ||| 0 = nI (fset (fun p => runsP (inn S b p) f t) x ||| 0) := q_or _ 0
        rw [e0]
        exact ih'
  exact key P N 0 (by omega) (by omega)
theorem MB.pf {S : St} (hB : MB P R B M) (hf : fr Pf M S) : MB P R B S := hB.go (hf.2 _ _ (by unfold Pf; omega)) (hf.2 _ _ (by unfold Pf; omega)) (hf.2 _ _ (by unfold Pf; omega)) (fun r hr => funext fun k => hf.2 _ _ (by unfold Pf; omega))
theorem inn_pf {S : St} (hf : fr Pf M S) : inn S = inn M := by
  funext b p h
  have e : ∀ r k, 5 ≤ r → r ≤ 14 → S.1 r k = M.1 r k := fun r k h1 h2 => hf.2 r k (by unfold Pf; omega)
  unfold inn
  rw [e 5 b (by omega) (by omega), e 6 b (by omega) (by omega), e 7 b (by omega) (by omega), e 14 _ (by omega) (by omega)]
theorem mfind_e (hN : 6000 ≤ N) (hB : MB P R B M) : ok (f_X11_find N M) fun M' => fr Pf M M' ∧ MC (FBn (Sf (inn M) P) B) M' := by
  have hB24 := hB.2.2.2.2.2.1
  have hP6 := hB.2.2.2.1
  have hL := (FL_le hB).2
  unfold f_X11_find
  rw [q_nm, q_jp]
  refine ok_up0 (n := B) (fun b S => fr Pf M S ∧ MC (FBn (Sf (inn M) P) b) S) ?_ ?_ (by omega) ⟨fr.rf.pu (by unfold Pf; omega), q_gS _ _ _ _, AL.nil⟩
  · rintro K S ⟨g1, g2⟩
    unfold b_X11_find_7
    rw [(hB.pf g1).2.2.1, if_pos (by rw [q_le (by omega) (by omega)]; omega)]
    exact ok_s ⟨g1, g2⟩
  · rintro K b S hb ⟨g1, g2⟩ hK
    unfold b_X11_find_7 j_X11_find_148
    rw [(hB.pf g1).2.2.1, if_neg (by rw [q_le (by omega) (by omega)]; omega), q_jp, q_jp]
    refine ok_up0 (n := 24) (fun f S => fr Pf M S ∧ MC (FBn (Sf (inn M) P) b ++ FF (Sf (inn M) P b) b f) S) ?_ ?_ (by omega) ⟨g1, by rw [FF, List.append_nil]; exact g2⟩
    · rintro K2 S2 ⟨b1, b2⟩
      unfold b_X11_find_17
      rw [if_pos (by decide)]
      show ok (K (nI b + 1) S2) _
      rw [← nI_succ]
      exact hK _ ⟨b1, b2⟩
    · rintro K2 f S2 hf ⟨b1, b2⟩ hK2
      unfold b_X11_find_17 j_X11_find_142
      rw [if_neg (show ¬ (24 : Int32) ≤ nI f from nI_ge (b := 24) hf (by omega)), q_jp, q_jp]
      have hz : FT (Sf (inn M) P b f) b f f = [] := by
        have : ∀ k, k ≤ f → FT (Sf (inn M) P b f) b f k = [] := by
          intro k
          induction k with
          | zero => intro _; rfl
          | succ k ih =>
            intro hk
            unfold FT
            rw [ih (by omega), Sf_lo (by omega)]
            rfl
        exact this f (Nat.le_refl _)
      refine ok_up (n := 24 - f) f (fun j S => fr Pf M S ∧ MC (FBn (Sf (inn M) P) b ++ FF (Sf (inn M) P b) b f ++ FT (Sf (inn M) P b f) b f (f + j)) S) ?_ ?_ (by omega) ⟨b1, by rw [Nat.add_zero, hz, List.append_nil]; exact b2⟩
      · rintro K3 S3 ⟨c1, c2⟩
        have e : f + (24 - f) = 24 := by omega
        rw [e] at c2 ⊢
        unfold b_X11_find_25
        rw [if_pos (by decide)]
        show ok (K2 (nI f + 1) S3) _
        rw [← nI_succ]
        refine hK2 _ ⟨c1, ?_⟩
        rw [FF, ← List.append_assoc]
        exact c2
      · rintro K3 j S3 hj ⟨c1, c2⟩ hK3
        unfold b_X11_find_25
        rw [if_neg (show ¬ (24 : Int32) ≤ nI (f + j) from nI_ge (b := 24) (by omega) (by omega)), q_jp, q_jp, find37 hN (hB.pf c1) hb (by omega) (by omega), inn_pf c1]
        have hlen := way_le (S := Sf (inn M) P) (b := b) (f := f) (t := f + j) (B := B) hb hf (by omega)
        have hs := fset_lt (fun p => runsP (inn M b p) f (f + j)) P
        have hp := pow_le (a := P) (b := 6) hP6
        have hs' : Sf (inn M) P b f (f + j) < 64 := by unfold Sf; omega
        by_cases h0 : Sf (inn M) P b f (f + j) = 0
        · -- nothing is added
          unfold j_X11_find_77 j_X11_find_136
          simp only [q_jp, q_nm]
          rw [h0, if_pos (show nI 0 = 0 from rfl), ← nI_succ]
          refine hK3 _ ⟨c1, ?_⟩
          have e : FT (Sf (inn M) P b f) b f (f + (j + 1)) = FT (Sf (inn M) P b f) b f (f + j) := by
            show FT (Sf (inn M) P b f) b f (f + j) ++ _ = _
            rw [if_neg (fun w => w h0), List.append_nil]
          rw [e]
          exact c2
        · have hl : (FBn (Sf (inn M) P) b ++ FF (Sf (inn M) P b) b f ++ FT (Sf (inn M) P b f) b f (f + j)).length < 432 := by
            have e : FT (Sf (inn M) P b f) b f (f + j + 1) = FT (Sf (inn M) P b f) b f (f + j) ++ [(b, f, f + j, Sf (inn M) P b f (f + j))] := by
              show FT (Sf (inn M) P b f) b f (f + j) ++ _ = _
              rw [if_pos h0]
            rw [e] at hlen
            rw [List.length_append, List.length_append] at hlen ⊢
            rw [List.length_append] at hlen
            have : [(b, f, f + j, Sf (inn M) P b f (f + j))].length = 1 := rfl
            omega
          refine find77 hs' hl c2 ?_
          intro S' d1 d2
          refine hK3 _ ⟨c1.tr d1, ?_⟩
          rw [List.append_assoc] at d2
          exact d2
end MF
