/-! pure part: what is chosen -/
abbrev I3 : Type := Nat × Nat × Nat
def its (Z W : Nat → Nat) (Wn : Nat → Bool) (n : Nat) : Nat → List I3
  | 0 => []
  | d + 1 => if Wn (n - (d + 1)) = true then its Z W Wn n d else (n - (d + 1), Z (n - (d + 1)), W (n - (d + 1))) :: its Z W Wn n d
def kn : List I3 → Nat → Nat
  | [], _ => 0
  | x :: l, r => if x.2.1 ≤ r ∧ kn l r ≤ (512 * x.2.2 - x.2.1) + kn l (r - x.2.1) then (512 * x.2.2 - x.2.1) + kn l (r - x.2.1) else kn l r
def kc (x : I3) (l : List I3) (r : Nat) : Bool := decide (x.2.1 ≤ r ∧ kn l r ≤ (512 * x.2.2 - x.2.1) + kn l (r - x.2.1))
def chs : List I3 → Nat → List Nat
  | [], _ => []
  | x :: l, r => if kc x l r = true then x.1 :: chs l (r - x.2.1) else chs l r
theorem kn_c (x : I3) (l : List I3) (r : Nat) : kn (x :: l) r = if kc x l r = true then (512 * x.2.2 - x.2.1) + kn l (r - x.2.1) else kn l r := by
  unfold kc
  rw [kn]
  simp only [decide_eq_true_eq]
theorem kn_lo {x : I3} {l : List I3} {r : Nat} (h : r < x.2.1) : kc x l r = false ∧ kn (x :: l) r = kn l r := by
  have : kc x l r = false := by unfold kc; rw [decide_eq_false_iff_not]; omega
  rw [kn_c, this]
  exact ⟨rfl, rfl⟩
def itOK (x : I3) : Prop := 1 ≤ x.2.1 ∧ x.2.1 ≤ 200 ∧ 1 ≤ x.2.2 ∧ x.2.2 ≤ 1296
theorem kn_le : ∀ (l : List I3) (r : Nat), (∀ x ∈ l, itOK x) → kn l r ≤ 663552 * l.length
  | [], _, _ => Nat.le_refl 0
  | x :: l, r, h => by
    have h1 := kn_le l r (fun y hy => h y (List.mem_cons_of_mem _ hy))
    have h2 := kn_le l (r - x.2.1) (fun y hy => h y (List.mem_cons_of_mem _ hy))
    have h3 := h x List.mem_cons_self
    unfold itOK at h3
    rw [kn_c, List.length_cons]
    split <;> omega
section ITS
variable {Z W : Nat → Nat} {Wn : Nat → Bool} {n : Nat}
theorem its_mem {d : Nat} (hd : d ≤ n) : ∀ x ∈ its Z W Wn n d, n - d ≤ x.1 ∧ x.1 < n ∧ x.2.1 = Z x.1 ∧ x.2.2 = W x.1 ∧ Wn x.1 = false := by
  induction d with
  | zero => intro x hx; cases hx
  | succ d ih =>
    intro x hx
    unfold its at hx
    by_cases e : Wn (n - (d + 1)) = true
    · rw [if_pos e] at hx
      obtain ⟨h1, h2⟩ := ih (by omega) x hx
      exact ⟨by omega, h2⟩
    · rw [if_neg e, List.mem_cons] at hx
      rcases hx with rfl | hx
      · exact ⟨Nat.le_refl _, by show n - (d + 1) < n; omega, rfl, rfl, eq_false_of_ne_true e⟩
      · obtain ⟨h1, h2⟩ := ih (by omega) x hx
        exact ⟨by omega, h2⟩
theorem its_len {d : Nat} : (its Z W Wn n d).length ≤ d := by
  induction d with
  | zero => exact Nat.le_refl _
  | succ d ih =>
    unfold its
    split
    · omega
    · rw [List.length_cons]; omega
theorem chs_mem : ∀ (l : List I3) (r : Nat), ∀ i ∈ chs l r, ∃ x ∈ l, x.1 = i
  | [], _, _ => fun h => by cases h
  | x :: l, r, i => fun h => by
    unfold chs at h
    by_cases e : kc x l r = true
    · rw [if_pos e, List.mem_cons] at h
      rcases h with rfl | h
      · exact ⟨x, List.mem_cons_self, rfl⟩
      · obtain ⟨y, h1, h2⟩ := chs_mem l _ i h
        exact ⟨y, List.mem_cons_of_mem _ h1, h2⟩
    · rw [if_neg e] at h
      obtain ⟨y, h1, h2⟩ := chs_mem l _ i h
      exact ⟨y, List.mem_cons_of_mem _ h1, h2⟩
end ITS
/-- sorted lists of the same elements are one -/
theorem sort_uniq {r : Nat → Nat} : ∀ (l l' : List Nat), l.Pairwise (fun a b => r a < r b) → l'.Pairwise (fun a b => r a < r b) → (∀ x, x ∈ l ↔ x ∈ l') → l = l'
  | [], [], _, _, _ => rfl
  | [], b :: l', _, _, h => by have := (h b).mpr List.mem_cons_self; cases this
  | a :: l, [], _, _, h => by have := (h a).mp List.mem_cons_self; cases this
  | a :: l, b :: l', h1, h2, h => by
    rw [List.pairwise_cons] at h1 h2
    have hab : a = b := by
      have ha := (h a).mp List.mem_cons_self
      have hb := (h b).mpr List.mem_cons_self
      rw [List.mem_cons] at ha hb
      rcases ha with e | ha
      · exact e
      · rcases hb with e | hb
        · exact e.symm
        · have x1 := h1.1 b hb
          have x2 := h2.1 a ha
          omega
    subst hab
    congr 1
    refine sort_uniq l l' h1.2 h2.2 ?_
    intro x
    constructor
    · intro hx
      have := (h x).mp (List.mem_cons_of_mem _ hx)
      rw [List.mem_cons] at this
      rcases this with e | this
      · have := h1.1 x hx
        rw [e] at this
        omega
      · exact this
    · intro hx
      have := (h x).mpr (List.mem_cons_of_mem _ hx)
      rw [List.mem_cons] at this
      rcases this with e | this
      · have := h2.1 x hx
        rw [e] at this
        omega
      · exact this
/-- sums over lists of different indices -/
def lsum (g : Nat → Nat) : List Nat → Nat
  | [] => 0
  | a :: l => g a + lsum g l
theorem lsum_app (g : Nat → Nat) (l l' : List Nat) : lsum g (l ++ l') = lsum g l + lsum g l' := by
  induction l with
  | nil => exact (Nat.zero_add _).symm
  | cons a l ih =>
    show g a + lsum g (l ++ l') = g a + lsum g l + lsum g l'
    omega
theorem sm_at (g : Nat → Nat) (a : Nat) : ∀ n, sm (fun j => if j = a then g j else 0) n = if a < n then g a else 0
  | 0 => by rw [sm, if_neg (by omega)]
  | n + 1 => by
    rw [sm, sm_at g a n]
    by_cases e : n = a
    · subst e
      rw [if_neg (by omega), if_pos rfl, if_pos (by omega), Nat.zero_add]
    · rw [if_neg e, Nat.add_zero]
      by_cases h : a < n
      · rw [if_pos h, if_pos (by omega)]
      · rw [if_neg h, if_neg (by omega)]
theorem lsum_sm (g : Nat → Nat) {n : Nat} : ∀ l : List Nat, l.Nodup → (∀ x ∈ l, x < n) → lsum g l = sm (fun j => if j ∈ l then g j else 0) n
  | [], _, _ => by
    rw [lsum, sm_eq (g := fun _ => 0), sm_0]
    intro i _
    rw [if_neg]
    intro h
    cases h
  | a :: l, h, hn => by
    rw [List.nodup_cons] at h
    rw [lsum, lsum_sm g l h.2 (fun x hx => hn x (List.mem_cons_of_mem _ hx))]
    have ha := hn a List.mem_cons_self
    have e1 := sm_at g a n
    rw [if_pos ha] at e1
    rw [← e1, ← sm_add]
    apply sm_eq
    intro j _
    by_cases ej : j = a
    · subst ej
      rw [if_pos rfl, if_neg h.1, if_pos List.mem_cons_self, Nat.add_zero]
    · rw [if_neg ej, Nat.zero_add]
      by_cases hj : j ∈ l
      · rw [if_pos hj, if_pos (List.mem_cons_of_mem _ hj)]
      · rw [if_neg hj, if_neg]
        rw [List.mem_cons]
        rintro (w | w)
        · exact ej w
        · exact hj w
theorem lsum_le (g : Nat → Nat) {n : Nat} {l : List Nat} (h : l.Nodup) (hn : ∀ x ∈ l, x < n) : lsum g l ≤ sm g n := by
  rw [lsum_sm g l h hn]
  apply sm_le
  intro i _
  split
  · exact Nat.le_refl _
  · exact Nat.zero_le _
theorem len_lsum (l : List Nat) : lsum (fun _ => 1) l = l.length := by
  induction l with
  | nil => rfl
  | cons a l ih => show 1 + lsum (fun _ => 1) l = l.length + 1; omega
theorem nodup_len {n : Nat} {l : List Nat} (h : l.Nodup) (hn : ∀ x ∈ l, x < n) : l.length ≤ n := by
  have := lsum_le (fun _ => 1) h hn
  rw [len_lsum, sm_c] at this
  omega
/-- loops that go down -/
theorem ok_dn {β : Type} {z : Int32 → St → Option β} {body : (Int32 → St → Option β) → Int32 → St → Option β} {Q : β → Prop} {n N : Nat} {S : St} (I : Nat → St → Prop)
    (hend : ∀ K S, I 0 S → ok (body K (-1) S) Q) (hs : ∀ K f S, f < n → I (f + 1) S → (∀ S', I f S' → ok (K (nI f + -1) S') Q) → ok (body K (nI f) S) Q) (hN : n < N) (h0 : I n S) : ok (lp z body N (nI n - 1) S) Q := by
  have e : ∀ f, nI f + -1 = nI f - 1 := fun f => (Int32.sub_eq_add_neg _ _).symm
  have key : ∀ f N' S, f < N' → f ≤ n → I f S → ok (lp z body N' (nI f - 1) S) Q := by
    intro f
    induction f with
    | zero =>
      intro N' S hN' _ hI
      obtain ⟨N', rfl⟩ : ∃ j, N' = j + 1 := ⟨N' - 1, by omega⟩
      exact hend _ S hI
    | succ f ih =>
      intro N' S hN' hf hI
      obtain ⟨N', rfl⟩ : ∃ j, N' = j + 1 := ⟨N' - 1, by omega⟩
      have e2 : nI (f + 1) - 1 = nI f := nI_pred f
      rw [e2, q_lp]
      refine hs _ f S (by omega) hI ?_
      intro S' hS'
      rw [e]
      exact ih N' S' (by omega) (by omega) hS'
  exact key n N S hN (Nat.le_refl _) h0
/-- what the reference's choosing rests on -/
def PQ (r k : Nat) : Prop := (r = 0 ∧ 37 ≤ k ∧ k ≤ 39) ∨ (20 ≤ r ∧ r ≤ 26)
def HM (N n : Nat) (Z W : Nat → Nat) (Wn : Nat → Bool) (M : St) : Prop := ∀ S, fr PQ M S → S.1 0 32 = nI n ∧ ∀ f, f < n → f_X11_sizeOf N (nI f) S = some (nI (Z f)) ∧ f_X11_weightOf N (nI f) S = some (nI (W f)) ∧ ∃ b, b < 24 ∧ S.1 16 f = nI b ∧ S.1 9 b = if Wn f = true then 1 else 0
theorem HM.go {N n : Nat} {Z W : Nat → Nat} {Wn : Nat → Bool} {M M' : St} (h : HM N n Z W Wn M) (hf : fr PQ M M') : HM N n Z W Wn M' := fun S hS => h S (hf.tr hS)
section CH
variable {N n room : Nat} {Z W : Nat → Nat} {Wn : Nat → Bool} {M : St}
theorem itsOK (hZ : ∀ f, f < n → 1 ≤ Z f ∧ Z f ≤ 200 ∧ 1 ≤ W f ∧ W f ≤ 1296) {d : Nat} (hd : d ≤ n) : ∀ x ∈ its Z W Wn n d, itOK x := by
  intro x hx
  obtain ⟨h1, h2, h3, h4, -⟩ := its_mem hd x hx
  unfold itOK
  rw [h3, h4]
  exact hZ _ h2
theorem its_S {f : Nat} (hf : f < n) : its Z W Wn n (n - f) = if Wn f = true then its Z W Wn n (n - (f + 1)) else (f, Z f, W f) :: its Z W Wn n (n - (f + 1)) := by
  have e : n - f = (n - (f + 1)) + 1 := by omega
  have e2 : n - (n - (f + 1) + 1) = f := by omega
  rw [e, its, e2]
theorem kn_lt (hZ : ∀ f, f < n → 1 ≤ Z f ∧ Z f ≤ 200 ∧ 1 ≤ W f ∧ W f ≤ 1296) (hn : n ≤ 432) {d r : Nat} (hd : d ≤ n) : kn (its Z W Wn n d) r ≤ 286654464 := by
  have h1 := kn_le (its Z W Wn n d) r (itsOK hZ hd)
  have h2 := its_len (Z := Z) (W := W) (Wn := Wn) (n := n) (d := d)
  have h3 : 663552 * (its Z W Wn n d).length ≤ 663552 * 432 := Nat.mul_le_mul_left _ (by omega)
  omega
/-- the reference fills a row of its table -/
theorem mrow {f : Nat} {K : St → Option St} {Q : St → Prop} {S : St} (hN : 6000 ≤ N) (hH : HM N n Z W Wn M) (hZ : ∀ f, f < n → 1 ≤ Z f ∧ Z f ≤ 200 ∧ 1 ≤ W f ∧ W f ≤ 1296) (hn : n ≤ 432) (hr : room ≤ 400) (hf : f < n) (hS : fr PQ M S) (hT : ∀ f' r, f < f' → f' ≤ n → r ≤ room → S.1 26 (401 * f' + r) = nI (kn (its Z W Wn n (n - f')) r))
    (hK : ∀ S', fr PQ M S' → (∀ r k, r ≠ 26 → S'.1 r k = S.1 r k) → (∀ f' r, f ≤ f' → f' ≤ n → r ≤ room → S'.1 26 (401 * f' + r) = nI (kn (its Z W Wn n (n - f')) r)) → ok (K S') Q) :
    ok (lp (fun _ _ => none) (b_X11_choose_62 (nI room) (nI f) (nI (Z f)) (nI (512 * W f - Z f)) K) N 0 S) Q := by
  obtain ⟨z1, z2, z3, z4⟩ := hZ f hf
  refine ok_up0 (n := room + 1) (fun r S' => (fr PQ M S' ∧ ∀ r k, r ≠ 26 → S'.1 r k = S.1 r k) ∧ (∀ f' r, f < f' → f' ≤ n → r ≤ room → S'.1 26 (401 * f' + r) = nI (kn (its Z W Wn n (n - f')) r)) ∧ ∀ x, x < r → S'.1 26 (401 * f + x) = nI (kn (its Z W Wn n (n - f)) x)) ?_ ?_ (by omega) ⟨⟨hS, fun _ _ _ => rfl⟩, hT, fun x hx => by omega⟩
  · rintro K2 S' ⟨⟨g1, g0⟩, g2, g3⟩
    unfold b_X11_choose_62
    rw [if_pos (by rw [q_lt (by omega) (by omega)]; omega)]
    refine hK S' g1 g0 ?_
    intro f' r h1 h2 h3
    by_cases e : f' = f
    · rw [e]; exact g3 r (by omega)
    · exact g2 f' r (by omega) h2 h3
  · rintro K2 r S' hr' ⟨⟨g1, g0⟩, g2, g3⟩ hK2
    obtain ⟨b, b1, b2, b3⟩ := ((hH S' g1).2 f hf).2.2
    have k0 := kn_lt (Wn := Wn) (r := r) hZ hn (d := n - (f + 1)) (by omega)
    have k1 := kn_lt (Wn := Wn) (r := r - Z f) hZ hn (d := n - (f + 1)) (by omega)
    unfold b_X11_choose_62 j_X11_choose_107 j_X11_choose_133 j_X11_choose_161
    have e1 : (401 : Int32) * nI f + 401 + nI r = nI (401 * (f + 1) + r) := by
      have : nI 401 * nI f + nI 401 + nI r = nI (401 * (f + 1) + r) := by
        rw [q_mul, q_add, q_add]
        congr 1
      exact this
    have e2 : (401 : Int32) * nI f + nI r = nI (401 * f + r) := by
      have : nI 401 * nI f + nI r = nI (401 * f + r) := by rw [q_mul, q_add]
      exact this
    have hst : ∀ v, v = kn (its Z W Wn n (n - f)) r → ok (K2 (nI (r + 1)) (puI S' 26 (401 * f + r) (nI v))) Q := by
      intro v hv
      refine hK2 _ ⟨⟨g1.pu (by unfold PQ; omega), fun r' k' h' => by rw [q_gR _ _ _ _ _ _ h']; exact g0 r' k' h'⟩, ?_, ?_⟩
      · intro f' r' h1 h2 h3
        rw [q_gK _ _ _ _ _ _ (by omega)]
        exact g2 f' r' h1 h2 h3
      · intro x hx
        rw [q_g]
        by_cases e : x = r
        · subst e
          rw [if_pos ⟨rfl, rfl⟩, hv]
        · rw [if_neg (by omega)]
          exact g3 x (by omega)
    rw [if_neg (by rw [q_lt (by omega) (by omega)]; omega), e1, e2, q_ck (by omega) (by omega), q_tn (by omega), g2 (f + 1) r (by omega) (by omega) (by omega), q_nm, q_ck (by omega) (by omega), q_tn (by omega), b2, q_ck (by omega) (by omega), q_tn (by omega), b3]
    simp only [q_jp, q_nm]
    rw [← nI_succ, q_ck (by omega) (by omega), q_ck (by omega) (by omega), q_tn (by omega)]
    have hI := its_S (Z := Z) (W := W) (Wn := Wn) hf
    have hm1 : (-1 : Int32) < nI (kn (its Z W Wn n (n - (f + 1))) r) := by
      rw [Int32.lt_iff_toInt_lt, nI_toInt (by omega)]
      have : (-1 : Int32).toInt = -1 := by decide
      omega
    by_cases ew : Wn f = true
    · rw [if_pos ew, if_neg (show ¬ (1 : Int32) = 0 by decide), if_pos hm1]
      rw [if_pos ew] at hI
      exact hst _ (by rw [hI])
    · rw [if_neg ew] at hI
      rw [if_neg ew, if_pos (show (0 : Int32) = 0 from rfl)]
      by_cases ez : Z f ≤ r
      · have e3 : nI (401 * (f + 1) + r) - nI (Z f) = nI (401 * (f + 1) + (r - Z f)) := by
          rw [q_sub (by omega)]
          congr 1
          omega
        rw [if_pos (by rw [q_le (by omega) (by omega)]; exact ez), e3, q_ck (by omega) (by omega), q_tn (by omega), g2 (f + 1) (r - Z f) (by omega) (by omega) (by omega), q_add]
        by_cases ec : kn (its Z W Wn n (n - (f + 1))) r ≤ (512 * W f - Z f) + kn (its Z W Wn n (n - (f + 1))) (r - Z f)
        · rw [if_neg (by rw [q_lt (by omega) (by omega)]; omega)]
          refine hst _ ?_
          rw [hI, kn, if_pos ⟨ez, ec⟩]
        · rw [if_pos (by rw [q_lt (by omega) (by omega)]; omega)]
          refine hst _ ?_
          rw [hI, kn, if_neg (fun w => ec w.2)]
      · rw [if_neg (by rw [q_le (by omega) (by omega)]; exact ez), if_pos hm1]
        refine hst _ ?_
        rw [hI, kn, if_neg (fun w => ez w.1)]
theorem mchoose_e (hN : 6000 ≤ N) (hH : HM N n Z W Wn M) (hZ : ∀ f, f < n → 1 ≤ Z f ∧ Z f ≤ 200 ∧ 1 ≤ W f ∧ W f ≤ 1296) (hn : n ≤ 432) (hr : room ≤ 400) :
    ok (f_X11_choose N (nI room) M) fun M' => fr PQ M M' ∧ (∀ r k, r ≠ 25 → r ≠ 26 → M'.1 r k = M.1 r k) ∧ ∃ fl : Nat → Bool, (∀ f, f < n → M'.1 25 f = if fl f = true then 1 else 0) ∧ ∀ x, x ∈ chs (its Z W Wn n n) room ↔ x < n ∧ fl x = true := by
  unfold f_X11_choose
  rw [q_jp, q_jp]
  refine ok_up0 (n := room + 1) (fun r S => fr (fun r _ => r = 26) M S ∧ ∀ x, x < r → S.1 26 (401 * n + x) = 0) ?_ ?_ (by omega) ⟨fr.rf, fun x hx => by omega⟩
  · rintro K S ⟨g1, g2⟩
    unfold b_X11_choose_2 j_X11_choose_29
    have gPQ : fr PQ M S := g1.mo (fun r k w => by unfold PQ; omega)
    rw [if_pos (by rw [q_lt (by omega) (by omega)]; omega), (hH S gPQ).1, q_nm, q_jp, q_jp]
    refine ok_dn (n := n) (fun f S => fr PQ M S ∧ (∀ r k, r ≠ 26 → S.1 r k = M.1 r k) ∧ ∀ f' r, f ≤ f' → f' ≤ n → r ≤ room → S.1 26 (401 * f' + r) = nI (kn (its Z W Wn n (n - f')) r)) ?_ ?_ (by omega) ⟨gPQ, fun r k h => g1.2 r k h, ?_⟩
    · rintro K2 S2 ⟨b1, b2, b3⟩
      unfold b_X11_choose_36 j_X11_choose_174
      rw [if_pos (by decide), q_jp]
      refine ok_l3 (fun m v x S' => ∃ f left fl, x = nI f ∧ v = nI left ∧ f ≤ n ∧ n - f = m ∧ left ≤ room ∧ fr PQ M S' ∧ (∀ r k, r ≠ 25 → r ≠ 26 → S'.1 r k = M.1 r k) ∧ S'.1 26 = S2.1 26 ∧ (∀ y, y < f → S'.1 25 y = if fl y = true then 1 else 0) ∧ ∀ y, y ∈ chs (its Z W Wn n n) room ↔ (y < f ∧ fl y = true) ∨ y ∈ chs (its Z W Wn n (n - f)) left) ?_ N n (nI room) 0 S2 (by omega) ⟨0, room, fun _ => false, rfl, rfl, by omega, rfl, Nat.le_refl _, b1, fun r k _ h2 => b2 r k h2, rfl, fun y hy => by omega, fun y => by simp⟩
      rintro K3 m v x S' ⟨f, left, fl, rfl, rfl, c1, c2, c3, c4, c5, c6, c7, c8⟩ hK3
      unfold b_X11_choose_178
      rw [(hH S' c4).1]
      by_cases hf : f < n
      · obtain ⟨s1, s2, b, b4, b5, b6⟩ := (hH S' c4).2 f hf
        obtain ⟨z1, z2, z3, z4⟩ := hZ f hf
        have hI := its_S (Z := Z) (W := W) (Wn := Wn) hf
        rw [if_neg (by rw [q_le (by omega) (by omega)]; omega), s1, q_bd, q_ck (by omega) (by omega), q_tn (by omega), b5, q_ck (by omega) (by omega), q_tn (by omega), b6, q_jp, q_jp]
        -- storing a flag
        have h270 : ∀ c : Bool, (c = true → Z f ≤ left) → (∀ y, y ∈ chs (its Z W Wn n (n - f)) left ↔ (y = f ∧ c = true) ∨ y ∈ chs (its Z W Wn n (n - (f + 1))) (if c = true then left - Z f else left)) → ok (j_X11_choose_270 (nI left) (nI f) S' K3 (nI (Z f)) (nI f) (if c = true then 1 else 0)) fun M' => fr PQ M M' ∧ (∀ r k, r ≠ 25 → r ≠ 26 → M'.1 r k = M.1 r k) ∧ ∃ fl : Nat → Bool, (∀ f, f < n → M'.1 25 f = if fl f = true then 1 else 0) ∧ ∀ x, x ∈ chs (its Z W Wn n n) room ↔ x < n ∧ fl x = true := by
          intro c hc1 hc2
          unfold j_X11_choose_270 j_X11_choose_285
          have hb : vp_nar .boolean (if c = true then 1 else 0) = if c = true then (1 : Int32) else 0 := q_bool (by cases c <;> decide)
          rw [q_ck (by omega) (by omega), q_tn (by omega), hb, q_nm, q_ck (by omega) (by omega), q_jp, q_gS]
          simp only [q_nm]
          rw [← nI_succ]
          have hgo : ∀ left', left' = (if c = true then left - Z f else left) → ok (K3 (nI left') (nI (f + 1)) (puI S' 25 f (if c = true then 1 else 0))) fun M' => fr PQ M M' ∧ (∀ r k, r ≠ 25 → r ≠ 26 → M'.1 r k = M.1 r k) ∧ ∃ fl : Nat → Bool, (∀ f, f < n → M'.1 25 f = if fl f = true then 1 else 0) ∧ ∀ x, x ∈ chs (its Z W Wn n n) room ↔ x < n ∧ fl x = true := by
            intro left' hl
            refine hK3 _ _ _ _ ?_ ⟨f + 1, left', fun y => if y = f then c else fl y, rfl, rfl, by omega, rfl, ?_, c4.pu (by unfold PQ; omega), ?_, ?_, ?_, ?_⟩
            · omega
            · rw [hl]; split <;> omega
            · intro r k h1 h2
              rw [q_gR _ _ _ _ _ _ h1]
              exact c5 r k h1 h2
            · rw [← c6]
              exact q_gRf _ _ _ _ _ (by omega)
            · intro y hy
              rw [q_g]
              show _ = if (if y = f then c else fl y) = true then 1 else 0
              by_cases e : y = f
              · rw [if_pos ⟨rfl, e⟩, if_pos e]
              · rw [if_neg (fun w => e w.2), if_neg e]
                exact c7 y (by omega)
            · intro y
              rw [c8 y, hc2 y, ← hl]
              show _ ↔ (y < f + 1 ∧ (if y = f then c else fl y) = true) ∨ _
              by_cases e : y = f
              · subst e
                rw [if_pos rfl]
                constructor
                · rintro (w | w | w)
                  · omega
                  · exact Or.inl ⟨by omega, w.2⟩
                  · exact Or.inr w
                · rintro (w | w)
                  · exact Or.inr (Or.inl ⟨rfl, w.2⟩)
                  · exact Or.inr (Or.inr w)
              · rw [if_neg e]
                constructor
                · rintro (w | w | w)
                  · exact Or.inl ⟨by omega, w.2⟩
                  · exact absurd w.1 e
                  · exact Or.inr w
                · rintro (w | w)
                  · exact Or.inl ⟨by omega, w.2⟩
                  · exact Or.inr (Or.inr w)
          cases c with
          | false =>
            rw [if_neg (show ¬ false = true by decide)] at hgo ⊢
            rw [if_pos (show (0 : Int32) = 0 from rfl)]
            exact hgo left rfl
          | true =>
            rw [if_pos (show true = true from rfl)] at hgo ⊢
            rw [if_neg (show ¬ (1 : Int32) = 0 by decide), q_sub (hc1 rfl)]
            exact hgo _ rfl
        have hno : kc (f, Z f, W f) (its Z W Wn n (n - (f + 1))) left = false ∨ Wn f = true → ok (j_X11_choose_269 (j_X11_choose_270 (nI left) (nI f) S' K3 (nI (Z f))) (nI f)) fun M' => fr PQ M M' ∧ (∀ r k, r ≠ 25 → r ≠ 26 → M'.1 r k = M.1 r k) ∧ ∃ fl : Nat → Bool, (∀ f, f < n → M'.1 25 f = if fl f = true then 1 else 0) ∧ ∀ x, x ∈ chs (its Z W Wn n n) room ↔ x < n ∧ fl x = true := by
          intro hor
          refine h270 false (fun w => by cases w) ?_
          intro y
          rw [hI]
          by_cases ew : Wn f = true
          · rw [if_pos ew]
            simp
          · rw [if_neg ew]
            rcases hor with w | w
            · rw [chs, w]
              simp
            · exact absurd w ew
        by_cases ew : Wn f = true
        · rw [if_pos ew, if_neg (show ¬ (1 : Int32) = 0 by decide)]
          exact hno (Or.inr ew)
        · rw [if_neg ew, if_pos (show (0 : Int32) = 0 from rfl)]
          by_cases ez : Z f ≤ left
          · have e1 : (401 : Int32) * nI f + 401 + nI left - nI (Z f) = nI (401 * (f + 1) + (left - Z f)) := by
              have : nI 401 * nI f + nI 401 + nI left - nI (Z f) = nI (401 * (f + 1) + (left - Z f)) := by
                rw [q_mul, q_add, q_add, q_sub (by omega)]
                congr 1
                omega
              exact this
            have e2 : (401 : Int32) * nI f + nI left = nI (401 * f + left) := by
              have : nI 401 * nI f + nI left = nI (401 * f + left) := by rw [q_mul, q_add]
              exact this
            have e3 : (512 : Int32) * nI (W f) - nI (Z f) = nI (512 * W f - Z f) := by
              have : nI 512 * nI (W f) - nI (Z f) = nI (512 * W f - Z f) := by rw [q_mul, q_sub (by omega)]
              exact this
            have k0 := kn_lt (Wn := Wn) (r := left) hZ hn (d := n - (f + 1)) (by omega)
            have k1 := kn_lt (Wn := Wn) (r := left - Z f) hZ hn (d := n - (f + 1)) (by omega)
            rw [if_neg (by rw [q_lt (by omega) (by omega)]; omega), s2, q_bd, e1, e2, e3, q_ck (by omega) (by omega), q_ck (by omega) (by omega), q_tn (by omega), q_tn (by omega), c6, b3 (f + 1) (left - Z f) (by omega) (by omega) (by omega), b3 f left (by omega) (by omega) (by omega), q_add, hI, if_neg ew, kn_c]
            have hkc : kc (f, Z f, W f) (its Z W Wn n (n - (f + 1))) left = decide (kn (its Z W Wn n (n - (f + 1))) left ≤ (512 * W f - Z f) + kn (its Z W Wn n (n - (f + 1))) (left - Z f)) := by
              unfold kc
              simp only [ez, true_and]
            by_cases ec : kc (f, Z f, W f) (its Z W Wn n (n - (f + 1))) left = true
            · rw [if_pos ec, if_pos rfl]
              refine h270 true (fun _ => ez) ?_
              intro y
              rw [hI, if_neg ew, chs, if_pos ec, List.mem_cons]
              simp
            · have ec2 := ec
              rw [hkc, decide_eq_true_eq] at ec2
              rw [if_neg ec, if_neg (by rw [q_eq (by omega) (by omega)]; omega)]
              exact hno (Or.inl (eq_false_of_ne_true ec))
          · rw [if_pos (by rw [q_lt (by omega) (by omega)]; omega)]
            exact hno (Or.inl (kn_lo (by show left < Z f; omega)).1)
      · have : f = n := by omega
        subst this
        rw [if_pos (by rw [q_le (by omega) (by omega)]; omega)]
        refine ok_s ⟨c4, c5, fl, c7, ?_⟩
        intro y
        rw [c8 y, Nat.sub_self]
        constructor
        · rintro (w | w)
          · exact w
          · cases w
        · exact Or.inl
    · rintro K2 f S2 hf ⟨b1, b2, b3⟩ hK2
      obtain ⟨s1, s2, -⟩ := (hH S2 b1).2 f hf
      obtain ⟨z1, z2, z3, z4⟩ := hZ f hf
      unfold b_X11_choose_36
      have e3 : (512 : Int32) * nI (W f) - nI (Z f) = nI (512 * W f - Z f) := by
        have : nI 512 * nI (W f) - nI (Z f) = nI (512 * W f - Z f) := by rw [q_mul, q_sub (by omega)]
        exact this
      rw [if_neg (nI_pos (by omega)), s1, q_bd, s2, q_bd, e3, q_nm, q_jp, q_jp]
      refine mrow hN hH hZ hn hr hf b1 (fun f' r h1 h2 h3 => b3 f' r (by omega) h2 h3) ?_
      intro S' d1 d2 d3
      unfold j_X11_choose_168
      rw [q_nm]
      exact hK2 _ ⟨d1, fun r k h => by rw [d2 r k h]; exact b2 r k h, d3⟩
    · intro f' r h1 h2 h3
      have : f' = n := by omega
      subst this
      rw [g2 r (by omega), Nat.sub_self]
      rfl
  · rintro K r S hr' ⟨g1, g2⟩ hK
    have gPQ : fr PQ M S := g1.mo (fun r k w => by unfold PQ; omega)
    unfold b_X11_choose_2
    have e2 : (401 : Int32) * nI n + nI r = nI (401 * n + r) := by
      have : nI 401 * nI n + nI r = nI (401 * n + r) := by rw [q_mul, q_add]
      exact this
    rw [if_neg (by rw [q_lt (by omega) (by omega)]; omega), (hH S gPQ).1, e2, q_ck (by omega) (by omega), q_tn (by omega), q_nm, q_nm, ← nI_succ]
    refine hK _ ⟨g1.pu rfl, ?_⟩
    intro x hx
    rw [q_g]
    by_cases e : x = r
    · rw [if_pos ⟨rfl, by omega⟩]
    · rw [if_neg (by omega)]
      exact g2 x (by omega)
end CH
