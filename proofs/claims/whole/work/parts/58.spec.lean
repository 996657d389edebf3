/-! pure part: what the findings are, and how many -/
def sm (f : Nat → Nat) : Nat → Nat
  | 0 => 0
  | n + 1 => sm f n + f n
theorem sm_le {f g : Nat → Nat} : ∀ {n : Nat}, (∀ i, i < n → f i ≤ g i) → sm f n ≤ sm g n
  | 0, _ => Nat.le_refl 0
  | n + 1, h => by
    have := sm_le (f := f) (g := g) (n := n) (fun i hi => h i (by omega))
    have := h n (by omega)
    unfold sm
    omega
theorem sm_eq {f g : Nat → Nat} : ∀ {n : Nat}, (∀ i, i < n → f i = g i) → sm f n = sm g n
  | 0, _ => rfl
  | n + 1, h => by
    unfold sm
    rw [sm_eq (fun i hi => h i (by omega)), h n (by omega)]
theorem sm_add (f g : Nat → Nat) : ∀ n, sm (fun i => f i + g i) n = sm f n + sm g n
  | 0 => rfl
  | n + 1 => by
    unfold sm
    rw [sm_add f g n]
    omega
theorem sm_0 : ∀ n, sm (fun _ => 0) n = 0
  | 0 => rfl
  | n + 1 => by unfold sm; rw [sm_0 n]
theorem sm_c (c : Nat) : ∀ n, sm (fun _ => c) n = n * c
  | 0 => by rw [sm, Nat.zero_mul]
  | n + 1 => by rw [sm, sm_c c n, Nat.succ_mul]
theorem sm_sw (f : Nat → Nat → Nat) (m : Nat) : ∀ n, sm (fun i => sm (fun j => f i j) m) n = sm (fun j => sm (fun i => f i j) n) m
  | 0 => by
    show 0 = sm (fun _ => 0) m
    rw [sm_0]
  | n + 1 => by
    show sm (fun i => sm (fun j => f i j) m) n + sm (fun j => f n j) m = sm (fun j => sm (fun i => f i j) n + f n j) m
    rw [sm_add, sm_sw f m n]
theorem sm_one {E : Nat → Bool} : ∀ {n : Nat}, (∀ i j, i < j → j < n → E i = true → E j = true → False) → sm (fun i => if E i = true then 1 else 0) n ≤ 1
  | 0, _ => by unfold sm; omega
  | n + 1, h => by
    have ih := sm_one (E := E) (n := n) (fun i j hij hj => h i j hij (by omega))
    unfold sm
    by_cases e : E n = true
    · rw [if_pos e]
      have : sm (fun i => if E i = true then 1 else 0) n = 0 := by
        rw [sm_eq (g := fun _ => 0), sm_0]
        intro i hi
        rw [if_neg]
        intro w
        exact h i n hi (by omega) w e
      omega
    · rw [if_neg e]
      omega
/-- the set of those that E holds of -/
def fset (E : Nat → Bool) : Nat → Nat
  | 0 => 0
  | p + 1 => fset E p ||| (if E p = true then 2 ^ p else 0)
theorem fset_t (E : Nat → Bool) (i : Nat) : ∀ P, (fset E P).testBit i = (decide (i < P) && E i)
  | 0 => by
    unfold fset
    rw [Nat.zero_testBit]
    simp
  | P + 1 => by
    unfold fset
    rw [Nat.testBit_or, fset_t E i P]
    by_cases e : E P = true
    · rw [if_pos e, Nat.testBit_two_pow]
      by_cases h : i = P
      · subst h
        simp [e]
      · have : ¬ P = i := fun w => h w.symm
        have h2 : (i < P + 1) = (i < P) := by apply propext; omega
        simp [this, h2]
    · rw [if_neg e, Nat.zero_testBit, Bool.or_false]
      by_cases h : i = P
      · subst h
        simp [e]
      · have h2 : (i < P + 1) = (i < P) := by apply propext; omega
        simp [h2]
theorem fset_lt (E : Nat → Bool) : ∀ P, fset E P < 2 ^ P
  | 0 => by unfold fset; decide
  | P + 1 => by
    unfold fset
    have h1 := fset_lt E P
    have h2 : 2 ^ P < 2 ^ (P + 1) := Nat.pow_lt_pow_right (by decide) (by omega)
    apply Nat.or_lt_two_pow
    · omega
    · split
      · exact h2
      · exact Nat.two_pow_pos _
theorem pcn_sm (x : Nat) : ∀ k, pcn x k = sm (fun i => if x.testBit i = true then 1 else 0) k
  | 0 => rfl
  | k + 1 => by unfold pcn sm; rw [pcn_sm x k]
theorem pc_fset {E : Nat → Bool} {P : Nat} (hP : P ≤ 12) : pc (fset E P) = sm (fun p => if E p = true then 1 else 0) P := by
  have h : pc (fset E P) = pcn (fset E P) (P + (12 - P)) := by unfold pc; rw [Nat.add_sub_cancel' hP]
  rw [h, pcn_ext (fset_lt E P), pcn_sm]
  apply sm_eq
  intro i hi
  rw [fset_t, decide_eq_true hi, Bool.true_and]
theorem fset_cg {E F : Nat → Bool} : ∀ {P : Nat}, (∀ i, i < P → E i = F i) → fset E P = fset F P
  | 0, _ => rfl
  | P + 1, h => by
    unfold fset
    rw [fset_cg (fun i hi => h i (by omega)), h P (by omega)]
/-- a place runs in a band from f to t -/
def runsP (I : Nat → Bool) (f t : Nat) : Bool := decide (f ≤ t ∧ (f = 0 ∨ I (f - 1) = false) ∧ I (t + 1) = false ∧ ∀ h, h < t + 1 → f ≤ h → I h = true)
theorem runsP_uniq {I : Nat → Bool} {f t t' : Nat} (h : t < t') (h1 : runsP I f t = true) (h2 : runsP I f t' = true) : False := by
  unfold runsP at h1 h2
  rw [decide_eq_true_eq] at h1 h2
  have := h2.2.2.2 (t + 1) (by omega) (by omega)
  rw [h1.2.2.1] at this
  cases this
theorem runsP_in {I : Nat → Bool} {f t : Nat} (h1 : runsP I f t = true) : I f = true := by
  unfold runsP at h1
  rw [decide_eq_true_eq] at h1
  exact h1.2.2.2 f (by omega) (by omega)
abbrev F4 : Type := Nat × Nat × Nat × Nat
def FT (S : Nat → Nat) (b f : Nat) : Nat → List F4
  | 0 => []
  | t + 1 => FT S b f t ++ (if S t ≠ 0 then [(b, f, t, S t)] else [])
def FF (S : Nat → Nat → Nat) (b : Nat) : Nat → List F4
  | 0 => []
  | f + 1 => FF S b f ++ FT (S f) b f 24
def FBn (S : Nat → Nat → Nat → Nat) : Nat → List F4
  | 0 => []
  | b + 1 => FBn S b ++ FF (S b) b 24
def Sf (I : Nat → Nat → Nat → Bool) (P b f t : Nat) : Nat := fset (fun p => runsP (I b p) f t) P
theorem Sf_lo {I : Nat → Nat → Nat → Bool} {P b f t : Nat} (h : t < f) : Sf I P b f t = 0 := by
  unfold Sf
  apply Nat.eq_of_testBit_eq
  intro i
  rw [fset_t, Nat.zero_testBit]
  have : runsP (I b i) f t = false := by unfold runsP; rw [decide_eq_false_iff_not]; omega
  rw [this, Bool.and_false]
def psum : List F4 → Nat
  | [] => 0
  | x :: l => pc x.2.2.2 + psum l
theorem psum_app (l l' : List F4) : psum (l ++ l') = psum l + psum l' := by
  induction l with
  | nil => exact (Nat.zero_add _).symm
  | cons a l ih =>
    show pc a.2.2.2 + psum (l ++ l') = pc a.2.2.2 + psum l + psum l'
    rw [ih, Nat.add_assoc]
theorem FT_sum (S : Nat → Nat) (b f : Nat) : ∀ k, psum (FT S b f k) = sm (fun t => pc (S t)) k
  | 0 => rfl
  | k + 1 => by
    unfold FT sm
    rw [psum_app, FT_sum S b f k]
    by_cases h : S k ≠ 0
    · rw [if_pos h]; rfl
    · rw [if_neg h, Decidable.not_not.mp h]; rfl
theorem FF_sum (S : Nat → Nat → Nat) (b : Nat) : ∀ k, psum (FF S b k) = sm (fun f => sm (fun t => pc (S f t)) 24) k
  | 0 => rfl
  | k + 1 => by
    unfold FF sm
    rw [psum_app, FF_sum S b k, FT_sum]
theorem FB_sum (S : Nat → Nat → Nat → Nat) : ∀ k, psum (FBn S k) = sm (fun b => sm (fun f => sm (fun t => pc (S b f t)) 24) 24) k
  | 0 => rfl
  | k + 1 => by
    unfold FBn sm
    rw [psum_app, FB_sum S k, FF_sum]
/-- every place in a band at an hour: at most once a quantity -/
theorem psum_le {I : Nat → Nat → Nat → Bool} {P B : Nat} (hP : P ≤ 6) (q : Nat → Nat) (hq : ∀ b, b < B → q b < 3) (hI : ∀ b b' p h, b < b' → b' < B → q b = q b' → I b p h = true → I b' p h = true → False) :
    psum (FBn (Sf I P) B) ≤ 432 := by
  rw [FB_sum]
  have h1 : ∀ b f, sm (fun t => pc (Sf I P b f t)) 24 ≤ sm (fun p => if I b p f = true then 1 else 0) P := by
    intro b f
    have e : sm (fun t => pc (Sf I P b f t)) 24 = sm (fun t => sm (fun p => if runsP (I b p) f t = true then 1 else 0) P) 24 := sm_eq (fun t _ => pc_fset (by omega))
    rw [e, sm_sw]
    apply sm_le
    intro p hp
    by_cases hp1 : I b p f = true
    · rw [if_pos hp1]
      exact sm_one (E := fun t => runsP (I b p) f t) (fun i j hij hj a c => runsP_uniq hij a c)
    · rw [if_neg hp1, sm_eq (g := fun _ => 0), sm_0]
      · exact Nat.le_refl 0
      · intro t ht
        rw [if_neg (fun w => hp1 (runsP_in w))]
  have h2 : sm (fun b => sm (fun f => sm (fun t => pc (Sf I P b f t)) 24) 24) B ≤ sm (fun b => sm (fun f => sm (fun p => if I b p f = true then 1 else 0) P) 24) B := sm_le (fun b _ => sm_le (fun f _ => h1 b f))
  refine Nat.le_trans h2 ?_
  rw [sm_sw]
  have h3 : ∀ f, f < 24 → sm (fun b => sm (fun p => if I b p f = true then 1 else 0) P) B ≤ 18 := by
    intro f _
    rw [sm_sw]
    have h4 : ∀ p, p < P → sm (fun b => if I b p f = true then 1 else 0) B ≤ 3 := by
      intro p _
      have e : sm (fun b => if I b p f = true then 1 else 0) B = sm (fun b => sm (fun x => if (decide (q b = x) && I b p f) = true then 1 else 0) 3) B := by
        apply sm_eq
        intro b hb
        have := hq b hb
        have hx : q b = 0 ∨ q b = 1 ∨ q b = 2 := by omega
        unfold sm sm sm sm
        by_cases hI1 : I b p f = true
        · rcases hx with w | w | w <;> simp [w, hI1]
        · simp [hI1]
      rw [e, sm_sw]
      have h5 : sm (fun x => sm (fun b => if (decide (q b = x) && I b p f) = true then 1 else 0) B) 3 ≤ sm (fun _ => 1) 3 := by
        apply sm_le
        intro x _
        refine sm_one (E := fun b => decide (q b = x) && I b p f) ?_
        intro i j hij hj a c
        rw [Bool.and_eq_true, decide_eq_true_eq] at a c
        exact hI i j p f hij hj (by omega) a.2 c.2
      exact h5
    have h6 := sm_le (f := fun p => sm (fun b => if I b p f = true then 1 else 0) B) (g := fun _ => 3) (n := P) h4
    rw [sm_c] at h6
    omega
  have h7 := sm_le (f := fun f => sm (fun b => sm (fun p => if I b p f = true then 1 else 0) P) B) (g := fun _ => 18) (n := 24) h3
  rw [sm_c] at h7
  omega
/-- each finding is of a place at least -/
theorem pc_pos {x : Nat} (h0 : x ≠ 0) (h : x < 4096) : 1 ≤ pc x := by
  apply Decidable.byContradiction
  intro w
  apply h0
  have hz : ∀ k, pcn x k = 0 → ∀ i, i < k → x.testBit i = false := by
    intro k
    induction k with
    | zero => intro _ i hi; omega
    | succ k ih =>
      intro hk i hi
      unfold pcn at hk
      have h1 : pcn x k = 0 := by omega
      by_cases e : i = k
      · subst e
        apply eq_false_of_ne_true
        intro w
        rw [if_pos w] at hk
        omega
      · exact ih h1 i (by omega)
  have h12 : pcn x 12 = 0 := by unfold pc at w; omega
  apply Nat.eq_of_testBit_eq
  intro i
  rw [Nat.zero_testBit]
  by_cases hi : i < 12
  · exact hz 12 h12 i hi
  · exact Nat.testBit_lt_two_pow (Nat.lt_of_lt_of_le h (Nat.le_trans (show 4096 ≤ 2 ^ 12 by decide) (pow_le (by omega))))
def okF (P B : Nat) (x : F4) : Prop := x.1 < B ∧ x.2.1 ≤ x.2.2.1 ∧ x.2.2.1 < 24 ∧ 0 < x.2.2.2 ∧ x.2.2.2 < 2 ^ P
theorem FT_ok {I : Nat → Nat → Nat → Bool} {P B b f : Nat} (hb : b < B) : ∀ k, k ≤ 24 → ∀ x ∈ FT (Sf I P b f) b f k, okF P B x
  | 0, _ => fun x hx => absurd hx (by unfold FT; simp)
  | k + 1, hk => fun x hx => by
    unfold FT at hx
    rw [List.mem_append] at hx
    rcases hx with hx | hx
    · exact FT_ok hb k (by omega) x hx
    · by_cases h : Sf I P b f k ≠ 0
      · rw [if_pos h, List.mem_singleton] at hx
        subst hx
        refine ⟨hb, ?_, by show k < 24; omega, Nat.pos_of_ne_zero h, fset_lt _ _⟩
        show f ≤ k
        apply Decidable.byContradiction
        intro w
        exact h (Sf_lo (by omega))
      · rw [if_neg h] at hx
        cases hx
theorem FF_ok {I : Nat → Nat → Nat → Bool} {P B b : Nat} (hb : b < B) : ∀ k, ∀ x ∈ FF (Sf I P b) b k, okF P B x
  | 0 => fun x hx => absurd hx (by unfold FF; simp)
  | k + 1 => fun x hx => by
    unfold FF at hx
    rw [List.mem_append] at hx
    rcases hx with hx | hx
    · exact FF_ok hb k x hx
    · exact FT_ok hb 24 (Nat.le_refl _) x hx
theorem FB_ok {I : Nat → Nat → Nat → Bool} {P B : Nat} : ∀ k, k ≤ B → ∀ x ∈ FBn (Sf I P) k, okF P B x
  | 0, _ => fun x hx => absurd hx (by unfold FBn; simp)
  | k + 1, hk => fun x hx => by
    unfold FBn at hx
    rw [List.mem_append] at hx
    rcases hx with hx | hx
    · exact FB_ok k (by omega) x hx
    · exact FF_ok (by omega) 24 x hx
theorem len_psum {P B : Nat} (hP : P ≤ 6) : ∀ l : List F4, (∀ x ∈ l, okF P B x) → l.length ≤ psum l
  | [], _ => Nat.le_refl 0
  | x :: l, h => by
    have ih := len_psum hP l (fun y hy => h y (List.mem_cons_of_mem _ hy))
    have hx := h x List.mem_cons_self
    have := pow_le (a := P) (b := 6) hP
    have := pc_pos (x := x.2.2.2) (by have := hx.2.2.2.1; omega) (by have := hx.2.2.2.2; omega)
    show l.length + 1 ≤ pc x.2.2.2 + psum l
    omega
/-- how long the lists are on the way -/
theorem FT_mono (S : Nat → Nat) (b f : Nat) {k m : Nat} (h : k ≤ m) : (FT S b f k).length ≤ (FT S b f m).length := by
  induction m with
  | zero => have : k = 0 := by omega
            rw [this]; exact Nat.le_refl _
  | succ m ih =>
    by_cases e : k = m + 1
    · rw [e]; exact Nat.le_refl _
    · have := ih (by omega)
      show _ ≤ (FT S b f m ++ _).length
      rw [List.length_append]
      omega
theorem FF_mono (S : Nat → Nat → Nat) (b : Nat) {k m : Nat} (h : k ≤ m) : (FF S b k).length ≤ (FF S b m).length := by
  induction m with
  | zero => have : k = 0 := by omega
            rw [this]; exact Nat.le_refl _
  | succ m ih =>
    by_cases e : k = m + 1
    · rw [e]; exact Nat.le_refl _
    · have := ih (by omega)
      show _ ≤ (FF S b m ++ _).length
      rw [List.length_append]
      omega
theorem FB_mono (S : Nat → Nat → Nat → Nat) {k m : Nat} (h : k ≤ m) : (FBn S k).length ≤ (FBn S m).length := by
  induction m with
  | zero => have : k = 0 := by omega
            rw [this]; exact Nat.le_refl _
  | succ m ih =>
    by_cases e : k = m + 1
    · rw [e]; exact Nat.le_refl _
    · have := ih (by omega)
      show _ ≤ (FBn S m ++ _).length
      rw [List.length_append]
      omega
theorem way_le {S : Nat → Nat → Nat → Nat} {b f t B : Nat} (hb : b < B) (hf : f < 24) (ht : t < 24) : (FBn S b ++ FF (S b) b f ++ FT (S b f) b f (t + 1)).length ≤ (FBn S B).length := by
  have h1 := FT_mono (S b f) b f (k := t + 1) (m := 24) (by omega)
  have h2 := FF_mono (S b) b (k := f + 1) (m := 24) (by omega)
  have h3 := FB_mono S (k := b + 1) (m := B) (by omega)
  have e2 : (FF (S b) b (f + 1)).length = (FF (S b) b f).length + (FT (S b f) b f 24).length := by
    show (FF (S b) b f ++ FT (S b f) b f 24).length = _
    rw [List.length_append]
  have e3 : (FBn S (b + 1)).length = (FBn S b).length + (FF (S b) b 24).length := by
    show (FBn S b ++ FF (S b) b 24).length = _
    rw [List.length_append]
  rw [List.length_append, List.length_append]
  omega
