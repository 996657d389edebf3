/-! pure part: bits (the first rows are out of kit/laws/BITS.to-paste) -/
def bt (x : Int32) (i : Nat) : Bool := x.toBitVec.getLsbD i
theorem b_ext {x y : Int32} (h : ∀ i, i < 32 → bt x i = bt y i) : x = y := Int32.toBitVec_inj.mp (BitVec.eq_of_getLsbD_eq (fun i hi => h i hi))
theorem b_or (x y : Int32) (i : Nat) : bt (x ||| y) i = (bt x i || bt y i) := by unfold bt; rw [Int32.toBitVec_or, BitVec.getLsbD_or]
theorem b_and (x y : Int32) (i : Nat) : bt (x &&& y) i = (bt x i && bt y i) := by unfold bt; rw [Int32.toBitVec_and, BitVec.getLsbD_and]
theorem b_xor (x y : Int32) (i : Nat) : bt (x ^^^ y) i = (bt x i ^^ bt y i) := by unfold bt; rw [Int32.toBitVec_xor, BitVec.getLsbD_xor]
theorem b_big {x : Int32} {i : Nat} (h : 32 ≤ i) : bt x i = false := BitVec.getLsbD_of_ge _ _ h
theorem b_m1 : ∀ i, i < 32 → bt (-1) i = true := by decide +kernel
theorem b_0 (i : Nat) : bt 0 i = false := BitVec.getLsbD_zero
theorem s_l : ∀ n, n < 32 → ((nI n &&& 31).toBitVec.smod 32).toNat = n := by decide +kernel
theorem b_shl (n : Nat) (hn : n < 32) (x : Int32) {i : Nat} (hi : i < 32) : bt (x <<< (nI n &&& 31)) i = (decide (n ≤ i) && bt x (i - n)) := by
  unfold bt
  rw [Int32.toBitVec_shiftLeft]
  show (x.toBitVec <<< ((nI n &&& 31).toBitVec.smod 32).toNat).getLsbD i = _
  rw [s_l n hn, BitVec.getLsbD_shiftLeft]
  rcases Nat.lt_or_ge i n with h | h
  · simp [h, Nat.not_le.mpr h]
  · simp [hi, h, Nat.not_lt.mpr h]
theorem b_sshr (n : Nat) (hn : n < 32) (x : Int32) {i : Nat} (hi : i < 32) : bt (x >>> (nI n &&& 31)) i = if n + i < 32 then bt x (n + i) else bt x 31 := by
  unfold bt
  rw [Int32.toBitVec_shiftRight]
  show (x.toBitVec.sshiftRight ((nI n &&& 31).toBitVec.smod 32).toNat).getLsbD i = _
  rw [s_l n hn, BitVec.getLsbD_sshiftRight, BitVec.msb_eq_getLsbD_last]
  simp [hi]
theorem pf_lI {a : Nat} (h : a < 2 ^ 63) : (lN a).toInt = (a : Int) := lg_ofNat_toInt h
theorem pf_shr {a d : Nat} {D : Int64} (hD : (D.toBitVec.smod 64).toNat = d) (h : a < 2 ^ 62) : lN a >>> D = lN (a / 2 ^ d) := by
  have hd : a / 2 ^ d ≤ a := Nat.div_le_self _ _
  apply Int64.toInt_inj.mp
  have e : (lN a >>> D).toInt = (lN a).toInt >>> d := by
    rw [← hD]
    exact BitVec.toInt_sshiftRight ..
  rw [e, Int.shiftRight_eq_div_pow, pf_lI (by omega), pf_lI (by omega)]
  rfl
theorem bt_nI {x i : Nat} (hi : i < 32) : bt (nI x) i = x.testBit i := by
  show (BitVec.ofNat 32 x).getLsbD i = x.testBit i
  rw [BitVec.getLsbD_ofNat]
  simp [hi]
theorem bt_1 : ∀ i, i < 32 → bt 1 i = decide (i = 0) := by decide +kernel
theorem q_bit (v : Int32) {k : Nat} (hk : k < 32) : (v >>> (nI k &&& 31)) &&& 1 = if bt v k = true then 1 else 0 := by
  apply b_ext
  intro i hi
  rw [b_and, b_sshr k hk v hi, bt_1 i hi]
  by_cases h0 : i = 0
  · subst h0
    rw [if_pos (by omega), Nat.add_zero]
    by_cases h : bt v k = true
    · rw [if_pos h, h, bt_1 0 (by omega)]; rfl
    · rw [if_neg h, eq_false_of_ne_true h, b_0]; rfl
  · rw [decide_eq_false h0, Bool.and_false]
    by_cases h : bt v k = true
    · rw [if_pos h, bt_1 i hi, decide_eq_false h0]
    · rw [if_neg h, b_0]
theorem q_bitN {x k : Nat} (hk : k < 32) : (nI x >>> (nI k &&& 31)) &&& 1 = if x.testBit k = true then 1 else 0 := by
  rw [q_bit _ hk, bt_nI hk]
theorem hasBit_e (N : Nat) (v : Int32) {k : Nat} (hk : k < 32) : f_X10_hasBit N v (nI k) = some (if bt v k = true then 1 else 0) := by
  unfold f_X10_hasBit
  rw [q_bit v hk]
  split <;> rfl
/-- a without b -/
def andn (a b : Nat) : Nat := a ^^^ (a &&& b)
theorem andn_t (a b i : Nat) : (andn a b).testBit i = (a.testBit i && !b.testBit i) := by
  unfold andn
  rw [Nat.testBit_xor, Nat.testBit_and]
  cases a.testBit i <;> cases b.testBit i <;> rfl
theorem q_andn (a b : Nat) : nI a &&& (nI b ^^^ (-1)) = nI (andn a b) := by
  apply b_ext
  intro i hi
  rw [b_and, b_xor, b_m1 i hi, bt_nI hi, bt_nI hi, bt_nI hi, andn_t]
  cases a.testBit i <;> cases b.testBit i <;> rfl
theorem andn_le (a b : Nat) : andn a b ≤ a := by
  apply Nat.le_of_testBit
  intro i
  rw [andn_t]
  cases a.testBit i <;> simp
theorem andn_0 {a b : Nat} : andn a b = 0 ↔ b &&& a = a := by
  constructor
  · intro h
    apply Nat.eq_of_testBit_eq
    intro i
    have := congrArg (fun x => x.testBit i) h
    simp only [andn_t, Nat.zero_testBit] at this
    rw [Nat.testBit_and]
    cases ha : a.testBit i <;> cases hb : b.testBit i <;> simp_all
  · intro h
    apply Nat.eq_of_testBit_eq
    intro i
    have := congrArg (fun x => x.testBit i) h
    simp only [Nat.testBit_and] at this
    rw [andn_t, Nat.zero_testBit]
    cases ha : a.testBit i <;> cases hb : b.testBit i <;> simp_all
/-- the number of bits -/
def pcn (x : Nat) : Nat → Nat
  | 0 => 0
  | k + 1 => pcn x k + (if x.testBit k = true then 1 else 0)
def pc (x : Nat) : Nat := pcn x 12
theorem pcn_le (x : Nat) : ∀ k, pcn x k ≤ k
  | 0 => Nat.le_refl 0
  | k + 1 => by
    have := pcn_le x k
    unfold pcn
    split <;> omega
theorem bitCount_k : ∀ a, a < 8 → ∀ b, b < 256 → f_J6_bitCount_0f7a4 0 (nI (256 * a + b)) = some (nI (pc (256 * a + b))) := by decide +kernel
theorem bitCount_e (N : Nat) {x : Nat} (hx : x < 2048) : f_J6_bitCount_0f7a4 N (nI x) = some (nI (pc x)) := by
  have h := bitCount_k (x / 256) (by omega) (x % 256) (by omega)
  rw [Nat.div_add_mod] at h
  exact h
theorem mbits_e {N x : Nat} (hN : 6000 ≤ N) : f_X11_bits N (nI x) = some (nI (pc x)) := by
  unfold f_X11_bits
  rw [q_jp]
  have key : ∀ d N' k, d < N' → k + d = 12 → lp (fun _ _ => none) (b_X11_bits_4 (nI x)) N' (nI (pcn x k)) (nI k) = some (nI (pc x)) := by
    intro d
    induction d with
    | zero =>
      intro N' k hN' hk
      obtain ⟨N', rfl⟩ : ∃ j, N' = j + 1 := ⟨N' - 1, by omega⟩
      have : k = 12 := by omega
      subst this
      rw [q_lp]
      unfold b_X11_bits_4
      rw [if_pos (by decide)]
      rfl
    | succ d ih =>
      intro N' k hN' hk
      obtain ⟨N', rfl⟩ : ∃ j, N' = j + 1 := ⟨N' - 1, by omega⟩
      have ih' := ih N' (k + 1) (by omega) (by omega)
      rw [q_lp]
      generalize lp (fun _ _ => none) (b_X11_bits_4 (nI x)) N' = K at ih' ⊢
      unfold b_X11_bits_4
      rw [if_neg (show ¬ (12 : Int32) ≤ nI k from nI_ge (b := 12) (by omega) (by omega)), q_bitN (by omega), q_nm, q_nm, ← nI_succ]
      rw [pcn] at ih'
      by_cases h : x.testBit k = true
      · rw [if_pos h] at ih' ⊢
        rw [← nI_succ]
        exact ih'
      · rw [if_neg h] at ih' ⊢
        rw [Int32.add_zero]
        exact ih'
  exact key 12 N 0 (by omega) (by omega)
/-- the members of a set of names -/
def orJ (mem : Nat → Nat) (set : Nat) : Nat → Nat
  | 0 => 0
  | k + 1 => orJ mem set k ||| (if set.testBit k = true then mem k else 0)
theorem orJ_lt {mem : Nat → Nat} {set : Nat} : ∀ {k : Nat}, (∀ i, i < k → mem i < 64) → orJ mem set k < 64
  | 0, _ => by unfold orJ; omega
  | k + 1, h => by
    unfold orJ
    refine q_or64 (orJ_lt (fun i hi => h i (by omega))) ?_
    split
    · exact h k (by omega)
    · omega
theorem orJ_cg {mem mem' : Nat → Nat} {s t : Nat} : ∀ {k : Nat}, (∀ i, i < k → mem i = mem' i ∧ s.testBit i = t.testBit i) → orJ mem s k = orJ mem' t k
  | 0, _ => rfl
  | k + 1, h => by
    unfold orJ
    rw [orJ_cg (fun i hi => h i (by omega)), (h k (by omega)).1, (h k (by omega)).2]
theorem orJ_t {mem : Nat → Nat} {s i : Nat} : ∀ {k : Nat}, (orJ mem s k).testBit i = true ↔ ∃ j, j < k ∧ s.testBit j = true ∧ (mem j).testBit i = true
  | 0 => by
    unfold orJ
    rw [Nat.zero_testBit]
    constructor
    · intro h; cases h
    · rintro ⟨j, h, -⟩; omega
  | k + 1 => by
    unfold orJ
    rw [Nat.testBit_or, Bool.or_eq_true, orJ_t]
    constructor
    · rintro (⟨j, h1, h2⟩ | h)
      · exact ⟨j, by omega, h2⟩
      · by_cases e : s.testBit k = true
        · rw [if_pos e] at h
          exact ⟨k, by omega, e, h⟩
        · rw [if_neg e, Nat.zero_testBit] at h
          cases h
    · rintro ⟨j, h1, h2, h3⟩
      by_cases e : j = k
      · subst e
        rw [if_pos h2]
        exact Or.inr h3
      · exact Or.inl ⟨j, by omega, h2, h3⟩
/-- a set of places names itself -/
theorem orJ_self {mem : Nat → Nat} {P K s : Nat} (hm : ∀ i, i < P → mem i = 2 ^ i) (hs : s < 2 ^ P) (hK : P ≤ K) : orJ mem s K = s := by
  apply Nat.eq_of_testBit_eq
  intro i
  rw [Bool.eq_iff_iff, orJ_t]
  have hb : ∀ j, s.testBit j = true → j < P := by
    intro j hj
    apply Decidable.byContradiction
    intro w
    have := Nat.testBit_lt_two_pow (x := s) (i := j) (Nat.lt_of_lt_of_le hs (Nat.pow_le_pow_right (by decide) (by omega)))
    rw [hj] at this
    cases this
  constructor
  · rintro ⟨j, h1, h2, h3⟩
    rw [hm j (hb j h2), Nat.testBit_two_pow] at h3
    have : j = i := by simpa using h3
    rw [← this]; exact h2
  · intro h
    have := hb i h
    exact ⟨i, by omega, h, by rw [hm i this, Nat.testBit_two_pow]; simp⟩
/-- the best names of a set of places, among the sets 1 .. k -/
def gX (J : Nat → Nat) (s l0 : Nat) : Nat → Nat × Nat
  | 0 => (0, l0)
  | k + 1 => if andn s (J (k + 1)) = 0 ∧ pc (k + 1) + pc (andn (J (k + 1)) s) < (gX J s l0 k).2 then (k + 1, pc (k + 1) + pc (andn (J (k + 1)) s)) else gX J s l0 k
theorem pcn_ext {x : Nat} : ∀ {k j : Nat}, x < 2 ^ k → pcn x (k + j) = pcn x k
  | k, 0, _ => rfl
  | k, j + 1, h => by
    have : x.testBit (k + j) = false := Nat.testBit_lt_two_pow (Nat.lt_of_lt_of_le h (Nat.pow_le_pow_right (by decide) (by omega)))
    show pcn x (k + j) + (if x.testBit (k + j) = true then 1 else 0) = _
    rw [this, pcn_ext h]
    rfl
theorem pc_le {x : Nat} (k : Nat) (hk : k ≤ 12) (h : x < 2 ^ k) : pc x ≤ k := by
  have : pc x = pcn x (k + (12 - k)) := by unfold pc; rw [Nat.add_sub_cancel' hk]
  rw [this, pcn_ext h]
  exact pcn_le x k
theorem gX_two {J : Nat → Nat} {s : Nat} (hJ : ∀ k, J k < 64) : ∀ k, k < 2048 → (gX J s 18 k = gX J s 99 k ∨ (gX J s 18 k = (0, 18) ∧ gX J s 99 k = (0, 99)))
  | 0, _ => Or.inr ⟨rfl, rfl⟩
  | k + 1, hk => by
    have ih := gX_two (J := J) (s := s) hJ k (by omega)
    have h1 := pc_le (x := k + 1) 11 (by omega) (by omega)
    have h2 := pc_le (x := andn (J (k + 1)) s) 6 (by omega) (Nat.lt_of_le_of_lt (andn_le _ _) (hJ _))
    unfold gX
    rcases ih with e | ⟨e1, e2⟩
    · rw [e]; exact Or.inl rfl
    · rw [e1, e2]
      by_cases h : andn s (J (k + 1)) = 0
      · rw [if_pos ⟨h, by show _ < 18; omega⟩, if_pos ⟨h, by show _ < 99; omega⟩]
        exact Or.inl rfl
      · rw [if_neg (fun w => h w.1), if_neg (fun w => h w.1)]
        exact Or.inr ⟨rfl, rfl⟩
theorem gX_1 {J : Nat → Nat} {s : Nat} (hJ : ∀ k, J k < 64) {k : Nat} (hk : k < 2048) : (gX J s 18 k).1 = (gX J s 99 k).1 := by
  rcases gX_two (s := s) hJ k hk with e | ⟨e1, e2⟩
  · rw [e]
  · rw [e1, e2]
theorem gX_ok {J : Nat → Nat} {s : Nat} (hJ : ∀ k, J k < 64) (hs : 0 < s) (hJs : J s = s) (hs2 : s < 64) : ∀ k, (k < s ∨ (0 < (gX J s 99 k).1 ∧ (gX J s 99 k).2 ≤ pc s)) ∧ (gX J s 99 k).1 ≤ k ∧ (0 < (gX J s 99 k).1 → andn s (J (gX J s 99 k).1) = 0 ∧ (gX J s 99 k).2 = pc (gX J s 99 k).1 + pc (andn (J (gX J s 99 k).1) s))
  | 0 => ⟨Or.inl hs, Nat.le_refl 0, fun h => absurd h (Nat.lt_irrefl 0)⟩
  | k + 1 => by
    obtain ⟨h1, h2, h3⟩ := gX_ok hJ hs hJs hs2 k
    unfold gX
    by_cases c : andn s (J (k + 1)) = 0 ∧ pc (k + 1) + pc (andn (J (k + 1)) s) < (gX J s 99 k).2
    · rw [if_pos c]
      refine ⟨?_, Nat.le_refl _, fun _ => ⟨c.1, rfl⟩⟩
      by_cases e : k + 1 < s
      · exact Or.inl e
      · right
        refine ⟨Nat.succ_pos k, ?_⟩
        rcases h1 with w | w
        · have : k + 1 = s := by omega
          show pc (k + 1) + pc (andn (J (k + 1)) s) ≤ pc s
          rw [this, hJs]
          have : andn s s = 0 := by unfold andn; rw [Nat.and_self, Nat.xor_self]
          rw [this]
          have : pc 0 = 0 := by decide
          omega
        · have := c.2
          show pc (k + 1) + pc (andn (J (k + 1)) s) ≤ pc s
          omega
    · rw [if_neg c]
      refine ⟨?_, by omega, h3⟩
      by_cases e : k + 1 < s
      · exact Or.inl e
      · right
        rcases h1 with w | w
        · have e2 : k + 1 = s := by omega
          rw [e2, hJs] at c
          have e0 : andn s s = 0 := by unfold andn; rw [Nat.and_self, Nat.xor_self]
          rw [e0] at c
          have p0 : pc 0 = 0 := by decide
          have : (gX J s 99 k).2 ≤ pc s := by
            apply Decidable.byContradiction
            intro w2
            exact c ⟨rfl, by omega⟩
          refine ⟨?_, this⟩
          apply Decidable.byContradiction
          intro w2
          have hz : (gX J s 99 k).1 = 0 := by omega
          have h99 : ∀ j, (gX J s 99 j).1 = 0 → (gX J s 99 j).2 = 99 := by
            intro j
            induction j with
            | zero => intro _; rfl
            | succ j ih =>
              unfold gX
              split
              · intro q; exact absurd q (by show ¬ (j + 1 = 0); omega)
              · exact ih
          have := h99 k hz
          have := pc_le (x := s) 6 (by omega) hs2
          omega
        · exact w
