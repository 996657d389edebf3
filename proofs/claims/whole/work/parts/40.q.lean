/-! pure part, base: rows for the numbers and for the combinators of part 04 -/
theorem q_lit (n : Nat) : (OfNat.ofNat n : Int32) = nI n := rfl
theorem q_add (a b : Nat) : nI a + nI b = nI (a + b) := (Int32.ofNat_add a b).symm
theorem q_mul (a b : Nat) : nI a * nI b = nI (a * b) := (Int32.ofNat_mul a b).symm
theorem q_sub {a b : Nat} (h : b ≤ a) : nI a - nI b = nI (a - b) := by
  have : nI a = nI (a - b) + nI b := by rw [q_add, Nat.sub_add_cancel h]
  rw [this, Int32.add_sub_cancel]
theorem q_lt {a b : Nat} (ha : a < 2147483648) (hb : b < 2147483648) : (nI a < nI b) = (a < b) := by
  rw [Int32.lt_iff_toInt_lt, nI_toInt ha, nI_toInt hb]; exact propext Int.ofNat_lt
theorem q_le {a b : Nat} (ha : a < 2147483648) (hb : b < 2147483648) : (nI a ≤ nI b) = (a ≤ b) := by
  rw [Int32.le_iff_toInt_le, nI_toInt ha, nI_toInt hb]; exact propext Int.ofNat_le
theorem q_eq {a b : Nat} (ha : a < 2147483648) (hb : b < 2147483648) : (nI a = nI b) = (a = b) := by
  rw [← Int32.toInt_inj, nI_toInt ha, nI_toInt hb]; exact propext Int.ofNat_inj
theorem q_tn {a : Nat} (ha : a < 2147483648) : (nI a).toNatClampNeg = a := nI_clamp ha
theorem q_ck {β : Type} {a n : Nat} {k : Option β} (h : a < n) (hn : n < 2147483648) : ck (nI a) n k = k := if_neg (nI_in h hn)
theorem q_m1 {a : Nat} (ha : a < 2147483648) : (nI a = -1) = False := by
  apply propext
  refine ⟨fun h => ?_, False.elim⟩
  have := congrArg Int32.toInt h
  rw [nI_toInt ha] at this
  have e : (-1 : Int32).toInt = -1 := by decide
  omega
theorem q_nm1 {a : Nat} (ha : a < 2147483648) : (nI a = - nI 1) = False := q_m1 ha
theorem q_1eq {a : Nat} (ha : a < 2147483648) : (-1 = nI a) = False := by
  have h := q_m1 ha
  rw [← h]
  exact propext eq_comm
theorem q_n1e {a : Nat} (ha : a < 2147483648) : (- nI 1 = nI a) = False := q_1eq ha
theorem q_and (a b : Nat) : nI a &&& nI b = nI (a &&& b) := by
  apply Int32.toBitVec_inj.1
  show BitVec.ofNat 32 a &&& BitVec.ofNat 32 b = BitVec.ofNat 32 (a &&& b)
  apply BitVec.eq_of_getLsbD_eq
  intro i hi
  simp [hi]
theorem q_or (a b : Nat) : nI a ||| nI b = nI (a ||| b) := by
  apply Int32.toBitVec_inj.1
  show BitVec.ofNat 32 a ||| BitVec.ofNat 32 b = BitVec.ofNat 32 (a ||| b)
  apply BitVec.eq_of_getLsbD_eq
  intro i hi
  simp [hi]
theorem q_of {x : Int32} (h : ¬ x < 0) : ∃ n, n < 2147483648 ∧ x = nI n := by
  obtain ⟨j, hj, e⟩ := nI_of h
  exact ⟨j, hj, e⟩
theorem q_nm {α β : Type} (x : α) (k : α → β) : nm x k = k x := rfl
theorem q_jp {κ β : Type} (j : κ) (mn : κ → Option β) : jp j mn = mn j := rfl
theorem q_bd {α β : Type} (a : α) (k : α → Option β) : bd (some a) k = k a := rfl
theorem q_bd2 {α β γ : Type} (a : α) (b : β) (k : α → β → Option γ) : bd2 (some (a, b)) k = k a b := rfl
theorem q_zb0 {β : Type} (S : β) : zb (some (0, S)) = some ((0 : Int32), S) := rfl
theorem q_zb1 {β : Type} (S : β) : zb (some (1, S)) = some ((1 : Int32), S) := rfl
theorem q_zbn0 {β : Type} (S : β) : zb (some (nI 0, S)) = some (nI 0, S) := rfl
theorem q_zbn1 {β : Type} (S : β) : zb (some (nI 1, S)) = some (nI 1, S) := rfl
theorem q_z10 : z1 (some 0) = some (0 : Int32) := rfl
theorem q_z11 : z1 (some 1) = some (1 : Int32) := rfl
theorem q_z1n0 : z1 (some (nI 0)) = some (nI 0) := rfl
theorem q_z1n1 : z1 (some (nI 1)) = some (nI 1) := rfl
theorem q_lp {κ : Type} (z : κ) (body : κ → κ) (n : Nat) : lp z body (n + 1) = body (lp z body n) := rfl
/-- reading what was put -/
theorem q_g (S : St) (r k r' k' : Nat) (v : Int32) : (puI S r k v).1 r' k' = if r' = r ∧ k' = k then v else S.1 r' k' := by
  unfold puI upd
  by_cases h : r' = r
  · subst h
    by_cases h2 : k' = k <;> simp [h2]
  · simp [h]
theorem q_g2 (S : St) (r k : Nat) (v : Int32) : (puI S r k v).2 = S.2 := rfl
theorem q_gS (S : St) (r k : Nat) (v : Int32) : (puI S r k v).1 r k = v := by rw [q_g, if_pos ⟨rfl, rfl⟩]
theorem q_gR (S : St) (r k r' k' : Nat) (v : Int32) (h : r' ≠ r) : (puI S r k v).1 r' k' = S.1 r' k' := by rw [q_g, if_neg (fun q => h q.1)]
theorem q_gK (S : St) (r k r' k' : Nat) (v : Int32) (h : k' ≠ k) : (puI S r k v).1 r' k' = S.1 r' k' := by rw [q_g, if_neg (fun q => h q.2)]
theorem q_gRf (S : St) (r k r' : Nat) (v : Int32) (h : r' ≠ r) : (puI S r k v).1 r' = S.1 r' := by funext k'; exact q_gR S r k r' k' v h
theorem q_ext {S T : St} (h : ∀ r k, S.1 r k = T.1 r k) (h2 : S.2 = T.2) : S = T := by
  obtain ⟨a, b⟩ := S
  obtain ⟨c, d⟩ := T
  cases h2
  have : a = c := funext fun r => funext fun k => h r k
  rw [this]
theorem q_pp (S : St) (r k : Nat) (v w : Int32) : puI (puI S r k v) r k w = puI S r k w := by
  apply q_ext
  · intro r' k'
    rw [q_g, q_g, q_g]
    by_cases h : r' = r ∧ k' = k <;> simp [h]
  · rfl
theorem q_ps (S : St) (r k : Nat) (v : Int32) (h : S.1 r k = v) : puI S r k v = S := by
  apply q_ext
  · intro r' k'
    rw [q_g]
    by_cases h1 : r' = r ∧ k' = k
    · rw [if_pos h1, h1.1, h1.2, h]
    · rw [if_neg h1]
  · rfl
theorem q_pc (S : St) (r k r' k' : Nat) (v w : Int32) (h : r ≠ r' ∨ k ≠ k') : puI (puI S r k v) r' k' w = puI (puI S r' k' w) r k v := by
  apply q_ext
  · intro a b
    rw [q_g, q_g, q_g, q_g]
    by_cases h1 : a = r' ∧ b = k'
    · rw [if_pos h1]
      by_cases h2 : a = r ∧ b = k
      · omega
      · rw [if_neg h2, if_pos h1]
    · rw [if_neg h1]
      by_cases h2 : a = r ∧ b = k
      · rw [if_pos h2, if_pos h2]
      · rw [if_neg h2, if_neg h2, if_neg h1]
  · rfl
/-- total outcomes -/
def ok {α : Type} (x : Option α) (Q : α → Prop) : Prop := ∃ a, x = some a ∧ Q a
theorem ok_s {α : Type} {a : α} {Q : α → Prop} (h : Q a) : ok (some a) Q := ⟨a, rfl, h⟩
theorem ok_q {α : Type} {x : Option α} {v : α} (h : ok x fun a => a = v) : x = some v := by
  obtain ⟨a, e, rfl⟩ := h
  exact e
theorem ok_e {α : Type} {x y : Option α} {Q : α → Prop} (e : x = y) (h : ok y Q) : ok x Q := e ▸ h
theorem ok_m {α : Type} {x : Option α} {P Q : α → Prop} (h : ok x P) (hi : ∀ a, P a → Q a) : ok x Q := by
  obtain ⟨a, e, p⟩ := h
  exact ⟨a, e, hi a p⟩
theorem ok_nm {α β : Type} {x : α} {k : α → Option β} {Q : β → Prop} (h : ok (k x) Q) : ok (nm x k) Q := h
theorem ok_jp {κ β : Type} {j : κ} {mn : κ → Option β} {Q : β → Prop} (h : ok (mn j) Q) : ok (jp j mn) Q := h
theorem ok_ck {β : Type} {i : Int32} {n : Nat} {k : Option β} {Q : β → Prop} (h1 : vp_in i n) (h : ok k Q) : ok (ck i n k) Q := by
  have e : ck i n k = k := if_neg h1
  rw [e]; exact h
theorem ok_bd {α β : Type} {x : Option α} {k : α → Option β} {P : α → Prop} {Q : β → Prop} (h : ok x P) (h2 : ∀ a, P a → ok (k a) Q) : ok (bd x k) Q := by
  obtain ⟨a, rfl, p⟩ := h
  exact h2 a p
theorem ok_bd2 {α β γ : Type} {x : Option (α × β)} {k : α → β → Option γ} {P : α × β → Prop} {Q : γ → Prop} (h : ok x P) (h2 : ∀ a b, P (a, b) → ok (k a b) Q) : ok (bd2 x k) Q := by
  obtain ⟨⟨a, b⟩, rfl, p⟩ := h
  exact h2 a b p
theorem ok_zb {β : Type} {x : Option (Int32 × β)} {Q : Int32 × β → Prop} (h : ok x fun r => (r.1 = 0 ∨ r.1 = 1) ∧ Q r) : ok (zb x) Q := by
  obtain ⟨⟨a, b⟩, rfl, p, q⟩ := h
  refine ⟨(a, b), ?_, q⟩
  show bz a (some (a, b)) = _
  exact if_pos p
theorem ok_z1 {x : Option Int32} {Q : Int32 → Prop} (h : ok x fun r => (r = 0 ∨ r = 1) ∧ Q r) : ok (z1 x) Q := by
  obtain ⟨a, rfl, p, q⟩ := h
  refine ⟨a, ?_, q⟩
  show bz a (some a) = _
  exact if_pos p
theorem ok_if {α : Type} {c : Prop} [Decidable c] {x y : Option α} {Q : α → Prop} (h1 : c → ok x Q) (h2 : ¬ c → ok y Q) : ok (if c then x else y) Q := by
  by_cases h : c
  · rw [if_pos h]; exact h1 h
  · rw [if_neg h]; exact h2 h
theorem ok_l1 {A β : Type} {z : A → Option β} {body : (A → Option β) → A → Option β} {Q : β → Prop} (I : Nat → A → Prop)
    (hs : ∀ k m a, I m a → (∀ m' a', m' < m → I m' a' → ok (k a') Q) → ok (body k a) Q) : ∀ n m a, m < n → I m a → ok (lp z body n a) Q := by
  intro n
  induction n with
  | zero => intro m a h; omega
  | succ n ih => intro m a h hI; exact hs _ m a hI (fun m' a' h1 h2 => ih m' a' (by omega) h2)
theorem ok_l2 {A B β : Type} {z : A → B → Option β} {body : (A → B → Option β) → A → B → Option β} {Q : β → Prop} (I : Nat → A → B → Prop)
    (hs : ∀ k m a b, I m a b → (∀ m' a' b', m' < m → I m' a' b' → ok (k a' b') Q) → ok (body k a b) Q) : ∀ n m a b, m < n → I m a b → ok (lp z body n a b) Q := by
  intro n
  induction n with
  | zero => intro m a b h; omega
  | succ n ih => intro m a b h hI; exact hs _ m a b hI (fun m' a' b' h1 h2 => ih m' a' b' (by omega) h2)
theorem ok_l3 {A B C β : Type} {z : A → B → C → Option β} {body : (A → B → C → Option β) → A → B → C → Option β} {Q : β → Prop} (I : Nat → A → B → C → Prop)
    (hs : ∀ k m a b c, I m a b c → (∀ m' a' b' c', m' < m → I m' a' b' c' → ok (k a' b' c') Q) → ok (body k a b c) Q) : ∀ n m a b c, m < n → I m a b c → ok (lp z body n a b c) Q := by
  intro n
  induction n with
  | zero => intro m a b c h; omega
  | succ n ih => intro m a b c h hI; exact hs _ m a b c hI (fun m' a' b' c' h1 h2 => ih m' a' b' c' (by omega) h2)
theorem ok_l4 {A B C D β : Type} {z : A → B → C → D → Option β} {body : (A → B → C → D → Option β) → A → B → C → D → Option β} {Q : β → Prop} (I : Nat → A → B → C → D → Prop)
    (hs : ∀ k m a b c d, I m a b c d → (∀ m' a' b' c' d', m' < m → I m' a' b' c' d' → ok (k a' b' c' d') Q) → ok (body k a b c d) Q) : ∀ n m a b c d, m < n → I m a b c d → ok (lp z body n a b c d) Q := by
  intro n
  induction n with
  | zero => intro m a b c d h; omega
  | succ n ih => intro m a b c d h hI; exact hs _ m a b c d hI (fun m' a' b' c' d' h1 h2 => ih m' a' b' c' d' (by omega) h2)
