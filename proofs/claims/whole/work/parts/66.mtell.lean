/-! pure part: the reference tells -/
def Lg (L : List F4) (f : Nat) : F4 := L.getD f (0, 0, 0, 0)
def Zf (M : St) (K : Nat) (L : List F4) (f : Nat) : Nat := (clM M K (Lg L f)).length + 1
def wtf (M : St) (x : F4) : Nat := (M.1 8 x.1).toNatClampNeg * pc x.2.2.2 * (x.2.2.1 - x.2.1 + 1)
def Wf (M : St) (L : List F4) (f : Nat) : Nat := wtf M (Lg L f)
def Ff (L : List F4) (f : Nat) : Nat := (Lg L f).2.1
def Wnf (M : St) (L : List F4) (f : Nat) : Bool := decide (M.1 9 (Lg L f).1 ≠ 0)
theorem Lg_at {L : List F4} {f : Nat} (h : f < L.length) : L[f]? = some (Lg L f) := by
  unfold Lg
  rw [List.getD_eq_getElem?_getD, List.getElem?_eq_getElem h]
  rfl
theorem Lg_mem {L : List F4} {f : Nat} (h : f < L.length) : Lg L f ∈ L := List.mem_of_getElem? (Lg_at h)
theorem nd1 (x : Nat) : [x].Nodup := List.nodup_cons.mpr ⟨List.not_mem_nil, List.nodup_nil⟩
/-- the order of the others -/
def rk (W F : Nat → Nat) (i : Nat) : Nat := ((2000 - W i) * 24 + F i) * 432 + i
section MT
variable {N n room : Nat} {Z W F : Nat → Nat} {Wn : Nat → Bool} {M : St} {L : List F4}
/-- what the reference has told -/
def MTd (W : Nat → Nat) (L : List F4) (TL : List Nat) (S : St) : Prop := S.1 0 38 = nI TL.length ∧ S.1 0 39 = nI (lsum W TL) ∧ (∀ k i, TL[k]? = some i → S.1 20 k = nI i) ∧ AL 21 S (TL.map (Lg L))
theorem MTd.go {TL : List Nat} {S S' : St} (h : MTd W L TL S) (h38 : S'.1 0 38 = S.1 0 38) (h39 : S'.1 0 39 = S.1 0 39) (hr : ∀ r k, 20 ≤ r → r ≤ 24 → S'.1 r k = S.1 r k) : MTd W L TL S' := by
  obtain ⟨h1, h2, h3, h4⟩ := h
  refine ⟨h38.trans h1, h39.trans h2, fun k i hk => (hr 20 k (by omega) (by omega)).trans (h3 k i hk), h4.go (fun r k a c _ => hr r k (by omega) (by omega))⟩
theorem app_at {α : Type} {l : List α} {x y : α} {k : Nat} (h : (l ++ [x])[k]? = some y) : (k < l.length ∧ l[k]? = some y) ∨ (k = l.length ∧ y = x) := by
  by_cases hk : k < l.length
  · rw [List.getElem?_append_left hk] at h
    exact Or.inl ⟨hk, h⟩
  · rw [List.getElem?_append_right (by omega)] at h
    by_cases e : k = l.length
    · subst e
      rw [Nat.sub_self] at h
      simp at h
      exact Or.inr ⟨rfl, h.symm⟩
    · obtain ⟨j, hj⟩ : ∃ j, k - l.length = j + 1 := ⟨k - l.length - 1, by omega⟩
      rw [hj] at h
      simp at h
theorem tells_e {f : Nat} {TL : List Nat} {S : St} (hH : HM N n Z W Wn M) (hA : AL 16 M L) (hnL : n = L.length) (hn : n ≤ 432) (hS : fr PQ M S) (hT : MTd W L TL S) (hf : f < n) (hl : TL.length < 432) :
    ok (f_X11_tells N (nI f) S) fun S' => fr (fun r k => (r = 0 ∧ 38 ≤ k ∧ k ≤ 39) ∨ (20 ≤ r ∧ r ≤ 24)) S S' ∧ MTd W L (TL ++ [f]) S' := by
  obtain ⟨h1, h2, h3, h4⟩ := hT
  have hx := hA f _ (Lg_at (L := L) (f := f) (by omega))
  have hs : ∀ r, 16 ≤ r → r ≤ 19 → S.1 r f = M.1 r f := fun r a c => hS.2 r f (by unfold PQ; omega)
  unfold f_X11_tells
  have s16 : S.1 16 f = nI (Lg L f).1 := by rw [hs 16 (by omega) (by omega)]; exact hx.1
  have s17 : S.1 17 f = nI (Lg L f).2.1 := by rw [hs 17 (by omega) (by omega)]; exact hx.2.1
  have s18 : S.1 18 f = nI (Lg L f).2.2.1 := by rw [hs 18 (by omega) (by omega)]; exact hx.2.2.1
  have s19 : S.1 19 f = nI (Lg L f).2.2.2 := by rw [hs 19 (by omega) (by omega)]; exact hx.2.2.2
  simp only [q_nm]
  rw [h1, q_ck (by omega) (by omega), q_tn (by omega), q_ck (by omega) (by omega), q_tn (by omega)]
  generalize hS2 : puI S 20 TL.length (nI f) = S2
  have a38 : S2.1 0 38 = nI TL.length := by rw [← hS2, q_gR _ _ _ _ _ _ (by omega)]; exact h1
  have a16 : S2.1 16 f = nI (Lg L f).1 := by rw [← hS2, q_gR _ _ _ _ _ _ (by omega)]; exact s16
  rw [a38, a16, q_ck (by omega) (by omega), q_tn (by omega), q_ck (by omega) (by omega)]
  generalize hS5 : puI S2 21 TL.length (nI (Lg L f).1) = S5
  have b38 : S5.1 0 38 = nI TL.length := by rw [← hS5, q_gR _ _ _ _ _ _ (by omega)]; exact a38
  have b17 : S5.1 17 f = nI (Lg L f).2.1 := by rw [← hS5, q_gR _ _ _ _ _ _ (by omega), ← hS2, q_gR _ _ _ _ _ _ (by omega)]; exact s17
  rw [b38, b17, q_ck (by omega) (by omega), q_tn (by omega), q_ck (by omega) (by omega)]
  generalize hS8 : puI S5 22 TL.length (nI (Lg L f).2.1) = S8
  have c38 : S8.1 0 38 = nI TL.length := by rw [← hS8, q_gR _ _ _ _ _ _ (by omega)]; exact b38
  have c18 : S8.1 18 f = nI (Lg L f).2.2.1 := by rw [← hS8, q_gR _ _ _ _ _ _ (by omega), ← hS5, q_gR _ _ _ _ _ _ (by omega), ← hS2, q_gR _ _ _ _ _ _ (by omega)]; exact s18
  rw [c38, c18, q_ck (by omega) (by omega), q_tn (by omega), q_ck (by omega) (by omega)]
  generalize hS11 : puI S8 23 TL.length (nI (Lg L f).2.2.1) = S11
  have d38 : S11.1 0 38 = nI TL.length := by rw [← hS11, q_gR _ _ _ _ _ _ (by omega)]; exact c38
  have d19 : S11.1 19 f = nI (Lg L f).2.2.2 := by rw [← hS11, q_gR _ _ _ _ _ _ (by omega), ← hS8, q_gR _ _ _ _ _ _ (by omega), ← hS5, q_gR _ _ _ _ _ _ (by omega), ← hS2, q_gR _ _ _ _ _ _ (by omega)]; exact s19
  rw [d38, d19, q_ck (by omega) (by omega), q_tn (by omega)]
  generalize hS14 : puI S11 24 TL.length (nI (Lg L f).2.2.2) = S14
  have e38 : S14.1 0 38 = nI TL.length := by rw [← hS14, q_gR _ _ _ _ _ _ (by omega)]; exact d38
  rw [e38, ← nI_succ]
  generalize hS15 : puI S14 0 38 (nI (TL.length + 1)) = S15
  have gg : ∀ r k, ¬ ((r = 0 ∧ k = 38) ∨ (20 ≤ r ∧ r ≤ 24 ∧ k = TL.length)) → S15.1 r k = S.1 r k := by
    intro r k a
    rw [← hS15, q_g, if_neg (by omega), ← hS14, q_g, if_neg (by omega), ← hS11, q_g, if_neg (by omega), ← hS8, q_g, if_neg (by omega), ← hS5, q_g, if_neg (by omega), ← hS2, q_g, if_neg (by omega)]
  have g2 : S15.2 = S.2 := by rw [← hS15, ← hS14, ← hS11, ← hS8, ← hS5, ← hS2]; rfl
  have f15 : fr PQ S S15 := ⟨g2, fun r k a => gg r k (by unfold PQ at a; omega)⟩
  have hw := (((hH.go hS) S15 f15).2 f hf).2.1
  have e39 : S15.1 0 39 = nI (lsum W TL) := by rw [gg 0 39 (by omega)]; exact h2
  rw [hw, q_bd, e39, q_add]
  have k38 : S15.1 0 38 = nI (TL.length + 1) := by rw [← hS15, q_gS]
  have k20 : S15.1 20 TL.length = nI f := by
    rw [← hS15, q_gR _ _ _ _ _ _ (by omega), ← hS14, q_gR _ _ _ _ _ _ (by omega), ← hS11, q_gR _ _ _ _ _ _ (by omega), ← hS8, q_gR _ _ _ _ _ _ (by omega), ← hS5, q_gR _ _ _ _ _ _ (by omega), ← hS2, q_gS]
  have k21 : S15.1 21 TL.length = nI (Lg L f).1 := by
    rw [← hS15, q_gR _ _ _ _ _ _ (by omega), ← hS14, q_gR _ _ _ _ _ _ (by omega), ← hS11, q_gR _ _ _ _ _ _ (by omega), ← hS8, q_gR _ _ _ _ _ _ (by omega), ← hS5, q_gS]
  have k22 : S15.1 22 TL.length = nI (Lg L f).2.1 := by
    rw [← hS15, q_gR _ _ _ _ _ _ (by omega), ← hS14, q_gR _ _ _ _ _ _ (by omega), ← hS11, q_gR _ _ _ _ _ _ (by omega), ← hS8, q_gS]
  have k23 : S15.1 23 TL.length = nI (Lg L f).2.2.1 := by
    rw [← hS15, q_gR _ _ _ _ _ _ (by omega), ← hS14, q_gR _ _ _ _ _ _ (by omega), ← hS11, q_gS]
  have k24 : S15.1 24 TL.length = nI (Lg L f).2.2.2 := by
    rw [← hS15, q_gR _ _ _ _ _ _ (by omega), ← hS14, q_gS]
  apply ok_s
  refine ⟨⟨g2, fun r k a => ?_⟩, ?_, ?_, ?_, ?_⟩
  · rw [q_g, if_neg (by omega)]
    exact gg r k (by omega)
  · rw [q_gK _ _ _ _ _ _ (by omega), k38, List.length_append]; rfl
  · rw [q_gS, lsum_app]
    rfl
  · intro k i hk
    rw [q_gR _ _ _ _ _ _ (by omega)]
    rcases app_at hk with ⟨a, c⟩ | ⟨a, c⟩
    · rw [gg 20 k (by omega)]
      exact h3 k i c
    · rw [a, c]; exact k20
  · rw [List.map_append]
    have hlen : (TL.map (Lg L)).length = TL.length := List.length_map _
    refine h4.add ?_ ?_ ?_ ?_ ?_
    · intro r k a c h
      rw [q_gR _ _ _ _ _ _ (by omega)]
      exact gg r k (by omega)
    · rw [hlen, q_gR _ _ _ _ _ _ (by omega)]; exact k21
    · rw [hlen, q_gR _ _ _ _ _ _ (by omega)]; exact k22
    · rw [hlen, q_gR _ _ _ _ _ _ (by omega)]; exact k23
    · rw [hlen, q_gR _ _ _ _ _ _ (by omega)]; exact k24
theorem rk_ahead {a b : Nat} (wa : W a ≤ 1296) (wb : W b ≤ 1296) (fa : F a < 24) (fb : F b < 24) (ha : a < 432) (hb : b < 432) : rk W F a < rk W F b ↔ W b < W a ∨ (W a = W b ∧ (F a < F b ∨ (F a = F b ∧ a < b))) := by
  unfold rk
  omega
theorem isAhead_e {a b : Nat} {S : St} (hH : HM N n Z W Wn M) (hS : fr PQ M S) (hn : n ≤ 432) (hZ : ∀ f, f < n → 1 ≤ Z f ∧ Z f ≤ 200 ∧ 1 ≤ W f ∧ W f ≤ 1296) (hF : ∀ f, f < n → M.1 17 f = nI (F f) ∧ F f < 24) (ha : a < n) (hb : b < n) : f_X11_isAhead N (nI a) (nI b) S = some (if rk W F a < rk W F b then 1 else 0) := by
  obtain ⟨a1, a2⟩ := hF a ha
  obtain ⟨b1, b2⟩ := hF b hb
  obtain ⟨-, -, a3, a4⟩ := hZ a ha
  obtain ⟨-, -, b3, b4⟩ := hZ b hb
  have s1 : S.1 17 a = nI (F a) := by rw [hS.2 _ _ (by unfold PQ; omega)]; exact a1
  have s2 : S.1 17 b = nI (F b) := by rw [hS.2 _ _ (by unfold PQ; omega)]; exact b1
  have hrk := rk_ahead (W := W) (F := F) (a := a) (b := b) a4 b4 a2 b2 (by omega) (by omega)
  unfold f_X11_isAhead
  rw [((hH S hS).2 a ha).2.1, ((hH S hS).2 b hb).2.1]
  simp only [q_bd]
  rw [q_ck (by omega) (by omega), q_ck (by omega) (by omega), q_ck (by omega) (by omega), q_ck (by omega) (by omega), q_tn (by omega), q_tn (by omega), s1, s2]
  by_cases e1 : W a = W b
  · rw [if_pos (show nI (W a) = nI (W b) by rw [e1])]
    by_cases e2 : F a < F b
    · rw [if_pos (show nI (F a) < nI (F b) by rw [q_lt (by omega) (by omega)]; exact e2), if_pos (hrk.mpr (Or.inr ⟨e1, Or.inl e2⟩))]; rfl
    · rw [if_neg (show ¬ nI (F a) < nI (F b) by rw [q_lt (by omega) (by omega)]; exact e2)]
      by_cases e3 : F a = F b
      · rw [if_pos (show nI (F a) = nI (F b) by rw [e3])]
        by_cases e4 : b ≤ a
        · rw [if_pos (show nI b ≤ nI a by rw [q_le (by omega) (by omega)]; exact e4), if_neg (by rw [hrk]; omega)]; rfl
        · rw [if_neg (show ¬ nI b ≤ nI a by rw [q_le (by omega) (by omega)]; exact e4), if_pos (by rw [hrk]; omega)]; rfl
      · rw [if_neg (show ¬ nI (F a) = nI (F b) by rw [q_eq (by omega) (by omega)]; exact e3), if_neg (by rw [hrk]; omega)]; rfl
  · rw [if_neg (show ¬ nI (W a) = nI (W b) by rw [q_eq (by omega) (by omega)]; exact e1)]
    by_cases e2 : W a ≤ W b
    · rw [if_pos (show nI (W a) ≤ nI (W b) by rw [q_le (by omega) (by omega)]; exact e2), if_neg (by rw [hrk]; omega)]; rfl
    · rw [if_neg (show ¬ nI (W a) ≤ nI (W b) by rw [q_le (by omega) (by omega)]; exact e2), if_pos (by rw [hrk]; omega)]; rfl
/-- the warnings -/
def wl (Wn : Nat → Bool) : Nat → List Nat
  | 0 => []
  | f + 1 => wl Wn f ++ (if Wn f = true then [f] else [])
theorem wl_mem {f x : Nat} : x ∈ wl Wn f ↔ x < f ∧ Wn x = true := by
  induction f with
  | zero =>
    constructor
    · intro h; cases h
    · rintro ⟨h, -⟩; omega
  | succ f ih =>
    unfold wl
    rw [List.mem_append, ih]
    by_cases e : Wn f = true
    · rw [if_pos e, List.mem_singleton]
      constructor
      · rintro (w | rfl)
        · exact ⟨by omega, w.2⟩
        · exact ⟨by omega, e⟩
      · rintro ⟨h1, h2⟩
        by_cases e2 : x = f
        · exact Or.inr e2
        · exact Or.inl ⟨by omega, h2⟩
    · rw [if_neg e]
      constructor
      · rintro (w | w)
        · exact ⟨by omega, w.2⟩
        · cases w
      · rintro ⟨h1, h2⟩
        refine Or.inl ⟨?_, h2⟩
        by_cases e2 : x = f
        · rw [e2] at h2; exact absurd h2 e
        · omega
theorem wl_nodup (f : Nat) : (wl Wn f).Nodup := by
  induction f with
  | zero => exact List.nodup_nil
  | succ f ih =>
    unfold wl
    rw [List.nodup_append]
    refine ⟨ih, ?_, ?_⟩
    · split
      · exact nd1 _
      · exact List.nodup_nil
    · intro a ha b hb
      rw [wl_mem] at ha
      split at hb
      · rw [List.mem_singleton] at hb
        omega
      · cases hb
theorem wl_len (f : Nat) : (wl Wn f).length ≤ f := nodup_len (wl_nodup f) (fun x hx => (wl_mem.mp hx).1)
/-- what is told of the others, in order -/
def isO (W F : Nat → Nat) (CH o : List Nat) : Prop := o.Pairwise (fun a b => rk W F a < rk W F b) ∧ ∀ x, x ∈ o ↔ x ∈ CH
theorem pw_nodup {r : Nat → Nat} {o : List Nat} (h : o.Pairwise (fun a b => r a < r b)) : o.Nodup := by
  rw [List.nodup_iff_pairwise_ne]
  exact h.imp (fun hab e => by rw [e] at hab; omega)
/-- the reference orders what it took -/
theorem msel {fl : Nat → Bool} {CH : List Nat} {S : St} {Q : Int32 × St → Prop} {k203 : St → Option (Int32 × St)} (hN : 6000 ≤ N) (hH : HM N n Z W Wn M) (hA : AL 16 M L) (hnL : n = L.length) (hn : n ≤ 432) (hZ : ∀ f, f < n → 1 ≤ Z f ∧ Z f ≤ 200 ∧ 1 ≤ W f ∧ W f ≤ 1296) (hF : ∀ f, f < n → M.1 17 f = nI (F f) ∧ F f < 24)
    (hS : fr PQ M S) (hT : MTd W L (wl Wn n) S) (hfl : ∀ f, f < n → S.1 25 f = if fl f = true then 1 else 0) (hCH : ∀ x, x ∈ CH ↔ x < n ∧ fl x = true) (hCW : ∀ x ∈ CH, Wn x = false)
    (hK : ∀ S' o, fr PQ M S' → isO W F CH o → MTd W L (wl Wn n ++ o) S' → S'.1 0 37 = S.1 0 37 → ok (k203 S') Q) :
    ok (lp (fun _ _ => none) (b_X11_tell_113 N k203) N 1 S) Q := by
  have hwl := wl_len (Wn := Wn) n
  refine ok_l2 (fun m v S' => ∃ (o : List Nat) (g : Nat → Bool), fr PQ M S' ∧ S'.1 0 37 = S.1 0 37 ∧ MTd W L (wl Wn n ++ o) S' ∧ o.Pairwise (fun a b => rk W F a < rk W F b) ∧ (∀ f, f < n → S'.1 25 f = if g f = true then 1 else 0) ∧ (∀ x, x ∈ CH ↔ x ∈ o ∨ (x < n ∧ g x = true)) ∧ (∀ a ∈ o, a < n ∧ ∀ y, y < n → g y = true → rk W F a < rk W F y) ∧ ((v = 1 ∧ m = n + 1 - o.length ∧ o.length ≤ n) ∨ (v = 0 ∧ m = 0 ∧ ∀ x, x < n → g x = false))) ?_ N (n + 1) 1 S (by omega) ⟨[], fl, hS, rfl, by rw [List.append_nil]; exact hT, List.Pairwise.nil, hfl, fun x => by rw [hCH x]; simp, (fun a ha => by cases ha), Or.inl ⟨rfl, rfl, Nat.zero_le _⟩⟩
  rintro K m v S' ⟨o, g, g1, g37, g2, g3, g4, g5, g6, g7⟩ hK2
  unfold b_X11_tell_113
  rcases g7 with ⟨rfl, hm, hol⟩ | ⟨rfl, -, hg0⟩
  · rw [if_neg (show ¬ (1 : Int32) = 0 by decide), q_jp, q_jp]
    -- what comes behind the seeking
    have h168 : ∀ first : Int32, ((first = -1 ∧ ∀ y, y < n → g y = false) ∨ ∃ x, first = nI x ∧ x < n ∧ g x = true ∧ ∀ y, y < n → g y = true → y = x ∨ rk W F x < rk W F y) → ok (j_X11_tell_168 N S' K first) Q := by
      intro first hfi
      unfold j_X11_tell_168 j_X11_tell_178
      rcases hfi with ⟨rfl, hno⟩ | ⟨x, rfl, x1, x2, x3⟩
      · rw [q_jp, if_pos (show (-1 : Int32) < 0 by decide)]
        show ok (K 0 S') Q
        exact hK2 0 _ _ (by omega) ⟨o, g, g1, g37, g2, g3, g4, g5, g6, Or.inr ⟨rfl, rfl, hno⟩⟩
      · rw [q_jp, if_neg (nI_pos (by omega))]
        show ok (bd (f_X11_tells N (nI x) S') fun S32 => ck (nI x) 432 (nm (puI S32 25 (nI x).toNatClampNeg (vp_nar .boolean 0)) fun S34 => K 1 S34)) Q
        have hxo : x ∉ o := by
          intro w
          have := (g6 x w).2 x x1 x2
          omega
        have hnd : (o ++ [x]).Nodup := by
          rw [List.nodup_append]
          refine ⟨pw_nodup g3, nd1 _, ?_⟩
          intro a ha b hb e
          rw [List.mem_singleton] at hb
          rw [e, hb] at ha
          exact hxo ha
        have hlo := nodup_len (n := n) hnd (by
          intro y hy
          rw [List.mem_append, List.mem_singleton] at hy
          rcases hy with w | rfl
          · exact (g6 y w).1
          · exact x1)
        have hxW : Wn x = false := hCW x ((g5 x).mpr (Or.inr ⟨x1, x2⟩))
        have hall : (wl Wn n ++ (o ++ [x])).Nodup := by
          rw [List.nodup_append]
          refine ⟨wl_nodup n, hnd, ?_⟩
          intro a ha b hb e
          rw [wl_mem] at ha
          have hbW : Wn b = false := by
            rw [List.mem_append, List.mem_singleton] at hb
            rcases hb with w | rfl
            · exact hCW b ((g5 b).mpr (Or.inl w))
            · exact hxW
          rw [e, hbW] at ha
          exact absurd ha.2 (by decide)
        have hlall := nodup_len (n := n) hall (by
          intro y hy
          rw [List.mem_append, List.mem_append, List.mem_singleton] at hy
          rcases hy with w | w | rfl
          · exact (wl_mem.mp w).1
          · exact (g6 y w).1
          · exact x1)
        rw [List.length_append] at hlo hlall
        rw [List.length_append] at hlall
        have h1 : [x].length = 1 := rfl
        refine ok_bd (tells_e hH hA hnL hn g1 g2 x1 (by rw [List.length_append]; omega)) ?_
        rintro S2 ⟨d1, d2⟩
        have hz : vp_nar .boolean (0 : Int32) = 0 := by decide
        rw [q_ck (by omega) (by omega), q_tn (by omega), hz, q_nm]
        have dPQ : fr PQ S' S2 := d1.mo (fun r k w => by unfold PQ; omega)
        refine hK2 (n + 1 - (o ++ [x]).length) _ _ ?_ ⟨o ++ [x], fun y => if y = x then false else g y, (g1.tr dPQ).pu (by unfold PQ; omega), ?_, ?_, ?_, ?_, ?_, ?_, Or.inl ⟨rfl, rfl, by rw [List.length_append]; omega⟩⟩
        · rw [List.length_append]; omega
        · rw [q_gR _ _ _ _ _ _ (by omega), d1.2 _ _ (by omega)]; exact g37
        · rw [List.append_assoc] at d2
          exact d2.go (q_gR _ _ _ _ _ _ (by omega)) (q_gR _ _ _ _ _ _ (by omega)) (fun r k a c => q_gR _ _ _ _ _ _ (by omega))
        · rw [List.pairwise_append]
          refine ⟨g3, List.pairwise_singleton _ _, ?_⟩
          intro a ha b hb
          rw [List.mem_singleton] at hb
          rw [hb]
          exact (g6 a ha).2 x x1 x2
        · intro f hf
          rw [q_g]
          show _ = if (if f = x then false else g f) = true then 1 else 0
          by_cases e : f = x
          · rw [if_pos ⟨rfl, e⟩, if_pos e]; rfl
          · rw [if_neg (fun w => e w.2), if_neg e, d1.2 _ _ (by omega)]
            exact g4 f hf
        · intro y
          rw [g5 y, List.mem_append, List.mem_singleton]
          show _ ↔ (y ∈ o ∨ y = x) ∨ (y < n ∧ (if y = x then false else g y) = true)
          by_cases e : y = x
          · rw [if_pos e]
            constructor
            · intro _; exact Or.inl (Or.inr e)
            · intro _; rw [e]; exact Or.inr ⟨x1, x2⟩
          · rw [if_neg e]
            constructor
            · rintro (w | w)
              · exact Or.inl (Or.inl w)
              · exact Or.inr w
            · rintro ((w | w) | w)
              · exact Or.inl w
              · exact absurd w e
              · exact Or.inr w
        · intro a ha
          rw [List.mem_append, List.mem_singleton] at ha
          have hh : ∀ y, (if y = x then false else g y) = true → y ≠ x ∧ g y = true := by
            intro y hy
            by_cases e : y = x
            · rw [if_pos e] at hy; cases hy
            · rw [if_neg e] at hy; exact ⟨e, hy⟩
          rcases ha with w | rfl
          · refine ⟨(g6 a w).1, fun y hy hgy => ?_⟩
            obtain ⟨e1, e2⟩ := hh y hgy
            exact (g6 a w).2 y hy e2
          · refine ⟨x1, fun y hy hgy => ?_⟩
            obtain ⟨e1, e2⟩ := hh y hgy
            rcases x3 y hy e2 with q | q
            · exact absurd q e1
            · exact q
    have h32 := (hH S' g1).1
    refine ok_l2 (fun m first x => ∃ f, x = nI f ∧ f ≤ n ∧ n - f = m ∧ ((first = -1 ∧ ∀ y, y < f → g y = false) ∨ ∃ x, first = nI x ∧ x < f ∧ g x = true ∧ ∀ y, y < f → g y = true → y = x ∨ rk W F x < rk W F y)) ?_ N n (-1) 0 (by omega) ⟨0, rfl, by omega, rfl, Or.inl ⟨rfl, fun y hy => by omega⟩⟩
    rintro K3 m3 first x3 ⟨f, rfl, e1, e2, e3⟩ hK3
    unfold b_X11_tell_123 j_X11_tell_162 j_X11_tell_158
    rw [h32]
    by_cases hf : f < n
    · rw [if_neg (by rw [q_le (by omega) (by omega)]; omega), q_ck (by omega) (by omega), q_tn (by omega), g4 f hf]
      simp only [q_jp, q_nm]
      rw [← nI_succ]
      by_cases egf : g f = true
      · rw [if_pos egf, if_neg (show ¬ (1 : Int32) = 0 by decide)]
        rcases e3 with ⟨rfl, hno⟩ | ⟨x, rfl, y1, y2, y3⟩
        · rw [if_pos (show (-1 : Int32) < 0 by decide)]
          refine hK3 _ _ _ ?_ ⟨f + 1, rfl, by omega, rfl, Or.inr ⟨f, rfl, by omega, egf, ?_⟩⟩
          · omega
          · intro y hy hgy
            by_cases e : y = f
            · exact Or.inl e
            · have := hno y (by omega)
              rw [hgy] at this
              cases this
        · rw [if_neg (nI_pos (by omega)), isAhead_e hH g1 hn hZ hF hf (show x < n by omega), q_bd]
          by_cases er : rk W F f < rk W F x
          · rw [if_pos er, if_neg (show ¬ (1 : Int32) = 0 by decide)]
            refine hK3 _ _ _ ?_ ⟨f + 1, rfl, by omega, rfl, Or.inr ⟨f, rfl, by omega, egf, ?_⟩⟩
            · omega
            · intro y hy hgy
              by_cases e : y = f
              · exact Or.inl e
              · right
                rcases y3 y (by omega) hgy with q | q
                · rw [q]; exact er
                · omega
          · rw [if_neg er, if_pos (show (0 : Int32) = 0 from rfl)]
            refine hK3 _ _ _ ?_ ⟨f + 1, rfl, by omega, rfl, Or.inr ⟨x, rfl, by omega, y2, ?_⟩⟩
            · omega
            · intro y hy hgy
              by_cases e : y = f
              · right
                rw [e]
                have : rk W F f ≠ rk W F x := by
                  unfold rk
                  omega
                omega
              · exact y3 y (by omega) hgy
      · rw [if_neg egf, if_pos (show (0 : Int32) = 0 from rfl)]
        refine hK3 _ _ _ ?_ ⟨f + 1, rfl, by omega, rfl, ?_⟩
        · omega
        · rcases e3 with ⟨rfl, hno⟩ | ⟨x, rfl, y1, y2, y3⟩
          · refine Or.inl ⟨rfl, fun y hy => ?_⟩
            by_cases e : y = f
            · rw [e]; exact eq_false_of_ne_true egf
            · exact hno y (by omega)
          · refine Or.inr ⟨x, rfl, by omega, y2, fun y hy hgy => ?_⟩
            by_cases e : y = f
            · rw [e] at hgy; exact absurd hgy egf
            · exact y3 y (by omega) hgy
    · have : f = n := by omega
      subst this
      rw [if_pos (by rw [q_le (by omega) (by omega)]; omega)]
      exact h168 first e3
  · rw [if_pos rfl]
    refine hK S' o g1 ⟨g3, ?_⟩ g2 g37
    intro x
    rw [g5 x]
    constructor
    · exact Or.inl
    · rintro (w | w)
      · exact w
      · rw [hg0 x w.1] at w
        exact absurd w.2 (by decide)
end MT
