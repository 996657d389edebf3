/-! pure part: the class tells -/
def PQc (r _k : Nat) : Prop := r = 7 ∨ (15 ≤ r ∧ r ≤ 27)
section CT
variable {N P R B : Nat} {C M : St} {L : List F4}
theorem cweight_e {f : Nat} (hB : MB P R B M) (hC : CR P R B C M) (hA : AL 9 C L) (hl : L.length ≤ 432) (hok : ∀ x ∈ L, okF P B x) (hf : f < L.length) : f_X10_weightOf N (nI f) C = some (nI (wtf M (Lg L f))) := by
  have hx := hok _ (Lg_mem hf)
  obtain ⟨a1, a2, a3, a4⟩ := hA f _ (Lg_at hf)
  obtain ⟨w1, w2, g, g1, g2, g3, g4⟩ := wtf_le hB hx
  have hB24 := hB.2.2.2.2.2.1
  have hxb := hx.1
  have hxf := hx.2.1
  have hp6 := pw6 hB.2.2.2.1
  have hxs := hx.2.2.2.2
  have c8 := (hC.2.2.2.1 _ hxb).2.2.2.1
  unfold f_X10_weightOf
  simp only [q_nm]
  rw [q_ck (by omega) (by omega), q_ck (by omega) (by omega), q_ck (by omega) (by omega), q_tn (by omega), a1, q_ck (by omega) (by omega), q_ck (by omega) (by omega), a4, bitCount_e N (by omega), q_bd, q_tn (by omega), c8, g3, a3, a2, q_sub hxf, g4, q_mul]
  have e1 : nI ((Lg L f).2.2.1 - (Lg L f).2.1) + 1 = nI ((Lg L f).2.2.1 - (Lg L f).2.1 + 1) := q_add _ 1
  rw [e1, q_mul]
theorem cwarn_e {f : Nat} (hB : MB P R B M) (hC : CR P R B C M) (hA : AL 9 C L) (hl : L.length ≤ 432) (hok : ∀ x ∈ L, okF P B x) (hf : f < L.length) : f_X10_isWarning N (nI f) C = some (if Wnf M L f = true then 1 else 0) := by
  have hx := hok _ (Lg_mem hf)
  obtain ⟨a1, a2, a3, a4⟩ := hA f _ (Lg_at hf)
  have hB24 := hB.2.2.2.2.2.1
  have hxb := hx.1
  have c9 := (hC.2.2.2.1 _ hxb).2.2.2.2
  obtain ⟨-, -, -, -, -, w, -⟩ := hB.2.2.2.2.2.2.1 (Lg L f).1 hxb
  unfold f_X10_isWarning Wnf
  rw [q_ck (by omega) (by omega), q_tn (by omega), a1, q_ck (by omega) (by omega), q_tn (by omega), c9]
  rcases w with w | w
  · rw [w]; rfl
  · rw [w]; rfl
/-- what stays while the class tells -/
def CS (P R B : Nat) (L : List F4) (C M : St) : Prop := CR P R B C M ∧ HW P R B C M ∧ FC L C
theorem CS.go {S : St} (h : CS P R B L C M) (hf : fr PQc C S) : CS P R B L S M :=
  ⟨h.1.go (fun k => hf.2 _ _ (by unfold PQc; omega)) (fun r k a c => hf.2 _ _ (by unfold PQc; omega)) (fun k => hf.2 _ _ (by unfold PQc; omega)), h.2.1.go (hf.2 _ _ (by unfold PQc; omega)) (hf.2 _ _ (by unfold PQc; omega)) hf.1, by rw [hf.2 _ _ (by unfold PQc; omega)]; exact h.2.2.1, h.2.2.2.go (fun r k a c _ => hf.2 _ _ (by unfold PQc; omega))⟩
theorem cl_e {f : Nat} {l : List Nat} (hN : 6000 ≤ N) (hM : MN P R B M) (hS : CS P R B L C M) (hG : RG P R (memM M) C) (h26 : SG 26 l C) (hl : L.length ≤ 432) (hok : ∀ x ∈ L, okF P B x) (hf : f < L.length) :
    ok (f_X10_clauseLength N (nI f) C) fun x => x.1 = nI (clM M (P + R) (Lg L f)).length ∧ fr (fun r _ => r = 7 ∨ r = 26 ∨ r = 27) C x.2 ∧ RG P R (memM M) x.2 ∧ ∃ l, SG 26 l x.2 := by
  have hx := hok _ (Lg_mem hf)
  obtain ⟨a1, a2, a3, a4⟩ := hS.2.2.2 f _ (Lg_at hf)
  have hpc := pc_le (x := (Lg L f).2.2.2) 6 (by omega) (Nat.lt_of_lt_of_le hx.2.2.2.2 (pw6 hM.2.2.1))
  have hB24 := hM.2.2.2.2.1
  unfold f_X10_clauseLength f_X6_clear
  rw [q_nm, q_bd]
  have s0 : SG 26 [] (puI C 26 1 0) := by
    obtain ⟨cap, h2, h3, h4, h5, h1, hf', hv⟩ := h26
    refine ⟨cap, by rw [q_gK _ _ _ _ _ _ (by omega)]; exact h2, h3, h4, Nat.zero_le _, q_gS _ _ _ _, fun j hj => by rw [q_gR _ _ _ _ _ _ (by omega)]; exact hf' j hj, fun i x h => by simp at h⟩
  have f0 : fr PQc C (puI C 26 1 0) := fr.rf.pu (by unfold PQc; omega)
  have S0 := hS.go f0
  have g0 : RG P R (memM M) (puI C 26 1 0) := hG.go (q_gR _ _ _ _ _ _ (by omega)) (q_gRf _ _ _ _ _ (by omega)) (q_gRf _ _ _ _ _ (by omega))
  refine ok_bd (writeClause_e (rr := 26) (l := []) hN (Or.inr rfl) s0 S0.2.1 hM.2.2.2.2.2.2.2.1 g0 (by omega) hB24 hx (by rw [q_gR _ _ _ _ _ _ (by omega)]; exact a1) (by rw [q_gR _ _ _ _ _ _ (by omega)]; exact a2) (by rw [q_gR _ _ _ _ _ _ (by omega)]; exact a3) (by rw [q_gR _ _ _ _ _ _ (by omega)]; exact a4) (by show 0 + _ + 22 ≤ _; omega)) ?_
  rintro C2 ⟨b1, b2, b3⟩
  apply ok_s
  rw [List.nil_append] at b1
  refine ⟨?_, ?_, b3, _, b1⟩
  · obtain ⟨cap, h2, h3, h4, h5, h1, hf', hv⟩ := b1
    exact h1
  · exact (fr.rf.pu (by omega)).tr (b2.mo (fun r k w => by unfold PW PS at w; omega))
/-- the text's findings in the class -/
def CTd (W : Nat → Nat) (TL : List Nat) (S : St) : Prop := S.1 22 2 = nI TL.length ∧ S.1 22 3 = nI (lsum W TL) ∧ ∀ k i, TL[k]? = some i → S.1 23 k = nI i
theorem CTd.go {W : Nat → Nat} {TL : List Nat} {S S' : St} (h : CTd W TL S) (h2 : S'.1 22 2 = S.1 22 2) (h3 : S'.1 22 3 = S.1 22 3) (hr : ∀ k, S'.1 23 k = S.1 23 k) : CTd W TL S' := ⟨h2.trans h.1, h3.trans h.2.1, fun k i hk => (hr k).trans (h.2.2 k i hk)⟩
theorem tappend_e {W : Nat → Nat} {TL : List Nat} {k : Nat} {S : St} (h : CTd W TL S) (hl : TL.length < 432) : ∃ S', f_X9_append N (nI k) (nI (W k)) S = some S' ∧ fr (fun r c => (r = 22 ∧ 2 ≤ c ∧ c ≤ 3) ∨ r = 23) S S' ∧ CTd W (TL ++ [k]) S' := by
  obtain ⟨h1, h2, h3⟩ := h
  unfold f_X9_append
  simp only [q_nm]
  have e1 : (puI S 23 TL.length (nI k)).1 22 3 = nI (lsum W TL) := by rw [q_gR _ _ _ _ _ _ (by omega)]; exact h2
  have e2 : (puI (puI S 23 TL.length (nI k)) 22 3 (nI (lsum W TL + W k))).1 22 2 = nI TL.length := by rw [q_gK _ _ _ _ _ _ (by omega), q_gR _ _ _ _ _ _ (by omega)]; exact h1
  rw [h1, if_neg (show ¬ (432 : Int32) ≤ nI TL.length from nI_ge (b := 432) hl (by omega)), q_ck (by omega) (by omega), q_tn (by omega), e1, q_add, e2, ← nI_succ]
  refine ⟨_, rfl, ((fr.rf.pu (by omega)).pu (by omega)).pu (by omega), ?_, ?_, ?_⟩
  · rw [q_gS, List.length_append]; rfl
  · rw [q_gK _ _ _ _ _ _ (by omega), q_gS, lsum_app]; rfl
  · intro i x hx
    rw [q_gR _ _ _ _ _ _ (by omega), q_gR _ _ _ _ _ _ (by omega), q_g]
    rcases app_at hx with ⟨a, c⟩ | ⟨a, c⟩
    · rw [if_neg (by omega)]; exact h3 i x c
    · rw [if_pos ⟨rfl, a⟩, c]
theorem offer_e {l : List I3} {x : I3} {S : St} (h : IA l S) (hl : l.length < 432) : ∃ S', f_X0_offer N (nI x.1) (nI x.2.1) (nI x.2.2) S = some S' ∧ fr (fun r c => (r = 15 ∧ c = 3) ∨ (16 ≤ r ∧ r ≤ 19)) S S' ∧ IA (l ++ [x]) S' ∧ S'.1 18 l.length = 0 ∧ ∀ j, j < l.length → S'.1 18 j = S.1 18 j := by
  obtain ⟨h1, h2⟩ := h
  unfold f_X0_offer
  simp only [q_nm]
  have hz : vp_nar .boolean (0 : Int32) = 0 := by decide
  have e1 : (puI S 16 l.length (nI x.1)).1 15 3 = nI l.length := by rw [q_gR _ _ _ _ _ _ (by omega)]; exact h1
  have e2 : (puI (puI S 16 l.length (nI x.1)) 19 l.length (nI x.2.1)).1 15 3 = nI l.length := by rw [q_gR _ _ _ _ _ _ (by omega)]; exact e1
  have e3 : (puI (puI (puI S 16 l.length (nI x.1)) 19 l.length (nI x.2.1)) 17 l.length (nI x.2.2)).1 15 3 = nI l.length := by rw [q_gR _ _ _ _ _ _ (by omega)]; exact e2
  have e4 : (puI (puI (puI (puI S 16 l.length (nI x.1)) 19 l.length (nI x.2.1)) 17 l.length (nI x.2.2)) 18 l.length 0).1 15 3 = nI l.length := by rw [q_gR _ _ _ _ _ _ (by omega)]; exact e3
  rw [h1, if_neg (show ¬ (432 : Int32) ≤ nI l.length from nI_ge (b := 432) hl (by omega)), q_ck (by omega) (by omega), q_tn (by omega), e1, q_ck (by omega) (by omega), q_tn (by omega), e2, q_ck (by omega) (by omega), q_tn (by omega), e3, q_ck (by omega) (by omega), q_tn (by omega), hz, e4, ← nI_succ]
  refine ⟨_, rfl, ((((fr.rf.pu (by omega)).pu (by omega)).pu (by omega)).pu (by omega)).pu (by omega), ⟨?_, ?_⟩, ?_, ?_⟩
  · rw [q_gS, List.length_append]; rfl
  · intro j y hy
    rcases app_at hy with ⟨a, c⟩ | ⟨a, c⟩
    · rw [q_gR _ _ _ _ _ _ (by omega), q_gK _ _ _ _ _ _ (by omega), q_gK _ _ _ _ _ _ (by omega), q_gK _ _ _ _ _ _ (by omega), q_gK _ _ _ _ _ _ (by omega)]
      rw [q_gR _ _ _ _ _ _ (by omega), q_gK _ _ _ _ _ _ (by omega), q_gK _ _ _ _ _ _ (by omega), q_gK _ _ _ _ _ _ (by omega), q_gK _ _ _ _ _ _ (by omega)]
      rw [q_gR _ _ _ _ _ _ (by omega), q_gK _ _ _ _ _ _ (by omega), q_gK _ _ _ _ _ _ (by omega), q_gK _ _ _ _ _ _ (by omega), q_gK _ _ _ _ _ _ (by omega)]
      exact h2 j y c
    · subst a c
      refine ⟨?_, ?_, ?_⟩
      · rw [q_gR _ _ _ _ _ _ (by omega), q_gR _ _ _ _ _ _ (by omega), q_gR _ _ _ _ _ _ (by omega), q_gR _ _ _ _ _ _ (by omega), q_gS]
      · rw [q_gR _ _ _ _ _ _ (by omega), q_gR _ _ _ _ _ _ (by omega), q_gR _ _ _ _ _ _ (by omega), q_gS]
      · rw [q_gR _ _ _ _ _ _ (by omega), q_gR _ _ _ _ _ _ (by omega), q_gS]
  · rw [q_gR _ _ _ _ _ _ (by omega), q_gS]
  · intro j hj
    rw [q_gR _ _ _ _ _ _ (by omega), q_gK _ _ _ _ _ _ (by omega), q_gK _ _ _ _ _ _ (by omega), q_gK _ _ _ _ _ _ (by omega), q_gK _ _ _ _ _ _ (by omega)]
/-- the items in order -/
def itu (Z W : Nat → Nat) (Wn : Nat → Bool) : Nat → List I3
  | 0 => []
  | f + 1 => itu Z W Wn f ++ (if Wn f = true then [] else [(f, Z f, W f)])
theorem itu_its {Z W : Nat → Nat} {Wn : Nat → Bool} {n : Nat} : ∀ f, f ≤ n → itu Z W Wn f ++ its Z W Wn n (n - f) = its Z W Wn n n
  | 0, _ => rfl
  | f + 1, h => by
    have ih := itu_its (Z := Z) (W := W) (Wn := Wn) (n := n) f (by omega)
    rw [its_S (show f < n by omega)] at ih
    rw [← ih, itu, List.append_assoc]
    by_cases e : Wn f = true
    · rw [if_pos e, if_pos e]; rfl
    · rw [if_neg e, if_neg e]; rfl
theorem itu_n {Z W : Nat → Nat} {Wn : Nat → Bool} {n : Nat} : itu Z W Wn n = its Z W Wn n n := by
  have := itu_its (Z := Z) (W := W) (Wn := Wn) n (Nat.le_refl n)
  rw [Nat.sub_self] at this
  rw [← this]
  show _ = _ ++ []
  rw [List.append_nil]
theorem itu_len {Z W : Nat → Nat} {Wn : Nat → Bool} (f : Nat) : (itu Z W Wn f).length ≤ f := by
  induction f with
  | zero => exact Nat.le_refl _
  | succ f ih =>
    rw [itu, List.length_append]
    split
    · show _ + 0 ≤ _; omega
    · show _ + 1 ≤ _; omega
theorem its_pw {Z W : Nat → Nat} {Wn : Nat → Bool} {n d : Nat} (hd : d ≤ n) : (its Z W Wn n d).Pairwise (fun x y => x.1 < y.1) := by
  induction d with
  | zero => exact List.Pairwise.nil
  | succ d ih =>
    unfold its
    split
    · exact ih (by omega)
    · rw [List.pairwise_cons]
      refine ⟨?_, ih (by omega)⟩
      intro y hy
      have := (its_mem (show d ≤ n by omega) y hy).1
      show n - (d + 1) < y.1
      omega
theorem goesAhead_e {k y : Nat} (hB : MB P R B M) (hC : CR P R B C M) (hA : AL 9 C L) (hl : L.length ≤ 432) (hok : ∀ x ∈ L, okF P B x) (hk : k < L.length) (hy : y < k) : f_X10_goesAhead N (nI k) (nI y) C = some (if rk (Wf M L) (Ff L) k < rk (Wf M L) (Ff L) y then 1 else 0) := by
  have hy' : y < L.length := by omega
  have xk := hok _ (Lg_mem hk)
  have xy := hok _ (Lg_mem hy')
  have wk := wtf_le hB xk
  have wy := wtf_le hB xy
  have ak := (hA k _ (Lg_at hk)).2.1
  have ay := (hA y _ (Lg_at hy')).2.1
  have fk : Ff L k < 24 := by unfold Ff; have := xk.2.1; have := xk.2.2.1; omega
  have fy : Ff L y < 24 := by unfold Ff; have := xy.2.1; have := xy.2.2.1; omega
  have hrk := rk_ahead (W := Wf M L) (F := Ff L) (a := k) (b := y) wk.2.1 wy.2.1 fk fy (by omega) (by omega)
  have ak' : C.1 10 k = nI (Ff L k) := ak
  have ay' : C.1 10 y = nI (Ff L y) := ay
  have wk2 : Wf M L k ≤ 1296 := wk.2.1
  have wy2 : Wf M L y ≤ 1296 := wy.2.1
  unfold f_X10_goesAhead
  rw [cweight_e hB hC hA hl hok hk, cweight_e hB hC hA hl hok hy', q_bd, q_bd, q_ck (by omega) (by omega), q_ck (by omega) (by omega), q_tn (by omega), q_tn (by omega), ak', ay']
  show z1 (if nI (Wf M L k) = nI (Wf M L y) then _ else if nI (Wf M L k) ≤ nI (Wf M L y) then _ else _) = _
  by_cases e1 : Wf M L k = Wf M L y
  · rw [if_pos (show nI (Wf M L k) = nI (Wf M L y) by rw [e1])]
    by_cases e2 : Ff L y ≤ Ff L k
    · rw [if_pos (show nI (Ff L y) ≤ nI (Ff L k) by rw [q_le (by omega) (by omega)]; exact e2), if_neg (by rw [hrk]; omega)]; rfl
    · rw [if_neg (show ¬ nI (Ff L y) ≤ nI (Ff L k) by rw [q_le (by omega) (by omega)]; exact e2), if_pos (by rw [hrk]; omega)]; rfl
  · rw [if_neg (show ¬ nI (Wf M L k) = nI (Wf M L y) by rw [q_eq (by omega) (by omega)]; exact e1)]
    by_cases e2 : Wf M L k ≤ Wf M L y
    · rw [if_pos (show nI (Wf M L k) ≤ nI (Wf M L y) by rw [q_le (by omega) (by omega)]; exact e2), if_neg (by rw [hrk]; omega)]; rfl
    · rw [if_neg (show ¬ nI (Wf M L k) ≤ nI (Wf M L y) by rw [q_le (by omega) (by omega)]; exact e2), if_pos (by rw [hrk]; omega)]; rfl
/-- the class puts a finding into its place -/
theorem cinsert {k : Nat} {w o : List Nat} {K : St → Option St} {Q : St → Prop} {S : St} (hN : 6000 ≤ N) (hB : MB P R B M) (hS : CS P R B L S M) (hl : L.length ≤ 432) (hok : ∀ x ∈ L, okF P B x) (hk : k < L.length) (ho : ∀ a ∈ o, a < k) (hpw : o.Pairwise (fun a b => rk (Wf M L) (Ff L) a < rk (Wf M L) (Ff L) b)) (hlen : (w ++ o).length < 432) (hv : ∀ i x, (w ++ o)[i]? = some x → S.1 23 i = nI x)
    (hK : ∀ S' o', fr (fun r _ => r = 23) S S' → o'.Pairwise (fun a b => rk (Wf M L) (Ff L) a < rk (Wf M L) (Ff L) b) → (∀ x, x ∈ o' ↔ x = k ∨ x ∈ o) → o'.length = o.length + 1 → lsum (Wf M L) o' = lsum (Wf M L) o + Wf M L k → (∀ i x, (w ++ o')[i]? = some x → S'.1 23 i = nI x) → ok (K S') Q) :
    ok (lp (fun _ _ => none) (b_X10_takeChosen_63 N (nI w.length) (nI k) (j_X10_takeChosen_117 K (nI k))) N (nI (w ++ o).length) S) Q := by
  rw [List.length_append] at hlen
  refine ok_l2 (fun m v S' => ∃ a b, o = a ++ b ∧ v = nI (w.length + a.length) ∧ a.length = m ∧ fr (fun r _ => r = 23) S S' ∧ (∀ i x, (w ++ a)[i]? = some x → S'.1 23 i = nI x) ∧ (∀ i x, b[i]? = some x → S'.1 23 (w.length + a.length + 1 + i) = nI x) ∧ ∀ x ∈ b, rk (Wf M L) (Ff L) k < rk (Wf M L) (Ff L) x) ?_ N o.length (nI (w ++ o).length) S (by omega) ⟨o, [], by rw [List.append_nil], by rw [List.length_append], rfl, fr.rf, hv, fun i x h => by simp at h, fun x hx => by cases hx⟩
  rintro K2 m v S' ⟨a, b, rfl, rfl, g1, g2, g3, g4, g5⟩ hK2
  rw [List.length_append] at hlen
  rw [List.pairwise_append] at hpw
  have hput : (∀ y, a.getLast? = some y → rk (Wf M L) (Ff L) y < rk (Wf M L) (Ff L) k) → ok (j_X10_takeChosen_117 K (nI k) (nI (w.length + a.length)) S') Q := by
    intro hlast
    unfold j_X10_takeChosen_117
    rw [q_ck (by omega) (by omega), q_tn (by omega), q_nm]
    have hak : ∀ x ∈ a, rk (Wf M L) (Ff L) x < rk (Wf M L) (Ff L) k := by
      intro x hx
      rcases List.eq_nil_or_concat a with rfl | ⟨a', y, rfl⟩
      · cases hx
      · have hy := hlast y (by simp)
        rw [List.concat_eq_append, List.mem_append, List.mem_singleton] at hx
        rcases hx with w' | rfl
        · have := hpw.1
          rw [List.concat_eq_append, List.pairwise_append] at this
          have := this.2.2 x w' y (List.mem_singleton.mpr rfl)
          omega
        · exact hy
    refine hK _ (a ++ k :: b) (g2.pu rfl) ?_ ?_ ?_ ?_ ?_
    · rw [List.pairwise_append, List.pairwise_cons]
      refine ⟨hpw.1, ⟨g5, hpw.2.1⟩, ?_⟩
      intro x hx y hy
      rw [List.mem_cons] at hy
      rcases hy with rfl | hy
      · exact hak x hx
      · exact hpw.2.2 x hx y hy
    · intro x
      rw [List.mem_append, List.mem_append, List.mem_cons]
      constructor
      · rintro (w' | w' | w')
        · exact Or.inr (Or.inl w')
        · exact Or.inl w'
        · exact Or.inr (Or.inr w')
      · rintro (w' | w' | w')
        · exact Or.inr (Or.inl w')
        · exact Or.inl w'
        · exact Or.inr (Or.inr w')
    · rw [List.length_append, List.length_append, List.length_cons]; omega
    · rw [lsum_app, lsum_app]
      show lsum (Wf M L) a + (Wf M L k + lsum (Wf M L) b) = _
      omega
    · intro i x hx
      rw [q_g]
      rw [← List.append_assoc] at hx
      by_cases hi : i < w.length + a.length
      · rw [List.getElem?_append_left (by rw [List.length_append]; exact hi)] at hx
        rw [if_neg (by omega)]
        exact g3 i x hx
      · rw [List.getElem?_append_right (by rw [List.length_append]; omega), List.length_append] at hx
        by_cases e : i = w.length + a.length
        · rw [e, Nat.sub_self] at hx
          simp at hx
          rw [if_pos ⟨rfl, e⟩, hx]
        · obtain ⟨j, hj⟩ : ∃ j, i - (w.length + a.length) = j + 1 := ⟨i - (w.length + a.length) - 1, by omega⟩
          rw [hj, List.getElem?_cons_succ] at hx
          rw [if_neg (fun q => e q.2)]
          have := g4 j x hx
          have e2 : w.length + a.length + 1 + j = i := by omega
          rw [e2] at this
          exact this
  unfold b_X10_takeChosen_63
  rcases List.eq_nil_or_concat a with rfl | ⟨a', y, rfl⟩
  · rw [if_pos (show nI (w.length + ([] : List Nat).length) ≤ nI w.length by
      show nI (w.length + 0) ≤ nI w.length
      rw [Nat.add_zero, q_le (by omega) (by omega)]
      exact Nat.le_refl _)]
    exact hput (fun y hy => by simp at hy)
  · rw [List.concat_eq_append] at *
    have hla : (a' ++ [y]).length = a'.length + 1 := by rw [List.length_append]; rfl
    rw [hla] at g1 g4 hlen hput ⊢
    have hym : y ∈ a' ++ [y] := List.mem_append.mpr (Or.inr (List.mem_singleton.mpr rfl))
    have hyk := ho y (List.mem_append.mpr (Or.inl hym))
    have e1 : nI (w.length + (a'.length + 1)) - 1 = nI (w.length + a'.length) := by
      have : nI (w.length + (a'.length + 1)) - nI 1 = nI (w.length + a'.length) := by
        rw [q_sub (by omega)]
        congr 1
      exact this
    have hyv : S'.1 23 (w.length + a'.length) = nI y := by
      refine g3 _ y ?_
      rw [← List.append_assoc, List.getElem?_append_right (by rw [List.length_append]; omega), List.length_append, Nat.sub_self]
      rfl
    have S2 : CS P R B L S' M := hS.go (g2.mo (fun r k w => by unfold PQc; omega))
    rw [if_neg (show ¬ nI (w.length + (a'.length + 1)) ≤ nI w.length by rw [q_le (by omega) (by omega)]; omega), e1, q_ck (by omega) (by omega), q_tn (by omega), hyv, goesAhead_e hB S2.1 S2.2.2.2 hl hok hk hyk, q_bd]
    by_cases er : rk (Wf M L) (Ff L) k < rk (Wf M L) (Ff L) y
    · rw [if_pos er, if_neg (show ¬ (1 : Int32) = 0 by decide), q_ck (by omega) (by omega), q_ck (by omega) (by omega), q_tn (by omega), q_nm, q_nm, sub1 (by omega)]
      have e3 : w.length + (a'.length + 1) - 1 = w.length + a'.length := by omega
      rw [e3]
      refine hK2 a'.length _ _ (by omega) ⟨a', y :: b, by simp, rfl, rfl, g2.pu rfl, ?_, ?_, ?_⟩
      · intro i x hx
        have hi := (List.getElem?_eq_some_iff.mp hx).1
        rw [List.length_append] at hi
        rw [q_g, if_neg (by omega)]
        refine g3 i x ?_
        rw [← List.append_assoc, List.getElem?_append_left (by rw [List.length_append]; exact hi)]
        exact hx
      · intro i x hx
        rw [q_g]
        cases i with
        | zero =>
          simp at hx
          rw [if_pos ⟨rfl, by omega⟩, hx]
        | succ i =>
          rw [List.getElem?_cons_succ] at hx
          rw [if_neg (by omega)]
          have := g4 i x hx
          have e4 : w.length + (a'.length + 1) + 1 + i = w.length + a'.length + 1 + (i + 1) := by omega
          rw [e4] at this
          exact this
      · intro x hx
        rw [List.mem_cons] at hx
        rcases hx with rfl | hx
        · exact er
        · exact g5 x hx
    · rw [if_neg er, if_pos (show (0 : Int32) = 0 from rfl)]
      refine hput ?_
      intro z hz
      simp at hz
      subst hz
      have : rk (Wf M L) (Ff L) k ≠ rk (Wf M L) (Ff L) y := by
        unfold rk
        omega
      omega
end CT
