/-! pure part: how the class and the reference stand to each other between calls -/
theorem nml_cg {nw nw' : Nat → List Nat} {names : Nat} : ∀ {k : Nat}, (∀ n, n < k → nw' n = nw n) → nml nw' names k = nml nw names k
  | 0, _ => rfl
  | k + 1, h => by
    unfold nml
    rw [nml_cg (fun n hn => h n (by omega)), h k (by omega)]
theorem Jn_cg {mem mem' : Nat → Nat} {K : Nat} (h : ∀ i, i < K → mem' i = mem i) : Jn mem' K = Jn mem K := by
  funext s
  exact orJ_cg (fun i hi => ⟨h i hi, rfl⟩)
theorem Gn_cg {mem mem' : Nat → Nat} {K s : Nat} (h : ∀ i, i < K → mem' i = mem i) : Gn mem' K s = Gn mem K s := by
  unfold Gn
  rw [Jn_cg h]
theorem Go_cg {mem mem' : Nat → Nat} {K s : Nat} (h : ∀ i, i < K → mem' i = mem i) : Go mem' K s = Go mem K s := by
  unfold Go
  rw [Jn_cg h, Gn_cg h]
theorem wd_cg {sz lt sz' lt' : Nat → Int32} {idx : Nat} (h : WL sz lt idx) (h1 : sz' idx = sz idx) (h2 : ∀ k, k < 12 → lt' (12 * idx + k) = lt (12 * idx + k)) : wd sz' lt' idx = wd sz lt idx := by
  obtain ⟨s, l, a1, a2, a3, a4⟩ := h
  rw [wd_e a3 a2 a4, wd_e (h1.trans a3) a2 (fun k hk => ⟨(a4 k hk).1, (h2 k (by omega)).trans (a4 k hk).2⟩)]
/-- the reference's rules stay -/
def mSame (M M' : St) : Prop := (∀ k, k < 144 → M'.1 2 k = M.1 2 k) ∧ (∀ k, k < 12 → M'.1 3 k = M.1 3 k ∧ M'.1 4 k = M.1 4 k) ∧ (∀ r k, (5 ≤ r ∧ r ≤ 9 ∨ r = 11) → k < 24 → M'.1 r k = M.1 r k) ∧ (∀ k, k < 288 → M'.1 10 k = M.1 10 k) ∧ (∀ k, M'.1 12 k = M.1 12 k ∧ M'.1 13 k = M.1 13 k) ∧ M'.1 0 3 = M.1 0 3 ∧ M'.1 0 4 = M.1 0 4 ∧ M'.1 0 8 = M.1 0 8
theorem mSame.of {M M' : St} {Q : Nat → Nat → Prop} (h : fr Q M M') (hq : ∀ r k, (2 ≤ r ∧ r ≤ 13 ∨ r = 0 ∧ (k = 3 ∨ k = 4 ∨ k = 8)) → ¬ Q r k) : mSame M M' :=
  ⟨fun k _ => h.2 _ _ (hq _ _ (by omega)), fun k _ => ⟨h.2 _ _ (hq _ _ (by omega)), h.2 _ _ (hq _ _ (by omega))⟩, fun r k hr _ => h.2 _ _ (hq _ _ (by omega)), fun k _ => h.2 _ _ (hq _ _ (by omega)), fun k => ⟨h.2 _ _ (hq _ _ (by omega)), h.2 _ _ (hq _ _ (by omega))⟩, h.2 _ _ (hq _ _ (by omega)), h.2 _ _ (hq _ _ (by omega)), h.2 _ _ (hq _ _ (by omega))⟩
section RL
variable {P R B : Nat} {C M C' M' : St}
theorem mSame.mem (h : mSame M M') {K : Nat} (hK : K ≤ 11) : ∀ i, i < K → memM M' i = memM M i := by
  intro i hi
  unfold memM
  rw [(h.2.1 i (by omega)).2]
theorem RR.sm (h : RR P R B C M) (hs : mSame M M') (hc : ∀ r k, 28 ≤ r → r ≤ 37 → C'.1 r k = C.1 r k) (hl : ∀ r k, 28 ≤ r → r ≤ 37 → C'.2 r k = C.2 r k) : RR P R B C' M' := by
  obtain ⟨h1, h2, x3, x4, x8⟩ := h
  have hP := h1.2.2.1
  have hR := h1.2.2.2.1
  have hB := h2.2.1
  obtain ⟨s2, s34, sb, s10, s12, s3, s4, s8⟩ := hs
  refine ⟨h1.go (hc _ _ (by omega) (by omega)) (hc _ _ (by omega) (by omega)) (fun i _ => hl _ _ (by omega) (by omega)) (fun i _ => hl _ _ (by omega) (by omega)) (fun i _ => hc _ _ (by omega) (by omega)) (fun i hi => ⟨(s34 _ (by omega)).1, (s34 _ (by omega)).2, fun k hk => s2 _ (by omega)⟩) (fun i hi => ⟨(s34 _ (by omega)).1, (s34 _ (by omega)).2, fun k hk => s2 _ (by omega)⟩), h2.go (hc _ _ (by omega) (by omega)) (fun i _ => hl _ _ (by omega) (by omega)) (fun r i _ _ _ => hc _ _ (by omega) (by omega)) (fun r i hr hi => sb _ _ hr (by omega)) (fun i k hi hk => s10 _ (by omega)), s3.trans x3, s4.trans x4, s8.trans x8⟩
theorem clM_sm (h : MN P R B M) (hs : mSame M M') {x : F4} (hx : okF P B x) : clM M' (P + R) x = clM M (P + R) x := by
  obtain ⟨m1, m2, m3, m4, m5, m6, m7, m8, m9⟩ := h
  obtain ⟨s2, s34, sb, s10, s12, s3, s4, s8⟩ := hs
  have hm : ∀ i, i < P + R → memM M' i = memM M i := fun i hi => by unfold memM; rw [(s34 i (by omega)).2]
  have hnw : ∀ n, n < P + R → NWf M' n = NWf M n := fun n hn => wd_cg (m6 n hn) (s34 n (by omega)).1 (fun k hk => s2 _ (by omega))
  have hbw : BWf M' x.1 = BWf M x.1 := wd_cg (m7 x.1 hx.1) (sb 11 _ (by omega) (by have := hx.1; omega)) (fun k hk => s10 _ (by have := hx.1; omega))
  unfold clM cll
  rw [Gn_cg hm, Go_cg hm, hbw, nml_cg hnw, nml_cg hnw]
theorem TXT_sm (h : MN P R B M) (hs : mSame M M') {xs : List F4} (hok : ∀ x ∈ xs, okF P B x) : ∀ k, k ≤ xs.length → TXT M' (P + R) xs k = TXT M (P + R) xs k
  | 0, _ => rfl
  | k + 1, hk => by
    unfold TXT
    rw [TXT_sm h hs hok k (by omega), clM_sm h hs (hok _ (Lg_mem (by omega)))]
theorem FB_cg {S S' : Nat → Nat → Nat → Nat} : ∀ {k : Nat}, (∀ b, b < k → S' b = S b) → FBn S' k = FBn S k
  | 0, _ => rfl
  | k + 1, h => by
    unfold FBn
    rw [FB_cg (fun b hb => h b (by omega)), h k (by omega)]
theorem FL_sm (h : MB P R B M) (hs : mSame M M') (h14 : ∀ k, k < 432 → M'.1 14 k = M.1 14 k) : FBn (Sf (inn M') P) B = FBn (Sf (inn M) P) B := by
  apply FB_cg
  intro b hb
  have hB24 := h.2.2.2.2.2.1
  have hP6 := h.2.2.2.1
  funext f t
  unfold Sf
  apply fset_cg
  intro p hp
  have : inn M' b p = inn M b p := by
    funext hh
    obtain ⟨⟨q, hq, e5⟩, -⟩ := h.2.2.2.2.2.2.1 b hb
    obtain ⟨s2, s34, sb, s10, s12, s3, s4, s8⟩ := hs
    by_cases h24 : hh < 24
    · unfold inn
      rw [sb 5 b (by omega) (by omega), sb 6 b (by omega) (by omega), sb 7 b (by omega) (by omega), e5, q_tn (by omega), h14 _ (by omega)]
    · rw [inn_24 (by omega), inn_24 (by omega)]
  rw [this]
def rT (C M : St) : Prop := (∃ L, L ≤ 1000 ∧ C.1 1 1 = nI L ∧ M.1 0 1 = nI L) ∧ ∀ k, k < 1000 → M.1 1 k = nI (cb C k)
def rK (C M : St) : Prop := KW C ∧ C.2 4 0 = lN (enc Wd 23 3) ∧ ∀ k, k < 27 → M.1 15 k = nI (Wd k)
def rFl (C M : St) : Prop := C.1 3 5 = M.1 0 16 ∧ C.1 3 6 = M.1 0 17
def rG (P R : Nat) (C M : St) : Prop := RG P R (memM M) C ∧ C.1 6 0 = 0 ∧ ∀ s, 0 < s → s < 2 ^ P → M.1 12 s = nI (Gn (memM M) (P + R) s) ∧ M.1 13 s = nI (Go (memM M) (P + R) s)
def tOK (v : Int32) : Prop := -100 ≤ v.toInt ∧ v.toInt ≤ 999
def rB (P : Nat) (C M : St) : Prop := (∀ k, k < 432 → C.1 49 k = M.1 14 k ∧ C.1 51 k = M.1 14 (432 + k)) ∧ (∀ k, k < 864 → tOK (M.1 14 k)) ∧ ∀ q p h, q < 3 → p < 6 → P ≤ p → h < 24 → M.1 14 (144 * q + 24 * p + h) = -100 ∧ M.1 14 (432 + (144 * q + 24 * p + h)) = -100
def rW (P B : Nat) (C M : St) : Prop := (C.1 0 12 = 0 ∨ (C.1 0 12 = 1 ∧ FC (FBn (Sf (inn M) P) B) C)) ∧ ∀ t, t < 24 → C.1 14 t = 0
def rX (P R B : Nat) (C M : St) : Prop := (∃ xs : List F4, xs.length ≤ 432 ∧ C.1 22 2 = nI xs.length ∧ M.1 0 38 = nI xs.length ∧ (∀ k, k < xs.length → C.1 23 k = M.1 20 k) ∧ AL 21 M xs ∧ (∀ x ∈ xs, okF P B x) ∧ SG 24 (TXT M (P + R) xs xs.length) C ∧ (M.1 0 37 = 0 → xs = [])) ∧ C.1 22 3 = M.1 0 39 ∧ ∃ l, SG 26 l C
def RelP (P R B : Nat) (C M : St) : Prop := rT C M ∧ rK C M ∧ rFl C M ∧ RR P R B C M ∧ rG P R C M ∧ rB P C M ∧ rW P B C M ∧ rX P R B C M
def Rel (C M : St) : Prop := ∃ P R B, RelP P R B C M
theorem rT.go (h : rT C M) (h1 : C'.1 1 1 = C.1 1 1) (h2 : ∀ k, C'.1 2 k = C.1 2 k) (h3 : M'.1 0 1 = M.1 0 1) (h4 : ∀ k, M'.1 1 k = M.1 1 k) : rT C' M' := by
  refine ⟨?_, fun k hk => ?_⟩
  · rw [h1, h3]; exact h.1
  · rw [h4]
    unfold cb
    rw [h2]
    exact h.2 k hk
theorem rK.go (h : rK C M) (h1 : ∀ k, C'.2 3 k = C.2 3 k) (h2 : C'.2 4 0 = C.2 4 0) (h3 : ∀ k, M'.1 15 k = M.1 15 k) : rK C' M' := by
  unfold rK KW
  rw [h1, h1, h1, h1, h1, h2]
  exact ⟨h.1, h.2.1, fun k hk => (h3 k).trans (h.2.2 k hk)⟩
theorem rG.go (h : rG P R C M) (hPR : P + R ≤ 11) (hs : mSame M M') (h5 : C'.1 5 2 = C.1 5 2) (h6 : ∀ k, C'.1 6 k = C.1 6 k) (h7 : ∀ k, C'.1 7 k = C.1 7 k) : rG P R C' M' := by
  have hm := hs.mem hPR
  obtain ⟨⟨g1, g2, g3⟩, g4, g5⟩ := h
  refine ⟨⟨h5.trans g1, fun s hs' => ?_, fun s a c => ?_⟩, (h6 0).trans g4, fun s a c => ?_⟩
  · rw [h6, Jn_cg hm]; exact g2 s hs'
  · rw [h7, Gn_cg hm]; exact g3 s a c
  · rw [(hs.2.2.2.2.1 s).1, (hs.2.2.2.2.1 s).2, Gn_cg hm, Go_cg hm]; exact g5 s a c
theorem rB.go (h : rB P C M) (h49 : ∀ k, C'.1 49 k = C.1 49 k) (h51 : ∀ k, C'.1 51 k = C.1 51 k) (h14 : ∀ k, M'.1 14 k = M.1 14 k) : rB P C' M' :=
  ⟨fun k hk => by rw [h49, h51, h14, h14]; exact h.1 k hk, fun k hk => by rw [h14]; exact h.2.1 k hk, fun q p x a c d e => by rw [h14, h14]; exact h.2.2 q p x a c d e⟩
theorem rW.go (h : rW P B C M) (hB : MB P R B M) (hs : mSame M M') (h14 : ∀ k, k < 432 → M'.1 14 k = M.1 14 k) (h12 : C'.1 0 12 = C.1 0 12) (h84 : C'.1 8 4 = C.1 8 4) (h9 : ∀ r k, (9 ≤ r ∧ r ≤ 12 ∨ r = 14) → C'.1 r k = C.1 r k) : rW P B C' M' := by
  obtain ⟨h1, h2⟩ := h
  refine ⟨?_, fun t ht => (h9 _ _ (by omega)).trans (h2 t ht)⟩
  rw [h12, FL_sm hB hs h14]
  rcases h1 with w | ⟨w1, w2⟩
  · exact Or.inl w
  · exact Or.inr ⟨w1, h84.trans w2.1, w2.2.go (fun r k a c _ => h9 _ _ (by omega))⟩
theorem rX.go (h : rX P R B C M) (hM : MN P R B M) (hs : mSame M M') (hm0 : ∀ k, 37 ≤ k → k ≤ 39 → M'.1 0 k = M.1 0 k) (hm : ∀ r k, 20 ≤ r → r ≤ 24 → M'.1 r k = M.1 r k) (h22 : ∀ k, 2 ≤ k → k ≤ 3 → C'.1 22 k = C.1 22 k) (h23 : ∀ k, C'.1 23 k = C.1 23 k) (h24 : ∀ k, C'.1 24 k = C.1 24 k) (h25 : ∀ k, C'.1 25 k = C.1 25 k) (h26 : ∃ l, SG 26 l C') : rX P R B C' M' := by
  obtain ⟨⟨xs, x1, x2, x3, x4, x5, x6, x7, x8⟩, x9, -⟩ := h
  refine ⟨⟨xs, x1, (h22 2 (by omega) (by omega)).trans x2, (hm0 38 (by omega) (by omega)).trans x3, fun k hk => ?_, x5.go (fun r k a c _ => hm _ _ (by omega) (by omega)), x6, ?_, fun w => x8 (by rw [← hm0 37 (by omega) (by omega)]; exact w)⟩, ?_, h26⟩
  · rw [h23, hm 20 k (by omega) (by omega)]; exact x4 k hk
  · rw [TXT_sm hM hs x6 _ (Nat.le_refl _)]
    exact x7.go (h24 1) (h24 2) (funext h25)
  · rw [h22 3 (by omega) (by omega), hm0 39 (by omega) (by omega)]; exact x9
theorem RelP.mb (h : RelP P R B C M) : MB P R B M := h.2.2.2.1.mb
theorem RelP.mn (h : RelP P R B C M) : MN P R B M := h.2.2.2.1.mn h.2.2.2.2.1.2.2
theorem RelP.cr (h : RelP P R B C M) : CR P R B C M := h.2.2.2.1.cr (fun k hk => (h.2.2.2.2.2.1.1 k hk).1)
theorem RelP.pr (h : RelP P R B C M) : P + R ≤ 11 := by have := h.2.2.2.1.1.2.2.1; have := h.2.2.2.1.1.2.2.2.1; omega
/-- cells that don't count -/
def FCf (r k : Nat) : Prop := (r = 1 ∧ (k = 2 ∨ k = 3)) ∨ (r = 3 ∧ k = 7) ∨ (r = 4 ∧ 1 ≤ k ∧ k ≤ 4) ∨ r = 13 ∨ (15 ≤ r ∧ r ≤ 21) ∨ (38 ≤ r ∧ r ≤ 47)
def FMf (r k : Nat) : Prop := (r = 0 ∧ (k = 2 ∨ 22 ≤ k ∧ k ≤ 32 ∨ 47 ≤ k ∧ k ≤ 49)) ∨ (16 ≤ r ∧ r ≤ 19) ∨ r = 25 ∨ r = 26 ∨ ((r = 3 ∨ r = 4) ∧ 12 ≤ k) ∨ (r = 2 ∧ 144 ≤ k) ∨ ((5 ≤ r ∧ r ≤ 9 ∨ r = 11) ∧ 24 ≤ k) ∨ (r = 10 ∧ 288 ≤ k)
theorem FMf.sm (h : fr FMf M M') : mSame M M' :=
  ⟨fun k hk => h.2 _ _ (by unfold FMf; omega), fun k hk => ⟨h.2 _ _ (by unfold FMf; omega), h.2 _ _ (by unfold FMf; omega)⟩, fun r k hr hk => h.2 _ _ (by unfold FMf; omega), fun k hk => h.2 _ _ (by unfold FMf; omega), fun k => ⟨h.2 _ _ (by unfold FMf; omega), h.2 _ _ (by unfold FMf; omega)⟩, h.2 _ _ (by unfold FMf; omega), h.2 _ _ (by unfold FMf; omega), h.2 _ _ (by unfold FMf; omega)⟩
theorem RelP.go (h : RelP P R B C M) (hC : ∀ r k, ¬ FCf r k → C'.1 r k = C.1 r k) (hC2 : ∀ r k, (r < 38 ∨ 47 < r) → C'.2 r k = C.2 r k) (hM : fr FMf M M') : RelP P R B C' M' := by
  have hs := FMf.sm hM
  have hmb := h.mb
  have hmn := h.mn
  have hpr := h.pr
  obtain ⟨h1, h2, h3, h4, h5, h6, h7, h8⟩ := h
  refine ⟨h1.go (hC _ _ (by unfold FCf; omega)) (fun k => hC _ _ (by unfold FCf; omega)) (hM.2 _ _ (by unfold FMf; omega)) (fun k => hM.2 _ _ (by unfold FMf; omega)), h2.go (fun k => hC2 _ _ (by omega)) (hC2 _ _ (by omega)) (fun k => hM.2 _ _ (by unfold FMf; omega)), ?_, h4.sm hs (fun r k a c => hC _ _ (by unfold FCf; omega)) (fun r k a c => hC2 _ _ (by omega)), h5.go hpr hs (hC _ _ (by unfold FCf; omega)) (fun k => hC _ _ (by unfold FCf; omega)) (fun k => hC _ _ (by unfold FCf; omega)), h6.go (fun k => hC _ _ (by unfold FCf; omega)) (fun k => hC _ _ (by unfold FCf; omega)) (fun k => hM.2 _ _ (by unfold FMf; omega)), h7.go hmb hs (fun k _ => hM.2 _ _ (by unfold FMf; omega)) (hC _ _ (by unfold FCf; omega)) (hC _ _ (by unfold FCf; omega)) (fun r k a => hC _ _ (by unfold FCf; omega)), ?_⟩
  · unfold rFl
    rw [hC 3 5 (by unfold FCf; omega), hC 3 6 (by unfold FCf; omega), hM.2 0 16 (by unfold FMf; omega), hM.2 0 17 (by unfold FMf; omega)]
    exact h3
  · have h26 := h8.2.2
    obtain ⟨l, h26⟩ := h26
    exact h8.go hmn hs (fun k a c => hM.2 _ _ (by unfold FMf; omega)) (fun r k a c => hM.2 _ _ (by unfold FMf; omega)) (fun k a c => hC _ _ (by unfold FCf; omega)) (fun k => hC _ _ (by unfold FCf; omega)) (fun k => hC _ _ (by unfold FCf; omega)) (fun k => hC _ _ (by unfold FCf; omega)) ⟨l, h26.go (hC _ _ (by unfold FCf; omega)) (hC _ _ (by unfold FCf; omega)) (funext fun k => hC _ _ (by unfold FCf; omega))⟩
theorem RelP.m2 (h : RelP P R B C M) (v : Int32) : RelP P R B C (puI M 0 2 v) := h.go (fun _ _ _ => rfl) (fun _ _ _ => rfl) (fr.rf.pu (by unfold FMf; omega))
theorem RelP.phb (h : RelP P R B C M) : ph C ≤ 80000 := by
  obtain ⟨⟨xs, -, -, -, -, -, -, ⟨c1, a1, -, a3, -⟩, -⟩, -, l, ⟨c2, b1, -, b3, -⟩⟩ := h.2.2.2.2.2.2.2
  unfold ph
  rw [a1, b1, q_tn (by omega), q_tn (by omega)]
  omega
end RL
