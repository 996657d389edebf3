/-! pure part: the reference tells, the whole call; its signs -/
def Pt (r k : Nat) : Prop := (r = 0 ∧ (k = 2 ∨ k = 32 ∨ 37 ≤ k ∧ k ≤ 39)) ∨ (16 ≤ r ∧ r ≤ 26)
theorem clM_go {M M' : St} {K : Nat} {x : F4} (h : ∀ r, (2 ≤ r ∧ r ≤ 4 ∨ r = 10 ∨ r = 11) → M'.1 r = M.1 r) : clM M' K x = clM M K x := by
  unfold clM NWf BWf memM
  rw [h 2 (by omega), h 3 (by omega), h 4 (by omega), h 10 (by omega), h 11 (by omega)]
theorem memM_go {M M' : St} (h : M'.1 4 = M.1 4) : memM M' = memM M := by
  unfold memM
  rw [h]
theorem MN.go {P R B : Nat} {M M' : St} (h : MN P R B M) (h3 : M'.1 0 3 = M.1 0 3) (h4 : M'.1 0 4 = M.1 0 4) (hr : ∀ r, (2 ≤ r ∧ r ≤ 4 ∨ 10 ≤ r ∧ r ≤ 13) → M'.1 r = M.1 r) : MN P R B M' := by
  unfold MN
  rw [h3, h4, hr 2 (by omega), hr 3 (by omega), hr 10 (by omega), hr 11 (by omega), hr 12 (by omega), hr 13 (by omega), memM_go (hr 4 (by omega))]
  exact h
section TB
variable {N P R B : Nat} {M : St}
theorem MB.pt {S : St} (hB : MB P R B M) (hf : fr Pt M S) : MB P R B S := hB.go (hf.2 _ _ (by unfold Pt; omega)) (hf.2 _ _ (by unfold Pt; omega)) (hf.2 _ _ (by unfold Pt; omega)) (fun r hr => funext fun k => hf.2 _ _ (by unfold Pt; omega))
theorem MN.pt {S : St} (hB : MN P R B M) (hf : fr Pt M S) : MN P R B S := hB.go (hf.2 _ _ (by unfold Pt; omega)) (hf.2 _ _ (by unfold Pt; omega)) (fun r hr => funext fun k => hf.2 _ _ (by unfold Pt; omega))
theorem clM_pt {S : St} {K : Nat} {x : F4} (hf : fr Pt M S) : clM S K x = clM M K x := clM_go (fun r hr => funext fun k => hf.2 _ _ (by unfold Pt; omega))
theorem inn_pt {S : St} (hf : fr Pt M S) : inn S = inn M := by
  funext b p h
  have e : ∀ r k, 5 ≤ r → r ≤ 14 → S.1 r k = M.1 r k := fun r k h1 h2 => hf.2 r k (by unfold Pt; omega)
  unfold inn
  rw [e 5 b (by omega) (by omega), e 6 b (by omega) (by omega), e 7 b (by omega) (by omega), e 14 _ (by omega) (by omega)]
theorem wtf_le (hB : MB P R B M) {x : F4} (hx : okF P B x) : 1 ≤ wtf M x ∧ wtf M x ≤ 1296 ∧ ∃ g, 1 ≤ g ∧ g ≤ 9 ∧ M.1 8 x.1 = nI g ∧ wtf M x = g * pc x.2.2.2 * (x.2.2.1 - x.2.1 + 1) := by
  obtain ⟨x1, x2, x3, x4, x5⟩ := hx
  obtain ⟨-, -, -, -, ⟨g, g1, g2, g3⟩, -⟩ := hB.2.2.2.2.2.2.1 x.1 x1
  have hp6 := pw6 hB.2.2.2.1
  have h1 := pc_pos (x := x.2.2.2) (by omega) (by omega)
  have h2 := pc_le (x := x.2.2.2) 6 (by omega) (Nat.lt_of_lt_of_le x5 hp6)
  have e : wtf M x = g * pc x.2.2.2 * (x.2.2.1 - x.2.1 + 1) := by unfold wtf; rw [g3, q_tn (by omega)]
  have a1 : 1 ≤ g * pc x.2.2.2 := Nat.mul_pos g1 h1
  have a2 : g * pc x.2.2.2 ≤ 9 * 6 := Nat.mul_le_mul g2 h2
  have a3 : 1 ≤ x.2.2.1 - x.2.1 + 1 := by omega
  have a4 : x.2.2.1 - x.2.1 + 1 ≤ 24 := by omega
  refine ⟨?_, ?_, g, g1, g2, g3, e⟩
  · rw [e]; exact Nat.mul_pos a1 a3
  · rw [e]; exact Nat.mul_le_mul a2 a4
theorem mweight_e {f : Nat} {L : List F4} (hN : 6000 ≤ N) (hB : MB P R B M) (hA : AL 16 M L) (hl : L.length ≤ 432) (hf : f < L.length) (hok : ∀ x ∈ L, okF P B x) : f_X11_weightOf N (nI f) M = some (nI (wtf M (Lg L f))) := by
  have hx := hok _ (Lg_mem hf)
  obtain ⟨a1, a2, a3, a4⟩ := hA f _ (Lg_at hf)
  obtain ⟨w1, w2, g, g1, g2, g3, g4⟩ := wtf_le hB hx
  have hB24 := hB.2.2.2.2.2.1
  have hxb := hx.1
  have hxf := hx.2.1
  unfold f_X11_weightOf
  rw [q_ck (by omega) (by omega), q_tn (by omega), a1, q_ck (by omega) (by omega), q_ck (by omega) (by omega), a4, mbits_e hN, q_bd, q_ck (by omega) (by omega), q_ck (by omega) (by omega), q_tn (by omega), g3, a3, a2, q_sub hxf, g4, q_mul]
  have e1 : nI ((Lg L f).2.2.1 - (Lg L f).2.1) + 1 = nI ((Lg L f).2.2.1 - (Lg L f).2.1 + 1) := q_add _ 1
  rw [e1, q_mul]
theorem clM_len (h : MN P R B M) {x : F4} (hx : okF P B x) : (clM M (P + R) x).length ≤ 14 * pc x.2.2.2 + 22 := by
  obtain ⟨x1, x2, x3, x4, x5⟩ := hx
  obtain ⟨m1, m2, m3, m4, m5, m6, m7, m8, m9⟩ := h
  have hpp := pow_le (a := P) (b := P + R) (by omega)
  obtain ⟨n1, n2, -, n4⟩ := Gn_ok m8 x4 x5
  have hO := Go_lt m8 x4 x5
  have hcl := cll_len (nw := NWf M) (bw := BWf M x.1) (f := x.2.1) (t := x.2.2.1) (K := P + R) (fun k hk => (wd_len (m6 k hk)).2) (wd_len (m7 x.1 x1)).2 (by omega) n1 n2 (show Go (memM M) (P + R) x.2.2.2 < 2 ^ (P + R) by omega)
  have : (clM M (P + R) x).length ≤ 14 * (pc (Gn (memM M) (P + R) x.2.2.2) + pc (Go (memM M) (P + R) x.2.2.2)) + 22 := hcl
  omega
theorem msize_e {f : Nat} {L : List F4} (hN : 6000 ≤ N) (hM : MN P R B M) (hA : AL 16 M L) (hl : L.length ≤ 432) (hf : f < L.length) (hok : ∀ x ∈ L, okF P B x) : f_X11_sizeOf N (nI f) M = some (nI (Zf M (P + R) L f)) := by
  have hx := hok _ (Lg_mem hf)
  obtain ⟨a1, a2, a3, a4⟩ := hA f _ (Lg_at hf)
  unfold f_X11_sizeOf
  rw [q_ck (by omega) (by omega), q_ck (by omega) (by omega), q_ck (by omega) (by omega), q_ck (by omega) (by omega), q_tn (by omega), a1, a2, a3, a4, clauseSize_e hN hM hx, q_bd]
  exact congrArg some (q_add _ 1)
theorem Zf_b {L : List F4} (hB : MB P R B M) (hM : MN P R B M) (hok : ∀ x ∈ L, okF P B x) {f : Nat} (hf : f < L.length) : 1 ≤ Zf M (P + R) L f ∧ Zf M (P + R) L f ≤ 200 ∧ 1 ≤ Wf M L f ∧ Wf M L f ≤ 1296 := by
  have hx := hok _ (Lg_mem hf)
  have h1 := clM_len hM hx
  have h2 := wtf_le hB hx
  have h3 := pc_le (x := (Lg L f).2.2.2) 6 (by omega) (Nat.lt_of_lt_of_le hx.2.2.2.2 (pw6 hB.2.2.2.1))
  unfold Zf Wf
  exact ⟨by omega, by omega, h2.1, h2.2.1⟩
/-- the bundle holds once the findings are found -/
theorem HM_of {L : List F4} {S : St} (hN : 6000 ≤ N) (hB : MB P R B M) (hM : MN P R B M) (hS : fr Pt M S) (hC : MC L S) (hl : L.length ≤ 432) (hok : ∀ x ∈ L, okF P B x) : HM N L.length (Zf M (P + R) L) (Wf M L) (Wnf M L) S := by
  intro S' hS'
  have hP : fr Pt M S' := hS.tr (hS'.mo (fun r k w => by unfold PQ at w; unfold Pt; omega))
  have hA : AL 16 S' L := hC.2.go (fun r k a c _ => hS'.2 r k (by unfold PQ; omega))
  refine ⟨by rw [hS'.2 _ _ (by unfold PQ; omega)]; exact hC.1, fun f hf => ?_⟩
  have hx := hok _ (Lg_mem hf)
  have hB24 := hB.2.2.2.2.2.1
  refine ⟨?_, ?_, (Lg L f).1, by have := hx.1; omega, (hA f _ (Lg_at hf)).1, ?_⟩
  · rw [msize_e hN (hM.pt hP) hA hl hf hok]
    unfold Zf
    rw [clM_pt hP]
  · rw [mweight_e hN (hB.pt hP) hA hl hf hok]
    unfold Wf wtf
    rw [hP.2 8 _ (by unfold Pt; omega)]
  · rw [hP.2 9 _ (by unfold Pt; omega)]
    unfold Wnf
    obtain ⟨-, -, -, -, -, w, -⟩ := hB.2.2.2.2.2.2.1 (Lg L f).1 hx.1
    rcases w with w | w
    · rw [w]; rfl
    · rw [w]; rfl
/-- the text of a list of findings -/
def TXT (M : St) (K : Nat) (xs : List F4) : Nat → List Nat
  | 0 => []
  | k + 1 => TXT M K xs k ++ ((if k = 0 then [] else [32]) ++ clM M K (Lg xs k))
theorem mtext_sum {xs : List F4} {S : St} (hN : 6000 ≤ N) (hM : MN P R B S) (h38 : S.1 0 38 = nI xs.length) (hA : AL 21 S xs) (hl : xs.length ≤ 432) (hok : ∀ x ∈ xs, okF P B x) : j_X11_tell_203 N S = some (nI (TXT S (P + R) xs xs.length).length, S) := by
  unfold j_X11_tell_203
  rw [q_jp]
  have key : ∀ d N' k, d < N' → k + d = xs.length → lp (fun _ _ => none) (b_X11_tell_209 N S) N' (nI (TXT S (P + R) xs k).length) (nI k) = some (nI (TXT S (P + R) xs xs.length).length, S) := by
    intro d
    induction d with
    | zero =>
      intro N' k hN' hk
      obtain ⟨N', rfl⟩ : ∃ j, N' = j + 1 := ⟨N' - 1, by omega⟩
      have : k = xs.length := by omega
      subst this
      rw [q_lp]
      unfold b_X11_tell_209
      rw [h38, if_pos (by rw [q_le (by omega) (by omega)]; omega)]
    | succ d ih =>
      intro N' k hN' hk
      obtain ⟨N', rfl⟩ : ∃ j, N' = j + 1 := ⟨N' - 1, by omega⟩
      have ih' := ih N' (k + 1) (by omega) (by omega)
      rw [q_lp]
      generalize lp (fun _ _ => none) (b_X11_tell_209 N S) N' = K at ih' ⊢
      have hk2 : k < xs.length := by omega
      obtain ⟨a1, a2, a3, a4⟩ := hA k _ (Lg_at hk2)
      have e230 : ∀ (c : Nat), c = (if k = 0 then 0 else 1) → j_X11_tell_230 N S (nI k) K (nI (TXT S (P + R) xs k).length) (nI c) = some (nI (TXT S (P + R) xs xs.length).length, S) := by
        intro c hc
        unfold j_X11_tell_230
        rw [q_ck (by omega) (by omega), q_ck (by omega) (by omega), q_ck (by omega) (by omega), q_ck (by omega) (by omega), q_tn (by omega), a1, a2, a3, a4, clauseSize_e hN hM (hok _ (Lg_mem hk2)), q_bd, q_nm, q_nm, q_add, q_add, ← nI_succ k]
        have e : (TXT S (P + R) xs (k + 1)).length = (TXT S (P + R) xs k).length + (c + (clM S (P + R) (Lg xs k)).length) := by
          show (TXT S (P + R) xs k ++ ((if k = 0 then [] else [32]) ++ clM S (P + R) (Lg xs k))).length = _
          rw [List.length_append, List.length_append, hc]
          split <;> rfl
        rw [← e]
        exact ih'
      unfold b_X11_tell_209
      rw [h38, if_neg (by rw [q_le (by omega) (by omega)]; omega), q_jp]
      by_cases e0 : k = 0
      · rw [if_pos (show nI k ≤ 0 by rw [e0]; decide)]
        exact e230 0 (by rw [if_pos e0])
      · rw [if_neg (nI_nle (by omega) (by omega))]
        exact e230 1 (by rw [if_neg e0])
  exact key xs.length N 0 (by omega) (by omega)
/-- what room the others have -/
def CHf (Z W : Nat → Nat) (Wn : Nat → Bool) (n room : Nat) : List Nat := if room < lsum Z (wl Wn n) - 1 then [] else chs (its Z W Wn n n) (room - (lsum Z (wl Wn n) - 1))
theorem lsum_b {Z : Nat → Nat} : ∀ l : List Nat, (∀ x ∈ l, Z x ≤ 200) → lsum Z l ≤ 200 * l.length
  | [], _ => Nat.le_refl 0
  | a :: l, h => by
    have := lsum_b l (fun x hx => h x (List.mem_cons_of_mem _ hx))
    have := h a List.mem_cons_self
    show Z a + lsum Z l ≤ 200 * (l.length + 1)
    omega
theorem mtell_e {room : Nat} (hN : 6000 ≤ N) (hB : MB P R B M) (hM : MN P R B M) (hr : room ≤ 400) (L : List F4) (hL : L = FBn (Sf (inn M) P) B) :
    ok (f_X11_tell N (nI room) M) fun x => ∃ o, isO (Wf M L) (Ff L) (CHf (Zf M (P + R) L) (Wf M L) (Wnf M L) L.length room) o ∧ fr Pt M x.2 ∧ MTd (Wf M L) L (wl (Wnf M L) L.length ++ o) x.2 ∧ x.2.1 0 37 = 1 ∧ x.2.1 0 2 = 0 ∧ x.1 = nI (TXT M (P + R) ((wl (Wnf M L) L.length ++ o).map (Lg L)) (wl (Wnf M L) L.length ++ o).length).length := by
  have hl : L.length ≤ 432 := by rw [hL]; exact (FL_le hB).2
  have hok : ∀ x ∈ L, okF P B x := by rw [hL]; exact FB_ok B (Nat.le_refl _)
  unfold f_X11_tell
  rw [q_nm, if_neg (nI_pos (by omega)), if_pos (show nI room ≤ 400 from nI_le (b := 400) hr (by omega))]
  have f0 : fr Pt M (puI M 0 2 0) := fr.rf.pu (by unfold Pt; omega)
  refine ok_bd (mfind_e hN (hB.pt f0)) ?_
  rintro S1 ⟨g1, g2⟩
  rw [inn_pt f0, ← hL] at g2
  have f1 : fr Pt M S1 := f0.tr (g1.mo (fun r k w => by unfold Pf at w; unfold Pt; omega))
  have z1 : S1.1 0 2 = 0 := by rw [g1.2 _ _ (by unfold Pf; omega), q_gS]
  simp only [q_nm]
  rw [q_jp, q_jp]
  generalize hS7 : puI (puI (puI S1 0 38 0) 0 39 0) 0 37 1 = S7
  have f7q : fr PQ S1 S7 := by rw [← hS7]; exact ((fr.rf.pu (by unfold PQ; omega)).pu (by unfold PQ; omega)).pu (by unfold PQ; omega)
  have f7 : fr Pt M S7 := f1.tr (f7q.mo (fun r k w => by unfold PQ at w; unfold Pt; omega))
  have h37 : S7.1 0 37 = 1 := by rw [← hS7, q_gS]
  have h39 : S7.1 0 39 = 0 := by rw [← hS7]; simp (disch := omega) only [q_nm, q_jp, q_bd, q_bd2, q_zb0, q_zb1, q_zbn0, q_zbn1, q_z10, q_z11, q_z1n0, q_z1n1, q_lit, q_add, q_mul, q_lt, q_le, q_eq, q_tn, q_ck, q_nm1, q_n1e, q_gS, q_gR, q_gK, q_g2, if_true, if_false]
  have h38 : S7.1 0 38 = 0 := by rw [← hS7]; simp (disch := omega) only [q_nm, q_jp, q_bd, q_bd2, q_zb0, q_zb1, q_zbn0, q_zbn1, q_z10, q_z11, q_z1n0, q_z1n1, q_lit, q_add, q_mul, q_lt, q_le, q_eq, q_tn, q_ck, q_nm1, q_n1e, q_gS, q_gR, q_gK, q_g2, if_true, if_false]
  have hC7 : MC L S7 := ⟨by rw [f7q.2 _ _ (by unfold PQ; omega)]; exact g2.1, g2.2.go (fun r k a c _ => f7q.2 _ _ (by unfold PQ; omega))⟩
  have hH := HM_of hN hB hM f7 hC7 hl hok
  have hZ := fun f (hf : f < L.length) => Zf_b (L := L) hB hM hok hf
  have z7 : S7.1 0 2 = 0 := by rw [f7q.2 _ _ (by unfold PQ; omega)]; exact z1
  have hF : ∀ f, f < L.length → S7.1 17 f = nI (Ff L f) ∧ Ff L f < 24 := by
    intro f hf
    have hx := hok _ (Lg_mem hf)
    refine ⟨(hC7.2 f _ (Lg_at hf)).2.1, ?_⟩
    have := hx.2.1
    have := hx.2.2.1
    unfold Ff
    omega
  generalize hZe : Zf M (P + R) L = Z at hH hZ ⊢
  generalize hWe : Wf M L = W at hH hZ ⊢
  generalize hNe : Wnf M L = Wn at hH ⊢
  refine ok_l3 (fun m v x S => ∃ f, x = nI f ∧ f ≤ L.length ∧ L.length - f = m ∧ v = nI (lsum Z (wl Wn f)) ∧ fr PQ S7 S ∧ S.1 0 37 = 1 ∧ MTd W L (wl Wn f) S ∧ ∀ y, y < f → S.1 25 y = 0) ?_ N L.length 0 0 S7 (by omega) ⟨0, rfl, by omega, rfl, rfl, fr.rf, h37, ⟨h38, h39, fun k i h => by simp [wl] at h, AL.nil⟩, fun y hy => by omega⟩
  rintro K m v x S ⟨f, rfl, c1, c2, c3, c4, c37, c5, c6⟩ hK
  have hwl := wl_len (Wn := Wn) f
  unfold b_X11_tell_41
  rw [(hH S c4).1]
  by_cases hf : f < L.length
  · have hz : vp_nar .boolean (0 : Int32) = 0 := by decide
    rw [if_neg (by rw [q_le (by omega) (by omega)]; omega), q_ck (by omega) (by omega), q_tn (by omega), hz, q_nm, q_ck (by omega) (by omega)]
    have c4' : fr PQ S7 (puI S 25 f 0) := c4.pu (by unfold PQ; omega)
    obtain ⟨s1, s2, b, b1, b2, b3⟩ := (hH _ c4').2 f hf
    have c5' : MTd W L (wl Wn f) (puI S 25 f 0) := c5.go (q_gR _ _ _ _ _ _ (by omega)) (q_gR _ _ _ _ _ _ (by omega)) (fun r k a c => q_gR _ _ _ _ _ _ (by omega))
    have c6' : ∀ y, y < f + 1 → (puI S 25 f 0).1 25 y = 0 := by
      intro y hy
      rw [q_g]
      by_cases e : y = f
      · rw [if_pos ⟨rfl, e⟩]
      · rw [if_neg (fun w => e w.2)]
        exact c6 y (by omega)
    unfold j_X11_tell_86
    rw [b2, q_ck (by omega) (by omega), q_tn (by omega), b3, q_jp]
    simp only [q_nm]
    rw [← nI_succ]
    by_cases ew : Wn f = true
    · rw [if_pos ew, if_neg (show ¬ (1 : Int32) = 0 by decide), s1, q_bd]
      refine ok_bd (tells_e hH hC7.2 rfl hl c4' c5' hf (by omega)) ?_
      rintro S2 ⟨d1, d2⟩
      have ewl : wl Wn (f + 1) = wl Wn f ++ [f] := by show wl Wn f ++ _ = _; rw [if_pos ew]
      refine hK _ _ _ _ ?_ ⟨f + 1, rfl, by omega, rfl, ?_, c4'.tr (d1.mo (fun r k w => by unfold PQ; omega)), ?_, ?_, ?_⟩
      · omega
      · rw [c3, q_add, ewl, lsum_app]; rfl
      · rw [d1.2 _ _ (by omega), q_gR _ _ _ _ _ _ (by omega)]; exact c37
      · rw [ewl]; exact d2
      · intro y hy
        rw [d1.2 _ _ (by omega)]
        exact c6' y hy
    · rw [if_neg ew, if_pos (show (0 : Int32) = 0 from rfl)]
      have ewl : wl Wn (f + 1) = wl Wn f := by show wl Wn f ++ _ = _; rw [if_neg ew, List.append_nil]
      refine hK _ _ _ _ ?_ ⟨f + 1, rfl, by omega, rfl, ?_, c4', ?_, ?_, c6'⟩
      · omega
      · rw [ewl]; exact c3
      · rw [q_gR _ _ _ _ _ _ (by omega)]; exact c37
      · rw [ewl]; exact c5'
  · have : f = L.length := by omega
    subst this
    rw [if_pos (by rw [q_le (by omega) (by omega)]; omega)]
    have hlz := lsum_b (Z := Z) (wl Wn L.length) (fun x hx => (hZ x (wl_mem.mp hx).1).2.1)
    -- the selecting, given flags
    have hsel : ∀ (fl : Nat → Bool) (S2 : St), fr PQ S7 S2 → S2.1 0 37 = 1 → MTd W L (wl Wn L.length) S2 → (∀ f, f < L.length → S2.1 25 f = if fl f = true then 1 else 0) → (∀ x, x ∈ CHf Z W Wn L.length room ↔ x < L.length ∧ fl x = true) → ok (j_X11_tell_111 N S2) fun x => ∃ o, isO W (Ff L) (CHf Z W Wn L.length room) o ∧ fr Pt M x.2 ∧ MTd W L (wl Wn L.length ++ o) x.2 ∧ x.2.1 0 37 = 1 ∧ x.2.1 0 2 = 0 ∧ x.1 = nI (TXT M (P + R) ((wl Wn L.length ++ o).map (Lg L)) (wl Wn L.length ++ o).length).length := by
      intro fl S2 q1 q37 q2 q3 q4
      unfold j_X11_tell_111
      rw [q_jp, q_jp]
      have hCW : ∀ x ∈ CHf Z W Wn L.length room, Wn x = false := by
        intro x hx
        unfold CHf at hx
        split at hx
        · cases hx
        · obtain ⟨y, y1, y2⟩ := chs_mem _ _ x hx
          rw [← y2]
          exact (its_mem (Nat.le_refl _) y y1).2.2.2.2
      refine msel (F := Ff L) hN hH hC7.2 rfl hl hZ hF q1 q2 q3 q4 hCW ?_
      intro S3 o p1 p2 p3 p4
      have fP : fr Pt M S3 := f7.tr (p1.mo (fun r k w => by unfold PQ at w; unfold Pt; omega))
      have hmem : ∀ i ∈ wl Wn L.length ++ o, i < L.length := by
        intro i hi
        rw [List.mem_append] at hi
        rcases hi with w | w
        · exact (wl_mem.mp w).1
        · exact ((q4 i).mp ((p2.2 i).mp w)).1
      have hnd : (wl Wn L.length ++ o).Nodup := by
        rw [List.nodup_append]
        refine ⟨wl_nodup _, pw_nodup p2.1, ?_⟩
        intro a ha b hb e
        rw [wl_mem] at ha
        have := hCW b ((p2.2 b).mp hb)
        rw [e, this] at ha
        exact absurd ha.2 (by decide)
      have hlen := nodup_len hnd hmem
      have hms := mtext_sum (xs := (wl Wn L.length ++ o).map (Lg L)) hN (hM.pt fP) (by rw [List.length_map]; exact p3.1) p3.2.2.2 (by rw [List.length_map]; omega) (by
        intro y hy
        rw [List.mem_map] at hy
        obtain ⟨i, hi, rfl⟩ := hy
        exact hok _ (Lg_mem (hmem i hi)))
      rw [hms]
      apply ok_s
      refine ⟨o, p2, fP, p3, by rw [p4]; exact q37, by rw [p1.2 _ _ (by unfold PQ; omega)]; exact z7, ?_⟩
      have eT : ∀ k, TXT S3 (P + R) ((wl Wn L.length ++ o).map (Lg L)) k = TXT M (P + R) ((wl Wn L.length ++ o).map (Lg L)) k := by
        intro k
        induction k with
        | zero => rfl
        | succ k ih => unfold TXT; rw [ih, clM_pt fP]
      rw [eT, List.length_map]
    have h99 : ∀ u, u = lsum Z (wl Wn L.length) - 1 → ok (j_X11_tell_99 N (nI room) S (nI u)) fun x => ∃ o, isO W (Ff L) (CHf Z W Wn L.length room) o ∧ fr Pt M x.2 ∧ MTd W L (wl Wn L.length ++ o) x.2 ∧ x.2.1 0 37 = 1 ∧ x.2.1 0 2 = 0 ∧ x.1 = nI (TXT M (P + R) ((wl Wn L.length ++ o).map (Lg L)) (wl Wn L.length ++ o).length).length := by
      intro u hu
      unfold j_X11_tell_99
      rw [q_jp]
      by_cases e : room < u
      · rw [if_pos (by rw [q_lt (by omega) (by omega)]; exact e)]
        refine hsel (fun _ => false) S c4 c37 c5 (fun f hf => c6 f hf) ?_
        intro x
        unfold CHf
        rw [if_pos (by omega)]
        simp
      · rw [if_neg (by rw [q_lt (by omega) (by omega)]; exact e), q_sub (by omega)]
        refine ok_bd (mchoose_e hN (hH.go c4) hZ hl (show room - u ≤ 400 by omega)) ?_
        rintro S2 ⟨d1, d2, fl, d3, d4⟩
        refine hsel fl S2 (c4.tr d1) (by rw [d2 _ _ (by omega) (by omega)]; exact c37) (c5.go (d2 _ _ (by omega) (by omega)) (d2 _ _ (by omega) (by omega)) (fun r k a c => d2 _ _ (by omega) (by omega))) d3 ?_
        unfold CHf
        rw [if_neg (by omega), ← hu]
        exact d4
    unfold j_X11_tell_92
    rw [c3, q_jp]
    by_cases e : lsum Z (wl Wn L.length) = 0
    · rw [e, if_pos (show nI 0 ≤ 0 by decide)]
      exact h99 0 (by omega)
    · rw [if_neg (nI_nle (by omega) (by omega)), q_nm, sub1 (by omega)]
      exact h99 _ rfl
/-- a sign of the text at hand -/
theorem msign_e {xs : List F4} {k : Nat} (hN : 6000 ≤ N) (hM : MN P R B M) (h38 : M.1 0 38 = nI xs.length) (h37 : M.1 0 37 ≠ 0) (hA : AL 21 M xs) (hl : xs.length ≤ 432) (hok : ∀ x ∈ xs, okF P B x) (hk : k < 2147483648) :
    (∃ c, (TXT M (P + R) xs xs.length)[k]? = some c ∧ c < 128 ∧ f_X11_sign N (nI k) M = some (nI c, puI M 0 2 0)) ∨ ((TXT M (P + R) xs xs.length).length ≤ k ∧ f_X11_sign N (nI k) M = some (-1, puI M 0 2 0)) := by
  have f0 : fr Pt M (puI M 0 2 0) := fr.rf.pu (by unfold Pt; omega)
  have hM0 := hM.pt f0
  have g38 : (puI M 0 2 0).1 0 38 = nI xs.length := by rw [q_gK _ _ _ _ _ _ (by omega)]; exact h38
  have gA : AL 21 (puI M 0 2 0) xs := hA.go (fun r k a c _ => q_gR _ _ _ _ _ _ (by omega))
  have e37 : (puI M 0 2 0).1 0 37 ≠ 0 := by rw [q_gK _ _ _ _ _ _ (by omega)]; exact h37
  unfold f_X11_sign
  rw [q_nm, if_neg e37, if_pos (nI_pos' (by omega)), q_jp, q_jp]
  have hcl : ∀ x, clM (puI M 0 2 0) (P + R) x = clM M (P + R) x := fun x => clM_pt f0
  generalize puI M 0 2 0 = S at f0 hM0 g38 gA hcl ⊢
  have pre : ∀ (j d i c : Nat), (TXT M (P + R) xs j)[i]? = some c → (TXT M (P + R) xs (j + d))[i]? = some c := by
    intro j d i c h
    induction d with
    | zero => exact h
    | succ d ih =>
      show (TXT M (P + R) xs (j + d) ++ _)[i]? = some c
      rw [List.getElem?_append_left (List.getElem?_eq_some_iff.mp ih).1]
      exact ih
  have key : ∀ d N' t, d < N' → t + d = xs.length → (TXT M (P + R) xs t).length ≤ k →
      (∃ c, (TXT M (P + R) xs xs.length)[k]? = some c ∧ c < 128 ∧ lp (fun _ _ => none) (b_X11_sign_22 N S (j_X11_sign_80 N S)) N' (nI (k - (TXT M (P + R) xs t).length)) (nI t) = some (nI c, S)) ∨ ((TXT M (P + R) xs xs.length).length ≤ k ∧ lp (fun _ _ => none) (b_X11_sign_22 N S (j_X11_sign_80 N S)) N' (nI (k - (TXT M (P + R) xs t).length)) (nI t) = some (-1, S)) := by
    intro d
    induction d with
    | zero =>
      intro N' t hN' ht hlen
      obtain ⟨N', rfl⟩ : ∃ j, N' = j + 1 := ⟨N' - 1, by omega⟩
      have : t = xs.length := by omega
      subst this
      right
      refine ⟨hlen, ?_⟩
      rw [q_lp]
      unfold b_X11_sign_22
      rw [g38, if_pos (by rw [q_le (by omega) (by omega)]; omega)]
    | succ d ih =>
      intro N' t hN' ht hlen
      obtain ⟨N', rfl⟩ : ∃ j, N' = j + 1 := ⟨N' - 1, by omega⟩
      have ih' := ih N' (t + 1) (by omega) (by omega)
      rw [q_lp]
      generalize lp (fun _ _ => none) (b_X11_sign_22 N S (j_X11_sign_80 N S)) N' = K at ih' ⊢
      have ht2 : t < xs.length := by omega
      have hx := hok _ (Lg_mem ht2)
      obtain ⟨a1, a2, a3, a4⟩ := gA t _ (Lg_at ht2)
      have hn1 : xs.length = t + 1 + d := by omega
      have e2 : TXT M (P + R) xs (t + 1) = TXT M (P + R) xs t ++ ((if t = 0 then [] else [32]) ++ clM M (P + R) (Lg xs t)) := rfl
      have hclen := clM_len hM hx
      have hpc := pc_le (x := (Lg xs t).2.2.2) 6 (by omega) (Nat.lt_of_lt_of_le hx.2.2.2.2 (pw6 hM.2.2.1))
      have h44 : ∀ c, c = (if t = 0 then 0 else 1) → (TXT M (P + R) xs t).length + c ≤ k →
          (∃ x, (TXT M (P + R) xs xs.length)[k]? = some x ∧ x < 128 ∧ j_X11_sign_44 N S (j_X11_sign_80 N S) (nI t) K (nI (k - (TXT M (P + R) xs t).length - c)) = some (nI x, S)) ∨ ((TXT M (P + R) xs xs.length).length ≤ k ∧ j_X11_sign_44 N S (j_X11_sign_80 N S) (nI t) K (nI (k - (TXT M (P + R) xs t).length - c)) = some (-1, S)) := by
        intro c hc hle
        have hcl2 : (if t = 0 then [] else [32] : List Nat).length = c := by rw [hc]; split <;> rfl
        have hlen1 : (TXT M (P + R) xs (t + 1)).length = (TXT M (P + R) xs t).length + c + (clM M (P + R) (Lg xs t)).length := by
          rw [e2, List.length_append, List.length_append, hcl2]
          omega
        unfold j_X11_sign_44
        rw [q_ck (by omega) (by omega), q_ck (by omega) (by omega), q_ck (by omega) (by omega), q_ck (by omega) (by omega), q_tn (by omega), a1, a2, a3, a4, clauseSize_e hN hM0 hx, q_bd, hcl]
        by_cases c1 : (clM M (P + R) (Lg xs t)).length ≤ k - (TXT M (P + R) xs t).length - c
        · rw [if_pos (by rw [q_le (by omega) (by omega)]; exact c1), q_sub c1, q_nm, q_nm, ← nI_succ]
          have ih2 := ih' (by rw [hlen1]; omega)
          rw [hlen1] at ih2
          have e4 : k - ((TXT M (P + R) xs t).length + c + (clM M (P + R) (Lg xs t)).length) = k - (TXT M (P + R) xs t).length - c - (clM M (P + R) (Lg xs t)).length := by omega
          rw [e4] at ih2
          exact ih2
        · rw [if_neg (by rw [q_le (by omega) (by omega)]; exact c1)]
          left
          obtain ⟨x, x1, x2, x3⟩ := clauseSign_e (k := k - (TXT M (P + R) xs t).length - c) hN hM0 hx (by rw [hcl]; omega)
          rw [hcl] at x1
          refine ⟨x, ?_, x2, ?_⟩
          · rw [hn1]
            apply pre
            rw [e2, List.getElem?_append_right (by omega), List.getElem?_append_right (by rw [hcl2]; omega), hcl2]
            exact x1
          · unfold j_X11_sign_80
            rw [q_ck (by omega) (by omega), q_ck (by omega) (by omega), q_ck (by omega) (by omega), q_ck (by omega) (by omega), q_tn (by omega), a1, a2, a3, a4, x3, q_bd]
      unfold b_X11_sign_22
      rw [g38, if_neg (by rw [q_le (by omega) (by omega)]; omega), q_jp]
      by_cases e0 : t = 0
      · rw [if_pos (show nI t ≤ 0 by rw [e0]; decide)]
        have := h44 0 (by rw [if_pos e0]) (by omega)
        rw [Nat.sub_zero] at this
        exact this
      · rw [if_neg (nI_nle (by omega) (by omega))]
        have k0 : (nI (k - (TXT M (P + R) xs t).length) = 0) = (k - (TXT M (P + R) xs t).length = 0) := q_eq (b := 0) (by omega) (by omega)
        by_cases e1 : k - (TXT M (P + R) xs t).length = 0
        · rw [if_pos (k0 ▸ e1)]
          left
          refine ⟨32, ?_, by omega, rfl⟩
          rw [hn1]
          apply pre
          rw [e2, List.getElem?_append_right (by omega), e1, if_neg e0]
          rfl
        · rw [if_neg (fun w => e1 (k0 ▸ w)), q_nm, sub1 (by omega)]
          exact h44 1 (by rw [if_neg e0]) (by omega)
  have := key xs.length N 0 (by omega) (by omega) (Nat.zero_le _)
  exact this
end TB
