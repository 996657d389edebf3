/-! pure part: a line of rules in both -/
def PY (r k : Nat) : Prop := (r = 0 ∧ 23 ≤ k ∧ k ≤ 31) ∨ ((r = 3 ∨ r = 4) ∧ 12 ≤ k) ∨ (r = 2 ∧ 144 ≤ k) ∨ ((5 ≤ r ∧ r ≤ 9 ∨ r = 11) ∧ 24 ≤ k) ∨ (r = 10 ∧ 288 ≤ k)
theorem PX_PY {at_ bt : Nat} (h1 : 12 ≤ at_) (h2 : 24 ≤ bt) : ∀ r k, PX at_ bt r k → PY r k := by
  intro r k h
  unfold PX at h
  unfold PY
  omega
theorem PT_PY : ∀ r k, PT r k → PY r k := by
  intro r k h
  unfold PT at h
  unfold PY
  omega
theorem PT8_PX {at_ bt : Nat} : ∀ r k, PT8 r k → PX at_ bt r k := by
  intro r k h
  unfold PT8 at h
  unfold PX
  omega
def PYw (r k : Nat) : Prop := PY r k ∨ (r = 0 ∧ 16 ≤ k ∧ k ≤ 17)
theorem PY_PYw : ∀ r k, PY r k → PYw r k := fun _ _ h => Or.inl h
def PK (r k : Nat) : Prop := (r = 1 ∧ k = 2) ∨ (r = 3 ∧ k = 7) ∨ (38 ≤ r ∧ r ≤ 47)
def PKw (r k : Nat) : Prop := PK r k ∨ (r = 3 ∧ 5 ≤ k ∧ k ≤ 6)
def frKw (C C' : St) : Prop := (∀ r k, ¬ PKw r k → C'.1 r k = C.1 r k) ∧ ∀ r, (r < 38 ∨ 47 < r) → C'.2 r = C.2 r
theorem frKw.tr {A B C : St} (h : frKw A B) (h2 : frKw B C) : frKw A C := ⟨fun r k q => (h2.1 r k q).trans (h.1 r k q), fun r q => (h2.2 r q).trans (h.2 r q)⟩
def frK (C C' : St) : Prop := (∀ r k, ¬ PK r k → C'.1 r k = C.1 r k) ∧ ∀ r, (r < 38 ∨ 47 < r) → C'.2 r = C.2 r
theorem frK.tr {A B C : St} (h : frK A B) (h2 : frK B C) : frK A C := ⟨fun r k q => (h2.1 r k q).trans (h.1 r k q), fun r q => (h2.2 r q).trans (h.2 r q)⟩
theorem fr.K {C C' : St} (h : fr PF C C') : frK C C' := ⟨fun r k q => h.2 r k (fun w => q (by unfold PF at w; unfold PK; omega)), fun r _ => by rw [h.1]⟩
theorem frK.w {C C' : St} (h : frK C C') : frKw C C' := ⟨fun r k q => h.1 r k (fun w => q (Or.inl w)), h.2⟩
theorem fr.Kw {C C' : St} (h : fr PFF C C') : frKw C C' := ⟨fun r k q => h.2 r k (fun w => q (by unfold PFF at w; unfold PKw PK; omega)), fun r _ => by rw [h.1]⟩
theorem frK.rf {C : St} : frK C C := ⟨fun _ _ _ => rfl, fun _ _ => rfl⟩
theorem frK.pu {A B : St} {r k : Nat} {v : Int32} (h : frK A B) (hP : PK r k) : frK A (puI B r k v) := by
  refine ⟨fun r' k' q => ?_, h.2⟩
  rw [q_g, if_neg]
  · exact h.1 r' k' q
  · rintro ⟨rfl, rfl⟩
    exact q hP
theorem q_L (S : St) (r k r' k' : Nat) (v : Int64) : (puL S r k v).2 r' k' = if r' = r ∧ k' = k then v else S.2 r' k' := by
  unfold puL vp_updL
  by_cases h : r' = r
  · subst h
    by_cases h2 : k' = k <;> simp [h2]
  · simp [h]
theorem q_Lf (S : St) (r k r' : Nat) (v : Int64) (h : r' ≠ r) : (puL S r k v).2 r' = S.2 r' := by
  funext k'
  rw [q_L, if_neg (fun w => h w.1)]
theorem q_L1 (S : St) (r k : Nat) (v : Int64) : (puL S r k v).1 = S.1 := rfl
theorem frK.pl {A B : St} {r k : Nat} {v : Int64} (h : frK A B) (hP : 38 ≤ r ∧ r ≤ 47) : frK A (puL B r k v) := ⟨h.1, fun r' q => by rw [q_Lf _ _ _ _ _ (by omega)]; exact h.2 r' q⟩
theorem frK.cb {C C' : St} (h : frK C C') : ∀ k, C'.1 2 k = C.1 2 k := fun k => h.1 2 k (by unfold PK; omega)
/-- a line was read alike -/
def LOk (b : Nat → Nat) (n p : Nat) (C' M' : St) : Prop := ∃ p' P R B, p < p' ∧ Zc b n p' C' ∧ Zr P R B C' M' ∧ TkS b n (sk b n p') M'
def LBad (n : Nat) (C' M' : St) : Prop := C'.1 3 5 = M'.1 0 16 ∧ C'.1 3 5 ≠ 0 ∧ C'.1 3 6 = M'.1 0 17 ∧ ∃ q, tp C' q n
def LO (b : Nat → Nat) (n p : Nat) (C M C' M' : St) (r : Int32) : Prop := frKw C C' ∧ fr PYw M M' ∧ (r = 1 ∧ LOk b n p C' M' ∧ frK C C' ∧ fr PY M M' ∨ r = 0 ∧ LBad n C' M')
theorem LO_ok {b : Nat → Nat} {n p : Nat} {C M C' M' : St} (hK : frK C C') (hM : fr PY M M') (h : LOk b n p C' M') : LO b n p C M C' M' 1 := ⟨hK.w, hM.mo PY_PYw, Or.inl ⟨rfl, h, hK, hM⟩⟩
theorem wrongS_is (a pl : Int32) (M : St) : (wrongS a pl M).1 0 16 = a ∧ (wrongS a pl M).1 0 17 = pl := by
  unfold wrongS
  constructor <;> simp (disch := omega) only [q_nm, q_jp, q_bd, q_bd2, q_zb0, q_zb1, q_zbn0, q_zbn1, q_z10, q_z11, q_z1n0, q_z1n1, q_lit, q_add, q_mul, q_lt, q_le, q_eq, q_tn, q_ck, q_nm1, q_n1e, q_gS, q_gR, q_gK, q_g2, if_true, if_false]
/-- a faulted class beside a wronged reference -/
theorem LO_bad {b : Nat → Nat} {n p : Nat} {C M C1 C2 M2 : St} {k pl : Int32} (hk : k ≠ 0) (h0 : C1.1 3 5 = 0) (hK : frK C C1) (hF : FA n (failS k pl C1) C2) (hM : fr PY M M2) : LO b n p C M C2 (wrongS k pl M2) 0 := by
  obtain ⟨f1, f2⟩ := failS_is (pl := pl) h0 hk
  obtain ⟨w1, w2⟩ := wrongS_is k pl M2
  refine ⟨(hK.w.tr (failS_fr k pl C1).Kw).tr (hF.1.mo PF_PFF).Kw, (hM.mo PY_PYw).tr ((fr.rf.pu (by unfold PYw; omega)).pu (by unfold PYw; omega)), Or.inr ⟨rfl, ?_, ?_, ?_, hF.2⟩⟩
  · rw [w1, hF.1.2 3 5 (by unfold PF; omega)]; exact f1
  · rw [hF.1.2 3 5 (by unfold PF; omega), f1]; exact hk
  · rw [w2, hF.1.2 3 6 (by unfold PF; omega)]; exact f2
theorem FdX_of {b : Nat → Nat} {n p P R B : Nat} {C M C1 : St} {k pl : Int32} (hk : k ≠ 0) (hZ : Zc b n p C) (hr : Zr P R B C M) (h1 : FA n C C1) : FdX n (failS k pl C1) := by
  obtain ⟨q, hq⟩ := h1.2
  have h0 : C1.1 3 5 = 0 := by rw [h1.1.2 3 5 (by unfold PF; omega)]; exact hZ.2.2.2
  refine ⟨⟨q, failS_tp hq⟩, ?_, (hr.cnt.go (h1.1.mo PF_PFF)).go (failS_fr k pl C1), by rw [(failS_is h0 hk).1]; exact hk⟩
  unfold KW
  rw [(failS_fr k pl C1).1, h1.1.1]
  exact hZ.2.2.1
theorem Zc.z0 {b : Nat → Nat} {n p : Nat} {C C1 : St} (hZ : Zc b n p C) (h1 : FA n C C1) : C1.1 3 5 = 0 := by rw [h1.1.2 3 5 (by unfold PF; omega)]; exact hZ.2.2.2
theorem line68_0 {N : Nat} {S : St} : j_X11_line_68 N 0 S = some (0, S) := rfl
theorem addPlace_e {N P : Nat} {w : Int64} {C : St} (h : C.1 38 9 = nI P) (hP : P < 6) : f_X4_addPlace N 38 w C = some (puI (puL C 39 P w) 38 9 (nI (P + 1))) := by
  unfold f_X4_addPlace
  rw [h, if_neg (show ¬ (6 : Int32) ≤ nI P from nI_ge (b := 6) hP (by omega)), q_ck (by omega) (by omega), q_tn (by omega)]
  simp only [q_nm, q_L1]
  rw [h, nI_succ]
theorem place_l {N : Nat} {b : Nat → Nat} {n q0 e0 P R B : Nat} {C M : St} (hN : 6000 ≤ N) (hb : ∀ k, k < 1000 → b k < 256) (hZ : Zc b n e0 C) (hM : mB b n M) (hT : TkS b n q0 M) (hE : tkE b n q0 = e0) (hr : Zr P R B C M) :
    ok (f_X5_readPlace N (nI q0) C) fun C' => ok (bd2 (f_X11_placeLine N M) (j_X11_line_68 N)) fun r => LO b n e0 C M C' r.2 r.1 := by
  have hn := hM.2.2.1
  have hP6 := hr.1.2.2.1
  have hen := hZ.1.2.2.1
  obtain ⟨t0, t26, t24, t25, t23, t27⟩ := hT
  unfold f_X5_readPlace f_X11_placeLine
  rw [q_jp, hr.1.1, hr.2.2.1]
  by_cases h6 : P = 6
  · subst h6
    rw [if_neg (by decide), if_pos (by decide), fail_e, q_bd, wrong_e, q_bd2]
    have hF := FdX_of (k := 2) (pl := nI q0) (by decide) hZ hr ⟨fr.rf, _, hZ.1⟩
    refine ok_m (place15_fa hN hF) ?_
    intro C' hC'
    have e1 : bd2 (zb (some (0, wrongS 2 (M.1 0 26) M))) (j_X11_line_68 N) = some (0, wrongS 2 (M.1 0 26) M) := rfl
    rw [e1, t26]
    exact ok_s (LO_bad (by decide) hZ.2.2.2 frK.rf hC' fr.rf)
  · have h6' : P < 6 := by omega
    have c6 : (nI P < 6) = (P < 6) := q_lt (b := 6) (by omega) (by omega)
    have d6 : (nI P = 6) = (P = 6) := q_eq (b := 6) (by omega) (by omega)
    rw [if_pos (c6 ▸ h6'), if_neg (fun w => h6 (d6 ▸ w))]
    unfold j_X5_readPlace_15
    -- the reference takes
    obtain ⟨M1, hM1, hT1, hf1⟩ := mtake hN hM (p := e0) hen (by rw [t23, hE])
    rw [hM1, q_bd]
    have hT1' : TkS b n (sk b n e0) M1 := hT1
    have hB1 := hM.pt hf1
    have hr1 : Zr P R B C M1 := hr.go (at_ := 1000) (bt := 1000) fr.rf (hf1.mo PT_PX) (fun i hi => by omega) (fun i hi => by have := hr.1.2.2.2.1; omega) (fun i hi => by have := hr.2.1.2.1; omega)
    have e12 : (12 : Int32) + nI P = nI (12 + P) := q_add 12 P
    rw [hr1.2.2.1, e12]
    rcases newName_l hN hZ hB1 hT1' hr1 (at_ := 12 + P) (by omega) with ⟨w, e, g1, g2, g3, g4, g5, g6⟩ | ⟨k, w, e, g1, g2, g3, g4⟩
    · rw [g3, q_bd2]
      obtain ⟨⟨v, M2⟩, hM2, hv, hT2, hf2, hWN⟩ := g6
      have hv' : v = 1 := hv
      subst hv'
      have hB2 := hB1.px hf2
      have hfa1 : FA n C (fwS C (sk b n e0) e) := fa_fw hZ.1 (by omega) g2
      have hZ2 : Zc b n e (fwS C (sk b n e0) e) := hZ.go hfa1.1 (fwS_tp hZ.1 (by omega) g2)
      have hr2 : Zr P R B (fwS C (sk b n e0) e) M2 := hr1.go (at_ := 12 + P) (bt := 1000) hfa1.1 hf2 (fun i hi => by omega) (fun i hi => by omega) (fun i hi => by have := hr.2.1.2.1; omega)
      -- the reference's new place
      have hM3 : bd2 (zb (bd2 (f_X11_newName N (nI (12 + P)) M1) fun v3 S4 => if v3 = 0 then some (0, S4) else ck (12 + S4.1 0 29) 24 <| nm (puI S4 4 (12 + S4.1 0 29).toNatClampNeg (1 <<< (S4.1 0 29 &&& 31))) fun S7 => nm (puI S7 0 29 (S7.1 0 29 + 1)) fun S8 => some (1, S8))) (j_X11_line_68 N) = j_X11_line_68 N 1 (puI (puI M2 4 (12 + P) (nI (2 ^ P))) 0 29 (nI (P + 1))) := by
        rw [hM2, q_bd2, if_neg (by decide), hr2.2.2.1, e12, q_ck (by omega) (by omega), q_tn (by omega), q_shl P (by omega), q_nm, q_nm]
        have : (puI M2 4 (12 + P) (nI (2 ^ P))).1 0 29 = nI P := by simp (disch := omega) only [q_nm, q_jp, q_bd, q_bd2, q_zb0, q_zb1, q_zbn0, q_zbn1, q_z10, q_z11, q_z1n0, q_z1n1, q_lit, q_add, q_mul, q_lt, q_le, q_eq, q_tn, q_ck, q_nm1, q_n1e, q_gS, q_gR, q_gK, q_g2, if_true, if_false, hr2.2.2.1]
        rw [this, ← nI_succ]
        rfl
      rw [hM3]
      have hfM : fr (PX (12 + P) 1000) M2 (puI M2 4 (12 + P) (nI (2 ^ P))) := fr.rf.pu (by unfold PX; omega)
      generalize hM4 : puI (puI M2 4 (12 + P) (nI (2 ^ P))) 0 29 (nI (P + 1)) = M4
      have hPY : fr PY M M4 := by
        rw [← hM4]
        exact (((hf1.mo PT_PY).tr (hf2.mo (PX_PY (by omega) (by omega)))).tr (hfM.mo (PX_PY (by omega) (by omega)))).pu (by unfold PY; omega)
      have m4 : ∀ r k, ¬ (r = 4 ∧ k = 12 + P) → ¬ (r = 0 ∧ k = 29) → M4.1 r k = M2.1 r k := by
        intro r k a1 a2
        rw [← hM4, q_g, if_neg a2, q_g, if_neg a1]
      have m44 : M4.1 4 (12 + P) = nI (2 ^ P) := by rw [← hM4]; simp (disch := omega) only [q_nm, q_jp, q_bd, q_bd2, q_zb0, q_zb1, q_zbn0, q_zbn1, q_z10, q_z11, q_z1n0, q_z1n1, q_lit, q_add, q_mul, q_lt, q_le, q_eq, q_tn, q_ck, q_nm1, q_n1e, q_gS, q_gR, q_gK, q_g2, if_true, if_false]
      have m429 : M4.1 0 29 = nI (P + 1) := by rw [← hM4]; simp (disch := omega) only [q_nm, q_jp, q_bd, q_bd2, q_zb0, q_zb1, q_zbn0, q_zbn1, q_z10, q_z11, q_z1n0, q_z1n1, q_lit, q_add, q_mul, q_lt, q_le, q_eq, q_tn, q_ck, q_nm1, q_n1e, q_gS, q_gR, q_gK, q_g2, if_true, if_false]
      have hB4 : mB b n M4 := ⟨fun k hk => by rw [m4 1 k (by omega) (by omega)]; exact hB2.1 k hk, by rw [m4 0 22 (by omega) (by omega)]; exact hB2.2.1, hn, fun k hk => by rw [m4 15 k (by omega) (by omega)]; exact hB2.2.2.2 k hk⟩
      have hT4 : TkS b n (sk b n e) M4 := by
        unfold TkS
        rw [m4 0 26 (by omega) (by omega), m4 0 24 (by omega) (by omega), m4 0 25 (by omega) (by omega), m4 0 23 (by omega) (by omega), m4 0 27 (by omega) (by omega)]
        exact hT2
      unfold j_X11_line_68
      rw [if_neg (by decide)]
      have hneed := need_l (c := 59) hN (by omega) hb hZ2 hB4 hT4
      have h59 : f_X11_need N 59 M4 = f_X11_need N (nI 59) M4 := rfl
      have h59' : f_X5_readSign N 59 (fwS C (sk b n e0) e) = f_X5_readSign N (nI 59) (fwS C (sk b n e0) e) := rfl
      rw [h59, h59']
      by_cases hs : sk b n e < n ∧ b (sk b n e) = 59
      · obtain ⟨s1, s2⟩ := hneed.1 hs
        obtain ⟨⟨v5, M5⟩, hM5, hv5, hT5, hf5⟩ := s2
        have hv5' : v5 = 1 := hv5
        subst hv5'
        rw [s1, q_bd, hM5, q_bd2, if_neg (show ¬ (1 : Int32) = 0 by decide)]
        have hC3 : (cat (fwS C (sk b n e0) e) (sk b n e + 1)).1 3 5 = 0 := by rw [cat_o _ _ _ _ (by omega)]; exact hZ2.2.2.2
        have hC9 : (cat (fwS C (sk b n e0) e) (sk b n e + 1)).1 38 9 = nI P := by rw [cat_o _ _ _ _ (by omega)]; exact hr2.1.1
        rw [if_pos hC3, addPlace_e hC9 h6', q_bd]
        have hge := sk_ge b n e
        have hge0 := sk_ge b n e0
        have hfa2 := fa_cat hZ2.1 (q := sk b n e + 1) (by omega)
        have hZ3 : Zc b n (sk b n e + 1) (cat (fwS C (sk b n e0) e) (sk b n e + 1)) := hZ2.go hfa2.1 (hZ2.1.cat (by omega))
        generalize hC4 : cat (fwS C (sk b n e0) e) (sk b n e + 1) = C4 at hC3 hC9 hfa2 hZ3
        apply ok_s
        apply ok_s
        have hfr5 : ∀ r k, ¬ (r = 4 ∧ k = 12 + P) → ¬ (r = 0 ∧ k = 29) → ¬ PT r k → M5.1 r k = M2.1 r k := by
          intro r k a1 a2 a3
          rw [hf5.2 r k a3, m4 r k a1 a2]
        have c1 : ∀ r k, ¬ (r = 38 ∧ k = 9) → (puI (puL C4 39 P w) 38 9 (nI (P + 1))).1 r k = C4.1 r k := by
          intro r k a
          rw [q_g, if_neg a, q_L1]
        have c2 : ∀ r k, ¬ (r = 39 ∧ k = P) → (puI (puL C4 39 P w) 38 9 (nI (P + 1))).2 r k = C4.2 r k := by
          intro r k a
          rw [q_g2, q_L, if_neg a]
        have cf : fr PF C C4 := (hfa1.tr hfa2).1
        refine LO_ok ?_ (hPY.tr (hf5.mo PT_PY)) ⟨sk b n e + 1, P + 1, R, B, by omega, ?_, ?_, hT5⟩
        · exact ((cf).K.pl (by omega)).pu (by unfold PK; omega)
        · obtain ⟨⟨a1, a2, a3, a4⟩, a5, a6, a7⟩ := hZ3
          refine ⟨⟨by rw [c1 1 2 (by omega)]; exact a1, by rw [c1 1 3 (by omega)]; exact a2, a3, a4⟩, ?_, ?_, by rw [c1 3 5 (by omega)]; exact a7⟩
          · rw [← a5]
            funext k
            unfold cb
            rw [c1 2 k (by omega)]
          · unfold KW
            rw [c2 3 0 (by omega), c2 3 1 (by omega), c2 3 2 (by omega), c2 3 3 (by omega), c2 3 4 (by omega)]
            exact a6
        · have hC4f : ∀ r k, 38 ≤ r → C4.1 r k = C.1 r k := fun r k hr => cf.2 r k (by unfold PF; omega)
          obtain ⟨⟨a1, a2, a3, a4, a5, a6, a7⟩, a8, a9, a10, a11⟩ := hr2
          have f2 : (fwS C (sk b n e0) e).2 = C.2 := hfa1.1.1
          have c42 : C4.2 = C.2 := cf.1
          refine ⟨⟨by rw [q_gS], ?_, by omega, a4, ?_, ?_, ?_⟩, ?_, ?_, ?_, ?_⟩
          · rw [c1 38 10 (by omega), hC4f 38 10 (by omega)]; exact hr.1.2.1
          · intro i hi
            by_cases hiP : i = P
            · subst hiP
              rw [q_g2, q_L, if_pos ⟨rfl, rfl⟩]
              refine ⟨?_, ?_⟩
              · refine hWN.cg (hfr5 3 _ (by omega) (by omega) (by unfold PT; omega)) (fun k hk => hfr5 2 _ (by omega) (by omega) (by unfold PT; omega))
              · rw [hf5.2 4 _ (by unfold PT; omega)]; exact m44
            · rw [c2 39 i (by omega), c42, ← f2]
              obtain ⟨b1, b2⟩ := a5 i (by omega)
              refine ⟨b1.cg (hfr5 3 _ (by omega) (by omega) (by unfold PT; omega)) (fun k hk => hfr5 2 _ (by omega) (by omega) (by unfold PT; omega)), ?_⟩
              rw [hfr5 4 _ (by omega) (by omega) (by unfold PT; omega)]; exact b2
          · intro i hi
            obtain ⟨b1, m, b2, b3, b4, b5⟩ := a6 i hi
            rw [c2 40 i (by omega), c42, ← f2]
            refine ⟨b1.cg (hfr5 3 _ (by omega) (by omega) (by unfold PT; omega)) (fun k hk => hfr5 2 _ (by omega) (by omega) (by unfold PT; omega)), m, b2, Nat.lt_of_lt_of_le b3 (Nat.pow_le_pow_right (by decide) (by omega)), ?_, ?_⟩
            · rw [c1 41 i (by omega), ← b4, hC4f 41 i (by omega), hfa1.1.2 41 i (by unfold PF; omega)]
            · rw [hfr5 4 _ (by omega) (by omega) (by unfold PT; omega)]; exact b5
          · intro i j hi hj
            rw [c2 40 j (by omega), c42]
            by_cases hiP : i = P
            · subst hiP
              rw [q_g2, q_L, if_pos ⟨rfl, rfl⟩]
              exact fun w' => g5 j hj w'.symm
            · rw [c2 39 i (by omega), c42]
              exact hr.1.2.2.2.2.2.2 i j (by omega) hj
          · refine a8.go ?_ ?_ ?_ ?_ ?_
            · rw [c1 38 11 (by omega), hC4f 38 11 (by omega), hfa1.1.2 38 11 (by unfold PF; omega)]
            · intro i hi
              rw [c2 _ _ (by omega), c42, f2]
            · intro r i r1 r2 hi
              rw [c1 _ _ (by omega), hC4f _ _ (by omega), hfa1.1.2 _ _ (by unfold PF; omega)]
            · intro r i r1 hi
              exact hfr5 _ _ (by omega) (by omega) (by unfold PT; omega)
            · intro i k hi hk
              exact hfr5 _ _ (by omega) (by omega) (by unfold PT; omega)
          · rw [hf5.2 0 29 (by unfold PT; omega)]; exact m429
          · rw [hfr5 0 30 (by omega) (by omega) (by unfold PT; omega)]; exact a10
          · rw [hfr5 0 31 (by omega) (by omega) (by unfold PT; omega)]; exact a11
      · obtain ⟨s1, s2⟩ := hneed.2 hs
        rw [s1, q_bd, s2, q_bd2, if_pos rfl]
        have hfa2 := fa_cat hZ2.1 (q := sk b n e) (sk_le g2)
        have h0 := hZ2.z0 hfa2
        rw [if_neg (by rw [(failS_is h0 (by decide)).1]; decide)]
        apply ok_s
        apply ok_s
        exact LO_bad (by decide) h0 (((hfa1.tr hfa2).1).K) ⟨fr.rf, sk b n e, failS_tp (hZ2.1.cat (sk_le g2))⟩ hPY
    · rw [g3, q_bd2, g4, q_bd2, if_pos rfl]
      have hk0 : k ≠ 0 := by rcases g1 with rfl | rfl <;> decide
      have hfa1 : FA n C (fwS C (sk b n e0) e) := fa_fw hZ.1 (sk_le hen) g2
      have hF := FdX_of (k := k) (pl := nI (sk b n e0)) hk0 hZ hr hfa1
      refine ok_bd (readSign_fa (c := 59) hN (by omega) hF) ?_
      intro C2 h2
      rw [if_neg (hF.go h2).2.2.2]
      apply ok_s
      have e1 : bd2 (zb (some (0, wrongS k (nI (sk b n e0)) M1))) (j_X11_line_68 N) = some (0, wrongS k (nI (sk b n e0)) M1) := rfl
      rw [e1]
      exact ok_s (LO_bad hk0 (hZ.z0 hfa1) ((hfa1.1).K) h2 (hf1.mo PT_PY))
