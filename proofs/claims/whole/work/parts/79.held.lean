/-! pure part: held -/
section HLD
variable {N P R B : Nat} {C M : St}
def opS (C : St) (x : Int32) : St := puI (puI (puI C 1 2 0) 1 3 x) 1 1 0
theorem open_y {n L : Nat} (h1 : C.1 1 1 = nI L) (hL : L ≤ 1000) (hn : n ≤ L) : f_X8_open N (nI n) C = some (1, opS C (nI n)) := by
  unfold f_X8_open
  rw [if_neg (nI_pos (by omega)), h1, if_pos (by rw [q_le (by omega) (by omega)]; exact hn)]
  rfl
theorem open_n {x : Int32} {L : Nat} (h1 : C.1 1 1 = nI L) (hx : x < 0 ∨ ¬ x ≤ nI L) : f_X8_open N x C = some (0, C) := by
  unfold f_X8_open
  rw [h1]
  rcases hx with w | w
  · rw [if_pos w]; rfl
  · by_cases e : x < 0
    · rw [if_pos e]; rfl
    · rw [if_neg e, if_neg w]; rfl
theorem opS_tp {n : Nat} (hn : n ≤ 1000) : tp (opS C (nI n)) 0 n := by
  refine ⟨?_, ?_, by omega, hn⟩
  · unfold opS
    rw [q_gK _ _ _ _ _ _ (by omega), q_gK _ _ _ _ _ _ (by omega), q_gS]
    rfl
  · unfold opS
    rw [q_gK _ _ _ _ _ _ (by omega), q_gS]
theorem opS_fr {x : Int32} : fr (fun r k => r = 1 ∧ 1 ≤ k ∧ k ≤ 3) C (opS C x) := ((fr.rf.pu (by omega)).pu (by omega)).pu (by omega)
theorem R_held {x : Int32} (hN : 6000 ≤ N) (h : RelP P R B C M) : ∃ r C' M', f_X10_held N x C = some (r, C') ∧ f_X11_held N x M = some (r, M') ∧ RelP P R B C' M' ∧ ph C ≤ ph C' := by
  obtain ⟨L, l1, l2, l3⟩ := h.1.1
  have hby := h.1.2
  have h2 := h.m2 0
  have g1 : (puI M 0 2 0).1 0 1 = nI L := by rw [q_gK _ _ _ _ _ _ (by omega)]; exact l3
  unfold f_X10_held f_X11_held
  rw [q_nm]
  by_cases e0 : x < 0
  · rw [open_n l2 (Or.inl e0), q_bd2, if_pos e0, if_pos rfl]
    exact ⟨_, C, _, rfl, rfl, h2, Nat.le_refl _⟩
  · rw [if_neg e0, g1]
    by_cases e1 : x ≤ nI L
    · obtain ⟨n, hn, rfl⟩ := q_of e0
      rw [q_le (by omega) (by omega)] at e1
      rw [open_y l2 l1 e1, q_bd2, if_neg (show ¬ (1 : Int32) = 0 by decide), if_pos (show nI n ≤ nI L by rw [q_le (by omega) (by omega)]; exact e1)]
      simp only [q_nm]
      have ht := opS_tp (C := C) (n := n) (by omega)
      have hf := opS_fr (C := C) (x := nI n)
      have hC11 : (opS C (nI n)).1 1 1 = nI 0 := by unfold opS; rw [q_gS]; rfl
      generalize opS C (nI n) = C1 at ht hf hC11
      have hcb : cb C1 = cb C := by
        funext k
        unfold cb
        rw [hf.2 2 k (by omega)]
      generalize hM1 : puI (puI (puI (puI M 0 2 0) 0 22 (nI n)) 0 1 0) 0 47 0 = M1
      have fM : fr (fun r k => r = 0 ∧ (k = 1 ∨ k = 2 ∨ k = 22 ∨ k = 47)) M M1 := by
        rw [← hM1]
        exact (((fr.rf.pu (by omega)).pu (by omega)).pu (by omega)).pu (by omega)
      have m47 : M1.1 0 47 = nI 0 := by rw [← hM1, q_gS]; rfl
      have m1 : M1.1 0 1 = 0 := by rw [← hM1, q_gK _ _ _ _ _ _ (by omega), q_gS]
      have m22 : M1.1 0 22 = nI n := by rw [← hM1, q_gK _ _ _ _ _ _ (by omega), q_gK _ _ _ _ _ _ (by omega), q_gS]
      have hB : mB (cb C) n M1 := ⟨fun k hk => ⟨(fM.2 _ _ (by omega)).trans (hby k hk), (cb_e C k).2⟩, m22, by omega, fun k hk => (fM.2 _ _ (by omega)).trans (h.2.1.2.2 k hk)⟩
      obtain ⟨M2, b1, b2, b3, b4⟩ := blanks_e hN hB (p := 0) (by omega) m47
      have hbl := bk_le (b := cb C) (n := n) (p := 0) (by omega)
      rw [skip32 hN ht, q_bd, b1, q_bd, q_jp, q_jp, hcb]
      have fM2 : fr (fun r k => r = 0 ∧ (k = 1 ∨ k = 2 ∨ k = 22 ∨ 47 ≤ k ∧ k ≤ 49)) M M2 := (fM.mo (fun r k w => by omega)).tr (b2.mo (fun r k w => by unfold PH at w; omega))
      have hHS : HS P R B (cb C) n (bk (cb C) n 0) (cat C1 (bk (cb C) n 0)) M2 := by
        refine ⟨ht.cat hbl, ?_, hB.ph b2, b3, ?_, ?_⟩
        · refine Eq.trans ?_ hcb
          funext k
          show ((cat C1 (bk (cb C) n 0)).1 2 k &&& 255).toNatClampNeg = (C1.1 2 k &&& 255).toNatClampNeg
          rw [(cat_frH C1 (bk (cb C) n 0)).2 2 k (by unfold PHc; omega)]
        · exact h.2.2.2.1.go (fun r k a c => by rw [(cat_frH C1 _).2 _ _ (by unfold PHc; omega), hf.2 _ _ (by omega)]) (fun r k a c => by rw [(cat_frH C1 _).1, hf.1]) (fun r k a c => fM2.2 _ _ (by omega)) (fM2.2 _ _ (by omega)) (fM2.2 _ _ (by omega)) (fM2.2 _ _ (by omega))
        · rw [(cat_frH C1 _).1, hf.1]
          exact h.2.1.2.1
      obtain ⟨v, C', M', z1, z2, z3, z4⟩ := held_loop hN 2000 (bk (cb C) n 0) 0 N N _ _ (by omega) (by omega) (by omega) (by omega) (bk_idem (by omega)) hHS (fun k hk => by
        rw [(cat_frH C1 _).2 _ _ (by unfold PHc; omega), hf.2 _ _ (by omega), fM2.2 _ _ (by omega)]
        exact (h.2.2.2.2.2.1.1 k hk).1)
      have ff : fr PHc C1 C' := (cat_frH C1 _).tr z3
      have gg : fr (fun r k => r = 0 ∧ (k = 1 ∨ k = 2 ∨ k = 22 ∨ 47 ≤ k ∧ k ≤ 49)) M M' := fM2.tr (z4.mo (fun r k w => by unfold PH at w; omega))
      have t1 : C'.1 1 1 = nI 0 := by
        rw [ff.2 _ _ (by unfold PHc; omega)]
        exact hC11
      have t2 : M'.1 0 1 = nI 0 := by
        rw [z4.2 _ _ (by unfold PH; omega), b2.2 _ _ (by unfold PH; omega)]
        exact m1
      refine ⟨v, C', M', z1, z2, h.tape ?_ ?_ ?_ ⟨⟨0, by omega, t1, t2⟩, ?_⟩, ph_k (by rw [ff.2 _ _ (by unfold PHc; omega), hf.2 _ _ (by omega)]) (by rw [ff.2 _ _ (by unfold PHc; omega), hf.2 _ _ (by omega)])⟩
      · intro r k x1 x2 x3
        unfold FCf at x1
        rw [ff.2 _ _ (by unfold PHc; omega), hf.2 _ _ (by omega)]
      · rw [ff.1, hf.1]
      · exact gg.mo (fun r k w => by unfold FMf; omega)
      · intro k hk
        rw [gg.2 _ _ (by omega), hby k hk]
        unfold cb
        rw [ff.2 _ _ (by unfold PHc; omega), hf.2 _ _ (by omega)]
    · rw [open_n l2 (Or.inr e1), q_bd2, if_pos rfl, if_neg e1]
      exact ⟨_, C, _, rfl, rfl, h2, Nat.le_refl _⟩
end HLD
