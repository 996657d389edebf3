/-! pure part: a text that is held -/
def PH (r k : Nat) : Prop := r = 0 ∧ 47 ≤ k ∧ k ≤ 49
def PHc (r k : Nat) : Prop := (r = 1 ∧ k = 2) ∨ (r = 4 ∧ 1 ≤ k ∧ k ≤ 4)
def RR (P R B : Nat) (C M : St) : Prop := RN 28 0 P P R C M ∧ RB 28 0 B C M ∧ M.1 0 3 = nI P ∧ M.1 0 4 = nI R ∧ M.1 0 8 = nI B
theorem RR.go {P R B : Nat} {C M C' M' : St} (h : RR P R B C M) (hc : ∀ r k, 28 ≤ r → r ≤ 37 → C'.1 r k = C.1 r k) (hl : ∀ r k, 28 ≤ r → r ≤ 37 → C'.2 r k = C.2 r k) (hm : ∀ r k, 2 ≤ r → r ≤ 11 → M'.1 r k = M.1 r k) (h3 : M'.1 0 3 = M.1 0 3) (h4 : M'.1 0 4 = M.1 0 4) (h8 : M'.1 0 8 = M.1 0 8) : RR P R B C' M' := by
  obtain ⟨h1, h2, x3, x4, x8⟩ := h
  refine ⟨h1.go (hc _ _ (by omega) (by omega)) (hc _ _ (by omega) (by omega)) (fun i _ => hl _ _ (by omega) (by omega)) (fun i _ => hl _ _ (by omega) (by omega)) (fun i _ => hc _ _ (by omega) (by omega)) (fun i _ => ⟨hm _ _ (by omega) (by omega), hm _ _ (by omega) (by omega), fun k _ => hm _ _ (by omega) (by omega)⟩) (fun i _ => ⟨hm _ _ (by omega) (by omega), hm _ _ (by omega) (by omega), fun k _ => hm _ _ (by omega) (by omega)⟩), h2.go (hc _ _ (by omega) (by omega)) (fun i _ => hl _ _ (by omega) (by omega)) (fun r i _ _ _ => hc _ _ (by omega) (by omega)) (fun r i _ _ => hm _ _ (by omega) (by omega)) (fun i k _ _ => hm _ _ (by omega) (by omega)), h3.trans x3, h4.trans x4, h8.trans x8⟩
def HS (P R B : Nat) (b : Nat → Nat) (n p : Nat) (C M : St) : Prop := tp C p n ∧ cb C = b ∧ mB b n M ∧ M.1 0 47 = nI p ∧ RR P R B C M ∧ C.2 4 0 = lN (enc Wd 23 3)
theorem HS.go {P R B : Nat} {b : Nat → Nat} {n p p' : Nat} {C M C' M' : St} (h : HS P R B b n p C M) (hC : fr PHc C C') (hM : fr PH M M') (ht : tp C' p' n) (h47 : M'.1 0 47 = nI p') : HS P R B b n p' C' M' := by
  obtain ⟨h1, h2, h3, h4, h5, h6⟩ := h
  refine ⟨ht, ?_, h3.go hM (fun k q => by unfold PH at q; omega) (fun q => by unfold PH at q; omega) (fun k q => by unfold PH at q; omega), h47, ?_, by rw [hC.1]; exact h6⟩
  · rw [← h2]
    funext k
    unfold cb
    rw [hC.2 2 k (by unfold PHc; omega)]
  · exact h5.go (fun r k a c => hC.2 _ _ (by unfold PHc; omega)) (fun r k a c => by rw [hC.1]) (fun r k a c => hM.2 _ _ (by unfold PH; omega)) (hM.2 _ _ (by unfold PH; omega)) (hM.2 _ _ (by unfold PH; omega)) (hM.2 _ _ (by unfold PH; omega))
def bk (b : Nat → Nat) (n p : Nat) : Nat := scan (skP b 32) (n - p) p
theorem bk_ge (b : Nat → Nat) (n p : Nat) : p ≤ bk b n p := scan_ge _ _ _
theorem bk_le {b : Nat → Nat} {n p : Nat} (h : p ≤ n) : bk b n p ≤ n := by have := scan_le (skP b 32) (n - p) p; unfold bk; omega
theorem cat_frH (C : St) (q : Nat) : fr PHc C (cat C q) := fr.rf.pu (Or.inl ⟨rfl, rfl⟩)
section HD
variable {N P R B : Nat} {b : Nat → Nat} {n p : Nat} {C M : St}
theorem skip32 (hN : 6000 ≤ N) (h : tp C p n) : f_X8_skip N 32 C = some (cat C (bk (cb C) n p)) := skip_e (c := 32) hN (by omega) h
theorem see_e (hM : mB b n M) (hp : p ≤ n) (h47 : M.1 0 47 = nI p) : f_X11_see N M = some (if p < n then nI (b p) else -1) := by
  have hn := hM.2.2.1
  unfold f_X11_see
  rw [hM.2.1, h47]
  by_cases h : p < n
  · rw [if_neg (by rw [q_le (by omega) (by omega)]; omega), q_ck (by omega) (by omega), q_tn (by omega), (hM.1 p (by omega)).1, if_pos h]
  · rw [if_pos (by rw [q_le (by omega) (by omega)]; omega), if_neg h]
theorem mB.ph {M' : St} (h : mB b n M) (hf : fr PH M M') : mB b n M' := h.go hf (fun k q => by unfold PH at q; omega) (fun q => by unfold PH at q; omega) (fun k q => by unfold PH at q; omega)
theorem blanks_e (hN : 6000 ≤ N) (hM : mB b n M) (hp : p ≤ n) (h47 : M.1 0 47 = nI p) : ok (f_X11_blanks N M) fun M' => fr PH M M' ∧ M'.1 0 47 = nI (bk b n p) ∧ (∀ k, k ≠ 47 → M'.1 0 k = M.1 0 k) := by
  have hn := hM.2.2.1
  unfold f_X11_blanks
  rw [q_jp]
  refine ok_l1 (fun m S => ∃ q, fr PH M S ∧ S.1 0 47 = nI q ∧ (∀ k, k ≠ 47 → S.1 0 k = M.1 0 k) ∧ q ≤ n ∧ n - q = m ∧ scan (skP b 32) (n - q) q = bk b n p) ?_ N (n - p) M (by omega) ⟨p, fr.rf, h47, fun _ _ => rfl, hp, rfl, rfl⟩
  rintro K m S ⟨q, g1, g2, g3, g4, g5, g6⟩ hK
  unfold b_X11_blanks_0
  rw [see_e (hM.ph g1) g4 g2, q_bd]
  by_cases hq : q < n
  · have hb := (hM.1 q (by omega)).2
    rw [scan_st hq] at g6
    have c32 : (nI (b q) = 32) = (b q = 32) := q_eq (b := 32) (by omega) (by omega)
    rw [if_pos hq]
    by_cases e : b q = 32
    · rw [if_pos (c32 ▸ e), g2, q_nm, ← nI_succ]
      rw [if_pos (by unfold skP; rw [decide_eq_true_eq]; exact Or.inl e)] at g6
      refine hK _ _ ?_ ⟨q + 1, g1.pu (by unfold PH; omega), q_gS _ _ _ _, fun k hk => by rw [q_gK _ _ _ _ _ _ hk]; exact g3 k hk, by omega, rfl, g6⟩
      omega
    · rw [if_neg (fun w => e (c32 ▸ w))]
      rw [if_neg (by unfold skP; rw [decide_eq_true_eq]; omega)] at g6
      exact ok_s ⟨g1, by rw [← g6]; exact g2, g3⟩
  · rw [if_neg hq, if_neg (by decide)]
    rw [scan_z (by omega)] at g6
    exact ok_s ⟨g1, by rw [← g6]; exact g2, g3⟩
/-- the reference's word -/
theorem word_e (hN : 6000 ≤ N) (hM : mB b n M) (hp : p ≤ n) (h47 : M.1 0 47 = nI p) : ok (f_X11_word N M) fun r => r.1 = (if bk b n p < wE b n (bk b n p) then 1 else 0) ∧ fr PH M r.2 ∧ r.2.1 0 47 = nI (wE b n (bk b n p)) ∧ r.2.1 0 48 = nI (bk b n p) := by
  have hn := hM.2.2.1
  have hb := bk_le (b := b) hp
  unfold f_X11_word
  apply ok_zb
  refine ok_bd (blanks_e hN hM hp h47) ?_
  rintro S1 ⟨f1, f2, f3⟩
  rw [q_nm, q_jp, q_jp, f2]
  refine ok_l1 (fun m S => ∃ q, fr PH M S ∧ S.1 0 47 = nI q ∧ S.1 0 48 = nI (bk b n p) ∧ bk b n p ≤ q ∧ q ≤ n ∧ n - q = m ∧ scan (letP b) (n - q) q = wE b n (bk b n p)) ?_ N (n - bk b n p) _ (by omega) ⟨bk b n p, f1.pu (by unfold PH; omega), by rw [q_gK _ _ _ _ _ _ (by omega)]; exact f2, q_gS _ _ _ _, Nat.le_refl _, hb, rfl, rfl⟩
  rintro K m S ⟨q, g1, g2, g3, g4, g5, g6, g7⟩ hK
  have fin : wE b n (bk b n p) = q → ok (j_X11_word_36 S) fun r => (r.1 = 0 ∨ r.1 = 1) ∧ r.1 = (if bk b n p < wE b n (bk b n p) then 1 else 0) ∧ fr PH M r.2 ∧ r.2.1 0 47 = nI (wE b n (bk b n p)) ∧ r.2.1 0 48 = nI (bk b n p) := by
    intro e
    unfold j_X11_word_36
    rw [g2, g3, e]
    by_cases h : bk b n p < q
    · rw [if_neg (by rw [q_le (by omega) (by omega)]; omega)]
      exact ok_s ⟨Or.inr rfl, by rw [if_pos h], g1, g2, g3⟩
    · rw [if_pos (by rw [q_le (by omega) (by omega)]; omega)]
      exact ok_s ⟨Or.inl rfl, by rw [if_neg h], g1, g2, g3⟩
  unfold b_X11_word_12
  rw [g2, isSmall_e (hM.ph g1) (by omega), q_bd]
  by_cases hq : q < n
  · rw [scan_st hq] at g7
    by_cases e : letP b q = true
    · rw [if_pos e] at g7
      rw [if_pos (show q < n ∧ letP b q = true from ⟨hq, e⟩), if_neg (show ¬ (1 : Int32) = 0 by decide), q_nm, ← nI_succ]
      refine hK _ _ ?_ ⟨q + 1, g1.pu (by unfold PH; omega), q_gS _ _ _ _, by rw [q_gK _ _ _ _ _ _ (by omega)]; exact g3, by omega, by omega, rfl, g7⟩
      omega
    · rw [if_neg e] at g7
      rw [if_neg (show ¬ (q < n ∧ letP b q = true) from fun w => e w.2), if_pos (show (0 : Int32) = 0 from rfl)]
      exact fin g7.symm
  · rw [scan_z (by omega)] at g7
    rw [if_neg (show ¬ (q < n ∧ letP b q = true) from fun w => hq w.1), if_pos (show (0 : Int32) = 0 from rfl)]
    exact fin g7.symm
theorem isSign_e {c : Nat} (hN : 6000 ≤ N) (hc : c < 256) (hM : mB b n M) (hp : p ≤ n) (h47 : M.1 0 47 = nI p) : ok (f_X11_isSign N (nI c) M) fun r => fr PH M r.2 ∧ ((bk b n p < n ∧ b (bk b n p) = c ∧ r.1 = 1 ∧ r.2.1 0 47 = nI (bk b n p + 1)) ∨ (¬ (bk b n p < n ∧ b (bk b n p) = c) ∧ r.1 = 0 ∧ r.2.1 0 47 = nI (bk b n p))) ∧ r.2.1 0 49 = M.1 0 49 := by
  have hn := hM.2.2.1
  have hb := bk_le (b := b) hp
  unfold f_X11_isSign
  apply ok_zb
  refine ok_bd (blanks_e hN hM hp h47) ?_
  rintro S1 ⟨f1, f2, f3⟩
  rw [see_e (hM.ph f1) hb f2, q_bd]
  by_cases hq : bk b n p < n
  · have hbb := (hM.1 (bk b n p) (by omega)).2
    rw [if_pos hq]
    have cc : (nI (b (bk b n p)) = nI c) = (b (bk b n p) = c) := q_eq (by omega) (by omega)
    by_cases e : b (bk b n p) = c
    · rw [if_pos (cc ▸ e), f2, q_nm, ← nI_succ]
      exact ok_s ⟨Or.inr rfl, f1.pu (by unfold PH; omega), Or.inl ⟨hq, e, rfl, q_gS _ _ _ _⟩, by rw [q_gK _ _ _ _ _ _ (by omega)]; exact f3 49 (by omega)⟩
    · rw [if_neg (fun w => e (cc ▸ w))]
      exact ok_s ⟨Or.inl rfl, f1, Or.inr ⟨fun w => e w.2, rfl, f2⟩, f3 49 (by omega)⟩
  · rw [if_neg hq, if_neg (by rw [q_1eq (by omega)]; exact fun w => w)]
    exact ok_s ⟨Or.inl rfl, f1, Or.inr ⟨fun w => hq w.1, rfl, f2⟩, f3 49 (by omega)⟩
theorem csign_e {c : Nat} (hN : 6000 ≤ N) (hc : c < 256) (h : tp C p n) : f_X1_readSign N (nI c) C = some (if bk (cb C) n p < n ∧ cb C (bk (cb C) n p) = c then (1, cat C (bk (cb C) n p + 1)) else (0, cat C (bk (cb C) n p))) := by
  have hq := bk_le (b := cb C) h.2.2.1
  unfold f_X1_readSign
  rw [skip32 hN h, q_bd, take_e hc (h.cat hq), cat_cb]
  by_cases e : bk (cb C) n p < n ∧ cb C (bk (cb C) n p) = c
  · rw [if_pos e, q_bd2, if_pos e, cat_cat]; rfl
  · rw [if_neg e, q_bd2, if_neg e]; rfl
/-- what a word names among the told ones -/
theorem nt_it {q e idx : Nat} {w : Int64} {k2 : Int32 → Option Int32} (hN : 6000 ≤ N) (hM : mB b n M) (hqe : q < e) (he : e ≤ n) (hl : ∀ i, i < e - q → letP b (q + i) = true) (hi : idx < 24) (h47 : M.1 0 47 = nI e) (h48 : M.1 0 48 = nI q) (hW : WN (M.1 3) (M.1 2) idx w) (tw0 : Int64) (ht : tw0 = if e - q ≤ 12 then lN (enc b q (e - q)) else 0) :
    (ck (nI idx) 24 <| jp (j_X11_nameTaken_30 N M (nI idx) k2) fun k30 => if (M.1 3 (nI idx).toNatClampNeg) = ((M.1 0 47) - (M.1 0 48)) then k30 1 else k30 0) = if w = tw0 then some (nI idx) else k2 (nI (idx + 1)) := by
  have hn := hM.2.2.1
  have hpos := hW.pos
  rw [q_ck (by omega) (by omega), q_jp, q_tn (by omega), h47, h48, q_sub (by omega)]
  unfold j_X11_nameTaken_30
  simp only [q_jp]
  have fin1 : ∀ v, v = 1 → j_X11_nameTaken_88 (nI idx) k2 v = some (nI idx) := by
    intro v hv
    unfold j_X11_nameTaken_88
    rw [hv, if_neg (by decide)]
  have fin0 : ∀ v, v = 0 → j_X11_nameTaken_88 (nI idx) k2 v = k2 (nI (idx + 1)) := by
    intro v hv
    unfold j_X11_nameTaken_88
    rw [hv, if_pos rfl, nI_succ]; rfl
  obtain ⟨s, l, a1, a2, a3, a4, a5⟩ := hW
  have hend : ∀ kk v, b_X11_nameTaken_34 M (nI idx) (j_X11_nameTaken_88 (nI idx) k2) kk v (nI s) = j_X11_nameTaken_88 (nI idx) k2 v := by
    intro kk v
    unfold b_X11_nameTaken_34
    rw [q_ck (by omega) (by omega), q_tn (by omega), a3, if_pos (by rw [q_le (by omega) (by omega)]; omega)]
  have hz : ∀ kk i, i < s → b_X11_nameTaken_34 M (nI idx) (j_X11_nameTaken_88 (nI idx) k2) kk 0 (nI i) = j_X11_nameTaken_88 (nI idx) k2 0 := by
    intro kk i hi
    unfold b_X11_nameTaken_34
    rw [q_ck (by omega) (by omega), q_tn (by omega), a3, if_neg (by rw [q_le (by omega) (by omega)]; omega), if_pos rfl]
  have hWl : ∀ i, i < s → letP l (0 + i) = true := fun i hi => by rw [Nat.zero_add]; exact (a4 i hi).1
  rw [a3]
  by_cases es : s = e - q
  · rw [if_pos (by rw [es])]
    have hc := cmp1 (E := fun i => l i = b (q + i)) (m := s) hend hz ?_ (N := N) (by omega)
    · have hqq := q_lN (enc_b hWl a2) (enc_b hl (show e - q ≤ 12 by omega))
      rw [hc, ht, if_pos (show e - q ≤ 12 by omega), a5]
      have hinj := enc_inj hWl hl
      simp only [Nat.zero_add] at hinj
      by_cases e2 : ∀ i, i < s → l i = b (q + i)
      · rw [if_pos e2, fin1 _ rfl, if_pos (by rw [hqq]; exact hinj.mpr ⟨es, e2⟩)]
      · rw [if_neg e2, fin0 _ rfl, if_neg (by rw [hqq]; exact fun w => e2 (hinj.mp w).2)]
    · intro kk i hi
      unfold b_X11_nameTaken_34 j_X11_nameTaken_81
      obtain ⟨c1, c2⟩ := a4 i hi
      obtain ⟨c3, c4⟩ := hM.1 (q + i) (by omega)
      have c5 := letP_b c1
      have e1 : (12 : Int32) * nI idx + nI i = nI (12 * idx + i) := by
        have : nI 12 * nI idx + nI i = nI (12 * idx + i) := by rw [q_mul, q_add]
        exact this
      rw [q_ck (by omega) (by omega), q_tn (by omega), a3, if_neg (by rw [q_le (by omega) (by omega)]; omega), if_neg (by decide), e1, h48, q_add, q_ck (by omega) (by omega), q_ck (by omega) (by omega), q_tn (by omega), q_tn (by omega), c2, c3]
      simp only [q_jp, q_nm]
      rw [← nI_succ]
      by_cases e3 : l i = b (q + i)
      · rw [if_pos e3, if_pos (by rw [e3])]
      · rw [if_neg e3, if_neg (by rw [q_eq (by omega) (by omega)]; exact e3)]
  · rw [if_neg (by rw [q_eq (by omega) (by omega)]; exact es)]
    rw [cmp0 (m := s) hend hz (by omega), fin0 _ rfl, if_neg]
    rw [ht]
    by_cases h12 : e - q ≤ 12
    · rw [if_pos h12, a5, q_lN (enc_b hWl a2) (enc_b hl h12)]
      have hinj := enc_inj hWl hl
      intro w
      exact es (hinj.mp w).1
    · rw [if_neg h12]
      exact hpos
theorem nameTaken_e {q e many : Nat} {wn : Nat → Int64} {tw0 : Int64} (hN : 6000 ≤ N) (hM : mB b n M) (hqe : q < e) (he : e ≤ n) (hl : ∀ i, i < e - q → letP b (q + i) = true) (hm : many ≤ 24) (h47 : M.1 0 47 = nI e) (h48 : M.1 0 48 = nI q) (hW : ∀ i, i < many → WN (M.1 3) (M.1 2) i (wn i)) (ht : tw0 = if e - q ≤ 12 then lN (enc b q (e - q)) else 0) :
    f_X11_nameTaken N (nI many) M = some (if fst1 (fun i => decide (wn i = tw0)) many < many then nI (fst1 (fun i => decide (wn i = tw0)) many) else -1) := by
  unfold f_X11_nameTaken
  have hs := seek1 (body := b_X11_nameTaken_2 N (nI many) M) (E := fun i => decide (wn i = tw0)) (X := some (-1)) (Y := fun i => some (nI i)) (n := many) (a := 0) ?_ ?_ (N := N) (by omega)
  · rw [q_jp, q_lit, hs]
    split <;> rfl
  · intro k
    unfold b_X11_nameTaken_2
    rw [if_pos (by rw [q_le (by omega) (by omega)]; omega)]
  · intro k i hi
    unfold b_X11_nameTaken_2
    simp only [Nat.zero_add, decide_eq_true_eq]
    rw [if_neg (by rw [q_le (by omega) (by omega)]; omega)]
    exact nt_it hN hM hqe he hl (by omega) h47 h48 (hW i hi) tw0 ht
end HD
