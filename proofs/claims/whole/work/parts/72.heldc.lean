/-! pure part: a clause that is held, the rest -/
def rest133 (N : Nat) (v6 : Int32) (S9 : St) : Option (Int32 × St) := bd2 (f_X11_word N S9) fun v11 S12 => if v11 = 0 then some (0, S12) else jp (j_X11_isTrue_269 N v6 S12) fun k269 => jp (lp (fun _ _ => none) (b_X11_isTrue_157 N S12 k269) N) fun k157 => k157 0 0
theorem is133_eq (N : Nat) (v6 : Int32) (S7 : St) : j_X11_isTrue_133 N v6 S7 = bd2 (f_X11_isSign N 58 S7) fun v8 S9 => if v8 = 0 then some (0, S9) else rest133 N v6 S9 := rfl
def mIs (N : Nat) (M : St) : Option (Int32 × St) := lp (fun _ _ _ => none) (b_X11_isTrue_4 N (j_X11_isTrue_56 N)) N 0 1 M
theorem mIs_eq (N : Nat) (M : St) : f_X11_isTrue N M = zb (mIs N M) := rfl
section HG
variable {N P R B : Nat} {b : Nat → Nat} {n p : Nat} {C M : St}
theorem wa_5 {x : Nat} : wa x = 5 ↔ x = enc Wd 23 3 := by
  constructor
  · intro h
    unfold wa at h
    split at h
    · omega
    · split at h
      · omega
      · split at h
        · omega
        · split at h
          · omega
          · split at h
            · assumption
            · omega
  · intro h
    subst h
    decide
theorem isBut_e {q e : Nat} (hN : 6000 ≤ N) (hM : mB b n M) (hqe : q < e) (he : e ≤ n) (hE : wE b n q = e) (h47 : M.1 0 47 = nI e) (h48 : M.1 0 48 = nI q) : f_X11_isBut N M = some (if tw b n q = lN (enc Wd 23 3) then 1 else 0) := by
  have hn := hM.2.2.1
  have hlet : ∀ i, i < e - q → letP b (q + i) = true := by rw [← hE]; exact wE_in
  have hWd : ∀ i, i < 3 → letP Wd (23 + i) = true := by decide
  unfold f_X11_isBut
  rw [h47, h48, q_sub (by omega), wordAt_e hN hM (by omega) he hlet]
  have c3 : (nI (e - q) = 3) = (e - q = 3) := q_eq (b := 3) (by omega) (by omega)
  have hwa : wa (enc b q (e - q)) < 6 := by unfold wa; repeat' split
                                            all_goals omega
  have c5 : (nI (wa (enc b q (e - q))) = 5) = (wa (enc b q (e - q)) = 5) := q_eq (b := 5) (by omega) (by omega)
  have htw : tw b n q = if e - q ≤ 12 then lN (enc b q (e - q)) else 0 := by unfold tw; rw [hE]
  have hiff : tw b n q = lN (enc Wd 23 3) ↔ e - q = 3 ∧ wa (enc b q (e - q)) = 5 := by
    rw [htw, wa_5]
    by_cases h12 : e - q ≤ 12
    · rw [if_pos h12, kw_eq hlet h12 (by omega) hWd]
      constructor
      · intro h
        exact ⟨((enc_inj hlet hWd).mp h).1, h⟩
      · exact fun h => h.2
    · rw [if_neg h12]
      constructor
      · intro h
        exact absurd h (by decide)
      · intro h
        omega
  by_cases e3 : e - q = 3
  · rw [if_pos (c3 ▸ e3), q_bd]
    by_cases e5 : wa (enc b q (e - q)) = 5
    · rw [if_pos (c5 ▸ e5), if_pos (hiff.mpr ⟨e3, e5⟩)]; rfl
    · rw [if_neg (fun w => e5 (c5 ▸ w)), if_neg (fun w => e5 (hiff.mp w).2)]; rfl
  · rw [if_neg (fun w => e3 (c3 ▸ w)), if_neg (fun w => e3 (hiff.mp w).1)]; rfl
theorem bk_idem (hp : p ≤ n) : bk b n (bk b n p) = bk b n p := by
  have h1 := bk_le (b := b) hp
  by_cases h2 : bk b n p < n
  · have h3 := scan_end (skP b 32) (n - p) p (by unfold bk at h2; omega)
    have h4 : bk b n (bk b n p) = scan (skP b 32) (n - bk b n p) (bk b n p) := rfl
    rw [h4, scan_st h2, if_neg]
    unfold bk
    rw [h3]
    decide
  · have h4 : bk b n (bk b n p) = scan (skP b 32) (n - bk b n p) (bk b n p) := rfl
    rw [h4, scan_z (by omega)]
theorem places_l (hN : 6000 ≤ N) (h : HS P R B b n p C M) :
    (∃ C', f_X1_readPlaces N C = some (0, C') ∧ fr PHc C C' ∧ ok (mIs N M) fun r => r.1 = 0 ∧ fr PH M r.2) ∨
    (∃ s p' C' M', s < 2 ^ P ∧ p < p' ∧ f_X1_readPlaces N C = some (1, C') ∧ C'.1 4 1 = nI s ∧ mIs N M = rest133 N (nI s) M' ∧ HS P R B b n p' C' M' ∧ fr PHc C C' ∧ fr PH M M') := by
  have hn := h.1.2.2.2
  have hP6 := h.2.2.2.2.1.1.2.2.1
  have hp6 := pw6 hP6
  have hnl := names_l (P := P) (R := R) (B := B) (b := b) (n := n) hN (j_X11_isTrue_56 N) 2000 p 0 0 N N C M (by omega) (by omega) (by omega) (by omega) (Nat.two_pow_pos _) h
  have hrn : f_X1_readNames N 1 C = lp (fun _ _ _ _ => none) (b_X1_readNames_9 N 1) N (nI 0) 1 (nI 0) C := rfl
  have hmm : mIs N M = lp (fun _ _ _ => none) (b_X11_isTrue_4 N (j_X11_isTrue_56 N)) N (nI 0) 1 M := rfl
  rw [← hrn, ← hmm] at hnl
  rcases hnl with ⟨C', x1, x2, x3⟩ | ⟨m, p1, C1, M1, x1, x2, x3, x4, x5, x6, x7, x8⟩
  · left
    refine ⟨puI C' 4 1 0, ?_, (x2.mo PHa_c).pu (by unfold PHc; omega), x3⟩
    unfold f_X1_readPlaces
    rw [x1, q_bd2, q_nm, q_gS, if_pos rfl]
    rfl
  · rw [x5]
    have hC2 : fr PHc C1 (puI C1 4 1 (nI m)) := fr.rf.pu (by unfold PHc; omega)
    have ht2 : tp (puI C1 4 1 (nI m)) p1 n := by
      obtain ⟨a1, a2, a3, a4⟩ := x6.1
      exact ⟨by rw [q_gR _ _ _ _ _ _ (by omega)]; exact a1, by rw [q_gR _ _ _ _ _ _ (by omega)]; exact a2, a3, a4⟩
    have h2 : HS P R B b n p1 (puI C1 4 1 (nI m)) M1 := x6.go hC2 fr.rf ht2 x6.2.2.2.1
    have hrp : f_X1_readPlaces N C = zb (bd2 (f_X1_readSign N 58 (puI C1 4 1 (nI m))) fun v5 S6 => if v5 = 0 then bd2 (f_X8_takeWord N S6) fun w8 S9 => if (lg_cmp w8 (S9.2 4 0)) = 0 then bd2 (f_X1_readNames N 0 S9) fun v11 S12 => nm (puI S12 4 1 ((S12.1 4 1) &&& (v11 ^^^ (-1)))) fun S13 => if v11 = 0 then some (0, S13) else bd2 (f_X1_readSign N 58 S13) fun v15 S16 => if v15 = 0 then some (0, S16) else some (1, S16) else some (0, S9) else some (1, S6)) := by
      unfold f_X1_readPlaces
      rw [x4, q_bd2, q_nm, q_gS, if_neg (nI_ne0 x1 (by omega))]
    rw [hrp]
    have h41 : (puI C1 4 1 (nI m)).1 4 1 = nI m := q_gS _ _ _ _
    generalize puI C1 4 1 (nI m) = C2 at hC2 ht2 h2 h41 ⊢
    have fC2 : fr PHc C C2 := (x7.mo PHa_c).tr hC2
    obtain ⟨v, p2, M2, s1, s2, s3, s4, -, s5⟩ := sign_l (c := 58) hN (by omega) h2
    have s2' : f_X1_readSign N 58 C2 = some (v, cat C2 p2) := s2
    rw [s2', q_bd2]
    obtain ⟨Mw, w1, w2, w3, w4, w5, w6, w7, w8, w9⟩ := word_l hN h2
    have hb58 : bk b n p1 < n → letP b (bk b n p1) = true → b (bk b n p1) ≠ 58 := by
      intro _ a c
      have := letP_b a
      omega
    unfold j_X11_isTrue_56
    rw [q_nm, w1, q_bd2, q_jp]
    -- the reference without a word
    have hback : ∀ (hq : ¬ bk b n p1 < wE b n (bk b n p1)), ∃ M3, fr PH M1 M3 ∧ HS P R B b n p1 C2 M3 ∧ (if (if bk b n p1 < wE b n (bk b n p1) then (1 : Int32) else 0) = 0 then nm (puI Mw 0 47 (M1.1 0 47)) fun S64 => j_X11_isTrue_133 N (nI m) S64 else bd (f_X11_isBut N Mw) fun v65 => if v65 = 0 then some (0, Mw) else jp (lp (fun _ _ _ => none) (b_X11_isTrue_79 N (j_X11_isTrue_133 N)) N) fun k79 => k79 (nI m) 1 Mw) = j_X11_isTrue_133 N (nI m) M3 := by
      intro hq
      refine ⟨puI Mw 0 47 (M1.1 0 47), w2.pu (by unfold PH; omega), h2.go fr.rf (w2.pu (by unfold PH; omega)) ht2 ?_, ?_⟩
      · rw [q_gS]; exact h2.2.2.2.1
      · rw [if_neg hq, if_pos rfl]; rfl
    rcases s5 with ⟨rfl, s6, s7, rfl⟩ | ⟨rfl, s6, rfl⟩
    · -- a colon
      right
      have hq : ¬ bk b n p1 < wE b n (bk b n p1) := by
        intro w
        exact hb58 s6 ((letP_wE s6).mpr (by omega)) s7
      obtain ⟨M3, y1, y2, y3⟩ := hback hq
      rw [y3, is133_eq]
      obtain ⟨v', p', M4, z1, z2, z3, z4, -, z5⟩ := sign_l (c := 58) hN (by omega) y2
      have z1' : f_X11_isSign N 58 M3 = some (v', M4) := z1
      have hbg := bk_ge b n p1
      rcases z5 with ⟨rfl, z6, z7, rfl⟩ | ⟨rfl, z6, rfl⟩
      · rw [z1', q_bd2, if_neg (show ¬ (1 : Int32) = 0 by decide), if_neg (show ¬ (1 : Int32) = 0 by decide)]
        refine ⟨m, bk b n p1 + 1, cat C2 (bk b n p1 + 1), M4, x2, by omega, rfl, ?_, rfl, z4, fC2.tr (cat_frH _ _), (x8.tr y1).tr z3⟩
        rw [cat_o _ _ _ _ (by omega)]; exact h41
      · exact absurd ⟨s6, s7⟩ z6
    · rw [if_pos (show (0 : Int32) = 0 from rfl)]
      have htk := takeWord_e hN s4.1
      rw [s4.2.1, cat_cat] at htk
      rw [htk, q_bd2]
      have h40 : (cat C2 (wE b n (bk b n p1))).2 4 0 = lN (enc Wd 23 3) := w3.2.2.2.2.2
      rw [h40]
      simp only [lg_cmp_eq]
      by_cases hq : bk b n p1 < wE b n (bk b n p1)
      · rw [if_pos hq, if_neg (show ¬ (1 : Int32) = 0 by decide), isBut_e hN w3.2.2.1 hq w7 rfl w3.2.2.2.1 w4, q_bd]
        by_cases hbut : tw b n (bk b n p1) = lN (enc Wd 23 3)
        · rw [if_pos hbut, if_pos hbut, if_neg (show ¬ (1 : Int32) = 0 by decide), q_jp]
          -- but
          have hol := outs_l (P := P) (R := R) (B := B) (b := b) (n := n) hN m (j_X11_isTrue_133 N) 2000 (wE b n (bk b n p1)) 0 0 N N _ Mw (by omega) (by omega) (by omega) (by omega) (Nat.two_pow_pos _) w3
          have e0 : andn m 0 = m := by unfold andn; rw [Nat.and_zero, Nat.xor_zero]
          rw [e0] at hol
          have hrn0 : f_X1_readNames N 0 (cat C2 (wE b n (bk b n p1))) = lp (fun _ _ _ _ => none) (b_X1_readNames_9 N 0) N (nI 0) 1 (nI 0) (cat C2 (wE b n (bk b n p1))) := rfl
          rw [← hrn0] at hol
          rcases hol with ⟨C', y1, y2, y3⟩ | ⟨t, p3, C3, M3, y1, y2, y3, y4, y5, y6, y7, y8⟩
          · left
            rw [y1, q_bd2, q_nm, if_pos rfl]
            exact ⟨_, rfl, ((fC2.tr (cat_frH _ _)).tr (y2.mo PHa_c)).pu (by unfold PHc; omega), ok_m y3 (fun r hr => ⟨hr.1, (x8.tr w2).tr hr.2⟩)⟩
          · rw [y4, q_bd2, q_nm, if_neg (nI_ne0 y1 (by omega)), y5, is133_eq]
            have h413 : C3.1 4 1 = nI m := by rw [y7.2 4 1 (by unfold PHa; omega), cat_o _ _ _ _ (by omega)]; exact h41
            rw [h413, q_andn]
            have hC4 : fr PHc C3 (puI C3 4 1 (nI (andn m t))) := fr.rf.pu (by unfold PHc; omega)
            have ht4 : tp (puI C3 4 1 (nI (andn m t))) p3 n := by
              obtain ⟨a1, a2, a3, a4⟩ := y6.1
              exact ⟨by rw [q_gR _ _ _ _ _ _ (by omega)]; exact a1, by rw [q_gR _ _ _ _ _ _ (by omega)]; exact a2, a3, a4⟩
            have h4 : HS P R B b n p3 (puI C3 4 1 (nI (andn m t))) M3 := y6.go hC4 fr.rf ht4 y6.2.2.2.1
            have hg41 : (puI C3 4 1 (nI (andn m t))).1 4 1 = nI (andn m t) := q_gS _ _ _ _
            generalize puI C3 4 1 (nI (andn m t)) = C4 at hC4 ht4 h4 hg41 ⊢
            obtain ⟨v', p4, M5, z1, z2, z3, z4, -, z5⟩ := sign_l (c := 58) hN (by omega) h4
            have z1' : f_X11_isSign N 58 M3 = some (v', M5) := z1
            have z2' : f_X1_readSign N 58 C4 = some (v', cat C4 p4) := z2
            rw [z1', z2', q_bd2, q_bd2]
            have fC4 : fr PHc C (cat C4 p4) := (((fC2.tr (cat_frH _ _)).tr (y7.mo PHa_c)).tr hC4).tr (cat_frH _ _)
            have fM5 : fr PH M M5 := ((x8.tr w2).tr y8).tr z3
            have hbg := bk_ge b n p3
            rcases z5 with ⟨rfl, z6, z7, rfl⟩ | ⟨rfl, z6, rfl⟩
            · right
              rw [if_neg (show ¬ (1 : Int32) = 0 by decide), if_neg (show ¬ (1 : Int32) = 0 by decide)]
              refine ⟨andn m t, bk b n p3 + 1, _, M5, Nat.lt_of_le_of_lt (andn_le _ _) x2, by omega, rfl, ?_, rfl, z4, fC4, fM5⟩
              rw [cat_o _ _ _ _ (by omega)]; exact hg41
            · left
              rw [if_pos (show (0 : Int32) = 0 from rfl), if_pos (show (0 : Int32) = 0 from rfl)]
              exact ⟨_, rfl, fC4, ok_s ⟨rfl, fM5⟩⟩
        · left
          rw [if_neg hbut, if_neg hbut, if_pos (show (0 : Int32) = 0 from rfl)]
          exact ⟨_, rfl, fC2.tr (cat_frH _ _), ok_s ⟨rfl, x8.tr w2⟩⟩
      · left
        obtain ⟨M3, y1, y2, y3⟩ := hback hq
        have htw : tw b n (bk b n p1) = 0 := tw_zero (Or.inl (by omega))
        rw [y3, is133_eq, htw, if_neg (show ¬ (0 : Int64) = lN (enc Wd 23 3) by decide)]
        obtain ⟨v', p', M4, z1, z2, z3, z4, -, z5⟩ := sign_l (c := 58) hN (by omega) y2
        have z1' : f_X11_isSign N 58 M3 = some (v', M4) := z1
        rcases z5 with ⟨rfl, z6, z7, rfl⟩ | ⟨rfl, z6, rfl⟩
        · exact absurd ⟨z6, z7⟩ s6
        · rw [z1', q_bd2, if_pos (show (0 : Int32) = 0 from rfl)]
          exact ⟨_, rfl, fC2.tr (cat_frH _ _), ok_s ⟨rfl, (x8.tr y1).tr z3⟩⟩
/-- the band that a word names, in the reference -/
theorem bt_it {q e idx : Nat} {w : Int64} {k157 : Int32 → Int32 → Option (Int32 × St)} (hN : 6000 ≤ N) (hM : mB b n M) (hqe : q < e) (he : e ≤ n) (hl : ∀ i, i < e - q → letP b (q + i) = true) (hi : idx < 24) (h47 : M.1 0 47 = nI e) (h48 : M.1 0 48 = nI q) (hW : WN (M.1 11) (M.1 10) idx w) (tw0 : Int64) (ht : tw0 = if e - q ≤ 12 then lN (enc b q (e - q)) else 0) :
    (ck (nI idx) 48 <| jp (j_X11_isTrue_195 N M (nI idx) k157) fun k195 => if (M.1 11 (nI idx).toNatClampNeg) = ((M.1 0 47) - (M.1 0 48)) then k195 1 else k195 0) = if w = tw0 then k157 (nI idx) 1 else k157 (nI (idx + 1)) 0 := by
  have hn := hM.2.2.1
  have hpos := hW.pos
  rw [q_ck (by omega) (by omega), q_jp, q_tn (by omega), h47, h48, q_sub (by omega)]
  unfold j_X11_isTrue_195
  simp only [q_jp]
  have fin1 : ∀ v, v = 1 → j_X11_isTrue_258 (nI idx) k157 v = k157 (nI idx) 1 := by
    intro v hv
    unfold j_X11_isTrue_258
    rw [hv, if_neg (by decide)]
  have fin0 : ∀ v, v = 0 → j_X11_isTrue_258 (nI idx) k157 v = k157 (nI (idx + 1)) 0 := by
    intro v hv
    unfold j_X11_isTrue_258
    rw [hv, if_pos rfl, nI_succ]; rfl
  obtain ⟨s, l, a1, a2, a3, a4, a5⟩ := hW
  have hend : ∀ kk v, b_X11_isTrue_200 M (nI idx) (j_X11_isTrue_258 (nI idx) k157) kk v (nI s) = j_X11_isTrue_258 (nI idx) k157 v := by
    intro kk v
    unfold b_X11_isTrue_200
    rw [q_ck (by omega) (by omega), q_tn (by omega), a3, if_pos (by rw [q_le (by omega) (by omega)]; omega)]
  have hz : ∀ kk i, i < s → b_X11_isTrue_200 M (nI idx) (j_X11_isTrue_258 (nI idx) k157) kk 0 (nI i) = j_X11_isTrue_258 (nI idx) k157 0 := by
    intro kk i hi
    unfold b_X11_isTrue_200
    rw [q_ck (by omega) (by omega), q_tn (by omega), a3, if_neg (by rw [q_le (by omega) (by omega)]; omega), if_pos rfl]
  have hWl : ∀ i, i < s → letP l (0 + i) = true := fun i hi => by rw [Nat.zero_add]; exact (a4 i hi).1
  rw [a3]
  by_cases es : s = e - q
  · rw [if_pos (by rw [es])]
    have hc := cmp1 (E := fun i => l i = b (q + i)) (m := s) hend hz ?_ (N := N) (by omega)
    · have hqq := q_lN (enc_b hWl a2) (enc_b hl (show e - q ≤ 12 by omega))
      rw [hc, ht, if_pos (show e - q ≤ 12 by omega), a5]
      have hinj := enc_inj hWl hl
      simp only [Nat.zero_add] at hinj
      by_cases e2 : ∀ i, i < s → l i = b (q + i)
      · rw [if_pos e2, fin1 _ rfl, if_pos (by rw [hqq]; exact hinj.mpr ⟨es, e2⟩)]
      · rw [if_neg e2, fin0 _ rfl, if_neg (by rw [hqq]; exact fun w => e2 (hinj.mp w).2)]
    · intro kk i hi
      unfold b_X11_isTrue_200 j_X11_isTrue_250
      obtain ⟨c1, c2⟩ := a4 i hi
      obtain ⟨c3, c4⟩ := hM.1 (q + i) (by omega)
      have c5 := letP_b c1
      have e1 : (12 : Int32) * nI idx + nI i = nI (12 * idx + i) := by
        have : nI 12 * nI idx + nI i = nI (12 * idx + i) := by rw [q_mul, q_add]
        exact this
      rw [q_ck (by omega) (by omega), q_tn (by omega), a3, if_neg (by rw [q_le (by omega) (by omega)]; omega), if_neg (by decide), e1, h48, q_add, q_ck (by omega) (by omega), q_ck (by omega) (by omega), q_tn (by omega), q_tn (by omega), c2, c3]
      simp only [q_jp, q_nm]
      rw [← nI_succ]
      by_cases e3 : l i = b (q + i)
      · rw [if_pos e3, if_pos (by rw [e3])]
      · rw [if_neg e3, if_neg (by rw [q_eq (by omega) (by omega)]; exact e3)]
  · rw [if_neg (by rw [q_eq (by omega) (by omega)]; exact es)]
    rw [cmp0 (m := s) hend hz (by omega), fin0 _ rfl, if_neg]
    rw [ht]
    by_cases h12 : e - q ≤ 12
    · rw [if_pos h12, a5, q_lN (enc_b hWl a2) (enc_b hl h12)]
      have hinj := enc_inj hWl hl
      intro w
      exact es (hinj.mp w).1
    · rw [if_neg h12]
      exact hpos
theorem bandT_e {q e : Nat} {wn : Nat → Int64} {tw0 : Int64} {k269 : Int32 → Int32 → Option (Int32 × St)} (hN : 6000 ≤ N) (hM : mB b n M) (hqe : q < e) (he : e ≤ n) (hl : ∀ i, i < e - q → letP b (q + i) = true) (hB : B ≤ 24) (h8 : M.1 0 8 = nI B) (h47 : M.1 0 47 = nI e) (h48 : M.1 0 48 = nI q) (hW : ∀ i, i < B → WN (M.1 11) (M.1 10) i (wn i)) (ht : tw0 = if e - q ≤ 12 then lN (enc b q (e - q)) else 0) :
    lp (fun _ _ => none) (b_X11_isTrue_157 N M k269) N 0 0 = if fst1 (fun i => decide (wn i = tw0)) B < B then k269 (nI (fst1 (fun i => decide (wn i = tw0)) B)) 1 else k269 (nI B) 0 := by
  have key : ∀ d N' i, d + 1 < N' → i + d = B → (∀ x, x < i → decide (wn x = tw0) = false) → lp (fun _ _ => none) (b_X11_isTrue_157 N M k269) N' (nI i) 0 = if fst1 (fun i => decide (wn i = tw0)) B < B then k269 (nI (fst1 (fun i => decide (wn i = tw0)) B)) 1 else k269 (nI B) 0 := by
    intro d
    induction d with
    | zero =>
      intro N' i hN' hi hx
      obtain ⟨N', rfl⟩ : ∃ k, N' = k + 1 := ⟨N' - 1, by omega⟩
      have : i = B := by omega
      subst this
      rw [q_lp]
      unfold b_X11_isTrue_157
      rw [h8, if_pos (by rw [q_le (by omega) (by omega)]; omega), if_neg]
      intro w
      have := fst1_yes w
      rw [hx _ w] at this
      cases this
    | succ d ih =>
      intro N' i hN' hi hx
      obtain ⟨N', rfl⟩ : ∃ k, N' = k + 1 := ⟨N' - 1, by omega⟩
      rw [q_lp]
      have hone : lp (fun _ _ => none) (b_X11_isTrue_157 N M k269) N' (nI i) 1 = k269 (nI i) 1 := by
        obtain ⟨N'', rfl⟩ : ∃ k, N' = k + 1 := ⟨N' - 1, by omega⟩
        rw [q_lp]
        unfold b_X11_isTrue_157
        rw [h8, if_neg (by rw [q_le (by omega) (by omega)]; omega), if_neg (show ¬ (1 : Int32) = 0 by decide)]
      have ih' := fun hxx => ih N' (i + 1) (by omega) (by omega) hxx
      generalize lp (fun _ _ => none) (b_X11_isTrue_157 N M k269) N' = K at hone ih' ⊢
      unfold b_X11_isTrue_157
      rw [h8, if_neg (by rw [q_le (by omega) (by omega)]; omega), if_pos rfl, bt_it hN hM hqe he hl (by omega) h47 h48 (hW i (by omega)) tw0 ht]
      by_cases e1 : wn i = tw0
      · rw [if_pos e1, hone, fst1_is (show i < B by omega) (decide_eq_true e1) hx, if_pos (by omega)]
      · rw [if_neg e1]
        refine ih' ?_
        intro x hxi
        by_cases e2 : x = i
        · rw [e2]; exact decide_eq_false e1
        · exact hx x (by omega)
  exact key B N 0 (by omega) (by omega) (fun x hx => by omega)
theorem band2_l {v6 : Int32} (hN : 6000 ≤ N) (h : HS P R B b n p C M) :
    (∃ C', f_X1_readBand N C = some (0, C') ∧ fr PHc C C' ∧ ok (rest133 N v6 M) fun r => r.1 = 0 ∧ fr PH M r.2) ∨
    (∃ bi p' C' M', bi < B ∧ p ≤ p' ∧ f_X1_readBand N C = some (1, C') ∧ C'.1 4 2 = nI bi ∧ C'.1 4 1 = C.1 4 1 ∧ rest133 N v6 M = j_X11_isTrue_269 N v6 M' (nI bi) 1 ∧ HS P R B b n p' C' M' ∧ fr PHc C C' ∧ fr PH M M') := by
  have hn := h.1.2.2.2
  obtain ⟨M1, w1, w2, w3, w4, w5, w6, w7, w8, w9⟩ := word_l hN h
  have hR := w3.2.2.2.2.1
  have hB24 := hR.2.1.2.1
  have hbn := bandNamed_e (w := tw b n (bk b n p)) hN hR.2.1.1 hB24
  have hbn' : f_X4_bandNamed N 28 (tw b n (bk b n p)) (cat C (wE b n (bk b n p))) = some (if fst1 (fun i => decide ((cat C (wE b n (bk b n p))).2 32 i = tw b n (bk b n p))) B < B then nI (fst1 (fun i => decide ((cat C (wE b n (bk b n p))).2 32 i = tw b n (bk b n p))) B) else -1) := hbn
  have hW : ∀ i, i < B → WN (M1.1 11) (M1.1 10) i ((cat C (wE b n (bk b n p))).2 32 i) := by
    intro i hi
    have := (hR.2.1.2.2.1 i hi).1
    rw [Nat.zero_add] at this
    exact this
  unfold f_X1_readBand rest133
  rw [w5, q_bd, w6, q_bd2, hbn', q_bd, w1, q_bd2, q_nm, q_gS]
  generalize hq : bk b n p = q at w1 w3 w4 w5 w6 w7 w8 w9 hbn' hW ⊢
  generalize he : wE b n q = e at w1 w3 w6 w7 hbn' hW ⊢
  have hge := wE_ge b n q
  rw [he] at hge
  by_cases hqe : q < e
  · rw [if_pos hqe, if_neg (show ¬ (1 : Int32) = 0 by decide), q_jp, q_jp, bandT_e (wn := (cat C e).2 32) (tw0 := tw b n q) hN w3.2.2.1 hqe w7 (by rw [← he]; exact wE_in) hB24 hR.2.2.2.2 w3.2.2.2.1 w4 hW (by unfold tw; rw [he])]
    by_cases hf : fst1 (fun i => decide ((cat C e).2 32 i = tw b n q)) B < B
    · rw [if_pos hf, if_pos hf]
      generalize fst1 (fun i => decide ((cat C e).2 32 i = tw b n q)) B = bi at hf ⊢
      rw [if_neg (by rw [q_m1 (by omega)]; exact fun w => w)]
      right
      have fC : fr PHc (cat C e) (puI (cat C e) 4 2 (nI bi)) := fr.rf.pu (by unfold PHc; omega)
      have ht : tp (puI (cat C e) 4 2 (nI bi)) e n := by
        obtain ⟨a1, a2, a3, a4⟩ := w3.1
        exact ⟨by rw [q_gR _ _ _ _ _ _ (by omega)]; exact a1, by rw [q_gR _ _ _ _ _ _ (by omega)]; exact a2, a3, a4⟩
      refine ⟨bi, e, _, M1, hf, by omega, rfl, q_gS _ _ _ _, ?_, rfl, w3.go fC fr.rf ht w3.2.2.2.1, (cat_frH C e).tr fC, w2⟩
      rw [q_gK _ _ _ _ _ _ (by omega), cat_o _ _ _ _ (by omega)]
    · rw [if_neg hf, if_neg hf, if_pos rfl]
      left
      unfold j_X11_isTrue_269
      rw [if_pos rfl]
      exact ⟨_, rfl, (cat_frH C e).pu (by unfold PHc; omega), ok_s ⟨rfl, w2⟩⟩
  · have htw : tw b n q = 0 := tw_zero (Or.inl (by omega))
    rw [if_neg hqe, if_pos rfl]
    have hno : ¬ fst1 (fun i => decide ((cat C e).2 32 i = tw b n q)) B < B := by
      intro w
      have y := fst1_yes w
      rw [decide_eq_true_eq] at y
      exact (hW _ w).pos (y.trans htw)
    rw [if_neg hno, if_pos rfl]
    left
    exact ⟨_, rfl, (cat_frH C e).pu (by unfold PHc; omega), ok_s ⟨rfl, w2⟩⟩
/-- the reference's digits -/
def hv (b : Nat → Nat) (s : Nat) : Nat → Nat
  | 0 => 0
  | j + 1 => if hv b s j ≤ 99 then 10 * hv b s j + (b (s + j) - 48) else hv b s j
theorem hv_dv {s : Nat} : ∀ {j : Nat}, (∀ i, i < j → digP b (s + i) = true) → hv b s j ≤ 999 ∧ (hv b s j ≤ 99 → dv b s j = hv b s j) ∧ (99 < hv b s j → 99 < dv b s j)
  | 0, _ => by unfold hv dv; omega
  | j + 1, h => by
    have ih := hv_dv (s := s) (j := j) (fun i hi => h i (by omega))
    have a := h j (by omega)
    unfold digP at a
    rw [decide_eq_true_eq] at a
    unfold hv dv
    split <;> omega
theorem digits_l (hN : 6000 ≤ N) (h : HS P R B b n p C M) :
    ∃ M1, f_X11_digitsRead N M = some (if bk b n p < dE b n (bk b n p) then 1 else 0, M1) ∧ fr PH M M1 ∧ HS P R B b n (dE b n (bk b n p)) (cat C (dE b n (bk b n p))) M1 ∧ M1.1 0 49 = nI (hv b (bk b n p) (dE b n (bk b n p) - bk b n p)) ∧ f_X8_skip N 32 C = some (cat C (bk b n p)) ∧ f_X8_takeDigits N (cat C (bk b n p)) = some (td b n (bk b n p), cat C (dE b n (bk b n p))) := by
  have h0 := h
  obtain ⟨h1, h2, h3, h4, h5, h6⟩ := h
  have hn := h1.2.2.2
  have hp := h1.2.2.1
  have hq := bk_le (b := b) hp
  have he := dE_le (b := b) hq
  have hdig : ok (f_X11_digitsRead N M) fun r => r.1 = (if bk b n p < dE b n (bk b n p) then 1 else 0) ∧ fr PH M r.2 ∧ r.2.1 0 47 = nI (dE b n (bk b n p)) ∧ r.2.1 0 49 = nI (hv b (bk b n p) (dE b n (bk b n p) - bk b n p)) := by
    unfold f_X11_digitsRead
    apply ok_zb
    refine ok_bd (blanks_e hN h3 hp h4) ?_
    rintro S1 ⟨f1, f2, f3⟩
    rw [q_nm, q_nm, q_jp, q_jp, f2]
    generalize bk b n p = q at hq he f2 ⊢
    refine ok_l1 (fun m S => ∃ j, fr PH M S ∧ S.1 0 47 = nI (q + j) ∧ S.1 0 49 = nI (hv b q j) ∧ (∀ i, i < j → digP b (q + i) = true) ∧ q + j ≤ n ∧ n - (q + j) = m ∧ scan (digP b) (n - (q + j)) (q + j) = dE b n q) ?_ N (n - q) _ (by omega) ⟨0, f1.pu (by unfold PH; omega), by rw [q_gK _ _ _ _ _ _ (by omega)]; exact f2, q_gS _ _ _ _, fun i hi => by omega, hq, rfl, rfl⟩
    rintro K m S ⟨j, g1, g2, g3, g4, g5, g6, g7⟩ hK
    have fin : dE b n q = q + j → ok (j_X11_digitsRead_78 (nI q) S) fun r => (r.1 = 0 ∨ r.1 = 1) ∧ r.1 = (if q < dE b n q then 1 else 0) ∧ fr PH M r.2 ∧ r.2.1 0 47 = nI (dE b n q) ∧ r.2.1 0 49 = nI (hv b q (dE b n q - q)) := by
      intro e
      unfold j_X11_digitsRead_78
      rw [g2, e, Nat.add_sub_cancel_left]
      by_cases hj : q < q + j
      · rw [if_neg (by rw [q_le (by omega) (by omega)]; omega)]
        exact ok_s ⟨Or.inr rfl, by rw [if_pos hj], g1, g2, g3⟩
      · rw [if_pos (by rw [q_le (by omega) (by omega)]; omega)]
        exact ok_s ⟨Or.inl rfl, by rw [if_neg hj], g1, g2, g3⟩
    have hhv := hv_dv g4
    unfold b_X11_digitsRead_14
    rw [g2, isDigit_e (h3.ph g1) (by omega), q_bd]
    by_cases hqn : q + j < n
    · rw [scan_st hqn] at g7
      by_cases e : digP b (q + j) = true
      · rw [if_pos e] at g7
        have e' := e
        unfold digP at e'
        rw [decide_eq_true_eq] at e'
        obtain ⟨t1, t2⟩ := (h3.ph g1).1 (q + j) (by omega)
        unfold j_X11_digitsRead_62
        rw [if_pos (show q + j < n ∧ digP b (q + j) = true from ⟨hqn, e⟩), if_neg (show ¬ (1 : Int32) = 0 by decide), q_jp, g3, q_ck (by omega) (by omega), q_tn (by omega), t1]
        have hgo : ∀ v, v = nI (hv b q (j + 1)) → ok (K (puI (puI S 0 49 v) 0 47 ((puI S 0 49 v).1 0 47 + 1))) fun r => (r.1 = 0 ∨ r.1 = 1) ∧ r.1 = (if q < dE b n q then 1 else 0) ∧ fr PH M r.2 ∧ r.2.1 0 47 = nI (dE b n q) ∧ r.2.1 0 49 = nI (hv b q (dE b n q - q)) := by
          intro v hv2
          refine hK _ _ ?_ ⟨j + 1, (g1.pu (by unfold PH; omega)).pu (by unfold PH; omega), ?_, ?_, ?_, by omega, rfl, g7⟩
          · omega
          · rw [q_gS, q_gK _ _ _ _ _ _ (by omega), g2, ← nI_succ]; rfl
          · rw [q_gK _ _ _ _ _ _ (by omega), q_gS]; exact hv2
          · intro i hi
            by_cases hij : i < j
            · exact g4 i hij
            · have : i = j := by omega
              rw [this]; exact e
        have c99 : (nI (hv b q j) ≤ 99) = (hv b q j ≤ 99) := q_le (b := 99) (by omega) (by omega)
        by_cases e9 : hv b q j ≤ 99
        · rw [if_pos (c99 ▸ e9)]
          refine hgo _ ?_
          rw [hv, if_pos e9]
          have : nI 10 * nI (hv b q j) + nI (b (q + j)) - nI 48 = nI (10 * hv b q j + (b (q + j) - 48)) := by
            rw [q_mul, q_add, q_sub (by omega)]
            congr 1
            omega
          exact this
        · rw [if_neg (fun w => e9 (c99 ▸ w))]
          refine hgo _ ?_
          rw [hv, if_neg e9]
      · rw [if_neg e] at g7
        rw [if_neg (show ¬ (q + j < n ∧ digP b (q + j) = true) from fun w => e w.2), if_pos (show (0 : Int32) = 0 from rfl)]
        exact fin g7.symm
    · rw [scan_z (by omega)] at g7
      rw [if_neg (show ¬ (q + j < n ∧ digP b (q + j) = true) from fun w => hqn w.1), if_pos (show (0 : Int32) = 0 from rfl)]
      exact fin g7.symm
  obtain ⟨⟨v, M1⟩, e1, e2, e3, e4, e5⟩ := hdig
  have e2' : v = _ := e2
  subst e2'
  refine ⟨M1, e1, e3, h0.go (cat_frH C _) e3 (h1.cat he) e4, e5, ?_, ?_⟩
  · rw [skip32 hN h1, h2]
  · have := takeDigits_e hN (h1.cat hq)
    rw [cat_cb, h2, cat_cat] at this
    exact this
end HG
