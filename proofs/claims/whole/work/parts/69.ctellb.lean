/-! pure part: the class tells, the whole call -/
theorem takeF_x {l : List F4} {j : Nat} (h : j < l.length) : l.take (j + 1) = l.take j ++ [Lg l j] := by
  rw [List.take_add_one, Lg_at h]
  rfl
theorem psum_take (L : List F4) : ∀ k, k ≤ L.length → psum (L.take k) = sm (fun i => pc (Lg L i).2.2.2) k
  | 0, _ => rfl
  | k + 1, h => by
    rw [takeF_x (by omega), psum_app, psum_take L k (by omega), sm]
    rfl
theorem psum_sm (L : List F4) : psum L = sm (fun i => pc (Lg L i).2.2.2) L.length := by
  have := psum_take L L.length (Nat.le_refl _)
  rw [List.take_length] at this
  exact this
theorem psum_map (L : List F4) (TL : List Nat) : psum (TL.map (Lg L)) = lsum (fun i => pc (Lg L i).2.2.2) TL := by
  induction TL with
  | nil => rfl
  | cons a TL ih =>
    show pc (Lg L a).2.2.2 + psum (TL.map (Lg L)) = _
    rw [ih]
    rfl
theorem TL_le {L : List F4} {TL : List Nat} (h : TL.Nodup) (hn : ∀ x ∈ TL, x < L.length) : psum (TL.map (Lg L)) ≤ psum L := by
  rw [psum_map, psum_sm]
  exact lsum_le _ h hn
theorem psum_le_take {xs : List F4} {k : Nat} (h : k ≤ xs.length) : psum (xs.take k) ≤ psum xs := by
  have : psum xs = psum (xs.take k) + psum (xs.drop k) := by rw [← psum_app, List.take_append_drop]
  omega
section CTB
variable {N P R B : Nat} {C M : St} {L : List F4}
theorem TXT_len (hM : MN P R B M) {xs : List F4} (hok : ∀ x ∈ xs, okF P B x) : ∀ k, k ≤ xs.length → (TXT M (P + R) xs k).length ≤ 37 * psum (xs.take k)
  | 0, _ => Nat.le_refl 0
  | k + 1, h => by
    have ih := TXT_len hM hok k (by omega)
    have hx := hok _ (Lg_mem (L := xs) (f := k) (by omega))
    have h1 := clM_len hM hx
    have hp6 := pw6 hM.2.2.1
    have h2 := pc_pos (x := (Lg xs k).2.2.2) (by have := hx.2.2.2.1; omega) (by have := hx.2.2.2.2; omega)
    have e : psum (xs.take (k + 1)) = psum (xs.take k) + pc (Lg xs k).2.2.2 := by
      rw [takeF_x (by omega), psum_app]
      rfl
    show (TXT M (P + R) xs k ++ ((if k = 0 then [] else [32]) ++ clM M (P + R) (Lg xs k))).length ≤ _
    rw [List.length_append, List.length_append, e]
    have h3 : (if k = 0 then [] else [32] : List Nat).length ≤ 1 := by split <;> simp
    omega
theorem lg_map {TL : List Nat} {k i : Nat} (h : TL[k]? = some i) : Lg (TL.map (Lg L)) k = Lg L i := by
  unfold Lg
  rw [List.getD_eq_getElem?_getD, List.getElem?_map, h]
  rfl
theorem writeText_e {W : Nat → Nat} {TL : List Nat} (hN : 6000 ≤ N) (hM : MN P R B M) (hS : CS P R B L C M) (hG : RG P R (memM M) C) (h24 : SG 24 [] C) (hT : CTd W TL C) (hl : L.length ≤ 432) (hps : psum L ≤ 432) (hok : ∀ x ∈ L, okF P B x) (hnd : TL.Nodup) (hlt : ∀ x ∈ TL, x < L.length) :
    ok (f_X10_writeText N C) fun C' => SG 24 (TXT M (P + R) (TL.map (Lg L)) TL.length) C' ∧ RG P R (memM M) C' ∧ fr (fun r _ => r = 7 ∨ r = 24 ∨ r = 25) C C' := by
  have hlen := nodup_len hnd hlt
  have hps2 := TL_le (L := L) hnd hlt
  have hokx : ∀ x ∈ TL.map (Lg L), okF P B x := by
    intro y hy
    rw [List.mem_map] at hy
    obtain ⟨i, hi, rfl⟩ := hy
    exact hok _ (Lg_mem (hlt i hi))
  have hB24 := hM.2.2.2.2.1
  unfold f_X10_writeText
  rw [q_jp]
  refine ok_up0 (n := TL.length) (fun k S => SG 24 (TXT M (P + R) (TL.map (Lg L)) k) S ∧ RG P R (memM M) S ∧ fr (fun r _ => r = 7 ∨ r = 24 ∨ r = 25) C S) ?_ ?_ (by omega) ⟨h24, hG, fr.rf⟩
  · rintro K S ⟨g1, g2, g3⟩
    unfold b_X10_writeText_2
    rw [g3.2 22 2 (by omega), hT.1, if_pos (by rw [q_le (by omega) (by omega)]; omega)]
    exact ok_s ⟨g1, g2, g3⟩
  · rintro K k S hk ⟨g1, g2, g3⟩ hK
    have hki := List.getElem?_eq_getElem hk
    have hmem : TL[k] ∈ TL := List.getElem_mem hk
    generalize TL[k] = i at hki hmem
    have hi := hlt i hmem
    have hx := hok _ (Lg_mem hi)
    obtain ⟨a1, a2, a3, a4⟩ := hS.2.2.2 i _ (Lg_at hi)
    have hxl : (TL.map (Lg L)).length = TL.length := List.length_map _
    have e1 : Lg (TL.map (Lg L)) k = Lg L i := lg_map hki
    have t1 := TXT_len hM hokx k (by omega)
    have t2 : psum ((TL.map (Lg L)).take (k + 1)) = psum ((TL.map (Lg L)).take k) + pc (Lg L i).2.2.2 := by
      rw [takeF_x (by omega), psum_app, e1]
      rfl
    have t3 := psum_le_take (xs := TL.map (Lg L)) (k := k + 1) (by omega)
    have hpc := pc_le (x := (Lg L i).2.2.2) 6 (by omega) (Nat.lt_of_lt_of_le hx.2.2.2.2 (pw6 hM.2.2.1))
    have h29 : ∀ (l : List Nat) (S2 : St), SG 24 l S2 → RG P R (memM M) S2 → fr (fun r _ => r = 7 ∨ r = 24 ∨ r = 25) C S2 → l = TXT M (P + R) (TL.map (Lg L)) k ++ (if k = 0 then [] else [32]) → ok (j_X10_writeText_29 N (nI k) K S2) fun C' => SG 24 (TXT M (P + R) (TL.map (Lg L)) TL.length) C' ∧ RG P R (memM M) C' ∧ fr (fun r _ => r = 7 ∨ r = 24 ∨ r = 25) C C' := by
      intro l S2 d1 d2 d3 d4
      have dS : CS P R B L S2 M := hS.go (d3.mo (fun r k w => by unfold PQc; omega))
      unfold j_X10_writeText_29
      rw [q_ck (by omega) (by omega), q_tn (by omega), d3.2 23 k (by omega), hT.2.2 k i hki]
      have hll : l.length ≤ (TXT M (P + R) (TL.map (Lg L)) k).length + 1 := by
        rw [d4, List.length_append]
        split
        · show _ + 0 ≤ _; omega
        · show _ + 1 ≤ _; omega
      refine ok_bd (writeClause_e (rr := 24) hN (Or.inl rfl) d1 dS.2.1 hM.2.2.2.2.2.2.2.1 d2 (by omega) hB24 hx (by rw [d3.2 _ _ (by omega)]; exact a1) (by rw [d3.2 _ _ (by omega)]; exact a2) (by rw [d3.2 _ _ (by omega)]; exact a3) (by rw [d3.2 _ _ (by omega)]; exact a4) (by omega)) ?_
      rintro S3 ⟨b1, b2, b3⟩
      rw [q_nm, ← nI_succ]
      refine hK _ ⟨?_, b3, d3.tr (b2.mo (fun r k w => by unfold PW PS at w; omega))⟩
      show SG 24 (TXT M (P + R) (TL.map (Lg L)) k ++ ((if k = 0 then [] else [32]) ++ clM M (P + R) (Lg (TL.map (Lg L)) k))) S3
      rw [e1, ← List.append_assoc, ← d4]
      exact b1
    unfold b_X10_writeText_2
    rw [g3.2 22 2 (by omega), hT.1, if_neg (by rw [q_le (by omega) (by omega)]; omega), q_jp]
    by_cases e0 : k = 0
    · rw [if_pos (show nI k ≤ 0 by rw [e0]; decide)]
      exact h29 _ S g1 g2 g3 (by rw [if_pos e0, List.append_nil])
    · rw [if_neg (nI_nle (by omega) (by omega))]
      have h32 : (32 : Int32) = nI 32 := rfl
      obtain ⟨S2, b1, b2, b3⟩ := add_e (N := N) (c := 32) g1 (by omega) (by omega)
      rw [h32, b1, q_bd]
      refine h29 _ S2 b2 ?_ (g3.tr (b3.mo (fun r k w => by unfold PS at w; omega))) (by rw [if_neg e0])
      exact g2.go (b3.2 _ _ (by unfold PS; omega)) (funext fun k => b3.2 _ _ (by unfold PS; omega)) (funext fun k => b3.2 _ _ (by unfold PS; omega))
theorem selr_mem {fl : Nat → Bool} : ∀ (l : List I3) (j i : Nat), i ∈ selr fl l j → ∃ x ∈ l, x.1 = i
  | [], _, _, h => by cases h
  | x :: l, j, i, h => by
    unfold selr at h
    split at h
    · rw [List.mem_cons] at h
      rcases h with rfl | h
      · exact ⟨x, List.mem_cons_self, rfl⟩
      · obtain ⟨y, h1, h2⟩ := selr_mem l _ i h
        exact ⟨y, List.mem_cons_of_mem _ h1, h2⟩
    · obtain ⟨y, h1, h2⟩ := selr_mem l _ i h
      exact ⟨y, List.mem_cons_of_mem _ h1, h2⟩
theorem takeChosen_e {Z : Nat → Nat} {fl : Nat → Bool} {IT : List I3} (hN : 6000 ≤ N) (hB : MB P R B M) (hS : CS P R B L C M) (hl : L.length ≤ 432) (hok : ∀ x ∈ L, okF P B x) (hIT : IT = its Z (Wf M L) (Wnf M L) L.length L.length) (hI : IA IT C) (hfl : ∀ j, j < IT.length → C.1 18 j = if fl j = true then 1 else 0) (hT : CTd (Wf M L) (wl (Wnf M L) L.length) C) :
    ok (f_X10_takeChosen N (nI (wl (Wnf M L) L.length).length) C) fun C' => ∃ o, isO (Wf M L) (Ff L) (selr fl IT 0) o ∧ CTd (Wf M L) (wl (Wnf M L) L.length ++ o) C' ∧ fr (fun r c => (r = 22 ∧ 2 ≤ c ∧ c ≤ 3) ∨ r = 23) C C' := by
  have hITlen : IT.length ≤ L.length := by rw [hIT]; exact its_len
  have hmem : ∀ x ∈ IT, x.1 < L.length ∧ x.2.2 = Wf M L x.1 ∧ Wnf M L x.1 = false := by
    intro x hx
    rw [hIT] at hx
    obtain ⟨-, h2, -, h4, h5⟩ := its_mem (Nat.le_refl _) x hx
    exact ⟨h2, h4, h5⟩
  have hpwI : IT.Pairwise (fun x y => x.1 < y.1) := by rw [hIT]; exact its_pw (Nat.le_refl _)
  generalize hw : wl (Wnf M L) L.length = w at hT ⊢
  unfold f_X10_takeChosen
  rw [q_jp]
  refine ok_up0 (n := IT.length) (fun j S => ∃ o, fr (fun r c => (r = 22 ∧ 2 ≤ c ∧ c ≤ 3) ∨ r = 23) C S ∧ CTd (Wf M L) (w ++ o) S ∧ o.Pairwise (fun a b => rk (Wf M L) (Ff L) a < rk (Wf M L) (Ff L) b) ∧ (∀ x, x ∈ o ↔ x ∈ selr fl (IT.take j) 0) ∧ ∀ a ∈ o, ∀ x ∈ IT.drop j, a < x.1) ?_ ?_ (by omega) ⟨[], fr.rf, by rw [List.append_nil]; exact hT, List.Pairwise.nil, fun x => Iff.rfl, fun a ha => by cases ha⟩
  · rintro K S ⟨o, g1, g2, g3, g4, g5⟩
    unfold b_X10_takeChosen_2
    rw [g1.2 15 3 (by omega), hI.1, if_pos (by rw [q_le (by omega) (by omega)]; omega)]
    rw [List.take_length] at g4
    exact ok_s ⟨o, ⟨g3, g4⟩, g2, g1⟩
  · rintro K j S hj ⟨o, g1, g2, g3, g4, g5⟩ hK
    have hx := List.getElem?_eq_getElem hj
    have hxm : IT[j] ∈ IT := List.getElem_mem hj
    generalize IT[j] = x at hx hxm
    obtain ⟨m1, m2, m3⟩ := hmem x hxm
    obtain ⟨i1, i2, i3⟩ := hI.2 j x hx
    have hdrop := drop_x hx
    have hpd : (IT.drop j).Pairwise (fun x y => x.1 < y.1) := hpwI.sublist (List.drop_sublist _ _)
    rw [hdrop, List.pairwise_cons] at hpd
    have e8 : 0 + (IT.take j).length = j := by rw [List.length_take]; omega
    unfold b_X10_takeChosen_2 j_X10_takeChosen_128
    rw [g1.2 15 3 (by omega), hI.1, if_neg (by rw [q_le (by omega) (by omega)]; omega), q_ck (by omega) (by omega), q_jp, q_tn (by omega), g1.2 18 j (by omega), hfl j hj]
    simp only [q_nm]
    rw [← nI_succ]
    by_cases ef : fl j = true
    · rw [if_pos ef, if_neg (show ¬ (1 : Int32) = 0 by decide), q_ck (by omega) (by omega), q_ck (by omega) (by omega), g1.2 16 j (by omega), g1.2 17 j (by omega), i1, i3, m2]
      have hok1 : ∀ a ∈ o, a < x.1 := fun a ha => g5 a ha x (by rw [hdrop]; exact List.mem_cons_self)
      have hoI : ∀ a ∈ o, a < L.length ∧ Wnf M L a = false := by
        intro a ha
        obtain ⟨y, y1, y2⟩ := selr_mem _ _ a ((g4 a).mp ha)
        rw [← y2]
        have := hmem y (List.mem_of_mem_take y1)
        exact ⟨this.1, this.2.2⟩
      have hnd : (w ++ (o ++ [x.1])).Nodup := by
        rw [← hw, List.nodup_append, List.nodup_append]
        refine ⟨wl_nodup _, ⟨pw_nodup g3, nd1 _, ?_⟩, ?_⟩
        · intro a ha b hb e
          rw [List.mem_singleton] at hb
          have := hok1 a ha
          omega
        · intro a ha b hb e
          rw [wl_mem] at ha
          have : Wnf M L b = false := by
            rw [List.mem_append, List.mem_singleton] at hb
            rcases hb with q | rfl
            · exact (hoI b q).2
            · exact m3
          rw [e, this] at ha
          exact absurd ha.2 (by decide)
      have hlen := nodup_len (n := L.length) hnd (by
        intro y hy
        rw [List.mem_append, List.mem_append, List.mem_singleton] at hy
        rcases hy with q | q | rfl
        · rw [← hw] at q; exact (wl_mem.mp q).1
        · exact (hoI y q).1
        · exact m1)
      rw [← List.append_assoc, List.length_append] at hlen
      have h1 : [x.1].length = 1 := rfl
      obtain ⟨S1, b1, b2, b3⟩ := tappend_e (N := N) (k := x.1) g2 (by omega)
      rw [b1, q_bd]
      have e22 : S1.1 22 2 - 1 = nI (w ++ o).length := by
        rw [b3.1, List.length_append, h1]
        exact nI_pred _
      rw [e22, q_jp, q_jp]
      have S1S : CS P R B L S1 M := hS.go ((g1.tr b2).mo (fun r k w => by unfold PQc; omega))
      refine cinsert hN hB S1S hl hok m1 hok1 g3 (by omega) ?_ ?_
      · intro i y hy
        refine b3.2.2 i y ?_
        rw [List.getElem?_append_left (List.getElem?_eq_some_iff.mp hy).1]
        exact hy
      · intro S2 o' d1 d2 d3 d4 d5 d6
        refine hK _ ⟨o', (g1.tr b2).tr (d1.mo (fun r k w => by omega)), ⟨?_, ?_, d6⟩, d2, ?_, ?_⟩
        · rw [d1.2 _ _ (by omega), b3.1, List.length_append, List.length_append, List.length_append, d4]
          congr 1
        · rw [d1.2 _ _ (by omega), b3.2.1, lsum_app, lsum_app, lsum_app, d5]
          congr 1
          show _ + _ + (Wf M L x.1 + 0) = _
          omega
        · intro y
          rw [d3 y, g4 y, take_x hx, selr_app, List.mem_append, e8]
          unfold selr
          rw [if_pos ef]
          show _ ↔ _ ∨ y ∈ [x.1]
          rw [List.mem_singleton]
          exact Or.comm
        · intro a ha y hy
          rcases (d3 a).mp ha with q | q
          · rw [q]; exact hpd.1 y hy
          · exact g5 a q y (by rw [hdrop]; exact List.mem_cons_of_mem _ hy)
    · rw [if_neg ef, if_pos (show (0 : Int32) = 0 from rfl)]
      refine hK _ ⟨o, g1, g2, g3, ?_, ?_⟩
      · intro y
        rw [g4 y, take_x hx, selr_app, List.mem_append, e8]
        unfold selr
        rw [if_neg ef]
        show _ ↔ _ ∨ y ∈ []
        simp
      · intro a ha y hy
        exact g5 a ha y (by rw [hdrop]; exact List.mem_cons_of_mem _ hy)
/-- the class tells -/
theorem ctell_e {room : Nat} {l0 l1 : List Nat} (hN : 6000 ≤ N) (hB : MB P R B M) (hM : MN P R B M) (hr : room ≤ 400) (hL : L = FBn (Sf (inn M) P) B) (hS : CS P R B L C M) (hG : RG P R (memM M) C) (h24 : SG 24 l0 C) (h26 : SG 26 l1 C) :
    ok (bd (f_X9_clear N C) fun S4 => bd (f_X0_clear N S4) fun S5 => jp (j_X10_tell_105 N (nI room)) fun k105 => jp (lp (fun _ _ _ => none) (b_X10_tell_35 N k105) N) fun k35 => k35 0 0 S5) fun x => ∃ o, isO (Wf M L) (Ff L) (CHf (Zf M (P + R) L) (Wf M L) (Wnf M L) L.length room) o ∧ fr PQc C x.2 ∧ CTd (Wf M L) (wl (Wnf M L) L.length ++ o) x.2 ∧ RG P R (memM M) x.2 ∧ SG 24 (TXT M (P + R) ((wl (Wnf M L) L.length ++ o).map (Lg L)) (wl (Wnf M L) L.length ++ o).length) x.2 ∧ (∃ l, SG 26 l x.2) ∧ x.1 = nI (TXT M (P + R) ((wl (Wnf M L) L.length ++ o).map (Lg L)) (wl (Wnf M L) L.length ++ o).length).length := by
  have hl : L.length ≤ 432 := by rw [hL]; exact (FL_le hB).2
  have hps : psum L ≤ 432 := by rw [hL]; exact (FL_le hB).1
  have hok : ∀ x ∈ L, okF P B x := by rw [hL]; exact FB_ok B (Nat.le_refl _)
  have hZ := fun f (hf : f < L.length) => Zf_b (L := L) hB hM hok hf
  unfold f_X9_clear f_X0_clear f_X6_clear
  simp only [q_nm, q_bd, q_jp]
  generalize hS5 : puI (puI (puI (puI C 22 2 0) 22 3 0) 24 1 0) 15 3 0 = S5
  have f5 : fr PQc C S5 := by rw [← hS5]; exact (((fr.rf.pu (by unfold PQc; omega)).pu (by unfold PQc; omega)).pu (by unfold PQc; omega)).pu (by unfold PQc; omega)
  have k5 : ∀ r k, ¬ ((r = 22 ∧ 2 ≤ k ∧ k ≤ 3) ∨ (r = 24 ∧ k = 1) ∨ (r = 15 ∧ k = 3)) → S5.1 r k = C.1 r k := by
    intro r k a
    rw [← hS5, q_g, if_neg (by omega), q_g, if_neg (by omega), q_g, if_neg (by omega), q_g, if_neg (by omega)]
  have a22 : S5.1 22 2 = 0 := by rw [← hS5]; simp (disch := omega) only [q_nm, q_jp, q_bd, q_bd2, q_zb0, q_zb1, q_zbn0, q_zbn1, q_z10, q_z11, q_z1n0, q_z1n1, q_lit, q_add, q_mul, q_lt, q_le, q_eq, q_tn, q_ck, q_nm1, q_n1e, q_gS, q_gR, q_gK, q_g2, if_true, if_false]
  have a23 : S5.1 22 3 = 0 := by rw [← hS5]; simp (disch := omega) only [q_nm, q_jp, q_bd, q_bd2, q_zb0, q_zb1, q_zbn0, q_zbn1, q_z10, q_z11, q_z1n0, q_z1n1, q_lit, q_add, q_mul, q_lt, q_le, q_eq, q_tn, q_ck, q_nm1, q_n1e, q_gS, q_gR, q_gK, q_g2, if_true, if_false]
  have a24 : S5.1 24 1 = 0 := by rw [← hS5]; simp (disch := omega) only [q_nm, q_jp, q_bd, q_bd2, q_zb0, q_zb1, q_zbn0, q_zbn1, q_z10, q_z11, q_z1n0, q_z1n1, q_lit, q_add, q_mul, q_lt, q_le, q_eq, q_tn, q_ck, q_nm1, q_n1e, q_gS, q_gR, q_gK, q_g2, if_true, if_false]
  have a15 : S5.1 15 3 = 0 := by rw [← hS5, q_gS]
  have g5 : RG P R (memM M) S5 := hG.go (k5 _ _ (by omega)) (funext fun k => k5 _ _ (by omega)) (funext fun k => k5 _ _ (by omega))
  have s26 : SG 26 l1 S5 := h26.go (k5 _ _ (by omega)) (k5 _ _ (by omega)) (funext fun k => k5 _ _ (by omega))
  have s24 : SG 24 [] S5 := by
    obtain ⟨cap, h2, h3, h4, h5, h1, hf', hv⟩ := h24
    exact ⟨cap, by rw [k5 _ _ (by omega)]; exact h2, h3, h4, Nat.zero_le _, a24, fun j hj => by rw [k5 _ _ (by omega)]; exact hf' j hj, fun i x h => by simp at h⟩
  refine ok_l3 (fun m v x S => ∃ f, x = nI f ∧ f ≤ L.length ∧ L.length - f = m ∧ v = nI (lsum (Zf M (P + R) L) (wl (Wnf M L) f)) ∧ fr PQc C S ∧ RG P R (memM M) S ∧ (∃ l, SG 26 l S) ∧ SG 24 [] S ∧ CTd (Wf M L) (wl (Wnf M L) f) S ∧ IA (itu (Zf M (P + R) L) (Wf M L) (Wnf M L) f) S ∧ ∀ j, j < (itu (Zf M (P + R) L) (Wf M L) (Wnf M L) f).length → S.1 18 j = 0) ?_ N L.length 0 0 S5 (by omega) ⟨0, rfl, by omega, rfl, rfl, f5, g5, ⟨_, s26⟩, s24, ⟨a22, a23, fun k i h => by simp [wl] at h⟩, ⟨a15, fun j x h => by simp [itu] at h⟩, fun j hj => by simp [itu] at hj⟩
  rintro K m v x S ⟨f, rfl, c1, c2, c3, c4, c5, ⟨l6, c6⟩, c7, c8, c9, c10⟩ hK
  have hwl := wl_len (Wn := Wnf M L) f
  have hil := itu_len (Z := Zf M (P + R) L) (W := Wf M L) (Wn := Wnf M L) f
  have cS := hS.go c4
  unfold b_X10_tell_35
  rw [cS.2.2.1]
  by_cases hf : f < L.length
  · rw [if_neg (by rw [q_le (by omega) (by omega)]; omega)]
    refine ok_bd2 (cl_e hN hM cS c5 c6 hl hok hf) ?_
    rintro v S1 ⟨d1, d2, d3, l7, d4⟩
    have d1' : v = nI (clM M (P + R) (Lg L f)).length := d1
    have d2' : fr (fun r _ => r = 7 ∨ r = 26 ∨ r = 27) S S1 := d2
    have d3' : RG P R (memM M) S1 := d3
    have d4' : SG 26 l7 S1 := d4
    have f1 : fr PQc C S1 := c4.tr (d2'.mo (fun r k w => by unfold PQc; omega))
    have S1S := hS.go f1
    have e1 : v + 1 = nI (Zf M (P + R) L f) := by rw [d1']; exact q_add _ 1
    unfold j_X10_tell_99
    rw [q_nm, e1, cwarn_e hB S1S.1 S1S.2.2.2 hl hok hf, q_bd, q_jp]
    simp only [q_nm]
    rw [← nI_succ, cweight_e hB S1S.1 S1S.2.2.2 hl hok hf, q_bd]
    have c7' : SG 24 [] S1 := c7.go (d2'.2 _ _ (by omega)) (d2'.2 _ _ (by omega)) (funext fun k => d2'.2 _ _ (by omega))
    have c8' : CTd (Wf M L) (wl (Wnf M L) f) S1 := c8.go (d2'.2 _ _ (by omega)) (d2'.2 _ _ (by omega)) (fun k => d2'.2 _ _ (by omega))
    have c9' : IA (itu (Zf M (P + R) L) (Wf M L) (Wnf M L) f) S1 := ⟨by rw [d2'.2 _ _ (by omega)]; exact c9.1, fun j x hx => by rw [d2'.2 _ _ (by omega), d2'.2 _ _ (by omega), d2'.2 _ _ (by omega)]; exact c9.2 j x hx⟩
    have c10' : ∀ j, j < (itu (Zf M (P + R) L) (Wf M L) (Wnf M L) f).length → S1.1 18 j = 0 := fun j hj => by rw [d2'.2 _ _ (by omega)]; exact c10 j hj
    by_cases ew : Wnf M L f = true
    · rw [if_pos ew, if_neg (show ¬ (1 : Int32) = 0 by decide)]
      obtain ⟨S2, b1, b2, b3⟩ := tappend_e (N := N) (W := Wf M L) (k := f) c8' (by omega)
      have b1' : f_X9_append N (nI f) (nI (wtf M (Lg L f))) S1 = some S2 := b1
      rw [q_bd, b1', q_bd]
      have ewl : wl (Wnf M L) (f + 1) = wl (Wnf M L) f ++ [f] := by show wl (Wnf M L) f ++ _ = _; rw [if_pos ew]
      have eit : itu (Zf M (P + R) L) (Wf M L) (Wnf M L) (f + 1) = itu (Zf M (P + R) L) (Wf M L) (Wnf M L) f := by show _ ++ _ = _; rw [if_pos ew, List.append_nil]
      refine hK _ _ _ _ ?_ ⟨f + 1, rfl, by omega, rfl, ?_, f1.tr (b2.mo (fun r k w => by unfold PQc; omega)), ?_, ⟨l7, d4'.go (b2.2 _ _ (by omega)) (b2.2 _ _ (by omega)) (funext fun k => b2.2 _ _ (by omega))⟩, c7'.go (b2.2 _ _ (by omega)) (b2.2 _ _ (by omega)) (funext fun k => b2.2 _ _ (by omega)), ?_, ?_, ?_⟩
      · omega
      · rw [c3, q_add, ewl, lsum_app]; rfl
      · exact d3'.go (b2.2 _ _ (by omega)) (funext fun k => b2.2 _ _ (by omega)) (funext fun k => b2.2 _ _ (by omega))
      · rw [ewl]; exact b3
      · rw [eit]
        exact ⟨by rw [b2.2 _ _ (by omega)]; exact c9'.1, fun j x hx => by rw [b2.2 _ _ (by omega), b2.2 _ _ (by omega), b2.2 _ _ (by omega)]; exact c9'.2 j x hx⟩
      · rw [eit]
        intro j hj
        rw [b2.2 _ _ (by omega)]
        exact c10' j hj
    · rw [if_neg ew, if_pos (show (0 : Int32) = 0 from rfl)]
      obtain ⟨S2, b1, b2, b3, b4, b5⟩ := offer_e (N := N) (x := (f, Zf M (P + R) L f, Wf M L f)) c9' (by omega)
      have b1' : f_X0_offer N (nI f) (nI (Zf M (P + R) L f)) (nI (wtf M (Lg L f))) S1 = some S2 := b1
      rw [b1', q_bd]
      have ewl : wl (Wnf M L) (f + 1) = wl (Wnf M L) f := by show wl (Wnf M L) f ++ _ = _; rw [if_neg ew, List.append_nil]
      have eit : itu (Zf M (P + R) L) (Wf M L) (Wnf M L) (f + 1) = itu (Zf M (P + R) L) (Wf M L) (Wnf M L) f ++ [(f, Zf M (P + R) L f, Wf M L f)] := by show _ ++ _ = _; rw [if_neg ew]
      refine hK _ _ _ _ ?_ ⟨f + 1, rfl, by omega, rfl, ?_, f1.tr (b2.mo (fun r k w => by unfold PQc; omega)), ?_, ⟨l7, d4'.go (b2.2 _ _ (by omega)) (b2.2 _ _ (by omega)) (funext fun k => b2.2 _ _ (by omega))⟩, c7'.go (b2.2 _ _ (by omega)) (b2.2 _ _ (by omega)) (funext fun k => b2.2 _ _ (by omega)), ?_, ?_, ?_⟩
      · omega
      · rw [ewl]; exact c3
      · exact d3'.go (b2.2 _ _ (by omega)) (funext fun k => b2.2 _ _ (by omega)) (funext fun k => b2.2 _ _ (by omega))
      · rw [ewl]
        exact c8'.go (b2.2 _ _ (by omega)) (b2.2 _ _ (by omega)) (fun k => b2.2 _ _ (by omega))
      · rw [eit]; exact b3
      · rw [eit]
        intro j hj
        rw [List.length_append] at hj
        have h1 : [(f, Zf M (P + R) L f, Wf M L f)].length = 1 := rfl
        by_cases e : j < (itu (Zf M (P + R) L) (Wf M L) (Wnf M L) f).length
        · rw [b5 j e]; exact c10' j e
        · have : j = (itu (Zf M (P + R) L) (Wf M L) (Wnf M L) f).length := by omega
          rw [this]; exact b4
  · have : f = L.length := by omega
    subst this
    rw [if_pos (by rw [q_le (by omega) (by omega)]; omega)]
    rw [itu_n] at c9 c10
    have hlz := lsum_b (Z := Zf M (P + R) L) (wl (Wnf M L) L.length) (fun x hx => (hZ x (wl_mem.mp hx).1).2.1)
    -- behind the choosing
    have hfin : ∀ (fl : Nat → Bool) (S2 : St), fr PC S S2 → (∀ j, j < (its (Zf M (P + R) L) (Wf M L) (Wnf M L) L.length L.length).length → S2.1 18 j = if fl j = true then 1 else 0) → CHf (Zf M (P + R) L) (Wf M L) (Wnf M L) L.length room = selr fl (its (Zf M (P + R) L) (Wf M L) (Wnf M L) L.length L.length) 0 → ok (bd (f_X10_takeChosen N (S2.1 22 2) S2) fun S10 => bd (f_X10_writeText N S10) fun S11 => some ((S11.1 24 1), S11)) fun x => ∃ o, isO (Wf M L) (Ff L) (CHf (Zf M (P + R) L) (Wf M L) (Wnf M L) L.length room) o ∧ fr PQc C x.2 ∧ CTd (Wf M L) (wl (Wnf M L) L.length ++ o) x.2 ∧ RG P R (memM M) x.2 ∧ SG 24 (TXT M (P + R) ((wl (Wnf M L) L.length ++ o).map (Lg L)) (wl (Wnf M L) L.length ++ o).length) x.2 ∧ (∃ l, SG 26 l x.2) ∧ x.1 = nI (TXT M (P + R) ((wl (Wnf M L) L.length ++ o).map (Lg L)) (wl (Wnf M L) L.length ++ o).length).length := by
      intro fl S2 q1 q2 q3
      have q1P : fr PQc C S2 := c4.tr (q1.mo (fun r k w => by unfold PC at w; unfold PQc; omega))
      have kk : ∀ r k, ¬ PC r k → S2.1 r k = S.1 r k := q1.2
      have t8 : CTd (Wf M L) (wl (Wnf M L) L.length) S2 := c8.go (kk _ _ (by unfold PC; omega)) (kk _ _ (by unfold PC; omega)) (fun k => kk _ _ (by unfold PC; omega))
      rw [t8.1]
      refine ok_bd (takeChosen_e (Z := Zf M (P + R) L) hN hB (hS.go q1P) hl hok rfl (c9.go q1) q2 t8) ?_
      rintro S3 ⟨o, o1, o2, o3⟩
      rw [← q3] at o1
      have q3P : fr PQc C S3 := q1P.tr (o3.mo (fun r k w => by unfold PQc; omega))
      have hCW : ∀ x ∈ CHf (Zf M (P + R) L) (Wf M L) (Wnf M L) L.length room, x < L.length ∧ Wnf M L x = false := by
        intro x hx
        unfold CHf at hx
        split at hx
        · cases hx
        · obtain ⟨y, y1, y2⟩ := chs_mem _ _ x hx
          rw [← y2]
          have := its_mem (Nat.le_refl _) y y1
          exact ⟨this.2.1, this.2.2.2.2⟩
      have hnd : (wl (Wnf M L) L.length ++ o).Nodup := by
        rw [List.nodup_append]
        refine ⟨wl_nodup _, pw_nodup o1.1, ?_⟩
        intro a ha b hb e
        rw [wl_mem] at ha
        have := (hCW b ((o1.2 b).mp hb)).2
        rw [e, this] at ha
        exact absurd ha.2 (by decide)
      have hlt : ∀ x ∈ wl (Wnf M L) L.length ++ o, x < L.length := by
        intro i hi
        rw [List.mem_append] at hi
        rcases hi with w | w
        · exact (wl_mem.mp w).1
        · exact (hCW i ((o1.2 i).mp w)).1
      have gG : RG P R (memM M) S3 := (c5.go (kk _ _ (by unfold PC; omega)) (funext fun k => kk _ _ (by unfold PC; omega)) (funext fun k => kk _ _ (by unfold PC; omega))).go (o3.2 _ _ (by omega)) (funext fun k => o3.2 _ _ (by omega)) (funext fun k => o3.2 _ _ (by omega))
      have g24 : SG 24 [] S3 := (c7.go (kk _ _ (by unfold PC; omega)) (kk _ _ (by unfold PC; omega)) (funext fun k => kk _ _ (by unfold PC; omega))).go (o3.2 _ _ (by omega)) (o3.2 _ _ (by omega)) (funext fun k => o3.2 _ _ (by omega))
      have g26 : SG 26 l6 S3 := (c6.go (kk _ _ (by unfold PC; omega)) (kk _ _ (by unfold PC; omega)) (funext fun k => kk _ _ (by unfold PC; omega))).go (o3.2 _ _ (by omega)) (o3.2 _ _ (by omega)) (funext fun k => o3.2 _ _ (by omega))
      refine ok_bd (writeText_e hN hM (hS.go q3P) gG g24 o2 hl hps hok hnd hlt) ?_
      rintro S4 ⟨p1, p2, p3⟩
      apply ok_s
      refine ⟨o, o1, q3P.tr (p3.mo (fun r k w => by unfold PQc; omega)), o2.go (p3.2 _ _ (by omega)) (p3.2 _ _ (by omega)) (fun k => p3.2 _ _ (by omega)), p2, p1, ⟨l6, g26.go (p3.2 _ _ (by omega)) (p3.2 _ _ (by omega)) (funext fun k => p3.2 _ _ (by omega))⟩, ?_⟩
      obtain ⟨cap, h2, h3, h4, h5, h1, hf', hv⟩ := p1
      exact h1
    have hitok : ∀ x ∈ its (Zf M (P + R) L) (Wf M L) (Wnf M L) L.length L.length, itOK x := itsOK hZ (Nat.le_refl _)
    have hitl : (its (Zf M (P + R) L) (Wf M L) (Wnf M L) L.length L.length).length ≤ 432 := Nat.le_trans its_len hl
    have hyes : ∀ u, u = lsum (Zf M (P + R) L) (wl (Wnf M L) L.length) - 1 → u ≤ room → ok (j_X10_tell_128 N S (nI (room - u))) fun x => ∃ o, isO (Wf M L) (Ff L) (CHf (Zf M (P + R) L) (Wf M L) (Wnf M L) L.length room) o ∧ fr PQc C x.2 ∧ CTd (Wf M L) (wl (Wnf M L) L.length ++ o) x.2 ∧ RG P R (memM M) x.2 ∧ SG 24 (TXT M (P + R) ((wl (Wnf M L) L.length ++ o).map (Lg L)) (wl (Wnf M L) L.length ++ o).length) x.2 ∧ (∃ l, SG 26 l x.2) ∧ x.1 = nI (TXT M (P + R) ((wl (Wnf M L) L.length ++ o).map (Lg L)) (wl (Wnf M L) L.length ++ o).length).length := by
      intro u hu hur
      unfold j_X10_tell_128
      refine ok_bd (cchoose_e hN c9 hitl hitok (show room - u ≤ 400 by omega)) ?_
      rintro S2 ⟨q1, fl, q2, q3⟩
      refine hfin fl S2 q1 q2 ?_
      unfold CHf
      rw [if_neg (by omega), ← hu]
      exact q3
    unfold j_X10_tell_105
    rw [q_jp, c8.1]
    have hZ0 : (wl (Wnf M L) L.length).length = 0 → lsum (Zf M (P + R) L) (wl (Wnf M L) L.length) = 0 := by
      intro h
      rw [List.length_eq_zero_iff.mp h]
      rfl
    have hZ1 : (wl (Wnf M L) L.length).length ≠ 0 → 1 ≤ lsum (Zf M (P + R) L) (wl (Wnf M L) L.length) := by
      intro h
      cases hw : wl (Wnf M L) L.length with
      | nil => rw [hw] at h; exact absurd rfl h
      | cons a t =>
        have ha : a ∈ wl (Wnf M L) L.length := by rw [hw]; exact List.mem_cons_self
        have := (hZ a (wl_mem.mp ha).1).1
        show 1 ≤ Zf M (P + R) L a + _
        omega
    have hwl2 := wl_len (Wn := Wnf M L) L.length
    have z0 : (nI (wl (Wnf M L) L.length).length = 0) = ((wl (Wnf M L) L.length).length = 0) := q_eq (b := 0) (by omega) (by omega)
    by_cases e : (wl (Wnf M L) L.length).length = 0
    · rw [if_pos (z0 ▸ e)]
      have := hyes 0 (by rw [hZ0 e]) (Nat.zero_le _)
      rw [Nat.sub_zero] at this
      exact this
    · rw [if_neg (fun w => e (z0 ▸ w)), c3]
      have h1 := hZ1 e
      by_cases e2 : lsum (Zf M (P + R) L) (wl (Wnf M L) L.length) - 1 ≤ room
      · have e3 : nI room - nI (lsum (Zf M (P + R) L) (wl (Wnf M L) L.length)) + 1 = nI (room - (lsum (Zf M (P + R) L) (wl (Wnf M L) L.length) - 1)) := by
          have x1 : nI room = nI (room - (lsum (Zf M (P + R) L) (wl (Wnf M L) L.length) - 1)) + nI (lsum (Zf M (P + R) L) (wl (Wnf M L) L.length) - 1) := by
            rw [q_add, Nat.sub_add_cancel e2]
          have x2 : nI (lsum (Zf M (P + R) L) (wl (Wnf M L) L.length)) = nI (lsum (Zf M (P + R) L) (wl (Wnf M L) L.length) - 1) + 1 := by
            rw [← nI_succ, Nat.sub_add_cancel h1]
          generalize nI (room - (lsum (Zf M (P + R) L) (wl (Wnf M L) L.length) - 1)) = p at x1 ⊢
          generalize nI (lsum (Zf M (P + R) L) (wl (Wnf M L) L.length) - 1) = q at x1 x2
          rw [x1, x2, Int32.sub_eq_add_neg, Int32.neg_add, Int32.sub_eq_add_neg, Int32.add_assoc, Int32.add_assoc, Int32.add_assoc, Int32.add_left_neg, Int32.add_zero, Int32.add_right_neg, Int32.add_zero]
        rw [e3]
        exact hyes _ rfl e2
      · -- no room
        have e3 : (nI room - nI (lsum (Zf M (P + R) L) (wl (Wnf M L) L.length)) + 1) < 0 := by
          rw [Int32.lt_iff_toInt_lt, Int32.toInt_add, Int32.toInt_sub, nI_toInt (by omega), nI_toInt (by omega)]
          have : (1 : Int32).toInt = 1 := by decide
          have : (0 : Int32).toInt = 0 := by decide
          rw [Int.bmod_eq_of_le (n := (room : Int) - _) (by omega) (by omega), Int.bmod_eq_of_le (by omega) (by omega)]
          omega
        unfold j_X10_tell_128 f_X0_choose
        rw [if_pos e3, q_bd]
        refine hfin (fun _ => false) S fr.rf (fun j hj => c10 j hj) ?_
        unfold CHf
        rw [if_pos (by omega)]
        have : ∀ (l : List I3) (j : Nat), selr (fun _ => false) l j = [] := by
          intro l
          induction l with
          | nil => intro j; rfl
          | cons x l ih => intro j; unfold selr; rw [if_neg (by decide)]; exact ih _
        rw [this]
end CTB
