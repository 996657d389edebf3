/-! pure part: the reference's clause -/
def MN (P R B : Nat) (M : St) : Prop := M.1 0 3 = nI P ∧ M.1 0 4 = nI R ∧ P ≤ 6 ∧ R ≤ 5 ∧ B ≤ 24 ∧ (∀ n, n < P + R → WL (M.1 3) (M.1 2) n) ∧ (∀ b, b < B → WL (M.1 11) (M.1 10) b) ∧ memOK P R (memM M) ∧ ∀ s, 0 < s → s < 2 ^ P → M.1 12 s = nI (Gn (memM M) (P + R) s) ∧ M.1 13 s = nI (Go (memM M) (P + R) s)
theorem wd_sz {sz lt : Nat → Int32} {idx : Nat} (h : WL sz lt idx) : sz idx = nI (wd sz lt idx).length := by
  obtain ⟨s, l, h1, h2, h3, h4⟩ := h
  rw [wd_e h3 h2 h4, List.length_map, List.length_range, h3]
theorem wd_at {sz lt : Nat → Int32} {idx k : Nat} (h : WL sz lt idx) (hk : k < (wd sz lt idx).length) : ∃ x, (wd sz lt idx)[k]? = some x ∧ lt (12 * idx + k) = nI x ∧ x < 128 := by
  obtain ⟨s, l, h1, h2, h3, h4⟩ := h
  rw [wd_e h3 h2 h4] at hk ⊢
  rw [List.length_map, List.length_range] at hk
  obtain ⟨a, c⟩ := h4 k hk
  have := letP_b a
  exact ⟨l k, by simp [hk], c, by omega⟩
section MC2
variable {N P R B : Nat} {M : St}
theorem namesSize_e {names : Nat} (hN : 6000 ≤ N) (h : MN P R B M) (h0 : 0 < names) (hn : names < 2 ^ (P + R)) : f_X11_namesSize N (nI names) M = some (nI (nml (NWf M) names (P + R)).2.length) := by
  obtain ⟨m1, m2, m3, m4, m5, m6, -⟩ := h
  have hwl : ∀ k, k < P + R → (NWf M k).length ≤ 12 := fun k hk => (wd_len (m6 k hk)).2
  unfold f_X11_namesSize
  rw [q_jp]
  have key : ∀ d N' k, d < N' → k + d = P + R → lp (fun _ _ => none) (b_X11_namesSize_4 (nI names) M) N' (nI ((nml (NWf M) names k).2.length + (if (nml (NWf M) names k).1 = true then 0 else 2))) (nI k) = some (nI (nml (NWf M) names (P + R)).2.length) := by
    intro d
    induction d with
    | zero =>
      intro N' k hN' hk
      obtain ⟨N', rfl⟩ : ∃ j, N' = j + 1 := ⟨N' - 1, by omega⟩
      have : k = P + R := by omega
      subst this
      rw [q_lp]
      unfold b_X11_namesSize_4
      rw [m1, m2, q_add, if_pos (by rw [q_le (by omega) (by omega)]; omega), nml_nz h0 hn, if_neg (by decide)]
      have : nI ((nml (NWf M) names (P + R)).2.length + 2) - nI 2 = nI (nml (NWf M) names (P + R)).2.length := by
        rw [q_sub (by omega), Nat.add_sub_cancel]
      exact congrArg some this
    | succ d ih =>
      intro N' k hN' hk
      obtain ⟨N', rfl⟩ : ∃ j, N' = j + 1 := ⟨N' - 1, by omega⟩
      have ih' := ih N' (k + 1) (by omega) (by omega)
      rw [q_lp]
      generalize lp (fun _ _ => none) (b_X11_namesSize_4 (nI names) M) N' = K at ih' ⊢
      unfold b_X11_namesSize_4 j_X11_namesSize_39
      rw [m1, m2, q_add, if_neg (by rw [q_le (by omega) (by omega)]; omega), q_jp, q_bitN (by omega), q_ck (by omega) (by omega), q_tn (by omega), wd_sz (m6 k (by omega))]
      simp only [q_nm]
      rw [← nI_succ k]
      by_cases e : names.testBit k = true
      · rw [if_pos e, if_pos rfl]
        have e1 : nI (wd (M.1 3) (M.1 2) k).length + 2 = nI ((NWf M k).length + 2) := q_add _ 2
        rw [e1, q_add]
        have e2 : nml (NWf M) names (k + 1) = (false, (nml (NWf M) names k).2 ++ ((if (nml (NWf M) names k).1 = true then [] else [44, 32]) ++ NWf M k)) := by
          show (if names.testBit k = true then _ else _ : Bool × List Nat) = _
          rw [if_pos e]
        rw [e2] at ih'
        have e3 : ((nml (NWf M) names k).2 ++ ((if (nml (NWf M) names k).1 = true then [] else [44, 32]) ++ NWf M k)).length + 2 = (nml (NWf M) names k).2.length + (if (nml (NWf M) names k).1 = true then 0 else 2) + ((NWf M k).length + 2) := by
          rw [List.length_append, List.length_append]
          split
          · show _ + (0 + _) + 2 = _; omega
          · show _ + (2 + _) + 2 = _; omega
        rw [← e3]
        exact ih'
      · rw [if_neg e, if_neg (by decide)]
        have e2 : nml (NWf M) names (k + 1) = nml (NWf M) names k := by
          show (if names.testBit k = true then _ else _ : Bool × List Nat) = _
          rw [if_neg e]
        rw [e2] at ih'
        have e0 : ∀ x, nI x + 0 = nI x := fun x => Int32.add_zero _
        rw [e0]
        exact ih'
  exact key (P + R) N 0 (by omega) (by omega)
theorem digits_e {h : Nat} (hh : h < 24) : f_X11_digits N (nI h) = some (nI (hl h).length) := by
  unfold f_X11_digits hl
  have c10 : ((10 : Int32) ≤ nI h) = (10 ≤ h) := q_le (a := 10) (by omega) (by omega)
  by_cases e : h < 10
  · rw [if_neg (show ¬ (10 : Int32) ≤ nI h by rw [c10]; omega), if_pos e]; rfl
  · rw [if_pos (show (10 : Int32) ≤ nI h by rw [c10]; omega), if_neg e]; rfl
theorem clauseSize_e {x : F4} (hN : 6000 ≤ N) (h : MN P R B M) (hx : okF P B x) : f_X11_clauseSize N (nI x.1) (nI x.2.1) (nI x.2.2.1) (nI x.2.2.2) M = some (nI (clM M (P + R) x).length) := by
  obtain ⟨b, f, t, s⟩ := x
  obtain ⟨x1, x2, x3, x4, x5⟩ := hx
  have x1 : b < B := x1
  have x2 : f ≤ t := x2
  have x3 : t < 24 := x3
  have x4 : 0 < s := x4
  have x5 : s < 2 ^ P := x5
  have hm := h
  obtain ⟨m1, m2, m3, m4, m5, m6, m7, m8, m9⟩ := hm
  have hp6 := pw6 m3
  have hpp := pow_le (a := P) (b := P + R) (by omega)
  have hp11 := pow_le (a := P + R) (b := 11) (by omega)
  obtain ⟨g1, g2⟩ := m9 s x4 x5
  obtain ⟨n1, n2, -, -⟩ := Gn_ok m8 x4 x5
  have hO := Go_lt m8 x4 x5
  show f_X11_clauseSize N (nI b) (nI f) (nI t) (nI s) M = _
  unfold f_X11_clauseSize j_X11_clauseSize_41
  have hz : (nI (Go (memM M) (P + R) s) = 0) = (Go (memM M) (P + R) s = 0) := q_eq (b := 0) (by omega) (by omega)
  have e41 : ∀ v : Nat, (ck (nI b) 48 <| bd (f_X11_digits N (nI f)) fun v6 => bd (f_X11_digits N (nI t)) fun v7 => some (((((((nI v + 2) + (M.1 11 (nI b).toNatClampNeg)) + 1) + v6) + 1) + v7) + 1)) = some (nI (v + 2 + (BWf M b).length + 1 + (hl f).length + 1 + (hl t).length + 1)) := by
    intro v
    rw [q_ck (by omega) (by omega), q_tn (by omega), digits_e (by omega), digits_e x3, q_bd, q_bd, wd_sz (m7 b x1)]
    have : nI v + nI 2 + nI (BWf M b).length + nI 1 + nI (hl f).length + nI 1 + nI (hl t).length + nI 1 = nI (v + 2 + (BWf M b).length + 1 + (hl f).length + 1 + (hl t).length + 1) := by
      rw [q_add, q_add, q_add, q_add, q_add, q_add, q_add]
    exact congrArg some this
  rw [q_ck (by omega) (by omega), q_tn (by omega), g1, g2, namesSize_e hN h n1 n2, q_bd, q_ck (by omega) (by omega), q_jp]
  have eC : clM M (P + R) (b, f, t, s) = (nml (NWf M) (Gn (memM M) (P + R) s) (P + R)).2 ++ ((if Go (memM M) (P + R) s ≠ 0 then [32, 98, 117, 116, 32] ++ (nml (NWf M) (Go (memM M) (P + R) s) (P + R)).2 else []) ++ ([58, 32] ++ (BWf M b ++ ([32] ++ (hl f ++ ([45] ++ (hl t ++ [46]))))))) := rfl
  by_cases e : Go (memM M) (P + R) s = 0
  · rw [if_pos (hz ▸ e)]
    refine (e41 _).trans ?_
    rw [eC, if_neg (fun w => w e)]
    congr 2
    simp only [List.length_append, List.length_cons, List.length_nil]
    omega
  · rw [if_neg (fun w => e (hz ▸ w)), q_ck (by omega) (by omega), namesSize_e hN h (by omega) (by omega), q_bd, q_nm]
    have e5 : nI (nml (NWf M) (Gn (memM M) (P + R) s) (P + R)).2.length + (5 + nI (nml (NWf M) (Go (memM M) (P + R) s) (P + R)).2.length) = nI ((nml (NWf M) (Gn (memM M) (P + R) s) (P + R)).2.length + (5 + (nml (NWf M) (Go (memM M) (P + R) s) (P + R)).2.length)) := by
      have : nI (nml (NWf M) (Gn (memM M) (P + R) s) (P + R)).2.length + (nI 5 + nI (nml (NWf M) (Go (memM M) (P + R) s) (P + R)).2.length) = nI ((nml (NWf M) (Gn (memM M) (P + R) s) (P + R)).2.length + (5 + (nml (NWf M) (Go (memM M) (P + R) s) (P + R)).2.length)) := by
        rw [q_add, q_add]
      exact this
    rw [e5]
    refine (e41 _).trans ?_
    rw [eC, if_pos e]
    congr 2
    simp only [List.length_append, List.length_cons, List.length_nil]
    omega
theorem nml_pre {nw : Nat → List Nat} {names k i x : Nat} (d : Nat) (h : (nml nw names k).2[i]? = some x) : (nml nw names (k + d)).2[i]? = some x := by
  induction d with
  | zero => exact h
  | succ d ih =>
    have e : k + (d + 1) = (k + d) + 1 := by omega
    rw [e]
    unfold nml
    by_cases c : names.testBit (k + d) = true
    · rw [if_pos c]
      show ((nml nw names (k + d)).2 ++ _)[i]? = some x
      rw [List.getElem?_append_left (List.getElem?_eq_some_iff.mp ih).1]
      exact ih
    · rw [if_neg c]
      exact ih
/-- a sign of names -/
theorem nameSign_e {names k : Nat} (hN : 6000 ≤ N) (h : MN P R B M) (hk : k < 100000) :
    (∃ x, (nml (NWf M) names (P + R)).2[k]? = some x ∧ x < 128 ∧ f_X11_nameSign N (nI names) (nI k) M = some (nI x)) ∨ ((nml (NWf M) names (P + R)).2.length ≤ k ∧ f_X11_nameSign N (nI names) (nI k) M = some (-2 - nI (k - (nml (NWf M) names (P + R)).2.length))) := by
  obtain ⟨m1, m2, m3, m4, m5, m6, -⟩ := h
  unfold f_X11_nameSign
  rw [q_jp, q_jp, q_jp]
  have key : ∀ d N' n, d < N' → n + d = P + R → (nml (NWf M) names n).2.length ≤ k →
      (∃ x, (nml (NWf M) names (P + R)).2[k]? = some x ∧ x < 128 ∧ lp (fun _ _ _ => none) (b_X11_nameSign_8 (nI names) M j_X11_nameSign_44 (j_X11_nameSign_73 M)) N' (nI (k - (nml (NWf M) names n).2.length)) (if (nml (NWf M) names n).1 = true then 1 else 0) (nI n) = some (nI x)) ∨ ((nml (NWf M) names (P + R)).2.length ≤ k ∧ lp (fun _ _ _ => none) (b_X11_nameSign_8 (nI names) M j_X11_nameSign_44 (j_X11_nameSign_73 M)) N' (nI (k - (nml (NWf M) names n).2.length)) (if (nml (NWf M) names n).1 = true then 1 else 0) (nI n) = some (-2 - nI (k - (nml (NWf M) names (P + R)).2.length))) := by
    intro d
    induction d with
    | zero =>
      intro N' n hN' hn hl
      obtain ⟨N', rfl⟩ : ∃ j, N' = j + 1 := ⟨N' - 1, by omega⟩
      have : n = P + R := by omega
      subst this
      right
      refine ⟨hl, ?_⟩
      rw [q_lp]
      unfold b_X11_nameSign_8
      rw [m1, m2, q_add, if_pos (by rw [q_le (by omega) (by omega)]; omega)]
    | succ d ih =>
      intro N' n hN' hn hl
      obtain ⟨N', rfl⟩ : ∃ j, N' = j + 1 := ⟨N' - 1, by omega⟩
      have ih' := ih N' (n + 1) (by omega) (by omega)
      rw [q_lp]
      generalize lp (fun _ _ _ => none) (b_X11_nameSign_8 (nI names) M j_X11_nameSign_44 (j_X11_nameSign_73 M)) N' = K at ih' ⊢
      have hWL := m6 n (by omega)
      have hsz := wd_sz hWL
      obtain ⟨hl1, hl2⟩ := wd_len hWL
      have hn1 : P + R = n + 1 + d := by omega
      by_cases e : names.testBit n = true
      · have e2 : nml (NWf M) names (n + 1) = (false, (nml (NWf M) names n).2 ++ ((if (nml (NWf M) names n).1 = true then [] else [44, 32]) ++ NWf M n)) := by
          show (if names.testBit n = true then _ else _ : Bool × List Nat) = _
          rw [if_pos e]
        -- behind the comma
        have h59 : ∀ c, c = (if (nml (NWf M) names n).1 = true then 0 else 2) → (nml (NWf M) names n).2.length + c ≤ k →
            (∃ x, (nml (NWf M) names (P + R)).2[k]? = some x ∧ x < 128 ∧ j_X11_nameSign_59 M (j_X11_nameSign_73 M) (nI n) (j_X11_nameSign_96 (nI n) K) (nI (k - (nml (NWf M) names n).2.length - c)) = some (nI x)) ∨ ((nml (NWf M) names (P + R)).2.length ≤ k ∧ j_X11_nameSign_59 M (j_X11_nameSign_73 M) (nI n) (j_X11_nameSign_96 (nI n) K) (nI (k - (nml (NWf M) names n).2.length - c)) = some (-2 - nI (k - (nml (NWf M) names (P + R)).2.length))) := by
          intro c hc hle
          have hlen1 : (nml (NWf M) names (n + 1)).2.length = (nml (NWf M) names n).2.length + c + (NWf M n).length := by
            rw [e2]
            show ((nml (NWf M) names n).2 ++ _).length = _
            rw [List.length_append, List.length_append, hc]
            split
            · show _ + (0 + _) = _; omega
            · show _ + (2 + _) = _; omega
          unfold j_X11_nameSign_59
          rw [q_ck (by omega) (by omega), q_tn (by omega), q_ck (by omega) (by omega), hsz]
          by_cases c1 : (NWf M n).length ≤ k - (nml (NWf M) names n).2.length - c
          · rw [if_pos (show nI (wd (M.1 3) (M.1 2) n).length ≤ nI (k - (nml (NWf M) names n).2.length - c) by rw [q_le (by omega) (by omega)]; exact c1), q_nm, q_sub (show (wd (M.1 3) (M.1 2) n).length ≤ k - (nml (NWf M) names n).2.length - c from c1)]
            unfold j_X11_nameSign_96
            rw [q_nm, ← nI_succ]
            have ih2 := ih' (by rw [hlen1]; omega)
            rw [show (nml (NWf M) names (n + 1)).1 = false by rw [e2], if_neg (show ¬ false = true by decide), hlen1] at ih2
            have e4 : k - ((nml (NWf M) names n).2.length + c + (NWf M n).length) = k - (nml (NWf M) names n).2.length - c - (wd (M.1 3) (M.1 2) n).length := by
              show _ = k - (nml (NWf M) names n).2.length - c - (NWf M n).length
              omega
            rw [e4] at ih2
            exact ih2
          · rw [if_neg (show ¬ nI (wd (M.1 3) (M.1 2) n).length ≤ nI (k - (nml (NWf M) names n).2.length - c) by rw [q_le (by omega) (by omega)]; exact c1)]
            left
            obtain ⟨x, x1, x2, x3⟩ := wd_at (k := k - (nml (NWf M) names n).2.length - c) hWL (by show _ < (NWf M n).length; omega)
            refine ⟨x, ?_, x3, ?_⟩
            · rw [hn1]
              apply nml_pre
              rw [e2]
              show ((nml (NWf M) names n).2 ++ ((if (nml (NWf M) names n).1 = true then [] else [44, 32]) ++ NWf M n))[k]? = some x
              rw [List.getElem?_append_right (by omega)]
              have hcl : (if (nml (NWf M) names n).1 = true then [] else [44, 32] : List Nat).length = c := by rw [hc]; split <;> rfl
              rw [List.getElem?_append_right (by rw [hcl]; omega), hcl]
              exact x1
            · unfold j_X11_nameSign_73
              have e5 : (12 : Int32) * nI n + nI (k - (nml (NWf M) names n).2.length - c) = nI (12 * n + (k - (nml (NWf M) names n).2.length - c)) := by
                have : nI 12 * nI n + nI (k - (nml (NWf M) names n).2.length - c) = nI (12 * n + (k - (nml (NWf M) names n).2.length - c)) := by rw [q_mul, q_add]
                exact this
              have c2 : k - (nml (NWf M) names n).2.length - c < 12 := by have : (NWf M n).length ≤ 12 := hl2; omega
              rw [e5, q_ck (by omega) (by omega), q_tn (by omega), x2]
        unfold b_X11_nameSign_8
        rw [m1, m2, q_add, if_neg (by rw [q_le (by omega) (by omega)]; omega), q_jp, q_bitN (by omega), if_pos e, if_neg (show ¬ (1 : Int32) = 0 by decide), q_jp]
        by_cases ef : (nml (NWf M) names n).1 = true
        · have h0 := h59 0 (by rw [if_pos ef]) (by omega)
          rw [Nat.sub_zero] at h0
          rw [if_pos ef, if_neg (show ¬ (1 : Int32) = 0 by decide)]
          exact h0
        · rw [if_neg ef, if_pos (show (0 : Int32) = 0 from rfl)]
          have c2 : ((2 : Int32) ≤ nI (k - (nml (NWf M) names n).2.length)) = (2 ≤ k - (nml (NWf M) names n).2.length) := q_le (a := 2) (by omega) (by omega)
          by_cases e3 : 2 ≤ k - (nml (NWf M) names n).2.length
          · rw [if_pos (c2 ▸ e3), q_nm]
            have e4 : nI (k - (nml (NWf M) names n).2.length) + -2 = nI (k - (nml (NWf M) names n).2.length - 2) := by
              have : nI (k - (nml (NWf M) names n).2.length) - nI 2 = nI (k - (nml (NWf M) names n).2.length - 2) := q_sub e3
              rw [← this, Int32.sub_eq_add_neg]
              rfl
            rw [e4]
            exact h59 2 (by rw [if_neg ef]) (by omega)
          · rw [if_neg (fun w => e3 (c2 ▸ w))]
            left
            have hcase : k - (nml (NWf M) names n).2.length = 0 ∨ k - (nml (NWf M) names n).2.length = 1 := by omega
            have hel : ∀ x, ([44, 32] : List Nat)[k - (nml (NWf M) names n).2.length]? = some x → (nml (NWf M) names (P + R)).2[k]? = some x := by
              intro x hx
              rw [hn1]
              apply nml_pre
              rw [e2]
              show ((nml (NWf M) names n).2 ++ ((if (nml (NWf M) names n).1 = true then [] else [44, 32]) ++ NWf M n))[k]? = some x
              rw [List.getElem?_append_right (by omega), if_neg ef, List.getElem?_append_left (by show _ < 2; omega)]
              exact hx
            rcases hcase with w | w
            · refine ⟨44, hel 44 (by rw [w]; rfl), by omega, ?_⟩
              rw [w]; rfl
            · refine ⟨32, hel 32 (by rw [w]; rfl), by omega, ?_⟩
              rw [w]; rfl
      · have e2 : nml (NWf M) names (n + 1) = nml (NWf M) names n := by
          show (if names.testBit n = true then _ else _ : Bool × List Nat) = _
          rw [if_neg e]
        unfold b_X11_nameSign_8 j_X11_nameSign_96
        rw [m1, m2, q_add, if_neg (by rw [q_le (by omega) (by omega)]; omega), q_jp, q_bitN (by omega), if_neg e, if_pos (show (0 : Int32) = 0 from rfl)]
        simp only [q_nm]
        rw [← nI_succ]
        rw [e2] at ih'
        exact ih' hl
  have := key (P + R) N 0 (by omega) (by omega) (Nat.zero_le _)
  exact this
theorem digit_e {h k x : Nat} (hh : h < 24) (hx : (hl h)[k]? = some x) : f_X11_digit N (nI h) (nI k) = some (nI x) ∧ x < 128 := by
  have hk := (List.getElem?_eq_some_iff.mp hx).1
  have hl2 := hl_len h
  have hk3 : k < 3 := by omega
  unfold f_X11_digit
  unfold hl at hx hk
  have c10 : ((10 : Int32) ≤ nI h) = (10 ≤ h) := q_le (a := 10) (by omega) (by omega)
  have k0 : (nI k = 0) = (k = 0) := q_eq (b := 0) (by omega) (by omega)
  by_cases e : h < 10
  · rw [if_pos e] at hx hk
    have : k = 0 := by simp at hk; exact hk
    subst this
    simp at hx
    subst hx
    rw [if_neg (show ¬ (10 : Int32) ≤ nI h by rw [c10]; omega)]
    exact ⟨congrArg some (q_add 48 h), by omega⟩
  · rw [if_neg e] at hx hk
    have e1 : nI h / 10 = nI (h / 10) := pk_div (a := h) (d := 10) (by omega) (by omega) (by omega)
    have e2 : nI h - nI h / 10 * 10 = nI (h % 10) := pk_rem (a := h) (d := 10) (by omega) (by omega) (by omega)
    rw [if_pos (show (10 : Int32) ≤ nI h by rw [c10]; omega), e2, e1]
    have hk2 : k = 0 ∨ k = 1 := by simp at hk; omega
    rcases hk2 with rfl | rfl
    · simp at hx
      subst hx
      rw [if_pos (show nI 0 = 0 from rfl)]
      exact ⟨congrArg some (q_add 48 (h / 10)), by omega⟩
    · simp at hx
      subst hx
      rw [if_neg (show ¬ nI 1 = 0 by decide)]
      exact ⟨congrArg some (q_add 48 (h % 10)), by omega⟩
theorem sub1 {k : Nat} (h : 1 ≤ k) : nI k + -1 = nI (k - 1) := by
  have : nI k - nI 1 = nI (k - 1) := q_sub h
  rw [← this, Int32.sub_eq_add_neg]
  rfl
theorem sub2 {k : Nat} (h : 2 ≤ k) : nI k + -2 = nI (k - 2) := by
  have : nI k - nI 2 = nI (k - 2) := q_sub h
  rw [← this, Int32.sub_eq_add_neg]
  rfl
theorem m119 {b f t k : Nat} (h : MN P R B M) (hb : b < B) (hf : f < 24) (ht : t < 24) (hk : k < ([58, 32] ++ (BWf M b ++ ([32] ++ (hl f ++ ([45] ++ (hl t ++ [46])))))).length) :
    ∃ x, ([58, 32] ++ (BWf M b ++ ([32] ++ (hl f ++ ([45] ++ (hl t ++ [46]))))))[k]? = some x ∧ x < 128 ∧ j_X11_clauseSign_119 N (nI b) (nI f) (nI t) M (nI k) = some (nI x) := by
  obtain ⟨m1, m2, m3, m4, m5, m6, m7, -⟩ := h
  have hWL := m7 b hb
  have hsz : M.1 11 b = nI (BWf M b).length := wd_sz hWL
  obtain ⟨hl1, hl2⟩ := wd_len hWL
  have hbl : (BWf M b).length ≤ 12 := hl2
  have hf2 := hl_len f
  have ht2 := hl_len t
  simp only [List.length_append, List.length_cons, List.length_nil] at hk
  unfold j_X11_clauseSign_119
  have c2 : ((2 : Int32) ≤ nI k) = (2 ≤ k) := q_le (a := 2) (by omega) (by omega)
  by_cases k2 : 2 ≤ k
  · rw [if_pos (c2 ▸ k2), List.getElem?_append_right (by show 2 ≤ k; omega), sub2 k2, q_nm, q_ck (by omega) (by omega), q_tn (by omega), q_ck (by omega) (by omega), hsz]
    show ∃ x, (BWf M b ++ ([32] ++ (hl f ++ ([45] ++ (hl t ++ [46])))))[k - 2]? = some x ∧ _
    by_cases kb : (BWf M b).length ≤ k - 2
    · rw [if_pos (show nI (BWf M b).length ≤ nI (k - 2) by rw [q_le (by omega) (by omega)]; exact kb), q_nm, q_sub (show (BWf M b).length ≤ k - 2 from kb), List.getElem?_append_right kb]
      generalize hj : k - 2 - (BWf M b).length = j
      have j0 : (nI j = 0) = (j = 0) := q_eq (b := 0) (by omega) (by omega)
      by_cases e0 : j = 0
      · rw [if_pos (j0 ▸ e0), e0]
        exact ⟨32, rfl, by omega, rfl⟩
      · rw [if_neg (fun w => e0 (j0 ▸ w)), List.getElem?_append_right (by show 1 ≤ j; omega), sub1 (by omega), q_nm, digits_e hf, q_bd, q_bd]
        show ∃ x, (hl f ++ ([45] ++ (hl t ++ [46])))[j - 1]? = some x ∧ _
        by_cases e1 : (hl f).length ≤ j - 1
        · rw [if_pos (show nI (hl f).length ≤ nI (j - 1) by rw [q_le (by omega) (by omega)]; exact e1), q_nm, q_sub e1, List.getElem?_append_right e1]
          have i0 : (nI (j - 1 - (hl f).length) = 0) = (j - 1 - (hl f).length = 0) := q_eq (b := 0) (by omega) (by omega)
          by_cases e2 : j - 1 - (hl f).length = 0
          · rw [if_pos (i0 ▸ e2), e2]
            exact ⟨45, rfl, by omega, rfl⟩
          · rw [if_neg (fun w => e2 (i0 ▸ w)), List.getElem?_append_right (by show 1 ≤ _; omega), sub1 (by omega), q_nm, digits_e ht, q_bd]
            show ∃ x, (hl t ++ [46])[j - 1 - (hl f).length - 1]? = some x ∧ _
            by_cases e3 : (hl t).length ≤ j - 1 - (hl f).length - 1
            · rw [if_pos (show nI (hl t).length ≤ nI (j - 1 - (hl f).length - 1) by rw [q_le (by omega) (by omega)]; exact e3), List.getElem?_append_right e3]
              have : j - 1 - (hl f).length - 1 - (hl t).length = 0 := by omega
              rw [this]
              exact ⟨46, rfl, by omega, rfl⟩
            · rw [if_neg (show ¬ nI (hl t).length ≤ nI (j - 1 - (hl f).length - 1) by rw [q_le (by omega) (by omega)]; exact e3), List.getElem?_append_left (by omega)]
              refine ⟨_, List.getElem?_eq_getElem (show j - 1 - (hl f).length - 1 < (hl t).length by omega), ?_⟩
              obtain ⟨d1, d2⟩ := digit_e (N := N) ht (List.getElem?_eq_getElem (show j - 1 - (hl f).length - 1 < (hl t).length by omega))
              rw [d1, q_bd]
              exact ⟨d2, rfl⟩
        · rw [if_neg (show ¬ nI (hl f).length ≤ nI (j - 1) by rw [q_le (by omega) (by omega)]; exact e1), List.getElem?_append_left (by omega)]
          refine ⟨_, List.getElem?_eq_getElem (show j - 1 < (hl f).length by omega), ?_⟩
          obtain ⟨d1, d2⟩ := digit_e (N := N) hf (List.getElem?_eq_getElem (show j - 1 < (hl f).length by omega))
          rw [d1, q_bd]
          exact ⟨d2, rfl⟩
    · rw [if_neg (show ¬ nI (BWf M b).length ≤ nI (k - 2) by rw [q_le (by omega) (by omega)]; exact kb), List.getElem?_append_left (by omega)]
      obtain ⟨x, x1, x2, x3⟩ := wd_at (k := k - 2) hWL (by show _ < (BWf M b).length; omega)
      have e5 : (12 : Int32) * nI b + nI (k - 2) = nI (12 * b + (k - 2)) := by
        have : nI 12 * nI b + nI (k - 2) = nI (12 * b + (k - 2)) := by rw [q_mul, q_add]
        exact this
      refine ⟨x, x1, x3, ?_⟩
      rw [e5, q_ck (by omega) (by omega), q_tn (by omega), x2]
  · rw [if_neg (fun w => k2 (c2 ▸ w)), List.getElem?_append_left (by show k < 2; omega)]
    have hc : k = 0 ∨ k = 1 := by omega
    rcases hc with rfl | rfl
    · exact ⟨58, rfl, by omega, rfl⟩
    · exact ⟨32, rfl, by omega, rfl⟩
theorem neg2 (k : Nat) : (-2 : Int32) - (-2 - nI k) = nI k := by
  rw [Int32.sub_eq_add_neg, Int32.neg_sub, Int32.add_comm, Int32.sub_add_cancel]
theorem neg2_lt {k : Nat} (h : k < 100000) : (-2 - nI k : Int32) < 0 := by
  rw [Int32.lt_iff_toInt_lt, Int32.toInt_sub, nI_toInt (by omega)]
  have : (-2 : Int32).toInt = -2 := by decide
  have : (0 : Int32).toInt = 0 := by decide
  rw [Int.bmod_eq_of_le (by omega) (by omega)]
  omega
/-- a sign of a clause -/
theorem clauseSign_e {x : F4} {k : Nat} (hN : 6000 ≤ N) (h : MN P R B M) (hx : okF P B x) (hk : k < (clM M (P + R) x).length) :
    ∃ c, (clM M (P + R) x)[k]? = some c ∧ c < 128 ∧ f_X11_clauseSign N (nI x.1) (nI x.2.1) (nI x.2.2.1) (nI x.2.2.2) (nI k) M = some (nI c) := by
  obtain ⟨b, f, t, s⟩ := x
  obtain ⟨x1, x2, x3, x4, x5⟩ := hx
  have x1 : b < B := x1
  have x2 : f ≤ t := x2
  have x3 : t < 24 := x3
  have x4 : 0 < s := x4
  have x5 : s < 2 ^ P := x5
  have hm := h
  obtain ⟨m1, m2, m3, m4, m5, m6, m7, m8, m9⟩ := hm
  have hp6 := pw6 m3
  have hpp := pow_le (a := P) (b := P + R) (by omega)
  have hp11 := pow_le (a := P + R) (b := 11) (by omega)
  obtain ⟨g1, g2⟩ := m9 s x4 x5
  obtain ⟨n1, n2, -, n4⟩ := Gn_ok m8 x4 x5
  have hO := Go_lt m8 x4 x5
  have hwl : ∀ k, k < P + R → (NWf M k).length ≤ 12 := fun k hk => (wd_len (m6 k hk)).2
  have hcl := cll_len (nw := NWf M) (bw := BWf M b) (f := f) (t := t) (K := P + R) hwl (wd_len (m7 b x1)).2 (by omega) n1 n2 (show Go (memM M) (P + R) s < 2 ^ (P + R) by omega)
  have hs6 := pc_le (x := s) 6 (by omega) (Nat.lt_of_lt_of_le x5 hp6)
  have hk1 : k < 200 := by
    have : (clM M (P + R) (b, f, t, s)).length ≤ 14 * (pc (Gn (memM M) (P + R) s) + pc (Go (memM M) (P + R) s)) + 22 := hcl
    omega
  have hk2 : k < ((nml (NWf M) (Gn (memM M) (P + R) s) (P + R)).2 ++ ((if Go (memM M) (P + R) s ≠ 0 then [32, 98, 117, 116, 32] ++ (nml (NWf M) (Go (memM M) (P + R) s) (P + R)).2 else []) ++ ([58, 32] ++ (BWf M b ++ ([32] ++ (hl f ++ ([45] ++ (hl t ++ [46])))))))).length := hk
  show ∃ c, ((nml (NWf M) (Gn (memM M) (P + R) s) (P + R)).2 ++ ((if Go (memM M) (P + R) s ≠ 0 then [32, 98, 117, 116, 32] ++ (nml (NWf M) (Go (memM M) (P + R) s) (P + R)).2 else []) ++ ([58, 32] ++ (BWf M b ++ ([32] ++ (hl f ++ ([45] ++ (hl t ++ [46]))))))))[k]? = some c ∧ c < 128 ∧ f_X11_clauseSign N (nI b) (nI f) (nI t) (nI s) (nI k) M = some (nI c)
  unfold f_X11_clauseSign
  rw [q_ck (by omega) (by omega), q_tn (by omega), g1, g2]
  rcases nameSign_e (names := Gn (memM M) (P + R) s) (k := k) hN h (by omega) with ⟨c, c1, c2, c3⟩ | ⟨c1, c3⟩
  · rw [c3, q_bd, if_neg (nI_pos (by omega)), List.getElem?_append_left (List.getElem?_eq_some_iff.mp c1).1]
    exact ⟨c, c1, c2, rfl⟩
  · rw [c3, q_bd, if_pos (neg2_lt (by omega)), neg2, q_nm, q_ck (by omega) (by omega), q_jp, List.getElem?_append_right c1]
    rw [List.length_append] at hk2
    generalize hj : k - (nml (NWf M) (Gn (memM M) (P + R) s) (P + R)).2.length = j
    have hz : (nI (Go (memM M) (P + R) s) = 0) = (Go (memM M) (P + R) s = 0) := q_eq (b := 0) (by omega) (by omega)
    by_cases e : Go (memM M) (P + R) s = 0
    · rw [if_pos (show nI (Go (memM M) (P + R) s) = 0 from hz ▸ e), if_neg (show ¬ Go (memM M) (P + R) s ≠ 0 from fun w => w e), List.nil_append]
      rw [if_neg (fun w => w e), List.nil_append] at hk2
      exact m119 h x1 (by omega) x3 (by omega)
    · rw [if_neg (show ¬ nI (Go (memM M) (P + R) s) = 0 from fun w => e (hz ▸ w)), if_pos (show Go (memM M) (P + R) s ≠ 0 from e)]
      rw [if_pos e, List.length_append, List.length_append] at hk2
      have h5 : ([32, 98, 117, 116, 32] : List Nat).length = 5 := rfl
      have c5 : ((5 : Int32) ≤ nI j) = (5 ≤ j) := q_le (a := 5) (by omega) (by omega)
      by_cases e5 : 5 ≤ j
      · have e6 : nI j - 5 = nI (j - 5) := q_sub (b := 5) e5
        rw [if_pos (c5 ▸ e5), q_ck (by omega) (by omega), e6]
        rw [List.append_assoc, List.getElem?_append_right (by rw [h5]; omega), h5]
        rcases nameSign_e (names := Go (memM M) (P + R) s) (k := j - 5) hN h (by omega) with ⟨c, d1, d2, d3⟩ | ⟨d1, d3⟩
        · rw [d3, q_bd, if_neg (nI_pos (by omega)), List.getElem?_append_left (List.getElem?_eq_some_iff.mp d1).1]
          exact ⟨c, d1, d2, rfl⟩
        · rw [d3, q_bd, if_pos (neg2_lt (by omega)), neg2, q_nm, List.getElem?_append_right d1]
          exact m119 h x1 (by omega) x3 (by omega)
      · rw [if_neg (fun w => e5 (c5 ▸ w)), List.append_assoc, List.getElem?_append_left (by rw [h5]; omega)]
        have hc : j = 0 ∨ j = 1 ∨ j = 2 ∨ j = 3 ∨ j = 4 := by omega
        rcases hc with w | w | w | w | w
        · rw [w]; exact ⟨32, rfl, by omega, rfl⟩
        · rw [w]; exact ⟨98, rfl, by omega, rfl⟩
        · rw [w]; exact ⟨117, rfl, by omega, rfl⟩
        · rw [w]; exact ⟨116, rfl, by omega, rfl⟩
        · rw [w]; exact ⟨32, rfl, by omega, rfl⟩
end MC2
