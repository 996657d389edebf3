theorem mo_J7_fill_53178_20 {N : Nat} {p1 : Int32} {S : St} {Sz : St} (hf : f_J7_fill_53178 N 20 401 p1 S = some Sz) : ph S ≤ ph Sz := by
  unfold f_J7_fill_53178 at hf
  replace hf := nm_q rfl hf
  refine jl_W (fun k5 : Int32 → St → Option (St) => ∀ (v2 : Int32) (S3 : St), k5 v2 S3 = some Sz → ph S3 ≤ ph Sz ∧ True) ?_ ?_ ?_ hf
  · intro v2 S3 h; cases h
  · intro k5 hk5 v2 S3 hf
    unfold b_J7_fill_53178_5 at hf
    refine ⟨?_, trivial⟩
    rcases it_s hf with ⟨-, hf⟩ | ⟨-, hf⟩
    · skip
      cases so_1 hf
      omega
    · skip
      obtain ⟨-, hf⟩ := ck_s hf
      obtain ⟨S6, eS6, hf⟩ := nm_z hf
      have gS6 : ph S6 = ph S3 := by rw [eS6]; rfl
      replace hf := nm_q rfl hf
      have hj := (hk5 _ _ hf).1
      omega
  · intro k5 hk5 hf
    have hj := (hk5 _ _ hf).1
    omega

theorem mo_J7_fill_53178_21 {N : Nat} {p1 : Int32} {S : St} {Sz : St} (hf : f_J7_fill_53178 N 21 5616 p1 S = some Sz) : ph S ≤ ph Sz := by
  unfold f_J7_fill_53178 at hf
  replace hf := nm_q rfl hf
  refine jl_W (fun k5 : Int32 → St → Option (St) => ∀ (v2 : Int32) (S3 : St), k5 v2 S3 = some Sz → ph S3 ≤ ph Sz ∧ True) ?_ ?_ ?_ hf
  · intro v2 S3 h; cases h
  · intro k5 hk5 v2 S3 hf
    unfold b_J7_fill_53178_5 at hf
    refine ⟨?_, trivial⟩
    rcases it_s hf with ⟨-, hf⟩ | ⟨-, hf⟩
    · skip
      cases so_1 hf
      omega
    · skip
      obtain ⟨-, hf⟩ := ck_s hf
      obtain ⟨S6, eS6, hf⟩ := nm_z hf
      have gS6 : ph S6 = ph S3 := by rw [eS6]; rfl
      replace hf := nm_q rfl hf
      have hj := (hk5 _ _ hf).1
      omega
  · intro k5 hk5 hf
    have hj := (hk5 _ _ hf).1
    omega

theorem mo_X3_namesOf {N : Nat} {p0 : Int32} {S : St} {rz : Int32} {Sz : St} (hf : f_X3_namesOf N p0 S = some (rz, Sz)) : ph S ≤ ph Sz := by
  unfold f_X3_namesOf at hf
  rcases it_s hf with ⟨-, hf⟩ | ⟨-, hf⟩
  · skip
    obtain ⟨e1, e2⟩ := so_2 hf
    cases e1; cases e2
    omega
  · skip
    rcases it_s hf with ⟨-, hf⟩ | ⟨-, hf⟩
    · skip
      obtain ⟨-, hf⟩ := ck_s hf
      refine jp_W (fun k35 : St → Option (Int32 × St) => ∀ (S4 : St), k35 S4 = some (rz, Sz) → ph S4 ≤ ph Sz ∧ True) ?_ ?_ hf
      · intro S4 hf
        unfold j_X3_namesOf_35 at hf
        refine ⟨?_, trivial⟩
        obtain ⟨-, hf⟩ := ck_s hf
        obtain ⟨e1, e2⟩ := so_2 hf
        cases e1; cases e2
        omega
      · intro k35 hk35 hf
        rcases it_s hf with ⟨-, hf⟩ | ⟨-, hf⟩
        · skip
          obtain ⟨v7, hc, hf⟩ := bd_s hf
          obtain ⟨-, hf⟩ := ck_s hf
          obtain ⟨S9, eS9, hf⟩ := nm_z hf
          have gS9 : ph S9 = ph S := by rw [eS9]; rfl
          have hj := (hk35 _ hf).1
          omega
        · skip
          have hj := (hk35 _ hf).1
          omega
    · skip
      obtain ⟨e1, e2⟩ := so_2 hf
      cases e1; cases e2
      omega

theorem mo_X3_takenOutOf {N : Nat} {p0 : Int32} {S : St} {rz : Int32} {Sz : St} (hf : f_X3_takenOutOf N p0 S = some (rz, Sz)) : ph S ≤ ph Sz := by
  unfold f_X3_takenOutOf at hf
  obtain ⟨v1, S2, hc, hf⟩ := bd2_s hf
  have gS2 : ph S ≤ ph S2 := mo_X3_namesOf hc
  obtain ⟨-, hf⟩ := ck_s hf
  obtain ⟨e1, e2⟩ := so_2 hf
  cases e1; cases e2
  omega

theorem mo_X2_append {N : Nat} {p0 : Int32} {p1 : Int32} {p2 : Int32} {p3 : Int32} {S : St} {Sz : St} (hf : f_X2_append N p0 p1 p2 p3 S = some Sz) : ph S ≤ ph Sz := by
  unfold f_X2_append at hf
  rcases it_s hf with ⟨-, hf⟩ | ⟨-, hf⟩
  · skip
    cases so_1 hf
    omega
  · skip
    obtain ⟨-, hf⟩ := ck_s hf
    obtain ⟨S3, eS3, hf⟩ := nm_z hf
    have gS3 : ph S3 = ph S := by rw [eS3]; rfl
    obtain ⟨-, hf⟩ := ck_s hf
    obtain ⟨S5, eS5, hf⟩ := nm_z hf
    have gS5 : ph S5 = ph S3 := by rw [eS5]; rfl
    obtain ⟨-, hf⟩ := ck_s hf
    obtain ⟨S7, eS7, hf⟩ := nm_z hf
    have gS7 : ph S7 = ph S5 := by rw [eS7]; rfl
    obtain ⟨-, hf⟩ := ck_s hf
    obtain ⟨S9, eS9, hf⟩ := nm_z hf
    have gS9 : ph S9 = ph S7 := by rw [eS9]; rfl
    obtain ⟨S10, eS10, hf⟩ := nm_z hf
    have gS10 : ph S10 = ph S9 := by rw [eS10]; rfl
    cases so_1 hf
    omega

theorem mo_X2_findFrom {N : Nat} {p0 : Int32} {p1 : Int32} {p2 : Int32} {S : St} {Sz : St} (hf : f_X2_findFrom N p0 p1 p2 S = some Sz) : ph S ≤ ph Sz := by
  unfold f_X2_findFrom at hf
  refine jp_W (fun k74 : Int32 → St → Option (St) => ∀ (v1 : Int32) (S2 : St), k74 v1 S2 = some Sz → ph S2 ≤ ph Sz ∧ True) ?_ ?_ hf
  · intro v1 S2 hf
    unfold j_X2_findFrom_74 at hf
    refine ⟨?_, trivial⟩
    refine jl_W (fun k77 : Int32 → St → Option (St) => ∀ (v3 : Int32) (S4 : St), k77 v3 S4 = some Sz → ph S4 ≤ ph Sz ∧ True) ?_ ?_ ?_ hf
    · intro v3 S4 h; cases h
    · intro k77 hk77 v3 S4 hf
      unfold b_X2_findFrom_77 at hf
      refine ⟨?_, trivial⟩
      rcases it_s hf with ⟨-, hf⟩ | ⟨-, hf⟩
      · skip
        cases so_1 hf
        omega
      · skip
        rcases it_s hf with ⟨-, hf⟩ | ⟨-, hf⟩
        · skip
          cases so_1 hf
          omega
        · skip
          obtain ⟨-, hf⟩ := ck_s hf
          refine jp_W (fun k122 : St → Option (St) => ∀ (S8 : St), k122 S8 = some Sz → ph S8 ≤ ph Sz ∧ True) ?_ ?_ hf
          · intro S8 hf
            unfold j_X2_findFrom_122 at hf
            refine ⟨?_, trivial⟩
            replace hf := nm_q rfl hf
            have hj := (hk77 _ _ hf).1
            omega
          · intro k122 hk122 hf
            rcases it_s hf with ⟨-, hf⟩ | ⟨-, hf⟩
            · skip
              have hj := (hk122 _ hf).1
              omega
            · skip
              obtain ⟨-, hf⟩ := ck_s hf
              obtain ⟨S12, hc, hf⟩ := bd_s hf
              have gS12 : ph S4 ≤ ph S12 := mo_X2_append hc
              obtain ⟨-, hf⟩ := ck_s hf
              obtain ⟨S14, eS14, hf⟩ := nm_z hf
              have gS14 : ph S14 = ph S12 := by rw [eS14]; rfl
              have hj := (hk122 _ hf).1
              omega
    · intro k77 hk77 hf
      have hj := (hk77 _ _ hf).1
      omega
  · intro k74 hk74 hf
    refine jl_W (fun k6 : Int32 → Int32 → St → Option (St) => ∀ (v15 : Int32) (v16 : Int32) (S17 : St), k6 v15 v16 S17 = some Sz → ph S17 ≤ ph Sz ∧ True) ?_ ?_ ?_ hf
    · intro v15 v16 S17 h; cases h
    · intro k6 hk6 v15 v16 S17 hf
      unfold b_X2_findFrom_6 at hf
      refine ⟨?_, trivial⟩
      rcases it_s hf with ⟨-, hf⟩ | ⟨-, hf⟩
      · skip
        have hj := (hk74 _ _ hf).1
        omega
      · skip
        obtain ⟨-, hf⟩ := ck_s hf
        obtain ⟨-, hf⟩ := ck_s hf
        replace hf := nm_q rfl hf
        obtain ⟨v22, hc, hf⟩ := bd_s hf
        refine jp_W (fun k68 : Int32 → St → Option (St) => ∀ (v23 : Int32) (S24 : St), k68 v23 S24 = some Sz → ph S24 ≤ ph Sz ∧ True) ?_ ?_ hf
        · intro v23 S24 hf
          unfold j_X2_findFrom_68 at hf
          refine ⟨?_, trivial⟩
          replace hf := nm_q rfl hf
          have hj := (hk6 _ _ _ hf).1
          omega
        · intro k68 hk68 hf
          rcases it_s hf with ⟨-, hf⟩ | ⟨-, hf⟩
          · skip
            have hj := (hk68 _ _ hf).1
            omega
          · skip
            obtain ⟨-, hf⟩ := ck_s hf
            obtain ⟨v28, hc, hf⟩ := bd_s hf
            obtain ⟨-, hf⟩ := ck_s hf
            obtain ⟨-, hf⟩ := ck_s hf
            obtain ⟨S31, eS31, hf⟩ := nm_z hf
            have gS31 : ph S31 = ph S17 := by rw [eS31]; rfl
            have hj := (hk68 _ _ hf).1
            omega
    · intro k6 hk6 hf
      have hj := (hk6 _ _ _ hf).1
      omega

theorem mo_X2_find {N : Nat} {S : St} {Sz : St} (hf : f_X2_find N S = some Sz) : ph S ≤ ph Sz := by
  unfold f_X2_find at hf
  obtain ⟨S1, eS1, hf⟩ := nm_z hf
  have gS1 : ph S1 = ph S := by rw [eS1]; rfl
  refine jl_W (fun k7 : Int32 → St → Option (St) => ∀ (v2 : Int32) (S3 : St), k7 v2 S3 = some Sz → ph S3 ≤ ph Sz ∧ True) ?_ ?_ ?_ hf
  · intro v2 S3 h; cases h
  · intro k7 hk7 v2 S3 hf
    unfold b_X2_find_7 at hf
    refine ⟨?_, trivial⟩
    rcases it_s hf with ⟨-, hf⟩ | ⟨-, hf⟩
    · skip
      cases so_1 hf
      omega
    · skip
      refine jp_W (fun k48 : St → Option (St) => ∀ (S5 : St), k48 S5 = some Sz → ph S5 ≤ ph Sz ∧ True) ?_ ?_ hf
      · intro S5 hf
        unfold j_X2_find_48 at hf
        refine ⟨?_, trivial⟩
        refine jp_W (fun k75 : St → Option (St) => ∀ (S6 : St), k75 S6 = some Sz → ph S6 ≤ ph Sz ∧ True) ?_ ?_ hf
        · intro S6 hf
          unfold j_X2_find_75 at hf
          refine ⟨?_, trivial⟩
          replace hf := nm_q rfl hf
          have hj := (hk7 _ _ hf).1
          omega
        · intro k75 hk75 hf
          refine jl_W (fun k51 : Int32 → St → Option (St) => ∀ (v8 : Int32) (S9 : St), k51 v8 S9 = some Sz → ph S9 ≤ ph Sz ∧ True) ?_ ?_ ?_ hf
          · intro v8 S9 h; cases h
          · intro k51 hk51 v8 S9 hf
            unfold b_X2_find_51 at hf
            refine ⟨?_, trivial⟩
            rcases it_s hf with ⟨-, hf⟩ | ⟨-, hf⟩
            · skip
              have hj := (hk75 _ hf).1
              omega
            · skip
              obtain ⟨S11, hc, hf⟩ := bd_s hf
              have gS11 : ph S9 ≤ ph S11 := mo_X2_findFrom hc
              replace hf := nm_q rfl hf
              have hj := (hk51 _ _ hf).1
              omega
          · intro k51 hk51 hf
            have hj := (hk51 _ _ hf).1
            omega
      · intro k48 hk48 hf
        refine jl_W (fun k18 : Int32 → St → Option (St) => ∀ (v13 : Int32) (S14 : St), k18 v13 S14 = some Sz → ph S14 ≤ ph Sz ∧ True) ?_ ?_ ?_ hf
        · intro v13 S14 h; cases h
        · intro k18 hk18 v13 S14 hf
          unfold b_X2_find_18 at hf
          refine ⟨?_, trivial⟩
          rcases it_s hf with ⟨-, hf⟩ | ⟨-, hf⟩
          · skip
            have hj := (hk48 _ hf).1
            omega
          · skip
            obtain ⟨v16, hc, hf⟩ := bd_s hf
            obtain ⟨-, hf⟩ := ck_s hf
            obtain ⟨S18, eS18, hf⟩ := nm_z hf
            have gS18 : ph S18 = ph S14 := by rw [eS18]; rfl
            replace hf := nm_q rfl hf
            have hj := (hk18 _ _ hf).1
            omega
        · intro k18 hk18 hf
          have hj := (hk18 _ _ hf).1
          omega
  · intro k7 hk7 hf
    have hj := (hk7 _ _ hf).1
    omega

theorem mo_X10_knowFindings {N : Nat} {S : St} {Sz : St} (hf : f_X10_knowFindings N S = some Sz) : ph S ≤ ph Sz := by
  unfold f_X10_knowFindings at hf
  rcases it_s hf with ⟨-, hf⟩ | ⟨-, hf⟩
  · skip
    obtain ⟨S2, hc, hf⟩ := bd_s hf
    have gS2 : ph S ≤ ph S2 := mo_X2_find hc
    obtain ⟨S3, eS3, hf⟩ := nm_z hf
    have gS3 : ph S3 = ph S2 := by rw [eS3]; rfl
    cases so_1 hf
    omega
  · skip
    cases so_1 hf
    omega

theorem mo_X6_clear_24 {N : Nat} {S : St} {Sz : St} (hf : f_X6_clear N 24 S = some Sz) : ph S ≤ ph Sz := by
  unfold f_X6_clear at hf
  obtain ⟨S1, eS1, hf⟩ := nm_z hf
  have gS1 : ph S1 = ph S := by rw [eS1]; rfl
  cases so_1 hf
  omega

theorem mo_X6_clear_26 {N : Nat} {S : St} {Sz : St} (hf : f_X6_clear N 26 S = some Sz) : ph S ≤ ph Sz := by
  unfold f_X6_clear at hf
  obtain ⟨S1, eS1, hf⟩ := nm_z hf
  have gS1 : ph S1 = ph S := by rw [eS1]; rfl
  cases so_1 hf
  omega

theorem mo_X9_clear {N : Nat} {S : St} {Sz : St} (hf : f_X9_clear N S = some Sz) : ph S ≤ ph Sz := by
  unfold f_X9_clear at hf
  obtain ⟨S1, eS1, hf⟩ := nm_z hf
  have gS1 : ph S1 = ph S := by rw [eS1]; rfl
  obtain ⟨S2, eS2, hf⟩ := nm_z hf
  have gS2 : ph S2 = ph S1 := by rw [eS2]; rfl
  obtain ⟨S3, hc, hf⟩ := bd_s hf
  have gS3 : ph S2 ≤ ph S3 := mo_X6_clear_24 hc
  cases so_1 hf
  omega

theorem mo_X9_append {N : Nat} {p0 : Int32} {p1 : Int32} {S : St} {Sz : St} (hf : f_X9_append N p0 p1 S = some Sz) : ph S ≤ ph Sz := by
  unfold f_X9_append at hf
  rcases it_s hf with ⟨-, hf⟩ | ⟨-, hf⟩
  · skip
    cases so_1 hf
    omega
  · skip
    obtain ⟨-, hf⟩ := ck_s hf
    obtain ⟨S3, eS3, hf⟩ := nm_z hf
    have gS3 : ph S3 = ph S := by rw [eS3]; rfl
    obtain ⟨S4, eS4, hf⟩ := nm_z hf
    have gS4 : ph S4 = ph S3 := by rw [eS4]; rfl
    obtain ⟨S5, eS5, hf⟩ := nm_z hf
    have gS5 : ph S5 = ph S4 := by rw [eS5]; rfl
    cases so_1 hf
    omega

theorem mo_X0_clear {N : Nat} {S : St} {Sz : St} (hf : f_X0_clear N S = some Sz) : ph S ≤ ph Sz := by
  unfold f_X0_clear at hf
  obtain ⟨S1, eS1, hf⟩ := nm_z hf
  have gS1 : ph S1 = ph S := by rw [eS1]; rfl
  cases so_1 hf
  omega

theorem mo_X0_offer {N : Nat} {p0 : Int32} {p1 : Int32} {p2 : Int32} {S : St} {Sz : St} (hf : f_X0_offer N p0 p1 p2 S = some Sz) : ph S ≤ ph Sz := by
  unfold f_X0_offer at hf
  rcases it_s hf with ⟨-, hf⟩ | ⟨-, hf⟩
  · skip
    cases so_1 hf
    omega
  · skip
    obtain ⟨-, hf⟩ := ck_s hf
    obtain ⟨S3, eS3, hf⟩ := nm_z hf
    have gS3 : ph S3 = ph S := by rw [eS3]; rfl
    obtain ⟨-, hf⟩ := ck_s hf
    obtain ⟨S5, eS5, hf⟩ := nm_z hf
    have gS5 : ph S5 = ph S3 := by rw [eS5]; rfl
    obtain ⟨-, hf⟩ := ck_s hf
    obtain ⟨S7, eS7, hf⟩ := nm_z hf
    have gS7 : ph S7 = ph S5 := by rw [eS7]; rfl
    obtain ⟨-, hf⟩ := ck_s hf
    obtain ⟨S9, eS9, hf⟩ := nm_z hf
    have gS9 : ph S9 = ph S7 := by rw [eS9]; rfl
    obtain ⟨S10, eS10, hf⟩ := nm_z hf
    have gS10 : ph S10 = ph S9 := by rw [eS10]; rfl
    cases so_1 hf
    omega

theorem mo_X0_weigh {N : Nat} {p0 : Int32} {p1 : Int32} {S : St} {Sz : St} (hf : f_X0_weigh N p0 p1 S = some Sz) : ph S ≤ ph Sz := by
  unfold f_X0_weigh at hf
  obtain ⟨-, hf⟩ := ck_s hf
  replace hf := nm_q rfl hf
  obtain ⟨-, hf⟩ := ck_s hf
  replace hf := nm_q rfl hf
  refine jl_W (fun k24 : Int32 → St → Option (St) => ∀ (v5 : Int32) (S6 : St), k24 v5 S6 = some Sz → ph S6 ≤ ph Sz ∧ True) ?_ ?_ ?_ hf
  · intro v5 S6 h; cases h
  · intro k24 hk24 v5 S6 hf
    unfold b_X0_weigh_24 at hf
    refine ⟨?_, trivial⟩
    rcases it_s hf with ⟨-, hf⟩ | ⟨-, hf⟩
    · skip
      cases so_1 hf
      omega
    · skip
      obtain ⟨-, hf⟩ := ck_s hf
      replace hf := nm_q rfl hf
      obtain ⟨-, hf⟩ := ck_s hf
      refine jp_W (fun k90 : St → Option (St) => ∀ (S11 : St), k90 S11 = some Sz → ph S11 ≤ ph Sz ∧ True) ?_ ?_ hf
      · intro S11 hf
        unfold j_X0_weigh_90 at hf
        refine ⟨?_, trivial⟩
        replace hf := nm_q rfl hf
        have hj := (hk24 _ _ hf).1
        omega
      · intro k90 hk90 hf
        rcases it_s hf with ⟨-, hf⟩ | ⟨-, hf⟩
        · skip
          have hj := (hk90 _ hf).1
          omega
        · skip
          obtain ⟨-, hf⟩ := ck_s hf
          obtain ⟨S15, eS15, hf⟩ := nm_z hf
          have gS15 : ph S15 = ph S6 := by rw [eS15]; rfl
          obtain ⟨-, hf⟩ := ck_s hf
          obtain ⟨-, hf⟩ := ck_s hf
          obtain ⟨S18, eS18, hf⟩ := nm_z hf
          have gS18 : ph S18 = ph S15 := by rw [eS18]; rfl
          have hj := (hk90 _ hf).1
          omega
  · intro k24 hk24 hf
    have hj := (hk24 _ _ hf).1
    omega

theorem mo_X0_choose {N : Nat} {p0 : Int32} {S : St} {Sz : St} (hf : f_X0_choose N p0 S = some Sz) : ph S ≤ ph Sz := by
  unfold f_X0_choose at hf
  rcases it_s hf with ⟨-, hf⟩ | ⟨-, hf⟩
  · skip
    cases so_1 hf
    omega
  · skip
    rcases it_s hf with ⟨-, hf⟩ | ⟨-, hf⟩
    · skip
      obtain ⟨S3, hc, hf⟩ := bd_s hf
      have gS3 : ph S ≤ ph S3 := mo_J7_fill_53178_20 hc
      obtain ⟨S4, hc, hf⟩ := bd_s hf
      have gS4 : ph S3 ≤ ph S4 := mo_J7_fill_53178_21 hc
      replace hf := nm_q rfl hf
      refine jp_W (fun k51 : St → Option (St) => ∀ (S6 : St), k51 S6 = some Sz → ph S6 ≤ ph Sz ∧ True) ?_ ?_ hf
      · intro S6 hf
        unfold j_X0_choose_51 at hf
        refine ⟨?_, trivial⟩
        refine jl_W (fun k55 : Int32 → Int32 → St → Option (St) => ∀ (v7 : Int32) (v8 : Int32) (S9 : St), k55 v7 v8 S9 = some Sz → ph S9 ≤ ph Sz ∧ True) ?_ ?_ ?_ hf
        · intro v7 v8 S9 h; cases h
        · intro k55 hk55 v7 v8 S9 hf
          unfold b_X0_choose_55 at hf
          refine ⟨?_, trivial⟩
          rcases it_s hf with ⟨-, hf⟩ | ⟨-, hf⟩
          · skip
            cases so_1 hf
            omega
          · skip
            obtain ⟨v11, hc, hf⟩ := bd_s hf
            obtain ⟨-, hf⟩ := ck_s hf
            obtain ⟨S13, eS13, hf⟩ := nm_z hf
            have gS13 : ph S13 = ph S9 := by rw [eS13]; rfl
            obtain ⟨-, hf⟩ := ck_s hf
            refine jp_W (fun k93 : Int32 → Option (St) => ∀ (v15 : Int32), k93 v15 = some Sz → ph S13 ≤ ph Sz ∧ True) ?_ ?_ hf
            · intro v15 hf
              unfold j_X0_choose_93 at hf
              refine ⟨?_, trivial⟩
              replace hf := nm_q rfl hf
              have hj := (hk55 _ _ _ hf).1
              omega
            · intro k93 hk93 hf
              rcases it_s hf with ⟨-, hf⟩ | ⟨-, hf⟩
              · skip
                have hj := (hk93 _ hf).1
                omega
              · skip
                obtain ⟨-, hf⟩ := ck_s hf
                replace hf := nm_q rfl hf
                have hj := (hk93 _ hf).1
                omega
        · intro k55 hk55 hf
          have hj := (hk55 _ _ _ hf).1
          omega
      · intro k51 hk51 hf
        refine jl_W (fun k35 : Int32 → St → Option (St) => ∀ (v20 : Int32) (S21 : St), k35 v20 S21 = some Sz → ph S21 ≤ ph Sz ∧ True) ?_ ?_ ?_ hf
        · intro v20 S21 h; cases h
        · intro k35 hk35 v20 S21 hf
          unfold b_X0_choose_35 at hf
          refine ⟨?_, trivial⟩
          rcases it_s hf with ⟨-, hf⟩ | ⟨-, hf⟩
          · skip
            have hj := (hk51 _ hf).1
            omega
          · skip
            obtain ⟨S23, hc, hf⟩ := bd_s hf
            have gS23 : ph S21 ≤ ph S23 := mo_X0_weigh hc
            replace hf := nm_q rfl hf
            have hj := (hk35 _ _ hf).1
            omega
        · intro k35 hk35 hf
          have hj := (hk35 _ _ hf).1
          omega
    · skip
      cases so_1 hf
      omega

theorem mo_X10_takeChosen {N : Nat} {p0 : Int32} {S : St} {Sz : St} (hf : f_X10_takeChosen N p0 S = some Sz) : ph S ≤ ph Sz := by
  unfold f_X10_takeChosen at hf
  refine jl_W (fun k2 : Int32 → St → Option (St) => ∀ (v1 : Int32) (S2 : St), k2 v1 S2 = some Sz → ph S2 ≤ ph Sz ∧ True) ?_ ?_ ?_ hf
  · intro v1 S2 h; cases h
  · intro k2 hk2 v1 S2 hf
    unfold b_X10_takeChosen_2 at hf
    refine ⟨?_, trivial⟩
    rcases it_s hf with ⟨-, hf⟩ | ⟨-, hf⟩
    · skip
      cases so_1 hf
      omega
    · skip
      obtain ⟨-, hf⟩ := ck_s hf
      refine jp_W (fun k128 : St → Option (St) => ∀ (S5 : St), k128 S5 = some Sz → ph S5 ≤ ph Sz ∧ True) ?_ ?_ hf
      · intro S5 hf
        unfold j_X10_takeChosen_128 at hf
        refine ⟨?_, trivial⟩
        replace hf := nm_q rfl hf
        have hj := (hk2 _ _ hf).1
        omega
      · intro k128 hk128 hf
        rcases it_s hf with ⟨-, hf⟩ | ⟨-, hf⟩
        · skip
          have hj := (hk128 _ hf).1
          omega
        · skip
          obtain ⟨-, hf⟩ := ck_s hf
          replace hf := nm_q rfl hf
          obtain ⟨-, hf⟩ := ck_s hf
          obtain ⟨S11, hc, hf⟩ := bd_s hf
          have gS11 : ph S2 ≤ ph S11 := mo_X9_append hc
          replace hf := nm_q rfl hf
          refine jp_W (fun k117 : Int32 → St → Option (St) => ∀ (v13 : Int32) (S14 : St), k117 v13 S14 = some Sz → ph S14 ≤ ph Sz ∧ True) ?_ ?_ hf
          · intro v13 S14 hf
            unfold j_X10_takeChosen_117 at hf
            refine ⟨?_, trivial⟩
            obtain ⟨-, hf⟩ := ck_s hf
            obtain ⟨S16, eS16, hf⟩ := nm_z hf
            have gS16 : ph S16 = ph S14 := by rw [eS16]; rfl
            have hj := (hk128 _ hf).1
            omega
          · intro k117 hk117 hf
            refine jl_W (fun k63 : Int32 → St → Option (St) => ∀ (v17 : Int32) (S18 : St), k63 v17 S18 = some Sz → ph S18 ≤ ph Sz ∧ True) ?_ ?_ ?_ hf
            · intro v17 S18 h; cases h
            · intro k63 hk63 v17 S18 hf
              unfold b_X10_takeChosen_63 at hf
              refine ⟨?_, trivial⟩
              rcases it_s hf with ⟨-, hf⟩ | ⟨-, hf⟩
              · skip
                have hj := (hk117 _ _ hf).1
                omega
              · skip
                obtain ⟨-, hf⟩ := ck_s hf
                obtain ⟨v21, hc, hf⟩ := bd_s hf
                rcases it_s hf with ⟨-, hf⟩ | ⟨-, hf⟩
                · skip
                  have hj := (hk117 _ _ hf).1
                  omega
                · skip
                  obtain ⟨-, hf⟩ := ck_s hf
                  obtain ⟨-, hf⟩ := ck_s hf
                  obtain ⟨S25, eS25, hf⟩ := nm_z hf
                  have gS25 : ph S25 = ph S18 := by rw [eS25]; rfl
                  replace hf := nm_q rfl hf
                  have hj := (hk63 _ _ hf).1
                  omega
            · intro k63 hk63 hf
              have hj := (hk63 _ _ hf).1
              omega
  · intro k2 hk2 hf
    have hj := (hk2 _ _ hf).1
    omega
