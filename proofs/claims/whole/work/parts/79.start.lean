/-! pure part: the first states -/
section STA
variable {N : Nat}
theorem init_e (hN : 6000 ≤ N) : ok (f_X11_init N) fun M' => fr (fun r k => r = 14) mS1 M' ∧ ∀ k, k < 864 → M'.1 14 k = -100 := by
  unfold f_X11_init
  rw [q_jp]
  refine ok_up0 (n := 864) (fun i S => fr (fun r k => r = 14) mS1 S ∧ ∀ k, k < i → S.1 14 k = -100) ?_ ?_ (by omega) ⟨fr.rf, fun k hk => by omega⟩
  · rintro K S ⟨g1, g2⟩
    unfold b_X11_init_389
    rw [if_pos (by decide)]
    exact ok_s ⟨g1, g2⟩
  · rintro K i S hi ⟨g1, g2⟩ hK
    unfold b_X11_init_389
    rw [if_neg (show ¬ (864 : Int32) ≤ nI i from nI_ge (b := 864) hi (by omega)), q_ck (by omega) (by omega), q_nm, q_nm, q_tn (by omega), ← nI_succ]
    refine hK _ ⟨g1.pu rfl, fun k hk => ?_⟩
    by_cases e : k = i
    · subst e; exact q_gS _ _ _ _
    · rw [q_gK _ _ _ _ _ _ e]; exact g2 k (by omega)
theorem zw_e : zw 0 = lN (enc Wd 0 5) ∧ zw 1 = lN (enc Wd 6 6) ∧ zw 2 = lN (enc Wd 13 4) ∧ zw 3 = lN (enc Wd 18 4) ∧ zw 4 = lN (enc Wd 23 3) := by decide +kernel
theorem m15_e : ∀ k, k < 27 → mS1.1 15 k = nI (Wd k) := by decide +kernel
theorem fit0 : fits .byte (.int (0 : Int32)) = true := by decide
theorem R_init (hN : 6000 ≤ N) : ∃ M', f_X11_init N = some M' ∧ RelP 0 0 0 cS0 M' := by
  obtain ⟨M', e, hf, h14⟩ := init_e hN
  have m0 : ∀ r k, r ≠ 14 → M'.1 r k = mS1.1 r k := fun r k a => hf.2 r k a
  have m00 : ∀ k, k ≠ 17 → M'.1 0 k = 0 := fun k a => by
    rw [m0 0 k (by omega)]
    show (if k = 17 then (-1 : Int32) else 0) = 0
    rw [if_neg a]
  have m1 : ∀ k, M'.1 1 k = 0 := fun k => (m0 1 k (by omega)).trans rfl
  refine ⟨M', e, ⟨⟨0, by omega, rfl, m00 1 (by omega)⟩, fun k hk => (m1 k).trans (show (0 : Int32) = nI ((0 : Int32) &&& 255).toNatClampNeg by decide)⟩, ⟨⟨zw_e.1, zw_e.2.1, zw_e.2.2.1, zw_e.2.2.2.1, zw_e.2.2.2.2⟩, zw_e.2.2.2.2, fun k hk => (m0 15 k (by omega)).trans (m15_e k hk)⟩, ⟨(m00 16 (by omega)).symm, ((m0 0 17 (by omega)).trans rfl).symm⟩,
    ⟨⟨rfl, rfl, by omega, by omega, fun i hi => by omega, fun i hi => by omega, fun i j hi => by omega⟩, ⟨rfl, by omega, fun i hi => by omega, fun i j hi hj => by omega⟩, m00 3 (by omega), m00 4 (by omega), m00 8 (by omega)⟩,
    ⟨⟨rfl, fun s hs => ?_, fun s a1 a2 => ?_⟩, rfl, fun s a1 a2 => ?_⟩, ⟨fun k hk => ?_, fun k hk => ?_, fun q p x a1 a2 a3 a4 => ⟨h14 _ (by omega), h14 _ (by omega)⟩⟩, ⟨Or.inr ⟨rfl, rfl, AL.nil⟩, fun t ht => rfl⟩,
    ⟨⟨[], by decide, rfl, m00 38 (by omega), fun k hk => absurd hk (by simp), AL.nil, by simp, ?_, fun _ => rfl⟩, (m00 39 (by omega)).symm, [], ?_⟩⟩
  · have : s = 0 := by
      have : s < 1 := hs
      omega
    subst this
    unfold Jn
    rw [orJ_0]
    rfl
  · exfalso
    have : s < 1 := a2
    omega
  · exfalso
    have : s < 1 := a2
    omega
  · rw [h14 k (by omega), h14 (432 + k) (by omega)]
    constructor
    · show (if k < 432 then (-100 : Int32) else 0) = -100
      rw [if_pos hk]
    · show (if k < 432 then (-100 : Int32) else 0) = -100
      rw [if_pos hk]
  · rw [h14 k hk]; unfold tOK; decide
  · exact ⟨400, rfl, by omega, by omega, by show 0 ≤ 400; omega, rfl, fun j hj => fit0, fun i x hx => by
      have : ([] : List Nat)[i]? = some x := hx
      simp at this⟩
  · exact ⟨128, rfl, by omega, by omega, by show 0 ≤ 128; omega, rfl, fun j hj => fit0, fun i x hx => by simp at hx⟩
end STA
