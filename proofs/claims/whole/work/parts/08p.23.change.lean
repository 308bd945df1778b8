/-! the tape, what was seen -/
theorem by7 : ∀ c, c < 128 → vp_nar .byte (nI c).toInt8.toInt32 = nI c := by decide +kernel
theorem u_feed {σ : ZI} (I : Inv σ) (a : Int32) : ∃ r σ1 σ2, f_X7_feed σ a = some (r, σ1) ∧ f_X8_feed σ1 a = some (r, σ2) ∧ Inv σ2 := by
  obtain ⟨n, b, n1, t1, t2, t3⟩ := I.choose_spec.2.2.1
  unfold f_X7_feed f_X8_feed
  rcases ix_cases a (n := 128) (by omega) with h | ⟨c, hc, rfl⟩
  · have h' : a < 0 ∨ 127 < a := by
      rcases h with h | h
      · exact .inl h
      · right
        rw [Int32.le_iff_toInt_le, nI_toInt (by omega)] at h
        rw [Int32.lt_iff_toInt_lt]
        have : (127 : Int32).toInt = 127 := rfl
        omega
    refine ⟨-1, σ, σ, ?_, ?_, I⟩
    · by_cases h0 : a < 0
      · rw [if_pos h0]
      · rw [if_neg h0, if_neg]
        rcases h' with q | q
        · exact absurd q h0
        · exact Int32.not_le.mpr q
    · rw [in_at 0 127 0 127 rfl rfl, if_pos h']
      rfl
  · have hc0 : ¬ nI c < 0 := nI_pos (by omega)
    have hc1 : nI c ≤ 127 := nI_le (a := c) (b := 127) (by omega) (by omega)
    have hc2 : ¬ (nI c < 0 ∨ 127 < nI c) := by
      rintro (q | q)
      · exact hc0 q
      · exact Int32.not_le.mpr q hc1
    rw [if_neg hc0, if_pos hc1]
    simp only [in_at 0 127 0 127 rfl rfl, if_neg hc2]
    unfold f_X5_add
    rw [t1, if_neg (nI_pos (by omega))]
    by_cases hn : n = 160
    · subst hn
      refine ⟨-3, σ, σ, ?_, ?_, I⟩
      · rw [if_neg (by decide)]; rfl
      · simp only [t2]; rfl
    · have hn2 : n < 160 := by omega
      refine ⟨nI (n + 1), va_up (va_up σ 38 (upd (σ 38) n (nI c))) 37 (upd (σ 37) 1 (nI (n + 1))), va_up (va_up (va_up (va_up σ 38 (upd (σ 38) n (nI c))) 37 (upd (σ 37) 1 (nI (n + 1)))) 71 (upd (σ 71) n (nI c))) 60 (upd (σ 60) 23 (nI (n + 1))), ?_, ?_, ?_⟩
      · rw [if_pos (nI_lt hn2 (by omega)), inB_n hn2 (by omega), if_pos rfl, nI_clamp (by omega), by7 c hc]
        simp [lt_, va_up, upd, t1, nI_1]
      · have e : ¬ nI n = 160 := by
          intro q
          have := (nI_eq (a := n) (b := 160) (by omega) (by omega)).mp q
          omega
        simp [lt_, va_up, upd, t2, e, inB_n hn2 (by omega), nI_clamp (show n < 2 ^ 31 by omega), nI_1]
      · refine Inv_tape I (Dw_up (c := 60) (σ' := va_up (va_up (va_up σ 38 (upd (σ 38) n (nI c))) 37 (upd (σ 37) 1 (nI (n + 1)))) 71 (upd (σ 71) n (nI c))) (Dw_up (c := 71) (σ' := va_up (va_up σ 38 (upd (σ 38) n (nI c))) 37 (upd (σ 37) 1 (nI (n + 1)))) (Dw_up (c := 37) (σ' := va_up σ 38 (upd (σ 38) n (nI c))) (Dw_up (Dw_refl 3 σ) (.inr rfl)) (.inr rfl)) (.inr rfl)) (.inr rfl)) ⟨n + 1, fun i => if i = n then c else b i, by omega, rfl, rfl, fun i hi => ?_⟩
        show (if i = n then c else b i) < 128 ∧ upd (σ 38) n (nI c) i = nI (if i = n then c else b i) ∧ upd (σ 71) n (nI c) i = nI (if i = n then c else b i)
        by_cases h : i = n
        · simp [upd, h, hc]
        · have := t3 i (by omega)
          simp [upd, h, this]
theorem le_rng {a : Int32} {n : Nat} : (if a < 0 then (1 : Nat) else if a ≤ nI n then 0 else 1) = if a < nI 0 ∨ nI n < a then 1 else 0 := by
  by_cases h : a < 0
  · rw [if_pos h, if_pos (.inl h)]
  · rw [if_neg h]
    by_cases h2 : a ≤ nI n
    · rw [if_pos h2, if_neg]
      rintro (q | q)
      · exact h q
      · exact Int32.not_le.mpr q h2
    · rw [if_neg h2, if_pos (.inr (Int32.not_le.mp h2))]
theorem if2 {α : Type} {a : Int32} {n : Nat} {x y : α} : (if a < 0 then x else if a ≤ nI n then y else x) = if a < nI 0 ∨ nI n < a then x else y := by
  by_cases h : a < 0
  · rw [if_pos h, if_pos (.inl h)]
  · rw [if_neg h]
    by_cases h2 : a ≤ nI n
    · rw [if_pos h2, if_neg]
      rintro (q | q)
      · exact h q
      · exact Int32.not_le.mpr q h2
    · rw [if_neg h2, if_pos (.inr (Int32.not_le.mp h2))]
theorem u_end {σ : ZI} (I : Inv σ) (a : Int32) : ∃ r σ1 σ2, f_X7_end σ a = some (r, σ1) ∧ f_X8_end σ1 a = some (r, σ2) ∧ Inv σ2 := by
  obtain ⟨n, b, n1, t1, t2, t3⟩ := I.choose_spec.2.2.1
  unfold f_X7_end f_X8_end
  rw [t1, if2]
  by_cases h : a < nI 0 ∨ nI n < a
  · refine ⟨-1, σ, σ, by rw [if_pos h], ?_, I⟩
    rw [in_at 0 _ 0 (σ 60 23) rfl rfl, t2]
    exact congrArg (fun z => Option.bind z _) (congrArg some (if_pos h))
  · obtain ⟨v, v1, v2, rfl⟩ := rng h (by omega) (by omega)
    refine ⟨nI n, va_up σ 37 (upd (σ 37) 1 (nI v)), va_up (va_up σ 37 (upd (σ 37) 1 (nI v))) 60 (upd (σ 60) 23 (nI v)), by rw [if_neg h]; rfl, ?_, ?_⟩
    · rw [in_at 0 _ 0 (va_up σ 37 (upd (σ 37) 1 (nI v)) 60 23) rfl rfl]
      have e : va_up σ 37 (upd (σ 37) 1 (nI v)) 60 23 = nI n := t2
      rw [e, if_neg (show ¬ (nI v < 0 ∨ nI n < nI v) from h)]
      rfl
    · refine Inv_tape I (Dw_up (c := 60) (σ' := va_up σ 37 (upd (σ 37) 1 (nI v))) (Dw_up (Dw_refl 3 σ) (.inr rfl)) (.inr rfl)) ⟨v, b, by omega, rfl, rfl, fun i hi => t3 i (by omega)⟩
theorem u_forget {σ : ZI} (I : Inv σ) (a : Int32) : ∃ r σ1 σ2, f_X7_forget σ a = some (r, σ1) ∧ f_X8_forget σ1 a = some (r, σ2) ∧ Inv σ2 := by
  obtain ⟨t, iT, iI, iP, ⟨n, j, c, s1, s2, s3, s4⟩, iH, iF, iK⟩ := I
  have I : Inv σ := ⟨t, iT, iI, iP, ⟨n, j, c, s1, s2, s3, s4⟩, iH, iF, iK⟩
  unfold f_X7_forget f_X8_forget
  rw [s2, if2]
  by_cases h : a < nI 0 ∨ nI n < a
  · refine ⟨-1, σ, σ, by rw [if_pos h], ?_, I⟩
    rw [in_at 0 _ 0 (σ 60 41) rfl rfl, s3]
    exact congrArg (fun z => Option.bind z _) (congrArg some (if_pos h))
  · obtain ⟨v, v1, v2, rfl⟩ := rng h (by omega) (by omega)
    refine ⟨nI n, va_up σ 51 (upd (σ 51) 2 (nI v)), va_up (va_up σ 51 (upd (σ 51) 2 (nI v))) 60 (upd (σ 60) 41 (nI v)), by rw [if_neg h]; rfl, ?_, ?_⟩
    · rw [in_at 0 _ 0 (va_up σ 51 (upd (σ 51) 2 (nI v)) 60 41) rfl rfl]
      have e : va_up σ 51 (upd (σ 51) 2 (nI v)) 60 41 = nI n := s3
      rw [e, if_neg (show ¬ (nI v < 0 ∨ nI n < nI v) from h)]
      rfl
    · refine Inv_seen ⟨iT, iI, iP, iH, iF, iK⟩ (Dw_up (c := 60) (σ' := va_up σ 51 (upd (σ 51) 2 (nI v))) (Dw_up (Dw_refl 4 σ) (.inr rfl)) (.inr rfl)) ⟨v, j, c, by omega, rfl, rfl, fun i hi => s4 i (by omega)⟩
theorem u_see {σ : ZI} (I : Inv σ) (a w : Int32) : ∃ r σ1 σ2, f_X7_see σ a w = some (r, σ1) ∧ f_X8_see σ1 a w = some (r, σ2) ∧ Inv σ2 := by
  obtain ⟨t, iT, iI, iP, ⟨n, j, c, s1, s2, s3, s4⟩, iH, iF, iK⟩ := I
  have I : Inv σ := ⟨t, iT, iI, iP, ⟨n, j, c, s1, s2, s3, s4⟩, iH, iF, iK⟩
  have k1 := iT.1.1
  have eJ : σ 2 0 = nI (t 0 0) := iT.2.1.1 0 (by omega)
  have eK : σ 60 1 = nI (t 0 0) := iT.2.2.2.1
  unfold f_X7_see f_X8_see
  by_cases hj : a < nI 1 ∨ nI (t 0 0) < a
  · refine ⟨-1, σ, σ, ?_, ?_, I⟩
    · rw [isJ7, eJ, if_pos (show a < 1 ∨ nI (t 0 0) < a from hj)]; rfl
    · rw [isJ8, eK, if_pos (show a < 1 ∨ nI (t 0 0) < a from hj)]; rfl
  obtain ⟨v, v1, v2, rfl⟩ := rng hj (by omega) (by omega)
  rw [isJ7, eJ, if_neg (show ¬ (nI v < 1 ∨ nI (t 0 0) < nI v) from hj)]
  rw [show (10 : Int32) = nI 10 from rfl, if2]
  by_cases hw : w < nI 0 ∨ nI 10 < w
  · refine ⟨-1, σ, σ, ?_, ?_, I⟩
    · rw [if_pos hw]; rfl
    · rw [isJ8, eK, if_neg (show ¬ (nI v < 1 ∨ nI (t 0 0) < nI v) from hj), in_at 0 10 0 10 rfl rfl, if_pos (show w < 0 ∨ 10 < w from hw)]; rfl
  obtain ⟨u, u1, u2, rfl⟩ := rng hw (by omega) (by omega)
  rw [if_neg hw]
  by_cases hn : n = 6
  · subst hn
    refine ⟨-3, σ, σ, ?_, ?_, I⟩
    · unfold f_X3_add
      rw [s2]; rfl
    · rw [isJ8, eK, if_neg (show ¬ (nI v < 1 ∨ nI (t 0 0) < nI v) from hj), in_at 0 10 0 10 rfl rfl, if_neg (show ¬ (nI u < 0 ∨ 10 < nI u) from hw), s3]; rfl
  · have hn2 : n < 6 := by omega
    refine ⟨nI (n + 1), va_up (va_up (va_up σ 52 (upd (σ 52) n (nI v))) 53 (upd (σ 53) n (nI u))) 51 (upd (σ 51) 2 (nI (n + 1))), va_up (va_up (va_up (va_up (va_up (va_up σ 52 (upd (σ 52) n (nI v))) 53 (upd (σ 53) n (nI u))) 51 (upd (σ 51) 2 (nI (n + 1)))) 74 (upd (σ 74) (2 * n) (nI v))) 74 (upd (upd (σ 74) (2 * n) (nI v)) (2 * n + 1) (nI u))) 60 (upd (σ 60) 41 (nI (n + 1))), ?_, ?_, ?_⟩
    · unfold f_X3_add
      rw [s2, if_pos (show nI n < 6 from nI_lt (b := 6) hn2 (by omega)), put_n (N := 6) rfl hn2 (by omega)]
      show (((f_X7_put (va_up σ 52 (upd (σ 52) n (nI v))) 53 (σ 51 2) (nI u)).bind fun q2 => _).bind _) = _
      rw [s2, put_n (N := 6) rfl hn2 (by omega)]
      simp [lt_, va_up, upd, s2, nI_1]
    · rw [isJ8]
      have e1 : va_up (va_up (va_up σ 52 (upd (σ 52) n (nI v))) 53 (upd (σ 53) n (nI u))) 51 (upd (σ 51) 2 (nI (n + 1))) 60 1 = nI (t 0 0) := eK
      rw [e1, if_neg (show ¬ (nI v < 1 ∨ nI (t 0 0) < nI v) from hj), in_at 0 10 0 10 rfl rfl, if_neg (show ¬ (nI u < 0 ∨ 10 < nI u) from hw)]
      have e2 : ¬ nI n = 6 := by
        intro q
        have := (nI_eq (a := n) (b := 6) (by omega) (by omega)).mp q
        omega
      have e3 : (2 : Int32) * nI n = nI (2 * n) := pk_mul 2 n
      simp [lt_, va_up, upd, s3, e2, e3, inB_n (show 2 * n < 12 by omega) (by omega), inB_n (show 2 * n + 1 < 12 by omega) (by omega), nI_clamp (show 2 * n < 2 ^ 31 by omega), nI_clamp (show 2 * n + 1 < 2 ^ 31 by omega), nI_1]
    · refine Inv_seen ⟨iT, iI, iP, iH, iF, iK⟩ (fun x i q r => ?_) ⟨n + 1, fun i => if i = n then v else j i, fun i => if i = n then u else c i, by omega, rfl, rfl, fun i hi => ?_⟩
      · have : x ≠ 52 ∧ x ≠ 53 ∧ x ≠ 74 ∧ (x = 51 → i ≠ 2) ∧ (x = 60 → i ≠ 41) := ⟨by rintro rfl; exact r rfl, by rintro rfl; exact r rfl, by rintro rfl; exact r rfl, by rintro rfl rfl; exact r rfl, by rintro rfl rfl; exact r rfl⟩
        obtain ⟨g1, g2, g3, g4, g5⟩ := this
        by_cases h60 : x = 60
        · subst h60; simp [va_up, upd, g5 rfl]
        · by_cases h51 : x = 51
          · subst h51; simp [va_up, upd, g4 rfl]
          · simp [va_up, g1, g2, g3, h60, h51]
      · show 1 ≤ (if i = n then v else j i) ∧ (if i = n then v else j i) ≤ t 0 0 ∧ (if i = n then u else c i) ≤ 10 ∧ upd (σ 52) n (nI v) i = nI (if i = n then v else j i) ∧ upd (σ 53) n (nI u) i = nI (if i = n then u else c i) ∧ upd (upd (σ 74) (2 * n) (nI v)) (2 * n + 1) (nI u) (2 * i) = nI (if i = n then v else j i) ∧ upd (upd (σ 74) (2 * n) (nI v)) (2 * n + 1) (nI u) (2 * i + 1) = nI (if i = n then u else c i)
        by_cases h : i = n
        · subst h
          have z : ¬ 2 * i = 2 * i + 1 := by omega
          simp [upd, z]
          omega
        · have h4 := s4 i (by omega)
          have z1 : ¬ 2 * i = 2 * n + 1 := by omega
          have z2 : ¬ 2 * i = 2 * n := by omega
          have z3 : ¬ 2 * i + 1 = 2 * n := by omega
          simp [upd, h, z1, z2, z3]
          exact h4
