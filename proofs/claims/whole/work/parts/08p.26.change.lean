/-! clear, hang, post -/
theorem lays1 {σ : ZI} {p : Nat} {v : Int32} (hp : p < 90) : f_X8_lays σ 1 (nI p) v 0 = some (σ 61 p, va_up σ 61 (upd (σ 61) p v)) := by
  have h := lays_n (σ := σ) (c := False) (p := p) (v := v) (e := 0) hp
  rw [if_neg not_false, if_neg not_false] at h
  rw [h]
  simp
theorem lays0 {σ : ZI} {p v e : Int32} : f_X8_lays σ 0 p v e = some (-1, σ) := rfl
theorem u_clear {σ : ZI} (I : Inv σ) (a w : Int32) : ∃ r σ1 σ2, f_X7_clear σ a w = some (r, σ1) ∧ f_X8_clear σ1 a w = some (r, σ2) ∧ Inv σ2 := by
  obtain ⟨t, iT, iR⟩ := id I
  have k1 := iT.1.1
  have e7 : σ 2 2 = nI (t 0 2) := iT.2.1.1 2 (by omega)
  have e8 : σ 60 5 = nI (t 0 2) := iT.2.2.2.2.2.1
  unfold f_X7_clear f_X8_clear f_X8_clear_33 f_X8_clear_34
  rcases ix_cases a (n := t 0 2) (by omega) with h | ⟨m, hm, rfl⟩
  · refine ⟨-1, σ, σ, ?_, ?_, I⟩
    · rw [isM7, e7, if_pos h]; rfl
    · rw [inM8 e8 (by omega), if_pos h]; rfl
  have hm' := ix_no hm (show t 0 2 < 2 ^ 31 by omega)
  rw [isM7, e7, if_neg hm', show (10 : Int32) = nI 10 from rfl, if2]
  by_cases hw : w < nI 0 ∨ nI 10 < w
  · refine ⟨-1, σ, σ, by rw [if_pos hw]; rfl, ?_, I⟩
    rw [inM8 e8 (by omega), if_neg hm', in_at 0 10 0 10 rfl rfl, if_pos (show w < 0 ∨ 10 < w from hw)]; rfl
  obtain ⟨v, v1, v2, rfl⟩ := rng hw (by omega) (by omega)
  obtain ⟨A, B⟩ := T_row (r := 5) (p := 3 + m) (i := m) (v := v) (.inr (.inl ⟨rfl, hm, rfl, v2⟩)) iT
  have a1 := iT.2.1.2.2.1 m hm
  have a3 := iT.2.2.1.2.1 m hm
  refine ⟨nI (t 5 m), va_up σ 7 (upd (σ 7) m (nI v)), va_up (va_up σ 7 (upd (σ 7) m (nI v))) 61 (upd (σ 61) (3 + m) (nI v)), ?_, ?_, Inv_now iR (D_row (by omega) (by omega)) B A⟩
  · rw [if_neg hw]
    show ((f_X7_at σ 7 (nI m)).bind fun q2 => (f_X7_put σ 7 (nI m) (nI v)).bind fun q3 => some (q2, q3)) = _
    rw [at_n (N := 3) rfl (by omega) (by omega), put_n (N := 3) rfl (by omega) (by omega), show σ 7 m = _ from a1.2]
    rfl
  · rw [inM8 (show va_up σ 7 (upd (σ 7) m (nI v)) 60 5 = nI (t 0 2) from e8) (by omega), if_neg hm', in_at 0 10 0 10 rfl rfl, if_neg (show ¬ (nI v < 0 ∨ 10 < nI v) from hw)]
    show ((f_X8_lays (va_up σ 7 (upd (σ 7) m (nI v))) 1 (nI 3 + nI m) (nI v) 0).bind fun q2 => some (q2.1, q2.2)) = _
    rw [nI_add, lays1 (by omega)]
    show some (σ 61 (3 + m), _) = _
    rw [Nat.zero_add] at a3
    rw [a3]
    rfl
theorem u_hang {σ : ZI} (I : Inv σ) (a w : Int32) : ∃ r σ1 σ2, f_X7_hang σ a w = some (r, σ1) ∧ f_X8_hang σ1 a w = some (r, σ2) ∧ Inv σ2 := by
  obtain ⟨t, iT, iR⟩ := id I
  have k1 := iT.1.1
  have e7 : σ 2 1 = nI (t 0 1) := iT.2.1.1 1 (by omega)
  have e8 : σ 60 3 = nI (t 0 1) := iT.2.2.2.2.1
  unfold f_X7_hang f_X8_hang f_X8_hang_25 f_X8_hang_26
  rcases ix_cases a (n := t 0 1) (by omega) with h | ⟨m, hm, rfl⟩
  · refine ⟨-1, σ, σ, ?_, ?_, I⟩
    · rw [isA7, e7, if_pos h]; rfl
    · rw [isA8 e8 (by omega), if_pos h]; rfl
  have hm' := ix_no hm (show t 0 1 < 2 ^ 31 by omega)
  rw [isA7, e7, if_neg hm', show (4 : Int32) = nI 4 from rfl, if2]
  by_cases hw : w < nI 0 ∨ nI 4 < w
  · refine ⟨-1, σ, σ, by rw [if_pos hw]; rfl, ?_, I⟩
    rw [isA8 e8 (by omega), if_neg hm', in_at 0 4 0 4 rfl rfl, if_pos (show w < 0 ∨ 4 < w from hw)]; rfl
  obtain ⟨v, v1, v2, rfl⟩ := rng hw (by omega) (by omega)
  obtain ⟨A, B⟩ := T_row (r := 1) (p := m) (i := m) (v := v) (.inl ⟨rfl, hm, rfl, v2⟩) iT
  have a1 := iT.2.1.2.1 m hm
  have a3 := iT.2.2.1.1 m hm
  refine ⟨nI (t 1 m), va_up σ 3 (upd (σ 3) m (nI v)), va_up (va_up σ 3 (upd (σ 3) m (nI v))) 61 (upd (σ 61) m (nI v)), ?_, ?_, Inv_now iR (D_row (by omega) (by omega)) B A⟩
  · rw [if_neg hw]
    show ((f_X7_at σ 3 (nI m)).bind fun q2 => (f_X7_put σ 3 (nI m) (nI v)).bind fun q3 => some (q2, q3)) = _
    rw [at_n (N := 3) rfl (by omega) (by omega), put_n (N := 3) rfl (by omega) (by omega), show σ 3 m = _ from a1.1]
    rfl
  · rw [isA8 (show va_up σ 3 (upd (σ 3) m (nI v)) 60 3 = nI (t 0 1) from e8) (by omega), if_neg hm', in_at 0 4 0 4 rfl rfl, if_neg (show ¬ (nI v < 0 ∨ 4 < nI v) from hw)]
    show ((f_X8_lays (va_up σ 3 (upd (σ 3) m (nI v))) 1 (nI m) (nI v) 0).bind fun q2 => some (q2.1, q2.2)) = _
    rw [lays1 (by omega)]
    show some (σ 61 m, _) = _
    rw [Nat.zero_add] at a3
    rw [a3]
    rfl
theorem u_post {σ : ZI} (I : Inv σ) (a w : Int32) : ∃ r σ1 σ2, f_X7_post σ a w = some (r, σ1) ∧ f_X8_post σ1 a w = some (r, σ2) ∧ Inv σ2 := by
  obtain ⟨t, iT, iR⟩ := id I
  have k1 := iT.1.1
  have e7 : σ 2 3 = nI (t 0 3) := iT.2.1.1 3 (by omega)
  have e8 : σ 60 7 = nI (t 0 3) := iT.2.2.2.2.2.2.1
  unfold f_X7_post f_X8_post f_X8_posts f_X7_postedTo
  rw [if_pos (show (ar 8).1 = 1 from rfl)]
  rcases ix_cases a (n := t 0 3) (by omega) with h | ⟨m, hm, rfl⟩
  · refine ⟨-1, σ, σ, ?_, ?_, I⟩
    · rw [isT7, e7, if_pos h]; rfl
    · rw [inM8 e8 (by omega), if_pos h]; rfl
  have hm' := ix_no hm (show t 0 3 < 2 ^ 31 by omega)
  rw [isT7, e7, if_neg hm', show (99 : Int32) = nI 99 from rfl, if2]
  by_cases hw : w < nI 0 ∨ nI 99 < w
  · refine ⟨-1, σ, σ, by rw [if_pos hw]; rfl, ?_, I⟩
    rw [inM8 e8 (by omega), if_neg hm', in_at 0 99 0 99 rfl rfl, if_pos (show w < 0 ∨ 99 < w from hw)]; rfl
  obtain ⟨v, v1, v2, rfl⟩ := rng hw (by omega) (by omega)
  have a1 := iT.2.1.2.2.2 m hm
  have a3 := iT.2.2.1.2.2.1 m hm
  have k6 := (iT.1.2.2.2.2.2 m hm).1
  rw [Nat.zero_add] at a3
  rw [if_neg hw]
  have e6 : (6 : Int32) + nI m = nI (6 + m) := nI_add 6 m
  by_cases hs : t 6 m + v ≤ 99
  · obtain ⟨A, B⟩ := T_row (r := 6) (p := 6 + m) (i := m) (v := t 6 m + v) (.inr (.inr ⟨rfl, hm, rfl, hs⟩)) iT
    have l1 : nI (t 6 m + v) ≤ nI 99 := nI_le hs (by omega)
    refine ⟨nI (t 6 m + v), va_up σ 8 (upd (σ 8) m (nI (t 6 m + v))), va_up (va_up σ 8 (upd (σ 8) m (nI (t 6 m + v)))) 61 (upd (σ 61) (6 + m) (nI (t 6 m + v))), ?_, ?_, Inv_now iR (D_row (by omega) (by omega)) B A⟩
    · simp only [Option.bind_some]
      rw [if_neg (by decide), at_n (N := 5) rfl (by omega) (by omega), show σ 8 m = _ from a1.1]
      simp only [Option.bind_some, nI_add, if_pos l1]
      rw [if_neg (nI_pos (by omega)), put_n (N := 5) rfl (by omega) (by omega)]
      rfl
    · rw [inM8 (show va_up σ 8 (upd (σ 8) m (nI (t 6 m + v))) 60 7 = nI (t 0 3) from e8) (by omega), if_neg hm', in_at 0 99 0 99 rfl rfl, if_neg (show ¬ (nI v < 0 ∨ 99 < nI v) from hw)]
      rw [e6]
      have z : va_up σ 8 (upd (σ 8) m (nI (t 6 m + v))) 61 = σ 61 := rfl
      simp only [Option.bind_some, inB_n (show 6 + m < 90 by omega) (by omega), nI_clamp (show 6 + m < 2 ^ 31 by omega), z, a3, nI_add]
      rw [if_neg (by decide), if_neg (by decide), if_pos trivial, if_pos l1, if_pos trivial, if_pos trivial]
      simp [lt_, va_up, upd]
  · have l1 : ¬ nI (t 6 m + v) ≤ nI 99 := nI_ge (by omega) (by omega)
    refine ⟨-3, σ, σ, ?_, ?_, I⟩
    · simp only [Option.bind_some]
      rw [if_neg (by decide), at_n (N := 5) rfl (by omega) (by omega), show σ 8 m = _ from a1.1]
      simp only [Option.bind_some, nI_add, if_neg l1]
      rfl
    · rw [inM8 e8 (by omega), if_neg hm', in_at 0 99 0 99 rfl rfl, if_neg (show ¬ (nI v < 0 ∨ 99 < nI v) from hw)]
      rw [e6]
      simp only [Option.bind_some, inB_n (show 6 + m < 90 by omega) (by omega), nI_clamp (show 6 + m < 2 ^ 31 by omega), a3, nI_add]
      rw [if_neg (by decide), if_neg (by decide), if_pos trivial, if_neg l1]
      rfl
