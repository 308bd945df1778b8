/-! signal: the bits of ten joints -/
def clr (s i : Nat) : Nat := s - s / 2 ^ i % 2 * 2 ^ i
theorem sg_bits : ∀ i, i < 10 → ∀ s, s < 1024 → (nI s &&& (nI (2 ^ i) ^^^ (-1 : Int32))) = nI (clr s i) ∧ (nI s ||| nI (2 ^ i)) = nI (s ||| 2 ^ i) ∧ (nI (clr s i) ||| nI (2 ^ i)) = nI (s ||| 2 ^ i) ∧ (nI (clr s i) ||| (0 : Int32)) = nI (clr s i) ∧ ((nI s >>> (nI i &&& 31)) &&& (1 : Int32)) = (if (nI s &&& nI (2 ^ i)) = 0 then 0 else 1) := by decide +kernel
theorem sg_b : ∀ i, i < 10 → ((1 : Int32) <<< (nI i &&& 31)) = nI (2 ^ i) := by decide +kernel
theorem u_signal {σ : ZI} (I : Inv σ) (a w : Int32) : ∃ r σ1 σ2, f_X7_signal σ a w = some (r, σ1) ∧ f_X8_signal σ1 a w = some (r, σ2) ∧ Inv σ2 := by
  obtain ⟨t, iT, iR⟩ := id I
  have k1 := iT.1.1
  have eJ : σ 2 0 = nI (t 0 0) := iT.2.1.1 0 (by omega)
  have eK : σ 60 1 = nI (t 0 0) := iT.2.2.2.1
  have eS : σ 2 4 = nI (t 0 4) := iT.2.1.1 4 (by omega)
  have eR : σ 61 11 = nI (t 0 4) := iT.2.2.1.2.2.2.1
  have r4 : ruP 4 11 0 := by unfold ruP; omega
  have hS : t 0 4 < 1024 := Nat.lt_of_lt_of_le k1.2.2.2.2.2.1 (Nat.pow_le_pow_right (n := 2) (by omega) k1.2.1)
  unfold f_X7_signal f_X8_signal
  by_cases hj : a < nI 1 ∨ nI (t 0 0) < a
  · refine ⟨-1, σ, σ, ?_, ?_, I⟩
    · rw [isJ7, eJ, if_pos (show a < 1 ∨ nI (t 0 0) < a from hj)]; rfl
    · rw [isJ8, eK, if_pos (show a < 1 ∨ nI (t 0 0) < a from hj)]; rfl
  obtain ⟨j, j1, j2, rfl⟩ := rng hj (by omega) (by omega)
  obtain ⟨i, rfl⟩ : ∃ i, j = i + 1 := ⟨j - 1, by omega⟩
  obtain ⟨b1, b2, b3, b4, b5⟩ := sg_bits i (by omega) (t 0 4) hS
  have fin : ∀ v, v < 2 ^ t 0 0 → Inv (va_up (va_up σ 2 (upd (σ 2) 4 (nI v))) 61 (upd (σ 61) 11 (nI v - nI 0))) := fun v hv => Inv_now iR (D_rule (by omega)) (SS_rule r4) (T_rule r4 iT (TK_rule r4 iT.1 (by refine ⟨fun _ => hv, ?_, ?_, ?_, ?_, ?_, ?_⟩ <;> intro <;> omega)))
  have hb : 2 ^ i < 2 ^ t 0 0 := Nat.pow_lt_pow_right (by omega) (by omega)
  have c1 : ∀ v, v < 2 ^ t 0 0 → ∀ x : Int32, x = nI v → f_X7_signal_48 (nI (i + 1)) w σ (nI (t 0 4)) (nI (2 ^ i)) x 4 = some ((if (nI (t 0 4) &&& nI (2 ^ i)) = 0 then 0 else 1), va_up σ 2 (upd (σ 2) 4 (nI v))) := by
    intro v hv x hx
    unfold f_X7_signal_48
    show ((f_X6_become σ 1 (nI 4) x).bind _) = _
    rw [bec_n rfl rfl (by omega), hx]
    by_cases h : (nI (t 0 4) &&& nI (2 ^ i)) = 0
    · simp [h]
    · simp [h]
  have c2 : ∀ (σ' : ZI) (v : Nat) (r x y : Int32), (x ||| y) = nI v → f_X8_signal_58 (nI (i + 1)) w σ' r y x 11 = some (r, va_up σ' 61 (upd (σ' 61) 11 (nI v - nI 0))) := by
    intro σ' v r x y h
    unfold f_X8_signal_58
    rw [if_pos (show inB 11 90 = true from rfl), h, i_sub0]
    rfl
  rw [isJ7, eJ, if_neg (show ¬ (nI (i + 1) < 1 ∨ nI (t 0 0) < nI (i + 1)) from hj)]
  by_cases hw : w = 0
  · have hv : clr (t 0 4) i < 2 ^ t 0 0 := Nat.lt_of_le_of_lt (Nat.sub_le _ _) k1.2.2.2.2.2.1
    refine ⟨if (nI (t 0 4) &&& nI (2 ^ i)) = 0 then 0 else 1, va_up σ 2 (upd (σ 2) 4 (nI (clr (t 0 4) i))), va_up (va_up σ 2 (upd (σ 2) 4 (nI (clr (t 0 4) i)))) 61 (upd (σ 61) 11 (nI (clr (t 0 4) i) - nI 0)), ?_, ?_, fin _ hv⟩
    · simp only [Option.bind_some]
      rw [if_neg (by decide), v1_4, eS]
      simp only [Option.bind_some, lt_]
      rw [nI_pred, sg_b i (by omega), if_pos hw]
      exact c1 _ hv _ b1
    · rw [isJ8, show va_up σ 2 (upd (σ 2) 4 (nI (clr (t 0 4) i))) 60 1 = nI (t 0 0) from eK, if_neg (show ¬ (nI (i + 1) < 1 ∨ nI (t 0 0) < nI (i + 1)) from hj)]
      simp only [Option.bind_some, lt_]
      rw [if_neg (by decide), show va_up σ 2 (upd (σ 2) 4 (nI (clr (t 0 4) i))) 61 11 = nI (t 0 4) from eR, nI_pred, b5, if_pos hw, sg_b i (by omega), b1]
      exact c2 _ _ _ _ _ b4
  · have hv : (t 0 4 ||| 2 ^ i) < 2 ^ t 0 0 := Nat.or_lt_two_pow k1.2.2.2.2.2.1 hb
    refine ⟨if (nI (t 0 4) &&& nI (2 ^ i)) = 0 then 0 else 1, va_up σ 2 (upd (σ 2) 4 (nI (t 0 4 ||| 2 ^ i))), va_up (va_up σ 2 (upd (σ 2) 4 (nI (t 0 4 ||| 2 ^ i)))) 61 (upd (σ 61) 11 (nI (t 0 4 ||| 2 ^ i) - nI 0)), ?_, ?_, fin _ hv⟩
    · simp only [Option.bind_some]
      rw [if_neg (by decide), v1_4, eS]
      simp only [Option.bind_some, lt_]
      rw [nI_pred, sg_b i (by omega), if_neg hw]
      exact c1 _ hv _ b2
    · rw [isJ8, show va_up σ 2 (upd (σ 2) 4 (nI (t 0 4 ||| 2 ^ i))) 60 1 = nI (t 0 0) from eK, if_neg (show ¬ (nI (i + 1) < 1 ∨ nI (t 0 0) < nI (i + 1)) from hj)]
      simp only [Option.bind_some, lt_]
      rw [if_neg (by decide), show va_up σ 2 (upd (σ 2) 4 (nI (t 0 4 ||| 2 ^ i))) 61 11 = nI (t 0 4) from eR, nI_pred, b5, if_neg hw, sg_b i (by omega), b1]
      exact c2 _ _ _ _ _ b3
