/-! net, bridge, clear, hang, post -/
theorem TV_61 {t : NN} {σ : ZI} {f : Nat → Int32} (q : TV 1 t σ) : TV 1 t (va_up σ 61 f) := TV_fr (fun r i h1 h2 => by simp [va_up, show 1 + r ≠ 61 by omega]) q
theorem RS_61 {t : NN} {σ : ZI} {f : Nat → Int32} (q : RS t σ) : RS t (va_up σ 61 f) := RS_fr ⟨rfl, rfl, rfl, rfl⟩ (fun c i h1 h2 => by simp [va_up, show c ≠ 61 by omega]) q
theorem RS_now {t : NN} {σ : ZI} {f : Nat → Int32} {c : Nat} (hc : c ≤ 9) (q : RS t σ) : RS t (va_up σ c f) := RS_fr ⟨by simp [va_up, show 60 ≠ c by omega], by simp [va_up, show 60 ≠ c by omega], by simp [va_up, show 60 ≠ c by omega], by simp [va_up, show 60 ≠ c by omega]⟩ (fun x i h1 h2 => by simp [va_up, show x ≠ c by omega]) q
theorem RP_now {t : NN} {σ : ZI} {f : Nat → Int32} {c : Nat} (hc : c ≤ 9) (k : TK t) (q : RP 0 t σ) : RP 0 t (va_up σ c f) := RP_fr k (fun i _ => by simp [va_up, show 61 ≠ c by omega]) q
theorem u_net {σ : ZI} (I : Inv σ) (a w : Int32) : ∃ r σ1 σ2, f_X7_net σ a w = some (r, σ1) ∧ f_X8_net σ1 a w = some (r, σ2) ∧ Inv σ2 := by
  obtain ⟨t, iT, iR⟩ := id I
  obtain ⟨kk, tv, rp, rs⟩ := id iT
  have k1 := kk.1
  unfold f_X7_net f_X8_net
  rw [wi (x := 8) (lo := 1) (hi := 10) rfl rfl]
  by_cases ha : a < nI 1 ∨ nI 10 < a
  · exact ⟨-1, σ, σ, by rw [if_pos (show a < 1 ∨ 10 < a from ha)]; rfl, by rw [in_at 1 10 1 10 rfl rfl, if_pos (show a < 1 ∨ 10 < a from ha)]; rfl, I⟩
  obtain ⟨v, v1, v2, rfl⟩ := rng ha (by omega) (by omega)
  rw [if_neg (show ¬ (nI v < 1 ∨ 10 < nI v) from ha)]
  rw [wi (x := 9) (lo := 2) (hi := 11) rfl rfl]
  by_cases hw : w < nI 1 ∨ nI 11 < w
  · refine ⟨-1, σ, σ, ?_, by rw [in_at 1 10 1 10 rfl rfl, if_neg (show ¬ (nI v < 1 ∨ 10 < nI v) from ha), in_at 1 11 1 11 rfl rfl, if_pos (show w < 1 ∨ 11 < w from hw)]; rfl, I⟩
    have : w < 2 ∨ 11 < w := by
      rcases hw with h | h
      · left
        rw [Int32.lt_iff_toInt_lt] at h ⊢
        have e1 : (nI 1).toInt = 1 := rfl
        have e2 : (2 : Int32).toInt = 2 := rfl
        omega
      · exact .inr h
    rw [if_pos this]; rfl
  obtain ⟨u, u1, u2, rfl⟩ := rng hw (by omega) (by omega)
  by_cases huv : nI v < nI u
  · have huv2 : v < u := (nI_ltI (by omega) (by omega)).mp huv
    have hw2 : ¬ (nI u < 2 ∨ 11 < nI u) := rng' (lo := 2) (hi := 11) (by omega) u2 (by omega)
    rw [if_neg hw2]
    have r8 : ruP 8 15 2 := by unfold ruP; omega
    have r9 : ruP 9 16 4 := by unfold ruP; omega
    obtain ⟨s1, hs1⟩ : ∃ s1, s1 = va_up (va_up σ 2 (upd (σ 2) 8 (nI v))) 2 (upd (upd (σ 2) 8 (nI v)) 9 (nI u)) := ⟨_, rfl⟩
    obtain ⟨s2, hs2⟩ : ∃ s2, s2 = va_up (va_up s1 61 (upd (σ 61) 16 (nI u - nI 4))) 61 (upd (upd (σ 61) 16 (nI u - nI 4)) 15 (nI v - nI 2)) := ⟨_, rfl⟩
    refine ⟨σ 2 8, s1, s2, ?_, ?_, ?_⟩
    · rw [hs1]
      show ((if nI v < nI u then _ else _) : Option (Int32 × ZI)) = _
      rw [if_pos huv, v1_8]
      show ((f_X6_become σ 1 (nI 8) (nI v)).bind fun q4 => (f_X6_become q4 1 (nI 9) (nI u)).bind fun q5 => some (σ 2 8, q5)) = _
      rw [bec_n rfl rfl (by omega)]
      show ((f_X6_become (va_up σ 2 (upd (σ 2) 8 (nI v))) 1 (nI 9) (nI u)).bind fun q5 => some (σ 2 8, q5)) = _
      rw [bec_n rfl rfl (by omega)]
      rfl
    · rw [in_at 1 10 1 10 rfl rfl, if_neg (show ¬ (nI v < 1 ∨ 10 < nI v) from ha), in_at 1 11 1 11 rfl rfl, if_neg (show ¬ (nI u < 1 ∨ 11 < nI u) from hw)]
      show ((if nI v < nI u then _ else _) : Option (Int32 × ZI)) = _
      rw [if_pos huv]
      show ((f_X8_lays (va_up s1 61 (upd (s1 61) 16 (nI u - nI 4))) (if False then 0 else 1) (nI 15) (nI v) (nI 2)).bind fun q4 => some (q4.1, q4.2)) = _
      rw [lays_n (by omega), if_neg not_false]
      have e1 : s1 61 = σ 61 := by rw [hs1]; rfl
      rw [e1]
      have e2 : va_up s1 61 (upd (σ 61) 16 (nI u - nI 4)) 61 15 + nI 2 = σ 2 8 := by
        show σ 61 15 + nI 2 = σ 2 8
        rw [RP_get r8 rp, tv.1 8 (by omega)]
      rw [e2, hs2]
      rfl
    · have A : TK (tset (tset t 0 9 11) 0 8 v) := TK_rule r8 (TK_rule r9 kk (by refine ⟨?_, ?_, ?_, ?_, ?_, ?_, ?_⟩ <;> intro <;> omega)) (by
        have : tset t 0 9 11 0 9 = 11 := tset_same t 0 9 11
        refine ⟨?_, ?_, ?_, ?_, ?_, ?_, ?_⟩ <;> intro <;> omega)
      have B : TK (tset (tset t 0 8 v) 0 9 u) := by
        have e : tset (tset t 0 8 v) 0 9 u = tset (tset (tset t 0 9 11) 0 8 v) 0 9 u := by
          funext r i
          unfold tset
          by_cases hr : r = 0
          · subst hr
            by_cases hi : i = 9
            · simp [hi]
            · simp [hi]
          · simp [hr]
        rw [e]
        refine TK_rule r9 A ?_
        have : tset (tset t 0 9 11) 0 8 v 0 8 = v := tset_same _ 0 8 v
        refine ⟨?_, ?_, ?_, ?_, ?_, ?_, ?_⟩ <;> intro <;> omega
      refine Inv_now (u := tset (tset t 0 8 v) 0 9 u) iR (fun x i q r => ?_) ?_ ⟨B, ?_, ?_, ?_⟩
      · have h2 : x ≠ 2 := by rintro rfl; exact r rfl
        by_cases h61 : x = 61
        · subst h61
          have h15 : i ≠ 15 := by rintro rfl; exact r rfl
          have h16 : i ≠ 16 := by rintro rfl; exact r rfl
          rw [hs2]; simp [va_up, upd, h15, h16]
        · rw [hs2, hs1]; simp [va_up, h2, h61]
      · have e : ∀ k, k ≠ 8 → k ≠ 9 → tset (tset t 0 8 v) 0 9 u 0 k = t 0 k := fun k h1 h2 => by rw [tset_ne _ (.inr h2), tset_ne _ (.inr h1)]
        exact ⟨e 0 (by omega) (by omega), e 1 (by omega) (by omega), e 2 (by omega) (by omega), e 3 (by omega) (by omega), e 10 (by omega) (by omega), e 11 (by omega) (by omega), fun _ _ => ⟨rfl, rfl⟩, fun _ _ => rfl, fun _ _ => rfl⟩
      · rw [hs2, hs1]
        exact TV_61 (TV_61 (TV_rule (b := 1) (σ := va_up σ 2 (upd (σ 2) 8 (nI v))) (by omega) (TV_rule (b := 1) (by omega) tv)))
      · have z : RP 0 t s1 := by rw [hs1]; exact RP_now (by omega) kk (RP_now (by omega) kk rp)
        have e1 : s1 61 = σ 61 := by rw [hs1]; rfl
        have z1 : RP 0 (tset t 0 9 u) (va_up s1 61 (upd (σ 61) 16 (nI u - nI 4))) := by rw [← e1]; exact RP_rule r9 (TK_TB kk) z
        have e : tset (tset t 0 8 v) 0 9 u = tset (tset t 0 9 u) 0 8 v := by
          funext r i
          unfold tset
          by_cases hr : r = 0
          · subst hr
            by_cases hi : i = 9
            · simp [hi]
            · simp [hi]
          · simp [hr]
        rw [e, hs2]
        refine RP_rule (σ := va_up s1 61 (upd (σ 61) 16 (nI u - nI 4))) r8 (show TB (tset t 0 9 u) from (TK_TB kk : TB t)) z1
      · rw [hs2, hs1]
        exact RS_61 (RS_61 (RS_now (by omega) (RS_now (by omega) (RS_rule r9 (RS_rule r8 rs)))))
  · have key : ((if nI u < 2 ∨ 11 < nI u then (0 : Int32) else 1)) = 0 ∨ (if nI u < 2 ∨ 11 < nI u then (0 : Int32) else 1) = 1 := by
      by_cases h : nI u < 2 ∨ 11 < nI u
      · rw [if_pos h]; exact .inl rfl
      · rw [if_neg h]; exact .inr rfl
    refine ⟨-1, σ, σ, ?_, ?_, I⟩
    · rcases key with h | h
      · rw [h]; rfl
      · rw [h]
        show ((if nI v < nI u then _ else _) : Option (Int32 × ZI)) = _
        rw [if_neg huv]
    · rw [in_at 1 10 1 10 rfl rfl, if_neg (show ¬ (nI v < 1 ∨ 10 < nI v) from ha), in_at 1 11 1 11 rfl rfl, if_neg (show ¬ (nI u < 1 ∨ 11 < nI u) from hw)]
      show ((if nI v < nI u then _ else _) : Option (Int32 × ZI)) = _
      rw [if_neg huv]
