/-! bridge, signal, clear, hang, post -/
theorem u_rulet {σ : ZI} {t : NN} (iT : InvT t σ) (iR : InvI t σ ∧ InvP σ ∧ InvS t σ ∧ InvH σ ∧ InvF σ ∧ InvK σ) {k p e lo hi : Nat} {w : Int32} (hp : ruP k p e) (hh : hi < 2 ^ 30) (hl : lo < 2 ^ 31) (hv : ∀ v, lo ≤ v → v ≤ hi → TK (tset t 0 k v))
    {X : Option (Int32 × ZI)} {Y' : ZI → Option (Int32 × ZI)} (hX : X = if w < nI lo ∨ nI hi < w then some (-1, σ) else some (σ 2 k, va_up σ 2 (upd (σ 2) k w))) (hY : ∀ σ' : ZI, σ' 60 = σ 60 → Y' σ' = if w < nI lo ∨ nI hi < w then some (-1, σ') else some (σ' 61 p + nI e, va_up σ' 61 (upd (σ' 61) p (w - nI e)))) : ∃ r σ1 σ2, X = some (r, σ1) ∧ Y' σ1 = some (r, σ2) ∧ Inv σ2 := by
  by_cases h : w < nI lo ∨ nI hi < w
  · exact ⟨-1, σ, σ, by rw [hX, if_pos h], by rw [hY σ rfl, if_pos h], ⟨t, iT, iR⟩⟩
  · obtain ⟨v, v1, v2, rfl⟩ := rng h hh hl
    have hk13 : k < 13 ∧ p < 18 := by rcases hp with h | h | h | h | h | h | h <;> omega
    have e1 : σ 61 p + nI e = σ 2 k := by rw [RP_get hp iT.2.2.1, iT.2.1.1 k hk13.1]
    refine ⟨σ 2 k, _, va_up (va_up σ 2 (upd (σ 2) k (nI v))) 61 (upd (σ 61) p (nI v - nI e)), by rw [hX, if_neg h], ?_, Inv_now iR (D_rule hk13.2) (SS_rule hp) (T_rule hp iT (hv v v1 v2))⟩
    rw [hY (va_up σ 2 (upd (σ 2) k (nI v))) rfl, if_neg h]
    show some (σ 61 p + nI e, _) = _
    rw [e1]
    rfl
theorem u_bridge {σ : ZI} (I : Inv σ) (a : Int32) : ∃ r σ1 σ2, f_X7_bridge σ a = some (r, σ1) ∧ f_X8_bridge σ1 a = some (r, σ2) ∧ Inv σ2 := by
  obtain ⟨t, iT, iR⟩ := I
  have k1 := iT.1.1
  have eJ : σ 2 0 = nI (t 0 0) := iT.2.1.1 0 (by omega)
  have eK : σ 60 1 = nI (t 0 0) := iT.2.2.2.1
  have r5 : ruP 5 12 0 := by unfold ruP; omega
  have B : f_X7_bridge_14 a σ = some (σ 2 5, va_up σ 2 (upd (σ 2) 5 a)) := by
    unfold f_X7_bridge_14
    rw [v1_5]
    show ((f_X6_become σ 1 (nI 5) a).bind fun q2 => some (σ 2 5, q2)) = _
    rw [bec_n rfl rfl (by omega)]
    rfl
  refine u_rulet iT iR (lo := 0) (hi := t 0 0) (w := a) r5 (by omega) (by omega) (fun v h1 h2 => TK_rule r5 iT.1 (by refine ⟨?_, ?_, ?_, ?_, ?_, ?_, ?_⟩ <;> intro <;> omega)) ?_ (Y' := fun σ' => f_X8_bridge σ' a) (fun σ' h6 => ?_)
  · unfold f_X7_bridge
    by_cases h0 : a = 0
    · subst h0
      rw [if_pos rfl, if_neg, B]
      rintro (q | q)
      · exact absurd q (by decide)
      · exact nI_pos (by omega) q
    · rw [if_neg h0, isJ7, eJ]
      by_cases h : a < 1 ∨ nI (t 0 0) < a
      · have : a < nI 0 ∨ nI (t 0 0) < a := by
          rcases h with h | h
          · left
            have e1 : (1 : Int32).toInt = 1 := rfl
            have e0 : (nI 0).toInt = 0 := rfl
            have e2 : a.toInt ≠ 0 := fun q => h0 (Int32.toInt_inj.mp q)
            rw [Int32.lt_iff_toInt_lt] at h ⊢
            omega
          · exact .inr h
        rw [if_pos h, if_pos this]; rfl
      · have : ¬ (a < nI 0 ∨ nI (t 0 0) < a) := by
          rintro (q | q)
          · refine h (.inl ?_)
            have e1 : (1 : Int32).toInt = 1 := rfl
            have e0 : (nI 0).toInt = 0 := rfl
            rw [Int32.lt_iff_toInt_lt] at q ⊢
            omega
          · exact h (.inr q)
        rw [if_neg h, if_neg this]
        exact B
  · show f_X8_bridge σ' a = _
    unfold f_X8_bridge
    rw [in_at 0 _ 0 (σ' 60 1) rfl rfl, h6, eK]
    show ((f_X8_lays σ' (if a < 0 ∨ nI (t 0 0) < a then 0 else 1) (nI 12) a (nI 0)).bind fun q2 => some (q2.1, q2.2)) = _
    rw [lays_n (by omega)]
    by_cases h : a < 0 ∨ nI (t 0 0) < a
    · rw [if_pos h]; exact (if_pos h).symm
    · rw [if_neg h]; exact (if_neg h).symm
/-- one place of a row of arms, marks, towns: row 1 (kinds), 5 (clears), 6 (letters) -/
theorem T_row {t : NN} {σ : ZI} {r p i v : Nat} (hr : (r = 1 ∧ i < t 0 1 ∧ p = i ∧ v ≤ 4) ∨ (r = 5 ∧ i < t 0 2 ∧ p = 3 + i ∧ v ≤ 10) ∨ (r = 6 ∧ i < t 0 3 ∧ p = 6 + i ∧ v ≤ 99)) (q : InvT t σ) : InvT (tset t r i v) (va_up (va_up σ (r + 2) (upd (σ (r + 2)) i (nI v))) 61 (upd (σ 61) p (nI v))) ∧ SS t (tset t r i v) := by
  obtain ⟨⟨k1, k2, k3, k4, k5, k6⟩, ⟨t1, t2, t3, t4⟩, ⟨p1, p2, p3, p4, p5, p6, p7, p8, p9, p10⟩, ⟨s1, s2, s3, s4, s5, s6, s7, s8, s9⟩⟩ := q
  rcases hr with ⟨rfl, hi, rfl, hv⟩ | ⟨rfl, hi, rfl, hv⟩ | ⟨rfl, hi, rfl, hv⟩
  · refine ⟨⟨⟨k1, fun x hx => ?_, k3, k4, k5, k6⟩, ⟨t1, fun x hx => ?_, t3, t4⟩, ⟨fun x hx => ?_, fun x hx => ?_, fun x hx => ?_, ?_, ?_, ?_, ?_, ?_, ?_, ?_⟩, ⟨s1, s2, s3, s4, s5, s6, s7, s8, s9⟩⟩, ⟨rfl, rfl, rfl, rfl, rfl, rfl, fun _ _ => ⟨rfl, rfl⟩, fun _ _ => rfl, fun _ _ => rfl⟩⟩
    · show (if x = p then v else t 1 x) ≤ 4 ∧ _
      refine ⟨?_, (k2 x hx).2⟩
      have := (k2 x hx).1
      split <;> omega
    · refine ⟨?_, (t2 x hx).2⟩
      show upd (σ 3) p (nI v) x = nI (if x = p then v else t 1 x)
      by_cases h : x = p
      · simp [upd, h]
      · simp [upd, h, (t2 x hx).1]
    · show upd (σ 61) p (nI v) (0 + x) = nI (if x = p then v else t 1 x)
      have hx : x < t 0 1 := hx
      by_cases h : x = p
      · simp [upd, h]
      · have := p1 x hx
        simp only [Nat.zero_add] at this ⊢
        simp [upd, h, this]
    · have hx : x < t 0 2 := hx
      show upd (σ 61) p (nI v) (0 + (3 + x)) = nI (t 5 x)
      rw [← p2 x hx]
      simp [upd, show ¬ 3 + x = p by omega]
    · have hx : x < t 0 3 := hx
      show upd (σ 61) p (nI v) (0 + (6 + x)) = nI (t 6 x)
      rw [← p3 x hx]
      simp [upd, show ¬ 6 + x = p by omega]
    · exact (show upd (σ 61) p (nI v) (0 + 11) = σ 61 (0 + 11) by simp [upd, show ¬ 11 = p by omega]).trans p4
    · exact (show upd (σ 61) p (nI v) (0 + 12) = σ 61 (0 + 12) by simp [upd, show ¬ 12 = p by omega]).trans p5
    · exact (show upd (σ 61) p (nI v) (0 + 13) = σ 61 (0 + 13) by simp [upd, show ¬ 13 = p by omega]).trans p6
    · exact (show upd (σ 61) p (nI v) (0 + 14) = σ 61 (0 + 14) by simp [upd, show ¬ 14 = p by omega]).trans p7
    · exact (show upd (σ 61) p (nI v) (0 + 15) = σ 61 (0 + 15) by simp [upd, show ¬ 15 = p by omega]).trans p8
    · exact (show upd (σ 61) p (nI v) (0 + 16) = σ 61 (0 + 16) by simp [upd, show ¬ 16 = p by omega]).trans p9
    · exact (show upd (σ 61) p (nI v) (0 + 17) = σ 61 (0 + 17) by simp [upd, show ¬ 17 = p by omega]).trans p10
  · refine ⟨⟨⟨k1, k2, k3, fun x hx => ?_, k5, k6⟩, ⟨t1, t2, fun x hx => ?_, t4⟩, ⟨fun x hx => ?_, fun x hx => ?_, fun x hx => ?_, ?_, ?_, ?_, ?_, ?_, ?_, ?_⟩, ⟨s1, s2, s3, s4, s5, s6, s7, s8, s9⟩⟩, ⟨rfl, rfl, rfl, rfl, rfl, rfl, fun _ _ => ⟨rfl, rfl⟩, fun _ _ => rfl, fun _ _ => rfl⟩⟩
    · show _ ∧ _ ∧ (if x = i then v else t 5 x) ≤ 10
      refine ⟨(k4 x hx).1, (k4 x hx).2.1, ?_⟩
      have := (k4 x hx).2.2
      split <;> omega
    · refine ⟨(t3 x hx).1, ?_⟩
      show upd (σ 7) i (nI v) x = nI (if x = i then v else t 5 x)
      by_cases h : x = i
      · simp [upd, h]
      · simp [upd, h, (t3 x hx).2]
    · have hx : x < t 0 1 := hx
      show upd (σ 61) (3 + i) (nI v) (0 + x) = nI (t 1 x)
      rw [← p1 x hx]
      simp [upd, show ¬ x = 3 + i by omega]
    · have hx : x < t 0 2 := hx
      show upd (σ 61) (3 + i) (nI v) (0 + (3 + x)) = nI (if x = i then v else t 5 x)
      by_cases h : x = i
      · simp [upd, h]
      · have := p2 x hx
        simp only [Nat.zero_add] at this ⊢
        simp [upd, h, this]
    · have hx : x < t 0 3 := hx
      show upd (σ 61) (3 + i) (nI v) (0 + (6 + x)) = nI (t 6 x)
      rw [← p3 x hx]
      simp [upd, show ¬ 6 + x = 3 + i by omega]
    · exact (show upd (σ 61) (3 + i) (nI v) (0 + 11) = σ 61 (0 + 11) by simp [upd, show ¬ 11 = 3 + i by omega]).trans p4
    · exact (show upd (σ 61) (3 + i) (nI v) (0 + 12) = σ 61 (0 + 12) by simp [upd, show ¬ 12 = 3 + i by omega]).trans p5
    · exact (show upd (σ 61) (3 + i) (nI v) (0 + 13) = σ 61 (0 + 13) by simp [upd, show ¬ 13 = 3 + i by omega]).trans p6
    · exact (show upd (σ 61) (3 + i) (nI v) (0 + 14) = σ 61 (0 + 14) by simp [upd, show ¬ 14 = 3 + i by omega]).trans p7
    · exact (show upd (σ 61) (3 + i) (nI v) (0 + 15) = σ 61 (0 + 15) by simp [upd, show ¬ 15 = 3 + i by omega]).trans p8
    · exact (show upd (σ 61) (3 + i) (nI v) (0 + 16) = σ 61 (0 + 16) by simp [upd, show ¬ 16 = 3 + i by omega]).trans p9
    · exact (show upd (σ 61) (3 + i) (nI v) (0 + 17) = σ 61 (0 + 17) by simp [upd, show ¬ 17 = 3 + i by omega]).trans p10
  · refine ⟨⟨⟨k1, k2, k3, k4, k5, fun x hx => ?_⟩, ⟨t1, t2, t3, fun x hx => ?_⟩, ⟨fun x hx => ?_, fun x hx => ?_, fun x hx => ?_, ?_, ?_, ?_, ?_, ?_, ?_, ?_⟩, ⟨s1, s2, s3, s4, s5, s6, s7, s8, s9⟩⟩, ⟨rfl, rfl, rfl, rfl, rfl, rfl, fun _ _ => ⟨rfl, rfl⟩, fun _ _ => rfl, fun _ _ => rfl⟩⟩
    · show (if x = i then v else t 6 x) ≤ 99 ∧ _
      refine ⟨?_, (k6 x hx).2⟩
      have := (k6 x hx).1
      split <;> omega
    · refine ⟨?_, (t4 x hx).2⟩
      show upd (σ 8) i (nI v) x = nI (if x = i then v else t 6 x)
      by_cases h : x = i
      · simp [upd, h]
      · simp [upd, h, (t4 x hx).1]
    · have hx : x < t 0 1 := hx
      show upd (σ 61) (6 + i) (nI v) (0 + x) = nI (t 1 x)
      rw [← p1 x hx]
      simp [upd, show ¬ x = 6 + i by omega]
    · have hx : x < t 0 2 := hx
      show upd (σ 61) (6 + i) (nI v) (0 + (3 + x)) = nI (t 5 x)
      rw [← p2 x hx]
      simp [upd, show ¬ 3 + x = 6 + i by omega]
    · have hx : x < t 0 3 := hx
      show upd (σ 61) (6 + i) (nI v) (0 + (6 + x)) = nI (if x = i then v else t 6 x)
      by_cases h : x = i
      · simp [upd, h]
      · have := p3 x hx
        simp only [Nat.zero_add] at this ⊢
        simp [upd, h, this]
    · exact (show upd (σ 61) (6 + i) (nI v) (0 + 11) = σ 61 (0 + 11) by simp [upd, show ¬ 11 = 6 + i by omega]).trans p4
    · exact (show upd (σ 61) (6 + i) (nI v) (0 + 12) = σ 61 (0 + 12) by simp [upd, show ¬ 12 = 6 + i by omega]).trans p5
    · exact (show upd (σ 61) (6 + i) (nI v) (0 + 13) = σ 61 (0 + 13) by simp [upd, show ¬ 13 = 6 + i by omega]).trans p6
    · exact (show upd (σ 61) (6 + i) (nI v) (0 + 14) = σ 61 (0 + 14) by simp [upd, show ¬ 14 = 6 + i by omega]).trans p7
    · exact (show upd (σ 61) (6 + i) (nI v) (0 + 15) = σ 61 (0 + 15) by simp [upd, show ¬ 15 = 6 + i by omega]).trans p8
    · exact (show upd (σ 61) (6 + i) (nI v) (0 + 16) = σ 61 (0 + 16) by simp [upd, show ¬ 16 = 6 + i by omega]).trans p9
    · exact (show upd (σ 61) (6 + i) (nI v) (0 + 17) = σ 61 (0 + 17) by simp [upd, show ¬ 17 = 6 + i by omega]).trans p10
theorem D_row {σ : ZI} {r i p : Nat} {x y : Int32} (hr : 1 ≤ r ∧ r ≤ 7) (hp : p < 18) : Dw 1 σ (va_up (va_up σ (r + 2) (upd (σ (r + 2)) i x)) 61 (upd (σ 61) p y)) := by
  have e : upd (σ 61) p y = upd (va_up σ (r + 2) (upd (σ (r + 2)) i x) 61) p y := by
    rw [show va_up σ (r + 2) (upd (σ (r + 2)) i x) 61 = σ 61 by simp [va_up, show 61 ≠ r + 2 by omega]]
  rw [e]
  exact Dw_up (Dw_up (Dw_refl 1 σ) (.inr (own_1 i (by omega) (by omega)))) (.inr (own_p hp))
