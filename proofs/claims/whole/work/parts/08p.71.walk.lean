/-! the lines of a text *-/
theorem k4_hd {n : Nat} {b : Nat → Nat} {p : Nat} (h : kk_ n b p ≠ 4) : hd n b p < n := by
  by_cases z : hd n b p < n
  · exact z
  · exfalso
    have e1 : k0 n b p = 4 := by unfold k0; rw [if_neg z]
    have : kk_ n b p = 4 := by unfold kk_; rw [e1, if_neg (by omega)]
    exact h this
theorem k4_n {n : Nat} {b : Nat → Nat} {p : Nat} (hp : p ≤ n) (h : kk_ n b p = 4) : hd n b p = n := by
  have hh := hd_ge n b hp
  by_cases z : hd n b p < n
  · exfalso
    have := kd_le (b (hd n b p))
    have e1 : k0 n b p = kd (b (hd n b p)) := by unfold k0; rw [if_pos z]
    have : kk_ n b p ≤ 3 := by unfold kk_; rw [e1]; split <;> omega
    omega
  · omega
theorem walk {n : Nat} {b : Nat → Nat} (hn : n ≤ 160) : ∀ (d p i fc fr : Nat) (D : NN) (AT MT HJ T U : Nat), n - p < d → p ≤ n → i ≤ p → d ≤ fc → d ≤ fr → TD D → LK D AT MT HJ → TU D T U →
    (∃ f q, 1 ≤ f ∧ f < 10 ∧ q ≤ n ∧ (∀ σ, CSl n b p D T σ → ∃ σ' v, f_X7_text_9 fc σ (nI i) = f_X7_text_32 σ' v ∧ Sg σ σ' ∧ flt f q σ') ∧ (∀ σ, RSl n b p D AT MT HJ U σ → ∃ σ' v, f_X8_text_10 fr σ (nI i) = f_X8_text_34 σ' v ∧ Sg σ σ' ∧ BR f q σ')) ∨
    (∃ D' AT' MT' HJ' m, m ≤ n ∧ TD D' ∧ LK D' AT' MT' HJ' ∧ (∀ σ, CSl n b p D T σ → ∃ σ', f_X7_text_9 fc σ (nI i) = f_X7_text_32 σ' (nI m) ∧ Sg σ σ' ∧ TV 28 D' σ' ∧ σ' 39 3 = 0) ∧ (∀ σ, RSl n b p D AT MT HJ U σ → ∃ σ', f_X8_text_10 fr σ (nI i) = f_X8_text_34 σ' (nI m) ∧ Sg σ σ' ∧ RSb n b D' AT' MT' HJ' σ' ∧ σ' 60 25 = 0 ∧ σ' 60 28 = nI n)) := by
  intro d
  induction d with
  | zero => intro p i fc fr D AT MT HJ T U h; omega
  | succ d ih =>
    intro p i fc fr D AT MT HJ T U hd1 hp hi hfc hfr tD lk tu
    obtain ⟨fc, rfl⟩ : ∃ m, fc = m + 1 := ⟨fc - 1, by omega⟩
    obtain ⟨fr, rfl⟩ : ∃ m, fr = m + 1 := ⟨fr - 1, by omega⟩
    have hh := hd_ge n b hp
    have hb := kk_le n b p
    by_cases k4 : kk_ n b p = 4
    · refine .inr ⟨D, AT, MT, HJ, i, by omega, tD, lk, fun σ h => ?_, fun σ h => ?_⟩
      · by_cases z : 160 ≤ i
        · exact ⟨σ, by rw [f_X7_text_9, if_pos (show (160 : Int32) ≤ nI i from nI_le (a := 160) z (by omega))], Dw_refl 0 σ, h.1.2.2.2, h.1.2.2.1⟩
        · obtain ⟨s1, x1, x2, x3⟩ := (tt7 h.1.1 hp h.1.2.1).2 (by omega)
          have c1 := CSb_F7 x2 x3.2.1 h.1
          refine ⟨s1, ?_, Ff_sg (F7_Ff x2), c1.2.2.2, c1.2.2.1⟩
          have e : f_X2_readLine σ = some (0, s1) := by
            unfold f_X2_readLine
            rw [x1, bso, if_neg (show ¬ (1 : Int32) = 0 by decide), if_pos (show s1 37 3 = 4 from x3.2.2.1.trans (by rw [k4]; rfl))]
          rw [f_X7_text_9, if_neg (show ¬ (160 : Int32) ≤ nI i from nI_ge (b := 160) (by omega) (by omega)), e, bso, if_pos rfl]
      · obtain ⟨y1, y2, y3, y4, y5⟩ := h.2.1.2 (by omega)
        exact ⟨σ, by rw [f_X8_text_10, if_pos y1, if_pos (show σ 60 29 = 0 from y4.trans (by rw [k4]; rfl))], Dw_refl 0 σ, h.1, y1, y2.trans (by rw [k4_n hp k4])⟩
    · have hl := k4_hd k4
      have i160 : ¬ (160 : Int32) ≤ nI i := nI_ge (b := 160) (by omega) (by omega)
      by_cases k0 : kk_ n b p = 0
      · refine .inl ⟨1, hd n b p, by omega, by omega, hh.2, fun σ h => ?_, fun σ h => ?_⟩
        · obtain ⟨s1, x1, x2, x3⟩ := (tt7 h.1.1 hp h.1.2.1).1 k0
          have e : f_X2_readLine σ = some (0, s1) := by
            unfold f_X2_readLine
            rw [x1, bso, if_pos rfl]
          exact ⟨s1, _, by rw [f_X7_text_9, if_neg i160, e, bso, if_pos rfl], Ff_sg x2, x3⟩
        · have br := h.2.1.1 k0
          exact ⟨σ, _, by rw [f_X8_text_10, if_neg (show ¬ σ 60 25 = 0 from fun q => absurd (br.1.symm.trans q) (by decide))], Dw_refl 0 σ, br⟩
      · have n29 : ∀ σ : ZI, RSl n b p D AT MT HJ U σ → σ 60 25 = 0 ∧ ¬ σ 60 29 = 0 := by
          intro σ h
          obtain ⟨y1, y2, y3, y4, y5⟩ := h.2.1.2 k0
          refine ⟨y1, fun q => ?_⟩
          have := nI_inj (b := 0) (by unfold tk_; split <;> omega) (by omega) (y4.symm.trans q)
          unfold tk_ at this
          split at this <;> omega
        rcases line_ hp k0 k4 tD lk tu with ⟨f, q, f1, f2, f3, f4, f5⟩ | ⟨D', p', AT', MT', HJ', T', U', g1, g2, g3, g4, g5, g6, g7⟩
        · refine .inl ⟨f, q, f1, f2, f3, fun σ h => ?_, fun σ h => ?_⟩
          · obtain ⟨s1, x1, x2, x3⟩ := f4 σ h
            exact ⟨s1, _, by rw [f_X7_text_9, if_neg i160, x1, bso, if_pos rfl], x2, x3⟩
          · obtain ⟨s1, x1, x2, x3⟩ := f5 σ h
            obtain ⟨fr, rfl⟩ : ∃ m, fr = m + 1 := ⟨fr - 1, by omega⟩
            have nf0 : ¬ s1 60 25 = 0 := fun z => by
              have := nI_inj (b := 0) (by omega) (by omega) (x3.1.symm.trans z)
              omega
            exact ⟨s1, _, by rw [f_X8_text_10, if_pos (n29 σ h).1, if_neg (n29 σ h).2, x1, bso, f_X8_text_10, if_neg nf0], x2, x3⟩
        · have cs : ∀ σ, CSl n b p D T σ → ∃ s1, f_X7_text_9 (fc + 1) σ (nI i) = f_X7_text_9 fc s1 (nI (i + 1)) ∧ Sg σ s1 ∧ CSl n b p' D' T' s1 := by
            intro σ h
            obtain ⟨s1, x1, x2, x3⟩ := g6 σ h
            exact ⟨s1, by rw [f_X7_text_9, if_neg i160, x1, bso, if_neg (show ¬ (1 : Int32) = 0 by decide), nI_1], x2, x3⟩
          have rs : ∀ σ, RSl n b p D AT MT HJ U σ → ∃ s1, f_X8_text_10 (fr + 1) σ (nI i) = f_X8_text_10 fr s1 (nI (i + 1)) ∧ Sg σ s1 ∧ RSl n b p' D' AT' MT' HJ' U' s1 := by
            intro σ h
            obtain ⟨s1, x1, x2, x3⟩ := g7 σ h
            exact ⟨s1, by rw [f_X8_text_10, if_pos (n29 σ h).1, if_neg (n29 σ h).2, x1, bso, nI_1], x2, x3⟩
          rcases ih p' (i + 1) fc fr D' AT' MT' HJ' T' U' (by omega) g2 (by omega) (by omega) (by omega) g3 g4 g5 with ⟨f, q, f1, f2, f3, f4, f5⟩ | ⟨D2, AT2, MT2, HJ2, m, m1, m2, m3, m4, m5⟩
          · refine .inl ⟨f, q, f1, f2, f3, fun σ h => ?_, fun σ h => ?_⟩
            · obtain ⟨s1, x1, x2, x3⟩ := cs σ h
              obtain ⟨s2, v, y1, y2, y3⟩ := f4 s1 x3
              exact ⟨s2, v, x1.trans y1, Dw_tr x2 y2, y3⟩
            · obtain ⟨s1, x1, x2, x3⟩ := rs σ h
              obtain ⟨s2, v, y1, y2, y3⟩ := f5 s1 x3
              exact ⟨s2, v, x1.trans y1, Dw_tr x2 y2, y3⟩
          · refine .inr ⟨D2, AT2, MT2, HJ2, m, m1, m2, m3, fun σ h => ?_, fun σ h => ?_⟩
            · obtain ⟨s1, x1, x2, x3⟩ := cs σ h
              obtain ⟨s2, y1, y2, y3⟩ := m4 s1 x3
              exact ⟨s2, x1.trans y1, Dw_tr x2 y2, y3⟩
            · obtain ⟨s1, x1, x2, x3⟩ := rs σ h
              obtain ⟨s2, y1, y2, y3⟩ := m5 s1 x3
              exact ⟨s2, x1.trans y1, Dw_tr x2 y2, y3⟩
