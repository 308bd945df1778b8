/-! a text, whole *-/
theorem rs0 {n : Nat} {b : Nat → Nat} {σ : ZI} (h : Tp8 n b σ) (hK : InvK σ) : ∃ σ', ((f_X8_begins σ).bind fun q1 => f_X8_step q1) = some σ' ∧ Sg σ σ' ∧ RSl n b 0 D0 0 0 0 0 σ' := by
  obtain ⟨s1, h1⟩ : ∃ s, s = va_up σ 60 (upd (σ 60) 25 0) := ⟨_, rfl⟩
  obtain ⟨s2, h2⟩ : ∃ s, s = va_up s1 60 (upd (s1 60) 27 0) := ⟨_, rfl⟩
  obtain ⟨s3, h3⟩ : ∃ s, s = va_up s2 60 (upd (s2 60) 14 6) := ⟨_, rfl⟩
  obtain ⟨s4, h4⟩ : ∃ s, s = va_up s3 60 (upd (s3 60) 15 0) := ⟨_, rfl⟩
  obtain ⟨s5, h5⟩ : ∃ s, s = va_up s4 60 (upd (s4 60) 16 0) := ⟨_, rfl⟩
  obtain ⟨s6, h6⟩ : ∃ s, s = va_up s5 60 (upd (s5 60) 17 0) := ⟨_, rfl⟩
  obtain ⟨s7, h7⟩ : ∃ s, s = va_up s6 70 (upd (s6 70) 0 1) := ⟨_, rfl⟩
  obtain ⟨s8, h8⟩ : ∃ s, s = va_up s7 70 (upd (s7 70) 1 5) := ⟨_, rfl⟩
  obtain ⟨s9, h9⟩ : ∃ s, s = va_up s8 60 (upd (s8 60) 18 0) := ⟨_, rfl⟩
  obtain ⟨s10, h10⟩ : ∃ s, s = va_up s9 60 (upd (s9 60) 19 0) := ⟨_, rfl⟩
  obtain ⟨s11, h11⟩ : ∃ s, s = va_up s10 60 (upd (s10 60) 20 0) := ⟨_, rfl⟩
  obtain ⟨s12, h12⟩ : ∃ s, s = va_up s11 60 (upd (s11 60) 21 0) := ⟨_, rfl⟩
  obtain ⟨w, x1, x2, x3⟩ := bg67 18 0 3000 s12 (by omega) (by omega)
  have e0 : f_X8_begins σ = some w := by
    unfold f_X8_begins
    rw [ltq, ← h1, ltq, ← h2, ltq, ← h3, ltq, ← h4, ltq, ← h5, ltq, ← h6, ltq, ← h7, ltq, ← h8, ltq, ← h9, ltq, ← h10, ltq, ← h11, ltq, ← h12]
    exact x1
  have fo : ∀ c i, (c ≠ 60 ∧ c ≠ 70) ∨ (c = 60 ∧ i = 23) → s12 c i = σ c i := fun c i z => by
    rw [h12, up_ne _ (by omega), h11, up_ne _ (by omega), h10, up_ne _ (by omega), h9, up_ne _ (by omega), h8, up_ne _ (by omega), h7, up_ne _ (by omega), h6, up_ne _ (by omega), h5, up_ne _ (by omega), h4, up_ne _ (by omega), h3, up_ne _ (by omega), h2, up_ne _ (by omega), h1, up_ne _ (by omega)]
  have sg : Sg σ s12 := by
    rw [h12, h11, h10, h9, h8, h7, h6, h5, h4, h3, h2, h1]
    exact up_sg (up_sg (up_sg (up_sg (up_sg (up_sg (up_sg (up_sg (up_sg (up_sg (up_sg (up_sg (Dw_refl 0 σ) rfl) rfl) rfl) rfl) rfl) rfl) rfl) rfl) rfl) rfl) rfl) rfl
  have sgw : Sg σ w := Dw_tr sg fun c i o _ => x2 c i fun q => by subst q; exact o (own_6 i (by decide) (by decide))
  have v60 : s12 60 25 = 0 ∧ s12 60 27 = 0 ∧ s12 60 14 = 6 ∧ s12 60 15 = 0 ∧ s12 60 16 = 0 ∧ s12 60 17 = 0 ∧ s12 70 0 = 1 ∧ s12 70 1 = 5 ∧ s12 60 18 = 0 ∧ s12 60 19 = 0 ∧ s12 60 20 = 0 ∧ s12 60 21 = 0 := by
    rw [h12, h11, h10, h9, h8, h7, h6, h5, h4, h3, h2, h1]
    exact ⟨rfl, rfl, rfl, rfl, rfl, rfl, rfl, rfl, rfl, rfl, rfl, rfl⟩
  obtain ⟨v25, v27, v14, v15, v16, v17, u0, u1, v18, v19, v20, v21⟩ := v60
  have g6 : ∀ i, w 60 i = s12 60 i := fun i => x2 60 i (by decide)
  have p6 : ∀ k, k < 18 → w 66 k = 0 := fun k hk => (x3 k hk).1 (Nat.zero_le k)
  have tp : Tp8 n b w := ⟨h.1, (g6 23).trans ((fo 60 23 (by omega)).trans h.2.1), fun i hi => ⟨(h.2.2 i hi).1, (x2 _ _ (by decide)).trans ((fo _ _ (by omega)).trans (h.2.2 i hi).2)⟩⟩
  have r0 : RSb n b D0 0 0 0 w := by
    refine ⟨tp, ⟨fun i hi => (x2 _ _ (by decide)).trans ((fo _ _ (by omega)).trans (hK.1 i hi)), fun i hi => (x2 _ _ (by decide)).trans ((fo _ _ (by omega)).trans (hK.2 i hi))⟩, ⟨fun i hi => absurd hi (Nat.not_lt_zero i), fun i hi => absurd hi (Nat.not_lt_zero i), fun i hi => absurd hi (Nat.not_lt_zero i), (p6 11 (by omega)).trans rfl, (p6 12 (by omega)).trans rfl, (p6 13 (by omega)).trans rfl, (p6 14 (by omega)).trans rfl, (p6 15 (by omega)).trans rfl, (p6 16 (by omega)).trans rfl, (p6 17 (by omega)).trans rfl⟩, ⟨(g6 14).trans v14, (g6 15).trans v15, (g6 16).trans v16, (g6 17).trans v17, (x2 70 0 (by decide)).trans u0, (x2 70 1 (by decide)).trans u1⟩, ⟨fun i hi => absurd hi (Nat.not_lt_zero i), fun i hi => absurd hi (Nat.not_lt_zero i), fun i hi => absurd hi (Nat.not_lt_zero i)⟩, (g6 19).trans v19, (g6 20).trans v20, (g6 21).trans v21⟩
  obtain ⟨s, y1, y2, y3⟩ := step8 tp (Nat.zero_le n) ((g6 25).trans v25) ((g6 27).trans v27)
  exact ⟨s, by rw [e0, bso, y1], Dw_tr sgw (FrJ_sg (Fr8_J y2)), RSb_fr y2 r0, y3, (y2 60 18 (by omega)).trans ((g6 18).trans v18)⟩
theorem Inv_tx {t : NN} {σ σ' : ZI} (q : InvT t σ ∧ InvI t σ ∧ InvS t σ ∧ InvH σ ∧ InvK σ) (h : ∀ c i, own c i ≠ 0 → own c i ≠ 3 → own c i ≠ 6 → σ' c i = σ c i) (p : InvP σ') (f : InvF σ') : Inv σ' := by
  obtain ⟨q1, q2, q4, q5, q7⟩ := q
  have ag : ∀ k, k ≠ 0 → k ≠ 3 → k ≠ 6 → Ag k σ σ' := fun k a c d x i e => h x i (by rw [e]; exact a) (by rw [e]; exact c) (by rw [e]; exact d)
  exact ⟨t, InvT_fr (ag 1 (by decide) (by decide) (by decide)) q1, InvI_fr (SS_rfl t) (ag 2 (by decide) (by decide) (by decide)) q2, p, InvS_fr (SS_rfl t) (ag 4 (by decide) (by decide) (by decide)) q4, InvH_fr (ag 5 (by decide) (by decide) (by decide)) q5, f, InvK_fr (ag 7 (by decide) (by decide) (by decide)) q7⟩
theorem InvP_0 {σ : ZI} (h : σ 37 1 = 0) (h2 : σ 60 23 = 0) : InvP σ := ⟨0, fun _ => 0, by omega, h, h2, fun i hi => absurd hi (Nat.not_lt_zero i)⟩
/-- a text with a fault -/
theorem tx_f {t : NN} {σ σ1 σ2 σ3 σ4 σ5 σ6 : ZI} {f : Nat} (q : InvT t σ ∧ InvI t σ ∧ InvS t σ ∧ InvH σ ∧ InvK σ) (hF : InvF σ) (h1 : Sg σ σ1) (h2 : Sg σ1 σ2) (h3 : Fe σ2 σ3) (h4 : Sg σ3 σ4) (h5 : Sg σ4 σ5) (h6 : Fr_ σ5 σ6) (e1 : σ3 37 1 = 0) (e2 : σ3 0 6 = nI f) (e3 : σ6 60 23 = 0) (e4 : σ6 60 24 = nI f) : Inv σ6 := by
  have fr : ∀ c i, own c i ≠ 0 → ¬ (c = 60 ∧ (i = 23 ∨ i = 24)) → σ6 c i = σ3 c i := fun c i o z => (h6 c i o z).trans ((h5 c i o o).trans (h4 c i o o))
  have al : ∀ c i, own c i ≠ 0 → ¬ (c = 37 ∧ i = 1) → ¬ (c = 0 ∧ i = 6) → ¬ (c = 60 ∧ (i = 23 ∨ i = 24)) → σ6 c i = σ c i := fun c i o a b z => (fr c i o z).trans ((h3 c i o a b).trans ((h2 c i o o).trans (h1 c i o o)))
  refine Inv_tx q (fun c i o a d => al c i o (fun w => ?_) (fun w => ?_) (fun w => ?_)) (InvP_0 ((fr 37 1 (by decide) (by omega)).trans e1) e3) ⟨?_, ?_⟩
  · obtain ⟨rfl, rfl⟩ := w; exact a rfl
  · obtain ⟨rfl, rfl⟩ := w; exact d rfl
  · obtain ⟨rfl, rfl | rfl⟩ := w
    · exact a rfl
    · exact d rfl
  · rw [e4, fr 0 6 (by decide) (by omega), e2]
  · rw [al 60 46 (by decide) (by omega) (by omega) (by omega), al 0 12 (by decide) (by omega) (by omega) (by omega)]; exact hF.2
theorem u_text {σ : ZI} (h : Inv σ) : ∃ r σ1 σ2, f_X7_text σ = some (r, σ1) ∧ f_X8_text σ1 = some (r, σ2) ∧ Inv σ2 := by
  obtain ⟨t, iT, iI, ⟨n, b, n160, p2, p3, p4⟩, iS, iH, iF, iK⟩ := h
  have q : InvT t σ ∧ InvI t σ ∧ InvS t σ ∧ InvH σ ∧ InvK σ := ⟨iT, iI, iS, iH, iK⟩
  have tp7 : Tp7 n b σ := ⟨n160, p2, fun i hi => ⟨(p4 i hi).1, (p4 i hi).2.1⟩⟩
  have tp8 : Tp8 n b σ := ⟨n160, p3, fun i hi => ⟨(p4 i hi).1, (p4 i hi).2.2⟩⟩
  obtain ⟨s1, x1, x2, x3⟩ := cs0 tp7
  have cA : f_X7_text σ = f_X7_text_9 3000 s1 (nI 0) := by
    unfold f_X7_text
    rw [x1, bso]
    rfl
  have rA : ∀ s3 s4, ((f_X8_begins s3).bind fun q1 => f_X8_step q1) = some s4 → f_X8_text s3 = f_X8_text_10 3000 s4 (nI 0) := by
    intro s3 s4 e
    unfold f_X8_text
    cases hb : f_X8_begins s3 with
    | none => rw [hb] at e; exact absurd e (by simp)
    | some a =>
      rw [hb, bso] at e
      rw [bso, e, bso]
      rfl
  have tpk : ∀ s3 : ZI, (∀ c i, own c i ≠ 0 → own c i ≠ 1 → ¬ (c = 37 ∧ i = 1) → ¬ (c = 0 ∧ i = 6) → ¬ (c = 0 ∧ i = 3) → ¬ (c = 51 ∧ i = 2) → s3 c i = σ c i) → Tp8 n b s3 ∧ InvK s3 := fun s3 z => ⟨⟨n160, (z 60 23 (by decide) (by decide) (by omega) (by omega) (by omega) (by omega)).trans p3, fun i hi => ⟨(p4 i hi).1, (z 71 i (by show (3 : Nat) ≠ 0; decide) (by show (3 : Nat) ≠ 1; decide) (by omega) (by omega) (by omega) (by omega)).trans (p4 i hi).2.2⟩⟩, ⟨fun i hi => (z 72 i (by show (7 : Nat) ≠ 0; decide) (by show (7 : Nat) ≠ 1; decide) (by omega) (by omega) (by omega) (by omega)).trans (iK.1 i hi), fun i hi => (z 73 i (by show (7 : Nat) ≠ 0; decide) (by show (7 : Nat) ≠ 1; decide) (by omega) (by omega) (by omega) (by omega)).trans (iK.2 i hi)⟩⟩
  rcases walk n160 (n + 1) 0 0 3000 3000 D0 0 0 0 0 0 (by omega) (Nat.zero_le n) (Nat.le_refl 0) (by omega) (by omega) TD_0 LK_0 TU_0 with ⟨f, qq, f1, f2, f3, f4, f5⟩ | ⟨D, AT, MT, HJ, m, m1, tD, lk, m4, m5⟩
  · obtain ⟨s2, v, y1, y2, y3⟩ := f4 s1 x3
    obtain ⟨s3, z1, z2, z3, z4⟩ := ce_f (v := v) f1 f2 y3
    obtain ⟨tp, ik⟩ := tpk s3 fun c i o _ a d _ _ => (z4 c i o a d).trans ((y2 c i o o).trans (x2 c i o o))
    obtain ⟨s4, w1, w2, w3⟩ := rs0 tp ik
    obtain ⟨s5, v', g1, g2, g3⟩ := f5 s4 w3
    obtain ⟨s6, k1, k2, k3, k4⟩ := re_f (v := v') f1 f2 g3
    exact ⟨_, s3, s6, cA.trans (y1.trans z1), (rA s3 s4 w1).trans (g1.trans k1), tx_f q iF x2 y2 z4 w2 g2 k4 z2 z3 k2 k3⟩
  · obtain ⟨s2, y1, y2, y3, y4⟩ := m4 s1 x3
    have e37 : s2 37 1 = nI n := (y2 37 1 (by decide) (by decide)).trans ((x2 37 1 (by decide) (by decide)).trans p2)
    by_cases hJ : HJ ≤ D 0 0
    · obtain ⟨s3, z1, z2, z3, z4, z5, z6, z7⟩ := ce_ok (n := n) (b := b) (v := nI m) tD lk y3 y4 hJ
      obtain ⟨tp, ik⟩ := tpk s3 fun c i o o1 a d a2 d2 => (z7 c i o o1 a d a2 d2).trans ((y2 c i o o).trans (x2 c i o o))
      obtain ⟨s4, w1, w2, w3⟩ := rs0 tp ik
      obtain ⟨s5, g1, g2, g3, g4, g5⟩ := m5 s4 w3
      obtain ⟨s6, k1, k2, k3, k4, k5, k6, k7, k8, k9⟩ := re_ok (v := nI m) tD lk g3 g4 hJ
      refine ⟨_, s3, s6, cA.trans (y1.trans z1), (rA s3 s4 w1).trans (g1.trans k1), ?_⟩
      have fr : ∀ c i, own c i ≠ 0 → (own c i ≠ 1 ∨ c ≤ 9) → ¬ (c = 60 ∧ (i = 23 ∨ i = 24 ∨ i = 41)) → ¬ (c = 75 ∧ i ≤ 1) → s6 c i = s3 c i := fun c i o o1 a d => (k9 c i o o1 a d).trans ((g2 c i o o).trans (w2 c i o o))
      have al : ∀ c i, own c i ≠ 0 → own c i ≠ 1 → ¬ (c = 37 ∧ i = 1) → ¬ (c = 0 ∧ i = 6) → ¬ (c = 0 ∧ i = 3) → ¬ (c = 51 ∧ i = 2) → ¬ (c = 60 ∧ (i = 23 ∨ i = 24 ∨ i = 41)) → ¬ (c = 75 ∧ i ≤ 1) → s6 c i = σ c i := fun c i o o1 a d a2 d2 a3 d3 => (fr c i o (.inl o1) a3 d3).trans ((z7 c i o o1 a d a2 d2).trans ((y2 c i o o).trans (x2 c i o o)))
      have tv6 : TV 1 D s6 := TV_fr (fun r i r1 r2 => fr _ _ (by rw [own_1 i (by omega) (by omega)]; decide) (.inr (by omega)) (by omega) (by omega)) z6
      have ag : ∀ k, k = 5 ∨ k = 7 → Ag k σ s6 := by
        intro k hk c i e
        refine al c i (by omega) (by omega) ?_ ?_ ?_ ?_ ?_ ?_
        · rintro ⟨rfl, rfl⟩; have : (3 : Nat) = k := e; omega
        · rintro ⟨rfl, rfl⟩; have : (6 : Nat) = k := e; omega
        · rintro ⟨rfl, rfl⟩; have : (2 : Nat) = k := e; omega
        · rintro ⟨rfl, rfl⟩; have : (4 : Nat) = k := e; omega
        · rintro ⟨rfl, rfl | rfl | rfl⟩
          · have : (3 : Nat) = k := e; omega
          · have : (6 : Nat) = k := e; omega
          · have : (4 : Nat) = k := e; omega
        · rintro ⟨rfl, -⟩; have : (2 : Nat) = k := e; omega
      have e37 : s6 37 1 = 0 := (fr 37 1 (by decide) (.inl (by decide)) (by omega) (by omega)).trans z2
      have e06 : s6 0 6 = 0 := (fr 0 6 (by decide) (.inl (by decide)) (by omega) (by omega)).trans z3
      have e03 : s6 0 3 = 0 := (fr 0 3 (by decide) (.inl (by decide)) (by omega) (by omega)).trans z4
      have e51 : s6 51 2 = 0 := (fr 51 2 (by decide) (.inl (by decide)) (by omega) (by omega)).trans z5
      refine ⟨D, ⟨TK_ok tD lk hJ, tv6, k7, k8⟩, ⟨0, 0, by omega, by omega, e03, k5, k6, fun e => absurd e (by decide), fun e => absurd e (by decide)⟩, InvP_0 e37 k2, ⟨0, fun _ => 0, fun _ => 0, by omega, e51, k4, fun i hi => absurd hi (Nat.not_lt_zero i)⟩, InvH_fr (ag 5 (.inl rfl)) iH, ⟨k3.trans e06.symm, ?_⟩, InvK_fr (ag 7 (.inr rfl)) iK⟩
      rw [al 60 46 (by decide) (by decide) (by omega) (by omega) (by omega) (by omega) (by omega) (by omega), al 0 12 (by decide) (by decide) (by omega) (by omega) (by omega) (by omega) (by omega) (by omega)]
      exact iF.2
    · obtain ⟨s3, z1, z2, z3, z4⟩ := ce_m (n := n) (b := b) (v := nI m) tD lk y3 y4 e37 hJ
      obtain ⟨tp, ik⟩ := tpk s3 fun c i o _ a d _ _ => (z4 c i o a d).trans ((y2 c i o o).trans (x2 c i o o))
      obtain ⟨s4, w1, w2, w3⟩ := rs0 tp ik
      obtain ⟨s5, g1, g2, g3, g4, g5⟩ := m5 s4 w3
      obtain ⟨s6, k1, k2, k3, k4⟩ := re_m (v := nI m) lk.2.2.1 g4 g5 g3.2.2.2.2.2.2.2 g3.2.2.2.1.1 hJ
      exact ⟨_, s3, s6, cA.trans (y1.trans z1), (rA s3 s4 w1).trans (g1.trans k1), tx_f q iF x2 y2 z4 w2 g2 k4 z2 z3 k2 k3⟩
